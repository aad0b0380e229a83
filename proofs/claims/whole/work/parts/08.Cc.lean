/-! ChordGrammars.chordSet: reads only -/
def C_CG_chordSet (x0 : Int32) (x1 : Int32) : Option Int32 :=
  if x0 < 0 then
    some (0 : Int32)
  else
    if (12 : Int32) ≤ x0 then
      some (0 : Int32)
    else
      if x1 < 0 then
        some (0 : Int32)
      else
        if x1 < (9 : Int32) then
          gd x1 9 <|
          lt (((tKS x1.toNatClampNeg) <<< (x0 &&& 31))) fun x2_6 =>
          some ((x2_6 ||| ((x2_6.toUInt32 >>> ((12 : Int32).toUInt32 &&& Int32.toUInt32 31)).toInt32)) &&& (4095 : Int32))
        else
          some (0 : Int32)
abbrev rmC_CG_chordSet : Room := { frames := 0, cells := 0, slots := 0, locals := 0 }
set_option maxHeartbeats 4000000 in
set_option maxRecDepth 100000 in
theorem cC_CG_chordSet (l : Launch) (E : Ev) (sz : Nat) (σ0 : St) (x0 : Int32) (x1 : Int32) (r : Int32) (hm : C_CG_chordSet x0 x1 = some r) : Met l yX9_chordSet (wz yX9_chordSet cX9_chordSet 3 (some .int)) rmC_CG_chordSet (PwC E [.int x0, .int x1] σ0 sz) (QiC E σ0 σ0 sz r) 0 0 (va_A (wldC E σ0) sz) := by
  refine enC (own := RX9) (by decide) rfl (Nat.le_of_ble_eq_true rfl) (fun p e s m args below meth c cx hr hlk hml hsz ok hw ls hl => ?_)
  have hx := cx.1
  have hb := cx.2.1
  have hA9 := cx.2.2.2
  have hA : ∀ q, s.heap.size ≤ q → (va_A (wldC E σ0) sz) q := fun q h => Or.inr (by rw [← hsz]; exact h)
  have hl : lv_has ls 3 [(0, .int x0), (1, .int x1)] := hl
  unfold C_CG_chordSet at hm
  have goal0 : ∀ (H : Heap) (locs : List Loc), wsC E σ0 (va_A (wldC E σ0) sz) s H locs → W p l e rmC_CG_chordSet s m args below meth c H locs 0 0 (MQ below (QiC E σ0 σ0 sz r) args s 0 0 (va_A (wldC E σ0) sz)) (F0 m 0 ls []) := by
    intro H locs hw
    refine lv_iload_n hx hb dX9_chordSet_0 rfl (lv_at hl 0 rfl) ?_
    refine lv_if_lt (tgt := 20) hx hb dX9_chordSet_1 (by decide) (fun c1 => ?_) (fun c1 => ?_)
    · have hm := if_t c1 hm
      refine lv_iconst (v := (0 : Int32)) hx hb dX9_chordSet_20 (by decide) ?_
      exact rtC_i cx hr hlk hw (pr_some hm) dX9_chordSet_21
    · have hm := if_f c1 hm
      refine lv_iload_n hx hb dX9_chordSet_4 rfl (lv_at hl 0 rfl) ?_
      refine lv_bipush (v := (12 : Int32)) hx hb dX9_chordSet_5 (by decide) ?_
      refine lv_icmp_ge (tgt := 20) hx hb dX9_chordSet_7 (by decide) (fun c2 => ?_) (fun c2 => ?_)
      · have hm := if_t c2 hm
        refine lv_iconst (v := (0 : Int32)) hx hb dX9_chordSet_20 (by decide) ?_
        exact rtC_i cx hr hlk hw (pr_some hm) dX9_chordSet_21
      · have hm := if_f c2 hm
        refine lv_iload_n hx hb dX9_chordSet_10 rfl (lv_at hl 1 rfl) ?_
        refine lv_if_lt (tgt := 20) hx hb dX9_chordSet_11 (by decide) (fun c3 => ?_) (fun c3 => ?_)
        · have hm := if_t c3 hm
          refine lv_iconst (v := (0 : Int32)) hx hb dX9_chordSet_20 (by decide) ?_
          exact rtC_i cx hr hlk hw (pr_some hm) dX9_chordSet_21
        · have hm := if_f c3 hm
          refine lv_iload_n hx hb dX9_chordSet_14 rfl (lv_at hl 1 rfl) ?_
          refine lv_bipush (v := (9 : Int32)) hx hb dX9_chordSet_15 (by decide) ?_
          refine lv_icmp_lt (tgt := 22) hx hb dX9_chordSet_17 (by decide) (fun c4 => ?_) (fun c4 => ?_)
          · have hm := if_t c4 hm
            refine gsC_X9_KIND_SETS cx ok hw dX9_chordSet_22 ?_
            refine lv_iload_n hx hb dX9_chordSet_25 rfl (lv_at hl 1 rfl) ?_
            obtain ⟨g5, hm⟩ := gd_ok hm
            refine tlC_KIND_SETS cx ok hw g5 dX9_chordSet_26 ?_
            refine lv_iload_n hx hb dX9_chordSet_27 rfl (lv_at hl 0 rfl) ?_
            refine lv_ishl hx hb dX9_chordSet_28 ?_
            obtain ⟨x2_6, e7, hm⟩ := lt_ok hm
            refine ti_eq e7 ?_
            refine lv_istore_n (lv' := [(2, .int x2_6), (0, .int x0), (1, .int x1)]) hx hb dX9_chordSet_29 rfl hl (by decide) rfl (fun ls hl => ?_)
            refine lv_iload_n hx hb dX9_chordSet_30 rfl (lv_at hl 0 rfl) ?_
            refine lv_iload_n hx hb dX9_chordSet_31 rfl (lv_at hl 0 rfl) ?_
            refine lv_bipush (v := (12 : Int32)) hx hb dX9_chordSet_32 (by decide) ?_
            refine lv_iushr hx hb dX9_chordSet_34 rfl ?_
            refine lv_ior hx hb dX9_chordSet_35 ?_
            refine lv_sipush (v := (4095 : Int32)) hx hb dX9_chordSet_36 (by decide) ?_
            refine lv_iand hx hb dX9_chordSet_39 ?_
            exact rtC_i cx hr hlk hw (pr_some hm) dX9_chordSet_40
          · have hm := if_f c4 hm
            refine lv_iconst (v := (0 : Int32)) hx hb dX9_chordSet_20 (by decide) ?_
            exact rtC_i cx hr hlk hw (pr_some hm) dX9_chordSet_21
  exact goal0 _ _ hw
theorem cwC_X9_CG_chordSet {R : Room} {s : State} {args : Array Value} (h : ∀ w ∈ wA, w.before args s = true) (hR : rmC_CG_chordSet.frames + 1 ≤ R.frames ∧ 8 + (3 + 11) + rmC_CG_chordSet.locals ≤ R.locals) : CallB R s args RX9 178 yX9_chordSet cX9_chordSet 3 (some .int) (wz yX9_chordSet cX9_chordSet 3 (some .int)) rmC_CG_chordSet 0 0 2 ∧ (Cond.static yX9_chordSet).before args s = true := va_cwS 2 h (gdS k_691 k_502 k_1 k_503) rfl rfl rfl (by decide +kernel) hR
theorem cwC_X7_CG_chordSet {R : Room} {s : State} {args : Array Value} {E : Ev} {A : Nat → Prop} (h : ∀ w ∈ wA, w.before args s = true) (ok : okC E A s) (hR : rmC_CG_chordSet.frames + 1 ≤ R.frames ∧ 8 + (3 + 11) + rmC_CG_chordSet.locals ≤ R.locals) : va_CN R s args RX7 15 yX9_chordSet "ChordGrammars" cX9_chordSet 3 (some .int) (wz yX9_chordSet cX9_chordSet 3 (some .int)) rmC_CG_chordSet 0 0 2 ∧ (Cond.static yX9_chordSet).before args s = true ∧ True := ⟨va_cnB 2 h (gdC k_503) rfl rfl rfl (ok.2.1 _ kn_501) (h _ k_1) (by decide +kernel) hR, h _ k_502, trivial⟩
/-! ChordGrammars$Tariff.ofBass: reads only -/
def C_Tariff_ofBass (σ0 : St) (x1 : Int32) (x2 : Int32) (x3 : Int32) : Option Int32 :=
  if x1 = (-1 : Int32) then
    some (0 : Int32)
  else
    if x1 = x2 then
      some (0 : Int32)
    else
      if (((x3.toUInt32 >>> (x1.toUInt32 &&& Int32.toUInt32 31)).toInt32) &&& (1 : Int32)) = 0 then
        gd (3 : Int32) 4 <|
        some (σ0.1 32 (3 : Int32).toNatClampNeg)
      else
        gd (2 : Int32) 4 <|
        some (σ0.1 32 (2 : Int32).toNatClampNeg)
abbrev rmC_Tariff_ofBass : Room := { frames := 0, cells := 0, slots := 0, locals := 0 }
set_option maxHeartbeats 4000000 in
set_option maxRecDepth 100000 in
theorem cC_Tariff_ofBass (l : Launch) (E : Ev) (sz : Nat) (σ0 : St) (x1 : Int32) (x2 : Int32) (x3 : Int32) (r : Int32) (hm : C_Tariff_ofBass σ0 x1 x2 x3 = some r) : Met l yX7_ofBass (wz yX7_ofBass cX7_ofBass 4 (some .int)) rmC_Tariff_ofBass (PwC E [.ref (E.2.2 1002), .int x1, .int x2, .int x3] σ0 sz) (QiC E σ0 σ0 sz r) 0 0 (va_A (wldC E σ0) sz) := by
  refine enC (own := RX7) (by decide) rfl (Nat.le_of_ble_eq_true rfl) (fun p e s m args below meth c cx hr hlk hml hsz ok hw ls hl => ?_)
  have hx := cx.1
  have hb := cx.2.1
  have hA9 := cx.2.2.2
  have hA : ∀ q, s.heap.size ≤ q → (va_A (wldC E σ0) sz) q := fun q h => Or.inr (by rw [← hsz]; exact h)
  have hl : lv_has ls 4 [(0, .ref (E.2.2 1002)), (1, .int x1), (2, .int x2), (3, .int x3)] := hl
  unfold C_Tariff_ofBass at hm
  have goal0 : ∀ (H : Heap) (locs : List Loc), wsC E σ0 (va_A (wldC E σ0) sz) s H locs → W p l e rmC_Tariff_ofBass s m args below meth c H locs 0 0 (MQ below (QiC E σ0 σ0 sz r) args s 0 0 (va_A (wldC E σ0) sz)) (F0 m 0 ls []) := by
    intro H locs hw
    refine lv_iload_n hx hb dX7_ofBass_0 rfl (lv_at hl 1 rfl) ?_
    refine lv_iconst (v := (-1 : Int32)) hx hb dX7_ofBass_1 (by decide) ?_
    refine lv_icmp_eq (tgt := 10) hx hb dX7_ofBass_2 (by decide) (fun c1 => ?_) (fun c1 => ?_)
    · have hm := if_t c1 hm
      refine lv_iconst (v := (0 : Int32)) hx hb dX7_ofBass_10 (by decide) ?_
      exact rtC_i cx hr hlk hw (pr_some hm) dX7_ofBass_11
    · have hm := if_f c1 hm
      refine lv_iload_n hx hb dX7_ofBass_5 rfl (lv_at hl 1 rfl) ?_
      refine lv_iload_n hx hb dX7_ofBass_6 rfl (lv_at hl 2 rfl) ?_
      refine lv_icmp_ne (tgt := 12) hx hb dX7_ofBass_7 (by decide) (fun c2 => ?_) (fun c2 => ?_)
      · have hm := if_f c2 hm
        refine lv_iload_n hx hb dX7_ofBass_12 rfl (lv_at hl 3 rfl) ?_
        refine lv_iload_n hx hb dX7_ofBass_13 rfl (lv_at hl 1 rfl) ?_
        refine lv_iushr hx hb dX7_ofBass_14 rfl ?_
        refine lv_iconst (v := (1 : Int32)) hx hb dX7_ofBass_15 (by decide) ?_
        refine lv_iand hx hb dX7_ofBass_16 ?_
        refine lv_if_eq (tgt := 29) hx hb dX7_ofBass_17 (by decide) (fun c3 => ?_) (fun c3 => ?_)
        · have hm := if_t c3 hm
          refine lv_aload_n hx hb dX7_ofBass_29 rfl (lv_at hl 0 rfl) ?_
          refine gtC_X7_2_0 cx ok hw dX7_ofBass_30 ?_
          refine lv_iconst (v := (3 : Int32)) hx hb dX7_ofBass_33 (by decide) ?_
          obtain ⟨g4, hm⟩ := gd_ok hm
          refine ldC_32 cx ok hw g4 dX7_ofBass_34 ?_
          exact rtC_i cx hr hlk hw (pr_some hm) dX7_ofBass_35
        · have hm := if_f c3 hm
          refine lv_aload_n hx hb dX7_ofBass_20 rfl (lv_at hl 0 rfl) ?_
          refine gtC_X7_2_0 cx ok hw dX7_ofBass_21 ?_
          refine lv_iconst (v := (2 : Int32)) hx hb dX7_ofBass_24 (by decide) ?_
          obtain ⟨g5, hm⟩ := gd_ok hm
          refine ldC_32 cx ok hw g5 dX7_ofBass_25 ?_
          refine lv_goto (tgt := 35) hx hb dX7_ofBass_26 (by decide) ?_
          exact rtC_i cx hr hlk hw (pr_some hm) dX7_ofBass_35
      · have hm := if_t c2 hm
        refine lv_iconst (v := (0 : Int32)) hx hb dX7_ofBass_10 (by decide) ?_
        exact rtC_i cx hr hlk hw (pr_some hm) dX7_ofBass_11
  exact goal0 _ _ hw
theorem cwC_X7_Tariff_ofBass {R : Room} {s : State} {args : Array Value} (h : ∀ w ∈ wA, w.before args s = true) (hR : rmC_Tariff_ofBass.frames + 1 ≤ R.frames ∧ 8 + (4 + 11) + rmC_Tariff_ofBass.locals ≤ R.locals) : CallW R s args RX7 RX7 25 yX7_ofBass cX7_ofBass 4 (some .int) (wz yX7_ofBass cX7_ofBass 4 (some .int)) rmC_Tariff_ofBass 0 0 3 := cwV 3 h (gdV k_507 k_509 ks_19 k_3 k_510) rfl rfl rfl (by decide +kernel) hR
/-! ChordGrammars$Tariff.ofFit: reads only -/
def C_Tariff_ofFit (σ0 : St) (x1 : Int32) (x2 : Int32) (x3 : Int32) (x4 : Int32) : Option Int32 :=
  bp (C_CG_chordSet x3 x4) fun r2 =>
  bp (C_Integer_bitCount_0f7a4 (r2 &&& x1)) fun r4 =>
  if (2 : Int32) ≤ r4 then
    bp (C_Integer_bitCount_0f7a4 x1) fun r7 =>
    lt ((r7 - r4)) fun x7_8 =>
    bp (C_Integer_bitCount_0f7a4 r2) fun r11 =>
    lt ((r11 - r4)) fun x8_12 =>
    gd (0 : Int32) 4 <|
    gd (1 : Int32) 4 <|
    bp (C_Tariff_ofBass σ0 x2 x3 r2) fun r17 =>
    some (((x7_8 * (σ0.1 32 (0 : Int32).toNatClampNeg)) + (x8_12 * (σ0.1 32 (1 : Int32).toNatClampNeg))) + r17)
  else
    some (-1 : Int32)
abbrev rmC_Tariff_ofFit : Room := { frames := 1, cells := 0, slots := 0, locals := 23 }
set_option maxHeartbeats 4000000 in
set_option maxRecDepth 100000 in
theorem cC_Tariff_ofFit (l : Launch) (E : Ev) (sz : Nat) (σ0 : St) (x1 : Int32) (x2 : Int32) (x3 : Int32) (x4 : Int32) (r : Int32) (hm : C_Tariff_ofFit σ0 x1 x2 x3 x4 = some r) : Met l yX7_ofFit (wz yX7_ofFit cX7_ofFit 9 (some .int)) rmC_Tariff_ofFit (PwC E [.ref (E.2.2 1002), .int x1, .int x2, .int x3, .int x4] σ0 sz) (QiC E σ0 σ0 sz r) 0 0 (va_A (wldC E σ0) sz) := by
  refine enC (own := RX7) (by decide) rfl (Nat.le_of_ble_eq_true rfl) (fun p e s m args below meth c cx hr hlk hml hsz ok hw ls hl => ?_)
  have hx := cx.1
  have hb := cx.2.1
  have hA9 := cx.2.2.2
  have hA : ∀ q, s.heap.size ≤ q → (va_A (wldC E σ0) sz) q := fun q h => Or.inr (by rw [← hsz]; exact h)
  have hl : lv_has ls 9 [(0, .ref (E.2.2 1002)), (1, .int x1), (2, .int x2), (3, .int x3), (4, .int x4)] := hl
  unfold C_Tariff_ofFit at hm
  have goal0 : ∀ (H : Heap) (locs : List Loc), wsC E σ0 (va_A (wldC E σ0) sz) s H locs → W p l e rmC_Tariff_ofFit s m args below meth c H locs 0 0 (MQ below (QiC E σ0 σ0 sz r) args s 0 0 (va_A (wldC E σ0) sz)) (F0 m 0 ls []) := by
    intro H locs hw
    refine lv_iload_n hx hb dX7_ofFit_0 rfl (lv_at hl 3 rfl) ?_
    refine lv_iload hx hb dX7_ofFit_1 (lv_at hl 4 rfl) ?_
    obtain ⟨r2, h1, hm⟩ := bp_ok hm
    refine clSN_Ci (As := [.int x3, .int x4]) (rest := []) cx hml hl.1 ok hw hA (cC_CG_chordSet l E _ σ0 x3 x4 r2 h1) (cwC_X7_CG_chordSet hA9 ok ⟨Nat.le_of_ble_eq_true rfl, Nat.le_of_ble_eq_true rfl⟩) rfl rfl (Nat.le_of_ble_eq_true rfl) dX7_ofFit_3 (fun H locs hw => ?_)
    refine lv_istore (lv' := [(5, .int r2), (0, .ref (E.2.2 1002)), (1, .int x1), (2, .int x2), (3, .int x3), (4, .int x4)]) hx hb dX7_ofFit_6 hl (by decide) rfl (fun ls hl => ?_)
    refine lv_iload hx hb dX7_ofFit_8 (lv_at hl 0 rfl) ?_
    refine lv_iload_n hx hb dX7_ofFit_10 rfl (lv_at hl 2 rfl) ?_
    refine lv_iand hx hb dX7_ofFit_11 ?_
    obtain ⟨r4, h3, hm⟩ := bp_ok hm
    refine clS_Ci (As := [.int (r2 &&& x1)]) (rest := []) cx hml hl.1 ok hw hA (cC_Integer_bitCount_0f7a4 l E _ σ0 (r2 &&& x1) r4 h3) (cwC_X7_Integer_bitCount_0f7a4 hA9 ⟨Nat.le_of_ble_eq_true rfl, Nat.le_of_ble_eq_true rfl⟩) rfl rfl (Nat.le_of_ble_eq_true rfl) dX7_ofFit_12 (fun H locs hw => ?_)
    refine lv_istore (lv' := [(6, .int r4), (5, .int r2), (0, .ref (E.2.2 1002)), (1, .int x1), (2, .int x2), (3, .int x3), (4, .int x4)]) hx hb dX7_ofFit_15 hl (by decide) rfl (fun ls hl => ?_)
    refine lv_iload hx hb dX7_ofFit_17 (lv_at hl 0 rfl) ?_
    refine lv_iconst (v := (2 : Int32)) hx hb dX7_ofFit_19 (by decide) ?_
    refine lv_icmp_ge (tgt := 25) hx hb dX7_ofFit_20 (by decide) (fun c5 => ?_) (fun c5 => ?_)
    · have hm := if_t c5 hm
      refine lv_iload_n hx hb dX7_ofFit_25 rfl (lv_at hl 3 rfl) ?_
      obtain ⟨r7, h6, hm⟩ := bp_ok hm
      refine clS_Ci (As := [.int x1]) (rest := []) cx hml hl.1 ok hw hA (cC_Integer_bitCount_0f7a4 l E _ σ0 x1 r7 h6) (cwC_X7_Integer_bitCount_0f7a4 hA9 ⟨Nat.le_of_ble_eq_true rfl, Nat.le_of_ble_eq_true rfl⟩) rfl rfl (Nat.le_of_ble_eq_true rfl) dX7_ofFit_26 (fun H locs hw => ?_)
      refine lv_iload hx hb dX7_ofFit_29 (lv_at hl 0 rfl) ?_
      refine lv_isub hx hb dX7_ofFit_31 ?_
      obtain ⟨x7_8, e9, hm⟩ := lt_ok hm
      refine ti_eq e9 ?_
      refine lv_istore (lv' := [(7, .int x7_8), (6, .int r4), (5, .int r2), (0, .ref (E.2.2 1002)), (1, .int x1), (2, .int x2), (3, .int x3), (4, .int x4)]) hx hb dX7_ofFit_32 hl (by decide) rfl (fun ls hl => ?_)
      refine lv_iload hx hb dX7_ofFit_34 (lv_at hl 2 rfl) ?_
      obtain ⟨r11, h10, hm⟩ := bp_ok hm
      refine clS_Ci (As := [.int r2]) (rest := []) cx hml hl.1 ok hw hA (cC_Integer_bitCount_0f7a4 l E _ σ0 r2 r11 h10) (cwC_X7_Integer_bitCount_0f7a4 hA9 ⟨Nat.le_of_ble_eq_true rfl, Nat.le_of_ble_eq_true rfl⟩) rfl rfl (Nat.le_of_ble_eq_true rfl) dX7_ofFit_36 (fun H locs hw => ?_)
      refine lv_iload hx hb dX7_ofFit_39 (lv_at hl 1 rfl) ?_
      refine lv_isub hx hb dX7_ofFit_41 ?_
      obtain ⟨x8_12, e13, hm⟩ := lt_ok hm
      refine ti_eq e13 ?_
      refine lv_istore (lv' := [(8, .int x8_12), (7, .int x7_8), (6, .int r4), (5, .int r2), (0, .ref (E.2.2 1002)), (1, .int x1), (2, .int x2), (3, .int x3), (4, .int x4)]) hx hb dX7_ofFit_42 hl (by decide) rfl (fun ls hl => ?_)
      refine lv_iload hx hb dX7_ofFit_44 (lv_at hl 1 rfl) ?_
      refine lv_aload_n hx hb dX7_ofFit_46 rfl (lv_at hl 4 rfl) ?_
      refine gtC_X7_2_0 cx ok hw dX7_ofFit_47 ?_
      refine lv_iconst (v := (0 : Int32)) hx hb dX7_ofFit_50 (by decide) ?_
      obtain ⟨g14, hm⟩ := gd_ok hm
      refine ldC_32 cx ok hw g14 dX7_ofFit_51 ?_
      refine lv_imul hx hb dX7_ofFit_52 ?_
      refine lv_iload hx hb dX7_ofFit_53 (lv_at hl 0 rfl) ?_
      refine lv_aload_n hx hb dX7_ofFit_55 rfl (lv_at hl 4 rfl) ?_
      refine gtC_X7_2_0 cx ok hw dX7_ofFit_56 ?_
      refine lv_iconst (v := (1 : Int32)) hx hb dX7_ofFit_59 (by decide) ?_
      obtain ⟨g15, hm⟩ := gd_ok hm
      refine ldC_32 cx ok hw g15 dX7_ofFit_60 ?_
      refine lv_imul hx hb dX7_ofFit_61 ?_
      refine lv_iadd hx hb dX7_ofFit_62 ?_
      refine lv_aload_n hx hb dX7_ofFit_63 rfl (lv_at hl 4 rfl) ?_
      refine lv_iload_n hx hb dX7_ofFit_64 rfl (lv_at hl 6 rfl) ?_
      refine lv_iload_n hx hb dX7_ofFit_65 rfl (lv_at hl 7 rfl) ?_
      refine lv_iload hx hb dX7_ofFit_66 (lv_at hl 3 rfl) ?_
      obtain ⟨r17, h16, hm⟩ := bp_ok hm
      refine clV_Ci (As := [.int x2, .int x3, .int r2]) (rest := [.int ((x7_8 * (σ0.1 32 (0 : Int32).toNatClampNeg)) + (x8_12 * (σ0.1 32 (1 : Int32).toNatClampNeg)))]) cx hml hl.1 ok hw hA (rcC_2 ok hw) (cC_Tariff_ofBass l E _ σ0 x2 x3 r2 r17 h16) (cwC_X7_Tariff_ofBass hA9 ⟨Nat.le_of_ble_eq_true rfl, Nat.le_of_ble_eq_true rfl⟩) rfl rfl (Nat.le_of_ble_eq_true rfl) dX7_ofFit_68 (fun H locs hw => ?_)
      refine lv_iadd hx hb dX7_ofFit_71 ?_
      exact rtC_i cx hr hlk hw (pr_some hm) dX7_ofFit_72
    · have hm := if_f c5 hm
      refine lv_iconst (v := (-1 : Int32)) hx hb dX7_ofFit_23 (by decide) ?_
      exact rtC_i cx hr hlk hw (pr_some hm) dX7_ofFit_24
  exact goal0 _ _ hw
theorem cwC_X9_Tariff_ofFit {R : Room} {s : State} {args : Array Value} {E : Ev} {A : Nat → Prop} (h : ∀ w ∈ wA, w.before args s = true) (ok : okC E A s) (hR : rmC_Tariff_ofFit.frames + 1 ≤ R.frames ∧ 8 + (9 + 11) + rmC_Tariff_ofFit.locals ≤ R.locals) : va_CN R s args RX9 112 yX7_ofFit "ChordGrammars" cX7_ofFit 9 (some .int) (wz yX7_ofFit cX7_ofFit 9 (some .int)) rmC_Tariff_ofFit 0 0 4 ∧ (Cond.instanceMethod yX7_ofFit).before args s = true ∧ (Cond.selects RX7 yX7_ofFit yX7_ofFit).before args s = true := ⟨va_cnB 4 h (gdC k_500) rfl rfl rfl (ok.2.1 _ kn_497) (h _ k_3) (by decide +kernel) hR, h _ k_499, h _ ks_18⟩
theorem cwC_X6_Tariff_ofFit {R : Room} {s : State} {args : Array Value} {E : Ev} {A : Nat → Prop} (h : ∀ w ∈ wA, w.before args s = true) (ok : okC E A s) (hR : rmC_Tariff_ofFit.frames + 1 ≤ R.frames ∧ 8 + (9 + 11) + rmC_Tariff_ofFit.locals ≤ R.locals) : va_CN R s args RX6 40 yX7_ofFit "ChordGrammars" cX7_ofFit 9 (some .int) (wz yX7_ofFit cX7_ofFit 9 (some .int)) rmC_Tariff_ofFit 0 0 4 ∧ (Cond.instanceMethod yX7_ofFit).before args s = true ∧ (Cond.selects RX7 yX7_ofFit yX7_ofFit).before args s = true := ⟨va_cnB 4 h (gdC k_500) rfl rfl rfl (ok.2.1 _ kn_547) (h _ k_3) (by decide +kernel) hR, h _ k_499, h _ ks_18⟩
theorem cwC_X7_Tariff_ofFit {R : Room} {s : State} {args : Array Value} (h : ∀ w ∈ wA, w.before args s = true) (hR : rmC_Tariff_ofFit.frames + 1 ≤ R.frames ∧ 8 + (9 + 11) + rmC_Tariff_ofFit.locals ≤ R.locals) : CallW R s args RX7 RX7 30 yX7_ofFit cX7_ofFit 9 (some .int) (wz yX7_ofFit cX7_ofFit 9 (some .int)) rmC_Tariff_ofFit 0 0 4 := cwV 4 h (gdV k_520 k_499 ks_18 k_3 k_500) rfl rfl rfl (by decide +kernel) hR
/-! ChordGrammars.fit: reads only -/
def C_CG_fit (σ0 : St) (x1 : Int32) (x2 : Int32) (x3 : Int32) : Option Int32 :=
  bp (C_Slots_has σ0 x1) fun r2 =>
  if r2 = 0 then
    some (-1 : Int32)
  else
    gd x1 24 <|
    gd x1 24 <|
    bp (C_Tariff_ofFit σ0 (σ0.1 48 x1.toNatClampNeg) (σ0.1 49 x1.toNatClampNeg) x2 x3) fun r7 =>
    some r7
abbrev rmC_CG_fit : Room := { frames := 2, cells := 0, slots := 0, locals := 51 }
set_option maxHeartbeats 4000000 in
set_option maxRecDepth 100000 in
theorem cC_CG_fit (l : Launch) (E : Ev) (sz : Nat) (σ0 : St) (x1 : Int32) (x2 : Int32) (x3 : Int32) (r : Int32) (hm : C_CG_fit σ0 x1 x2 x3 = some r) : Met l yX9_fit (wz yX9_fit cX9_fit 4 (some .int)) rmC_CG_fit (PwC E [.ref (E.2.2 1000), .int x1, .int x2, .int x3] σ0 sz) (QiC E σ0 σ0 sz r) 0 0 (va_A (wldC E σ0) sz) := by
  refine enC (own := RX9) (by decide) rfl (Nat.le_of_ble_eq_true rfl) (fun p e s m args below meth c cx hr hlk hml hsz ok hw ls hl => ?_)
  have hx := cx.1
  have hb := cx.2.1
  have hA9 := cx.2.2.2
  have hA : ∀ q, s.heap.size ≤ q → (va_A (wldC E σ0) sz) q := fun q h => Or.inr (by rw [← hsz]; exact h)
  have hl : lv_has ls 4 [(0, .ref (E.2.2 1000)), (1, .int x1), (2, .int x2), (3, .int x3)] := hl
  unfold C_CG_fit at hm
  have goal0 : ∀ (H : Heap) (locs : List Loc), wsC E σ0 (va_A (wldC E σ0) sz) s H locs → W p l e rmC_CG_fit s m args below meth c H locs 0 0 (MQ below (QiC E σ0 σ0 sz r) args s 0 0 (va_A (wldC E σ0) sz)) (F0 m 0 ls []) := by
    intro H locs hw
    refine lv_aload_n hx hb dX9_fit_0 rfl (lv_at hl 0 rfl) ?_
    refine gtC_X9_0_2 cx ok hw dX9_fit_1 ?_
    refine lv_iload_n hx hb dX9_fit_4 rfl (lv_at hl 1 rfl) ?_
    obtain ⟨r2, h1, hm⟩ := bp_ok hm
    refine clVN_Ci (As := [.int x1]) (rest := []) cx hml hl.1 ok hw hA (rcC_3 ok hw) (cC_Slots_has l E _ σ0 x1 r2 h1) (cwC_X9_Slots_has hA9 ok ⟨Nat.le_of_ble_eq_true rfl, Nat.le_of_ble_eq_true rfl⟩) rfl rfl (Nat.le_of_ble_eq_true rfl) dX9_fit_5 (fun H locs hw => ?_)
    refine lv_if_eq (tgt := 41) hx hb dX9_fit_8 (by decide) (fun c3 => ?_) (fun c3 => ?_)
    · have hm := if_t c3 hm
      refine lv_iconst (v := (-1 : Int32)) hx hb dX9_fit_41 (by decide) ?_
      exact rtC_i cx hr hlk hw (pr_some hm) dX9_fit_42
    · have hm := if_f c3 hm
      refine lv_aload_n hx hb dX9_fit_11 rfl (lv_at hl 0 rfl) ?_
      refine gtC_X9_0_1 cx ok hw dX9_fit_12 ?_
      refine lv_aload_n hx hb dX9_fit_15 rfl (lv_at hl 0 rfl) ?_
      refine gtC_X9_0_2 cx ok hw dX9_fit_16 ?_
      refine gtC_X9_3_0 cx ok hw dX9_fit_19 ?_
      refine lv_iload_n hx hb dX9_fit_22 rfl (lv_at hl 1 rfl) ?_
      obtain ⟨g4, hm⟩ := gd_ok hm
      refine ldC_48 cx ok hw g4 dX9_fit_23 ?_
      refine lv_aload_n hx hb dX9_fit_24 rfl (lv_at hl 0 rfl) ?_
      refine gtC_X9_0_2 cx ok hw dX9_fit_25 ?_
      refine gtC_X9_3_1 cx ok hw dX9_fit_28 ?_
      refine lv_iload_n hx hb dX9_fit_31 rfl (lv_at hl 1 rfl) ?_
      obtain ⟨g5, hm⟩ := gd_ok hm
      refine ldC_49 cx ok hw g5 dX9_fit_32 ?_
      refine lv_iload_n hx hb dX9_fit_33 rfl (lv_at hl 2 rfl) ?_
      refine lv_iload_n hx hb dX9_fit_34 rfl (lv_at hl 3 rfl) ?_
      obtain ⟨r7, h6, hm⟩ := bp_ok hm
      refine clVN_Ci (As := [.int (σ0.1 48 x1.toNatClampNeg), .int (σ0.1 49 x1.toNatClampNeg), .int x2, .int x3]) (rest := []) cx hml hl.1 ok hw hA (rcC_2 ok hw) (cC_Tariff_ofFit l E _ σ0 (σ0.1 48 x1.toNatClampNeg) (σ0.1 49 x1.toNatClampNeg) x2 x3 r7 h6) (cwC_X9_Tariff_ofFit hA9 ok ⟨Nat.le_of_ble_eq_true rfl, Nat.le_of_ble_eq_true rfl⟩) rfl rfl (Nat.le_of_ble_eq_true rfl) dX9_fit_35 (fun H locs hw => ?_)
      refine lv_goto (tgt := 42) hx hb dX9_fit_38 (by decide) ?_
      exact rtC_i cx hr hlk hw (pr_some hm) dX9_fit_42
  exact goal0 _ _ hw
/-! ChordGrammars$Tariff.cheapest: reads only, loops -/
def C_Tariff_cheapest_l19 (n : Nat) (σ0 : St) (k9 : Int32 → Int32 → Int32 → Int32 → Int32 → Option Int32) : Nat → Int32 → Int32 → Int32 → Int32 → Int32 → Int32 → Option Int32
  | 0, _, _, _, _, _, _ => none
  | f + 1, x1, x2, x3, x4, x5, x6 =>
    if (12 : Int32) ≤ x6 then
      lt (x5 + (1 : Int32)) fun x5_2 =>
      k9 x1 x2 x3 x4 x5_2
    else
      bp (C_Tariff_ofFit σ0 x1 x2 x6 x5) fun r5 =>
      if r5 = (-1 : Int32) then
        lt (x6 + (1 : Int32)) fun x6_7 =>
        (C_Tariff_cheapest_l19 n σ0 k9 f) x1 x2 x3 x4 x5 x6_7
      else
        if x4 ≤ r5 then
          lt (x6 + (1 : Int32)) fun x6_10 =>
          (C_Tariff_cheapest_l19 n σ0 k9 f) x1 x2 x3 x4 x5 x6_10
        else
          lt ((((12 : Int32) * x5) + x6)) fun x3_12 =>
          lt (x6 + (1 : Int32)) fun x6_14 =>
          (C_Tariff_cheapest_l19 n σ0 k9 f) x1 x2 x3_12 r5 x5 x6_14
def C_Tariff_cheapest_l9 (n : Nat) (σ0 : St) : Nat → Int32 → Int32 → Int32 → Int32 → Int32 → Option Int32
  | 0, _, _, _, _, _ => none
  | f + 1, x1, x2, x3, x4, x5 =>
    if (9 : Int32) ≤ x5 then
      some x3
    else
      C_Tariff_cheapest_l19 n σ0 (C_Tariff_cheapest_l9 n σ0 f) n x1 x2 x3 x4 x5 (0 : Int32)
def C_Tariff_cheapest (n : Nat) (σ0 : St) (x1 : Int32) (x2 : Int32) : Option Int32 :=
  C_Tariff_cheapest_l9 n σ0 n x1 x2 (-1 : Int32) (2147483647 : Int32) (0 : Int32)
abbrev rmC_Tariff_cheapest : Room := { frames := 2, cells := 0, slots := 0, locals := 51 }
set_option maxHeartbeats 4000000 in
set_option maxRecDepth 100000 in
theorem cC_Tariff_cheapest (l : Launch) (E : Ev) (n : Nat) (sz : Nat) (σ0 : St) (x1 : Int32) (x2 : Int32) (r : Int32) (hm : C_Tariff_cheapest n σ0 x1 x2 = some r) : Met l yX7_cheapest (wz yX7_cheapest cX7_cheapest 8 (some .int)) rmC_Tariff_cheapest (PwC E [.ref (E.2.2 1002), .int x1, .int x2] σ0 sz) (QiC E σ0 σ0 sz r) 0 0 (va_A (wldC E σ0) sz) := by
  refine enC (own := RX7) (by decide) rfl (Nat.le_of_ble_eq_true rfl) (fun p e s m args below meth c cx hr hlk hml hsz ok hw ls hl => ?_)
  have hx := cx.1
  have hb := cx.2.1
  have hA9 := cx.2.2.2
  have hA : ∀ q, s.heap.size ≤ q → (va_A (wldC E σ0) sz) q := fun q h => Or.inr (by rw [← hsz]; exact h)
  have w_19 : ∀ (k9 : Int32 → Int32 → Int32 → Int32 → Int32 → Option Int32) (hk9 : ∀ (x1 : Int32) (x2 : Int32) (x3 : Int32) (x4 : Int32) (x5 : Int32) (H : Heap) (locs : List Loc) (ls : Array Slot), wsC E σ0 (va_A (wldC E σ0) sz) s H locs → lv_has ls 8 [(0, .ref (E.2.2 1002)), (1, .int x1), (2, .int x2), (3, .int x3), (4, .int x4), (5, .int x5)] → k9 x1 x2 x3 x4 x5 = some r → W p l e rmC_Tariff_cheapest s m args below meth c H locs 0 0 (MQ below (QiC E σ0 σ0 sz r) args s 0 0 (va_A (wldC E σ0) sz)) (F0 m 9 ls [])), ∀ (f : Nat), ∀ (x1 : Int32) (x2 : Int32) (x3 : Int32) (x4 : Int32) (x5 : Int32) (x6 : Int32) (H : Heap) (locs : List Loc) (ls : Array Slot), wsC E σ0 (va_A (wldC E σ0) sz) s H locs → lv_has ls 8 [(0, .ref (E.2.2 1002)), (1, .int x1), (2, .int x2), (3, .int x3), (4, .int x4), (5, .int x5), (6, .int x6)] → C_Tariff_cheapest_l19 n σ0 k9 f x1 x2 x3 x4 x5 x6 = some r → W p l e rmC_Tariff_cheapest s m args below meth c H locs 0 0 (MQ below (QiC E σ0 σ0 sz r) args s 0 0 (va_A (wldC E σ0) sz)) (F0 m 19 ls []) := by
    intro k9 hk9
    intro f
    induction f with
    | zero =>
      intro x1 x2 x3 x4 x5 x6 H locs ls hw hl hm
      rw [C_Tariff_cheapest_l19] at hm
      cases hm
    | succ f ih =>
      intro x1 x2 x3 x4 x5 x6 H locs ls hw hl hm
      rw [C_Tariff_cheapest_l19] at hm
      refine lv_iload hx hb dX7_cheapest_19 (lv_at hl 6 rfl) ?_
      refine lv_bipush (v := (12 : Int32)) hx hb dX7_cheapest_21 (by decide) ?_
      refine lv_icmp_ge (tgt := 70) hx hb dX7_cheapest_23 (by decide) (fun c1 => ?_) (fun c1 => ?_)
      · have hm := if_t c1 hm
        obtain ⟨x5_2, e3, hm⟩ := lt_ok hm
        refine lv_iinc (v := x5_2) (lv' := [(5, .int x5_2), (0, .ref (E.2.2 1002)), (1, .int x1), (2, .int x2), (3, .int x3), (4, .int x4), (6, .int x6)]) hx hb dX7_cheapest_70 hl (k := 5) rfl (by rw [e3]; rfl) (by decide) rfl (fun ls hl => ?_)
        refine lv_goto (tgt := 9) hx hb dX7_cheapest_73 (by decide) ?_
        exact hk9 x1 x2 x3 x4 x5_2 H locs ls hw (lv_sub hl [1, 2, 3, 4, 5, 0] rfl) hm
      · have hm := if_f c1 hm
        refine lv_aload_n hx hb dX7_cheapest_26 rfl (lv_at hl 0 rfl) ?_
        refine lv_iload_n hx hb dX7_cheapest_27 rfl (lv_at hl 1 rfl) ?_
        refine lv_iload_n hx hb dX7_cheapest_28 rfl (lv_at hl 2 rfl) ?_
        refine lv_iload hx hb dX7_cheapest_29 (lv_at hl 6 rfl) ?_
        refine lv_iload hx hb dX7_cheapest_31 (lv_at hl 5 rfl) ?_
        obtain ⟨r5, h4, hm⟩ := bp_ok hm
        refine clV_Ci (As := [.int x1, .int x2, .int x6, .int x5]) (rest := []) cx hml hl.1 ok hw hA (rcC_2 ok hw) (cC_Tariff_ofFit l E _ σ0 x1 x2 x6 x5 r5 h4) (cwC_X7_Tariff_ofFit hA9 ⟨Nat.le_of_ble_eq_true rfl, Nat.le_of_ble_eq_true rfl⟩) rfl rfl (Nat.le_of_ble_eq_true rfl) dX7_cheapest_33 (fun H locs hw => ?_)
        refine lv_istore (lv' := [(7, .int r5), (0, .ref (E.2.2 1002)), (1, .int x1), (2, .int x2), (3, .int x3), (4, .int x4), (5, .int x5), (6, .int x6)]) hx hb dX7_cheapest_36 hl (by decide) rfl (fun ls hl => ?_)
        refine lv_iload hx hb dX7_cheapest_38 (lv_at hl 0 rfl) ?_
        refine lv_iconst (v := (-1 : Int32)) hx hb dX7_cheapest_40 (by decide) ?_
        refine lv_icmp_eq (tgt := 64) hx hb dX7_cheapest_41 (by decide) (fun c6 => ?_) (fun c6 => ?_)
        · have hm := if_t c6 hm
          obtain ⟨x6_7, e8, hm⟩ := lt_ok hm
          refine lv_iinc (v := x6_7) (lv' := [(6, .int x6_7), (7, .int r5), (0, .ref (E.2.2 1002)), (1, .int x1), (2, .int x2), (3, .int x3), (4, .int x4), (5, .int x5)]) hx hb dX7_cheapest_64 hl (k := 7) rfl (by rw [e8]; rfl) (by decide) rfl (fun ls hl => ?_)
          refine lv_goto (tgt := 19) hx hb dX7_cheapest_67 (by decide) ?_
          exact ih x1 x2 x3 x4 x5 x6_7 H locs ls hw (lv_sub hl [2, 3, 4, 5, 6, 7, 0] rfl) hm
        · have hm := if_f c6 hm
          refine lv_iload hx hb dX7_cheapest_44 (lv_at hl 0 rfl) ?_
          refine lv_iload hx hb dX7_cheapest_46 (lv_at hl 5 rfl) ?_
          refine lv_icmp_ge (tgt := 64) hx hb dX7_cheapest_48 (by decide) (fun c9 => ?_) (fun c9 => ?_)
          · have hm := if_t c9 hm
            obtain ⟨x6_10, e11, hm⟩ := lt_ok hm
            refine lv_iinc (v := x6_10) (lv' := [(6, .int x6_10), (7, .int r5), (0, .ref (E.2.2 1002)), (1, .int x1), (2, .int x2), (3, .int x3), (4, .int x4), (5, .int x5)]) hx hb dX7_cheapest_64 hl (k := 7) rfl (by rw [e11]; rfl) (by decide) rfl (fun ls hl => ?_)
            refine lv_goto (tgt := 19) hx hb dX7_cheapest_67 (by decide) ?_
            exact ih x1 x2 x3 x4 x5 x6_10 H locs ls hw (lv_sub hl [2, 3, 4, 5, 6, 7, 0] rfl) hm
          · have hm := if_f c9 hm
            refine lv_iload hx hb dX7_cheapest_51 (lv_at hl 0 rfl) ?_
            refine lv_istore (lv' := [(4, .int r5), (7, .int r5), (0, .ref (E.2.2 1002)), (1, .int x1), (2, .int x2), (3, .int x3), (5, .int x5), (6, .int x6)]) hx hb dX7_cheapest_53 hl (by decide) rfl (fun ls hl => ?_)
            refine lv_bipush (v := (12 : Int32)) hx hb dX7_cheapest_55 (by decide) ?_
            refine lv_iload hx hb dX7_cheapest_57 (lv_at hl 6 rfl) ?_
            refine lv_imul hx hb dX7_cheapest_59 ?_
            refine lv_iload hx hb dX7_cheapest_60 (lv_at hl 7 rfl) ?_
            refine lv_iadd hx hb dX7_cheapest_62 ?_
            obtain ⟨x3_12, e13, hm⟩ := lt_ok hm
            refine ti_eq e13 ?_
            refine lv_istore_n (lv' := [(3, .int x3_12), (4, .int r5), (7, .int r5), (0, .ref (E.2.2 1002)), (1, .int x1), (2, .int x2), (5, .int x5), (6, .int x6)]) hx hb dX7_cheapest_63 rfl hl (by decide) rfl (fun ls hl => ?_)
            obtain ⟨x6_14, e15, hm⟩ := lt_ok hm
            refine lv_iinc (v := x6_14) (lv' := [(6, .int x6_14), (3, .int x3_12), (4, .int r5), (7, .int r5), (0, .ref (E.2.2 1002)), (1, .int x1), (2, .int x2), (5, .int x5)]) hx hb dX7_cheapest_64 hl (k := 7) rfl (by rw [e15]; rfl) (by decide) rfl (fun ls hl => ?_)
            refine lv_goto (tgt := 19) hx hb dX7_cheapest_67 (by decide) ?_
            exact ih x1 x2 x3_12 r5 x5 x6_14 H locs ls hw (lv_sub hl [4, 5, 6, 1, 2, 7, 0] rfl) hm
  have w_9 : ∀ (f : Nat), ∀ (x1 : Int32) (x2 : Int32) (x3 : Int32) (x4 : Int32) (x5 : Int32) (H : Heap) (locs : List Loc) (ls : Array Slot), wsC E σ0 (va_A (wldC E σ0) sz) s H locs → lv_has ls 8 [(0, .ref (E.2.2 1002)), (1, .int x1), (2, .int x2), (3, .int x3), (4, .int x4), (5, .int x5)] → C_Tariff_cheapest_l9 n σ0 f x1 x2 x3 x4 x5 = some r → W p l e rmC_Tariff_cheapest s m args below meth c H locs 0 0 (MQ below (QiC E σ0 σ0 sz r) args s 0 0 (va_A (wldC E σ0) sz)) (F0 m 9 ls []) := by
    intro f
    induction f with
    | zero =>
      intro x1 x2 x3 x4 x5 H locs ls hw hl hm
      rw [C_Tariff_cheapest_l9] at hm
      cases hm
    | succ f ih =>
      intro x1 x2 x3 x4 x5 H locs ls hw hl hm
      rw [C_Tariff_cheapest_l9] at hm
      refine lv_iload hx hb dX7_cheapest_9 (lv_at hl 5 rfl) ?_
      refine lv_bipush (v := (9 : Int32)) hx hb dX7_cheapest_11 (by decide) ?_
      refine lv_icmp_ge (tgt := 76) hx hb dX7_cheapest_13 (by decide) (fun c1 => ?_) (fun c1 => ?_)
      · have hm := if_t c1 hm
        refine lv_iload_n hx hb dX7_cheapest_76 rfl (lv_at hl 3 rfl) ?_
        exact rtC_i cx hr hlk hw (pr_some hm) dX7_cheapest_77
      · have hm := if_f c1 hm
        refine lv_iconst (v := (0 : Int32)) hx hb dX7_cheapest_16 (by decide) ?_
        refine lv_istore (lv' := [(6, .int (0 : Int32)), (0, .ref (E.2.2 1002)), (1, .int x1), (2, .int x2), (3, .int x3), (4, .int x4), (5, .int x5)]) hx hb dX7_cheapest_17 hl (by decide) rfl (fun ls hl => ?_)
        exact w_19 (C_Tariff_cheapest_l9 n σ0 f) ih n x1 x2 x3 x4 x5 (0 : Int32) H locs ls hw (lv_sub hl [1, 2, 3, 4, 5, 6, 0] rfl) hm
  have hl : lv_has ls 8 [(0, .ref (E.2.2 1002)), (1, .int x1), (2, .int x2)] := hl
  unfold C_Tariff_cheapest at hm
  have goal0 : ∀ (H : Heap) (locs : List Loc), wsC E σ0 (va_A (wldC E σ0) sz) s H locs → W p l e rmC_Tariff_cheapest s m args below meth c H locs 0 0 (MQ below (QiC E σ0 σ0 sz r) args s 0 0 (va_A (wldC E σ0) sz)) (F0 m 0 ls []) := by
    intro H locs hw
    refine lv_iconst (v := (-1 : Int32)) hx hb dX7_cheapest_0 (by decide) ?_
    refine lv_istore_n (lv' := [(3, .int (-1 : Int32)), (0, .ref (E.2.2 1002)), (1, .int x1), (2, .int x2)]) hx hb dX7_cheapest_1 rfl hl (by decide) rfl (fun ls hl => ?_)
    refine W.ldc (v := (2147483647 : Int32)) hx hb cx.2.2.1 (hA9 _ k_519) rfl dX7_cheapest_2 ?_
    refine W.eq (g2 := F0 m 4 ls [.int (2147483647 : Int32)]) rfl ?_
    refine lv_istore (lv' := [(4, .int (2147483647 : Int32)), (3, .int (-1 : Int32)), (0, .ref (E.2.2 1002)), (1, .int x1), (2, .int x2)]) hx hb dX7_cheapest_4 hl (by decide) rfl (fun ls hl => ?_)
    refine lv_iconst (v := (0 : Int32)) hx hb dX7_cheapest_6 (by decide) ?_
    refine lv_istore (lv' := [(5, .int (0 : Int32)), (4, .int (2147483647 : Int32)), (3, .int (-1 : Int32)), (0, .ref (E.2.2 1002)), (1, .int x1), (2, .int x2)]) hx hb dX7_cheapest_7 hl (by decide) rfl (fun ls hl => ?_)
    exact w_9 n x1 x2 (-1 : Int32) (2147483647 : Int32) (0 : Int32) H locs ls hw (lv_sub hl [3, 4, 5, 2, 1, 0] rfl) hm
  exact goal0 _ _ hw
theorem cwC_X9_Tariff_cheapest {R : Room} {s : State} {args : Array Value} {E : Ev} {A : Nat → Prop} (h : ∀ w ∈ wA, w.before args s = true) (ok : okC E A s) (hR : rmC_Tariff_cheapest.frames + 1 ≤ R.frames ∧ 8 + (8 + 11) + rmC_Tariff_cheapest.locals ≤ R.locals) : va_CN R s args RX9 116 yX7_cheapest "ChordGrammars" cX7_cheapest 8 (some .int) (wz yX7_cheapest cX7_cheapest 8 (some .int)) rmC_Tariff_cheapest 0 0 2 ∧ (Cond.instanceMethod yX7_cheapest).before args s = true ∧ (Cond.selects RX7 yX7_cheapest yX7_cheapest).before args s = true := ⟨va_cnB 2 h (gdC k_518) rfl rfl rfl (ok.2.1 _ kn_515) (h _ k_3) (by decide +kernel) hR, h _ k_517, h _ ks_20⟩
/-! ChordGrammars.best: reads only -/
def C_CG_best (n : Nat) (σ0 : St) (x1 : Int32) : Option Int32 :=
  bp (C_Slots_has σ0 x1) fun r2 =>
  if r2 = 0 then
    some (-1 : Int32)
  else
    gd x1 24 <|
    gd x1 24 <|
    bp (C_Tariff_cheapest n σ0 (σ0.1 48 x1.toNatClampNeg) (σ0.1 49 x1.toNatClampNeg)) fun r7 =>
    some r7
abbrev rmC_CG_best : Room := { frames := 3, cells := 0, slots := 0, locals := 78 }
set_option maxHeartbeats 4000000 in
set_option maxRecDepth 100000 in
theorem cC_CG_best (l : Launch) (E : Ev) (n : Nat) (sz : Nat) (σ0 : St) (x1 : Int32) (r : Int32) (hm : C_CG_best n σ0 x1 = some r) : Met l yX9_best (wz yX9_best cX9_best 2 (some .int)) rmC_CG_best (PwC E [.ref (E.2.2 1000), .int x1] σ0 sz) (QiC E σ0 σ0 sz r) 0 0 (va_A (wldC E σ0) sz) := by
  refine enC (own := RX9) (by decide) rfl (Nat.le_of_ble_eq_true rfl) (fun p e s m args below meth c cx hr hlk hml hsz ok hw ls hl => ?_)
  have hx := cx.1
  have hb := cx.2.1
  have hA9 := cx.2.2.2
  have hA : ∀ q, s.heap.size ≤ q → (va_A (wldC E σ0) sz) q := fun q h => Or.inr (by rw [← hsz]; exact h)
  have hl : lv_has ls 2 [(0, .ref (E.2.2 1000)), (1, .int x1)] := hl
  unfold C_CG_best at hm
  have goal0 : ∀ (H : Heap) (locs : List Loc), wsC E σ0 (va_A (wldC E σ0) sz) s H locs → W p l e rmC_CG_best s m args below meth c H locs 0 0 (MQ below (QiC E σ0 σ0 sz r) args s 0 0 (va_A (wldC E σ0) sz)) (F0 m 0 ls []) := by
    intro H locs hw
    refine lv_aload_n hx hb dX9_best_0 rfl (lv_at hl 0 rfl) ?_
    refine gtC_X9_0_2 cx ok hw dX9_best_1 ?_
    refine lv_iload_n hx hb dX9_best_4 rfl (lv_at hl 1 rfl) ?_
    obtain ⟨r2, h1, hm⟩ := bp_ok hm
    refine clVN_Ci (As := [.int x1]) (rest := []) cx hml hl.1 ok hw hA (rcC_3 ok hw) (cC_Slots_has l E _ σ0 x1 r2 h1) (cwC_X9_Slots_has hA9 ok ⟨Nat.le_of_ble_eq_true rfl, Nat.le_of_ble_eq_true rfl⟩) rfl rfl (Nat.le_of_ble_eq_true rfl) dX9_best_5 (fun H locs hw => ?_)
    refine lv_if_eq (tgt := 39) hx hb dX9_best_8 (by decide) (fun c3 => ?_) (fun c3 => ?_)
    · have hm := if_t c3 hm
      refine lv_iconst (v := (-1 : Int32)) hx hb dX9_best_39 (by decide) ?_
      exact rtC_i cx hr hlk hw (pr_some hm) dX9_best_40
    · have hm := if_f c3 hm
      refine lv_aload_n hx hb dX9_best_11 rfl (lv_at hl 0 rfl) ?_
      refine gtC_X9_0_1 cx ok hw dX9_best_12 ?_
      refine lv_aload_n hx hb dX9_best_15 rfl (lv_at hl 0 rfl) ?_
      refine gtC_X9_0_2 cx ok hw dX9_best_16 ?_
      refine gtC_X9_3_0 cx ok hw dX9_best_19 ?_
      refine lv_iload_n hx hb dX9_best_22 rfl (lv_at hl 1 rfl) ?_
      obtain ⟨g4, hm⟩ := gd_ok hm
      refine ldC_48 cx ok hw g4 dX9_best_23 ?_
      refine lv_aload_n hx hb dX9_best_24 rfl (lv_at hl 0 rfl) ?_
      refine gtC_X9_0_2 cx ok hw dX9_best_25 ?_
      refine gtC_X9_3_1 cx ok hw dX9_best_28 ?_
      refine lv_iload_n hx hb dX9_best_31 rfl (lv_at hl 1 rfl) ?_
      obtain ⟨g5, hm⟩ := gd_ok hm
      refine ldC_49 cx ok hw g5 dX9_best_32 ?_
      obtain ⟨r7, h6, hm⟩ := bp_ok hm
      refine clVN_Ci (As := [.int (σ0.1 48 x1.toNatClampNeg), .int (σ0.1 49 x1.toNatClampNeg)]) (rest := []) cx hml hl.1 ok hw hA (rcC_2 ok hw) (cC_Tariff_cheapest l E n _ σ0 (σ0.1 48 x1.toNatClampNeg) (σ0.1 49 x1.toNatClampNeg) r7 h6) (cwC_X9_Tariff_cheapest hA9 ok ⟨Nat.le_of_ble_eq_true rfl, Nat.le_of_ble_eq_true rfl⟩) rfl rfl (Nat.le_of_ble_eq_true rfl) dX9_best_33 (fun H locs hw => ?_)
      refine lv_goto (tgt := 40) hx hb dX9_best_36 (by decide) ?_
      exact rtC_i cx hr hlk hw (pr_some hm) dX9_best_40
  exact goal0 _ _ hw
/-! ChordGrammars$Grammar.become: writes -/
def C_Grammar_become_10 (σ0 : St) : Option St :=
  lt (sC σ0 160 (va_cpy (σ0.1 80) (σ0.1 160) 0 0 60)) fun σ1 =>
  lt (sC σ1 161 (va_cpy (σ1.1 81) (σ1.1 161) 0 0 60)) fun σ3 =>
  lt (sC σ3 162 (va_cpy (σ3.1 82) (σ3.1 162) 0 0 60)) fun σ5 =>
  lt (sC σ5 163 (va_cpy (σ5.1 83) (σ5.1 163) 0 0 60)) fun σ7 =>
  lt (sC σ7 164 (va_cpy (σ7.1 84) (σ7.1 164) 0 0 60)) fun σ9 =>
  lt (sI σ9 165 0 (σ9.1 85 0)) fun σ11 =>
  some σ11
abbrev rmC_Grammar_become_10 : Room := { frames := 1, cells := 0, slots := 0, locals := 60 }
set_option maxHeartbeats 4000000 in
set_option maxRecDepth 100000 in
theorem cC_Grammar_become_10 (l : Launch) (E : Ev) (sz : Nat) (σ0 σ' : St) (hm : C_Grammar_become_10 σ0 = some σ') : Met l yX2_become (wz yX2_become cX2_become 2 none) rmC_Grammar_become_10 (PwC E [.ref (E.2.2 1010), .ref (E.2.2 1005)] σ0 sz) (QvC E σ0 σ' sz) 0 0 (va_A (wldC E σ0) sz) := by
  refine enC (own := RX2) (by decide) rfl (Nat.le_of_ble_eq_true rfl) (fun p e s m args below meth c cx hr hlk hml hsz ok hw ls hl => ?_)
  have hx := cx.1
  have hb := cx.2.1
  have hA9 := cx.2.2.2
  have hA : ∀ q, s.heap.size ≤ q → (va_A (wldC E σ0) sz) q := fun q h => Or.inr (by rw [← hsz]; exact h)
  have hl : lv_has ls 2 [(0, .ref (E.2.2 1010)), (1, .ref (E.2.2 1005))] := hl
  unfold C_Grammar_become_10 at hm
  have goal0 : ∀ (H : Heap) (locs : List Loc), wsC E σ0 (va_A (wldC E σ0) sz) s H locs → W p l e rmC_Grammar_become_10 s m args below meth c H locs 0 0 (MQ below (QvC E σ0 σ' sz) args s 0 0 (va_A (wldC E σ0) sz)) (F0 m 0 ls []) := by
    intro H locs hw
    refine lv_aload_n hx hb dX2_become_0 rfl (lv_at hl 1 rfl) ?_
    refine gtC_X2_5_0 cx ok hw dX2_become_1 ?_
    refine lv_iconst (v := (0 : Int32)) hx hb dX2_become_4 (by decide) ?_
    refine lv_aload_n hx hb dX2_become_5 rfl (lv_at hl 0 rfl) ?_
    refine gtC_X2_10_0 cx ok hw dX2_become_6 ?_
    refine lv_iconst (v := (0 : Int32)) hx hb dX2_become_9 (by decide) ?_
    refine lv_bipush (v := (60 : Int32)) hx hb dX2_become_10 (by decide) ?_
    refine cpC_X2_80_160 cx (by rw [hml]; exact hl.1.symm) ok hw (Nat.le_of_ble_eq_true rfl) (rest := []) (by decide) dX2_become_12 (fun H locs hw => ?_)
    obtain ⟨σ1, e2, hm⟩ := lt_ok hm
    have hw := wsC_eq e2 hw
    refine lv_aload_n hx hb dX2_become_15 rfl (lv_at hl 1 rfl) ?_
    refine gtC_X2_5_1 cx ok hw dX2_become_16 ?_
    refine lv_iconst (v := (0 : Int32)) hx hb dX2_become_19 (by decide) ?_
    refine lv_aload_n hx hb dX2_become_20 rfl (lv_at hl 0 rfl) ?_
    refine gtC_X2_10_1 cx ok hw dX2_become_21 ?_
    refine lv_iconst (v := (0 : Int32)) hx hb dX2_become_24 (by decide) ?_
    refine lv_bipush (v := (60 : Int32)) hx hb dX2_become_25 (by decide) ?_
    refine cpC_X2_81_161 cx (by rw [hml]; exact hl.1.symm) ok hw (Nat.le_of_ble_eq_true rfl) (rest := []) (by decide) dX2_become_27 (fun H locs hw => ?_)
    obtain ⟨σ3, e4, hm⟩ := lt_ok hm
    have hw := wsC_eq e4 hw
    refine lv_aload_n hx hb dX2_become_30 rfl (lv_at hl 1 rfl) ?_
    refine gtC_X2_5_2 cx ok hw dX2_become_31 ?_
    refine lv_iconst (v := (0 : Int32)) hx hb dX2_become_34 (by decide) ?_
    refine lv_aload_n hx hb dX2_become_35 rfl (lv_at hl 0 rfl) ?_
    refine gtC_X2_10_2 cx ok hw dX2_become_36 ?_
    refine lv_iconst (v := (0 : Int32)) hx hb dX2_become_39 (by decide) ?_
    refine lv_bipush (v := (60 : Int32)) hx hb dX2_become_40 (by decide) ?_
    refine cpC_X2_82_162 cx (by rw [hml]; exact hl.1.symm) ok hw (Nat.le_of_ble_eq_true rfl) (rest := []) (by decide) dX2_become_42 (fun H locs hw => ?_)
    obtain ⟨σ5, e6, hm⟩ := lt_ok hm
    have hw := wsC_eq e6 hw
    refine lv_aload_n hx hb dX2_become_45 rfl (lv_at hl 1 rfl) ?_
    refine gtC_X2_5_3 cx ok hw dX2_become_46 ?_
    refine lv_iconst (v := (0 : Int32)) hx hb dX2_become_49 (by decide) ?_
    refine lv_aload_n hx hb dX2_become_50 rfl (lv_at hl 0 rfl) ?_
    refine gtC_X2_10_3 cx ok hw dX2_become_51 ?_
    refine lv_iconst (v := (0 : Int32)) hx hb dX2_become_54 (by decide) ?_
    refine lv_bipush (v := (60 : Int32)) hx hb dX2_become_55 (by decide) ?_
    refine cpC_X2_83_163 cx (by rw [hml]; exact hl.1.symm) ok hw (Nat.le_of_ble_eq_true rfl) (rest := []) (by decide) dX2_become_57 (fun H locs hw => ?_)
    obtain ⟨σ7, e8, hm⟩ := lt_ok hm
    have hw := wsC_eq e8 hw
    refine lv_aload_n hx hb dX2_become_60 rfl (lv_at hl 1 rfl) ?_
    refine gtC_X2_5_4 cx ok hw dX2_become_61 ?_
    refine lv_iconst (v := (0 : Int32)) hx hb dX2_become_64 (by decide) ?_
    refine lv_aload_n hx hb dX2_become_65 rfl (lv_at hl 0 rfl) ?_
    refine gtC_X2_10_4 cx ok hw dX2_become_66 ?_
    refine lv_iconst (v := (0 : Int32)) hx hb dX2_become_69 (by decide) ?_
    refine lv_bipush (v := (60 : Int32)) hx hb dX2_become_70 (by decide) ?_
    refine cpC_X2_84_164 cx (by rw [hml]; exact hl.1.symm) ok hw (Nat.le_of_ble_eq_true rfl) (rest := []) (by decide) dX2_become_72 (fun H locs hw => ?_)
    obtain ⟨σ9, e10, hm⟩ := lt_ok hm
    have hw := wsC_eq e10 hw
    refine lv_aload_n hx hb dX2_become_75 rfl (lv_at hl 0 rfl) ?_
    refine lv_aload_n hx hb dX2_become_76 rfl (lv_at hl 1 rfl) ?_
    refine gtC_X2_5_5 cx ok hw dX2_become_77 ?_
    refine ptC_X2_10_5 cx ok hw dX2_become_80 (fun H locs hw => ?_)
    obtain ⟨σ11, e12, hm⟩ := lt_ok hm
    have hw := wsC_eq e12 hw
    exact rtC_v cx hr hlk hw hm dX2_become_83
  exact goal0 _ _ hw
theorem cwC_X0_Grammar_become_10 {R : Room} {s : State} {args : Array Value} {E : Ev} {A : Nat → Prop} (h : ∀ w ∈ wA, w.before args s = true) (ok : okC E A s) (hR : rmC_Grammar_become_10.frames + 1 ≤ R.frames ∧ 8 + (2 + 11) + rmC_Grammar_become_10.locals ≤ R.locals) : va_CN R s args RX0 44 yX2_become "ChordGrammars" cX2_become 2 none (wz yX2_become cX2_become 2 none) rmC_Grammar_become_10 0 0 1 ∧ (Cond.instanceMethod yX2_become).before args s = true ∧ (Cond.selects RX2 yX2_become yX2_become).before args s = true := ⟨va_cnB 1 h (gdC k_473) rfl rfl rfl (ok.2.1 _ kn_529) (h _ k_6) (by decide +kernel) hR, h _ k_472, h _ ks_15⟩
/-! ChordGrammars$Key.rootOf: reads only -/
def C_Key_rootOf (σ0 : St) (x1 : Int32) : Option Int32 :=
  if x1 < 0 then
    some (-1 : Int32)
  else
    if x1 < (7 : Int32) then
      if (σ0.1 17 0) = 0 then
        gd x1 7 <|
        some (((σ0.1 16 0) + (tMaj x1.toNatClampNeg)) - ((σ0.1 16 0) + (tMaj x1.toNatClampNeg)) / (12 : Int32) * (12 : Int32))
      else
        gd x1 7 <|
        some (((σ0.1 16 0) + (tMin x1.toNatClampNeg)) - ((σ0.1 16 0) + (tMin x1.toNatClampNeg)) / (12 : Int32) * (12 : Int32))
    else
      some (-1 : Int32)
abbrev rmC_Key_rootOf : Room := { frames := 0, cells := 0, slots := 0, locals := 0 }
set_option maxHeartbeats 4000000 in
set_option maxRecDepth 100000 in
theorem cC_Key_rootOf (l : Launch) (E : Ev) (sz : Nat) (σ0 : St) (x1 : Int32) (r : Int32) (hm : C_Key_rootOf σ0 x1 = some r) : Met l yX3_rootOf (wz yX3_rootOf cX3_rootOf 2 (some .int)) rmC_Key_rootOf (PwC E [.ref (E.2.2 1001), .int x1] σ0 sz) (QiC E σ0 σ0 sz r) 0 0 (va_A (wldC E σ0) sz) := by
  refine enC (own := RX3) (by decide) rfl (Nat.le_of_ble_eq_true rfl) (fun p e s m args below meth c cx hr hlk hml hsz ok hw ls hl => ?_)
  have hx := cx.1
  have hb := cx.2.1
  have hA9 := cx.2.2.2
  have hA : ∀ q, s.heap.size ≤ q → (va_A (wldC E σ0) sz) q := fun q h => Or.inr (by rw [← hsz]; exact h)
  have hl : lv_has ls 2 [(0, .ref (E.2.2 1001)), (1, .int x1)] := hl
  unfold C_Key_rootOf at hm
  have goal0 : ∀ (H : Heap) (locs : List Loc), wsC E σ0 (va_A (wldC E σ0) sz) s H locs → W p l e rmC_Key_rootOf s m args below meth c H locs 0 0 (MQ below (QiC E σ0 σ0 sz r) args s 0 0 (va_A (wldC E σ0) sz)) (F0 m 0 ls []) := by
    intro H locs hw
    refine lv_iload_n hx hb dX3_rootOf_0 rfl (lv_at hl 1 rfl) ?_
    refine lv_if_lt (tgt := 10) hx hb dX3_rootOf_1 (by decide) (fun c1 => ?_) (fun c1 => ?_)
    · have hm := if_t c1 hm
      refine lv_iconst (v := (-1 : Int32)) hx hb dX3_rootOf_10 (by decide) ?_
      exact rtC_i cx hr hlk hw (pr_some hm) dX3_rootOf_11
    · have hm := if_f c1 hm
      refine lv_iload_n hx hb dX3_rootOf_4 rfl (lv_at hl 1 rfl) ?_
      refine lv_bipush (v := (7 : Int32)) hx hb dX3_rootOf_5 (by decide) ?_
      refine lv_icmp_lt (tgt := 12) hx hb dX3_rootOf_7 (by decide) (fun c2 => ?_) (fun c2 => ?_)
      · have hm := if_t c2 hm
        refine lv_aload_n hx hb dX3_rootOf_12 rfl (lv_at hl 0 rfl) ?_
        refine gtC_X3_1_0 cx ok hw dX3_rootOf_13 ?_
        refine lv_aload_n hx hb dX3_rootOf_16 rfl (lv_at hl 0 rfl) ?_
        refine gtC_X3_1_1 cx ok hw dX3_rootOf_17 ?_
        refine lv_if_eq (tgt := 31) hx hb dX3_rootOf_20 (by decide) (fun c3 => ?_) (fun c3 => ?_)
        · have hm := if_t c3 hm
          refine gsC_X3_MAJOR cx ok hw dX3_rootOf_31 ?_
          refine lv_iload_n hx hb dX3_rootOf_34 rfl (lv_at hl 1 rfl) ?_
          obtain ⟨g4, hm⟩ := gd_ok hm
          refine tlC_MAJOR cx ok hw g4 dX3_rootOf_35 ?_
          refine lv_iadd hx hb dX3_rootOf_36 ?_
          refine lv_bipush (v := (12 : Int32)) hx hb dX3_rootOf_37 (by decide) ?_
          refine lv_irem hx hb dX3_rootOf_39 (by decide) ?_
          exact rtC_i cx hr hlk hw (pr_some hm) dX3_rootOf_40
        · have hm := if_f c3 hm
          refine gsC_X3_MINOR cx ok hw dX3_rootOf_23 ?_
          refine lv_iload_n hx hb dX3_rootOf_26 rfl (lv_at hl 1 rfl) ?_
          obtain ⟨g5, hm⟩ := gd_ok hm
          refine tlC_MINOR cx ok hw g5 dX3_rootOf_27 ?_
          refine lv_goto (tgt := 36) hx hb dX3_rootOf_28 (by decide) ?_
          refine lv_iadd hx hb dX3_rootOf_36 ?_
          refine lv_bipush (v := (12 : Int32)) hx hb dX3_rootOf_37 (by decide) ?_
          refine lv_irem hx hb dX3_rootOf_39 (by decide) ?_
          exact rtC_i cx hr hlk hw (pr_some hm) dX3_rootOf_40
      · have hm := if_f c2 hm
        refine lv_iconst (v := (-1 : Int32)) hx hb dX3_rootOf_10 (by decide) ?_
        exact rtC_i cx hr hlk hw (pr_some hm) dX3_rootOf_11
  exact goal0 _ _ hw
theorem cwC_X6_Key_rootOf {R : Room} {s : State} {args : Array Value} {E : Ev} {A : Nat → Prop} (h : ∀ w ∈ wA, w.before args s = true) (ok : okC E A s) (hR : rmC_Key_rootOf.frames + 1 ≤ R.frames ∧ 8 + (2 + 11) + rmC_Key_rootOf.locals ≤ R.locals) : va_CN R s args RX6 24 yX3_rootOf "ChordGrammars" cX3_rootOf 2 (some .int) (wz yX3_rootOf cX3_rootOf 2 (some .int)) rmC_Key_rootOf 0 0 1 ∧ (Cond.instanceMethod yX3_rootOf).before args s = true ∧ (Cond.selects RX3 yX3_rootOf yX3_rootOf).before args s = true := ⟨va_cnB 1 h (gdC k_538) rfl rfl rfl (ok.2.1 _ kn_535) (h _ k_2) (by decide +kernel) hR, h _ k_537, h _ ks_23⟩
/-! ChordGrammars$Symbols.fillDegree: writes, loops -/
def C_Symbols_fillDegree_b85 (n : Nat) (k37 : St → Int32 → Int32 → Int32 → Int32 → Int32 → Option St) (σ : St) (x2 : Int32) (x4 : Int32) (x6 : Int32) (x7 : Int32) (x8 : Int32) (x9 : Int32) (s0 : Int32) : Option St :=
  gd (x6 + x8) 1680 <|
  lt (sI σ 176 (x6 + x8).toNatClampNeg s0) fun σ2 =>
  gd (x6 + x8) 1680 <|
  lt (sI σ2 177 (x6 + x8).toNatClampNeg x9) fun σ5 =>
  if s0 = (-1 : Int32) then
    lt (x8 + (1 : Int32)) fun x8_8 =>
    k37 σ5 x2 x4 x6 x7 x8_8
  else
    gd x7 1680 <|
    if (σ5.1 176 x7.toNatClampNeg) = (-1 : Int32) then
      gd x7 1680 <|
      lt (sI σ5 176 x7.toNatClampNeg s0) fun σ13 =>
      gd x7 1680 <|
      lt (sI σ13 177 x7.toNatClampNeg x9) fun σ16 =>
      lt (x8 + (1 : Int32)) fun x8_18 =>
      k37 σ16 x2 x4 x6 x7 x8_18
    else
      gd x7 1680 <|
      if (σ5.1 177 x7.toNatClampNeg) ≤ x9 then
        lt (x8 + (1 : Int32)) fun x8_22 =>
        k37 σ5 x2 x4 x6 x7 x8_22
      else
        gd x7 1680 <|
        lt (sI σ5 176 x7.toNatClampNeg s0) fun σ25 =>
        gd x7 1680 <|
        lt (sI σ25 177 x7.toNatClampNeg x9) fun σ28 =>
        lt (x8 + (1 : Int32)) fun x8_30 =>
        k37 σ28 x2 x4 x6 x7 x8_30
def C_Symbols_fillDegree_l37 (n : Nat) : Nat → St → Int32 → Int32 → Int32 → Int32 → Int32 → Option St
  | 0, _, _, _, _, _, _ => none
  | f + 1, σ, x2, x4, x6, x7, x8 =>
    if (9 : Int32) ≤ x8 then
      some σ
    else
      gd x2 24 <|
      gd x2 24 <|
      bp (C_Tariff_ofFit σ (σ.1 48 x2.toNatClampNeg) (σ.1 49 x2.toNatClampNeg) x4 x8) fun r5 =>
      if r5 = (-1 : Int32) then
        C_Symbols_fillDegree_b85 n (C_Symbols_fillDegree_l37 n f) σ x2 x4 x6 x7 x8 r5 (-1 : Int32)
      else
        C_Symbols_fillDegree_b85 n (C_Symbols_fillDegree_l37 n f) σ x2 x4 x6 x7 x8 r5 (((12 : Int32) * x8) + x4)
def C_Symbols_fillDegree (n : Nat) (σ0 : St) (x2 : Int32) (x3 : Int32) (x4 : Int32) : Option St :=
  lt (((x2 * (70 : Int32)) + (x3 * (10 : Int32)))) fun x6_1 =>
  lt ((x6_1 + (9 : Int32))) fun x7_3 =>
  gd x7_3 1680 <|
  lt (sI σ0 176 x7_3.toNatClampNeg (-1 : Int32)) fun σ6 =>
  gd x7_3 1680 <|
  lt (sI σ6 177 x7_3.toNatClampNeg (-1 : Int32)) fun σ9 =>
  C_Symbols_fillDegree_l37 n n σ9 x2 x4 x6_1 x7_3 (0 : Int32)
abbrev rmC_Symbols_fillDegree : Room := { frames := 2, cells := 0, slots := 0, locals := 51 }
set_option maxHeartbeats 4000000 in
set_option maxRecDepth 100000 in
theorem cC_Symbols_fillDegree (l : Launch) (E : Ev) (n : Nat) (sz : Nat) (σ0 σ' : St) (x2 : Int32) (x3 : Int32) (x4 : Int32) (hm : C_Symbols_fillDegree n σ0 x2 x3 x4 = some σ') : Met l yX6_fillDegree (wz yX6_fillDegree cX6_fillDegree 11 none) rmC_Symbols_fillDegree (PwC E [.ref (E.2.2 1011), .ref (E.2.2 1003), .int x2, .int x3, .int x4, .ref (E.2.2 1002)] σ0 sz) (QvC E σ0 σ' sz) 0 0 (va_A (wldC E σ0) sz) := by
  refine enC (own := RX6) (by decide) rfl (Nat.le_of_ble_eq_true rfl) (fun p e s m args below meth c cx hr hlk hml hsz ok hw ls hl => ?_)
  have hx := cx.1
  have hb := cx.2.1
  have hA9 := cx.2.2.2
  have hA : ∀ q, s.heap.size ≤ q → (va_A (wldC E σ0) sz) q := fun q h => Or.inr (by rw [← hsz]; exact h)
  have w_85 : ∀ (k37 : St → Int32 → Int32 → Int32 → Int32 → Int32 → Option St) (hk37 : ∀ (σ : St) (x2 : Int32) (x4 : Int32) (x6 : Int32) (x7 : Int32) (x8 : Int32) (H : Heap) (locs : List Loc) (ls : Array Slot), wsC E σ (va_A (wldC E σ0) sz) s H locs → lv_has ls 11 [(0, .ref (E.2.2 1011)), (1, .ref (E.2.2 1003)), (2, .int x2), (4, .int x4), (5, .ref (E.2.2 1002)), (6, .int x6), (7, .int x7), (8, .int x8)] → k37 σ x2 x4 x6 x7 x8 = some σ' → W p l e rmC_Symbols_fillDegree s m args below meth c H locs 0 0 (MQ below (QvC E σ0 σ' sz) args s 0 0 (va_A (wldC E σ0) sz)) (F0 m 37 ls [])), ∀ (σ : St) (x2 : Int32) (x4 : Int32) (x6 : Int32) (x7 : Int32) (x8 : Int32) (x9 : Int32) (s0 : Int32) (H : Heap) (locs : List Loc) (ls : Array Slot), wsC E σ (va_A (wldC E σ0) sz) s H locs → lv_has ls 11 [(0, .ref (E.2.2 1011)), (1, .ref (E.2.2 1003)), (2, .int x2), (4, .int x4), (5, .ref (E.2.2 1002)), (6, .int x6), (7, .int x7), (8, .int x8), (9, .int x9)] → C_Symbols_fillDegree_b85 n k37 σ x2 x4 x6 x7 x8 x9 s0 = some σ' → W p l e rmC_Symbols_fillDegree s m args below meth c H locs 0 0 (MQ below (QvC E σ0 σ' sz) args s 0 0 (va_A (wldC E σ0) sz)) (F0 m 85 ls [.int s0]) := by
    intro k37 hk37 σ x2 x4 x6 x7 x8 x9 s0 H locs ls hw hl hm
    unfold C_Symbols_fillDegree_b85 at hm
    refine lv_istore (lv' := [(10, .int s0), (0, .ref (E.2.2 1011)), (1, .ref (E.2.2 1003)), (2, .int x2), (4, .int x4), (5, .ref (E.2.2 1002)), (6, .int x6), (7, .int x7), (8, .int x8), (9, .int x9)]) hx hb dX6_fillDegree_85 hl (by decide) rfl (fun ls hl => ?_)
    refine lv_aload_n hx hb dX6_fillDegree_87 rfl (lv_at hl 1 rfl) ?_
    refine gtC_X6_11_0 cx ok hw dX6_fillDegree_88 ?_
    refine lv_iload hx hb dX6_fillDegree_91 (lv_at hl 6 rfl) ?_
    refine lv_iload hx hb dX6_fillDegree_93 (lv_at hl 8 rfl) ?_
    refine lv_iadd hx hb dX6_fillDegree_95 ?_
    refine lv_iload hx hb dX6_fillDegree_96 (lv_at hl 0 rfl) ?_
    obtain ⟨g1, hm⟩ := gd_ok hm
    refine stC_176 cx ok hw g1 dX6_fillDegree_98 (fun H locs hw => ?_)
    obtain ⟨σ2, e3, hm⟩ := lt_ok hm
    have hw := wsC_eq e3 hw
    refine lv_aload_n hx hb dX6_fillDegree_99 rfl (lv_at hl 1 rfl) ?_
    refine gtC_X6_11_1 cx ok hw dX6_fillDegree_100 ?_
    refine lv_iload hx hb dX6_fillDegree_103 (lv_at hl 6 rfl) ?_
    refine lv_iload hx hb dX6_fillDegree_105 (lv_at hl 8 rfl) ?_
    refine lv_iadd hx hb dX6_fillDegree_107 ?_
    refine lv_iload hx hb dX6_fillDegree_108 (lv_at hl 9 rfl) ?_
    obtain ⟨g4, hm⟩ := gd_ok hm
    refine stC_177 cx ok hw g4 dX6_fillDegree_110 (fun H locs hw => ?_)
    obtain ⟨σ5, e6, hm⟩ := lt_ok hm
    have hw := wsC_eq e6 hw
    refine lv_iload hx hb dX6_fillDegree_111 (lv_at hl 0 rfl) ?_
    refine lv_iconst (v := (-1 : Int32)) hx hb dX6_fillDegree_113 (by decide) ?_
    refine lv_icmp_eq (tgt := 158) hx hb dX6_fillDegree_114 (by decide) (fun c7 => ?_) (fun c7 => ?_)
    · have hm := if_t c7 hm
      obtain ⟨x8_8, e9, hm⟩ := lt_ok hm
      refine lv_iinc (v := x8_8) (lv' := [(8, .int x8_8), (10, .int s0), (0, .ref (E.2.2 1011)), (1, .ref (E.2.2 1003)), (2, .int x2), (4, .int x4), (5, .ref (E.2.2 1002)), (6, .int x6), (7, .int x7), (9, .int x9)]) hx hb dX6_fillDegree_158 hl (k := 8) rfl (by rw [e9]; rfl) (by decide) rfl (fun ls hl => ?_)
      refine lv_goto (tgt := 37) hx hb dX6_fillDegree_161 (by decide) ?_
      exact hk37 σ5 x2 x4 x6 x7 x8_8 H locs ls hw (lv_sub hl [2, 3, 4, 5, 6, 7, 8, 0] rfl) hm
    · have hm := if_f c7 hm
      refine lv_aload_n hx hb dX6_fillDegree_117 rfl (lv_at hl 1 rfl) ?_
      refine gtC_X6_11_0 cx ok hw dX6_fillDegree_118 ?_
      refine lv_iload hx hb dX6_fillDegree_121 (lv_at hl 7 rfl) ?_
      obtain ⟨g10, hm⟩ := gd_ok hm
      refine ldC_176 cx ok hw g10 dX6_fillDegree_123 ?_
      refine lv_iconst (v := (-1 : Int32)) hx hb dX6_fillDegree_124 (by decide) ?_
      refine lv_icmp_eq (tgt := 140) hx hb dX6_fillDegree_125 (by decide) (fun c11 => ?_) (fun c11 => ?_)
      · have hm := if_t c11 hm
        refine lv_aload_n hx hb dX6_fillDegree_140 rfl (lv_at hl 1 rfl) ?_
        refine gtC_X6_11_0 cx ok hw dX6_fillDegree_141 ?_
        refine lv_iload hx hb dX6_fillDegree_144 (lv_at hl 7 rfl) ?_
        refine lv_iload hx hb dX6_fillDegree_146 (lv_at hl 0 rfl) ?_
        obtain ⟨g12, hm⟩ := gd_ok hm
        refine stC_176 cx ok hw g12 dX6_fillDegree_148 (fun H locs hw => ?_)
        obtain ⟨σ13, e14, hm⟩ := lt_ok hm
        have hw := wsC_eq e14 hw
        refine lv_aload_n hx hb dX6_fillDegree_149 rfl (lv_at hl 1 rfl) ?_
        refine gtC_X6_11_1 cx ok hw dX6_fillDegree_150 ?_
        refine lv_iload hx hb dX6_fillDegree_153 (lv_at hl 7 rfl) ?_
        refine lv_iload hx hb dX6_fillDegree_155 (lv_at hl 9 rfl) ?_
        obtain ⟨g15, hm⟩ := gd_ok hm
        refine stC_177 cx ok hw g15 dX6_fillDegree_157 (fun H locs hw => ?_)
        obtain ⟨σ16, e17, hm⟩ := lt_ok hm
        have hw := wsC_eq e17 hw
        obtain ⟨x8_18, e19, hm⟩ := lt_ok hm
        refine lv_iinc (v := x8_18) (lv' := [(8, .int x8_18), (10, .int s0), (0, .ref (E.2.2 1011)), (1, .ref (E.2.2 1003)), (2, .int x2), (4, .int x4), (5, .ref (E.2.2 1002)), (6, .int x6), (7, .int x7), (9, .int x9)]) hx hb dX6_fillDegree_158 hl (k := 8) rfl (by rw [e19]; rfl) (by decide) rfl (fun ls hl => ?_)
        refine lv_goto (tgt := 37) hx hb dX6_fillDegree_161 (by decide) ?_
        exact hk37 σ16 x2 x4 x6 x7 x8_18 H locs ls hw (lv_sub hl [2, 3, 4, 5, 6, 7, 8, 0] rfl) hm
      · have hm := if_f c11 hm
        refine lv_iload hx hb dX6_fillDegree_128 (lv_at hl 9 rfl) ?_
        refine lv_aload_n hx hb dX6_fillDegree_130 rfl (lv_at hl 1 rfl) ?_
        refine gtC_X6_11_1 cx ok hw dX6_fillDegree_131 ?_
        refine lv_iload hx hb dX6_fillDegree_134 (lv_at hl 7 rfl) ?_
        obtain ⟨g20, hm⟩ := gd_ok hm
        refine ldC_177 cx ok hw g20 dX6_fillDegree_136 ?_
        refine lv_icmp_ge (tgt := 158) hx hb dX6_fillDegree_137 (by decide) (fun c21 => ?_) (fun c21 => ?_)
        · have hm := if_t c21 hm
          obtain ⟨x8_22, e23, hm⟩ := lt_ok hm
          refine lv_iinc (v := x8_22) (lv' := [(8, .int x8_22), (10, .int s0), (0, .ref (E.2.2 1011)), (1, .ref (E.2.2 1003)), (2, .int x2), (4, .int x4), (5, .ref (E.2.2 1002)), (6, .int x6), (7, .int x7), (9, .int x9)]) hx hb dX6_fillDegree_158 hl (k := 8) rfl (by rw [e23]; rfl) (by decide) rfl (fun ls hl => ?_)
          refine lv_goto (tgt := 37) hx hb dX6_fillDegree_161 (by decide) ?_
          exact hk37 σ5 x2 x4 x6 x7 x8_22 H locs ls hw (lv_sub hl [2, 3, 4, 5, 6, 7, 8, 0] rfl) hm
        · have hm := if_f c21 hm
          refine lv_aload_n hx hb dX6_fillDegree_140 rfl (lv_at hl 1 rfl) ?_
          refine gtC_X6_11_0 cx ok hw dX6_fillDegree_141 ?_
          refine lv_iload hx hb dX6_fillDegree_144 (lv_at hl 7 rfl) ?_
          refine lv_iload hx hb dX6_fillDegree_146 (lv_at hl 0 rfl) ?_
          obtain ⟨g24, hm⟩ := gd_ok hm
          refine stC_176 cx ok hw g24 dX6_fillDegree_148 (fun H locs hw => ?_)
          obtain ⟨σ25, e26, hm⟩ := lt_ok hm
          have hw := wsC_eq e26 hw
          refine lv_aload_n hx hb dX6_fillDegree_149 rfl (lv_at hl 1 rfl) ?_
          refine gtC_X6_11_1 cx ok hw dX6_fillDegree_150 ?_
          refine lv_iload hx hb dX6_fillDegree_153 (lv_at hl 7 rfl) ?_
          refine lv_iload hx hb dX6_fillDegree_155 (lv_at hl 9 rfl) ?_
          obtain ⟨g27, hm⟩ := gd_ok hm
          refine stC_177 cx ok hw g27 dX6_fillDegree_157 (fun H locs hw => ?_)
          obtain ⟨σ28, e29, hm⟩ := lt_ok hm
          have hw := wsC_eq e29 hw
          obtain ⟨x8_30, e31, hm⟩ := lt_ok hm
          refine lv_iinc (v := x8_30) (lv' := [(8, .int x8_30), (10, .int s0), (0, .ref (E.2.2 1011)), (1, .ref (E.2.2 1003)), (2, .int x2), (4, .int x4), (5, .ref (E.2.2 1002)), (6, .int x6), (7, .int x7), (9, .int x9)]) hx hb dX6_fillDegree_158 hl (k := 8) rfl (by rw [e31]; rfl) (by decide) rfl (fun ls hl => ?_)
          refine lv_goto (tgt := 37) hx hb dX6_fillDegree_161 (by decide) ?_
          exact hk37 σ28 x2 x4 x6 x7 x8_30 H locs ls hw (lv_sub hl [2, 3, 4, 5, 6, 7, 8, 0] rfl) hm
  have w_37 : ∀ (f : Nat), ∀ (σ : St) (x2 : Int32) (x4 : Int32) (x6 : Int32) (x7 : Int32) (x8 : Int32) (H : Heap) (locs : List Loc) (ls : Array Slot), wsC E σ (va_A (wldC E σ0) sz) s H locs → lv_has ls 11 [(0, .ref (E.2.2 1011)), (1, .ref (E.2.2 1003)), (2, .int x2), (4, .int x4), (5, .ref (E.2.2 1002)), (6, .int x6), (7, .int x7), (8, .int x8)] → C_Symbols_fillDegree_l37 n f σ x2 x4 x6 x7 x8 = some σ' → W p l e rmC_Symbols_fillDegree s m args below meth c H locs 0 0 (MQ below (QvC E σ0 σ' sz) args s 0 0 (va_A (wldC E σ0) sz)) (F0 m 37 ls []) := by
    intro f
    induction f with
    | zero =>
      intro σ x2 x4 x6 x7 x8 H locs ls hw hl hm
      rw [C_Symbols_fillDegree_l37] at hm
      cases hm
    | succ f ih =>
      intro σ x2 x4 x6 x7 x8 H locs ls hw hl hm
      rw [C_Symbols_fillDegree_l37] at hm
      refine lv_iload hx hb dX6_fillDegree_37 (lv_at hl 7 rfl) ?_
      refine lv_bipush (v := (9 : Int32)) hx hb dX6_fillDegree_39 (by decide) ?_
      refine lv_icmp_ge (tgt := 164) hx hb dX6_fillDegree_41 (by decide) (fun c1 => ?_) (fun c1 => ?_)
      · have hm := if_t c1 hm
        exact rtC_v cx hr hlk hw hm dX6_fillDegree_164
      · have hm := if_f c1 hm
        refine lv_aload hx hb dX6_fillDegree_44 (lv_at hl 4 rfl) ?_
        refine lv_aload_n hx hb dX6_fillDegree_46 rfl (lv_at hl 1 rfl) ?_
        refine gtC_X6_3_0 cx ok hw dX6_fillDegree_47 ?_
        refine lv_iload_n hx hb dX6_fillDegree_50 rfl (lv_at hl 2 rfl) ?_
        obtain ⟨g2, hm⟩ := gd_ok hm
        refine ldC_48 cx ok hw g2 dX6_fillDegree_51 ?_
        refine lv_aload_n hx hb dX6_fillDegree_52 rfl (lv_at hl 1 rfl) ?_
        refine gtC_X6_3_1 cx ok hw dX6_fillDegree_53 ?_
        refine lv_iload_n hx hb dX6_fillDegree_56 rfl (lv_at hl 2 rfl) ?_
        obtain ⟨g3, hm⟩ := gd_ok hm
        refine ldC_49 cx ok hw g3 dX6_fillDegree_57 ?_
        refine lv_iload hx hb dX6_fillDegree_58 (lv_at hl 3 rfl) ?_
        refine lv_iload hx hb dX6_fillDegree_60 (lv_at hl 7 rfl) ?_
        obtain ⟨r5, h4, hm⟩ := bp_ok hm
        refine clVN_Ci (As := [.int (σ.1 48 x2.toNatClampNeg), .int (σ.1 49 x2.toNatClampNeg), .int x4, .int x8]) (rest := []) cx hml hl.1 ok hw hA (rcC_2 ok hw) (cC_Tariff_ofFit l E _ σ (σ.1 48 x2.toNatClampNeg) (σ.1 49 x2.toNatClampNeg) x4 x8 r5 h4) (cwC_X6_Tariff_ofFit hA9 ok ⟨Nat.le_of_ble_eq_true rfl, Nat.le_of_ble_eq_true rfl⟩) rfl rfl (Nat.le_of_ble_eq_true rfl) dX6_fillDegree_62 (fun H locs hw => ?_)
        refine lv_istore (lv' := [(9, .int r5), (0, .ref (E.2.2 1011)), (1, .ref (E.2.2 1003)), (2, .int x2), (4, .int x4), (5, .ref (E.2.2 1002)), (6, .int x6), (7, .int x7), (8, .int x8)]) hx hb dX6_fillDegree_65 hl (by decide) rfl (fun ls hl => ?_)
        refine lv_iload hx hb dX6_fillDegree_67 (lv_at hl 0 rfl) ?_
        refine lv_iconst (v := (-1 : Int32)) hx hb dX6_fillDegree_69 (by decide) ?_
        refine lv_icmp_ne (tgt := 77) hx hb dX6_fillDegree_70 (by decide) (fun c6 => ?_) (fun c6 => ?_)
        · have hm := if_f c6 hm
          refine lv_bipush (v := (12 : Int32)) hx hb dX6_fillDegree_77 (by decide) ?_
          refine lv_iload hx hb dX6_fillDegree_79 (lv_at hl 8 rfl) ?_
          refine lv_imul hx hb dX6_fillDegree_81 ?_
          refine lv_iload hx hb dX6_fillDegree_82 (lv_at hl 4 rfl) ?_
          refine lv_iadd hx hb dX6_fillDegree_84 ?_
          exact w_85 (C_Symbols_fillDegree_l37 n f) ih σ x2 x4 x6 x7 x8 r5 (((12 : Int32) * x8) + x4) H locs ls hw (lv_sub hl [1, 2, 3, 4, 5, 6, 7, 8, 0] rfl) hm
        · have hm := if_t c6 hm
          refine lv_iconst (v := (-1 : Int32)) hx hb dX6_fillDegree_73 (by decide) ?_
          refine lv_goto (tgt := 85) hx hb dX6_fillDegree_74 (by decide) ?_
          exact w_85 (C_Symbols_fillDegree_l37 n f) ih σ x2 x4 x6 x7 x8 r5 (-1 : Int32) H locs ls hw (lv_sub hl [1, 2, 3, 4, 5, 6, 7, 8, 0] rfl) hm
  have hl : lv_has ls 11 [(0, .ref (E.2.2 1011)), (1, .ref (E.2.2 1003)), (2, .int x2), (3, .int x3), (4, .int x4), (5, .ref (E.2.2 1002))] := hl
  unfold C_Symbols_fillDegree at hm
  have goal0 : ∀ (H : Heap) (locs : List Loc), wsC E σ0 (va_A (wldC E σ0) sz) s H locs → W p l e rmC_Symbols_fillDegree s m args below meth c H locs 0 0 (MQ below (QvC E σ0 σ' sz) args s 0 0 (va_A (wldC E σ0) sz)) (F0 m 0 ls []) := by
    intro H locs hw
    refine lv_iload_n hx hb dX6_fillDegree_0 rfl (lv_at hl 2 rfl) ?_
    refine lv_bipush (v := (70 : Int32)) hx hb dX6_fillDegree_1 (by decide) ?_
    refine lv_imul hx hb dX6_fillDegree_3 ?_
    refine lv_iload_n hx hb dX6_fillDegree_4 rfl (lv_at hl 3 rfl) ?_
    refine lv_bipush (v := (10 : Int32)) hx hb dX6_fillDegree_5 (by decide) ?_
    refine lv_imul hx hb dX6_fillDegree_7 ?_
    refine lv_iadd hx hb dX6_fillDegree_8 ?_
    obtain ⟨x6_1, e2, hm⟩ := lt_ok hm
    refine ti_eq e2 ?_
    refine lv_istore (lv' := [(6, .int x6_1), (0, .ref (E.2.2 1011)), (1, .ref (E.2.2 1003)), (2, .int x2), (3, .int x3), (4, .int x4), (5, .ref (E.2.2 1002))]) hx hb dX6_fillDegree_9 hl (by decide) rfl (fun ls hl => ?_)
    refine lv_iload hx hb dX6_fillDegree_11 (lv_at hl 0 rfl) ?_
    refine lv_bipush (v := (9 : Int32)) hx hb dX6_fillDegree_13 (by decide) ?_
    refine lv_iadd hx hb dX6_fillDegree_15 ?_
    obtain ⟨x7_3, e4, hm⟩ := lt_ok hm
    refine ti_eq e4 ?_
    refine lv_istore (lv' := [(7, .int x7_3), (6, .int x6_1), (0, .ref (E.2.2 1011)), (1, .ref (E.2.2 1003)), (2, .int x2), (3, .int x3), (4, .int x4), (5, .ref (E.2.2 1002))]) hx hb dX6_fillDegree_16 hl (by decide) rfl (fun ls hl => ?_)
    refine lv_aload_n hx hb dX6_fillDegree_18 rfl (lv_at hl 2 rfl) ?_
    refine gtC_X6_11_0 cx ok hw dX6_fillDegree_19 ?_
    refine lv_iload hx hb dX6_fillDegree_22 (lv_at hl 0 rfl) ?_
    refine lv_iconst (v := (-1 : Int32)) hx hb dX6_fillDegree_24 (by decide) ?_
    obtain ⟨g5, hm⟩ := gd_ok hm
    refine stC_176 cx ok hw g5 dX6_fillDegree_25 (fun H locs hw => ?_)
    obtain ⟨σ6, e7, hm⟩ := lt_ok hm
    have hw := wsC_eq e7 hw
    refine lv_aload_n hx hb dX6_fillDegree_26 rfl (lv_at hl 2 rfl) ?_
    refine gtC_X6_11_1 cx ok hw dX6_fillDegree_27 ?_
    refine lv_iload hx hb dX6_fillDegree_30 (lv_at hl 0 rfl) ?_
    refine lv_iconst (v := (-1 : Int32)) hx hb dX6_fillDegree_32 (by decide) ?_
    obtain ⟨g8, hm⟩ := gd_ok hm
    refine stC_177 cx ok hw g8 dX6_fillDegree_33 (fun H locs hw => ?_)
    obtain ⟨σ9, e10, hm⟩ := lt_ok hm
    have hw := wsC_eq e10 hw
    refine lv_iconst (v := (0 : Int32)) hx hb dX6_fillDegree_34 (by decide) ?_
    refine lv_istore (lv' := [(8, .int (0 : Int32)), (7, .int x7_3), (6, .int x6_1), (0, .ref (E.2.2 1011)), (1, .ref (E.2.2 1003)), (2, .int x2), (3, .int x3), (4, .int x4), (5, .ref (E.2.2 1002))]) hx hb dX6_fillDegree_35 hl (by decide) rfl (fun ls hl => ?_)
    exact w_37 n σ9 x2 x4 x6_1 x7_3 (0 : Int32) H locs ls hw (lv_sub hl [3, 4, 5, 7, 8, 2, 1, 0] rfl) hm
  exact goal0 _ _ hw
theorem cwC_X6_Symbols_fillDegree {R : Room} {s : State} {args : Array Value} (h : ∀ w ∈ wA, w.before args s = true) (hR : rmC_Symbols_fillDegree.frames + 1 ≤ R.frames ∧ 8 + (11 + 11) + rmC_Symbols_fillDegree.locals ≤ R.locals) : CallW R s args RX6 RX6 30 yX6_fillDegree cX6_fillDegree 11 none (wz yX6_fillDegree cX6_fillDegree 11 none) rmC_Symbols_fillDegree 0 0 5 := cwV 5 h (gdV k_543 k_545 ks_24 k_9 k_546) rfl rfl rfl (by decide +kernel) hR
/-! ChordGrammars$Symbols.fill: writes, loops -/
def C_Symbols_fill_l15 (n : Nat) (k3 : St → Int32 → Option St) : Nat → St → Int32 → Int32 → Option St
  | 0, _, _, _ => none
  | f + 1, σ, x4, x5 =>
    if (7 : Int32) ≤ x5 then
      lt (x4 + (1 : Int32)) fun x4_2 =>
      k3 σ x4_2
    else
      bp (C_Key_rootOf σ x5) fun r5 =>
      bp (C_Symbols_fillDegree n σ x4 x5 r5) fun σ7 =>
      lt (x5 + (1 : Int32)) fun x5_8 =>
      (C_Symbols_fill_l15 n k3 f) σ7 x4 x5_8
def C_Symbols_fill_l3 (n : Nat) : Nat → St → Int32 → Option St
  | 0, _, _ => none
  | f + 1, σ, x4 =>
    if (σ.1 51 0) ≤ x4 then
      some σ
    else
      C_Symbols_fill_l15 n (C_Symbols_fill_l3 n f) n σ x4 (0 : Int32)
def C_Symbols_fill (n : Nat) (σ0 : St) : Option St :=
  C_Symbols_fill_l3 n n σ0 (0 : Int32)
abbrev rmC_Symbols_fill : Room := { frames := 3, cells := 0, slots := 0, locals := 81 }
set_option maxHeartbeats 4000000 in
set_option maxRecDepth 100000 in
theorem cC_Symbols_fill (l : Launch) (E : Ev) (n : Nat) (sz : Nat) (σ0 σ' : St) (hm : C_Symbols_fill n σ0 = some σ') : Met l yX6_fill (wz yX6_fill cX6_fill 6 none) rmC_Symbols_fill (PwC E [.ref (E.2.2 1011), .ref (E.2.2 1003), .ref (E.2.2 1001), .ref (E.2.2 1002)] σ0 sz) (QvC E σ0 σ' sz) 0 0 (va_A (wldC E σ0) sz) := by
  refine enC (own := RX6) (by decide) rfl (Nat.le_of_ble_eq_true rfl) (fun p e s m args below meth c cx hr hlk hml hsz ok hw ls hl => ?_)
  have hx := cx.1
  have hb := cx.2.1
  have hA9 := cx.2.2.2
  have hA : ∀ q, s.heap.size ≤ q → (va_A (wldC E σ0) sz) q := fun q h => Or.inr (by rw [← hsz]; exact h)
  have w_15 : ∀ (k3 : St → Int32 → Option St) (hk3 : ∀ (σ : St) (x4 : Int32) (H : Heap) (locs : List Loc) (ls : Array Slot), wsC E σ (va_A (wldC E σ0) sz) s H locs → lv_has ls 6 [(0, .ref (E.2.2 1011)), (1, .ref (E.2.2 1003)), (2, .ref (E.2.2 1001)), (3, .ref (E.2.2 1002)), (4, .int x4)] → k3 σ x4 = some σ' → W p l e rmC_Symbols_fill s m args below meth c H locs 0 0 (MQ below (QvC E σ0 σ' sz) args s 0 0 (va_A (wldC E σ0) sz)) (F0 m 3 ls [])), ∀ (f : Nat), ∀ (σ : St) (x4 : Int32) (x5 : Int32) (H : Heap) (locs : List Loc) (ls : Array Slot), wsC E σ (va_A (wldC E σ0) sz) s H locs → lv_has ls 6 [(0, .ref (E.2.2 1011)), (1, .ref (E.2.2 1003)), (2, .ref (E.2.2 1001)), (3, .ref (E.2.2 1002)), (4, .int x4), (5, .int x5)] → C_Symbols_fill_l15 n k3 f σ x4 x5 = some σ' → W p l e rmC_Symbols_fill s m args below meth c H locs 0 0 (MQ below (QvC E σ0 σ' sz) args s 0 0 (va_A (wldC E σ0) sz)) (F0 m 15 ls []) := by
    intro k3 hk3
    intro f
    induction f with
    | zero =>
      intro σ x4 x5 H locs ls hw hl hm
      rw [C_Symbols_fill_l15] at hm
      cases hm
    | succ f ih =>
      intro σ x4 x5 H locs ls hw hl hm
      rw [C_Symbols_fill_l15] at hm
      refine lv_iload hx hb dX6_fill_15 (lv_at hl 5 rfl) ?_
      refine lv_bipush (v := (7 : Int32)) hx hb dX6_fill_17 (by decide) ?_
      refine lv_icmp_ge (tgt := 44) hx hb dX6_fill_19 (by decide) (fun c1 => ?_) (fun c1 => ?_)
      · have hm := if_t c1 hm
        obtain ⟨x4_2, e3, hm⟩ := lt_ok hm
        refine lv_iinc (v := x4_2) (lv' := [(4, .int x4_2), (0, .ref (E.2.2 1011)), (1, .ref (E.2.2 1003)), (2, .ref (E.2.2 1001)), (3, .ref (E.2.2 1002)), (5, .int x5)]) hx hb dX6_fill_44 hl (k := 4) rfl (by rw [e3]; rfl) (by decide) rfl (fun ls hl => ?_)
        refine lv_goto (tgt := 3) hx hb dX6_fill_47 (by decide) ?_
        exact hk3 σ x4_2 H locs ls hw (lv_sub hl [1, 2, 3, 4, 0] rfl) hm
      · have hm := if_f c1 hm
        refine lv_aload_n hx hb dX6_fill_22 rfl (lv_at hl 0 rfl) ?_
        refine lv_aload_n hx hb dX6_fill_23 rfl (lv_at hl 1 rfl) ?_
        refine lv_iload hx hb dX6_fill_24 (lv_at hl 4 rfl) ?_
        refine lv_iload hx hb dX6_fill_26 (lv_at hl 5 rfl) ?_
        refine lv_aload_n hx hb dX6_fill_28 rfl (lv_at hl 2 rfl) ?_
        refine lv_iload hx hb dX6_fill_29 (lv_at hl 5 rfl) ?_
        obtain ⟨r5, h4, hm⟩ := bp_ok hm
        refine clVN_Ci (As := [.int x5]) (rest := [.int x5, .int x4, .ref (E.2.2 1003), .ref (E.2.2 1011)]) cx hml hl.1 ok hw hA (rcC_1 ok hw) (cC_Key_rootOf l E _ σ x5 r5 h4) (cwC_X6_Key_rootOf hA9 ok ⟨Nat.le_of_ble_eq_true rfl, Nat.le_of_ble_eq_true rfl⟩) rfl rfl (Nat.le_of_ble_eq_true rfl) dX6_fill_31 (fun H locs hw => ?_)
        refine lv_aload_n hx hb dX6_fill_34 rfl (lv_at hl 3 rfl) ?_
        obtain ⟨σ7, h6, hm⟩ := bp_ok hm
        refine clV_Cv (As := [.ref (E.2.2 1003), .int x4, .int x5, .int r5, .ref (E.2.2 1002)]) (rest := []) cx hml hl.1 ok hw hA (rcC_11 ok hw) (cC_Symbols_fillDegree l E n _ σ σ7 x4 x5 r5 h6) (cwC_X6_Symbols_fillDegree hA9 ⟨Nat.le_of_ble_eq_true rfl, Nat.le_of_ble_eq_true rfl⟩) rfl rfl (Nat.le_of_ble_eq_true rfl) dX6_fill_35 (fun H locs hw => ?_)
        obtain ⟨x5_8, e9, hm⟩ := lt_ok hm
        refine lv_iinc (v := x5_8) (lv' := [(5, .int x5_8), (0, .ref (E.2.2 1011)), (1, .ref (E.2.2 1003)), (2, .ref (E.2.2 1001)), (3, .ref (E.2.2 1002)), (4, .int x4)]) hx hb dX6_fill_38 hl (k := 5) rfl (by rw [e9]; rfl) (by decide) rfl (fun ls hl => ?_)
        refine lv_goto (tgt := 15) hx hb dX6_fill_41 (by decide) ?_
        exact ih σ7 x4 x5_8 H locs ls hw (lv_sub hl [1, 2, 3, 4, 5, 0] rfl) hm
  have w_3 : ∀ (f : Nat), ∀ (σ : St) (x4 : Int32) (H : Heap) (locs : List Loc) (ls : Array Slot), wsC E σ (va_A (wldC E σ0) sz) s H locs → lv_has ls 6 [(0, .ref (E.2.2 1011)), (1, .ref (E.2.2 1003)), (2, .ref (E.2.2 1001)), (3, .ref (E.2.2 1002)), (4, .int x4)] → C_Symbols_fill_l3 n f σ x4 = some σ' → W p l e rmC_Symbols_fill s m args below meth c H locs 0 0 (MQ below (QvC E σ0 σ' sz) args s 0 0 (va_A (wldC E σ0) sz)) (F0 m 3 ls []) := by
    intro f
    induction f with
    | zero =>
      intro σ x4 H locs ls hw hl hm
      rw [C_Symbols_fill_l3] at hm
      cases hm
    | succ f ih =>
      intro σ x4 H locs ls hw hl hm
      rw [C_Symbols_fill_l3] at hm
      refine lv_iload hx hb dX6_fill_3 (lv_at hl 4 rfl) ?_
      refine lv_aload_n hx hb dX6_fill_5 rfl (lv_at hl 1 rfl) ?_
      refine gtC_X6_3_3 cx ok hw dX6_fill_6 ?_
      refine lv_icmp_ge (tgt := 50) hx hb dX6_fill_9 (by decide) (fun c1 => ?_) (fun c1 => ?_)
      · have hm := if_t c1 hm
        exact rtC_v cx hr hlk hw hm dX6_fill_50
      · have hm := if_f c1 hm
        refine lv_iconst (v := (0 : Int32)) hx hb dX6_fill_12 (by decide) ?_
        refine lv_istore (lv' := [(5, .int (0 : Int32)), (0, .ref (E.2.2 1011)), (1, .ref (E.2.2 1003)), (2, .ref (E.2.2 1001)), (3, .ref (E.2.2 1002)), (4, .int x4)]) hx hb dX6_fill_13 hl (by decide) rfl (fun ls hl => ?_)
        exact w_15 (C_Symbols_fill_l3 n f) ih n σ x4 (0 : Int32) H locs ls hw (lv_sub hl [1, 2, 3, 4, 5, 0] rfl) hm
  have hl : lv_has ls 6 [(0, .ref (E.2.2 1011)), (1, .ref (E.2.2 1003)), (2, .ref (E.2.2 1001)), (3, .ref (E.2.2 1002))] := hl
  unfold C_Symbols_fill at hm
  have goal0 : ∀ (H : Heap) (locs : List Loc), wsC E σ0 (va_A (wldC E σ0) sz) s H locs → W p l e rmC_Symbols_fill s m args below meth c H locs 0 0 (MQ below (QvC E σ0 σ' sz) args s 0 0 (va_A (wldC E σ0) sz)) (F0 m 0 ls []) := by
    intro H locs hw
    refine lv_iconst (v := (0 : Int32)) hx hb dX6_fill_0 (by decide) ?_
    refine lv_istore (lv' := [(4, .int (0 : Int32)), (0, .ref (E.2.2 1011)), (1, .ref (E.2.2 1003)), (2, .ref (E.2.2 1001)), (3, .ref (E.2.2 1002))]) hx hb dX6_fill_1 hl (by decide) rfl (fun ls hl => ?_)
    exact w_3 n σ0 (0 : Int32) H locs ls hw (lv_sub hl [1, 2, 3, 4, 0] rfl) hm
  exact goal0 _ _ hw
theorem cwC_X0_Symbols_fill {R : Room} {s : State} {args : Array Value} {E : Ev} {A : Nat → Prop} (h : ∀ w ∈ wA, w.before args s = true) (ok : okC E A s) (hR : rmC_Symbols_fill.frames + 1 ≤ R.frames ∧ 8 + (6 + 11) + rmC_Symbols_fill.locals ≤ R.locals) : va_CN R s args RX0 60 yX6_fill "ChordGrammars" cX6_fill 6 none (wz yX6_fill cX6_fill 6 none) rmC_Symbols_fill 0 0 3 ∧ (Cond.instanceMethod yX6_fill).before args s = true ∧ (Cond.selects RX6 yX6_fill yX6_fill).before args s = true := ⟨va_cnB 3 h (gdC k_534) rfl rfl rfl (ok.2.1 _ kn_531) (h _ k_9) (by decide +kernel) hR, h _ k_533, h _ ks_22⟩
/-! ChordGrammars$Chart.rowOf: reads only -/
def C_Chart_rowOf (x0 : Int32) (x1 : Int32) (x2 : Int32) : Option Int32 :=
  some (((((x2 * (x2 + (1 : Int32))) / (2 : Int32)) + x1) * (26 : Int32)) + x0)
abbrev rmC_Chart_rowOf : Room := { frames := 0, cells := 0, slots := 0, locals := 0 }
set_option maxHeartbeats 4000000 in
set_option maxRecDepth 100000 in
theorem cC_Chart_rowOf (l : Launch) (E : Ev) (sz : Nat) (σ0 : St) (x0 : Int32) (x1 : Int32) (x2 : Int32) (r : Int32) (hm : C_Chart_rowOf x0 x1 x2 = some r) : Met l yX0_rowOf (wz yX0_rowOf cX0_rowOf 3 (some .int)) rmC_Chart_rowOf (PwC E [.int x0, .int x1, .int x2] σ0 sz) (QiC E σ0 σ0 sz r) 0 0 (va_A (wldC E σ0) sz) := by
  refine enC (own := RX0) (by decide) rfl (Nat.le_of_ble_eq_true rfl) (fun p e s m args below meth c cx hr hlk hml hsz ok hw ls hl => ?_)
  have hx := cx.1
  have hb := cx.2.1
  have hA9 := cx.2.2.2
  have hA : ∀ q, s.heap.size ≤ q → (va_A (wldC E σ0) sz) q := fun q h => Or.inr (by rw [← hsz]; exact h)
  have hl : lv_has ls 3 [(0, .int x0), (1, .int x1), (2, .int x2)] := hl
  unfold C_Chart_rowOf at hm
  have goal0 : ∀ (H : Heap) (locs : List Loc), wsC E σ0 (va_A (wldC E σ0) sz) s H locs → W p l e rmC_Chart_rowOf s m args below meth c H locs 0 0 (MQ below (QiC E σ0 σ0 sz r) args s 0 0 (va_A (wldC E σ0) sz)) (F0 m 0 ls []) := by
    intro H locs hw
    refine lv_iload_n hx hb dX0_rowOf_0 rfl (lv_at hl 2 rfl) ?_
    refine lv_iload_n hx hb dX0_rowOf_1 rfl (lv_at hl 2 rfl) ?_
    refine lv_iconst (v := (1 : Int32)) hx hb dX0_rowOf_2 (by decide) ?_
    refine lv_iadd hx hb dX0_rowOf_3 ?_
    refine lv_imul hx hb dX0_rowOf_4 ?_
    refine lv_iconst (v := (2 : Int32)) hx hb dX0_rowOf_5 (by decide) ?_
    refine lv_idiv hx hb dX0_rowOf_6 (by decide) ?_
    refine lv_iload_n hx hb dX0_rowOf_7 rfl (lv_at hl 1 rfl) ?_
    refine lv_iadd hx hb dX0_rowOf_8 ?_
    refine lv_bipush (v := (26 : Int32)) hx hb dX0_rowOf_9 (by decide) ?_
    refine lv_imul hx hb dX0_rowOf_11 ?_
    refine lv_iload_n hx hb dX0_rowOf_12 rfl (lv_at hl 0 rfl) ?_
    refine lv_iadd hx hb dX0_rowOf_13 ?_
    exact rtC_i cx hr hlk hw (pr_some hm) dX0_rowOf_14
  exact goal0 _ _ hw
theorem cwC_X0_Chart_rowOf {R : Room} {s : State} {args : Array Value} (h : ∀ w ∈ wA, w.before args s = true) (hR : rmC_Chart_rowOf.frames + 1 ≤ R.frames ∧ 8 + (3 + 11) + rmC_Chart_rowOf.locals ≤ R.locals) : CallB R s args RX0 68 yX0_rowOf cX0_rowOf 3 (some .int) (wz yX0_rowOf cX0_rowOf 3 (some .int)) rmC_Chart_rowOf 0 0 3 ∧ (Cond.static yX0_rowOf).before args s = true := va_cwS 3 h (gdS k_552 k_553 k_8 k_554) rfl rfl rfl (by decide +kernel) hR
/-! ChordGrammars$Chart.chordOf: reads only -/
def C_Chart_chordOf (σ0 : St) (x1 : Int32) (x2 : Int32) : Option Int32 :=
  gd (((x2 * (70 : Int32)) + x1) - (26 : Int32)) 1680 <|
  some (σ0.1 176 (((x2 * (70 : Int32)) + x1) - (26 : Int32)).toNatClampNeg)
abbrev rmC_Chart_chordOf : Room := { frames := 0, cells := 0, slots := 0, locals := 0 }
set_option maxHeartbeats 4000000 in
set_option maxRecDepth 100000 in
theorem cC_Chart_chordOf (l : Launch) (E : Ev) (sz : Nat) (σ0 : St) (x1 : Int32) (x2 : Int32) (r : Int32) (hm : C_Chart_chordOf σ0 x1 x2 = some r) : Met l yX0_chordOf (wz yX0_chordOf cX0_chordOf 3 (some .int)) rmC_Chart_chordOf (PwC E [.ref (E.2.2 1007), .int x1, .int x2] σ0 sz) (QiC E σ0 σ0 sz r) 0 0 (va_A (wldC E σ0) sz) := by
  refine enC (own := RX0) (by decide) rfl (Nat.le_of_ble_eq_true rfl) (fun p e s m args below meth c cx hr hlk hml hsz ok hw ls hl => ?_)
  have hx := cx.1
  have hb := cx.2.1
  have hA9 := cx.2.2.2
  have hA : ∀ q, s.heap.size ≤ q → (va_A (wldC E σ0) sz) q := fun q h => Or.inr (by rw [← hsz]; exact h)
  have hl : lv_has ls 3 [(0, .ref (E.2.2 1007)), (1, .int x1), (2, .int x2)] := hl
  unfold C_Chart_chordOf at hm
  have goal0 : ∀ (H : Heap) (locs : List Loc), wsC E σ0 (va_A (wldC E σ0) sz) s H locs → W p l e rmC_Chart_chordOf s m args below meth c H locs 0 0 (MQ below (QiC E σ0 σ0 sz r) args s 0 0 (va_A (wldC E σ0) sz)) (F0 m 0 ls []) := by
    intro H locs hw
    refine lv_aload_n hx hb dX0_chordOf_0 rfl (lv_at hl 0 rfl) ?_
    refine gtC_X0_7_1 cx ok hw dX0_chordOf_1 ?_
    refine gtC_X0_11_0 cx ok hw dX0_chordOf_4 ?_
    refine lv_iload_n hx hb dX0_chordOf_7 rfl (lv_at hl 2 rfl) ?_
    refine lv_bipush (v := (70 : Int32)) hx hb dX0_chordOf_8 (by decide) ?_
    refine lv_imul hx hb dX0_chordOf_10 ?_
    refine lv_iload_n hx hb dX0_chordOf_11 rfl (lv_at hl 1 rfl) ?_
    refine lv_iadd hx hb dX0_chordOf_12 ?_
    refine lv_bipush (v := (26 : Int32)) hx hb dX0_chordOf_13 (by decide) ?_
    refine lv_isub hx hb dX0_chordOf_15 ?_
    obtain ⟨g1, hm⟩ := gd_ok hm
    refine ldC_176 cx ok hw g1 dX0_chordOf_16 ?_
    exact rtC_i cx hr hlk hw (pr_some hm) dX0_chordOf_17
  exact goal0 _ _ hw
theorem cwC_X0_Chart_chordOf {R : Room} {s : State} {args : Array Value} (h : ∀ w ∈ wA, w.before args s = true) (hR : rmC_Chart_chordOf.frames + 1 ≤ R.frames ∧ 8 + (3 + 11) + rmC_Chart_chordOf.locals ≤ R.locals) : CallW R s args RX0 RX0 131 yX0_chordOf cX0_chordOf 3 (some .int) (wz yX0_chordOf cX0_chordOf 3 (some .int)) rmC_Chart_chordOf 0 0 2 := cwV 2 h (gdV k_563 k_565 ks_28 k_8 k_566) rfl rfl rfl (by decide +kernel) hR
theorem cwC_X8_Chart_chordOf {R : Room} {s : State} {args : Array Value} {E : Ev} {A : Nat → Prop} (h : ∀ w ∈ wA, w.before args s = true) (ok : okC E A s) (hR : rmC_Chart_chordOf.frames + 1 ≤ R.frames ∧ 8 + (3 + 11) + rmC_Chart_chordOf.locals ≤ R.locals) : va_CN R s args RX8 74 yX0_chordOf "ChordGrammars" cX0_chordOf 3 (some .int) (wz yX0_chordOf cX0_chordOf 3 (some .int)) rmC_Chart_chordOf 0 0 2 ∧ (Cond.instanceMethod yX0_chordOf).before args s = true ∧ (Cond.selects RX0 yX0_chordOf yX0_chordOf).before args s = true := ⟨va_cnB 2 h (gdC k_566) rfl rfl rfl (ok.2.1 _ kn_639) (h _ k_8) (by decide +kernel) hR, h _ k_565, h _ ks_28⟩
/-! ChordGrammars$Chart.sizeOf: reads only -/
def C_Chart_sizeOf (σ0 : St) (x1 : Int32) (x2 : Int32) (x3 : Int32) : Option Int32 :=
  if (26 : Int32) ≤ x1 then
    if x2 = x3 then
      bp (C_Chart_chordOf σ0 x1 x2) fun r4 =>
      if r4 = (-1 : Int32) then
        some (0 : Int32)
      else
        some (1 : Int32)
    else
      some (0 : Int32)
  else
    bp (C_Chart_rowOf x1 x2 x3) fun r7 =>
    gd r7 7800 <|
    some (σ0.1 116 r7.toNatClampNeg)
abbrev rmC_Chart_sizeOf : Room := { frames := 1, cells := 0, slots := 0, locals := 22 }
set_option maxHeartbeats 4000000 in
set_option maxRecDepth 100000 in
theorem cC_Chart_sizeOf (l : Launch) (E : Ev) (sz : Nat) (σ0 : St) (x1 : Int32) (x2 : Int32) (x3 : Int32) (r : Int32) (hm : C_Chart_sizeOf σ0 x1 x2 x3 = some r) : Met l yX0_sizeOf (wz yX0_sizeOf cX0_sizeOf 4 (some .int)) rmC_Chart_sizeOf (PwC E [.ref (E.2.2 1007), .int x1, .int x2, .int x3] σ0 sz) (QiC E σ0 σ0 sz r) 0 0 (va_A (wldC E σ0) sz) := by
  refine enC (own := RX0) (by decide) rfl (Nat.le_of_ble_eq_true rfl) (fun p e s m args below meth c cx hr hlk hml hsz ok hw ls hl => ?_)
  have hx := cx.1
  have hb := cx.2.1
  have hA9 := cx.2.2.2
  have hA : ∀ q, s.heap.size ≤ q → (va_A (wldC E σ0) sz) q := fun q h => Or.inr (by rw [← hsz]; exact h)
  have hl : lv_has ls 4 [(0, .ref (E.2.2 1007)), (1, .int x1), (2, .int x2), (3, .int x3)] := hl
  unfold C_Chart_sizeOf at hm
  have goal0 : ∀ (H : Heap) (locs : List Loc), wsC E σ0 (va_A (wldC E σ0) sz) s H locs → W p l e rmC_Chart_sizeOf s m args below meth c H locs 0 0 (MQ below (QiC E σ0 σ0 sz r) args s 0 0 (va_A (wldC E σ0) sz)) (F0 m 0 ls []) := by
    intro H locs hw
    refine lv_iload_n hx hb dX0_sizeOf_0 rfl (lv_at hl 1 rfl) ?_
    refine lv_bipush (v := (26 : Int32)) hx hb dX0_sizeOf_1 (by decide) ?_
    refine lv_icmp_ge (tgt := 18) hx hb dX0_sizeOf_3 (by decide) (fun c1 => ?_) (fun c1 => ?_)
    · have hm := if_t c1 hm
      refine lv_iload_n hx hb dX0_sizeOf_18 rfl (lv_at hl 2 rfl) ?_
      refine lv_iload_n hx hb dX0_sizeOf_19 rfl (lv_at hl 3 rfl) ?_
      refine lv_icmp_ne (tgt := 37) hx hb dX0_sizeOf_20 (by decide) (fun c2 => ?_) (fun c2 => ?_)
      · have hm := if_f c2 hm
        refine lv_iconst (v := (0 : Int32)) hx hb dX0_sizeOf_37 (by decide) ?_
        exact rtC_i cx hr hlk hw (pr_some hm) dX0_sizeOf_38
      · have hm := if_t c2 hm
        refine lv_aload_n hx hb dX0_sizeOf_23 rfl (lv_at hl 0 rfl) ?_
        refine lv_iload_n hx hb dX0_sizeOf_24 rfl (lv_at hl 1 rfl) ?_
        refine lv_iload_n hx hb dX0_sizeOf_25 rfl (lv_at hl 2 rfl) ?_
        obtain ⟨r4, h3, hm⟩ := bp_ok hm
        refine clV_Ci (As := [.int x1, .int x2]) (rest := []) cx hml hl.1 ok hw hA (rcC_7 ok hw) (cC_Chart_chordOf l E _ σ0 x1 x2 r4 h3) (cwC_X0_Chart_chordOf hA9 ⟨Nat.le_of_ble_eq_true rfl, Nat.le_of_ble_eq_true rfl⟩) rfl rfl (Nat.le_of_ble_eq_true rfl) dX0_sizeOf_26 (fun H locs hw => ?_)
        refine lv_iconst (v := (-1 : Int32)) hx hb dX0_sizeOf_29 (by decide) ?_
        refine lv_icmp_eq (tgt := 37) hx hb dX0_sizeOf_30 (by decide) (fun c5 => ?_) (fun c5 => ?_)
        · have hm := if_t c5 hm
          refine lv_iconst (v := (0 : Int32)) hx hb dX0_sizeOf_37 (by decide) ?_
          exact rtC_i cx hr hlk hw (pr_some hm) dX0_sizeOf_38
        · have hm := if_f c5 hm
          refine lv_iconst (v := (1 : Int32)) hx hb dX0_sizeOf_33 (by decide) ?_
          refine lv_goto (tgt := 38) hx hb dX0_sizeOf_34 (by decide) ?_
          exact rtC_i cx hr hlk hw (pr_some hm) dX0_sizeOf_38
    · have hm := if_f c1 hm
      refine lv_aload_n hx hb dX0_sizeOf_6 rfl (lv_at hl 0 rfl) ?_
      refine gtC_X0_7_4 cx ok hw dX0_sizeOf_7 ?_
      refine lv_iload_n hx hb dX0_sizeOf_10 rfl (lv_at hl 1 rfl) ?_
      refine lv_iload_n hx hb dX0_sizeOf_11 rfl (lv_at hl 2 rfl) ?_
      refine lv_iload_n hx hb dX0_sizeOf_12 rfl (lv_at hl 3 rfl) ?_
      obtain ⟨r7, h6, hm⟩ := bp_ok hm
      refine clS_Ci (As := [.int x1, .int x2, .int x3]) (rest := [.ref (E.2.2 116)]) cx hml hl.1 ok hw hA (cC_Chart_rowOf l E _ σ0 x1 x2 x3 r7 h6) (cwC_X0_Chart_rowOf hA9 ⟨Nat.le_of_ble_eq_true rfl, Nat.le_of_ble_eq_true rfl⟩) rfl rfl (Nat.le_of_ble_eq_true rfl) dX0_sizeOf_13 (fun H locs hw => ?_)
      obtain ⟨g8, hm⟩ := gd_ok hm
      refine ldC_116 cx ok hw g8 dX0_sizeOf_16 ?_
      exact rtC_i cx hr hlk hw (pr_some hm) dX0_sizeOf_17
  exact goal0 _ _ hw
theorem cwC_X0_Chart_sizeOf {R : Room} {s : State} {args : Array Value} (h : ∀ w ∈ wA, w.before args s = true) (hR : rmC_Chart_sizeOf.frames + 1 ≤ R.frames ∧ 8 + (4 + 11) + rmC_Chart_sizeOf.locals ≤ R.locals) : CallW R s args RX0 RX0 95 yX0_sizeOf cX0_sizeOf 4 (some .int) (wz yX0_sizeOf cX0_sizeOf 4 (some .int)) rmC_Chart_sizeOf 0 0 3 := cwV 3 h (gdV k_559 k_561 ks_27 k_8 k_562) rfl rfl rfl (by decide +kernel) hR
theorem cwC_X8_Chart_sizeOf {R : Room} {s : State} {args : Array Value} {E : Ev} {A : Nat → Prop} (h : ∀ w ∈ wA, w.before args s = true) (ok : okC E A s) (hR : rmC_Chart_sizeOf.frames + 1 ≤ R.frames ∧ 8 + (4 + 11) + rmC_Chart_sizeOf.locals ≤ R.locals) : va_CN R s args RX8 78 yX0_sizeOf "ChordGrammars" cX0_sizeOf 4 (some .int) (wz yX0_sizeOf cX0_sizeOf 4 (some .int)) rmC_Chart_sizeOf 0 0 3 ∧ (Cond.instanceMethod yX0_sizeOf).before args s = true ∧ (Cond.selects RX0 yX0_sizeOf yX0_sizeOf).before args s = true := ⟨va_cnB 3 h (gdC k_562) rfl rfl rfl (ok.2.1 _ kn_640) (h _ k_8) (by decide +kernel) hR, h _ k_561, h _ ks_27⟩
/-! ChordGrammars$Chart.countOf: reads only -/
def C_Chart_countOf (σ0 : St) (x1 : Int32) (x2 : Int32) (x3 : Int32) : Option Int64 :=
  if (26 : Int32) ≤ x1 then
    bp (C_Chart_sizeOf σ0 x1 x2 x3) fun r3 =>
    some (r3.toInt64)
  else
    bp (C_Chart_rowOf x1 x2 x3) fun r5 =>
    gd r5 7800 <|
    some (σ0.2 115 r5.toNatClampNeg)
abbrev rmC_Chart_countOf : Room := { frames := 2, cells := 0, slots := 0, locals := 45 }
set_option maxHeartbeats 4000000 in
set_option maxRecDepth 100000 in
theorem cC_Chart_countOf (l : Launch) (E : Ev) (sz : Nat) (σ0 : St) (x1 : Int32) (x2 : Int32) (x3 : Int32) (r : Int64) (hm : C_Chart_countOf σ0 x1 x2 x3 = some r) : Met l yX0_countOf (wz yX0_countOf cX0_countOf 4 (some .long)) rmC_Chart_countOf (PwC E [.ref (E.2.2 1007), .int x1, .int x2, .int x3] σ0 sz) (QlC E σ0 σ0 sz r) 0 0 (va_A (wldC E σ0) sz) := by
  refine enC (own := RX0) (by decide) rfl (Nat.le_of_ble_eq_true rfl) (fun p e s m args below meth c cx hr hlk hml hsz ok hw ls hl => ?_)
  have hx := cx.1
  have hb := cx.2.1
  have hA9 := cx.2.2.2
  have hA : ∀ q, s.heap.size ≤ q → (va_A (wldC E σ0) sz) q := fun q h => Or.inr (by rw [← hsz]; exact h)
  have hl : lv_has ls 4 [(0, .ref (E.2.2 1007)), (1, .int x1), (2, .int x2), (3, .int x3)] := hl
  unfold C_Chart_countOf at hm
  have goal0 : ∀ (H : Heap) (locs : List Loc), wsC E σ0 (va_A (wldC E σ0) sz) s H locs → W p l e rmC_Chart_countOf s m args below meth c H locs 0 0 (MQ below (QlC E σ0 σ0 sz r) args s 0 0 (va_A (wldC E σ0) sz)) (F0 m 0 ls []) := by
    intro H locs hw
    refine lv_iload_n hx hb dX0_countOf_0 rfl (lv_at hl 1 rfl) ?_
    refine lv_bipush (v := (26 : Int32)) hx hb dX0_countOf_1 (by decide) ?_
    refine lv_icmp_ge (tgt := 20) hx hb dX0_countOf_3 (by decide) (fun c1 => ?_) (fun c1 => ?_)
    · have hm := if_t c1 hm
      refine lv_aload_n hx hb dX0_countOf_20 rfl (lv_at hl 0 rfl) ?_
      refine lv_iload_n hx hb dX0_countOf_21 rfl (lv_at hl 1 rfl) ?_
      refine lv_iload_n hx hb dX0_countOf_22 rfl (lv_at hl 2 rfl) ?_
      refine lv_iload_n hx hb dX0_countOf_23 rfl (lv_at hl 3 rfl) ?_
      obtain ⟨r3, h2, hm⟩ := bp_ok hm
      refine clV_Ci (As := [.int x1, .int x2, .int x3]) (rest := []) cx hml hl.1 ok hw hA (rcC_7 ok hw) (cC_Chart_sizeOf l E _ σ0 x1 x2 x3 r3 h2) (cwC_X0_Chart_sizeOf hA9 ⟨Nat.le_of_ble_eq_true rfl, Nat.le_of_ble_eq_true rfl⟩) rfl rfl (Nat.le_of_ble_eq_true rfl) dX0_countOf_24 (fun H locs hw => ?_)
      refine lv_i2l hx hb dX0_countOf_27 rfl ?_
      exact rtC_l cx hr hlk hw (pr_some hm) dX0_countOf_28
    · have hm := if_f c1 hm
      refine lv_aload_n hx hb dX0_countOf_6 rfl (lv_at hl 0 rfl) ?_
      refine gtC_X0_7_3 cx ok hw dX0_countOf_7 ?_
      refine lv_iload_n hx hb dX0_countOf_10 rfl (lv_at hl 1 rfl) ?_
      refine lv_iload_n hx hb dX0_countOf_11 rfl (lv_at hl 2 rfl) ?_
      refine lv_iload_n hx hb dX0_countOf_12 rfl (lv_at hl 3 rfl) ?_
      obtain ⟨r5, h4, hm⟩ := bp_ok hm
      refine clS_Ci (As := [.int x1, .int x2, .int x3]) (rest := [.ref (E.2.2 115)]) cx hml hl.1 ok hw hA (cC_Chart_rowOf l E _ σ0 x1 x2 x3 r5 h4) (cwC_X0_Chart_rowOf hA9 ⟨Nat.le_of_ble_eq_true rfl, Nat.le_of_ble_eq_true rfl⟩) rfl rfl (Nat.le_of_ble_eq_true rfl) dX0_countOf_13 (fun H locs hw => ?_)
      obtain ⟨g6, hm⟩ := gd_ok hm
      refine ldC_115 cx ok hw g6 dX0_countOf_16 ?_
      refine lv_goto (tgt := 28) hx hb dX0_countOf_17 (by decide) ?_
      exact rtC_l cx hr hlk hw (pr_some hm) dX0_countOf_28
  exact goal0 _ _ hw
theorem cwC_X0_Chart_countOf {R : Room} {s : State} {args : Array Value} (h : ∀ w ∈ wA, w.before args s = true) (hR : rmC_Chart_countOf.frames + 1 ≤ R.frames ∧ 8 + (4 + 11) + rmC_Chart_countOf.locals ≤ R.locals) : CallW R s args RX0 RX0 98 yX0_countOf cX0_countOf 4 (some .long) (wz yX0_countOf cX0_countOf 4 (some .long)) rmC_Chart_countOf 0 0 3 := cwV 3 h (gdV k_567 k_569 ks_29 k_8 k_570) rfl rfl rfl (by decide +kernel) hR
/-! ChordGrammars$Chart.entryAt: reads only -/
def C_Chart_entryAt (σ0 : St) (x1 : Int32) (x2 : Int32) (x3 : Int32) (x4 : Int32) : Option Int64 :=
  bp (C_Chart_rowOf x1 x2 x3) fun r2 =>
  gd ((r2 * (30 : Int32)) + x4) 234000 <|
  some (σ0.2 117 ((r2 * (30 : Int32)) + x4).toNatClampNeg)
abbrev rmC_Chart_entryAt : Room := { frames := 1, cells := 0, slots := 0, locals := 22 }
set_option maxHeartbeats 4000000 in
set_option maxRecDepth 100000 in
theorem cC_Chart_entryAt (l : Launch) (E : Ev) (sz : Nat) (σ0 : St) (x1 : Int32) (x2 : Int32) (x3 : Int32) (x4 : Int32) (r : Int64) (hm : C_Chart_entryAt σ0 x1 x2 x3 x4 = some r) : Met l yX0_entryAt (wz yX0_entryAt cX0_entryAt 5 (some .long)) rmC_Chart_entryAt (PwC E [.ref (E.2.2 1007), .int x1, .int x2, .int x3, .int x4] σ0 sz) (QlC E σ0 σ0 sz r) 0 0 (va_A (wldC E σ0) sz) := by
  refine enC (own := RX0) (by decide) rfl (Nat.le_of_ble_eq_true rfl) (fun p e s m args below meth c cx hr hlk hml hsz ok hw ls hl => ?_)
  have hx := cx.1
  have hb := cx.2.1
  have hA9 := cx.2.2.2
  have hA : ∀ q, s.heap.size ≤ q → (va_A (wldC E σ0) sz) q := fun q h => Or.inr (by rw [← hsz]; exact h)
  have hl : lv_has ls 5 [(0, .ref (E.2.2 1007)), (1, .int x1), (2, .int x2), (3, .int x3), (4, .int x4)] := hl
  unfold C_Chart_entryAt at hm
  have goal0 : ∀ (H : Heap) (locs : List Loc), wsC E σ0 (va_A (wldC E σ0) sz) s H locs → W p l e rmC_Chart_entryAt s m args below meth c H locs 0 0 (MQ below (QlC E σ0 σ0 sz r) args s 0 0 (va_A (wldC E σ0) sz)) (F0 m 0 ls []) := by
    intro H locs hw
    refine lv_aload_n hx hb dX0_entryAt_0 rfl (lv_at hl 0 rfl) ?_
    refine gtC_X0_7_5 cx ok hw dX0_entryAt_1 ?_
    refine lv_iload_n hx hb dX0_entryAt_4 rfl (lv_at hl 1 rfl) ?_
    refine lv_iload_n hx hb dX0_entryAt_5 rfl (lv_at hl 2 rfl) ?_
    refine lv_iload_n hx hb dX0_entryAt_6 rfl (lv_at hl 3 rfl) ?_
    obtain ⟨r2, h1, hm⟩ := bp_ok hm
    refine clS_Ci (As := [.int x1, .int x2, .int x3]) (rest := [.ref (E.2.2 117)]) cx hml hl.1 ok hw hA (cC_Chart_rowOf l E _ σ0 x1 x2 x3 r2 h1) (cwC_X0_Chart_rowOf hA9 ⟨Nat.le_of_ble_eq_true rfl, Nat.le_of_ble_eq_true rfl⟩) rfl rfl (Nat.le_of_ble_eq_true rfl) dX0_entryAt_7 (fun H locs hw => ?_)
    refine lv_bipush (v := (30 : Int32)) hx hb dX0_entryAt_10 (by decide) ?_
    refine lv_imul hx hb dX0_entryAt_12 ?_
    refine lv_iload hx hb dX0_entryAt_13 (lv_at hl 4 rfl) ?_
    refine lv_iadd hx hb dX0_entryAt_15 ?_
    obtain ⟨g3, hm⟩ := gd_ok hm
    refine ldC_117 cx ok hw g3 dX0_entryAt_16 ?_
    exact rtC_l cx hr hlk hw (pr_some hm) dX0_entryAt_17
  exact goal0 _ _ hw
theorem cwC_X0_Chart_entryAt {R : Room} {s : State} {args : Array Value} (h : ∀ w ∈ wA, w.before args s = true) (hR : rmC_Chart_entryAt.frames + 1 ≤ R.frames ∧ 8 + (5 + 11) + rmC_Chart_entryAt.locals ≤ R.locals) : CallW R s args RX0 RX0 134 yX0_entryAt cX0_entryAt 5 (some .long) (wz yX0_entryAt cX0_entryAt 5 (some .long)) rmC_Chart_entryAt 0 0 4 := cwV 4 h (gdV k_575 k_577 ks_31 k_8 k_578) rfl rfl rfl (by decide +kernel) hR
theorem cwC_X8_Chart_entryAt {R : Room} {s : State} {args : Array Value} {E : Ev} {A : Nat → Prop} (h : ∀ w ∈ wA, w.before args s = true) (ok : okC E A s) (hR : rmC_Chart_entryAt.frames + 1 ≤ R.frames ∧ 8 + (5 + 11) + rmC_Chart_entryAt.locals ≤ R.locals) : va_CN R s args RX8 82 yX0_entryAt "ChordGrammars" cX0_entryAt 5 (some .long) (wz yX0_entryAt cX0_entryAt 5 (some .long)) rmC_Chart_entryAt 0 0 4 ∧ (Cond.instanceMethod yX0_entryAt).before args s = true ∧ (Cond.selects RX0 yX0_entryAt yX0_entryAt).before args s = true := ⟨va_cnB 4 h (gdC k_578) rfl rfl rfl (ok.2.1 _ kn_641) (h _ k_8) (by decide +kernel) hR, h _ k_577, h _ ks_31⟩
/-! ChordGrammars$Chart.priceOf: reads only -/
def C_Chart_priceOf (σ0 : St) (x1 : Int32) (x2 : Int32) (x3 : Int32) (x4 : Int32) : Option Int32 :=
  if (26 : Int32) ≤ x1 then
    gd (((x2 * (70 : Int32)) + x1) - (26 : Int32)) 1680 <|
    some (σ0.1 177 (((x2 * (70 : Int32)) + x1) - (26 : Int32)).toNatClampNeg)
  else
    bp (C_Chart_entryAt σ0 x1 x2 x3 x4) fun r4 =>
    some (((r4.toUInt64 >>> ((21 : Int32).toInt64.toUInt64 &&& Int64.toUInt64 63)).toInt64).toInt32)
abbrev rmC_Chart_priceOf : Room := { frames := 2, cells := 0, slots := 0, locals := 46 }
set_option maxHeartbeats 4000000 in
set_option maxRecDepth 100000 in
theorem cC_Chart_priceOf (l : Launch) (E : Ev) (sz : Nat) (σ0 : St) (x1 : Int32) (x2 : Int32) (x3 : Int32) (x4 : Int32) (r : Int32) (hm : C_Chart_priceOf σ0 x1 x2 x3 x4 = some r) : Met l yX0_priceOf (wz yX0_priceOf cX0_priceOf 5 (some .int)) rmC_Chart_priceOf (PwC E [.ref (E.2.2 1007), .int x1, .int x2, .int x3, .int x4] σ0 sz) (QiC E σ0 σ0 sz r) 0 0 (va_A (wldC E σ0) sz) := by
  refine enC (own := RX0) (by decide) rfl (Nat.le_of_ble_eq_true rfl) (fun p e s m args below meth c cx hr hlk hml hsz ok hw ls hl => ?_)
  have hx := cx.1
  have hb := cx.2.1
  have hA9 := cx.2.2.2
  have hA : ∀ q, s.heap.size ≤ q → (va_A (wldC E σ0) sz) q := fun q h => Or.inr (by rw [← hsz]; exact h)
  have hl : lv_has ls 5 [(0, .ref (E.2.2 1007)), (1, .int x1), (2, .int x2), (3, .int x3), (4, .int x4)] := hl
  unfold C_Chart_priceOf at hm
  have goal0 : ∀ (H : Heap) (locs : List Loc), wsC E σ0 (va_A (wldC E σ0) sz) s H locs → W p l e rmC_Chart_priceOf s m args below meth c H locs 0 0 (MQ below (QiC E σ0 σ0 sz r) args s 0 0 (va_A (wldC E σ0) sz)) (F0 m 0 ls []) := by
    intro H locs hw
    refine lv_iload_n hx hb dX0_priceOf_0 rfl (lv_at hl 1 rfl) ?_
    refine lv_bipush (v := (26 : Int32)) hx hb dX0_priceOf_1 (by decide) ?_
    refine lv_icmp_ge (tgt := 20) hx hb dX0_priceOf_3 (by decide) (fun c1 => ?_) (fun c1 => ?_)
    · have hm := if_t c1 hm
      refine lv_aload_n hx hb dX0_priceOf_20 rfl (lv_at hl 0 rfl) ?_
      refine gtC_X0_7_1 cx ok hw dX0_priceOf_21 ?_
      refine gtC_X0_11_1 cx ok hw dX0_priceOf_24 ?_
      refine lv_iload_n hx hb dX0_priceOf_27 rfl (lv_at hl 2 rfl) ?_
      refine lv_bipush (v := (70 : Int32)) hx hb dX0_priceOf_28 (by decide) ?_
      refine lv_imul hx hb dX0_priceOf_30 ?_
      refine lv_iload_n hx hb dX0_priceOf_31 rfl (lv_at hl 1 rfl) ?_
      refine lv_iadd hx hb dX0_priceOf_32 ?_
      refine lv_bipush (v := (26 : Int32)) hx hb dX0_priceOf_33 (by decide) ?_
      refine lv_isub hx hb dX0_priceOf_35 ?_
      obtain ⟨g2, hm⟩ := gd_ok hm
      refine ldC_177 cx ok hw g2 dX0_priceOf_36 ?_
      exact rtC_i cx hr hlk hw (pr_some hm) dX0_priceOf_37
    · have hm := if_f c1 hm
      refine lv_aload_n hx hb dX0_priceOf_6 rfl (lv_at hl 0 rfl) ?_
      refine lv_iload_n hx hb dX0_priceOf_7 rfl (lv_at hl 1 rfl) ?_
      refine lv_iload_n hx hb dX0_priceOf_8 rfl (lv_at hl 2 rfl) ?_
      refine lv_iload_n hx hb dX0_priceOf_9 rfl (lv_at hl 3 rfl) ?_
      refine lv_iload hx hb dX0_priceOf_10 (lv_at hl 4 rfl) ?_
      obtain ⟨r4, h3, hm⟩ := bp_ok hm
      refine clV_Cl (As := [.int x1, .int x2, .int x3, .int x4]) (rest := []) cx hml hl.1 ok hw hA (rcC_7 ok hw) (cC_Chart_entryAt l E _ σ0 x1 x2 x3 x4 r4 h3) (cwC_X0_Chart_entryAt hA9 ⟨Nat.le_of_ble_eq_true rfl, Nat.le_of_ble_eq_true rfl⟩) rfl rfl (Nat.le_of_ble_eq_true rfl) dX0_priceOf_12 (fun H locs hw => ?_)
      refine lv_bipush (v := (21 : Int32)) hx hb dX0_priceOf_15 (by decide) ?_
      refine lv_lushr hx hb dX0_priceOf_17 rfl ?_
      refine lv_l2i hx hb dX0_priceOf_18 rfl ?_
      exact rtC_i cx hr hlk hw (pr_some hm) dX0_priceOf_19
  exact goal0 _ _ hw
theorem cwC_X0_Chart_priceOf {R : Room} {s : State} {args : Array Value} (h : ∀ w ∈ wA, w.before args s = true) (hR : rmC_Chart_priceOf.frames + 1 ≤ R.frames ∧ 8 + (5 + 11) + rmC_Chart_priceOf.locals ≤ R.locals) : CallW R s args RX0 RX0 105 yX0_priceOf cX0_priceOf 5 (some .int) (wz yX0_priceOf cX0_priceOf 5 (some .int)) rmC_Chart_priceOf 0 0 4 := cwV 4 h (gdV k_571 k_573 ks_30 k_8 k_574) rfl rfl rfl (by decide +kernel) hR

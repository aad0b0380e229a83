/-! ChordGrammars$Chart.entryOf: reads only -/
def C_Chart_entryOf (x0 : Int32) (x1 : Int32) (x2 : Int32) (x3 : Int32) (x4 : Int32) : Option Int64 :=
  lt ((((((x1 <<< ((15 : Int32) &&& 31)) ||| (x2 <<< ((10 : Int32) &&& 31))) ||| (x3 <<< ((5 : Int32) &&& 31))) ||| x4).toInt64)) fun x5_1 =>
  some (((x0.toInt64) <<< ((21 : Int32).toInt64 &&& 63)) ||| x5_1)
abbrev rmC_Chart_entryOf : Room := { frames := 0, cells := 0, slots := 0, locals := 0 }
set_option maxHeartbeats 4000000 in
set_option maxRecDepth 100000 in
theorem cC_Chart_entryOf (l : Launch) (E : Ev) (sz : Nat) (σ0 : St) (x0 : Int32) (x1 : Int32) (x2 : Int32) (x3 : Int32) (x4 : Int32) (r : Int64) (hm : C_Chart_entryOf x0 x1 x2 x3 x4 = some r) : Met l yX0_entryOf (wz yX0_entryOf cX0_entryOf 7 (some .long)) rmC_Chart_entryOf (PwC E [.int x0, .int x1, .int x2, .int x3, .int x4] σ0 sz) (QlC E σ0 σ0 sz r) 0 0 (va_A (wldC E σ0) sz) := by
  refine enC (own := RX0) (by decide) rfl (Nat.le_of_ble_eq_true rfl) (fun p e s m args below meth c cx hr hlk hml hsz ok hw ls hl => ?_)
  have hx := cx.1
  have hb := cx.2.1
  have hA9 := cx.2.2.2
  have hA : ∀ q, s.heap.size ≤ q → (va_A (wldC E σ0) sz) q := fun q h => Or.inr (by rw [← hsz]; exact h)
  have hl : lv_has ls 7 [(0, .int x0), (1, .int x1), (2, .int x2), (3, .int x3), (4, .int x4)] := hl
  unfold C_Chart_entryOf at hm
  have goal0 : ∀ (H : Heap) (locs : List Loc), wsC E σ0 (va_A (wldC E σ0) sz) s H locs → W p l e rmC_Chart_entryOf s m args below meth c H locs 0 0 (MQ below (QlC E σ0 σ0 sz r) args s 0 0 (va_A (wldC E σ0) sz)) (F0 m 0 ls []) := by
    intro H locs hw
    refine lv_iload_n hx hb dX0_entryOf_0 rfl (lv_at hl 1 rfl) ?_
    refine lv_bipush (v := (15 : Int32)) hx hb dX0_entryOf_1 (by decide) ?_
    refine lv_ishl hx hb dX0_entryOf_3 ?_
    refine lv_iload_n hx hb dX0_entryOf_4 rfl (lv_at hl 2 rfl) ?_
    refine lv_bipush (v := (10 : Int32)) hx hb dX0_entryOf_5 (by decide) ?_
    refine lv_ishl hx hb dX0_entryOf_7 ?_
    refine lv_ior hx hb dX0_entryOf_8 ?_
    refine lv_iload_n hx hb dX0_entryOf_9 rfl (lv_at hl 3 rfl) ?_
    refine lv_iconst (v := (5 : Int32)) hx hb dX0_entryOf_10 (by decide) ?_
    refine lv_ishl hx hb dX0_entryOf_11 ?_
    refine lv_ior hx hb dX0_entryOf_12 ?_
    refine lv_iload hx hb dX0_entryOf_13 (lv_at hl 4 rfl) ?_
    refine lv_ior hx hb dX0_entryOf_15 ?_
    refine lv_i2l hx hb dX0_entryOf_16 rfl ?_
    obtain ⟨x5_1, e2, hm⟩ := lt_ok hm
    refine tl_eq e2 ?_
    refine lv_lstore (lv' := [(5, .long x5_1), (0, .int x0), (1, .int x1), (2, .int x2), (3, .int x3), (4, .int x4)]) hx hb dX0_entryOf_17 hl (by decide) rfl (fun ls hl => ?_)
    refine lv_iload_n hx hb dX0_entryOf_19 rfl (lv_at hl 1 rfl) ?_
    refine lv_i2l hx hb dX0_entryOf_20 rfl ?_
    refine lv_bipush (v := (21 : Int32)) hx hb dX0_entryOf_21 (by decide) ?_
    refine lv_lshl hx hb dX0_entryOf_23 rfl ?_
    refine lv_lload hx hb dX0_entryOf_24 (lv_at hl 0 rfl) ?_
    refine lv_lor hx hb dX0_entryOf_26 ?_
    exact rtC_l cx hr hlk hw (pr_some hm) dX0_entryOf_27
  exact goal0 _ _ hw
theorem cwC_X0_Chart_entryOf {R : Room} {s : State} {args : Array Value} (h : ∀ w ∈ wA, w.before args s = true) (hR : rmC_Chart_entryOf.frames + 1 ≤ R.frames ∧ 8 + (7 + 11) + rmC_Chart_entryOf.locals ≤ R.locals) : CallB R s args RX0 109 yX0_entryOf cX0_entryOf 7 (some .long) (wz yX0_entryOf cX0_entryOf 7 (some .long)) rmC_Chart_entryOf 0 0 5 ∧ (Cond.static yX0_entryOf).before args s = true := va_cwS 5 h (gdS k_579 k_580 k_8 k_581) rfl rfl rfl (by decide +kernel) hR
/-! ChordGrammars$Chart.offer: writes, loops -/
def C_Chart_offer_l55 (n : Nat) : Nat → St → Int64 → Int32 → Int32 → Option (Int32 × St)
  | 0, _, _, _, _ => none
  | f + 1, σ, x2, x4, x5 =>
    if x5 ≤ 0 then
      gd (x4 + x5) 234000 <|
      lt (sJ σ 117 (x4 + x5).toNatClampNeg x2) fun σ3 =>
      some ((1 : Int32), σ3)
    else
      gd ((x4 + x5) - (1 : Int32)) 234000 <|
      if (lg_cmp (σ.2 117 ((x4 + x5) - (1 : Int32)).toNatClampNeg) x2) ≤ 0 then
        gd (x4 + x5) 234000 <|
        lt (sJ σ 117 (x4 + x5).toNatClampNeg x2) fun σ8 =>
        some ((1 : Int32), σ8)
      else
        gd ((x4 + x5) - (1 : Int32)) 234000 <|
        gd (x4 + x5) 234000 <|
        lt (sJ σ 117 (x4 + x5).toNatClampNeg (σ.2 117 ((x4 + x5) - (1 : Int32)).toNatClampNeg)) fun σ12 =>
        lt (x5 + (-1 : Int32)) fun x5_14 =>
        (C_Chart_offer_l55 n f) σ12 x2 x4 x5_14
def C_Chart_offer (n : Nat) (σ0 : St) (x1 : Int32) (x2 : Int64) : Option (Int32 × St) :=
  lt ((x1 * (30 : Int32))) fun x4_1 =>
  gd x1 7800 <|
  lt ((σ0.1 116 x1.toNatClampNeg)) fun x5_4 =>
  if (30 : Int32) ≤ x5_4 then
    gd (x4_1 + (29 : Int32)) 234000 <|
    if (lg_cmp x2 (σ0.2 117 (x4_1 + (29 : Int32)).toNatClampNeg)) < 0 then
      C_Chart_offer_l55 n n σ0 x2 x4_1 (29 : Int32)
    else
      some ((0 : Int32), σ0)
  else
    gd x1 7800 <|
    lt (sI σ0 116 x1.toNatClampNeg (x5_4 + (1 : Int32))) fun σ10 =>
    C_Chart_offer_l55 n n σ10 x2 x4_1 x5_4
abbrev rmC_Chart_offer : Room := { frames := 0, cells := 0, slots := 0, locals := 0 }
set_option maxHeartbeats 4000000 in
set_option maxRecDepth 100000 in
theorem cC_Chart_offer (l : Launch) (E : Ev) (n : Nat) (sz : Nat) (σ0 σ' : St) (x1 : Int32) (x2 : Int64) (r : Int32) (hm : C_Chart_offer n σ0 x1 x2 = some (r, σ')) : Met l yX0_offer (wz yX0_offer cX0_offer 6 (some .boolean)) rmC_Chart_offer (PwC E [.ref (E.2.2 1007), .int x1, .long x2] σ0 sz) (QiC E σ0 σ' sz r) 0 0 (va_A (wldC E σ0) sz) := by
  refine enC (own := RX0) (by decide) rfl (Nat.le_of_ble_eq_true rfl) (fun p e s m args below meth c cx hr hlk hml hsz ok hw ls hl => ?_)
  have hx := cx.1
  have hb := cx.2.1
  have hA9 := cx.2.2.2
  have hA : ∀ q, s.heap.size ≤ q → (va_A (wldC E σ0) sz) q := fun q h => Or.inr (by rw [← hsz]; exact h)
  have w_55 : ∀ (f : Nat), ∀ (σ : St) (x2 : Int64) (x4 : Int32) (x5 : Int32) (H : Heap) (locs : List Loc) (ls : Array Slot), wsC E σ (va_A (wldC E σ0) sz) s H locs → lv_has ls 6 [(0, .ref (E.2.2 1007)), (2, .long x2), (4, .int x4), (5, .int x5)] → C_Chart_offer_l55 n f σ x2 x4 x5 = some (r, σ') → W p l e rmC_Chart_offer s m args below meth c H locs 0 0 (MQ below (QiC E σ0 σ' sz r) args s 0 0 (va_A (wldC E σ0) sz)) (F0 m 55 ls []) := by
    intro f
    induction f with
    | zero =>
      intro σ x2 x4 x5 H locs ls hw hl hm
      rw [C_Chart_offer_l55] at hm
      cases hm
    | succ f ih =>
      intro σ x2 x4 x5 H locs ls hw hl hm
      rw [C_Chart_offer_l55] at hm
      refine lv_iload hx hb dX0_offer_55 (lv_at hl 3 rfl) ?_
      refine lv_if_le (tgt := 105) hx hb dX0_offer_57 (by decide) (fun c1 => ?_) (fun c1 => ?_)
      · have hm := if_t c1 hm
        refine lv_aload_n hx hb dX0_offer_105 rfl (lv_at hl 0 rfl) ?_
        refine gtC_X0_7_5 cx ok hw dX0_offer_106 ?_
        refine lv_iload hx hb dX0_offer_109 (lv_at hl 2 rfl) ?_
        refine lv_iload hx hb dX0_offer_111 (lv_at hl 3 rfl) ?_
        refine lv_iadd hx hb dX0_offer_113 ?_
        refine lv_lload_n hx hb dX0_offer_114 rfl (lv_at hl 1 rfl) ?_
        obtain ⟨g2, hm⟩ := gd_ok hm
        refine stC_117 cx ok hw g2 dX0_offer_115 (fun H locs hw => ?_)
        obtain ⟨σ3, e4, hm⟩ := lt_ok hm
        have hw := wsC_eq e4 hw
        refine lv_iconst (v := (1 : Int32)) hx hb dX0_offer_116 (by decide) ?_
        exact rtC_z cx hr hlk hw (by decide) hm dX0_offer_117
      · have hm := if_f c1 hm
        refine lv_aload_n hx hb dX0_offer_60 rfl (lv_at hl 0 rfl) ?_
        refine gtC_X0_7_5 cx ok hw dX0_offer_61 ?_
        refine lv_iload hx hb dX0_offer_64 (lv_at hl 2 rfl) ?_
        refine lv_iload hx hb dX0_offer_66 (lv_at hl 3 rfl) ?_
        refine lv_iadd hx hb dX0_offer_68 ?_
        refine lv_iconst (v := (1 : Int32)) hx hb dX0_offer_69 (by decide) ?_
        refine lv_isub hx hb dX0_offer_70 ?_
        obtain ⟨g5, hm⟩ := gd_ok hm
        refine ldC_117 cx ok hw g5 dX0_offer_71 ?_
        refine lv_lload_n hx hb dX0_offer_72 rfl (lv_at hl 1 rfl) ?_
        refine W.lcmp hx hb dX0_offer_73 ?_
        refine lv_if_le (tgt := 105) hx hb dX0_offer_74 (by decide) (fun c6 => ?_) (fun c6 => ?_)
        · have hm := if_t c6 hm
          refine lv_aload_n hx hb dX0_offer_105 rfl (lv_at hl 0 rfl) ?_
          refine gtC_X0_7_5 cx ok hw dX0_offer_106 ?_
          refine lv_iload hx hb dX0_offer_109 (lv_at hl 2 rfl) ?_
          refine lv_iload hx hb dX0_offer_111 (lv_at hl 3 rfl) ?_
          refine lv_iadd hx hb dX0_offer_113 ?_
          refine lv_lload_n hx hb dX0_offer_114 rfl (lv_at hl 1 rfl) ?_
          obtain ⟨g7, hm⟩ := gd_ok hm
          refine stC_117 cx ok hw g7 dX0_offer_115 (fun H locs hw => ?_)
          obtain ⟨σ8, e9, hm⟩ := lt_ok hm
          have hw := wsC_eq e9 hw
          refine lv_iconst (v := (1 : Int32)) hx hb dX0_offer_116 (by decide) ?_
          exact rtC_z cx hr hlk hw (by decide) hm dX0_offer_117
        · have hm := if_f c6 hm
          refine lv_aload_n hx hb dX0_offer_77 rfl (lv_at hl 0 rfl) ?_
          refine gtC_X0_7_5 cx ok hw dX0_offer_78 ?_
          refine lv_iload hx hb dX0_offer_81 (lv_at hl 2 rfl) ?_
          refine lv_iload hx hb dX0_offer_83 (lv_at hl 3 rfl) ?_
          refine lv_iadd hx hb dX0_offer_85 ?_
          refine lv_aload_n hx hb dX0_offer_86 rfl (lv_at hl 0 rfl) ?_
          refine gtC_X0_7_5 cx ok hw dX0_offer_87 ?_
          refine lv_iload hx hb dX0_offer_90 (lv_at hl 2 rfl) ?_
          refine lv_iload hx hb dX0_offer_92 (lv_at hl 3 rfl) ?_
          refine lv_iadd hx hb dX0_offer_94 ?_
          refine lv_iconst (v := (1 : Int32)) hx hb dX0_offer_95 (by decide) ?_
          refine lv_isub hx hb dX0_offer_96 ?_
          obtain ⟨g10, hm⟩ := gd_ok hm
          refine ldC_117 cx ok hw g10 dX0_offer_97 ?_
          obtain ⟨g11, hm⟩ := gd_ok hm
          refine stC_117 cx ok hw g11 dX0_offer_98 (fun H locs hw => ?_)
          obtain ⟨σ12, e13, hm⟩ := lt_ok hm
          have hw := wsC_eq e13 hw
          obtain ⟨x5_14, e15, hm⟩ := lt_ok hm
          refine lv_iinc (v := x5_14) (lv' := [(5, .int x5_14), (0, .ref (E.2.2 1007)), (2, .long x2), (4, .int x4)]) hx hb dX0_offer_99 hl (k := 3) rfl (by rw [e15]; rfl) (by decide) rfl (fun ls hl => ?_)
          refine lv_goto (tgt := 55) hx hb dX0_offer_102 (by decide) ?_
          exact ih σ12 x2 x4 x5_14 H locs ls hw (lv_sub hl [1, 2, 3, 0] rfl) hm
  have hl : lv_has ls 6 [(0, .ref (E.2.2 1007)), (1, .int x1), (2, .long x2)] := hl
  unfold C_Chart_offer at hm
  have goal0 : ∀ (H : Heap) (locs : List Loc), wsC E σ0 (va_A (wldC E σ0) sz) s H locs → W p l e rmC_Chart_offer s m args below meth c H locs 0 0 (MQ below (QiC E σ0 σ' sz r) args s 0 0 (va_A (wldC E σ0) sz)) (F0 m 0 ls []) := by
    intro H locs hw
    refine lv_iload_n hx hb dX0_offer_0 rfl (lv_at hl 1 rfl) ?_
    refine lv_bipush (v := (30 : Int32)) hx hb dX0_offer_1 (by decide) ?_
    refine lv_imul hx hb dX0_offer_3 ?_
    obtain ⟨x4_1, e2, hm⟩ := lt_ok hm
    refine ti_eq e2 ?_
    refine lv_istore (lv' := [(4, .int x4_1), (0, .ref (E.2.2 1007)), (1, .int x1), (2, .long x2)]) hx hb dX0_offer_4 hl (by decide) rfl (fun ls hl => ?_)
    refine lv_aload_n hx hb dX0_offer_6 rfl (lv_at hl 1 rfl) ?_
    refine gtC_X0_7_4 cx ok hw dX0_offer_7 ?_
    refine lv_iload_n hx hb dX0_offer_10 rfl (lv_at hl 2 rfl) ?_
    obtain ⟨g3, hm⟩ := gd_ok hm
    refine ldC_116 cx ok hw g3 dX0_offer_11 ?_
    obtain ⟨x5_4, e5, hm⟩ := lt_ok hm
    refine ti_eq e5 ?_
    refine lv_istore (lv' := [(5, .int x5_4), (4, .int x4_1), (0, .ref (E.2.2 1007)), (1, .int x1), (2, .long x2)]) hx hb dX0_offer_12 hl (by decide) rfl (fun ls hl => ?_)
    refine lv_iload hx hb dX0_offer_14 (lv_at hl 0 rfl) ?_
    refine lv_bipush (v := (30 : Int32)) hx hb dX0_offer_16 (by decide) ?_
    refine lv_icmp_ge (tgt := 34) hx hb dX0_offer_18 (by decide) (fun c6 => ?_) (fun c6 => ?_)
    · have hm := if_t c6 hm
      refine lv_bipush (v := (29 : Int32)) hx hb dX0_offer_34 (by decide) ?_
      refine lv_istore (lv' := [(5, .int (29 : Int32)), (4, .int x4_1), (0, .ref (E.2.2 1007)), (1, .int x1), (2, .long x2)]) hx hb dX0_offer_36 hl (by decide) rfl (fun ls hl => ?_)
      refine lv_lload_n hx hb dX0_offer_38 rfl (lv_at hl 4 rfl) ?_
      refine lv_aload_n hx hb dX0_offer_39 rfl (lv_at hl 2 rfl) ?_
      refine gtC_X0_7_5 cx ok hw dX0_offer_40 ?_
      refine lv_iload hx hb dX0_offer_43 (lv_at hl 1 rfl) ?_
      refine lv_iload hx hb dX0_offer_45 (lv_at hl 0 rfl) ?_
      refine lv_iadd hx hb dX0_offer_47 ?_
      obtain ⟨g7, hm⟩ := gd_ok hm
      refine ldC_117 cx ok hw g7 dX0_offer_48 ?_
      refine W.lcmp hx hb dX0_offer_49 ?_
      refine lv_if_lt (tgt := 55) hx hb dX0_offer_50 (by decide) (fun c8 => ?_) (fun c8 => ?_)
      · have hm := if_t c8 hm
        exact w_55 n σ0 x2 x4_1 (29 : Int32) H locs ls hw (lv_sub hl [2, 4, 1, 0] rfl) hm
      · have hm := if_f c8 hm
        refine lv_iconst (v := (0 : Int32)) hx hb dX0_offer_53 (by decide) ?_
        exact rtC_z cx hr hlk hw (by decide) hm dX0_offer_54
    · have hm := if_f c6 hm
      refine lv_aload_n hx hb dX0_offer_21 rfl (lv_at hl 2 rfl) ?_
      refine gtC_X0_7_4 cx ok hw dX0_offer_22 ?_
      refine lv_iload_n hx hb dX0_offer_25 rfl (lv_at hl 3 rfl) ?_
      refine lv_iload hx hb dX0_offer_26 (lv_at hl 0 rfl) ?_
      refine lv_iconst (v := (1 : Int32)) hx hb dX0_offer_28 (by decide) ?_
      refine lv_iadd hx hb dX0_offer_29 ?_
      obtain ⟨g9, hm⟩ := gd_ok hm
      refine stC_116 cx ok hw g9 dX0_offer_30 (fun H locs hw => ?_)
      obtain ⟨σ10, e11, hm⟩ := lt_ok hm
      have hw := wsC_eq e11 hw
      refine lv_goto (tgt := 55) hx hb dX0_offer_31 (by decide) ?_
      exact w_55 n σ10 x2 x4_1 x5_4 H locs ls hw (lv_sub hl [2, 4, 1, 0] rfl) hm
  exact goal0 _ _ hw
theorem cwC_X0_Chart_offer {R : Room} {s : State} {args : Array Value} (h : ∀ w ∈ wA, w.before args s = true) (hR : rmC_Chart_offer.frames + 1 ≤ R.frames ∧ 8 + (6 + 11) + rmC_Chart_offer.locals ≤ R.locals) : CallW R s args RX0 RX0 113 yX0_offer cX0_offer 6 (some .boolean) (wz yX0_offer cX0_offer 6 (some .boolean)) rmC_Chart_offer 0 0 2 := cwV 2 h (gdV k_582 k_584 ks_32 k_8 k_585) rfl rfl rfl (by decide +kernel) hR
/-! ChordGrammars$Chart.addWhole: writes, loops -/
def C_Chart_addWhole_l67 (n : Nat) : Nat → St → Int32 → Int32 → Int32 → Int32 → Int32 → Int32 → Int32 → Int32 → Option St
  | 0, _, _, _, _, _, _, _, _, _ => none
  | f + 1, σ, x1, x2, x3, x4, x5, x6, x7, x8 =>
    if x6 ≤ x8 then
      some σ
    else
      if x7 = 0 then
        some σ
      else
        gd x1 60 <|
        bp (C_Chart_priceOf σ x5 x2 x3 x8) fun r5 =>
        lt (((σ.1 163 x1.toNatClampNeg) + r5)) fun x9_6 =>
        bp (C_Chart_entryOf x9_6 x1 (0 : Int32) x8 (0 : Int32)) fun r9 =>
        bd (C_Chart_offer n σ x4 r9) fun r11 σ12 =>
        lt (x8 + (1 : Int32)) fun x8_13 =>
        (C_Chart_addWhole_l67 n f) σ12 x1 x2 x3 x4 x5 x6 r11 x8_13
def C_Chart_addWhole (n : Nat) (σ0 : St) (x1 : Int32) (x2 : Int32) (x3 : Int32) : Option St :=
  gd x1 60 <|
  bp (C_Chart_rowOf (σ0.1 160 x1.toNatClampNeg) x2 x3) fun r3 =>
  gd x1 60 <|
  lt ((σ0.1 161 x1.toNatClampNeg)) fun x5_5 =>
  bp (C_Chart_sizeOf σ0 x5_5 x2 x3) fun r8 =>
  if r8 = 0 then
    some σ0
  else
    gd r3 7800 <|
    bp (C_Chart_countOf σ0 x5_5 x2 x3) fun r12 =>
    gd r3 7800 <|
    lt (sJ σ0 115 r3.toNatClampNeg ((σ0.2 115 r3.toNatClampNeg) + r12)) fun σ14 =>
    C_Chart_addWhole_l67 n n σ14 x1 x2 x3 r3 x5_5 r8 (1 : Int32) (0 : Int32)
abbrev rmC_Chart_addWhole : Room := { frames := 3, cells := 0, slots := 0, locals := 70 }
set_option maxHeartbeats 4000000 in
set_option maxRecDepth 100000 in
theorem cC_Chart_addWhole (l : Launch) (E : Ev) (n : Nat) (sz : Nat) (σ0 σ' : St) (x1 : Int32) (x2 : Int32) (x3 : Int32) (hm : C_Chart_addWhole n σ0 x1 x2 x3 = some σ') : Met l yX0_addWhole (wz yX0_addWhole cX0_addWhole 10 none) rmC_Chart_addWhole (PwC E [.ref (E.2.2 1007), .int x1, .int x2, .int x3] σ0 sz) (QvC E σ0 σ' sz) 0 0 (va_A (wldC E σ0) sz) := by
  refine enC (own := RX0) (by decide) rfl (Nat.le_of_ble_eq_true rfl) (fun p e s m args below meth c cx hr hlk hml hsz ok hw ls hl => ?_)
  have hx := cx.1
  have hb := cx.2.1
  have hA9 := cx.2.2.2
  have hA : ∀ q, s.heap.size ≤ q → (va_A (wldC E σ0) sz) q := fun q h => Or.inr (by rw [← hsz]; exact h)
  have w_67 : ∀ (f : Nat), ∀ (σ : St) (x1 : Int32) (x2 : Int32) (x3 : Int32) (x4 : Int32) (x5 : Int32) (x6 : Int32) (x7 : Int32) (x8 : Int32) (H : Heap) (locs : List Loc) (ls : Array Slot), wsC E σ (va_A (wldC E σ0) sz) s H locs → lv_has ls 10 [(0, .ref (E.2.2 1007)), (1, .int x1), (2, .int x2), (3, .int x3), (4, .int x4), (5, .int x5), (6, .int x6), (7, .int x7), (8, .int x8)] → C_Chart_addWhole_l67 n f σ x1 x2 x3 x4 x5 x6 x7 x8 = some σ' → W p l e rmC_Chart_addWhole s m args below meth c H locs 0 0 (MQ below (QvC E σ0 σ' sz) args s 0 0 (va_A (wldC E σ0) sz)) (F0 m 67 ls []) := by
    intro f
    induction f with
    | zero =>
      intro σ x1 x2 x3 x4 x5 x6 x7 x8 H locs ls hw hl hm
      rw [C_Chart_addWhole_l67] at hm
      cases hm
    | succ f ih =>
      intro σ x1 x2 x3 x4 x5 x6 x7 x8 H locs ls hw hl hm
      rw [C_Chart_addWhole_l67] at hm
      refine lv_iload hx hb dX0_addWhole_67 (lv_at hl 8 rfl) ?_
      refine lv_iload hx hb dX0_addWhole_69 (lv_at hl 6 rfl) ?_
      refine lv_icmp_ge (tgt := 125) hx hb dX0_addWhole_71 (by decide) (fun c1 => ?_) (fun c1 => ?_)
      · have hm := if_t c1 hm
        exact rtC_v cx hr hlk hw hm dX0_addWhole_125
      · have hm := if_f c1 hm
        refine lv_iload hx hb dX0_addWhole_74 (lv_at hl 7 rfl) ?_
        refine lv_if_eq (tgt := 125) hx hb dX0_addWhole_76 (by decide) (fun c2 => ?_) (fun c2 => ?_)
        · have hm := if_t c2 hm
          exact rtC_v cx hr hlk hw hm dX0_addWhole_125
        · have hm := if_f c2 hm
          refine lv_aload_n hx hb dX0_addWhole_79 rfl (lv_at hl 0 rfl) ?_
          refine gtC_X0_7_0 cx ok hw dX0_addWhole_80 ?_
          refine gtC_X0_10_3 cx ok hw dX0_addWhole_83 ?_
          refine lv_iload_n hx hb dX0_addWhole_86 rfl (lv_at hl 1 rfl) ?_
          obtain ⟨g3, hm⟩ := gd_ok hm
          refine ldC_163 cx ok hw g3 dX0_addWhole_87 ?_
          refine lv_aload_n hx hb dX0_addWhole_88 rfl (lv_at hl 0 rfl) ?_
          refine lv_iload hx hb dX0_addWhole_89 (lv_at hl 5 rfl) ?_
          refine lv_iload_n hx hb dX0_addWhole_91 rfl (lv_at hl 2 rfl) ?_
          refine lv_iload_n hx hb dX0_addWhole_92 rfl (lv_at hl 3 rfl) ?_
          refine lv_iload hx hb dX0_addWhole_93 (lv_at hl 8 rfl) ?_
          obtain ⟨r5, h4, hm⟩ := bp_ok hm
          refine clV_Ci (As := [.int x5, .int x2, .int x3, .int x8]) (rest := [.int (σ.1 163 x1.toNatClampNeg)]) cx hml hl.1 ok hw hA (rcC_7 ok hw) (cC_Chart_priceOf l E _ σ x5 x2 x3 x8 r5 h4) (cwC_X0_Chart_priceOf hA9 ⟨Nat.le_of_ble_eq_true rfl, Nat.le_of_ble_eq_true rfl⟩) rfl rfl (Nat.le_of_ble_eq_true rfl) dX0_addWhole_95 (fun H locs hw => ?_)
          refine lv_iadd hx hb dX0_addWhole_98 ?_
          obtain ⟨x9_6, e7, hm⟩ := lt_ok hm
          refine ti_eq e7 ?_
          refine lv_istore (lv' := [(9, .int x9_6), (0, .ref (E.2.2 1007)), (1, .int x1), (2, .int x2), (3, .int x3), (4, .int x4), (5, .int x5), (6, .int x6), (7, .int x7), (8, .int x8)]) hx hb dX0_addWhole_99 hl (by decide) rfl (fun ls hl => ?_)
          refine lv_aload_n hx hb dX0_addWhole_101 rfl (lv_at hl 1 rfl) ?_
          refine lv_iload hx hb dX0_addWhole_102 (lv_at hl 5 rfl) ?_
          refine lv_iload hx hb dX0_addWhole_104 (lv_at hl 0 rfl) ?_
          refine lv_iload_n hx hb dX0_addWhole_106 rfl (lv_at hl 2 rfl) ?_
          refine lv_iconst (v := (0 : Int32)) hx hb dX0_addWhole_107 (by decide) ?_
          refine lv_iload hx hb dX0_addWhole_108 (lv_at hl 9 rfl) ?_
          refine lv_iconst (v := (0 : Int32)) hx hb dX0_addWhole_110 (by decide) ?_
          obtain ⟨r9, h8, hm⟩ := bp_ok hm
          refine clS_Cl (As := [.int x9_6, .int x1, .int (0 : Int32), .int x8, .int (0 : Int32)]) (rest := [.int x4, .ref (E.2.2 1007)]) cx hml hl.1 ok hw hA (cC_Chart_entryOf l E _ σ x9_6 x1 (0 : Int32) x8 (0 : Int32) r9 h8) (cwC_X0_Chart_entryOf hA9 ⟨Nat.le_of_ble_eq_true rfl, Nat.le_of_ble_eq_true rfl⟩) rfl rfl (Nat.le_of_ble_eq_true rfl) dX0_addWhole_111 (fun H locs hw => ?_)
          obtain ⟨r11, σ12, h10, hm⟩ := bd_ok hm
          refine clV_Ci (As := [.int x4, .long r9]) (rest := []) cx hml hl.1 ok hw hA (rcC_7 ok hw) (cC_Chart_offer l E n _ σ σ12 x4 r9 r11 h10) (cwC_X0_Chart_offer hA9 ⟨Nat.le_of_ble_eq_true rfl, Nat.le_of_ble_eq_true rfl⟩) rfl rfl (Nat.le_of_ble_eq_true rfl) dX0_addWhole_114 (fun H locs hw => ?_)
          refine lv_istore (lv' := [(7, .int r11), (9, .int x9_6), (0, .ref (E.2.2 1007)), (1, .int x1), (2, .int x2), (3, .int x3), (4, .int x4), (5, .int x5), (6, .int x6), (8, .int x8)]) hx hb dX0_addWhole_117 hl (by decide) rfl (fun ls hl => ?_)
          obtain ⟨x8_13, e14, hm⟩ := lt_ok hm
          refine lv_iinc (v := x8_13) (lv' := [(8, .int x8_13), (7, .int r11), (9, .int x9_6), (0, .ref (E.2.2 1007)), (1, .int x1), (2, .int x2), (3, .int x3), (4, .int x4), (5, .int x5), (6, .int x6)]) hx hb dX0_addWhole_119 hl (k := 9) rfl (by rw [e14]; rfl) (by decide) rfl (fun ls hl => ?_)
          refine lv_goto (tgt := 67) hx hb dX0_addWhole_122 (by decide) ?_
          exact ih σ12 x1 x2 x3 x4 x5 x6 r11 x8_13 H locs ls hw (lv_sub hl [3, 4, 5, 6, 7, 8, 9, 1, 0] rfl) hm
  have hl : lv_has ls 10 [(0, .ref (E.2.2 1007)), (1, .int x1), (2, .int x2), (3, .int x3)] := hl
  unfold C_Chart_addWhole at hm
  have goal0 : ∀ (H : Heap) (locs : List Loc), wsC E σ0 (va_A (wldC E σ0) sz) s H locs → W p l e rmC_Chart_addWhole s m args below meth c H locs 0 0 (MQ below (QvC E σ0 σ' sz) args s 0 0 (va_A (wldC E σ0) sz)) (F0 m 0 ls []) := by
    intro H locs hw
    refine lv_aload_n hx hb dX0_addWhole_0 rfl (lv_at hl 0 rfl) ?_
    refine gtC_X0_7_0 cx ok hw dX0_addWhole_1 ?_
    refine gtC_X0_10_0 cx ok hw dX0_addWhole_4 ?_
    refine lv_iload_n hx hb dX0_addWhole_7 rfl (lv_at hl 1 rfl) ?_
    obtain ⟨g1, hm⟩ := gd_ok hm
    refine ldC_160 cx ok hw g1 dX0_addWhole_8 ?_
    refine lv_iload_n hx hb dX0_addWhole_9 rfl (lv_at hl 2 rfl) ?_
    refine lv_iload_n hx hb dX0_addWhole_10 rfl (lv_at hl 3 rfl) ?_
    obtain ⟨r3, h2, hm⟩ := bp_ok hm
    refine clS_Ci (As := [.int (σ0.1 160 x1.toNatClampNeg), .int x2, .int x3]) (rest := []) cx hml hl.1 ok hw hA (cC_Chart_rowOf l E _ σ0 (σ0.1 160 x1.toNatClampNeg) x2 x3 r3 h2) (cwC_X0_Chart_rowOf hA9 ⟨Nat.le_of_ble_eq_true rfl, Nat.le_of_ble_eq_true rfl⟩) rfl rfl (Nat.le_of_ble_eq_true rfl) dX0_addWhole_11 (fun H locs hw => ?_)
    refine lv_istore (lv' := [(4, .int r3), (0, .ref (E.2.2 1007)), (1, .int x1), (2, .int x2), (3, .int x3)]) hx hb dX0_addWhole_14 hl (by decide) rfl (fun ls hl => ?_)
    refine lv_aload_n hx hb dX0_addWhole_16 rfl (lv_at hl 1 rfl) ?_
    refine gtC_X0_7_0 cx ok hw dX0_addWhole_17 ?_
    refine gtC_X0_10_1 cx ok hw dX0_addWhole_20 ?_
    refine lv_iload_n hx hb dX0_addWhole_23 rfl (lv_at hl 2 rfl) ?_
    obtain ⟨g4, hm⟩ := gd_ok hm
    refine ldC_161 cx ok hw g4 dX0_addWhole_24 ?_
    obtain ⟨x5_5, e6, hm⟩ := lt_ok hm
    refine ti_eq e6 ?_
    refine lv_istore (lv' := [(5, .int x5_5), (4, .int r3), (0, .ref (E.2.2 1007)), (1, .int x1), (2, .int x2), (3, .int x3)]) hx hb dX0_addWhole_25 hl (by decide) rfl (fun ls hl => ?_)
    refine lv_aload_n hx hb dX0_addWhole_27 rfl (lv_at hl 2 rfl) ?_
    refine lv_iload hx hb dX0_addWhole_28 (lv_at hl 0 rfl) ?_
    refine lv_iload_n hx hb dX0_addWhole_30 rfl (lv_at hl 4 rfl) ?_
    refine lv_iload_n hx hb dX0_addWhole_31 rfl (lv_at hl 5 rfl) ?_
    obtain ⟨r8, h7, hm⟩ := bp_ok hm
    refine clV_Ci (As := [.int x5_5, .int x2, .int x3]) (rest := []) cx hml hl.1 ok hw hA (rcC_7 ok hw) (cC_Chart_sizeOf l E _ σ0 x5_5 x2 x3 r8 h7) (cwC_X0_Chart_sizeOf hA9 ⟨Nat.le_of_ble_eq_true rfl, Nat.le_of_ble_eq_true rfl⟩) rfl rfl (Nat.le_of_ble_eq_true rfl) dX0_addWhole_32 (fun H locs hw => ?_)
    refine lv_istore (lv' := [(6, .int r8), (5, .int x5_5), (4, .int r3), (0, .ref (E.2.2 1007)), (1, .int x1), (2, .int x2), (3, .int x3)]) hx hb dX0_addWhole_35 hl (by decide) rfl (fun ls hl => ?_)
    refine lv_iload hx hb dX0_addWhole_37 (lv_at hl 0 rfl) ?_
    refine lv_if_ne (tgt := 43) hx hb dX0_addWhole_39 (by decide) (fun c9 => ?_) (fun c9 => ?_)
    · have hm := if_f c9 hm
      refine lv_aload_n hx hb dX0_addWhole_43 rfl (lv_at hl 3 rfl) ?_
      refine gtC_X0_7_3 cx ok hw dX0_addWhole_44 ?_
      refine lv_iload hx hb dX0_addWhole_47 (lv_at hl 2 rfl) ?_
      refine lv_dup2_11 hx hb dX0_addWhole_49 rfl rfl ?_
      obtain ⟨g10, hm⟩ := gd_ok hm
      refine ldC_115 cx ok hw g10 dX0_addWhole_50 ?_
      refine lv_aload_n hx hb dX0_addWhole_51 rfl (lv_at hl 3 rfl) ?_
      refine lv_iload hx hb dX0_addWhole_52 (lv_at hl 1 rfl) ?_
      refine lv_iload_n hx hb dX0_addWhole_54 rfl (lv_at hl 5 rfl) ?_
      refine lv_iload_n hx hb dX0_addWhole_55 rfl (lv_at hl 6 rfl) ?_
      obtain ⟨r12, h11, hm⟩ := bp_ok hm
      refine clV_Cl (As := [.int x5_5, .int x2, .int x3]) (rest := [.long (σ0.2 115 r3.toNatClampNeg), .int r3, .ref (E.2.2 115)]) cx hml hl.1 ok hw hA (rcC_7 ok hw) (cC_Chart_countOf l E _ σ0 x5_5 x2 x3 r12 h11) (cwC_X0_Chart_countOf hA9 ⟨Nat.le_of_ble_eq_true rfl, Nat.le_of_ble_eq_true rfl⟩) rfl rfl (Nat.le_of_ble_eq_true rfl) dX0_addWhole_56 (fun H locs hw => ?_)
      refine lv_ladd hx hb dX0_addWhole_59 ?_
      obtain ⟨g13, hm⟩ := gd_ok hm
      refine stC_115 cx ok hw g13 dX0_addWhole_60 (fun H locs hw => ?_)
      obtain ⟨σ14, e15, hm⟩ := lt_ok hm
      have hw := wsC_eq e15 hw
      refine lv_iconst (v := (1 : Int32)) hx hb dX0_addWhole_61 (by decide) ?_
      refine lv_istore (lv' := [(7, .int (1 : Int32)), (6, .int r8), (5, .int x5_5), (4, .int r3), (0, .ref (E.2.2 1007)), (1, .int x1), (2, .int x2), (3, .int x3)]) hx hb dX0_addWhole_62 hl (by decide) rfl (fun ls hl => ?_)
      refine lv_iconst (v := (0 : Int32)) hx hb dX0_addWhole_64 (by decide) ?_
      refine lv_istore (lv' := [(8, .int (0 : Int32)), (7, .int (1 : Int32)), (6, .int r8), (5, .int x5_5), (4, .int r3), (0, .ref (E.2.2 1007)), (1, .int x1), (2, .int x2), (3, .int x3)]) hx hb dX0_addWhole_65 hl (by decide) rfl (fun ls hl => ?_)
      exact w_67 n σ14 x1 x2 x3 r3 x5_5 r8 (1 : Int32) (0 : Int32) H locs ls hw (lv_sub hl [5, 6, 7, 8, 4, 3, 2, 1, 0] rfl) hm
    · have hm := if_t c9 hm
      exact rtC_v cx hr hlk hw hm dX0_addWhole_42
  exact goal0 _ _ hw
theorem cwC_X0_Chart_addWhole {R : Room} {s : State} {args : Array Value} (h : ∀ w ∈ wA, w.before args s = true) (hR : rmC_Chart_addWhole.frames + 1 ≤ R.frames ∧ 8 + (10 + 11) + rmC_Chart_addWhole.locals ≤ R.locals) : CallW R s args RX0 RX0 81 yX0_addWhole cX0_addWhole 10 none (wz yX0_addWhole cX0_addWhole 10 none) rmC_Chart_addWhole 0 0 3 := cwV 3 h (gdV k_555 k_557 ks_26 k_8 k_558) rfl rfl rfl (by decide +kernel) hR
/-! ChordGrammars$Chart.addParts: writes, loops -/
def C_Chart_addParts_l174 (n : Nat) (k120 : St → Int32 → Int32 → Int32 → Int32 → Int32 → Int32 → Int32 → Int32 → Int32 → Int32 → Int32 → Int32 → Option St) : Nat → St → Int32 → Int32 → Int32 → Int32 → Int32 → Int32 → Int32 → Int32 → Int32 → Int32 → Int32 → Int32 → Int32 → Int32 → Option St
  | 0, _, _, _, _, _, _, _, _, _, _, _, _, _, _, _ => none
  | f + 1, σ, x1, x2, x3, x4, x5, x6, x7, x8, x9, x10, x12, x13, x14, x15 =>
    if x14 ≤ x15 then
      if x15 ≤ 0 then
        lt (x12 + (1 : Int32)) fun x12_3 =>
        k120 σ x1 x2 x3 x4 x5 x6 x7 x8 x9 x10 (0 : Int32) x12_3
      else
        lt (x12 + (1 : Int32)) fun x12_5 =>
        k120 σ x1 x2 x3 x4 x5 x6 x7 x8 x9 x10 (1 : Int32) x12_5
    else
      bp (C_Chart_priceOf σ x7 x5 x3 x15) fun r8 =>
      bp (C_Chart_entryOf (x13 + r8) x1 x4 x12 x15) fun r10 =>
      bd (C_Chart_offer n σ x10 r10) fun r12 σ13 =>
      if r12 = 0 then
        if x15 ≤ 0 then
          lt (x12 + (1 : Int32)) fun x12_16 =>
          k120 σ13 x1 x2 x3 x4 x5 x6 x7 x8 x9 x10 (0 : Int32) x12_16
        else
          lt (x12 + (1 : Int32)) fun x12_18 =>
          k120 σ13 x1 x2 x3 x4 x5 x6 x7 x8 x9 x10 (1 : Int32) x12_18
      else
        lt (x15 + (1 : Int32)) fun x15_20 =>
        (C_Chart_addParts_l174 n k120 f) σ13 x1 x2 x3 x4 x5 x6 x7 x8 x9 x10 x12 x13 x14 x15_20
def C_Chart_addParts_l120 (n : Nat) : Nat → St → Int32 → Int32 → Int32 → Int32 → Int32 → Int32 → Int32 → Int32 → Int32 → Int32 → Int32 → Int32 → Option St
  | 0, _, _, _, _, _, _, _, _, _, _, _, _, _ => none
  | f + 1, σ, x1, x2, x3, x4, x5, x6, x7, x8, x9, x10, x11, x12 =>
    if x8 ≤ x12 then
      some σ
    else
      if x11 = 0 then
        some σ
      else
        gd x1 60 <|
        bp (C_Chart_priceOf σ x6 x2 (x5 - (1 : Int32)) x12) fun r5 =>
        lt (((σ.1 163 x1.toNatClampNeg) + r5)) fun x13_6 =>
        gz (x12 + (1 : Int32)) <|
        lt ((if ((30 : Int32) / (x12 + (1 : Int32))) < x9 then ((30 : Int32) / (x12 + (1 : Int32))) else x9)) fun x14_9 =>
        C_Chart_addParts_l174 n (C_Chart_addParts_l120 n f) n σ x1 x2 x3 x4 x5 x6 x7 x8 x9 x10 x12 x13_6 x14_9 (0 : Int32)
def C_Chart_addParts_b59 (n : Nat) (σ : St) (x1 : Int32) (x2 : Int32) (x3 : Int32) (x4 : Int32) (x5 : Int32) (x6 : Int32) (x7 : Int32) (x8 : Int32) (s0 : Int32) : Option St :=
  if s0 = 0 then
    some σ
  else
    gd x1 60 <|
    bp (C_Chart_rowOf (σ.1 160 x1.toNatClampNeg) x2 x3) fun r4 =>
    gd r4 7800 <|
    bp (C_Chart_countOf σ x6 x2 (x5 - (1 : Int32))) fun r7 =>
    bp (C_Chart_countOf σ x7 x5 x3) fun r9 =>
    gd r4 7800 <|
    lt (sJ σ 115 r4.toNatClampNeg ((σ.2 115 r4.toNatClampNeg) + (r7 * r9))) fun σ11 =>
    C_Chart_addParts_l120 n n σ11 x1 x2 x3 x4 x5 x6 x7 x8 s0 r4 (1 : Int32) (0 : Int32)
def C_Chart_addParts (n : Nat) (σ0 : St) (x1 : Int32) (x2 : Int32) (x3 : Int32) (x4 : Int32) : Option St :=
  lt ((x2 + x4)) fun x5_1 =>
  gd x1 60 <|
  lt ((σ0.1 161 x1.toNatClampNeg)) fun x6_4 =>
  gd x1 60 <|
  lt ((σ0.1 162 x1.toNatClampNeg)) fun x7_7 =>
  bp (C_Chart_sizeOf σ0 x6_4 x2 (x5_1 - (1 : Int32))) fun r10 =>
  if r10 = 0 then
    C_Chart_addParts_b59 n σ0 x1 x2 x3 x4 x5_1 x6_4 x7_7 r10 (0 : Int32)
  else
    bp (C_Chart_sizeOf σ0 x7_7 x5_1 x3) fun r13 =>
    C_Chart_addParts_b59 n σ0 x1 x2 x3 x4 x5_1 x6_4 x7_7 r10 r13
abbrev rmC_Chart_addParts : Room := { frames := 3, cells := 0, slots := 0, locals := 70 }
set_option maxHeartbeats 4000000 in
set_option maxRecDepth 100000 in
theorem cC_Chart_addParts (l : Launch) (E : Ev) (n : Nat) (sz : Nat) (σ0 σ' : St) (x1 : Int32) (x2 : Int32) (x3 : Int32) (x4 : Int32) (hm : C_Chart_addParts n σ0 x1 x2 x3 x4 = some σ') : Met l yX0_addParts (wz yX0_addParts cX0_addParts 16 none) rmC_Chart_addParts (PwC E [.ref (E.2.2 1007), .int x1, .int x2, .int x3, .int x4] σ0 sz) (QvC E σ0 σ' sz) 0 0 (va_A (wldC E σ0) sz) := by
  refine enC (own := RX0) (by decide) rfl (Nat.le_of_ble_eq_true rfl) (fun p e s m args below meth c cx hr hlk hml hsz ok hw ls hl => ?_)
  have hx := cx.1
  have hb := cx.2.1
  have hA9 := cx.2.2.2
  have hA : ∀ q, s.heap.size ≤ q → (va_A (wldC E σ0) sz) q := fun q h => Or.inr (by rw [← hsz]; exact h)
  have w_174 : ∀ (k120 : St → Int32 → Int32 → Int32 → Int32 → Int32 → Int32 → Int32 → Int32 → Int32 → Int32 → Int32 → Int32 → Option St) (hk120 : ∀ (σ : St) (x1 : Int32) (x2 : Int32) (x3 : Int32) (x4 : Int32) (x5 : Int32) (x6 : Int32) (x7 : Int32) (x8 : Int32) (x9 : Int32) (x10 : Int32) (x11 : Int32) (x12 : Int32) (H : Heap) (locs : List Loc) (ls : Array Slot), wsC E σ (va_A (wldC E σ0) sz) s H locs → lv_has ls 16 [(0, .ref (E.2.2 1007)), (1, .int x1), (2, .int x2), (3, .int x3), (4, .int x4), (5, .int x5), (6, .int x6), (7, .int x7), (8, .int x8), (9, .int x9), (10, .int x10), (11, .int x11), (12, .int x12)] → k120 σ x1 x2 x3 x4 x5 x6 x7 x8 x9 x10 x11 x12 = some σ' → W p l e rmC_Chart_addParts s m args below meth c H locs 0 0 (MQ below (QvC E σ0 σ' sz) args s 0 0 (va_A (wldC E σ0) sz)) (F0 m 120 ls [])), ∀ (f : Nat), ∀ (σ : St) (x1 : Int32) (x2 : Int32) (x3 : Int32) (x4 : Int32) (x5 : Int32) (x6 : Int32) (x7 : Int32) (x8 : Int32) (x9 : Int32) (x10 : Int32) (x12 : Int32) (x13 : Int32) (x14 : Int32) (x15 : Int32) (H : Heap) (locs : List Loc) (ls : Array Slot), wsC E σ (va_A (wldC E σ0) sz) s H locs → lv_has ls 16 [(0, .ref (E.2.2 1007)), (1, .int x1), (2, .int x2), (3, .int x3), (4, .int x4), (5, .int x5), (6, .int x6), (7, .int x7), (8, .int x8), (9, .int x9), (10, .int x10), (12, .int x12), (13, .int x13), (14, .int x14), (15, .int x15)] → C_Chart_addParts_l174 n k120 f σ x1 x2 x3 x4 x5 x6 x7 x8 x9 x10 x12 x13 x14 x15 = some σ' → W p l e rmC_Chart_addParts s m args below meth c H locs 0 0 (MQ below (QvC E σ0 σ' sz) args s 0 0 (va_A (wldC E σ0) sz)) (F0 m 174 ls []) := by
    intro k120 hk120
    intro f
    induction f with
    | zero =>
      intro σ x1 x2 x3 x4 x5 x6 x7 x8 x9 x10 x12 x13 x14 x15 H locs ls hw hl hm
      rw [C_Chart_addParts_l174] at hm
      cases hm
    | succ f ih =>
      intro σ x1 x2 x3 x4 x5 x6 x7 x8 x9 x10 x12 x13 x14 x15 H locs ls hw hl hm
      rw [C_Chart_addParts_l174] at hm
      refine lv_iload hx hb dX0_addParts_174 (lv_at hl 14 rfl) ?_
      refine lv_iload hx hb dX0_addParts_176 (lv_at hl 13 rfl) ?_
      refine lv_icmp_ge (tgt := 220) hx hb dX0_addParts_178 (by decide) (fun c1 => ?_) (fun c1 => ?_)
      · have hm := if_t c1 hm
        refine lv_iload hx hb dX0_addParts_220 (lv_at hl 14 rfl) ?_
        refine lv_if_le (tgt := 229) hx hb dX0_addParts_222 (by decide) (fun c2 => ?_) (fun c2 => ?_)
        · have hm := if_t c2 hm
          refine lv_iconst (v := (0 : Int32)) hx hb dX0_addParts_229 (by decide) ?_
          refine lv_istore (lv' := [(11, .int (0 : Int32)), (0, .ref (E.2.2 1007)), (1, .int x1), (2, .int x2), (3, .int x3), (4, .int x4), (5, .int x5), (6, .int x6), (7, .int x7), (8, .int x8), (9, .int x9), (10, .int x10), (12, .int x12), (13, .int x13), (14, .int x14), (15, .int x15)]) hx hb dX0_addParts_230 hl (by decide) rfl (fun ls hl => ?_)
          obtain ⟨x12_3, e4, hm⟩ := lt_ok hm
          refine lv_iinc (v := x12_3) (lv' := [(12, .int x12_3), (11, .int (0 : Int32)), (0, .ref (E.2.2 1007)), (1, .int x1), (2, .int x2), (3, .int x3), (4, .int x4), (5, .int x5), (6, .int x6), (7, .int x7), (8, .int x8), (9, .int x9), (10, .int x10), (13, .int x13), (14, .int x14), (15, .int x15)]) hx hb dX0_addParts_232 hl (k := 12) rfl (by rw [e4]; rfl) (by decide) rfl (fun ls hl => ?_)
          refine lv_goto (tgt := 120) hx hb dX0_addParts_235 (by decide) ?_
          exact hk120 σ x1 x2 x3 x4 x5 x6 x7 x8 x9 x10 (0 : Int32) x12_3 H locs ls hw (lv_sub hl [2, 3, 4, 5, 6, 7, 8, 9, 10, 11, 12, 1, 0] rfl) hm
        · have hm := if_f c2 hm
          refine lv_iconst (v := (1 : Int32)) hx hb dX0_addParts_225 (by decide) ?_
          refine lv_goto (tgt := 230) hx hb dX0_addParts_226 (by decide) ?_
          refine lv_istore (lv' := [(11, .int (1 : Int32)), (0, .ref (E.2.2 1007)), (1, .int x1), (2, .int x2), (3, .int x3), (4, .int x4), (5, .int x5), (6, .int x6), (7, .int x7), (8, .int x8), (9, .int x9), (10, .int x10), (12, .int x12), (13, .int x13), (14, .int x14), (15, .int x15)]) hx hb dX0_addParts_230 hl (by decide) rfl (fun ls hl => ?_)
          obtain ⟨x12_5, e6, hm⟩ := lt_ok hm
          refine lv_iinc (v := x12_5) (lv' := [(12, .int x12_5), (11, .int (1 : Int32)), (0, .ref (E.2.2 1007)), (1, .int x1), (2, .int x2), (3, .int x3), (4, .int x4), (5, .int x5), (6, .int x6), (7, .int x7), (8, .int x8), (9, .int x9), (10, .int x10), (13, .int x13), (14, .int x14), (15, .int x15)]) hx hb dX0_addParts_232 hl (k := 12) rfl (by rw [e6]; rfl) (by decide) rfl (fun ls hl => ?_)
          refine lv_goto (tgt := 120) hx hb dX0_addParts_235 (by decide) ?_
          exact hk120 σ x1 x2 x3 x4 x5 x6 x7 x8 x9 x10 (1 : Int32) x12_5 H locs ls hw (lv_sub hl [2, 3, 4, 5, 6, 7, 8, 9, 10, 11, 12, 1, 0] rfl) hm
      · have hm := if_f c1 hm
        refine lv_aload_n hx hb dX0_addParts_181 rfl (lv_at hl 0 rfl) ?_
        refine lv_iload hx hb dX0_addParts_182 (lv_at hl 10 rfl) ?_
        refine lv_iload hx hb dX0_addParts_184 (lv_at hl 12 rfl) ?_
        refine lv_aload_n hx hb dX0_addParts_186 rfl (lv_at hl 0 rfl) ?_
        refine lv_iload hx hb dX0_addParts_187 (lv_at hl 7 rfl) ?_
        refine lv_iload hx hb dX0_addParts_189 (lv_at hl 5 rfl) ?_
        refine lv_iload_n hx hb dX0_addParts_191 rfl (lv_at hl 3 rfl) ?_
        refine lv_iload hx hb dX0_addParts_192 (lv_at hl 14 rfl) ?_
        obtain ⟨r8, h7, hm⟩ := bp_ok hm
        refine clV_Ci (As := [.int x7, .int x5, .int x3, .int x15]) (rest := [.int x13, .int x10, .ref (E.2.2 1007)]) cx hml hl.1 ok hw hA (rcC_7 ok hw) (cC_Chart_priceOf l E _ σ x7 x5 x3 x15 r8 h7) (cwC_X0_Chart_priceOf hA9 ⟨Nat.le_of_ble_eq_true rfl, Nat.le_of_ble_eq_true rfl⟩) rfl rfl (Nat.le_of_ble_eq_true rfl) dX0_addParts_194 (fun H locs hw => ?_)
        refine lv_iadd hx hb dX0_addParts_197 ?_
        refine lv_iload_n hx hb dX0_addParts_198 rfl (lv_at hl 1 rfl) ?_
        refine lv_iload hx hb dX0_addParts_199 (lv_at hl 4 rfl) ?_
        refine lv_iload hx hb dX0_addParts_201 (lv_at hl 11 rfl) ?_
        refine lv_iload hx hb dX0_addParts_203 (lv_at hl 14 rfl) ?_
        obtain ⟨r10, h9, hm⟩ := bp_ok hm
        refine clS_Cl (As := [.int (x13 + r8), .int x1, .int x4, .int x12, .int x15]) (rest := [.int x10, .ref (E.2.2 1007)]) cx hml hl.1 ok hw hA (cC_Chart_entryOf l E _ σ (x13 + r8) x1 x4 x12 x15 r10 h9) (cwC_X0_Chart_entryOf hA9 ⟨Nat.le_of_ble_eq_true rfl, Nat.le_of_ble_eq_true rfl⟩) rfl rfl (Nat.le_of_ble_eq_true rfl) dX0_addParts_205 (fun H locs hw => ?_)
        obtain ⟨r12, σ13, h11, hm⟩ := bd_ok hm
        refine clV_Ci (As := [.int x10, .long r10]) (rest := []) cx hml hl.1 ok hw hA (rcC_7 ok hw) (cC_Chart_offer l E n _ σ σ13 x10 r10 r12 h11) (cwC_X0_Chart_offer hA9 ⟨Nat.le_of_ble_eq_true rfl, Nat.le_of_ble_eq_true rfl⟩) rfl rfl (Nat.le_of_ble_eq_true rfl) dX0_addParts_208 (fun H locs hw => ?_)
        refine lv_if_eq (tgt := 220) hx hb dX0_addParts_211 (by decide) (fun c14 => ?_) (fun c14 => ?_)
        · have hm := if_t c14 hm
          refine lv_iload hx hb dX0_addParts_220 (lv_at hl 14 rfl) ?_
          refine lv_if_le (tgt := 229) hx hb dX0_addParts_222 (by decide) (fun c15 => ?_) (fun c15 => ?_)
          · have hm := if_t c15 hm
            refine lv_iconst (v := (0 : Int32)) hx hb dX0_addParts_229 (by decide) ?_
            refine lv_istore (lv' := [(11, .int (0 : Int32)), (0, .ref (E.2.2 1007)), (1, .int x1), (2, .int x2), (3, .int x3), (4, .int x4), (5, .int x5), (6, .int x6), (7, .int x7), (8, .int x8), (9, .int x9), (10, .int x10), (12, .int x12), (13, .int x13), (14, .int x14), (15, .int x15)]) hx hb dX0_addParts_230 hl (by decide) rfl (fun ls hl => ?_)
            obtain ⟨x12_16, e17, hm⟩ := lt_ok hm
            refine lv_iinc (v := x12_16) (lv' := [(12, .int x12_16), (11, .int (0 : Int32)), (0, .ref (E.2.2 1007)), (1, .int x1), (2, .int x2), (3, .int x3), (4, .int x4), (5, .int x5), (6, .int x6), (7, .int x7), (8, .int x8), (9, .int x9), (10, .int x10), (13, .int x13), (14, .int x14), (15, .int x15)]) hx hb dX0_addParts_232 hl (k := 12) rfl (by rw [e17]; rfl) (by decide) rfl (fun ls hl => ?_)
            refine lv_goto (tgt := 120) hx hb dX0_addParts_235 (by decide) ?_
            exact hk120 σ13 x1 x2 x3 x4 x5 x6 x7 x8 x9 x10 (0 : Int32) x12_16 H locs ls hw (lv_sub hl [2, 3, 4, 5, 6, 7, 8, 9, 10, 11, 12, 1, 0] rfl) hm
          · have hm := if_f c15 hm
            refine lv_iconst (v := (1 : Int32)) hx hb dX0_addParts_225 (by decide) ?_
            refine lv_goto (tgt := 230) hx hb dX0_addParts_226 (by decide) ?_
            refine lv_istore (lv' := [(11, .int (1 : Int32)), (0, .ref (E.2.2 1007)), (1, .int x1), (2, .int x2), (3, .int x3), (4, .int x4), (5, .int x5), (6, .int x6), (7, .int x7), (8, .int x8), (9, .int x9), (10, .int x10), (12, .int x12), (13, .int x13), (14, .int x14), (15, .int x15)]) hx hb dX0_addParts_230 hl (by decide) rfl (fun ls hl => ?_)
            obtain ⟨x12_18, e19, hm⟩ := lt_ok hm
            refine lv_iinc (v := x12_18) (lv' := [(12, .int x12_18), (11, .int (1 : Int32)), (0, .ref (E.2.2 1007)), (1, .int x1), (2, .int x2), (3, .int x3), (4, .int x4), (5, .int x5), (6, .int x6), (7, .int x7), (8, .int x8), (9, .int x9), (10, .int x10), (13, .int x13), (14, .int x14), (15, .int x15)]) hx hb dX0_addParts_232 hl (k := 12) rfl (by rw [e19]; rfl) (by decide) rfl (fun ls hl => ?_)
            refine lv_goto (tgt := 120) hx hb dX0_addParts_235 (by decide) ?_
            exact hk120 σ13 x1 x2 x3 x4 x5 x6 x7 x8 x9 x10 (1 : Int32) x12_18 H locs ls hw (lv_sub hl [2, 3, 4, 5, 6, 7, 8, 9, 10, 11, 12, 1, 0] rfl) hm
        · have hm := if_f c14 hm
          obtain ⟨x15_20, e21, hm⟩ := lt_ok hm
          refine lv_iinc (v := x15_20) (lv' := [(15, .int x15_20), (0, .ref (E.2.2 1007)), (1, .int x1), (2, .int x2), (3, .int x3), (4, .int x4), (5, .int x5), (6, .int x6), (7, .int x7), (8, .int x8), (9, .int x9), (10, .int x10), (12, .int x12), (13, .int x13), (14, .int x14)]) hx hb dX0_addParts_214 hl (k := 14) rfl (by rw [e21]; rfl) (by decide) rfl (fun ls hl => ?_)
          refine lv_goto (tgt := 174) hx hb dX0_addParts_217 (by decide) ?_
          exact ih σ13 x1 x2 x3 x4 x5 x6 x7 x8 x9 x10 x12 x13 x14 x15_20 H locs ls hw (lv_sub hl [1, 2, 3, 4, 5, 6, 7, 8, 9, 10, 11, 12, 13, 14, 0] rfl) hm
  have w_120 : ∀ (f : Nat), ∀ (σ : St) (x1 : Int32) (x2 : Int32) (x3 : Int32) (x4 : Int32) (x5 : Int32) (x6 : Int32) (x7 : Int32) (x8 : Int32) (x9 : Int32) (x10 : Int32) (x11 : Int32) (x12 : Int32) (H : Heap) (locs : List Loc) (ls : Array Slot), wsC E σ (va_A (wldC E σ0) sz) s H locs → lv_has ls 16 [(0, .ref (E.2.2 1007)), (1, .int x1), (2, .int x2), (3, .int x3), (4, .int x4), (5, .int x5), (6, .int x6), (7, .int x7), (8, .int x8), (9, .int x9), (10, .int x10), (11, .int x11), (12, .int x12)] → C_Chart_addParts_l120 n f σ x1 x2 x3 x4 x5 x6 x7 x8 x9 x10 x11 x12 = some σ' → W p l e rmC_Chart_addParts s m args below meth c H locs 0 0 (MQ below (QvC E σ0 σ' sz) args s 0 0 (va_A (wldC E σ0) sz)) (F0 m 120 ls []) := by
    intro f
    induction f with
    | zero =>
      intro σ x1 x2 x3 x4 x5 x6 x7 x8 x9 x10 x11 x12 H locs ls hw hl hm
      rw [C_Chart_addParts_l120] at hm
      cases hm
    | succ f ih =>
      intro σ x1 x2 x3 x4 x5 x6 x7 x8 x9 x10 x11 x12 H locs ls hw hl hm
      rw [C_Chart_addParts_l120] at hm
      refine lv_iload hx hb dX0_addParts_120 (lv_at hl 12 rfl) ?_
      refine lv_iload hx hb dX0_addParts_122 (lv_at hl 8 rfl) ?_
      refine lv_icmp_ge (tgt := 238) hx hb dX0_addParts_124 (by decide) (fun c1 => ?_) (fun c1 => ?_)
      · have hm := if_t c1 hm
        exact rtC_v cx hr hlk hw hm dX0_addParts_238
      · have hm := if_f c1 hm
        refine lv_iload hx hb dX0_addParts_127 (lv_at hl 11 rfl) ?_
        refine lv_if_eq (tgt := 238) hx hb dX0_addParts_129 (by decide) (fun c2 => ?_) (fun c2 => ?_)
        · have hm := if_t c2 hm
          exact rtC_v cx hr hlk hw hm dX0_addParts_238
        · have hm := if_f c2 hm
          refine lv_aload_n hx hb dX0_addParts_132 rfl (lv_at hl 0 rfl) ?_
          refine gtC_X0_7_0 cx ok hw dX0_addParts_133 ?_
          refine gtC_X0_10_3 cx ok hw dX0_addParts_136 ?_
          refine lv_iload_n hx hb dX0_addParts_139 rfl (lv_at hl 1 rfl) ?_
          obtain ⟨g3, hm⟩ := gd_ok hm
          refine ldC_163 cx ok hw g3 dX0_addParts_140 ?_
          refine lv_aload_n hx hb dX0_addParts_141 rfl (lv_at hl 0 rfl) ?_
          refine lv_iload hx hb dX0_addParts_142 (lv_at hl 6 rfl) ?_
          refine lv_iload_n hx hb dX0_addParts_144 rfl (lv_at hl 2 rfl) ?_
          refine lv_iload hx hb dX0_addParts_145 (lv_at hl 5 rfl) ?_
          refine lv_iconst (v := (1 : Int32)) hx hb dX0_addParts_147 (by decide) ?_
          refine lv_isub hx hb dX0_addParts_148 ?_
          refine lv_iload hx hb dX0_addParts_149 (lv_at hl 12 rfl) ?_
          obtain ⟨r5, h4, hm⟩ := bp_ok hm
          refine clV_Ci (As := [.int x6, .int x2, .int (x5 - (1 : Int32)), .int x12]) (rest := [.int (σ.1 163 x1.toNatClampNeg)]) cx hml hl.1 ok hw hA (rcC_7 ok hw) (cC_Chart_priceOf l E _ σ x6 x2 (x5 - (1 : Int32)) x12 r5 h4) (cwC_X0_Chart_priceOf hA9 ⟨Nat.le_of_ble_eq_true rfl, Nat.le_of_ble_eq_true rfl⟩) rfl rfl (Nat.le_of_ble_eq_true rfl) dX0_addParts_151 (fun H locs hw => ?_)
          refine lv_iadd hx hb dX0_addParts_154 ?_
          obtain ⟨x13_6, e7, hm⟩ := lt_ok hm
          refine ti_eq e7 ?_
          refine lv_istore (lv' := [(13, .int x13_6), (0, .ref (E.2.2 1007)), (1, .int x1), (2, .int x2), (3, .int x3), (4, .int x4), (5, .int x5), (6, .int x6), (7, .int x7), (8, .int x8), (9, .int x9), (10, .int x10), (11, .int x11), (12, .int x12)]) hx hb dX0_addParts_155 hl (by decide) rfl (fun ls hl => ?_)
          refine lv_iload hx hb dX0_addParts_157 (lv_at hl 10 rfl) ?_
          refine lv_bipush (v := (30 : Int32)) hx hb dX0_addParts_159 (by decide) ?_
          refine lv_iload hx hb dX0_addParts_161 (lv_at hl 13 rfl) ?_
          refine lv_iconst (v := (1 : Int32)) hx hb dX0_addParts_163 (by decide) ?_
          refine lv_iadd hx hb dX0_addParts_164 ?_
          obtain ⟨g8, hm⟩ := gz_ok hm
          refine lv_idiv hx hb dX0_addParts_165 g8 ?_
          refine va_mmin hx hb (by rw [hml]; exact hl.1.symm) cx.2.2.1 (hA9 _ k_590) (hA9 _ k_383) (hA9 _ k_14) (hA9 _ k_384) (Nat.le_of_ble_eq_true rfl) (rest := []) (Nat.le_of_ble_eq_true rfl) (Nat.zero_le _) (Nat.zero_le _) dX0_addParts_166 ?_
          obtain ⟨x14_9, e10, hm⟩ := lt_ok hm
          refine ti_eq e10 ?_
          refine lv_istore (lv' := [(14, .int x14_9), (13, .int x13_6), (0, .ref (E.2.2 1007)), (1, .int x1), (2, .int x2), (3, .int x3), (4, .int x4), (5, .int x5), (6, .int x6), (7, .int x7), (8, .int x8), (9, .int x9), (10, .int x10), (11, .int x11), (12, .int x12)]) hx hb dX0_addParts_169 hl (by decide) rfl (fun ls hl => ?_)
          refine lv_iconst (v := (0 : Int32)) hx hb dX0_addParts_171 (by decide) ?_
          refine lv_istore (lv' := [(15, .int (0 : Int32)), (14, .int x14_9), (13, .int x13_6), (0, .ref (E.2.2 1007)), (1, .int x1), (2, .int x2), (3, .int x3), (4, .int x4), (5, .int x5), (6, .int x6), (7, .int x7), (8, .int x8), (9, .int x9), (10, .int x10), (11, .int x11), (12, .int x12)]) hx hb dX0_addParts_172 hl (by decide) rfl (fun ls hl => ?_)
          exact w_174 (C_Chart_addParts_l120 n f) ih n σ x1 x2 x3 x4 x5 x6 x7 x8 x9 x10 x12 x13_6 x14_9 (0 : Int32) H locs ls hw (lv_sub hl [3, 4, 5, 6, 7, 8, 9, 10, 11, 12, 13, 15, 2, 1, 0] rfl) hm
  have w_59 : ∀ (σ : St) (x1 : Int32) (x2 : Int32) (x3 : Int32) (x4 : Int32) (x5 : Int32) (x6 : Int32) (x7 : Int32) (x8 : Int32) (s0 : Int32) (H : Heap) (locs : List Loc) (ls : Array Slot), wsC E σ (va_A (wldC E σ0) sz) s H locs → lv_has ls 16 [(0, .ref (E.2.2 1007)), (1, .int x1), (2, .int x2), (3, .int x3), (4, .int x4), (5, .int x5), (6, .int x6), (7, .int x7), (8, .int x8)] → C_Chart_addParts_b59 n σ x1 x2 x3 x4 x5 x6 x7 x8 s0 = some σ' → W p l e rmC_Chart_addParts s m args below meth c H locs 0 0 (MQ below (QvC E σ0 σ' sz) args s 0 0 (va_A (wldC E σ0) sz)) (F0 m 59 ls [.int s0]) := by
    intro σ x1 x2 x3 x4 x5 x6 x7 x8 s0 H locs ls hw hl hm
    unfold C_Chart_addParts_b59 at hm
    refine lv_istore (lv' := [(9, .int s0), (0, .ref (E.2.2 1007)), (1, .int x1), (2, .int x2), (3, .int x3), (4, .int x4), (5, .int x5), (6, .int x6), (7, .int x7), (8, .int x8)]) hx hb dX0_addParts_59 hl (by decide) rfl (fun ls hl => ?_)
    refine lv_iload hx hb dX0_addParts_61 (lv_at hl 0 rfl) ?_
    refine lv_if_ne (tgt := 67) hx hb dX0_addParts_63 (by decide) (fun c1 => ?_) (fun c1 => ?_)
    · have hm := if_f c1 hm
      refine lv_aload_n hx hb dX0_addParts_67 rfl (lv_at hl 1 rfl) ?_
      refine gtC_X0_7_0 cx ok hw dX0_addParts_68 ?_
      refine gtC_X0_10_0 cx ok hw dX0_addParts_71 ?_
      refine lv_iload_n hx hb dX0_addParts_74 rfl (lv_at hl 2 rfl) ?_
      obtain ⟨g2, hm⟩ := gd_ok hm
      refine ldC_160 cx ok hw g2 dX0_addParts_75 ?_
      refine lv_iload_n hx hb dX0_addParts_76 rfl (lv_at hl 3 rfl) ?_
      refine lv_iload_n hx hb dX0_addParts_77 rfl (lv_at hl 4 rfl) ?_
      obtain ⟨r4, h3, hm⟩ := bp_ok hm
      refine clS_Ci (As := [.int (σ.1 160 x1.toNatClampNeg), .int x2, .int x3]) (rest := []) cx hml hl.1 ok hw hA (cC_Chart_rowOf l E _ σ (σ.1 160 x1.toNatClampNeg) x2 x3 r4 h3) (cwC_X0_Chart_rowOf hA9 ⟨Nat.le_of_ble_eq_true rfl, Nat.le_of_ble_eq_true rfl⟩) rfl rfl (Nat.le_of_ble_eq_true rfl) dX0_addParts_78 (fun H locs hw => ?_)
      refine lv_istore (lv' := [(10, .int r4), (9, .int s0), (0, .ref (E.2.2 1007)), (1, .int x1), (2, .int x2), (3, .int x3), (4, .int x4), (5, .int x5), (6, .int x6), (7, .int x7), (8, .int x8)]) hx hb dX0_addParts_81 hl (by decide) rfl (fun ls hl => ?_)
      refine lv_aload_n hx hb dX0_addParts_83 rfl (lv_at hl 2 rfl) ?_
      refine gtC_X0_7_3 cx ok hw dX0_addParts_84 ?_
      refine lv_iload hx hb dX0_addParts_87 (lv_at hl 0 rfl) ?_
      refine lv_dup2_11 hx hb dX0_addParts_89 rfl rfl ?_
      obtain ⟨g5, hm⟩ := gd_ok hm
      refine ldC_115 cx ok hw g5 dX0_addParts_90 ?_
      refine lv_aload_n hx hb dX0_addParts_91 rfl (lv_at hl 2 rfl) ?_
      refine lv_iload hx hb dX0_addParts_92 (lv_at hl 8 rfl) ?_
      refine lv_iload_n hx hb dX0_addParts_94 rfl (lv_at hl 4 rfl) ?_
      refine lv_iload hx hb dX0_addParts_95 (lv_at hl 7 rfl) ?_
      refine lv_iconst (v := (1 : Int32)) hx hb dX0_addParts_97 (by decide) ?_
      refine lv_isub hx hb dX0_addParts_98 ?_
      obtain ⟨r7, h6, hm⟩ := bp_ok hm
      refine clV_Cl (As := [.int x6, .int x2, .int (x5 - (1 : Int32))]) (rest := [.long (σ.2 115 r4.toNatClampNeg), .int r4, .ref (E.2.2 115)]) cx hml hl.1 ok hw hA (rcC_7 ok hw) (cC_Chart_countOf l E _ σ x6 x2 (x5 - (1 : Int32)) r7 h6) (cwC_X0_Chart_countOf hA9 ⟨Nat.le_of_ble_eq_true rfl, Nat.le_of_ble_eq_true rfl⟩) rfl rfl (Nat.le_of_ble_eq_true rfl) dX0_addParts_99 (fun H locs hw => ?_)
      refine lv_aload_n hx hb dX0_addParts_102 rfl (lv_at hl 2 rfl) ?_
      refine lv_iload hx hb dX0_addParts_103 (lv_at hl 9 rfl) ?_
      refine lv_iload hx hb dX0_addParts_105 (lv_at hl 7 rfl) ?_
      refine lv_iload_n hx hb dX0_addParts_107 rfl (lv_at hl 5 rfl) ?_
      obtain ⟨r9, h8, hm⟩ := bp_ok hm
      refine clV_Cl (As := [.int x7, .int x5, .int x3]) (rest := [.long r7, .long (σ.2 115 r4.toNatClampNeg), .int r4, .ref (E.2.2 115)]) cx hml hl.1 ok hw hA (rcC_7 ok hw) (cC_Chart_countOf l E _ σ x7 x5 x3 r9 h8) (cwC_X0_Chart_countOf hA9 ⟨Nat.le_of_ble_eq_true rfl, Nat.le_of_ble_eq_true rfl⟩) rfl rfl (Nat.le_of_ble_eq_true rfl) dX0_addParts_108 (fun H locs hw => ?_)
      refine lv_lmul hx hb dX0_addParts_111 ?_
      refine lv_ladd hx hb dX0_addParts_112 ?_
      obtain ⟨g10, hm⟩ := gd_ok hm
      refine stC_115 cx ok hw g10 dX0_addParts_113 (fun H locs hw => ?_)
      obtain ⟨σ11, e12, hm⟩ := lt_ok hm
      have hw := wsC_eq e12 hw
      refine lv_iconst (v := (1 : Int32)) hx hb dX0_addParts_114 (by decide) ?_
      refine lv_istore (lv' := [(11, .int (1 : Int32)), (10, .int r4), (9, .int s0), (0, .ref (E.2.2 1007)), (1, .int x1), (2, .int x2), (3, .int x3), (4, .int x4), (5, .int x5), (6, .int x6), (7, .int x7), (8, .int x8)]) hx hb dX0_addParts_115 hl (by decide) rfl (fun ls hl => ?_)
      refine lv_iconst (v := (0 : Int32)) hx hb dX0_addParts_117 (by decide) ?_
      refine lv_istore (lv' := [(12, .int (0 : Int32)), (11, .int (1 : Int32)), (10, .int r4), (9, .int s0), (0, .ref (E.2.2 1007)), (1, .int x1), (2, .int x2), (3, .int x3), (4, .int x4), (5, .int x5), (6, .int x6), (7, .int x7), (8, .int x8)]) hx hb dX0_addParts_118 hl (by decide) rfl (fun ls hl => ?_)
      exact w_120 n σ11 x1 x2 x3 x4 x5 x6 x7 x8 s0 r4 (1 : Int32) (0 : Int32) H locs ls hw (lv_sub hl [4, 5, 6, 7, 8, 9, 10, 11, 12, 3, 2, 1, 0] rfl) hm
    · have hm := if_t c1 hm
      exact rtC_v cx hr hlk hw hm dX0_addParts_66
  have hl : lv_has ls 16 [(0, .ref (E.2.2 1007)), (1, .int x1), (2, .int x2), (3, .int x3), (4, .int x4)] := hl
  unfold C_Chart_addParts at hm
  have goal0 : ∀ (H : Heap) (locs : List Loc), wsC E σ0 (va_A (wldC E σ0) sz) s H locs → W p l e rmC_Chart_addParts s m args below meth c H locs 0 0 (MQ below (QvC E σ0 σ' sz) args s 0 0 (va_A (wldC E σ0) sz)) (F0 m 0 ls []) := by
    intro H locs hw
    refine lv_iload_n hx hb dX0_addParts_0 rfl (lv_at hl 2 rfl) ?_
    refine lv_iload hx hb dX0_addParts_1 (lv_at hl 4 rfl) ?_
    refine lv_iadd hx hb dX0_addParts_3 ?_
    obtain ⟨x5_1, e2, hm⟩ := lt_ok hm
    refine ti_eq e2 ?_
    refine lv_istore (lv' := [(5, .int x5_1), (0, .ref (E.2.2 1007)), (1, .int x1), (2, .int x2), (3, .int x3), (4, .int x4)]) hx hb dX0_addParts_4 hl (by decide) rfl (fun ls hl => ?_)
    refine lv_aload_n hx hb dX0_addParts_6 rfl (lv_at hl 1 rfl) ?_
    refine gtC_X0_7_0 cx ok hw dX0_addParts_7 ?_
    refine gtC_X0_10_1 cx ok hw dX0_addParts_10 ?_
    refine lv_iload_n hx hb dX0_addParts_13 rfl (lv_at hl 2 rfl) ?_
    obtain ⟨g3, hm⟩ := gd_ok hm
    refine ldC_161 cx ok hw g3 dX0_addParts_14 ?_
    obtain ⟨x6_4, e5, hm⟩ := lt_ok hm
    refine ti_eq e5 ?_
    refine lv_istore (lv' := [(6, .int x6_4), (5, .int x5_1), (0, .ref (E.2.2 1007)), (1, .int x1), (2, .int x2), (3, .int x3), (4, .int x4)]) hx hb dX0_addParts_15 hl (by decide) rfl (fun ls hl => ?_)
    refine lv_aload_n hx hb dX0_addParts_17 rfl (lv_at hl 2 rfl) ?_
    refine gtC_X0_7_0 cx ok hw dX0_addParts_18 ?_
    refine gtC_X0_10_2 cx ok hw dX0_addParts_21 ?_
    refine lv_iload_n hx hb dX0_addParts_24 rfl (lv_at hl 3 rfl) ?_
    obtain ⟨g6, hm⟩ := gd_ok hm
    refine ldC_162 cx ok hw g6 dX0_addParts_25 ?_
    obtain ⟨x7_7, e8, hm⟩ := lt_ok hm
    refine ti_eq e8 ?_
    refine lv_istore (lv' := [(7, .int x7_7), (6, .int x6_4), (5, .int x5_1), (0, .ref (E.2.2 1007)), (1, .int x1), (2, .int x2), (3, .int x3), (4, .int x4)]) hx hb dX0_addParts_26 hl (by decide) rfl (fun ls hl => ?_)
    refine lv_aload_n hx hb dX0_addParts_28 rfl (lv_at hl 3 rfl) ?_
    refine lv_iload hx hb dX0_addParts_29 (lv_at hl 1 rfl) ?_
    refine lv_iload_n hx hb dX0_addParts_31 rfl (lv_at hl 5 rfl) ?_
    refine lv_iload hx hb dX0_addParts_32 (lv_at hl 2 rfl) ?_
    refine lv_iconst (v := (1 : Int32)) hx hb dX0_addParts_34 (by decide) ?_
    refine lv_isub hx hb dX0_addParts_35 ?_
    obtain ⟨r10, h9, hm⟩ := bp_ok hm
    refine clV_Ci (As := [.int x6_4, .int x2, .int (x5_1 - (1 : Int32))]) (rest := []) cx hml hl.1 ok hw hA (rcC_7 ok hw) (cC_Chart_sizeOf l E _ σ0 x6_4 x2 (x5_1 - (1 : Int32)) r10 h9) (cwC_X0_Chart_sizeOf hA9 ⟨Nat.le_of_ble_eq_true rfl, Nat.le_of_ble_eq_true rfl⟩) rfl rfl (Nat.le_of_ble_eq_true rfl) dX0_addParts_36 (fun H locs hw => ?_)
    refine lv_istore (lv' := [(8, .int r10), (7, .int x7_7), (6, .int x6_4), (5, .int x5_1), (0, .ref (E.2.2 1007)), (1, .int x1), (2, .int x2), (3, .int x3), (4, .int x4)]) hx hb dX0_addParts_39 hl (by decide) rfl (fun ls hl => ?_)
    refine lv_iload hx hb dX0_addParts_41 (lv_at hl 0 rfl) ?_
    refine lv_if_ne (tgt := 50) hx hb dX0_addParts_43 (by decide) (fun c11 => ?_) (fun c11 => ?_)
    · have hm := if_f c11 hm
      refine lv_aload_n hx hb dX0_addParts_50 rfl (lv_at hl 4 rfl) ?_
      refine lv_iload hx hb dX0_addParts_51 (lv_at hl 1 rfl) ?_
      refine lv_iload hx hb dX0_addParts_53 (lv_at hl 3 rfl) ?_
      refine lv_iload_n hx hb dX0_addParts_55 rfl (lv_at hl 7 rfl) ?_
      obtain ⟨r13, h12, hm⟩ := bp_ok hm
      refine clV_Ci (As := [.int x7_7, .int x5_1, .int x3]) (rest := []) cx hml hl.1 ok hw hA (rcC_7 ok hw) (cC_Chart_sizeOf l E _ σ0 x7_7 x5_1 x3 r13 h12) (cwC_X0_Chart_sizeOf hA9 ⟨Nat.le_of_ble_eq_true rfl, Nat.le_of_ble_eq_true rfl⟩) rfl rfl (Nat.le_of_ble_eq_true rfl) dX0_addParts_56 (fun H locs hw => ?_)
      exact w_59 σ0 x1 x2 x3 x4 x5_1 x6_4 x7_7 r10 r13 H locs ls hw (lv_sub hl [4, 5, 6, 7, 8, 3, 2, 1, 0] rfl) hm
    · have hm := if_t c11 hm
      refine lv_iconst (v := (0 : Int32)) hx hb dX0_addParts_46 (by decide) ?_
      refine lv_goto (tgt := 59) hx hb dX0_addParts_47 (by decide) ?_
      exact w_59 σ0 x1 x2 x3 x4 x5_1 x6_4 x7_7 r10 (0 : Int32) H locs ls hw (lv_sub hl [4, 5, 6, 7, 8, 3, 2, 1, 0] rfl) hm
  exact goal0 _ _ hw
theorem cwC_X0_Chart_addParts {R : Room} {s : State} {args : Array Value} (h : ∀ w ∈ wA, w.before args s = true) (hR : rmC_Chart_addParts.frames + 1 ≤ R.frames ∧ 8 + (16 + 11) + rmC_Chart_addParts.locals ≤ R.locals) : CallW R s args RX0 RX0 85 yX0_addParts cX0_addParts 16 none (wz yX0_addParts cX0_addParts 16 none) rmC_Chart_addParts 0 0 4 := cwV 4 h (gdV k_586 k_588 ks_33 k_8 k_589) rfl rfl rfl (by decide +kernel) hR
/-! ChordGrammars$Chart.fillSpan: writes, loops -/
def C_Chart_fillSpan_l90 (n : Nat) (k40 : St → Int32 → Int32 → Int32 → Option St) : Nat → St → Int32 → Int32 → Int32 → Int32 → Int32 → Option St
  | 0, _, _, _, _, _, _ => none
  | f + 1, σ, x1, x2, x3, x4, x5 =>
    if (x2 - x1) < x5 then
      lt (x3 + (1 : Int32)) fun x3_2 =>
      k40 σ x1 x2 x3_2
    else
      bp (C_Chart_addParts n σ x4 x1 x2 x5) fun σ5 =>
      lt (x5 + (1 : Int32)) fun x5_6 =>
      (C_Chart_fillSpan_l90 n k40 f) σ5 x1 x2 x3 x4 x5_6
def C_Chart_fillSpan_l40 (n : Nat) : Nat → St → Int32 → Int32 → Int32 → Option St
  | 0, _, _, _, _ => none
  | f + 1, σ, x1, x2, x3 =>
    if (σ.1 165 0) ≤ x3 then
      some σ
    else
      gd x3 60 <|
      lt ((σ.1 164 x3.toNatClampNeg)) fun x4_3 =>
      gd x4_3 60 <|
      if (σ.1 162 x4_3.toNatClampNeg) = (-1 : Int32) then
        bp (C_Chart_addWhole n σ x4_3 x1 x2) fun σ8 =>
        lt (x3 + (1 : Int32)) fun x3_9 =>
        (C_Chart_fillSpan_l40 n f) σ8 x1 x2 x3_9
      else
        C_Chart_fillSpan_l90 n (C_Chart_fillSpan_l40 n f) n σ x1 x2 x3 x4_3 (1 : Int32)
def C_Chart_fillSpan_l2 (n : Nat) : Nat → St → Int32 → Int32 → Int32 → Option St
  | 0, _, _, _, _ => none
  | f + 1, σ, x1, x2, x3 =>
    if (26 : Int32) ≤ x3 then
      C_Chart_fillSpan_l40 n n σ x1 x2 (0 : Int32)
    else
      bp (C_Chart_rowOf x3 x1 x2) fun r3 =>
      gd r3 7800 <|
      lt (sJ σ 115 r3.toNatClampNeg (0 : Int64)) fun σ5 =>
      bp (C_Chart_rowOf x3 x1 x2) fun r8 =>
      gd r8 7800 <|
      lt (sI σ5 116 r8.toNatClampNeg (0 : Int32)) fun σ10 =>
      lt (x3 + (1 : Int32)) fun x3_12 =>
      (C_Chart_fillSpan_l2 n f) σ10 x1 x2 x3_12
def C_Chart_fillSpan (n : Nat) (σ0 : St) (x1 : Int32) (x2 : Int32) : Option St :=
  C_Chart_fillSpan_l2 n n σ0 x1 x2 (0 : Int32)
abbrev rmC_Chart_fillSpan : Room := { frames := 4, cells := 0, slots := 0, locals := 105 }
set_option maxHeartbeats 4000000 in
set_option maxRecDepth 100000 in
theorem cC_Chart_fillSpan (l : Launch) (E : Ev) (n : Nat) (sz : Nat) (σ0 σ' : St) (x1 : Int32) (x2 : Int32) (hm : C_Chart_fillSpan n σ0 x1 x2 = some σ') : Met l yX0_fillSpan (wz yX0_fillSpan cX0_fillSpan 6 none) rmC_Chart_fillSpan (PwC E [.ref (E.2.2 1007), .int x1, .int x2] σ0 sz) (QvC E σ0 σ' sz) 0 0 (va_A (wldC E σ0) sz) := by
  refine enC (own := RX0) (by decide) rfl (Nat.le_of_ble_eq_true rfl) (fun p e s m args below meth c cx hr hlk hml hsz ok hw ls hl => ?_)
  have hx := cx.1
  have hb := cx.2.1
  have hA9 := cx.2.2.2
  have hA : ∀ q, s.heap.size ≤ q → (va_A (wldC E σ0) sz) q := fun q h => Or.inr (by rw [← hsz]; exact h)
  have w_90 : ∀ (k40 : St → Int32 → Int32 → Int32 → Option St) (hk40 : ∀ (σ : St) (x1 : Int32) (x2 : Int32) (x3 : Int32) (H : Heap) (locs : List Loc) (ls : Array Slot), wsC E σ (va_A (wldC E σ0) sz) s H locs → lv_has ls 6 [(0, .ref (E.2.2 1007)), (1, .int x1), (2, .int x2), (3, .int x3)] → k40 σ x1 x2 x3 = some σ' → W p l e rmC_Chart_fillSpan s m args below meth c H locs 0 0 (MQ below (QvC E σ0 σ' sz) args s 0 0 (va_A (wldC E σ0) sz)) (F0 m 40 ls [])), ∀ (f : Nat), ∀ (σ : St) (x1 : Int32) (x2 : Int32) (x3 : Int32) (x4 : Int32) (x5 : Int32) (H : Heap) (locs : List Loc) (ls : Array Slot), wsC E σ (va_A (wldC E σ0) sz) s H locs → lv_has ls 6 [(0, .ref (E.2.2 1007)), (1, .int x1), (2, .int x2), (3, .int x3), (4, .int x4), (5, .int x5)] → C_Chart_fillSpan_l90 n k40 f σ x1 x2 x3 x4 x5 = some σ' → W p l e rmC_Chart_fillSpan s m args below meth c H locs 0 0 (MQ below (QvC E σ0 σ' sz) args s 0 0 (va_A (wldC E σ0) sz)) (F0 m 90 ls []) := by
    intro k40 hk40
    intro f
    induction f with
    | zero =>
      intro σ x1 x2 x3 x4 x5 H locs ls hw hl hm
      rw [C_Chart_fillSpan_l90] at hm
      cases hm
    | succ f ih =>
      intro σ x1 x2 x3 x4 x5 H locs ls hw hl hm
      rw [C_Chart_fillSpan_l90] at hm
      refine lv_iload hx hb dX0_fillSpan_90 (lv_at hl 5 rfl) ?_
      refine lv_iload_n hx hb dX0_fillSpan_92 rfl (lv_at hl 2 rfl) ?_
      refine lv_iload_n hx hb dX0_fillSpan_93 rfl (lv_at hl 1 rfl) ?_
      refine lv_isub hx hb dX0_fillSpan_94 ?_
      refine lv_icmp_gt (tgt := 114) hx hb dX0_fillSpan_95 (by decide) (fun c1 => ?_) (fun c1 => ?_)
      · have hm := if_t c1 hm
        obtain ⟨x3_2, e3, hm⟩ := lt_ok hm
        refine lv_iinc (v := x3_2) (lv' := [(3, .int x3_2), (0, .ref (E.2.2 1007)), (1, .int x1), (2, .int x2), (4, .int x4), (5, .int x5)]) hx hb dX0_fillSpan_114 hl (k := 3) rfl (by rw [e3]; rfl) (by decide) rfl (fun ls hl => ?_)
        refine lv_goto (tgt := 40) hx hb dX0_fillSpan_117 (by decide) ?_
        exact hk40 σ x1 x2 x3_2 H locs ls hw (lv_sub hl [1, 2, 3, 0] rfl) hm
      · have hm := if_f c1 hm
        refine lv_aload_n hx hb dX0_fillSpan_98 rfl (lv_at hl 0 rfl) ?_
        refine lv_iload hx hb dX0_fillSpan_99 (lv_at hl 4 rfl) ?_
        refine lv_iload_n hx hb dX0_fillSpan_101 rfl (lv_at hl 1 rfl) ?_
        refine lv_iload_n hx hb dX0_fillSpan_102 rfl (lv_at hl 2 rfl) ?_
        refine lv_iload hx hb dX0_fillSpan_103 (lv_at hl 5 rfl) ?_
        obtain ⟨σ5, h4, hm⟩ := bp_ok hm
        refine clV_Cv (As := [.int x4, .int x1, .int x2, .int x5]) (rest := []) cx hml hl.1 ok hw hA (rcC_7 ok hw) (cC_Chart_addParts l E n _ σ σ5 x4 x1 x2 x5 h4) (cwC_X0_Chart_addParts hA9 ⟨Nat.le_of_ble_eq_true rfl, Nat.le_of_ble_eq_true rfl⟩) rfl rfl (Nat.le_of_ble_eq_true rfl) dX0_fillSpan_105 (fun H locs hw => ?_)
        obtain ⟨x5_6, e7, hm⟩ := lt_ok hm
        refine lv_iinc (v := x5_6) (lv' := [(5, .int x5_6), (0, .ref (E.2.2 1007)), (1, .int x1), (2, .int x2), (3, .int x3), (4, .int x4)]) hx hb dX0_fillSpan_108 hl (k := 5) rfl (by rw [e7]; rfl) (by decide) rfl (fun ls hl => ?_)
        refine lv_goto (tgt := 90) hx hb dX0_fillSpan_111 (by decide) ?_
        exact ih σ5 x1 x2 x3 x4 x5_6 H locs ls hw (lv_sub hl [1, 2, 3, 4, 5, 0] rfl) hm
  have w_40 : ∀ (f : Nat), ∀ (σ : St) (x1 : Int32) (x2 : Int32) (x3 : Int32) (H : Heap) (locs : List Loc) (ls : Array Slot), wsC E σ (va_A (wldC E σ0) sz) s H locs → lv_has ls 6 [(0, .ref (E.2.2 1007)), (1, .int x1), (2, .int x2), (3, .int x3)] → C_Chart_fillSpan_l40 n f σ x1 x2 x3 = some σ' → W p l e rmC_Chart_fillSpan s m args below meth c H locs 0 0 (MQ below (QvC E σ0 σ' sz) args s 0 0 (va_A (wldC E σ0) sz)) (F0 m 40 ls []) := by
    intro f
    induction f with
    | zero =>
      intro σ x1 x2 x3 H locs ls hw hl hm
      rw [C_Chart_fillSpan_l40] at hm
      cases hm
    | succ f ih =>
      intro σ x1 x2 x3 H locs ls hw hl hm
      rw [C_Chart_fillSpan_l40] at hm
      refine lv_iload_n hx hb dX0_fillSpan_40 rfl (lv_at hl 3 rfl) ?_
      refine lv_aload_n hx hb dX0_fillSpan_41 rfl (lv_at hl 0 rfl) ?_
      refine gtC_X0_7_0 cx ok hw dX0_fillSpan_42 ?_
      refine gtC_X0_10_5 cx ok hw dX0_fillSpan_45 ?_
      refine lv_icmp_ge (tgt := 120) hx hb dX0_fillSpan_48 (by decide) (fun c1 => ?_) (fun c1 => ?_)
      · have hm := if_t c1 hm
        exact rtC_v cx hr hlk hw hm dX0_fillSpan_120
      · have hm := if_f c1 hm
        refine lv_aload_n hx hb dX0_fillSpan_51 rfl (lv_at hl 0 rfl) ?_
        refine gtC_X0_7_0 cx ok hw dX0_fillSpan_52 ?_
        refine gtC_X0_10_4 cx ok hw dX0_fillSpan_55 ?_
        refine lv_iload_n hx hb dX0_fillSpan_58 rfl (lv_at hl 3 rfl) ?_
        obtain ⟨g2, hm⟩ := gd_ok hm
        refine ldC_164 cx ok hw g2 dX0_fillSpan_59 ?_
        obtain ⟨x4_3, e4, hm⟩ := lt_ok hm
        refine ti_eq e4 ?_
        refine lv_istore (lv' := [(4, .int x4_3), (0, .ref (E.2.2 1007)), (1, .int x1), (2, .int x2), (3, .int x3)]) hx hb dX0_fillSpan_60 hl (by decide) rfl (fun ls hl => ?_)
        refine lv_aload_n hx hb dX0_fillSpan_62 rfl (lv_at hl 1 rfl) ?_
        refine gtC_X0_7_0 cx ok hw dX0_fillSpan_63 ?_
        refine gtC_X0_10_2 cx ok hw dX0_fillSpan_66 ?_
        refine lv_iload hx hb dX0_fillSpan_69 (lv_at hl 0 rfl) ?_
        obtain ⟨g5, hm⟩ := gd_ok hm
        refine ldC_162 cx ok hw g5 dX0_fillSpan_71 ?_
        refine lv_iconst (v := (-1 : Int32)) hx hb dX0_fillSpan_72 (by decide) ?_
        refine lv_icmp_ne (tgt := 87) hx hb dX0_fillSpan_73 (by decide) (fun c6 => ?_) (fun c6 => ?_)
        · have hm := if_f c6 hm
          refine lv_iconst (v := (1 : Int32)) hx hb dX0_fillSpan_87 (by decide) ?_
          refine lv_istore (lv' := [(5, .int (1 : Int32)), (4, .int x4_3), (0, .ref (E.2.2 1007)), (1, .int x1), (2, .int x2), (3, .int x3)]) hx hb dX0_fillSpan_88 hl (by decide) rfl (fun ls hl => ?_)
          exact w_90 (C_Chart_fillSpan_l40 n f) ih n σ x1 x2 x3 x4_3 (1 : Int32) H locs ls hw (lv_sub hl [2, 3, 4, 5, 1, 0] rfl) hm
        · have hm := if_t c6 hm
          refine lv_aload_n hx hb dX0_fillSpan_76 rfl (lv_at hl 1 rfl) ?_
          refine lv_iload hx hb dX0_fillSpan_77 (lv_at hl 0 rfl) ?_
          refine lv_iload_n hx hb dX0_fillSpan_79 rfl (lv_at hl 2 rfl) ?_
          refine lv_iload_n hx hb dX0_fillSpan_80 rfl (lv_at hl 3 rfl) ?_
          obtain ⟨σ8, h7, hm⟩ := bp_ok hm
          refine clV_Cv (As := [.int x4_3, .int x1, .int x2]) (rest := []) cx hml hl.1 ok hw hA (rcC_7 ok hw) (cC_Chart_addWhole l E n _ σ σ8 x4_3 x1 x2 h7) (cwC_X0_Chart_addWhole hA9 ⟨Nat.le_of_ble_eq_true rfl, Nat.le_of_ble_eq_true rfl⟩) rfl rfl (Nat.le_of_ble_eq_true rfl) dX0_fillSpan_81 (fun H locs hw => ?_)
          refine lv_goto (tgt := 114) hx hb dX0_fillSpan_84 (by decide) ?_
          obtain ⟨x3_9, e10, hm⟩ := lt_ok hm
          refine lv_iinc (v := x3_9) (lv' := [(3, .int x3_9), (4, .int x4_3), (0, .ref (E.2.2 1007)), (1, .int x1), (2, .int x2)]) hx hb dX0_fillSpan_114 hl (k := 4) rfl (by rw [e10]; rfl) (by decide) rfl (fun ls hl => ?_)
          refine lv_goto (tgt := 40) hx hb dX0_fillSpan_117 (by decide) ?_
          exact ih σ8 x1 x2 x3_9 H locs ls hw (lv_sub hl [2, 3, 4, 0] rfl) hm
  have w_2 : ∀ (f : Nat), ∀ (σ : St) (x1 : Int32) (x2 : Int32) (x3 : Int32) (H : Heap) (locs : List Loc) (ls : Array Slot), wsC E σ (va_A (wldC E σ0) sz) s H locs → lv_has ls 6 [(0, .ref (E.2.2 1007)), (1, .int x1), (2, .int x2), (3, .int x3)] → C_Chart_fillSpan_l2 n f σ x1 x2 x3 = some σ' → W p l e rmC_Chart_fillSpan s m args below meth c H locs 0 0 (MQ below (QvC E σ0 σ' sz) args s 0 0 (va_A (wldC E σ0) sz)) (F0 m 2 ls []) := by
    intro f
    induction f with
    | zero =>
      intro σ x1 x2 x3 H locs ls hw hl hm
      rw [C_Chart_fillSpan_l2] at hm
      cases hm
    | succ f ih =>
      intro σ x1 x2 x3 H locs ls hw hl hm
      rw [C_Chart_fillSpan_l2] at hm
      refine lv_iload_n hx hb dX0_fillSpan_2 rfl (lv_at hl 3 rfl) ?_
      refine lv_bipush (v := (26 : Int32)) hx hb dX0_fillSpan_3 (by decide) ?_
      refine lv_icmp_ge (tgt := 38) hx hb dX0_fillSpan_5 (by decide) (fun c1 => ?_) (fun c1 => ?_)
      · have hm := if_t c1 hm
        refine lv_iconst (v := (0 : Int32)) hx hb dX0_fillSpan_38 (by decide) ?_
        refine lv_istore_n (lv' := [(3, .int (0 : Int32)), (0, .ref (E.2.2 1007)), (1, .int x1), (2, .int x2)]) hx hb dX0_fillSpan_39 rfl hl (by decide) rfl (fun ls hl => ?_)
        exact w_40 n σ x1 x2 (0 : Int32) H locs ls hw (lv_sub hl [1, 2, 3, 0] rfl) hm
      · have hm := if_f c1 hm
        refine lv_aload_n hx hb dX0_fillSpan_8 rfl (lv_at hl 0 rfl) ?_
        refine gtC_X0_7_3 cx ok hw dX0_fillSpan_9 ?_
        refine lv_iload_n hx hb dX0_fillSpan_12 rfl (lv_at hl 3 rfl) ?_
        refine lv_iload_n hx hb dX0_fillSpan_13 rfl (lv_at hl 1 rfl) ?_
        refine lv_iload_n hx hb dX0_fillSpan_14 rfl (lv_at hl 2 rfl) ?_
        obtain ⟨r3, h2, hm⟩ := bp_ok hm
        refine clS_Ci (As := [.int x3, .int x1, .int x2]) (rest := [.ref (E.2.2 115)]) cx hml hl.1 ok hw hA (cC_Chart_rowOf l E _ σ x3 x1 x2 r3 h2) (cwC_X0_Chart_rowOf hA9 ⟨Nat.le_of_ble_eq_true rfl, Nat.le_of_ble_eq_true rfl⟩) rfl rfl (Nat.le_of_ble_eq_true rfl) dX0_fillSpan_15 (fun H locs hw => ?_)
        refine lv_lconst (v := (0 : Int64)) hx hb dX0_fillSpan_18 (by decide) ?_
        obtain ⟨g4, hm⟩ := gd_ok hm
        refine stC_115 cx ok hw g4 dX0_fillSpan_19 (fun H locs hw => ?_)
        obtain ⟨σ5, e6, hm⟩ := lt_ok hm
        have hw := wsC_eq e6 hw
        refine lv_aload_n hx hb dX0_fillSpan_20 rfl (lv_at hl 0 rfl) ?_
        refine gtC_X0_7_4 cx ok hw dX0_fillSpan_21 ?_
        refine lv_iload_n hx hb dX0_fillSpan_24 rfl (lv_at hl 3 rfl) ?_
        refine lv_iload_n hx hb dX0_fillSpan_25 rfl (lv_at hl 1 rfl) ?_
        refine lv_iload_n hx hb dX0_fillSpan_26 rfl (lv_at hl 2 rfl) ?_
        obtain ⟨r8, h7, hm⟩ := bp_ok hm
        refine clS_Ci (As := [.int x3, .int x1, .int x2]) (rest := [.ref (E.2.2 116)]) cx hml hl.1 ok hw hA (cC_Chart_rowOf l E _ σ5 x3 x1 x2 r8 h7) (cwC_X0_Chart_rowOf hA9 ⟨Nat.le_of_ble_eq_true rfl, Nat.le_of_ble_eq_true rfl⟩) rfl rfl (Nat.le_of_ble_eq_true rfl) dX0_fillSpan_27 (fun H locs hw => ?_)
        refine lv_iconst (v := (0 : Int32)) hx hb dX0_fillSpan_30 (by decide) ?_
        obtain ⟨g9, hm⟩ := gd_ok hm
        refine stC_116 cx ok hw g9 dX0_fillSpan_31 (fun H locs hw => ?_)
        obtain ⟨σ10, e11, hm⟩ := lt_ok hm
        have hw := wsC_eq e11 hw
        obtain ⟨x3_12, e13, hm⟩ := lt_ok hm
        refine lv_iinc (v := x3_12) (lv' := [(3, .int x3_12), (0, .ref (E.2.2 1007)), (1, .int x1), (2, .int x2)]) hx hb dX0_fillSpan_32 hl (k := 3) rfl (by rw [e13]; rfl) (by decide) rfl (fun ls hl => ?_)
        refine lv_goto (tgt := 2) hx hb dX0_fillSpan_35 (by decide) ?_
        exact ih σ10 x1 x2 x3_12 H locs ls hw (lv_sub hl [1, 2, 3, 0] rfl) hm
  have hl : lv_has ls 6 [(0, .ref (E.2.2 1007)), (1, .int x1), (2, .int x2)] := hl
  unfold C_Chart_fillSpan at hm
  have goal0 : ∀ (H : Heap) (locs : List Loc), wsC E σ0 (va_A (wldC E σ0) sz) s H locs → W p l e rmC_Chart_fillSpan s m args below meth c H locs 0 0 (MQ below (QvC E σ0 σ' sz) args s 0 0 (va_A (wldC E σ0) sz)) (F0 m 0 ls []) := by
    intro H locs hw
    refine lv_iconst (v := (0 : Int32)) hx hb dX0_fillSpan_0 (by decide) ?_
    refine lv_istore_n (lv' := [(3, .int (0 : Int32)), (0, .ref (E.2.2 1007)), (1, .int x1), (2, .int x2)]) hx hb dX0_fillSpan_1 rfl hl (by decide) rfl (fun ls hl => ?_)
    exact w_2 n σ0 x1 x2 (0 : Int32) H locs ls hw (lv_sub hl [1, 2, 3, 0] rfl) hm
  exact goal0 _ _ hw
theorem cwC_X0_Chart_fillSpan {R : Room} {s : State} {args : Array Value} (h : ∀ w ∈ wA, w.before args s = true) (hR : rmC_Chart_fillSpan.frames + 1 ≤ R.frames ∧ 8 + (6 + 11) + rmC_Chart_fillSpan.locals ≤ R.locals) : CallW R s args RX0 RX0 64 yX0_fillSpan cX0_fillSpan 6 none (wz yX0_fillSpan cX0_fillSpan 6 none) rmC_Chart_fillSpan 0 0 2 := cwV 2 h (gdV k_548 k_550 ks_25 k_8 k_551) rfl rfl rfl (by decide +kernel) hR
/-! ChordGrammars$Chart.listAll: writes, loops -/
def C_Chart_listAll_l58 (n : Nat) (k45 : St → Int32 → Option St) : Nat → St → Int32 → Int32 → Option St
  | 0, _, _, _ => none
  | f + 1, σ, x5, x6 =>
    if x6 < 0 then
      lt (x5 + (1 : Int32)) fun x5_2 =>
      k45 σ x5_2
    else
      bp (C_Chart_fillSpan n σ x6 x5) fun σ5 =>
      lt (x6 + (-1 : Int32)) fun x6_6 =>
      (C_Chart_listAll_l58 n k45 f) σ5 x5 x6_6
def C_Chart_listAll_l45 (n : Nat) : Nat → St → Int32 → Option St
  | 0, _, _ => none
  | f + 1, σ, x5 =>
    if (σ.1 118 0) ≤ x5 then
      some σ
    else
      C_Chart_listAll_l58 n (C_Chart_listAll_l45 n f) n σ x5 x5
def C_Chart_listAll (n : Nat) (σ0 : St) : Option St :=
  bp (C_Grammar_become_10 σ0) fun σ2 =>
  lt (sI σ2 118 0 (σ2.1 51 0)) fun σ3 =>
  lt (sC σ3 114 (va_cpy (σ3.1 50) (σ3.1 114) 0 0 24)) fun σ5 =>
  bp (C_Symbols_fill n σ5) fun σ8 =>
  C_Chart_listAll_l45 n n σ8 (0 : Int32)
abbrev rmC_Chart_listAll : Room := { frames := 5, cells := 0, slots := 0, locals := 130 }
set_option maxHeartbeats 4000000 in
set_option maxRecDepth 100000 in
theorem cC_Chart_listAll (l : Launch) (E : Ev) (n : Nat) (sz : Nat) (σ0 σ' : St) (hm : C_Chart_listAll n σ0 = some σ') : Met l yX0_listAll (wz yX0_listAll cX0_listAll 7 none) rmC_Chart_listAll (PwC E [.ref (E.2.2 1007), .ref (E.2.2 1005), .ref (E.2.2 1003), .ref (E.2.2 1001), .ref (E.2.2 1002)] σ0 sz) (QvC E σ0 σ' sz) 0 0 (va_A (wldC E σ0) sz) := by
  refine enC (own := RX0) (by decide) rfl (Nat.le_of_ble_eq_true rfl) (fun p e s m args below meth c cx hr hlk hml hsz ok hw ls hl => ?_)
  have hx := cx.1
  have hb := cx.2.1
  have hA9 := cx.2.2.2
  have hA : ∀ q, s.heap.size ≤ q → (va_A (wldC E σ0) sz) q := fun q h => Or.inr (by rw [← hsz]; exact h)
  have w_58 : ∀ (k45 : St → Int32 → Option St) (hk45 : ∀ (σ : St) (x5 : Int32) (H : Heap) (locs : List Loc) (ls : Array Slot), wsC E σ (va_A (wldC E σ0) sz) s H locs → lv_has ls 7 [(0, .ref (E.2.2 1007)), (5, .int x5)] → k45 σ x5 = some σ' → W p l e rmC_Chart_listAll s m args below meth c H locs 0 0 (MQ below (QvC E σ0 σ' sz) args s 0 0 (va_A (wldC E σ0) sz)) (F0 m 45 ls [])), ∀ (f : Nat), ∀ (σ : St) (x5 : Int32) (x6 : Int32) (H : Heap) (locs : List Loc) (ls : Array Slot), wsC E σ (va_A (wldC E σ0) sz) s H locs → lv_has ls 7 [(0, .ref (E.2.2 1007)), (5, .int x5), (6, .int x6)] → C_Chart_listAll_l58 n k45 f σ x5 x6 = some σ' → W p l e rmC_Chart_listAll s m args below meth c H locs 0 0 (MQ below (QvC E σ0 σ' sz) args s 0 0 (va_A (wldC E σ0) sz)) (F0 m 58 ls []) := by
    intro k45 hk45
    intro f
    induction f with
    | zero =>
      intro σ x5 x6 H locs ls hw hl hm
      rw [C_Chart_listAll_l58] at hm
      cases hm
    | succ f ih =>
      intro σ x5 x6 H locs ls hw hl hm
      rw [C_Chart_listAll_l58] at hm
      refine lv_iload hx hb dX0_listAll_58 (lv_at hl 2 rfl) ?_
      refine lv_if_lt (tgt := 77) hx hb dX0_listAll_60 (by decide) (fun c1 => ?_) (fun c1 => ?_)
      · have hm := if_t c1 hm
        obtain ⟨x5_2, e3, hm⟩ := lt_ok hm
        refine lv_iinc (v := x5_2) (lv' := [(5, .int x5_2), (0, .ref (E.2.2 1007)), (6, .int x6)]) hx hb dX0_listAll_77 hl (k := 1) rfl (by rw [e3]; rfl) (by decide) rfl (fun ls hl => ?_)
        refine lv_goto (tgt := 45) hx hb dX0_listAll_80 (by decide) ?_
        exact hk45 σ x5_2 H locs ls hw (lv_sub hl [1, 0] rfl) hm
      · have hm := if_f c1 hm
        refine lv_aload_n hx hb dX0_listAll_63 rfl (lv_at hl 0 rfl) ?_
        refine lv_iload hx hb dX0_listAll_64 (lv_at hl 2 rfl) ?_
        refine lv_iload hx hb dX0_listAll_66 (lv_at hl 1 rfl) ?_
        obtain ⟨σ5, h4, hm⟩ := bp_ok hm
        refine clV_Cv (As := [.int x6, .int x5]) (rest := []) cx hml hl.1 ok hw hA (rcC_7 ok hw) (cC_Chart_fillSpan l E n _ σ σ5 x6 x5 h4) (cwC_X0_Chart_fillSpan hA9 ⟨Nat.le_of_ble_eq_true rfl, Nat.le_of_ble_eq_true rfl⟩) rfl rfl (Nat.le_of_ble_eq_true rfl) dX0_listAll_68 (fun H locs hw => ?_)
        obtain ⟨x6_6, e7, hm⟩ := lt_ok hm
        refine lv_iinc (v := x6_6) (lv' := [(6, .int x6_6), (0, .ref (E.2.2 1007)), (5, .int x5)]) hx hb dX0_listAll_71 hl (k := 2) rfl (by rw [e7]; rfl) (by decide) rfl (fun ls hl => ?_)
        refine lv_goto (tgt := 58) hx hb dX0_listAll_74 (by decide) ?_
        exact ih σ5 x5 x6_6 H locs ls hw (lv_sub hl [1, 2, 0] rfl) hm
  have w_45 : ∀ (f : Nat), ∀ (σ : St) (x5 : Int32) (H : Heap) (locs : List Loc) (ls : Array Slot), wsC E σ (va_A (wldC E σ0) sz) s H locs → lv_has ls 7 [(0, .ref (E.2.2 1007)), (5, .int x5)] → C_Chart_listAll_l45 n f σ x5 = some σ' → W p l e rmC_Chart_listAll s m args below meth c H locs 0 0 (MQ below (QvC E σ0 σ' sz) args s 0 0 (va_A (wldC E σ0) sz)) (F0 m 45 ls []) := by
    intro f
    induction f with
    | zero =>
      intro σ x5 H locs ls hw hl hm
      rw [C_Chart_listAll_l45] at hm
      cases hm
    | succ f ih =>
      intro σ x5 H locs ls hw hl hm
      rw [C_Chart_listAll_l45] at hm
      refine lv_iload hx hb dX0_listAll_45 (lv_at hl 1 rfl) ?_
      refine lv_aload_n hx hb dX0_listAll_47 rfl (lv_at hl 0 rfl) ?_
      refine gtC_X0_7_6 cx ok hw dX0_listAll_48 ?_
      refine lv_icmp_ge (tgt := 83) hx hb dX0_listAll_51 (by decide) (fun c1 => ?_) (fun c1 => ?_)
      · have hm := if_t c1 hm
        exact rtC_v cx hr hlk hw hm dX0_listAll_83
      · have hm := if_f c1 hm
        refine lv_iload hx hb dX0_listAll_54 (lv_at hl 1 rfl) ?_
        refine lv_istore (lv' := [(6, .int x5), (0, .ref (E.2.2 1007)), (5, .int x5)]) hx hb dX0_listAll_56 hl (by decide) rfl (fun ls hl => ?_)
        exact w_58 (C_Chart_listAll_l45 n f) ih n σ x5 x5 H locs ls hw (lv_sub hl [1, 2, 0] rfl) hm
  have hl : lv_has ls 7 [(0, .ref (E.2.2 1007)), (1, .ref (E.2.2 1005)), (2, .ref (E.2.2 1003)), (3, .ref (E.2.2 1001)), (4, .ref (E.2.2 1002))] := hl
  unfold C_Chart_listAll at hm
  have goal0 : ∀ (H : Heap) (locs : List Loc), wsC E σ0 (va_A (wldC E σ0) sz) s H locs → W p l e rmC_Chart_listAll s m args below meth c H locs 0 0 (MQ below (QvC E σ0 σ' sz) args s 0 0 (va_A (wldC E σ0) sz)) (F0 m 0 ls []) := by
    intro H locs hw
    refine lv_aload_n hx hb dX0_listAll_0 rfl (lv_at hl 0 rfl) ?_
    refine gtC_X0_7_0 cx ok hw dX0_listAll_1 ?_
    refine lv_aload_n hx hb dX0_listAll_4 rfl (lv_at hl 1 rfl) ?_
    obtain ⟨σ2, h1, hm⟩ := bp_ok hm
    refine clVN_Cv (As := [.ref (E.2.2 1005)]) (rest := []) cx hml hl.1 ok hw hA (rcC_10 ok hw) (cC_Grammar_become_10 l E _ σ0 σ2 h1) (cwC_X0_Grammar_become_10 hA9 ok ⟨Nat.le_of_ble_eq_true rfl, Nat.le_of_ble_eq_true rfl⟩) rfl rfl (Nat.le_of_ble_eq_true rfl) dX0_listAll_5 (fun H locs hw => ?_)
    refine lv_aload_n hx hb dX0_listAll_8 rfl (lv_at hl 0 rfl) ?_
    refine lv_aload_n hx hb dX0_listAll_9 rfl (lv_at hl 2 rfl) ?_
    refine gtC_X0_3_3 cx ok hw dX0_listAll_10 ?_
    refine ptC_X0_7_6 cx ok hw dX0_listAll_13 (fun H locs hw => ?_)
    obtain ⟨σ3, e4, hm⟩ := lt_ok hm
    have hw := wsC_eq e4 hw
    refine lv_aload_n hx hb dX0_listAll_16 rfl (lv_at hl 2 rfl) ?_
    refine gtC_X0_3_2 cx ok hw dX0_listAll_17 ?_
    refine lv_iconst (v := (0 : Int32)) hx hb dX0_listAll_20 (by decide) ?_
    refine lv_aload_n hx hb dX0_listAll_21 rfl (lv_at hl 0 rfl) ?_
    refine gtC_X0_7_2 cx ok hw dX0_listAll_22 ?_
    refine lv_iconst (v := (0 : Int32)) hx hb dX0_listAll_25 (by decide) ?_
    refine lv_bipush (v := (24 : Int32)) hx hb dX0_listAll_26 (by decide) ?_
    refine cpC_X0_50_114 cx (by rw [hml]; exact hl.1.symm) ok hw (Nat.le_of_ble_eq_true rfl) (rest := []) (by decide) dX0_listAll_28 (fun H locs hw => ?_)
    obtain ⟨σ5, e6, hm⟩ := lt_ok hm
    have hw := wsC_eq e6 hw
    refine lv_aload_n hx hb dX0_listAll_31 rfl (lv_at hl 0 rfl) ?_
    refine gtC_X0_7_1 cx ok hw dX0_listAll_32 ?_
    refine lv_aload_n hx hb dX0_listAll_35 rfl (lv_at hl 2 rfl) ?_
    refine lv_aload_n hx hb dX0_listAll_36 rfl (lv_at hl 3 rfl) ?_
    refine lv_aload hx hb dX0_listAll_37 (lv_at hl 4 rfl) ?_
    obtain ⟨σ8, h7, hm⟩ := bp_ok hm
    refine clVN_Cv (As := [.ref (E.2.2 1003), .ref (E.2.2 1001), .ref (E.2.2 1002)]) (rest := []) cx hml hl.1 ok hw hA (rcC_11 ok hw) (cC_Symbols_fill l E n _ σ5 σ8 h7) (cwC_X0_Symbols_fill hA9 ok ⟨Nat.le_of_ble_eq_true rfl, Nat.le_of_ble_eq_true rfl⟩) rfl rfl (Nat.le_of_ble_eq_true rfl) dX0_listAll_39 (fun H locs hw => ?_)
    refine lv_iconst (v := (0 : Int32)) hx hb dX0_listAll_42 (by decide) ?_
    refine lv_istore (lv' := [(5, .int (0 : Int32)), (0, .ref (E.2.2 1007)), (1, .ref (E.2.2 1005)), (2, .ref (E.2.2 1003)), (3, .ref (E.2.2 1001)), (4, .ref (E.2.2 1002))]) hx hb dX0_listAll_43 hl (by decide) rfl (fun ls hl => ?_)
    exact w_45 n σ8 (0 : Int32) H locs ls hw (lv_sub hl [1, 0] rfl) hm
  exact goal0 _ _ hw
theorem cwC_X9_Chart_listAll {R : Room} {s : State} {args : Array Value} {E : Ev} {A : Nat → Prop} (h : ∀ w ∈ wA, w.before args s = true) (ok : okC E A s) (hR : rmC_Chart_listAll.frames + 1 ≤ R.frames ∧ 8 + (7 + 11) + rmC_Chart_listAll.locals ≤ R.locals) : va_CN R s args RX9 120 yX0_listAll "ChordGrammars" cX0_listAll 7 none (wz yX0_listAll cX0_listAll 7 none) rmC_Chart_listAll 0 0 4 ∧ (Cond.instanceMethod yX0_listAll).before args s = true ∧ (Cond.selects RX0 yX0_listAll yX0_listAll).before args s = true := ⟨va_cnB 4 h (gdC k_528) rfl rfl rfl (ok.2.1 _ kn_525) (h _ k_8) (by decide +kernel) hR, h _ k_527, h _ ks_21⟩
/-! ChordGrammars$Chart.wholeRow: reads only -/
def C_Chart_wholeRow (σ0 : St) : Option Int32 :=
  gd (0 : Int32) 60 <|
  bp (C_Chart_rowOf (σ0.1 160 (0 : Int32).toNatClampNeg) (0 : Int32) ((σ0.1 118 0) - (1 : Int32))) fun r3 =>
  some r3
abbrev rmC_Chart_wholeRow : Room := { frames := 1, cells := 0, slots := 0, locals := 22 }
set_option maxHeartbeats 4000000 in
set_option maxRecDepth 100000 in
theorem cC_Chart_wholeRow (l : Launch) (E : Ev) (sz : Nat) (σ0 : St) (r : Int32) (hm : C_Chart_wholeRow σ0 = some r) : Met l yX0_wholeRow (wz yX0_wholeRow cX0_wholeRow 1 (some .int)) rmC_Chart_wholeRow (PwC E [.ref (E.2.2 1007)] σ0 sz) (QiC E σ0 σ0 sz r) 0 0 (va_A (wldC E σ0) sz) := by
  refine enC (own := RX0) (by decide) rfl (Nat.le_of_ble_eq_true rfl) (fun p e s m args below meth c cx hr hlk hml hsz ok hw ls hl => ?_)
  have hx := cx.1
  have hb := cx.2.1
  have hA9 := cx.2.2.2
  have hA : ∀ q, s.heap.size ≤ q → (va_A (wldC E σ0) sz) q := fun q h => Or.inr (by rw [← hsz]; exact h)
  have hl : lv_has ls 1 [(0, .ref (E.2.2 1007))] := hl
  unfold C_Chart_wholeRow at hm
  have goal0 : ∀ (H : Heap) (locs : List Loc), wsC E σ0 (va_A (wldC E σ0) sz) s H locs → W p l e rmC_Chart_wholeRow s m args below meth c H locs 0 0 (MQ below (QiC E σ0 σ0 sz r) args s 0 0 (va_A (wldC E σ0) sz)) (F0 m 0 ls []) := by
    intro H locs hw
    refine lv_aload_n hx hb dX0_wholeRow_0 rfl (lv_at hl 0 rfl) ?_
    refine gtC_X0_7_0 cx ok hw dX0_wholeRow_1 ?_
    refine gtC_X0_10_0 cx ok hw dX0_wholeRow_4 ?_
    refine lv_iconst (v := (0 : Int32)) hx hb dX0_wholeRow_7 (by decide) ?_
    obtain ⟨g1, hm⟩ := gd_ok hm
    refine ldC_160 cx ok hw g1 dX0_wholeRow_8 ?_
    refine lv_iconst (v := (0 : Int32)) hx hb dX0_wholeRow_9 (by decide) ?_
    refine lv_aload_n hx hb dX0_wholeRow_10 rfl (lv_at hl 0 rfl) ?_
    refine gtC_X0_7_6 cx ok hw dX0_wholeRow_11 ?_
    refine lv_iconst (v := (1 : Int32)) hx hb dX0_wholeRow_14 (by decide) ?_
    refine lv_isub hx hb dX0_wholeRow_15 ?_
    obtain ⟨r3, h2, hm⟩ := bp_ok hm
    refine clS_Ci (As := [.int (σ0.1 160 (0 : Int32).toNatClampNeg), .int (0 : Int32), .int ((σ0.1 118 0) - (1 : Int32))]) (rest := []) cx hml hl.1 ok hw hA (cC_Chart_rowOf l E _ σ0 (σ0.1 160 (0 : Int32).toNatClampNeg) (0 : Int32) ((σ0.1 118 0) - (1 : Int32)) r3 h2) (cwC_X0_Chart_rowOf hA9 ⟨Nat.le_of_ble_eq_true rfl, Nat.le_of_ble_eq_true rfl⟩) rfl rfl (Nat.le_of_ble_eq_true rfl) dX0_wholeRow_16 (fun H locs hw => ?_)
    exact rtC_i cx hr hlk hw (pr_some hm) dX0_wholeRow_19
  exact goal0 _ _ hw
theorem cwC_X0_Chart_wholeRow {R : Room} {s : State} {args : Array Value} (h : ∀ w ∈ wA, w.before args s = true) (hR : rmC_Chart_wholeRow.frames + 1 ≤ R.frames ∧ 8 + (1 + 11) + rmC_Chart_wholeRow.locals ≤ R.locals) : CallW R s args RX0 RX0 123 yX0_wholeRow cX0_wholeRow 1 (some .int) (wz yX0_wholeRow cX0_wholeRow 1 (some .int)) rmC_Chart_wholeRow 0 0 0 := cwV 0 h (gdV k_595 k_597 ks_35 k_8 k_598) rfl rfl rfl (by decide +kernel) hR
/-! ChordGrammars$Chart.listed: reads only -/
def C_Chart_listed (σ0 : St) : Option Int32 :=
  if (σ0.1 118 0) = 0 then
    some (0 : Int32)
  else
    bp (C_Chart_wholeRow σ0) fun r3 =>
    gd r3 7800 <|
    some (σ0.1 116 r3.toNatClampNeg)
abbrev rmC_Chart_listed : Room := { frames := 2, cells := 0, slots := 0, locals := 42 }
set_option maxHeartbeats 4000000 in
set_option maxRecDepth 100000 in
theorem cC_Chart_listed (l : Launch) (E : Ev) (sz : Nat) (σ0 : St) (r : Int32) (hm : C_Chart_listed σ0 = some r) : Met l yX0_listed (wz yX0_listed cX0_listed 1 (some .int)) rmC_Chart_listed (PwC E [.ref (E.2.2 1007)] σ0 sz) (QiC E σ0 σ0 sz r) 0 0 (va_A (wldC E σ0) sz) := by
  refine enC (own := RX0) (by decide) rfl (Nat.le_of_ble_eq_true rfl) (fun p e s m args below meth c cx hr hlk hml hsz ok hw ls hl => ?_)
  have hx := cx.1
  have hb := cx.2.1
  have hA9 := cx.2.2.2
  have hA : ∀ q, s.heap.size ≤ q → (va_A (wldC E σ0) sz) q := fun q h => Or.inr (by rw [← hsz]; exact h)
  have hl : lv_has ls 1 [(0, .ref (E.2.2 1007))] := hl
  unfold C_Chart_listed at hm
  have goal0 : ∀ (H : Heap) (locs : List Loc), wsC E σ0 (va_A (wldC E σ0) sz) s H locs → W p l e rmC_Chart_listed s m args below meth c H locs 0 0 (MQ below (QiC E σ0 σ0 sz r) args s 0 0 (va_A (wldC E σ0) sz)) (F0 m 0 ls []) := by
    intro H locs hw
    refine lv_aload_n hx hb dX0_listed_0 rfl (lv_at hl 0 rfl) ?_
    refine gtC_X0_7_6 cx ok hw dX0_listed_1 ?_
    refine lv_if_ne (tgt := 11) hx hb dX0_listed_4 (by decide) (fun c1 => ?_) (fun c1 => ?_)
    · have hm := if_f c1 hm
      refine lv_aload_n hx hb dX0_listed_11 rfl (lv_at hl 0 rfl) ?_
      refine gtC_X0_7_4 cx ok hw dX0_listed_12 ?_
      refine lv_aload_n hx hb dX0_listed_15 rfl (lv_at hl 0 rfl) ?_
      obtain ⟨r3, h2, hm⟩ := bp_ok hm
      refine clV_Ci (As := []) (rest := [.ref (E.2.2 116)]) cx hml hl.1 ok hw hA (rcC_7 ok hw) (cC_Chart_wholeRow l E _ σ0 r3 h2) (cwC_X0_Chart_wholeRow hA9 ⟨Nat.le_of_ble_eq_true rfl, Nat.le_of_ble_eq_true rfl⟩) rfl rfl (Nat.le_of_ble_eq_true rfl) dX0_listed_16 (fun H locs hw => ?_)
      obtain ⟨g4, hm⟩ := gd_ok hm
      refine ldC_116 cx ok hw g4 dX0_listed_19 ?_
      exact rtC_i cx hr hlk hw (pr_some hm) dX0_listed_20
    · have hm := if_t c1 hm
      refine lv_iconst (v := (0 : Int32)) hx hb dX0_listed_7 (by decide) ?_
      refine lv_goto (tgt := 20) hx hb dX0_listed_8 (by decide) ?_
      exact rtC_i cx hr hlk hw (pr_some hm) dX0_listed_20
  exact goal0 _ _ hw
theorem cwC_X9_Chart_listed {R : Room} {s : State} {args : Array Value} {E : Ev} {A : Nat → Prop} (h : ∀ w ∈ wA, w.before args s = true) (ok : okC E A s) (hR : rmC_Chart_listed.frames + 1 ≤ R.frames ∧ 8 + (1 + 11) + rmC_Chart_listed.locals ≤ R.locals) : va_CN R s args RX9 127 yX0_listed "ChordGrammars" cX0_listed 1 (some .int) (wz yX0_listed cX0_listed 1 (some .int)) rmC_Chart_listed 0 0 0 ∧ (Cond.instanceMethod yX0_listed).before args s = true ∧ (Cond.selects RX0 yX0_listed yX0_listed).before args s = true := ⟨va_cnB 0 h (gdC k_594) rfl rfl rfl (ok.2.1 _ kn_591) (h _ k_8) (by decide +kernel) hR, h _ k_593, h _ ks_34⟩
/-! ChordGrammars.parse: writes -/
def C_CG_parse (n : Nat) (σ0 : St) : Option (Int32 × St) :=
  if (σ0.1 85 0) = 0 then
    some ((-1 : Int32), σ0)
  else
    if (σ0.1 51 0) = 0 then
      some ((-1 : Int32), σ0)
    else
      bp (C_Chart_listAll n σ0) fun σ4 =>
      lt (sI σ4 128 0 (-1 : Int32)) fun σ5 =>
      bp (C_Chart_listed σ5) fun r8 =>
      some (r8, σ5)
abbrev rmC_CG_parse : Room := { frames := 6, cells := 0, slots := 0, locals := 156 }
set_option maxHeartbeats 4000000 in
set_option maxRecDepth 100000 in
theorem cC_CG_parse (l : Launch) (E : Ev) (n : Nat) (sz : Nat) (σ0 σ' : St) (r : Int32) (hm : C_CG_parse n σ0 = some (r, σ')) : Met l yX9_parse (wz yX9_parse cX9_parse 1 (some .int)) rmC_CG_parse (PwC E [.ref (E.2.2 1000)] σ0 sz) (QiC E σ0 σ' sz r) 0 0 (va_A (wldC E σ0) sz) := by
  refine enC (own := RX9) (by decide) rfl (Nat.le_of_ble_eq_true rfl) (fun p e s m args below meth c cx hr hlk hml hsz ok hw ls hl => ?_)
  have hx := cx.1
  have hb := cx.2.1
  have hA9 := cx.2.2.2
  have hA : ∀ q, s.heap.size ≤ q → (va_A (wldC E σ0) sz) q := fun q h => Or.inr (by rw [← hsz]; exact h)
  have hl : lv_has ls 1 [(0, .ref (E.2.2 1000))] := hl
  unfold C_CG_parse at hm
  have goal0 : ∀ (H : Heap) (locs : List Loc), wsC E σ0 (va_A (wldC E σ0) sz) s H locs → W p l e rmC_CG_parse s m args below meth c H locs 0 0 (MQ below (QiC E σ0 σ' sz r) args s 0 0 (va_A (wldC E σ0) sz)) (F0 m 0 ls []) := by
    intro H locs hw
    refine lv_aload_n hx hb dX9_parse_0 rfl (lv_at hl 0 rfl) ?_
    refine gtC_X9_0_4 cx ok hw dX9_parse_1 ?_
    refine gtC_X9_5_5 cx ok hw dX9_parse_4 ?_
    refine lv_if_eq (tgt := 20) hx hb dX9_parse_7 (by decide) (fun c1 => ?_) (fun c1 => ?_)
    · have hm := if_t c1 hm
      refine lv_iconst (v := (-1 : Int32)) hx hb dX9_parse_20 (by decide) ?_
      exact rtC_i cx hr hlk hw hm dX9_parse_21
    · have hm := if_f c1 hm
      refine lv_aload_n hx hb dX9_parse_10 rfl (lv_at hl 0 rfl) ?_
      refine gtC_X9_0_2 cx ok hw dX9_parse_11 ?_
      refine gtC_X9_3_3 cx ok hw dX9_parse_14 ?_
      refine lv_if_ne (tgt := 22) hx hb dX9_parse_17 (by decide) (fun c2 => ?_) (fun c2 => ?_)
      · have hm := if_f c2 hm
        refine lv_aload_n hx hb dX9_parse_22 rfl (lv_at hl 0 rfl) ?_
        refine gtC_X9_0_6 cx ok hw dX9_parse_23 ?_
        refine lv_aload_n hx hb dX9_parse_26 rfl (lv_at hl 0 rfl) ?_
        refine gtC_X9_0_4 cx ok hw dX9_parse_27 ?_
        refine lv_aload_n hx hb dX9_parse_30 rfl (lv_at hl 0 rfl) ?_
        refine gtC_X9_0_2 cx ok hw dX9_parse_31 ?_
        refine lv_aload_n hx hb dX9_parse_34 rfl (lv_at hl 0 rfl) ?_
        refine gtC_X9_0_0 cx ok hw dX9_parse_35 ?_
        refine lv_aload_n hx hb dX9_parse_38 rfl (lv_at hl 0 rfl) ?_
        refine gtC_X9_0_1 cx ok hw dX9_parse_39 ?_
        obtain ⟨σ4, h3, hm⟩ := bp_ok hm
        refine clVN_Cv (As := [.ref (E.2.2 1005), .ref (E.2.2 1003), .ref (E.2.2 1001), .ref (E.2.2 1002)]) (rest := []) cx hml hl.1 ok hw hA (rcC_7 ok hw) (cC_Chart_listAll l E n _ σ0 σ4 h3) (cwC_X9_Chart_listAll hA9 ok ⟨Nat.le_of_ble_eq_true rfl, Nat.le_of_ble_eq_true rfl⟩) rfl rfl (Nat.le_of_ble_eq_true rfl) dX9_parse_42 (fun H locs hw => ?_)
        refine lv_aload_n hx hb dX9_parse_45 rfl (lv_at hl 0 rfl) ?_
        refine gtC_X9_0_7 cx ok hw dX9_parse_46 ?_
        refine lv_iconst (v := (-1 : Int32)) hx hb dX9_parse_49 (by decide) ?_
        refine ptC_X9_8_0 cx ok hw dX9_parse_50 (fun H locs hw => ?_)
        obtain ⟨σ5, e6, hm⟩ := lt_ok hm
        have hw := wsC_eq e6 hw
        refine lv_aload_n hx hb dX9_parse_53 rfl (lv_at hl 0 rfl) ?_
        refine gtC_X9_0_6 cx ok hw dX9_parse_54 ?_
        obtain ⟨r8, h7, hm⟩ := bp_ok hm
        refine clVN_Ci (As := []) (rest := []) cx hml hl.1 ok hw hA (rcC_7 ok hw) (cC_Chart_listed l E _ σ5 r8 h7) (cwC_X9_Chart_listed hA9 ok ⟨Nat.le_of_ble_eq_true rfl, Nat.le_of_ble_eq_true rfl⟩) rfl rfl (Nat.le_of_ble_eq_true rfl) dX9_parse_57 (fun H locs hw => ?_)
        exact rtC_i cx hr hlk hw hm dX9_parse_60
      · have hm := if_t c2 hm
        refine lv_iconst (v := (-1 : Int32)) hx hb dX9_parse_20 (by decide) ?_
        exact rtC_i cx hr hlk hw hm dX9_parse_21
  exact goal0 _ _ hw

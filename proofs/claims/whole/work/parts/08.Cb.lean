/-! java/lang/String.indexOf: reads only -/
def C_String_indexOf_7cf53 (n : Nat) (x1 : Int32) (x2 : Int32) : Option Int32 :=
  bp (C_String_length_8abf5) fun r3 =>
  bp (C_StringLatin1_indexOf_4cfef n x1 x2 r3) fun r5 =>
  some r5
abbrev rmC_String_indexOf_7cf53 : Room := { frames := 2, cells := 0, slots := 0, locals := 53 }
set_option maxHeartbeats 4000000 in
set_option maxRecDepth 100000 in
theorem cC_String_indexOf_7cf53 (l : Launch) (E : Ev) (n : Nat) (sz : Nat) (σ0 : St) (x1 : Int32) (x2 : Int32) (r : Int32) (hm : C_String_indexOf_7cf53 n x1 x2 = some r) : Met l yJ0_indexOf_7cf53 (wz yJ0_indexOf_7cf53 cJ0_indexOf_7cf53 3 (some .int)) rmC_String_indexOf_7cf53 (PwC E [.ref (E.2.2 2010), .int x1, .int x2] σ0 sz) (QiC E σ0 σ0 sz r) 0 0 (va_A (wldC E σ0) sz) := by
  refine enC (own := RJ0) (by decide) rfl (Nat.le_of_ble_eq_true rfl) (fun p e s m args below meth c cx hr hlk hml hsz ok hw ls hl => ?_)
  have hx := cx.1
  have hb := cx.2.1
  have hA9 := cx.2.2.2
  have hA : ∀ q, s.heap.size ≤ q → (va_A (wldC E σ0) sz) q := fun q h => Or.inr (by rw [← hsz]; exact h)
  have hl : lv_has ls 3 [(0, .ref (E.2.2 2010)), (1, .int x1), (2, .int x2)] := hl
  unfold C_String_indexOf_7cf53 at hm
  have goal0 : ∀ (H : Heap) (locs : List Loc), wsC E σ0 (va_A (wldC E σ0) sz) s H locs → W p l e rmC_String_indexOf_7cf53 s m args below meth c H locs 0 0 (MQ below (QiC E σ0 σ0 sz r) args s 0 0 (va_A (wldC E σ0) sz)) (F0 m 0 ls []) := by
    intro H locs hw
    refine lv_aload_n hx hb dJ0_indexOf_7cf53_0 rfl (lv_at hl 0 rfl) ?_
    refine clV_Ci (As := []) (rest := []) cx hml hl.1 ok hw hA (rcC_str ok hw) (cC_String_isLatin1_aae02 l E _ σ0 (1 : Int32) rfl) (cwC_J0_String_isLatin1_aae02 hA9 ⟨Nat.le_of_ble_eq_true rfl, Nat.le_of_ble_eq_true rfl⟩) rfl rfl (Nat.le_of_ble_eq_true rfl) dJ0_indexOf_7cf53_1 (fun H locs hw => ?_)
    refine lv_if_eq (tgt := 23) hx hb dJ0_indexOf_7cf53_4 (by decide) (fun c => absurd c (by decide)) (fun _ => ?_)
    refine lv_aload_n hx hb dJ0_indexOf_7cf53_7 rfl (lv_at hl 0 rfl) ?_
    refine gtC_strv cx ok hw dJ0_indexOf_7cf53_8 ?_
    refine lv_iload_n hx hb dJ0_indexOf_7cf53_11 rfl (lv_at hl 1 rfl) ?_
    refine lv_iload_n hx hb dJ0_indexOf_7cf53_12 rfl (lv_at hl 2 rfl) ?_
    refine lv_aload_n hx hb dJ0_indexOf_7cf53_13 rfl (lv_at hl 0 rfl) ?_
    obtain ⟨r3, h2, hm⟩ := bp_ok hm
    refine clV_Ci (As := []) (rest := [.int x2, .int x1, .ref (E.2.2 2011)]) cx hml hl.1 ok hw hA (rcC_str ok hw) (cC_String_length_8abf5 l E _ σ0 r3 h2) (cwC_J0_String_length_8abf5 hA9 ⟨Nat.le_of_ble_eq_true rfl, Nat.le_of_ble_eq_true rfl⟩) rfl rfl (Nat.le_of_ble_eq_true rfl) dJ0_indexOf_7cf53_14 (fun H locs hw => ?_)
    obtain ⟨r5, h4, hm⟩ := bp_ok hm
    refine clS_Ci (As := [.ref (E.2.2 2011), .int x1, .int x2, .int r3]) (rest := []) cx hml hl.1 ok hw hA (cC_StringLatin1_indexOf_4cfef l E n _ σ0 x1 x2 r3 r5 h4) (cwC_J0_StringLatin1_indexOf_4cfef hA9 ⟨Nat.le_of_ble_eq_true rfl, Nat.le_of_ble_eq_true rfl⟩) rfl rfl (Nat.le_of_ble_eq_true rfl) dJ0_indexOf_7cf53_17 (fun H locs hw => ?_)
    refine lv_goto (tgt := 36) hx hb dJ0_indexOf_7cf53_20 (by decide) ?_
    exact rtC_i cx hr hlk hw (pr_some hm) dJ0_indexOf_7cf53_36
  exact goal0 _ _ hw
theorem cwC_J0_String_indexOf_7cf53 {R : Room} {s : State} {args : Array Value} (h : ∀ w ∈ wA, w.before args s = true) (hR : rmC_String_indexOf_7cf53.frames + 1 ≤ R.frames ∧ 8 + (3 + 11) + rmC_String_indexOf_7cf53.locals ≤ R.locals) : CallW R s args RJ0 RJ0 633 yJ0_indexOf_7cf53 cJ0_indexOf_7cf53 3 (some .int) (wz yJ0_indexOf_7cf53 cJ0_indexOf_7cf53 3 (some .int)) rmC_String_indexOf_7cf53 0 0 2 := cwV 2 h (gdV k_355 k_356 k_357 k_12 k_358) rfl rfl rfl (by decide +kernel) hR
/-! java/lang/String.indexOf: reads only -/
def C_String_indexOf_0f7a4 (n : Nat) (x1 : Int32) : Option Int32 :=
  bp (C_String_indexOf_7cf53 n x1 (0 : Int32)) fun r2 =>
  some r2
abbrev rmC_String_indexOf_0f7a4 : Room := { frames := 3, cells := 0, slots := 0, locals := 75 }
set_option maxHeartbeats 4000000 in
set_option maxRecDepth 100000 in
theorem cC_String_indexOf_0f7a4 (l : Launch) (E : Ev) (n : Nat) (sz : Nat) (σ0 : St) (x1 : Int32) (r : Int32) (hm : C_String_indexOf_0f7a4 n x1 = some r) : Met l yJ0_indexOf_0f7a4 (wz yJ0_indexOf_0f7a4 cJ0_indexOf_0f7a4 2 (some .int)) rmC_String_indexOf_0f7a4 (PwC E [.ref (E.2.2 2010), .int x1] σ0 sz) (QiC E σ0 σ0 sz r) 0 0 (va_A (wldC E σ0) sz) := by
  refine enC (own := RJ0) (by decide) rfl (Nat.le_of_ble_eq_true rfl) (fun p e s m args below meth c cx hr hlk hml hsz ok hw ls hl => ?_)
  have hx := cx.1
  have hb := cx.2.1
  have hA9 := cx.2.2.2
  have hA : ∀ q, s.heap.size ≤ q → (va_A (wldC E σ0) sz) q := fun q h => Or.inr (by rw [← hsz]; exact h)
  have hl : lv_has ls 2 [(0, .ref (E.2.2 2010)), (1, .int x1)] := hl
  unfold C_String_indexOf_0f7a4 at hm
  have goal0 : ∀ (H : Heap) (locs : List Loc), wsC E σ0 (va_A (wldC E σ0) sz) s H locs → W p l e rmC_String_indexOf_0f7a4 s m args below meth c H locs 0 0 (MQ below (QiC E σ0 σ0 sz r) args s 0 0 (va_A (wldC E σ0) sz)) (F0 m 0 ls []) := by
    intro H locs hw
    refine lv_aload_n hx hb dJ0_indexOf_0f7a4_0 rfl (lv_at hl 0 rfl) ?_
    refine lv_iload_n hx hb dJ0_indexOf_0f7a4_1 rfl (lv_at hl 1 rfl) ?_
    refine lv_iconst (v := (0 : Int32)) hx hb dJ0_indexOf_0f7a4_2 (by decide) ?_
    obtain ⟨r2, h1, hm⟩ := bp_ok hm
    refine clV_Ci (As := [.int x1, .int (0 : Int32)]) (rest := []) cx hml hl.1 ok hw hA (rcC_str ok hw) (cC_String_indexOf_7cf53 l E n _ σ0 x1 (0 : Int32) r2 h1) (cwC_J0_String_indexOf_7cf53 hA9 ⟨Nat.le_of_ble_eq_true rfl, Nat.le_of_ble_eq_true rfl⟩) rfl rfl (Nat.le_of_ble_eq_true rfl) dJ0_indexOf_0f7a4_3 (fun H locs hw => ?_)
    exact rtC_i cx hr hlk hw (pr_some hm) dJ0_indexOf_0f7a4_6
  exact goal0 _ _ hw
theorem cwC_X4_String_indexOf_0f7a4 {R : Room} {s : State} {args : Array Value} (h : ∀ w ∈ wA, w.before args s = true) (hR : rmC_String_indexOf_0f7a4.frames + 1 ≤ R.frames ∧ 8 + (2 + 11) + rmC_String_indexOf_0f7a4.locals ≤ R.locals) : CallW R s args RX4 RJ0 93 yJ0_indexOf_0f7a4 cJ0_indexOf_0f7a4 2 (some .int) (wz yJ0_indexOf_0f7a4 cJ0_indexOf_0f7a4 2 (some .int)) rmC_String_indexOf_0f7a4 0 0 1 := cwV 1 h (gdV k_351 k_352 k_353 k_12 k_354) rfl rfl rfl (by decide +kernel) hR
/-! ChordGrammars$Reader.kindOf: reads only -/
def C_Reader_kindOf (n : Nat) (x0 : Int32) : Option Int32 :=
  if 0 ≤ x0 then
    bp (C_String_indexOf_0f7a4 n ((x0.toUInt32 % 65536).toInt32)) fun r3 =>
    some r3
  else
    some (-1 : Int32)
abbrev rmC_Reader_kindOf : Room := { frames := 4, cells := 0, slots := 0, locals := 96 }
set_option maxHeartbeats 4000000 in
set_option maxRecDepth 100000 in
theorem cC_Reader_kindOf (l : Launch) (E : Ev) (n : Nat) (sz : Nat) (σ0 : St) (x0 : Int32) (r : Int32) (hm : C_Reader_kindOf n x0 = some r) : Met l yX4_kindOf (wz yX4_kindOf cX4_kindOf 1 (some .int)) rmC_Reader_kindOf (PwC E [.int x0] σ0 sz) (QiC E σ0 σ0 sz r) 0 0 (va_A (wldC E σ0) sz) := by
  refine enC (own := RX4) (by decide) rfl (Nat.le_of_ble_eq_true rfl) (fun p e s m args below meth c cx hr hlk hml hsz ok hw ls hl => ?_)
  have hx := cx.1
  have hb := cx.2.1
  have hA9 := cx.2.2.2
  have hA : ∀ q, s.heap.size ≤ q → (va_A (wldC E σ0) sz) q := fun q h => Or.inr (by rw [← hsz]; exact h)
  have hl : lv_has ls 1 [(0, .int x0)] := hl
  unfold C_Reader_kindOf at hm
  have goal0 : ∀ (H : Heap) (locs : List Loc), wsC E σ0 (va_A (wldC E σ0) sz) s H locs → W p l e rmC_Reader_kindOf s m args below meth c H locs 0 0 (MQ below (QiC E σ0 σ0 sz r) args s 0 0 (va_A (wldC E σ0) sz)) (F0 m 0 ls []) := by
    intro H locs hw
    refine lv_iload_n hx hb dX4_kindOf_0 rfl (lv_at hl 0 rfl) ?_
    refine lv_if_ge (tgt := 8) hx hb dX4_kindOf_1 (by decide) (fun c1 => ?_) (fun c1 => ?_)
    · have hm := if_t c1 hm
      refine lsC_X4 cx ok hw dX4_kindOf_8 ?_
      refine lv_iload_n hx hb dX4_kindOf_10 rfl (lv_at hl 0 rfl) ?_
      refine lv_i2c hx hb dX4_kindOf_11 rfl ?_
      obtain ⟨r3, h2, hm⟩ := bp_ok hm
      refine clV_Ci (As := [.int ((x0.toUInt32 % 65536).toInt32)]) (rest := []) cx hml hl.1 ok hw hA (rcC_str ok hw) (cC_String_indexOf_0f7a4 l E n _ σ0 ((x0.toUInt32 % 65536).toInt32) r3 h2) (cwC_X4_String_indexOf_0f7a4 hA9 ⟨Nat.le_of_ble_eq_true rfl, Nat.le_of_ble_eq_true rfl⟩) rfl rfl (Nat.le_of_ble_eq_true rfl) dX4_kindOf_12 (fun H locs hw => ?_)
      exact rtC_i cx hr hlk hw (pr_some hm) dX4_kindOf_15
    · have hm := if_f c1 hm
      refine lv_iconst (v := (-1 : Int32)) hx hb dX4_kindOf_4 (by decide) ?_
      refine lv_goto (tgt := 15) hx hb dX4_kindOf_5 (by decide) ?_
      exact rtC_i cx hr hlk hw (pr_some hm) dX4_kindOf_15
  exact goal0 _ _ hw
theorem cwC_X4_Reader_kindOf {R : Room} {s : State} {args : Array Value} (h : ∀ w ∈ wA, w.before args s = true) (hR : rmC_Reader_kindOf.frames + 1 ≤ R.frames ∧ 8 + (1 + 11) + rmC_Reader_kindOf.locals ≤ R.locals) : CallB R s args RX4 82 yX4_kindOf cX4_kindOf 1 (some .int) (wz yX4_kindOf cX4_kindOf 1 (some .int)) rmC_Reader_kindOf 0 0 1 ∧ (Cond.static yX4_kindOf).before args s = true := va_cwS 1 h (gdS k_347 k_348 k_7 k_349) rfl rfl rfl (by decide +kernel) hR
/-! ChordGrammars$Reader.readItem: writes -/
def C_Reader_readItem (n : Nat) (σ0 : St) : Option (Int32 × St) :=
  bd (C_Reader_nextOctet n σ0) fun r2 σ3 =>
  bp (C_Reader_isName r2) fun r5 =>
  if r5 = 0 then
    if r2 < (49 : Int32) then
      some ((-1 : Int32), σ3)
    else
      if r2 ≤ (55 : Int32) then
        lt (sI σ3 99 0 ((σ3.1 99 0) + (1 : Int32))) fun σ9 =>
        bp (C_Draft_octetAt σ9 (σ9.1 99 0)) fun r12 =>
        bp (C_Reader_kindOf n r12) fun r14 =>
        if r14 = (-1 : Int32) then
          some ((((26 : Int32) + ((r2 - (49 : Int32)) * (10 : Int32))) + (9 : Int32)), σ9)
        else
          lt (sI σ9 99 0 ((σ9.1 99 0) + (1 : Int32))) fun σ16 =>
          some ((((26 : Int32) + ((r2 - (49 : Int32)) * (10 : Int32))) + r14), σ16)
      else
        some ((-1 : Int32), σ3)
  else
    lt (sI σ3 99 0 ((σ3.1 99 0) + (1 : Int32))) fun σ18 =>
    some ((r2 - (65 : Int32)), σ18)
abbrev rmC_Reader_readItem : Room := { frames := 5, cells := 0, slots := 0, locals := 116 }
set_option maxHeartbeats 4000000 in
set_option maxRecDepth 100000 in
theorem cC_Reader_readItem (l : Launch) (E : Ev) (n : Nat) (sz : Nat) (σ0 σ' : St) (r : Int32) (hm : C_Reader_readItem n σ0 = some (r, σ')) : Met l yX4_readItem (wz yX4_readItem cX4_readItem 4 (some .int)) rmC_Reader_readItem (PwC E [.ref (E.2.2 1006), .ref (E.2.2 1004)] σ0 sz) (QiC E σ0 σ' sz r) 0 0 (va_A (wldC E σ0) sz) := by
  refine enC (own := RX4) (by decide) rfl (Nat.le_of_ble_eq_true rfl) (fun p e s m args below meth c cx hr hlk hml hsz ok hw ls hl => ?_)
  have hx := cx.1
  have hb := cx.2.1
  have hA9 := cx.2.2.2
  have hA : ∀ q, s.heap.size ≤ q → (va_A (wldC E σ0) sz) q := fun q h => Or.inr (by rw [← hsz]; exact h)
  have hl : lv_has ls 4 [(0, .ref (E.2.2 1006)), (1, .ref (E.2.2 1004))] := hl
  unfold C_Reader_readItem at hm
  have goal0 : ∀ (H : Heap) (locs : List Loc), wsC E σ0 (va_A (wldC E σ0) sz) s H locs → W p l e rmC_Reader_readItem s m args below meth c H locs 0 0 (MQ below (QiC E σ0 σ' sz r) args s 0 0 (va_A (wldC E σ0) sz)) (F0 m 0 ls []) := by
    intro H locs hw
    refine lv_aload_n hx hb dX4_readItem_0 rfl (lv_at hl 0 rfl) ?_
    refine lv_aload_n hx hb dX4_readItem_1 rfl (lv_at hl 1 rfl) ?_
    obtain ⟨r2, σ3, h1, hm⟩ := bd_ok hm
    refine clV_Ci (As := [.ref (E.2.2 1004)]) (rest := []) cx hml hl.1 ok hw hA (rcC_6 ok hw) (cC_Reader_nextOctet l E n _ σ0 σ3 r2 h1) (cwC_X4_Reader_nextOctet hA9 ⟨Nat.le_of_ble_eq_true rfl, Nat.le_of_ble_eq_true rfl⟩) rfl rfl (Nat.le_of_ble_eq_true rfl) dX4_readItem_2 (fun H locs hw => ?_)
    refine lv_istore_n (lv' := [(2, .int r2), (0, .ref (E.2.2 1006)), (1, .ref (E.2.2 1004))]) hx hb dX4_readItem_5 rfl hl (by decide) rfl (fun ls hl => ?_)
    refine lv_iload_n hx hb dX4_readItem_6 rfl (lv_at hl 0 rfl) ?_
    obtain ⟨r5, h4, hm⟩ := bp_ok hm
    refine clS_Ci (As := [.int r2]) (rest := []) cx hml hl.1 ok hw hA (cC_Reader_isName l E _ σ3 r2 r5 h4) (cwC_X4_Reader_isName hA9 ⟨Nat.le_of_ble_eq_true rfl, Nat.le_of_ble_eq_true rfl⟩) rfl rfl (Nat.le_of_ble_eq_true rfl) dX4_readItem_7 (fun H locs hw => ?_)
    refine lv_if_eq (tgt := 28) hx hb dX4_readItem_10 (by decide) (fun c6 => ?_) (fun c6 => ?_)
    · have hm := if_t c6 hm
      refine lv_iload_n hx hb dX4_readItem_28 rfl (lv_at hl 0 rfl) ?_
      refine lv_bipush (v := (49 : Int32)) hx hb dX4_readItem_29 (by decide) ?_
      refine lv_icmp_lt (tgt := 40) hx hb dX4_readItem_31 (by decide) (fun c7 => ?_) (fun c7 => ?_)
      · have hm := if_t c7 hm
        refine lv_iconst (v := (-1 : Int32)) hx hb dX4_readItem_40 (by decide) ?_
        exact rtC_i cx hr hlk hw hm dX4_readItem_41
      · have hm := if_f c7 hm
        refine lv_iload_n hx hb dX4_readItem_34 rfl (lv_at hl 0 rfl) ?_
        refine lv_bipush (v := (55 : Int32)) hx hb dX4_readItem_35 (by decide) ?_
        refine lv_icmp_le (tgt := 42) hx hb dX4_readItem_37 (by decide) (fun c8 => ?_) (fun c8 => ?_)
        · have hm := if_t c8 hm
          refine lv_aload_n hx hb dX4_readItem_42 rfl (lv_at hl 1 rfl) ?_
          refine lv_dup hx hb dX4_readItem_43 rfl ?_
          refine gtC_X4_6_3 cx ok hw dX4_readItem_44 ?_
          refine lv_iconst (v := (1 : Int32)) hx hb dX4_readItem_47 (by decide) ?_
          refine lv_iadd hx hb dX4_readItem_48 ?_
          refine ptC_X4_6_3 cx ok hw dX4_readItem_49 (fun H locs hw => ?_)
          obtain ⟨σ9, e10, hm⟩ := lt_ok hm
          have hw := wsC_eq e10 hw
          refine lv_aload_n hx hb dX4_readItem_52 rfl (lv_at hl 2 rfl) ?_
          refine lv_aload_n hx hb dX4_readItem_53 rfl (lv_at hl 1 rfl) ?_
          refine gtC_X4_6_3 cx ok hw dX4_readItem_54 ?_
          obtain ⟨r12, h11, hm⟩ := bp_ok hm
          refine clVN_Ci (As := [.int (σ9.1 99 0)]) (rest := []) cx hml hl.1 ok hw hA (rcC_4 ok hw) (cC_Draft_octetAt l E _ σ9 (σ9.1 99 0) r12 h11) (cwC_X4_Draft_octetAt hA9 ok ⟨Nat.le_of_ble_eq_true rfl, Nat.le_of_ble_eq_true rfl⟩) rfl rfl (Nat.le_of_ble_eq_true rfl) dX4_readItem_57 (fun H locs hw => ?_)
          obtain ⟨r14, h13, hm⟩ := bp_ok hm
          refine clS_Ci (As := [.int r12]) (rest := []) cx hml hl.1 ok hw hA (cC_Reader_kindOf l E n _ σ9 r12 r14 h13) (cwC_X4_Reader_kindOf hA9 ⟨Nat.le_of_ble_eq_true rfl, Nat.le_of_ble_eq_true rfl⟩) rfl rfl (Nat.le_of_ble_eq_true rfl) dX4_readItem_60 (fun H locs hw => ?_)
          refine lv_istore_n (lv' := [(3, .int r14), (2, .int r2), (0, .ref (E.2.2 1006)), (1, .ref (E.2.2 1004))]) hx hb dX4_readItem_63 rfl hl (by decide) rfl (fun ls hl => ?_)
          refine lv_iload_n hx hb dX4_readItem_64 rfl (lv_at hl 0 rfl) ?_
          refine lv_iconst (v := (-1 : Int32)) hx hb dX4_readItem_65 (by decide) ?_
          refine lv_icmp_ne (tgt := 75) hx hb dX4_readItem_66 (by decide) (fun c15 => ?_) (fun c15 => ?_)
          · have hm := if_f c15 hm
            refine lv_aload_n hx hb dX4_readItem_75 rfl (lv_at hl 2 rfl) ?_
            refine lv_dup hx hb dX4_readItem_76 rfl ?_
            refine gtC_X4_6_3 cx ok hw dX4_readItem_77 ?_
            refine lv_iconst (v := (1 : Int32)) hx hb dX4_readItem_80 (by decide) ?_
            refine lv_iadd hx hb dX4_readItem_81 ?_
            refine ptC_X4_6_3 cx ok hw dX4_readItem_82 (fun H locs hw => ?_)
            obtain ⟨σ16, e17, hm⟩ := lt_ok hm
            have hw := wsC_eq e17 hw
            refine lv_bipush (v := (26 : Int32)) hx hb dX4_readItem_85 (by decide) ?_
            refine lv_iload_n hx hb dX4_readItem_87 rfl (lv_at hl 1 rfl) ?_
            refine lv_bipush (v := (49 : Int32)) hx hb dX4_readItem_88 (by decide) ?_
            refine lv_isub hx hb dX4_readItem_90 ?_
            refine lv_bipush (v := (10 : Int32)) hx hb dX4_readItem_91 (by decide) ?_
            refine lv_imul hx hb dX4_readItem_93 ?_
            refine lv_iadd hx hb dX4_readItem_94 ?_
            refine lv_iload_n hx hb dX4_readItem_95 rfl (lv_at hl 0 rfl) ?_
            refine lv_iadd hx hb dX4_readItem_96 ?_
            exact rtC_i cx hr hlk hw hm dX4_readItem_97
          · have hm := if_t c15 hm
            refine lv_bipush (v := (9 : Int32)) hx hb dX4_readItem_69 (by decide) ?_
            refine lv_istore_n (lv' := [(3, .int (9 : Int32)), (2, .int r2), (0, .ref (E.2.2 1006)), (1, .ref (E.2.2 1004))]) hx hb dX4_readItem_71 rfl hl (by decide) rfl (fun ls hl => ?_)
            refine lv_goto (tgt := 85) hx hb dX4_readItem_72 (by decide) ?_
            refine lv_bipush (v := (26 : Int32)) hx hb dX4_readItem_85 (by decide) ?_
            refine lv_iload_n hx hb dX4_readItem_87 rfl (lv_at hl 1 rfl) ?_
            refine lv_bipush (v := (49 : Int32)) hx hb dX4_readItem_88 (by decide) ?_
            refine lv_isub hx hb dX4_readItem_90 ?_
            refine lv_bipush (v := (10 : Int32)) hx hb dX4_readItem_91 (by decide) ?_
            refine lv_imul hx hb dX4_readItem_93 ?_
            refine lv_iadd hx hb dX4_readItem_94 ?_
            refine lv_iload_n hx hb dX4_readItem_95 rfl (lv_at hl 0 rfl) ?_
            refine lv_iadd hx hb dX4_readItem_96 ?_
            exact rtC_i cx hr hlk hw hm dX4_readItem_97
        · have hm := if_f c8 hm
          refine lv_iconst (v := (-1 : Int32)) hx hb dX4_readItem_40 (by decide) ?_
          exact rtC_i cx hr hlk hw hm dX4_readItem_41
    · have hm := if_f c6 hm
      refine lv_aload_n hx hb dX4_readItem_13 rfl (lv_at hl 1 rfl) ?_
      refine lv_dup hx hb dX4_readItem_14 rfl ?_
      refine gtC_X4_6_3 cx ok hw dX4_readItem_15 ?_
      refine lv_iconst (v := (1 : Int32)) hx hb dX4_readItem_18 (by decide) ?_
      refine lv_iadd hx hb dX4_readItem_19 ?_
      refine ptC_X4_6_3 cx ok hw dX4_readItem_20 (fun H locs hw => ?_)
      obtain ⟨σ18, e19, hm⟩ := lt_ok hm
      have hw := wsC_eq e19 hw
      refine lv_iload_n hx hb dX4_readItem_23 rfl (lv_at hl 0 rfl) ?_
      refine lv_bipush (v := (65 : Int32)) hx hb dX4_readItem_24 (by decide) ?_
      refine lv_isub hx hb dX4_readItem_26 ?_
      exact rtC_i cx hr hlk hw hm dX4_readItem_27
  exact goal0 _ _ hw
theorem cwC_X4_Reader_readItem {R : Room} {s : State} {args : Array Value} (h : ∀ w ∈ wA, w.before args s = true) (hR : rmC_Reader_readItem.frames + 1 ≤ R.frames ∧ 8 + (4 + 11) + rmC_Reader_readItem.locals ≤ R.locals) : CallW R s args RX4 RX4 58 yX4_readItem cX4_readItem 4 (some .int) (wz yX4_readItem cX4_readItem 4 (some .int)) rmC_Reader_readItem 0 0 1 := cwV 1 h (gdV k_343 k_345 ks_8 k_7 k_346) rfl rfl rfl (by decide +kernel) hR
/-! ChordGrammars$Reader.isFigure: reads only -/
def C_Reader_isFigure (x0 : Int32) : Option Int32 :=
  if x0 < (48 : Int32) then
    some (0 : Int32)
  else
    if (57 : Int32) < x0 then
      some (0 : Int32)
    else
      some (1 : Int32)
abbrev rmC_Reader_isFigure : Room := { frames := 0, cells := 0, slots := 0, locals := 0 }
set_option maxHeartbeats 4000000 in
set_option maxRecDepth 100000 in
theorem cC_Reader_isFigure (l : Launch) (E : Ev) (sz : Nat) (σ0 : St) (x0 : Int32) (r : Int32) (hm : C_Reader_isFigure x0 = some r) : Met l yX4_isFigure (wz yX4_isFigure cX4_isFigure 1 (some .boolean)) rmC_Reader_isFigure (PwC E [.int x0] σ0 sz) (QiC E σ0 σ0 sz r) 0 0 (va_A (wldC E σ0) sz) := by
  refine enC (own := RX4) (by decide) rfl (Nat.le_of_ble_eq_true rfl) (fun p e s m args below meth c cx hr hlk hml hsz ok hw ls hl => ?_)
  have hx := cx.1
  have hb := cx.2.1
  have hA9 := cx.2.2.2
  have hA : ∀ q, s.heap.size ≤ q → (va_A (wldC E σ0) sz) q := fun q h => Or.inr (by rw [← hsz]; exact h)
  have hl : lv_has ls 1 [(0, .int x0)] := hl
  unfold C_Reader_isFigure at hm
  have goal0 : ∀ (H : Heap) (locs : List Loc), wsC E σ0 (va_A (wldC E σ0) sz) s H locs → W p l e rmC_Reader_isFigure s m args below meth c H locs 0 0 (MQ below (QiC E σ0 σ0 sz r) args s 0 0 (va_A (wldC E σ0) sz)) (F0 m 0 ls []) := by
    intro H locs hw
    refine lv_iload_n hx hb dX4_isFigure_0 rfl (lv_at hl 0 rfl) ?_
    refine lv_bipush (v := (48 : Int32)) hx hb dX4_isFigure_1 (by decide) ?_
    refine lv_icmp_lt (tgt := 16) hx hb dX4_isFigure_3 (by decide) (fun c1 => ?_) (fun c1 => ?_)
    · have hm := if_t c1 hm
      refine lv_iconst (v := (0 : Int32)) hx hb dX4_isFigure_16 (by decide) ?_
      exact rtC_z cx hr hlk hw (by decide) (pr_some hm) dX4_isFigure_17
    · have hm := if_f c1 hm
      refine lv_iload_n hx hb dX4_isFigure_6 rfl (lv_at hl 0 rfl) ?_
      refine lv_bipush (v := (57 : Int32)) hx hb dX4_isFigure_7 (by decide) ?_
      refine lv_icmp_gt (tgt := 16) hx hb dX4_isFigure_9 (by decide) (fun c2 => ?_) (fun c2 => ?_)
      · have hm := if_t c2 hm
        refine lv_iconst (v := (0 : Int32)) hx hb dX4_isFigure_16 (by decide) ?_
        exact rtC_z cx hr hlk hw (by decide) (pr_some hm) dX4_isFigure_17
      · have hm := if_f c2 hm
        refine lv_iconst (v := (1 : Int32)) hx hb dX4_isFigure_12 (by decide) ?_
        refine lv_goto (tgt := 17) hx hb dX4_isFigure_13 (by decide) ?_
        exact rtC_z cx hr hlk hw (by decide) (pr_some hm) dX4_isFigure_17
  exact goal0 _ _ hw
theorem cwC_X4_Reader_isFigure {R : Room} {s : State} {args : Array Value} (h : ∀ w ∈ wA, w.before args s = true) (hR : rmC_Reader_isFigure.frames + 1 ≤ R.frames ∧ 8 + (1 + 11) + rmC_Reader_isFigure.locals ≤ R.locals) : CallB R s args RX4 85 yX4_isFigure cX4_isFigure 1 (some .boolean) (wz yX4_isFigure cX4_isFigure 1 (some .boolean)) rmC_Reader_isFigure 0 0 1 ∧ (Cond.static yX4_isFigure).before args s = true := va_cwS 1 h (gdS k_441 k_442 k_7 k_443) rfl rfl rfl (by decide +kernel) hR
/-! ChordGrammars$Reader.readCost: writes, loops -/
def C_Reader_readCost_l32 (n : Nat) : Nat → St → Int32 → Int32 → Int32 → Option (Int32 × St)
  | 0, _, _, _, _ => none
  | f + 1, σ, x2, x3, x4 =>
    if (3 : Int32) ≤ x4 then
      some (x3, σ)
    else
      bp (C_Reader_isFigure x2) fun r3 =>
      if r3 = 0 then
        some (x3, σ)
      else
        lt ((((x3 * (10 : Int32)) + x2) - (48 : Int32))) fun x3_5 =>
        lt (sI σ 99 0 ((σ.1 99 0) + (1 : Int32))) fun σ7 =>
        bp (C_Draft_octetAt σ7 (σ7.1 99 0)) fun r10 =>
        lt (x4 + (1 : Int32)) fun x4_11 =>
        (C_Reader_readCost_l32 n f) σ7 r10 x3_5 x4_11
def C_Reader_readCost (n : Nat) (σ0 : St) : Option (Int32 × St) :=
  bd (C_Reader_takes n σ0 (58 : Int32)) fun r2 σ3 =>
  if r2 = 0 then
    some ((0 : Int32), σ3)
  else
    bd (C_Reader_nextOctet n σ3) fun r6 σ7 =>
    bp (C_Reader_isFigure r6) fun r9 =>
    if r9 = 0 then
      some ((-1 : Int32), σ7)
    else
      C_Reader_readCost_l32 n n σ7 r6 (0 : Int32) (0 : Int32)
abbrev rmC_Reader_readCost : Room := { frames := 3, cells := 0, slots := 0, locals := 65 }
set_option maxHeartbeats 4000000 in
set_option maxRecDepth 100000 in
theorem cC_Reader_readCost (l : Launch) (E : Ev) (n : Nat) (sz : Nat) (σ0 σ' : St) (r : Int32) (hm : C_Reader_readCost n σ0 = some (r, σ')) : Met l yX4_readCost (wz yX4_readCost cX4_readCost 5 (some .int)) rmC_Reader_readCost (PwC E [.ref (E.2.2 1006), .ref (E.2.2 1004)] σ0 sz) (QiC E σ0 σ' sz r) 0 0 (va_A (wldC E σ0) sz) := by
  refine enC (own := RX4) (by decide) rfl (Nat.le_of_ble_eq_true rfl) (fun p e s m args below meth c cx hr hlk hml hsz ok hw ls hl => ?_)
  have hx := cx.1
  have hb := cx.2.1
  have hA9 := cx.2.2.2
  have hA : ∀ q, s.heap.size ≤ q → (va_A (wldC E σ0) sz) q := fun q h => Or.inr (by rw [← hsz]; exact h)
  have w_32 : ∀ (f : Nat), ∀ (σ : St) (x2 : Int32) (x3 : Int32) (x4 : Int32) (H : Heap) (locs : List Loc) (ls : Array Slot), wsC E σ (va_A (wldC E σ0) sz) s H locs → lv_has ls 5 [(0, .ref (E.2.2 1006)), (1, .ref (E.2.2 1004)), (2, .int x2), (3, .int x3), (4, .int x4)] → C_Reader_readCost_l32 n f σ x2 x3 x4 = some (r, σ') → W p l e rmC_Reader_readCost s m args below meth c H locs 0 0 (MQ below (QiC E σ0 σ' sz r) args s 0 0 (va_A (wldC E σ0) sz)) (F0 m 32 ls []) := by
    intro f
    induction f with
    | zero =>
      intro σ x2 x3 x4 H locs ls hw hl hm
      rw [C_Reader_readCost_l32] at hm
      cases hm
    | succ f ih =>
      intro σ x2 x3 x4 H locs ls hw hl hm
      rw [C_Reader_readCost_l32] at hm
      refine lv_iload hx hb dX4_readCost_32 (lv_at hl 4 rfl) ?_
      refine lv_iconst (v := (3 : Int32)) hx hb dX4_readCost_34 (by decide) ?_
      refine lv_icmp_ge (tgt := 80) hx hb dX4_readCost_35 (by decide) (fun c1 => ?_) (fun c1 => ?_)
      · have hm := if_t c1 hm
        refine lv_iload_n hx hb dX4_readCost_80 rfl (lv_at hl 3 rfl) ?_
        exact rtC_i cx hr hlk hw hm dX4_readCost_81
      · have hm := if_f c1 hm
        refine lv_iload_n hx hb dX4_readCost_38 rfl (lv_at hl 2 rfl) ?_
        obtain ⟨r3, h2, hm⟩ := bp_ok hm
        refine clS_Ci (As := [.int x2]) (rest := []) cx hml hl.1 ok hw hA (cC_Reader_isFigure l E _ σ x2 r3 h2) (cwC_X4_Reader_isFigure hA9 ⟨Nat.le_of_ble_eq_true rfl, Nat.le_of_ble_eq_true rfl⟩) rfl rfl (Nat.le_of_ble_eq_true rfl) dX4_readCost_39 (fun H locs hw => ?_)
        refine lv_if_eq (tgt := 80) hx hb dX4_readCost_42 (by decide) (fun c4 => ?_) (fun c4 => ?_)
        · have hm := if_t c4 hm
          refine lv_iload_n hx hb dX4_readCost_80 rfl (lv_at hl 3 rfl) ?_
          exact rtC_i cx hr hlk hw hm dX4_readCost_81
        · have hm := if_f c4 hm
          refine lv_iload_n hx hb dX4_readCost_45 rfl (lv_at hl 3 rfl) ?_
          refine lv_bipush (v := (10 : Int32)) hx hb dX4_readCost_46 (by decide) ?_
          refine lv_imul hx hb dX4_readCost_48 ?_
          refine lv_iload_n hx hb dX4_readCost_49 rfl (lv_at hl 2 rfl) ?_
          refine lv_iadd hx hb dX4_readCost_50 ?_
          refine lv_bipush (v := (48 : Int32)) hx hb dX4_readCost_51 (by decide) ?_
          refine lv_isub hx hb dX4_readCost_53 ?_
          obtain ⟨x3_5, e6, hm⟩ := lt_ok hm
          refine ti_eq e6 ?_
          refine lv_istore_n (lv' := [(3, .int x3_5), (0, .ref (E.2.2 1006)), (1, .ref (E.2.2 1004)), (2, .int x2), (4, .int x4)]) hx hb dX4_readCost_54 rfl hl (by decide) rfl (fun ls hl => ?_)
          refine lv_aload_n hx hb dX4_readCost_55 rfl (lv_at hl 1 rfl) ?_
          refine lv_dup hx hb dX4_readCost_56 rfl ?_
          refine gtC_X4_6_3 cx ok hw dX4_readCost_57 ?_
          refine lv_iconst (v := (1 : Int32)) hx hb dX4_readCost_60 (by decide) ?_
          refine lv_iadd hx hb dX4_readCost_61 ?_
          refine ptC_X4_6_3 cx ok hw dX4_readCost_62 (fun H locs hw => ?_)
          obtain ⟨σ7, e8, hm⟩ := lt_ok hm
          have hw := wsC_eq e8 hw
          refine lv_aload_n hx hb dX4_readCost_65 rfl (lv_at hl 2 rfl) ?_
          refine lv_aload_n hx hb dX4_readCost_66 rfl (lv_at hl 1 rfl) ?_
          refine gtC_X4_6_3 cx ok hw dX4_readCost_67 ?_
          obtain ⟨r10, h9, hm⟩ := bp_ok hm
          refine clVN_Ci (As := [.int (σ7.1 99 0)]) (rest := []) cx hml hl.1 ok hw hA (rcC_4 ok hw) (cC_Draft_octetAt l E _ σ7 (σ7.1 99 0) r10 h9) (cwC_X4_Draft_octetAt hA9 ok ⟨Nat.le_of_ble_eq_true rfl, Nat.le_of_ble_eq_true rfl⟩) rfl rfl (Nat.le_of_ble_eq_true rfl) dX4_readCost_70 (fun H locs hw => ?_)
          refine lv_istore_n (lv' := [(2, .int r10), (3, .int x3_5), (0, .ref (E.2.2 1006)), (1, .ref (E.2.2 1004)), (4, .int x4)]) hx hb dX4_readCost_73 rfl hl (by decide) rfl (fun ls hl => ?_)
          obtain ⟨x4_11, e12, hm⟩ := lt_ok hm
          refine lv_iinc (v := x4_11) (lv' := [(4, .int x4_11), (2, .int r10), (3, .int x3_5), (0, .ref (E.2.2 1006)), (1, .ref (E.2.2 1004))]) hx hb dX4_readCost_74 hl (k := 4) rfl (by rw [e12]; rfl) (by decide) rfl (fun ls hl => ?_)
          refine lv_goto (tgt := 32) hx hb dX4_readCost_77 (by decide) ?_
          exact ih σ7 r10 x3_5 x4_11 H locs ls hw (lv_sub hl [3, 4, 1, 2, 0] rfl) hm
  have hl : lv_has ls 5 [(0, .ref (E.2.2 1006)), (1, .ref (E.2.2 1004))] := hl
  unfold C_Reader_readCost at hm
  have goal0 : ∀ (H : Heap) (locs : List Loc), wsC E σ0 (va_A (wldC E σ0) sz) s H locs → W p l e rmC_Reader_readCost s m args below meth c H locs 0 0 (MQ below (QiC E σ0 σ' sz r) args s 0 0 (va_A (wldC E σ0) sz)) (F0 m 0 ls []) := by
    intro H locs hw
    refine lv_aload_n hx hb dX4_readCost_0 rfl (lv_at hl 0 rfl) ?_
    refine lv_aload_n hx hb dX4_readCost_1 rfl (lv_at hl 1 rfl) ?_
    refine lv_bipush (v := (58 : Int32)) hx hb dX4_readCost_2 (by decide) ?_
    obtain ⟨r2, σ3, h1, hm⟩ := bd_ok hm
    refine clV_Ci (As := [.ref (E.2.2 1004), .int (58 : Int32)]) (rest := []) cx hml hl.1 ok hw hA (rcC_6 ok hw) (cC_Reader_takes l E n _ σ0 σ3 (58 : Int32) r2 h1) (cwC_X4_Reader_takes hA9 ⟨Nat.le_of_ble_eq_true rfl, Nat.le_of_ble_eq_true rfl⟩) rfl rfl (Nat.le_of_ble_eq_true rfl) dX4_readCost_4 (fun H locs hw => ?_)
    refine lv_if_ne (tgt := 12) hx hb dX4_readCost_7 (by decide) (fun c4 => ?_) (fun c4 => ?_)
    · have hm := if_f c4 hm
      refine lv_aload_n hx hb dX4_readCost_12 rfl (lv_at hl 0 rfl) ?_
      refine lv_aload_n hx hb dX4_readCost_13 rfl (lv_at hl 1 rfl) ?_
      obtain ⟨r6, σ7, h5, hm⟩ := bd_ok hm
      refine clV_Ci (As := [.ref (E.2.2 1004)]) (rest := []) cx hml hl.1 ok hw hA (rcC_6 ok hw) (cC_Reader_nextOctet l E n _ σ3 σ7 r6 h5) (cwC_X4_Reader_nextOctet hA9 ⟨Nat.le_of_ble_eq_true rfl, Nat.le_of_ble_eq_true rfl⟩) rfl rfl (Nat.le_of_ble_eq_true rfl) dX4_readCost_14 (fun H locs hw => ?_)
      refine lv_istore_n (lv' := [(2, .int r6), (0, .ref (E.2.2 1006)), (1, .ref (E.2.2 1004))]) hx hb dX4_readCost_17 rfl hl (by decide) rfl (fun ls hl => ?_)
      refine lv_iload_n hx hb dX4_readCost_18 rfl (lv_at hl 0 rfl) ?_
      obtain ⟨r9, h8, hm⟩ := bp_ok hm
      refine clS_Ci (As := [.int r6]) (rest := []) cx hml hl.1 ok hw hA (cC_Reader_isFigure l E _ σ7 r6 r9 h8) (cwC_X4_Reader_isFigure hA9 ⟨Nat.le_of_ble_eq_true rfl, Nat.le_of_ble_eq_true rfl⟩) rfl rfl (Nat.le_of_ble_eq_true rfl) dX4_readCost_19 (fun H locs hw => ?_)
      refine lv_if_ne (tgt := 27) hx hb dX4_readCost_22 (by decide) (fun c10 => ?_) (fun c10 => ?_)
      · have hm := if_f c10 hm
        refine lv_iconst (v := (0 : Int32)) hx hb dX4_readCost_27 (by decide) ?_
        refine lv_istore_n (lv' := [(3, .int (0 : Int32)), (2, .int r6), (0, .ref (E.2.2 1006)), (1, .ref (E.2.2 1004))]) hx hb dX4_readCost_28 rfl hl (by decide) rfl (fun ls hl => ?_)
        refine lv_iconst (v := (0 : Int32)) hx hb dX4_readCost_29 (by decide) ?_
        refine lv_istore (lv' := [(4, .int (0 : Int32)), (3, .int (0 : Int32)), (2, .int r6), (0, .ref (E.2.2 1006)), (1, .ref (E.2.2 1004))]) hx hb dX4_readCost_30 hl (by decide) rfl (fun ls hl => ?_)
        exact w_32 n σ7 r6 (0 : Int32) (0 : Int32) H locs ls hw (lv_sub hl [3, 4, 2, 1, 0] rfl) hm
      · have hm := if_t c10 hm
        refine lv_iconst (v := (-1 : Int32)) hx hb dX4_readCost_25 (by decide) ?_
        exact rtC_i cx hr hlk hw hm dX4_readCost_26
    · have hm := if_t c4 hm
      refine lv_iconst (v := (0 : Int32)) hx hb dX4_readCost_10 (by decide) ?_
      exact rtC_i cx hr hlk hw hm dX4_readCost_11
  exact goal0 _ _ hw
theorem cwC_X4_Reader_readCost {R : Room} {s : State} {args : Array Value} (h : ∀ w ∈ wA, w.before args s = true) (hR : rmC_Reader_readCost.frames + 1 ≤ R.frames ∧ 8 + (5 + 11) + rmC_Reader_readCost.locals ≤ R.locals) : CallW R s args RX4 RX4 61 yX4_readCost cX4_readCost 5 (some .int) (wz yX4_readCost cX4_readCost 5 (some .int)) rmC_Reader_readCost 0 0 1 := cwV 1 h (gdV k_437 k_439 ks_9 k_7 k_440) rfl rfl rfl (by decide +kernel) hR
/-! ChordGrammars$Reader.readRule: writes -/
def C_Reader_readRule (n : Nat) (σ0 : St) : Option (Int32 × St) :=
  bd (C_Reader_nextOctet n σ0) fun r2 σ3 =>
  lt ((σ3.1 99 0)) fun x3_4 =>
  bp (C_Reader_isName r2) fun r7 =>
  if r7 = 0 then
    some ((0 : Int32), σ3)
  else
    if (σ3.1 149 0) < (60 : Int32) then
      lt (sI σ3 99 0 ((σ3.1 99 0) + (1 : Int32))) fun σ10 =>
      bd (C_Reader_takes n σ10 (61 : Int32)) fun r13 σ14 =>
      if r13 = 0 then
        some ((0 : Int32), σ14)
      else
        bd (C_Reader_readItem n σ14) fun r17 σ18 =>
        if r17 = (-1 : Int32) then
          some ((0 : Int32), σ18)
        else
          bd (C_Reader_readItem n σ18) fun r21 σ22 =>
          bd (C_Reader_readCost n σ22) fun r24 σ25 =>
          if r24 = (-1 : Int32) then
            some ((0 : Int32), σ25)
          else
            bd (C_Reader_takes n σ25 (59 : Int32)) fun r28 σ29 =>
            if r28 = 0 then
              some ((0 : Int32), σ29)
            else
              lt ((σ29.1 149 0)) fun x7_31 =>
              gd x7_31 60 <|
              lt (sI σ29 144 x7_31.toNatClampNeg (r2 - (65 : Int32))) fun σ34 =>
              gd x7_31 60 <|
              lt (sI σ34 145 x7_31.toNatClampNeg r17) fun σ37 =>
              gd x7_31 60 <|
              lt (sI σ37 146 x7_31.toNatClampNeg r21) fun σ40 =>
              gd x7_31 60 <|
              lt (sI σ40 147 x7_31.toNatClampNeg r24) fun σ43 =>
              gd x7_31 60 <|
              lt (sI σ43 97 x7_31.toNatClampNeg x3_4) fun σ46 =>
              lt (sI σ46 149 0 (x7_31 + (1 : Int32))) fun σ48 =>
              some ((1 : Int32), σ48)
    else
      some ((0 : Int32), σ3)
abbrev rmC_Reader_readRule : Room := { frames := 6, cells := 0, slots := 0, locals := 139 }
set_option maxHeartbeats 4000000 in
set_option maxRecDepth 100000 in
theorem cC_Reader_readRule (l : Launch) (E : Ev) (n : Nat) (sz : Nat) (σ0 σ' : St) (r : Int32) (hm : C_Reader_readRule n σ0 = some (r, σ')) : Met l yX4_readRule (wz yX4_readRule cX4_readRule 8 (some .boolean)) rmC_Reader_readRule (PwC E [.ref (E.2.2 1006), .ref (E.2.2 1004)] σ0 sz) (QiC E σ0 σ' sz r) 0 0 (va_A (wldC E σ0) sz) := by
  refine enC (own := RX4) (by decide) rfl (Nat.le_of_ble_eq_true rfl) (fun p e s m args below meth c cx hr hlk hml hsz ok hw ls hl => ?_)
  have hx := cx.1
  have hb := cx.2.1
  have hA9 := cx.2.2.2
  have hA : ∀ q, s.heap.size ≤ q → (va_A (wldC E σ0) sz) q := fun q h => Or.inr (by rw [← hsz]; exact h)
  have hl : lv_has ls 8 [(0, .ref (E.2.2 1006)), (1, .ref (E.2.2 1004))] := hl
  unfold C_Reader_readRule at hm
  have goal0 : ∀ (H : Heap) (locs : List Loc), wsC E σ0 (va_A (wldC E σ0) sz) s H locs → W p l e rmC_Reader_readRule s m args below meth c H locs 0 0 (MQ below (QiC E σ0 σ' sz r) args s 0 0 (va_A (wldC E σ0) sz)) (F0 m 0 ls []) := by
    intro H locs hw
    refine lv_aload_n hx hb dX4_readRule_0 rfl (lv_at hl 0 rfl) ?_
    refine lv_aload_n hx hb dX4_readRule_1 rfl (lv_at hl 1 rfl) ?_
    obtain ⟨r2, σ3, h1, hm⟩ := bd_ok hm
    refine clV_Ci (As := [.ref (E.2.2 1004)]) (rest := []) cx hml hl.1 ok hw hA (rcC_6 ok hw) (cC_Reader_nextOctet l E n _ σ0 σ3 r2 h1) (cwC_X4_Reader_nextOctet hA9 ⟨Nat.le_of_ble_eq_true rfl, Nat.le_of_ble_eq_true rfl⟩) rfl rfl (Nat.le_of_ble_eq_true rfl) dX4_readRule_2 (fun H locs hw => ?_)
    refine lv_istore_n (lv' := [(2, .int r2), (0, .ref (E.2.2 1006)), (1, .ref (E.2.2 1004))]) hx hb dX4_readRule_5 rfl hl (by decide) rfl (fun ls hl => ?_)
    refine lv_aload_n hx hb dX4_readRule_6 rfl (lv_at hl 1 rfl) ?_
    refine gtC_X4_6_3 cx ok hw dX4_readRule_7 ?_
    obtain ⟨x3_4, e5, hm⟩ := lt_ok hm
    refine ti_eq e5 ?_
    refine lv_istore_n (lv' := [(3, .int x3_4), (2, .int r2), (0, .ref (E.2.2 1006)), (1, .ref (E.2.2 1004))]) hx hb dX4_readRule_10 rfl hl (by decide) rfl (fun ls hl => ?_)
    refine lv_iload_n hx hb dX4_readRule_11 rfl (lv_at hl 1 rfl) ?_
    obtain ⟨r7, h6, hm⟩ := bp_ok hm
    refine clS_Ci (As := [.int r2]) (rest := []) cx hml hl.1 ok hw hA (cC_Reader_isName l E _ σ3 r2 r7 h6) (cwC_X4_Reader_isName hA9 ⟨Nat.le_of_ble_eq_true rfl, Nat.le_of_ble_eq_true rfl⟩) rfl rfl (Nat.le_of_ble_eq_true rfl) dX4_readRule_12 (fun H locs hw => ?_)
    refine lv_if_eq (tgt := 30) hx hb dX4_readRule_15 (by decide) (fun c8 => ?_) (fun c8 => ?_)
    · have hm := if_t c8 hm
      refine lv_iconst (v := (0 : Int32)) hx hb dX4_readRule_30 (by decide) ?_
      exact rtC_z cx hr hlk hw (by decide) hm dX4_readRule_31
    · have hm := if_f c8 hm
      refine lv_aload_n hx hb dX4_readRule_18 rfl (lv_at hl 2 rfl) ?_
      refine gtC_X4_6_0 cx ok hw dX4_readRule_19 ?_
      refine gtC_X4_9_5 cx ok hw dX4_readRule_22 ?_
      refine lv_bipush (v := (60 : Int32)) hx hb dX4_readRule_25 (by decide) ?_
      refine lv_icmp_lt (tgt := 32) hx hb dX4_readRule_27 (by decide) (fun c9 => ?_) (fun c9 => ?_)
      · have hm := if_t c9 hm
        refine lv_aload_n hx hb dX4_readRule_32 rfl (lv_at hl 2 rfl) ?_
        refine lv_dup hx hb dX4_readRule_33 rfl ?_
        refine gtC_X4_6_3 cx ok hw dX4_readRule_34 ?_
        refine lv_iconst (v := (1 : Int32)) hx hb dX4_readRule_37 (by decide) ?_
        refine lv_iadd hx hb dX4_readRule_38 ?_
        refine ptC_X4_6_3 cx ok hw dX4_readRule_39 (fun H locs hw => ?_)
        obtain ⟨σ10, e11, hm⟩ := lt_ok hm
        have hw := wsC_eq e11 hw
        refine lv_aload_n hx hb dX4_readRule_42 rfl (lv_at hl 2 rfl) ?_
        refine lv_aload_n hx hb dX4_readRule_43 rfl (lv_at hl 3 rfl) ?_
        refine lv_bipush (v := (61 : Int32)) hx hb dX4_readRule_44 (by decide) ?_
        obtain ⟨r13, σ14, h12, hm⟩ := bd_ok hm
        refine clV_Ci (As := [.ref (E.2.2 1004), .int (61 : Int32)]) (rest := []) cx hml hl.1 ok hw hA (rcC_6 ok hw) (cC_Reader_takes l E n _ σ10 σ14 (61 : Int32) r13 h12) (cwC_X4_Reader_takes hA9 ⟨Nat.le_of_ble_eq_true rfl, Nat.le_of_ble_eq_true rfl⟩) rfl rfl (Nat.le_of_ble_eq_true rfl) dX4_readRule_46 (fun H locs hw => ?_)
        refine lv_if_ne (tgt := 54) hx hb dX4_readRule_49 (by decide) (fun c15 => ?_) (fun c15 => ?_)
        · have hm := if_f c15 hm
          refine lv_aload_n hx hb dX4_readRule_54 rfl (lv_at hl 2 rfl) ?_
          refine lv_aload_n hx hb dX4_readRule_55 rfl (lv_at hl 3 rfl) ?_
          obtain ⟨r17, σ18, h16, hm⟩ := bd_ok hm
          refine clV_Ci (As := [.ref (E.2.2 1004)]) (rest := []) cx hml hl.1 ok hw hA (rcC_6 ok hw) (cC_Reader_readItem l E n _ σ14 σ18 r17 h16) (cwC_X4_Reader_readItem hA9 ⟨Nat.le_of_ble_eq_true rfl, Nat.le_of_ble_eq_true rfl⟩) rfl rfl (Nat.le_of_ble_eq_true rfl) dX4_readRule_56 (fun H locs hw => ?_)
          refine lv_istore (lv' := [(4, .int r17), (3, .int x3_4), (2, .int r2), (0, .ref (E.2.2 1006)), (1, .ref (E.2.2 1004))]) hx hb dX4_readRule_59 hl (by decide) rfl (fun ls hl => ?_)
          refine lv_iload hx hb dX4_readRule_61 (lv_at hl 0 rfl) ?_
          refine lv_iconst (v := (-1 : Int32)) hx hb dX4_readRule_63 (by decide) ?_
          refine lv_icmp_ne (tgt := 69) hx hb dX4_readRule_64 (by decide) (fun c19 => ?_) (fun c19 => ?_)
          · have hm := if_f c19 hm
            refine lv_aload_n hx hb dX4_readRule_69 rfl (lv_at hl 3 rfl) ?_
            refine lv_aload_n hx hb dX4_readRule_70 rfl (lv_at hl 4 rfl) ?_
            obtain ⟨r21, σ22, h20, hm⟩ := bd_ok hm
            refine clV_Ci (As := [.ref (E.2.2 1004)]) (rest := []) cx hml hl.1 ok hw hA (rcC_6 ok hw) (cC_Reader_readItem l E n _ σ18 σ22 r21 h20) (cwC_X4_Reader_readItem hA9 ⟨Nat.le_of_ble_eq_true rfl, Nat.le_of_ble_eq_true rfl⟩) rfl rfl (Nat.le_of_ble_eq_true rfl) dX4_readRule_71 (fun H locs hw => ?_)
            refine lv_istore (lv' := [(5, .int r21), (4, .int r17), (3, .int x3_4), (2, .int r2), (0, .ref (E.2.2 1006)), (1, .ref (E.2.2 1004))]) hx hb dX4_readRule_74 hl (by decide) rfl (fun ls hl => ?_)
            refine lv_aload_n hx hb dX4_readRule_76 rfl (lv_at hl 4 rfl) ?_
            refine lv_aload_n hx hb dX4_readRule_77 rfl (lv_at hl 5 rfl) ?_
            obtain ⟨r24, σ25, h23, hm⟩ := bd_ok hm
            refine clV_Ci (As := [.ref (E.2.2 1004)]) (rest := []) cx hml hl.1 ok hw hA (rcC_6 ok hw) (cC_Reader_readCost l E n _ σ22 σ25 r24 h23) (cwC_X4_Reader_readCost hA9 ⟨Nat.le_of_ble_eq_true rfl, Nat.le_of_ble_eq_true rfl⟩) rfl rfl (Nat.le_of_ble_eq_true rfl) dX4_readRule_78 (fun H locs hw => ?_)
            refine lv_istore (lv' := [(6, .int r24), (5, .int r21), (4, .int r17), (3, .int x3_4), (2, .int r2), (0, .ref (E.2.2 1006)), (1, .ref (E.2.2 1004))]) hx hb dX4_readRule_81 hl (by decide) rfl (fun ls hl => ?_)
            refine lv_iload hx hb dX4_readRule_83 (lv_at hl 0 rfl) ?_
            refine lv_iconst (v := (-1 : Int32)) hx hb dX4_readRule_85 (by decide) ?_
            refine lv_icmp_eq (tgt := 99) hx hb dX4_readRule_86 (by decide) (fun c26 => ?_) (fun c26 => ?_)
            · have hm := if_t c26 hm
              refine lv_iconst (v := (0 : Int32)) hx hb dX4_readRule_99 (by decide) ?_
              exact rtC_z cx hr hlk hw (by decide) hm dX4_readRule_100
            · have hm := if_f c26 hm
              refine lv_aload_n hx hb dX4_readRule_89 rfl (lv_at hl 5 rfl) ?_
              refine lv_aload_n hx hb dX4_readRule_90 rfl (lv_at hl 6 rfl) ?_
              refine lv_bipush (v := (59 : Int32)) hx hb dX4_readRule_91 (by decide) ?_
              obtain ⟨r28, σ29, h27, hm⟩ := bd_ok hm
              refine clV_Ci (As := [.ref (E.2.2 1004), .int (59 : Int32)]) (rest := []) cx hml hl.1 ok hw hA (rcC_6 ok hw) (cC_Reader_takes l E n _ σ25 σ29 (59 : Int32) r28 h27) (cwC_X4_Reader_takes hA9 ⟨Nat.le_of_ble_eq_true rfl, Nat.le_of_ble_eq_true rfl⟩) rfl rfl (Nat.le_of_ble_eq_true rfl) dX4_readRule_93 (fun H locs hw => ?_)
              refine lv_if_ne (tgt := 101) hx hb dX4_readRule_96 (by decide) (fun c30 => ?_) (fun c30 => ?_)
              · have hm := if_f c30 hm
                refine lv_aload_n hx hb dX4_readRule_101 rfl (lv_at hl 5 rfl) ?_
                refine gtC_X4_6_0 cx ok hw dX4_readRule_102 ?_
                refine gtC_X4_9_5 cx ok hw dX4_readRule_105 ?_
                obtain ⟨x7_31, e32, hm⟩ := lt_ok hm
                refine ti_eq e32 ?_
                refine lv_istore (lv' := [(7, .int x7_31), (6, .int r24), (5, .int r21), (4, .int r17), (3, .int x3_4), (2, .int r2), (0, .ref (E.2.2 1006)), (1, .ref (E.2.2 1004))]) hx hb dX4_readRule_108 hl (by decide) rfl (fun ls hl => ?_)
                refine lv_aload_n hx hb dX4_readRule_110 rfl (lv_at hl 6 rfl) ?_
                refine gtC_X4_6_0 cx ok hw dX4_readRule_111 ?_
                refine gtC_X4_9_0 cx ok hw dX4_readRule_114 ?_
                refine lv_iload hx hb dX4_readRule_117 (lv_at hl 0 rfl) ?_
                refine lv_iload_n hx hb dX4_readRule_119 rfl (lv_at hl 5 rfl) ?_
                refine lv_bipush (v := (65 : Int32)) hx hb dX4_readRule_120 (by decide) ?_
                refine lv_isub hx hb dX4_readRule_122 ?_
                obtain ⟨g33, hm⟩ := gd_ok hm
                refine stC_144 cx ok hw g33 dX4_readRule_123 (fun H locs hw => ?_)
                obtain ⟨σ34, e35, hm⟩ := lt_ok hm
                have hw := wsC_eq e35 hw
                refine lv_aload_n hx hb dX4_readRule_124 rfl (lv_at hl 6 rfl) ?_
                refine gtC_X4_6_0 cx ok hw dX4_readRule_125 ?_
                refine gtC_X4_9_1 cx ok hw dX4_readRule_128 ?_
                refine lv_iload hx hb dX4_readRule_131 (lv_at hl 0 rfl) ?_
                refine lv_iload hx hb dX4_readRule_133 (lv_at hl 3 rfl) ?_
                obtain ⟨g36, hm⟩ := gd_ok hm
                refine stC_145 cx ok hw g36 dX4_readRule_135 (fun H locs hw => ?_)
                obtain ⟨σ37, e38, hm⟩ := lt_ok hm
                have hw := wsC_eq e38 hw
                refine lv_aload_n hx hb dX4_readRule_136 rfl (lv_at hl 6 rfl) ?_
                refine gtC_X4_6_0 cx ok hw dX4_readRule_137 ?_
                refine gtC_X4_9_2 cx ok hw dX4_readRule_140 ?_
                refine lv_iload hx hb dX4_readRule_143 (lv_at hl 0 rfl) ?_
                refine lv_iload hx hb dX4_readRule_145 (lv_at hl 2 rfl) ?_
                obtain ⟨g39, hm⟩ := gd_ok hm
                refine stC_146 cx ok hw g39 dX4_readRule_147 (fun H locs hw => ?_)
                obtain ⟨σ40, e41, hm⟩ := lt_ok hm
                have hw := wsC_eq e41 hw
                refine lv_aload_n hx hb dX4_readRule_148 rfl (lv_at hl 6 rfl) ?_
                refine gtC_X4_6_0 cx ok hw dX4_readRule_149 ?_
                refine gtC_X4_9_3 cx ok hw dX4_readRule_152 ?_
                refine lv_iload hx hb dX4_readRule_155 (lv_at hl 0 rfl) ?_
                refine lv_iload hx hb dX4_readRule_157 (lv_at hl 1 rfl) ?_
                obtain ⟨g42, hm⟩ := gd_ok hm
                refine stC_147 cx ok hw g42 dX4_readRule_159 (fun H locs hw => ?_)
                obtain ⟨σ43, e44, hm⟩ := lt_ok hm
                have hw := wsC_eq e44 hw
                refine lv_aload_n hx hb dX4_readRule_160 rfl (lv_at hl 6 rfl) ?_
                refine gtC_X4_6_1 cx ok hw dX4_readRule_161 ?_
                refine lv_iload hx hb dX4_readRule_164 (lv_at hl 0 rfl) ?_
                refine lv_iload_n hx hb dX4_readRule_166 rfl (lv_at hl 4 rfl) ?_
                obtain ⟨g45, hm⟩ := gd_ok hm
                refine stC_97 cx ok hw g45 dX4_readRule_167 (fun H locs hw => ?_)
                obtain ⟨σ46, e47, hm⟩ := lt_ok hm
                have hw := wsC_eq e47 hw
                refine lv_aload_n hx hb dX4_readRule_168 rfl (lv_at hl 6 rfl) ?_
                refine gtC_X4_6_0 cx ok hw dX4_readRule_169 ?_
                refine lv_iload hx hb dX4_readRule_172 (lv_at hl 0 rfl) ?_
                refine lv_iconst (v := (1 : Int32)) hx hb dX4_readRule_174 (by decide) ?_
                refine lv_iadd hx hb dX4_readRule_175 ?_
                refine ptC_X4_9_5 cx ok hw dX4_readRule_176 (fun H locs hw => ?_)
                obtain ⟨σ48, e49, hm⟩ := lt_ok hm
                have hw := wsC_eq e49 hw
                refine lv_iconst (v := (1 : Int32)) hx hb dX4_readRule_179 (by decide) ?_
                exact rtC_z cx hr hlk hw (by decide) hm dX4_readRule_180
              · have hm := if_t c30 hm
                refine lv_iconst (v := (0 : Int32)) hx hb dX4_readRule_99 (by decide) ?_
                exact rtC_z cx hr hlk hw (by decide) hm dX4_readRule_100
          · have hm := if_t c19 hm
            refine lv_iconst (v := (0 : Int32)) hx hb dX4_readRule_67 (by decide) ?_
            exact rtC_z cx hr hlk hw (by decide) hm dX4_readRule_68
        · have hm := if_t c15 hm
          refine lv_iconst (v := (0 : Int32)) hx hb dX4_readRule_52 (by decide) ?_
          exact rtC_z cx hr hlk hw (by decide) hm dX4_readRule_53
      · have hm := if_f c9 hm
        refine lv_iconst (v := (0 : Int32)) hx hb dX4_readRule_30 (by decide) ?_
        exact rtC_z cx hr hlk hw (by decide) hm dX4_readRule_31
  exact goal0 _ _ hw
theorem cwC_X4_Reader_readRule {R : Room} {s : State} {args : Array Value} (h : ∀ w ∈ wA, w.before args s = true) (hR : rmC_Reader_readRule.frames + 1 ≤ R.frames ∧ 8 + (8 + 11) + rmC_Reader_readRule.locals ≤ R.locals) : CallW R s args RX4 RX4 36 yX4_readRule cX4_readRule 8 (some .boolean) (wz yX4_readRule cX4_readRule 8 (some .boolean)) rmC_Reader_readRule 0 0 1 := cwV 1 h (gdV k_332 k_334 ks_6 k_7 k_335) rfl rfl rfl (by decide +kernel) hR
/-! ChordGrammars$Reader.readAll: writes, loops -/
def C_Reader_readAll_l15 (n : Nat) : Nat → St → Int32 → Option (Int32 × St)
  | 0, _, _ => none
  | f + 1, σ, x2 =>
    if (60 : Int32) < x2 then
      bp (C_Reader_findReach n σ) fun σ3 =>
      bp (C_Reader_ringPlace n σ3) fun r5 =>
      if r5 = (-1 : Int32) then
        bp (C_Reader_arrange n σ3) fun σ8 =>
        some (r5, σ8)
      else
        some (r5, σ3)
    else
      bd (C_Reader_nextOctet n σ) fun r10 σ11 =>
      if r10 = (-1 : Int32) then
        if x2 ≤ 0 then
          bd (C_Reader_readRule n σ11) fun r21 σ22 =>
          if r21 = 0 then
            some ((σ22.1 99 0), σ22)
          else
            lt (x2 + (1 : Int32)) fun x2_24 =>
            (C_Reader_readAll_l15 n f) σ22 x2_24
        else
          bp (C_Reader_findReach n σ11) fun σ27 =>
          bp (C_Reader_ringPlace n σ27) fun r29 =>
          if r29 = (-1 : Int32) then
            bp (C_Reader_arrange n σ27) fun σ32 =>
            some (r29, σ32)
          else
            some (r29, σ27)
      else
        bd (C_Reader_readRule n σ11) fun r14 σ15 =>
        if r14 = 0 then
          some ((σ15.1 99 0), σ15)
        else
          lt (x2 + (1 : Int32)) fun x2_17 =>
          (C_Reader_readAll_l15 n f) σ15 x2_17
def C_Reader_readAll (n : Nat) (σ0 : St) : Option (Int32 × St) :=
  lt (sI σ0 99 0 (0 : Int32)) fun σ1 =>
  lt (sI σ1 149 0 (0 : Int32)) fun σ3 =>
  C_Reader_readAll_l15 n n σ3 (0 : Int32)
abbrev rmC_Reader_readAll : Room := { frames := 7, cells := 0, slots := 0, locals := 166 }
set_option maxHeartbeats 4000000 in
set_option maxRecDepth 100000 in
theorem cC_Reader_readAll (l : Launch) (E : Ev) (n : Nat) (sz : Nat) (σ0 σ' : St) (r : Int32) (hm : C_Reader_readAll n σ0 = some (r, σ')) : Met l yX4_readAll (wz yX4_readAll cX4_readAll 3 (some .int)) rmC_Reader_readAll (PwC E [.ref (E.2.2 1006), .ref (E.2.2 1004)] σ0 sz) (QiC E σ0 σ' sz r) 0 0 (va_A (wldC E σ0) sz) := by
  refine enC (own := RX4) (by decide) rfl (Nat.le_of_ble_eq_true rfl) (fun p e s m args below meth c cx hr hlk hml hsz ok hw ls hl => ?_)
  have hx := cx.1
  have hb := cx.2.1
  have hA9 := cx.2.2.2
  have hA : ∀ q, s.heap.size ≤ q → (va_A (wldC E σ0) sz) q := fun q h => Or.inr (by rw [← hsz]; exact h)
  have w_15 : ∀ (f : Nat), ∀ (σ : St) (x2 : Int32) (H : Heap) (locs : List Loc) (ls : Array Slot), wsC E σ (va_A (wldC E σ0) sz) s H locs → lv_has ls 3 [(0, .ref (E.2.2 1006)), (1, .ref (E.2.2 1004)), (2, .int x2)] → C_Reader_readAll_l15 n f σ x2 = some (r, σ') → W p l e rmC_Reader_readAll s m args below meth c H locs 0 0 (MQ below (QiC E σ0 σ' sz r) args s 0 0 (va_A (wldC E σ0) sz)) (F0 m 15 ls []) := by
    intro f
    induction f with
    | zero =>
      intro σ x2 H locs ls hw hl hm
      rw [C_Reader_readAll_l15] at hm
      cases hm
    | succ f ih =>
      intro σ x2 H locs ls hw hl hm
      rw [C_Reader_readAll_l15] at hm
      refine lv_iload_n hx hb dX4_readAll_15 rfl (lv_at hl 2 rfl) ?_
      refine lv_bipush (v := (60 : Int32)) hx hb dX4_readAll_16 (by decide) ?_
      refine lv_icmp_gt (tgt := 56) hx hb dX4_readAll_18 (by decide) (fun c1 => ?_) (fun c1 => ?_)
      · have hm := if_t c1 hm
        refine lv_aload_n hx hb dX4_readAll_56 rfl (lv_at hl 0 rfl) ?_
        obtain ⟨σ3, h2, hm⟩ := bp_ok hm
        refine clV_Cv (As := []) (rest := []) cx hml hl.1 ok hw hA (rcC_6 ok hw) (cC_Reader_findReach l E n _ σ σ3 h2) (cwC_X4_Reader_findReach hA9 ⟨Nat.le_of_ble_eq_true rfl, Nat.le_of_ble_eq_true rfl⟩) rfl rfl (Nat.le_of_ble_eq_true rfl) dX4_readAll_57 (fun H locs hw => ?_)
        refine lv_aload_n hx hb dX4_readAll_60 rfl (lv_at hl 0 rfl) ?_
        obtain ⟨r5, h4, hm⟩ := bp_ok hm
        refine clV_Ci (As := []) (rest := []) cx hml hl.1 ok hw hA (rcC_6 ok hw) (cC_Reader_ringPlace l E n _ σ3 r5 h4) (cwC_X4_Reader_ringPlace hA9 ⟨Nat.le_of_ble_eq_true rfl, Nat.le_of_ble_eq_true rfl⟩) rfl rfl (Nat.le_of_ble_eq_true rfl) dX4_readAll_61 (fun H locs hw => ?_)
        refine lv_istore_n (lv' := [(2, .int r5), (0, .ref (E.2.2 1006)), (1, .ref (E.2.2 1004))]) hx hb dX4_readAll_64 rfl hl (by decide) rfl (fun ls hl => ?_)
        refine lv_iload_n hx hb dX4_readAll_65 rfl (lv_at hl 0 rfl) ?_
        refine lv_iconst (v := (-1 : Int32)) hx hb dX4_readAll_66 (by decide) ?_
        refine lv_icmp_ne (tgt := 74) hx hb dX4_readAll_67 (by decide) (fun c6 => ?_) (fun c6 => ?_)
        · have hm := if_f c6 hm
          refine lv_iload_n hx hb dX4_readAll_74 rfl (lv_at hl 0 rfl) ?_
          exact rtC_i cx hr hlk hw hm dX4_readAll_75
        · have hm := if_t c6 hm
          refine lv_aload_n hx hb dX4_readAll_70 rfl (lv_at hl 1 rfl) ?_
          obtain ⟨σ8, h7, hm⟩ := bp_ok hm
          refine clV_Cv (As := []) (rest := []) cx hml hl.1 ok hw hA (rcC_6 ok hw) (cC_Reader_arrange l E n _ σ3 σ8 h7) (cwC_X4_Reader_arrange hA9 ⟨Nat.le_of_ble_eq_true rfl, Nat.le_of_ble_eq_true rfl⟩) rfl rfl (Nat.le_of_ble_eq_true rfl) dX4_readAll_71 (fun H locs hw => ?_)
          refine lv_iload_n hx hb dX4_readAll_74 rfl (lv_at hl 0 rfl) ?_
          exact rtC_i cx hr hlk hw hm dX4_readAll_75
      · have hm := if_f c1 hm
        refine lv_aload_n hx hb dX4_readAll_21 rfl (lv_at hl 0 rfl) ?_
        refine lv_aload_n hx hb dX4_readAll_22 rfl (lv_at hl 1 rfl) ?_
        obtain ⟨r10, σ11, h9, hm⟩ := bd_ok hm
        refine clV_Ci (As := [.ref (E.2.2 1004)]) (rest := []) cx hml hl.1 ok hw hA (rcC_6 ok hw) (cC_Reader_nextOctet l E n _ σ σ11 r10 h9) (cwC_X4_Reader_nextOctet hA9 ⟨Nat.le_of_ble_eq_true rfl, Nat.le_of_ble_eq_true rfl⟩) rfl rfl (Nat.le_of_ble_eq_true rfl) dX4_readAll_23 (fun H locs hw => ?_)
        refine lv_iconst (v := (-1 : Int32)) hx hb dX4_readAll_26 (by decide) ?_
        refine lv_icmp_ne (tgt := 37) hx hb dX4_readAll_27 (by decide) (fun c12 => ?_) (fun c12 => ?_)
        · have hm := if_f c12 hm
          refine lv_aload_n hx hb dX4_readAll_37 rfl (lv_at hl 0 rfl) ?_
          refine lv_aload_n hx hb dX4_readAll_38 rfl (lv_at hl 1 rfl) ?_
          obtain ⟨r14, σ15, h13, hm⟩ := bd_ok hm
          refine clV_Ci (As := [.ref (E.2.2 1004)]) (rest := []) cx hml hl.1 ok hw hA (rcC_6 ok hw) (cC_Reader_readRule l E n _ σ11 σ15 r14 h13) (cwC_X4_Reader_readRule hA9 ⟨Nat.le_of_ble_eq_true rfl, Nat.le_of_ble_eq_true rfl⟩) rfl rfl (Nat.le_of_ble_eq_true rfl) dX4_readAll_39 (fun H locs hw => ?_)
          refine lv_if_ne (tgt := 50) hx hb dX4_readAll_42 (by decide) (fun c16 => ?_) (fun c16 => ?_)
          · have hm := if_f c16 hm
            obtain ⟨x2_17, e18, hm⟩ := lt_ok hm
            refine lv_iinc (v := x2_17) (lv' := [(2, .int x2_17), (0, .ref (E.2.2 1006)), (1, .ref (E.2.2 1004))]) hx hb dX4_readAll_50 hl (k := 2) rfl (by rw [e18]; rfl) (by decide) rfl (fun ls hl => ?_)
            refine lv_goto (tgt := 15) hx hb dX4_readAll_53 (by decide) ?_
            exact ih σ15 x2_17 H locs ls hw (lv_sub hl [1, 2, 0] rfl) hm
          · have hm := if_t c16 hm
            refine lv_aload_n hx hb dX4_readAll_45 rfl (lv_at hl 0 rfl) ?_
            refine gtC_X4_6_3 cx ok hw dX4_readAll_46 ?_
            exact rtC_i cx hr hlk hw hm dX4_readAll_49
        · have hm := if_t c12 hm
          refine lv_iload_n hx hb dX4_readAll_30 rfl (lv_at hl 2 rfl) ?_
          refine lv_if_le (tgt := 37) hx hb dX4_readAll_31 (by decide) (fun c19 => ?_) (fun c19 => ?_)
          · have hm := if_t c19 hm
            refine lv_aload_n hx hb dX4_readAll_37 rfl (lv_at hl 0 rfl) ?_
            refine lv_aload_n hx hb dX4_readAll_38 rfl (lv_at hl 1 rfl) ?_
            obtain ⟨r21, σ22, h20, hm⟩ := bd_ok hm
            refine clV_Ci (As := [.ref (E.2.2 1004)]) (rest := []) cx hml hl.1 ok hw hA (rcC_6 ok hw) (cC_Reader_readRule l E n _ σ11 σ22 r21 h20) (cwC_X4_Reader_readRule hA9 ⟨Nat.le_of_ble_eq_true rfl, Nat.le_of_ble_eq_true rfl⟩) rfl rfl (Nat.le_of_ble_eq_true rfl) dX4_readAll_39 (fun H locs hw => ?_)
            refine lv_if_ne (tgt := 50) hx hb dX4_readAll_42 (by decide) (fun c23 => ?_) (fun c23 => ?_)
            · have hm := if_f c23 hm
              obtain ⟨x2_24, e25, hm⟩ := lt_ok hm
              refine lv_iinc (v := x2_24) (lv' := [(2, .int x2_24), (0, .ref (E.2.2 1006)), (1, .ref (E.2.2 1004))]) hx hb dX4_readAll_50 hl (k := 2) rfl (by rw [e25]; rfl) (by decide) rfl (fun ls hl => ?_)
              refine lv_goto (tgt := 15) hx hb dX4_readAll_53 (by decide) ?_
              exact ih σ22 x2_24 H locs ls hw (lv_sub hl [1, 2, 0] rfl) hm
            · have hm := if_t c23 hm
              refine lv_aload_n hx hb dX4_readAll_45 rfl (lv_at hl 0 rfl) ?_
              refine gtC_X4_6_3 cx ok hw dX4_readAll_46 ?_
              exact rtC_i cx hr hlk hw hm dX4_readAll_49
          · have hm := if_f c19 hm
            refine lv_goto (tgt := 56) hx hb dX4_readAll_34 (by decide) ?_
            refine lv_aload_n hx hb dX4_readAll_56 rfl (lv_at hl 0 rfl) ?_
            obtain ⟨σ27, h26, hm⟩ := bp_ok hm
            refine clV_Cv (As := []) (rest := []) cx hml hl.1 ok hw hA (rcC_6 ok hw) (cC_Reader_findReach l E n _ σ11 σ27 h26) (cwC_X4_Reader_findReach hA9 ⟨Nat.le_of_ble_eq_true rfl, Nat.le_of_ble_eq_true rfl⟩) rfl rfl (Nat.le_of_ble_eq_true rfl) dX4_readAll_57 (fun H locs hw => ?_)
            refine lv_aload_n hx hb dX4_readAll_60 rfl (lv_at hl 0 rfl) ?_
            obtain ⟨r29, h28, hm⟩ := bp_ok hm
            refine clV_Ci (As := []) (rest := []) cx hml hl.1 ok hw hA (rcC_6 ok hw) (cC_Reader_ringPlace l E n _ σ27 r29 h28) (cwC_X4_Reader_ringPlace hA9 ⟨Nat.le_of_ble_eq_true rfl, Nat.le_of_ble_eq_true rfl⟩) rfl rfl (Nat.le_of_ble_eq_true rfl) dX4_readAll_61 (fun H locs hw => ?_)
            refine lv_istore_n (lv' := [(2, .int r29), (0, .ref (E.2.2 1006)), (1, .ref (E.2.2 1004))]) hx hb dX4_readAll_64 rfl hl (by decide) rfl (fun ls hl => ?_)
            refine lv_iload_n hx hb dX4_readAll_65 rfl (lv_at hl 0 rfl) ?_
            refine lv_iconst (v := (-1 : Int32)) hx hb dX4_readAll_66 (by decide) ?_
            refine lv_icmp_ne (tgt := 74) hx hb dX4_readAll_67 (by decide) (fun c30 => ?_) (fun c30 => ?_)
            · have hm := if_f c30 hm
              refine lv_iload_n hx hb dX4_readAll_74 rfl (lv_at hl 0 rfl) ?_
              exact rtC_i cx hr hlk hw hm dX4_readAll_75
            · have hm := if_t c30 hm
              refine lv_aload_n hx hb dX4_readAll_70 rfl (lv_at hl 1 rfl) ?_
              obtain ⟨σ32, h31, hm⟩ := bp_ok hm
              refine clV_Cv (As := []) (rest := []) cx hml hl.1 ok hw hA (rcC_6 ok hw) (cC_Reader_arrange l E n _ σ27 σ32 h31) (cwC_X4_Reader_arrange hA9 ⟨Nat.le_of_ble_eq_true rfl, Nat.le_of_ble_eq_true rfl⟩) rfl rfl (Nat.le_of_ble_eq_true rfl) dX4_readAll_71 (fun H locs hw => ?_)
              refine lv_iload_n hx hb dX4_readAll_74 rfl (lv_at hl 0 rfl) ?_
              exact rtC_i cx hr hlk hw hm dX4_readAll_75
  have hl : lv_has ls 3 [(0, .ref (E.2.2 1006)), (1, .ref (E.2.2 1004))] := hl
  unfold C_Reader_readAll at hm
  have goal0 : ∀ (H : Heap) (locs : List Loc), wsC E σ0 (va_A (wldC E σ0) sz) s H locs → W p l e rmC_Reader_readAll s m args below meth c H locs 0 0 (MQ below (QiC E σ0 σ' sz r) args s 0 0 (va_A (wldC E σ0) sz)) (F0 m 0 ls []) := by
    intro H locs hw
    refine lv_aload_n hx hb dX4_readAll_0 rfl (lv_at hl 0 rfl) ?_
    refine lv_iconst (v := (0 : Int32)) hx hb dX4_readAll_1 (by decide) ?_
    refine ptC_X4_6_3 cx ok hw dX4_readAll_2 (fun H locs hw => ?_)
    obtain ⟨σ1, e2, hm⟩ := lt_ok hm
    have hw := wsC_eq e2 hw
    refine lv_aload_n hx hb dX4_readAll_5 rfl (lv_at hl 0 rfl) ?_
    refine gtC_X4_6_0 cx ok hw dX4_readAll_6 ?_
    refine lv_iconst (v := (0 : Int32)) hx hb dX4_readAll_9 (by decide) ?_
    refine ptC_X4_9_5 cx ok hw dX4_readAll_10 (fun H locs hw => ?_)
    obtain ⟨σ3, e4, hm⟩ := lt_ok hm
    have hw := wsC_eq e4 hw
    refine lv_iconst (v := (0 : Int32)) hx hb dX4_readAll_13 (by decide) ?_
    refine lv_istore_n (lv' := [(2, .int (0 : Int32)), (0, .ref (E.2.2 1006)), (1, .ref (E.2.2 1004))]) hx hb dX4_readAll_14 rfl hl (by decide) rfl (fun ls hl => ?_)
    exact w_15 n σ3 (0 : Int32) H locs ls hw (lv_sub hl [1, 2, 0] rfl) hm
  exact goal0 _ _ hw
theorem cwC_X9_Reader_readAll {R : Room} {s : State} {args : Array Value} {E : Ev} {A : Nat → Prop} (h : ∀ w ∈ wA, w.before args s = true) (ok : okC E A s) (hR : rmC_Reader_readAll.frames + 1 ≤ R.frames ∧ 8 + (3 + 11) + rmC_Reader_readAll.locals ≤ R.locals) : va_CN R s args RX9 76 yX4_readAll "ChordGrammars" cX4_readAll 3 (some .int) (wz yX4_readAll cX4_readAll 3 (some .int)) rmC_Reader_readAll 0 0 1 ∧ (Cond.instanceMethod yX4_readAll).before args s = true ∧ (Cond.selects RX4 yX4_readAll yX4_readAll).before args s = true := ⟨va_cnB 1 h (gdC k_323) rfl rfl rfl (ok.2.1 _ kn_320) (h _ k_7) (by decide +kernel) hR, h _ k_322, h _ ks_3⟩
/-! ChordGrammars$Grammar.become: writes -/
def C_Grammar_become_5 (σ0 : St) : Option St :=
  lt (sC σ0 80 (va_cpy (σ0.1 144) (σ0.1 80) 0 0 60)) fun σ1 =>
  lt (sC σ1 81 (va_cpy (σ1.1 145) (σ1.1 81) 0 0 60)) fun σ3 =>
  lt (sC σ3 82 (va_cpy (σ3.1 146) (σ3.1 82) 0 0 60)) fun σ5 =>
  lt (sC σ5 83 (va_cpy (σ5.1 147) (σ5.1 83) 0 0 60)) fun σ7 =>
  lt (sC σ7 84 (va_cpy (σ7.1 148) (σ7.1 84) 0 0 60)) fun σ9 =>
  lt (sI σ9 85 0 (σ9.1 149 0)) fun σ11 =>
  some σ11
abbrev rmC_Grammar_become_5 : Room := { frames := 1, cells := 0, slots := 0, locals := 60 }
set_option maxHeartbeats 4000000 in
set_option maxRecDepth 100000 in
theorem cC_Grammar_become_5 (l : Launch) (E : Ev) (sz : Nat) (σ0 σ' : St) (hm : C_Grammar_become_5 σ0 = some σ') : Met l yX2_become (wz yX2_become cX2_become 2 none) rmC_Grammar_become_5 (PwC E [.ref (E.2.2 1005), .ref (E.2.2 1009)] σ0 sz) (QvC E σ0 σ' sz) 0 0 (va_A (wldC E σ0) sz) := by
  refine enC (own := RX2) (by decide) rfl (Nat.le_of_ble_eq_true rfl) (fun p e s m args below meth c cx hr hlk hml hsz ok hw ls hl => ?_)
  have hx := cx.1
  have hb := cx.2.1
  have hA9 := cx.2.2.2
  have hA : ∀ q, s.heap.size ≤ q → (va_A (wldC E σ0) sz) q := fun q h => Or.inr (by rw [← hsz]; exact h)
  have hl : lv_has ls 2 [(0, .ref (E.2.2 1005)), (1, .ref (E.2.2 1009))] := hl
  unfold C_Grammar_become_5 at hm
  have goal0 : ∀ (H : Heap) (locs : List Loc), wsC E σ0 (va_A (wldC E σ0) sz) s H locs → W p l e rmC_Grammar_become_5 s m args below meth c H locs 0 0 (MQ below (QvC E σ0 σ' sz) args s 0 0 (va_A (wldC E σ0) sz)) (F0 m 0 ls []) := by
    intro H locs hw
    refine lv_aload_n hx hb dX2_become_0 rfl (lv_at hl 1 rfl) ?_
    refine gtC_X2_9_0 cx ok hw dX2_become_1 ?_
    refine lv_iconst (v := (0 : Int32)) hx hb dX2_become_4 (by decide) ?_
    refine lv_aload_n hx hb dX2_become_5 rfl (lv_at hl 0 rfl) ?_
    refine gtC_X2_5_0 cx ok hw dX2_become_6 ?_
    refine lv_iconst (v := (0 : Int32)) hx hb dX2_become_9 (by decide) ?_
    refine lv_bipush (v := (60 : Int32)) hx hb dX2_become_10 (by decide) ?_
    refine cpC_X2_144_80 cx (by rw [hml]; exact hl.1.symm) ok hw (Nat.le_of_ble_eq_true rfl) (rest := []) (by decide) dX2_become_12 (fun H locs hw => ?_)
    obtain ⟨σ1, e2, hm⟩ := lt_ok hm
    have hw := wsC_eq e2 hw
    refine lv_aload_n hx hb dX2_become_15 rfl (lv_at hl 1 rfl) ?_
    refine gtC_X2_9_1 cx ok hw dX2_become_16 ?_
    refine lv_iconst (v := (0 : Int32)) hx hb dX2_become_19 (by decide) ?_
    refine lv_aload_n hx hb dX2_become_20 rfl (lv_at hl 0 rfl) ?_
    refine gtC_X2_5_1 cx ok hw dX2_become_21 ?_
    refine lv_iconst (v := (0 : Int32)) hx hb dX2_become_24 (by decide) ?_
    refine lv_bipush (v := (60 : Int32)) hx hb dX2_become_25 (by decide) ?_
    refine cpC_X2_145_81 cx (by rw [hml]; exact hl.1.symm) ok hw (Nat.le_of_ble_eq_true rfl) (rest := []) (by decide) dX2_become_27 (fun H locs hw => ?_)
    obtain ⟨σ3, e4, hm⟩ := lt_ok hm
    have hw := wsC_eq e4 hw
    refine lv_aload_n hx hb dX2_become_30 rfl (lv_at hl 1 rfl) ?_
    refine gtC_X2_9_2 cx ok hw dX2_become_31 ?_
    refine lv_iconst (v := (0 : Int32)) hx hb dX2_become_34 (by decide) ?_
    refine lv_aload_n hx hb dX2_become_35 rfl (lv_at hl 0 rfl) ?_
    refine gtC_X2_5_2 cx ok hw dX2_become_36 ?_
    refine lv_iconst (v := (0 : Int32)) hx hb dX2_become_39 (by decide) ?_
    refine lv_bipush (v := (60 : Int32)) hx hb dX2_become_40 (by decide) ?_
    refine cpC_X2_146_82 cx (by rw [hml]; exact hl.1.symm) ok hw (Nat.le_of_ble_eq_true rfl) (rest := []) (by decide) dX2_become_42 (fun H locs hw => ?_)
    obtain ⟨σ5, e6, hm⟩ := lt_ok hm
    have hw := wsC_eq e6 hw
    refine lv_aload_n hx hb dX2_become_45 rfl (lv_at hl 1 rfl) ?_
    refine gtC_X2_9_3 cx ok hw dX2_become_46 ?_
    refine lv_iconst (v := (0 : Int32)) hx hb dX2_become_49 (by decide) ?_
    refine lv_aload_n hx hb dX2_become_50 rfl (lv_at hl 0 rfl) ?_
    refine gtC_X2_5_3 cx ok hw dX2_become_51 ?_
    refine lv_iconst (v := (0 : Int32)) hx hb dX2_become_54 (by decide) ?_
    refine lv_bipush (v := (60 : Int32)) hx hb dX2_become_55 (by decide) ?_
    refine cpC_X2_147_83 cx (by rw [hml]; exact hl.1.symm) ok hw (Nat.le_of_ble_eq_true rfl) (rest := []) (by decide) dX2_become_57 (fun H locs hw => ?_)
    obtain ⟨σ7, e8, hm⟩ := lt_ok hm
    have hw := wsC_eq e8 hw
    refine lv_aload_n hx hb dX2_become_60 rfl (lv_at hl 1 rfl) ?_
    refine gtC_X2_9_4 cx ok hw dX2_become_61 ?_
    refine lv_iconst (v := (0 : Int32)) hx hb dX2_become_64 (by decide) ?_
    refine lv_aload_n hx hb dX2_become_65 rfl (lv_at hl 0 rfl) ?_
    refine gtC_X2_5_4 cx ok hw dX2_become_66 ?_
    refine lv_iconst (v := (0 : Int32)) hx hb dX2_become_69 (by decide) ?_
    refine lv_bipush (v := (60 : Int32)) hx hb dX2_become_70 (by decide) ?_
    refine cpC_X2_148_84 cx (by rw [hml]; exact hl.1.symm) ok hw (Nat.le_of_ble_eq_true rfl) (rest := []) (by decide) dX2_become_72 (fun H locs hw => ?_)
    obtain ⟨σ9, e10, hm⟩ := lt_ok hm
    have hw := wsC_eq e10 hw
    refine lv_aload_n hx hb dX2_become_75 rfl (lv_at hl 0 rfl) ?_
    refine lv_aload_n hx hb dX2_become_76 rfl (lv_at hl 1 rfl) ?_
    refine gtC_X2_9_5 cx ok hw dX2_become_77 ?_
    refine ptC_X2_5_5 cx ok hw dX2_become_80 (fun H locs hw => ?_)
    obtain ⟨σ11, e12, hm⟩ := lt_ok hm
    have hw := wsC_eq e12 hw
    exact rtC_v cx hr hlk hw hm dX2_become_83
  exact goal0 _ _ hw
theorem cwC_X9_Grammar_become_5 {R : Room} {s : State} {args : Array Value} {E : Ev} {A : Nat → Prop} (h : ∀ w ∈ wA, w.before args s = true) (ok : okC E A s) (hR : rmC_Grammar_become_5.frames + 1 ≤ R.frames ∧ 8 + (2 + 11) + rmC_Grammar_become_5.locals ≤ R.locals) : va_CN R s args RX9 87 yX2_become "ChordGrammars" cX2_become 2 none (wz yX2_become cX2_become 2 none) rmC_Grammar_become_5 0 0 1 ∧ (Cond.instanceMethod yX2_become).before args s = true ∧ (Cond.selects RX2 yX2_become yX2_become).before args s = true := ⟨va_cnB 1 h (gdC k_473) rfl rfl rfl (ok.2.1 _ kn_470) (h _ k_6) (by decide +kernel) hR, h _ k_472, h _ ks_15⟩
/-! ChordGrammars.grammar: writes -/
def C_CG_grammar (n : Nat) (σ0 : St) : Option (Int32 × St) :=
  bd (C_Reader_readAll n σ0) fun r2 σ3 =>
  lt (sI σ3 65 0 (0 : Int32)) fun σ4 =>
  if r2 = (-1 : Int32) then
    bp (C_Grammar_become_5 σ4) fun σ8 =>
    some ((σ8.1 85 0), σ8)
  else
    some (((-2 : Int32) - r2), σ4)
abbrev rmC_CG_grammar : Room := { frames := 8, cells := 0, slots := 0, locals := 188 }
set_option maxHeartbeats 4000000 in
set_option maxRecDepth 100000 in
theorem cC_CG_grammar (l : Launch) (E : Ev) (n : Nat) (sz : Nat) (σ0 σ' : St) (r : Int32) (hm : C_CG_grammar n σ0 = some (r, σ')) : Met l yX9_grammar (wz yX9_grammar cX9_grammar 2 (some .int)) rmC_CG_grammar (PwC E [.ref (E.2.2 1000)] σ0 sz) (QiC E σ0 σ' sz r) 0 0 (va_A (wldC E σ0) sz) := by
  refine enC (own := RX9) (by decide) rfl (Nat.le_of_ble_eq_true rfl) (fun p e s m args below meth c cx hr hlk hml hsz ok hw ls hl => ?_)
  have hx := cx.1
  have hb := cx.2.1
  have hA9 := cx.2.2.2
  have hA : ∀ q, s.heap.size ≤ q → (va_A (wldC E σ0) sz) q := fun q h => Or.inr (by rw [← hsz]; exact h)
  have hl : lv_has ls 2 [(0, .ref (E.2.2 1000))] := hl
  unfold C_CG_grammar at hm
  have goal0 : ∀ (H : Heap) (locs : List Loc), wsC E σ0 (va_A (wldC E σ0) sz) s H locs → W p l e rmC_CG_grammar s m args below meth c H locs 0 0 (MQ below (QiC E σ0 σ' sz r) args s 0 0 (va_A (wldC E σ0) sz)) (F0 m 0 ls []) := by
    intro H locs hw
    refine lv_aload_n hx hb dX9_grammar_0 rfl (lv_at hl 0 rfl) ?_
    refine gtC_X9_0_5 cx ok hw dX9_grammar_1 ?_
    refine lv_aload_n hx hb dX9_grammar_4 rfl (lv_at hl 0 rfl) ?_
    refine gtC_X9_0_3 cx ok hw dX9_grammar_5 ?_
    obtain ⟨r2, σ3, h1, hm⟩ := bd_ok hm
    refine clVN_Ci (As := [.ref (E.2.2 1004)]) (rest := []) cx hml hl.1 ok hw hA (rcC_6 ok hw) (cC_Reader_readAll l E n _ σ0 σ3 r2 h1) (cwC_X9_Reader_readAll hA9 ok ⟨Nat.le_of_ble_eq_true rfl, Nat.le_of_ble_eq_true rfl⟩) rfl rfl (Nat.le_of_ble_eq_true rfl) dX9_grammar_8 (fun H locs hw => ?_)
    refine lv_istore_n (lv' := [(1, .int r2), (0, .ref (E.2.2 1000))]) hx hb dX9_grammar_11 rfl hl (by decide) rfl (fun ls hl => ?_)
    refine lv_aload_n hx hb dX9_grammar_12 rfl (lv_at hl 1 rfl) ?_
    refine gtC_X9_0_3 cx ok hw dX9_grammar_13 ?_
    refine lv_iconst (v := (0 : Int32)) hx hb dX9_grammar_16 (by decide) ?_
    refine ptC_X9_4_1 cx ok hw dX9_grammar_17 (fun H locs hw => ?_)
    obtain ⟨σ4, e5, hm⟩ := lt_ok hm
    have hw := wsC_eq e5 hw
    refine lv_iload_n hx hb dX9_grammar_20 rfl (lv_at hl 0 rfl) ?_
    refine lv_iconst (v := (-1 : Int32)) hx hb dX9_grammar_21 (by decide) ?_
    refine lv_icmp_eq (tgt := 30) hx hb dX9_grammar_22 (by decide) (fun c6 => ?_) (fun c6 => ?_)
    · have hm := if_t c6 hm
      refine lv_aload_n hx hb dX9_grammar_30 rfl (lv_at hl 1 rfl) ?_
      refine gtC_X9_0_4 cx ok hw dX9_grammar_31 ?_
      refine lv_aload_n hx hb dX9_grammar_34 rfl (lv_at hl 1 rfl) ?_
      refine gtC_X9_0_5 cx ok hw dX9_grammar_35 ?_
      refine gtC_X9_6_0 cx ok hw dX9_grammar_38 ?_
      obtain ⟨σ8, h7, hm⟩ := bp_ok hm
      refine clVN_Cv (As := [.ref (E.2.2 1009)]) (rest := []) cx hml hl.1 ok hw hA (rcC_5 ok hw) (cC_Grammar_become_5 l E _ σ4 σ8 h7) (cwC_X9_Grammar_become_5 hA9 ok ⟨Nat.le_of_ble_eq_true rfl, Nat.le_of_ble_eq_true rfl⟩) rfl rfl (Nat.le_of_ble_eq_true rfl) dX9_grammar_41 (fun H locs hw => ?_)
      refine lv_aload_n hx hb dX9_grammar_44 rfl (lv_at hl 1 rfl) ?_
      refine gtC_X9_0_4 cx ok hw dX9_grammar_45 ?_
      refine gtC_X9_5_5 cx ok hw dX9_grammar_48 ?_
      exact rtC_i cx hr hlk hw hm dX9_grammar_51
    · have hm := if_f c6 hm
      refine lv_bipush (v := (-2 : Int32)) hx hb dX9_grammar_25 (by decide) ?_
      refine lv_iload_n hx hb dX9_grammar_27 rfl (lv_at hl 0 rfl) ?_
      refine lv_isub hx hb dX9_grammar_28 ?_
      exact rtC_i cx hr hlk hw hm dX9_grammar_29
  exact goal0 _ _ hw
/-! ChordGrammars$Slots.add: writes -/
def C_Slots_add_b59 (σ : St) (x1 : Int32) (x2 : Int32) (x3 : Int32) : Option (Int32 × St) :=
  gd (σ.1 51 0) 24 <|
  lt (sI σ 48 (σ.1 51 0).toNatClampNeg x1) fun σ2 =>
  gd (σ2.1 51 0) 24 <|
  lt (sI σ2 49 (σ2.1 51 0).toNatClampNeg x2) fun σ5 =>
  gd (σ5.1 51 0) 24 <|
  lt (sI σ5 50 (σ5.1 51 0).toNatClampNeg x3) fun σ8 =>
  lt (sI σ8 51 0 ((σ8.1 51 0) + (1 : Int32))) fun σ10 =>
  some (((σ10.1 51 0) - (1 : Int32)), σ10)
def C_Slots_add (σ0 : St) (x1 : Int32) (x2 : Int32) (x3 : Int32) : Option (Int32 × St) :=
  if (24 : Int32) ≤ (σ0.1 51 0) then
    some ((-1 : Int32), σ0)
  else
    if x1 < (1 : Int32) then
      some ((-1 : Int32), σ0)
    else
      if (4095 : Int32) < x1 then
        some ((-1 : Int32), σ0)
      else
        if x3 < (-1 : Int32) then
          some ((-1 : Int32), σ0)
        else
          if x3 ≤ (127 : Int32) then
            if x2 = (-1 : Int32) then
              C_Slots_add_b59 σ0 x1 x2 x3
            else
              if x2 < 0 then
                some ((-1 : Int32), σ0)
              else
                if (12 : Int32) ≤ x2 then
                  some ((-1 : Int32), σ0)
                else
                  if (((x1.toUInt32 >>> (x2.toUInt32 &&& Int32.toUInt32 31)).toInt32) &&& (1 : Int32)) = 0 then
                    some ((-1 : Int32), σ0)
                  else
                    C_Slots_add_b59 σ0 x1 x2 x3
          else
            some ((-1 : Int32), σ0)
abbrev rmC_Slots_add : Room := { frames := 0, cells := 0, slots := 0, locals := 0 }
set_option maxHeartbeats 4000000 in
set_option maxRecDepth 100000 in
theorem cC_Slots_add (l : Launch) (E : Ev) (sz : Nat) (σ0 σ' : St) (x1 : Int32) (x2 : Int32) (x3 : Int32) (r : Int32) (hm : C_Slots_add σ0 x1 x2 x3 = some (r, σ')) : Met l yX5_add (wz yX5_add cX5_add 4 (some .int)) rmC_Slots_add (PwC E [.ref (E.2.2 1003), .int x1, .int x2, .int x3] σ0 sz) (QiC E σ0 σ' sz r) 0 0 (va_A (wldC E σ0) sz) := by
  refine enC (own := RX5) (by decide) rfl (Nat.le_of_ble_eq_true rfl) (fun p e s m args below meth c cx hr hlk hml hsz ok hw ls hl => ?_)
  have hx := cx.1
  have hb := cx.2.1
  have hA9 := cx.2.2.2
  have hA : ∀ q, s.heap.size ≤ q → (va_A (wldC E σ0) sz) q := fun q h => Or.inr (by rw [← hsz]; exact h)
  have w_59 : ∀ (σ : St) (x1 : Int32) (x2 : Int32) (x3 : Int32) (H : Heap) (locs : List Loc) (ls : Array Slot), wsC E σ (va_A (wldC E σ0) sz) s H locs → lv_has ls 4 [(0, .ref (E.2.2 1003)), (1, .int x1), (2, .int x2), (3, .int x3)] → C_Slots_add_b59 σ x1 x2 x3 = some (r, σ') → W p l e rmC_Slots_add s m args below meth c H locs 0 0 (MQ below (QiC E σ0 σ' sz r) args s 0 0 (va_A (wldC E σ0) sz)) (F0 m 59 ls []) := by
    intro σ x1 x2 x3 H locs ls hw hl hm
    unfold C_Slots_add_b59 at hm
    refine lv_aload_n hx hb dX5_add_59 rfl (lv_at hl 0 rfl) ?_
    refine gtC_X5_3_0 cx ok hw dX5_add_60 ?_
    refine lv_aload_n hx hb dX5_add_63 rfl (lv_at hl 0 rfl) ?_
    refine gtC_X5_3_3 cx ok hw dX5_add_64 ?_
    refine lv_iload_n hx hb dX5_add_67 rfl (lv_at hl 1 rfl) ?_
    obtain ⟨g1, hm⟩ := gd_ok hm
    refine stC_48 cx ok hw g1 dX5_add_68 (fun H locs hw => ?_)
    obtain ⟨σ2, e3, hm⟩ := lt_ok hm
    have hw := wsC_eq e3 hw
    refine lv_aload_n hx hb dX5_add_69 rfl (lv_at hl 0 rfl) ?_
    refine gtC_X5_3_1 cx ok hw dX5_add_70 ?_
    refine lv_aload_n hx hb dX5_add_73 rfl (lv_at hl 0 rfl) ?_
    refine gtC_X5_3_3 cx ok hw dX5_add_74 ?_
    refine lv_iload_n hx hb dX5_add_77 rfl (lv_at hl 2 rfl) ?_
    obtain ⟨g4, hm⟩ := gd_ok hm
    refine stC_49 cx ok hw g4 dX5_add_78 (fun H locs hw => ?_)
    obtain ⟨σ5, e6, hm⟩ := lt_ok hm
    have hw := wsC_eq e6 hw
    refine lv_aload_n hx hb dX5_add_79 rfl (lv_at hl 0 rfl) ?_
    refine gtC_X5_3_2 cx ok hw dX5_add_80 ?_
    refine lv_aload_n hx hb dX5_add_83 rfl (lv_at hl 0 rfl) ?_
    refine gtC_X5_3_3 cx ok hw dX5_add_84 ?_
    refine lv_iload_n hx hb dX5_add_87 rfl (lv_at hl 3 rfl) ?_
    obtain ⟨g7, hm⟩ := gd_ok hm
    refine stC_50 cx ok hw g7 dX5_add_88 (fun H locs hw => ?_)
    obtain ⟨σ8, e9, hm⟩ := lt_ok hm
    have hw := wsC_eq e9 hw
    refine lv_aload_n hx hb dX5_add_89 rfl (lv_at hl 0 rfl) ?_
    refine lv_dup hx hb dX5_add_90 rfl ?_
    refine gtC_X5_3_3 cx ok hw dX5_add_91 ?_
    refine lv_iconst (v := (1 : Int32)) hx hb dX5_add_94 (by decide) ?_
    refine lv_iadd hx hb dX5_add_95 ?_
    refine ptC_X5_3_3 cx ok hw dX5_add_96 (fun H locs hw => ?_)
    obtain ⟨σ10, e11, hm⟩ := lt_ok hm
    have hw := wsC_eq e11 hw
    refine lv_aload_n hx hb dX5_add_99 rfl (lv_at hl 0 rfl) ?_
    refine gtC_X5_3_3 cx ok hw dX5_add_100 ?_
    refine lv_iconst (v := (1 : Int32)) hx hb dX5_add_103 (by decide) ?_
    refine lv_isub hx hb dX5_add_104 ?_
    exact rtC_i cx hr hlk hw hm dX5_add_105
  have hl : lv_has ls 4 [(0, .ref (E.2.2 1003)), (1, .int x1), (2, .int x2), (3, .int x3)] := hl
  unfold C_Slots_add at hm
  have goal0 : ∀ (H : Heap) (locs : List Loc), wsC E σ0 (va_A (wldC E σ0) sz) s H locs → W p l e rmC_Slots_add s m args below meth c H locs 0 0 (MQ below (QiC E σ0 σ' sz r) args s 0 0 (va_A (wldC E σ0) sz)) (F0 m 0 ls []) := by
    intro H locs hw
    refine lv_aload_n hx hb dX5_add_0 rfl (lv_at hl 0 rfl) ?_
    refine gtC_X5_3_3 cx ok hw dX5_add_1 ?_
    refine lv_bipush (v := (24 : Int32)) hx hb dX5_add_4 (by decide) ?_
    refine lv_icmp_ge (tgt := 32) hx hb dX5_add_6 (by decide) (fun c1 => ?_) (fun c1 => ?_)
    · have hm := if_t c1 hm
      refine lv_iconst (v := (-1 : Int32)) hx hb dX5_add_32 (by decide) ?_
      exact rtC_i cx hr hlk hw hm dX5_add_33
    · have hm := if_f c1 hm
      refine lv_iload_n hx hb dX5_add_9 rfl (lv_at hl 1 rfl) ?_
      refine lv_iconst (v := (1 : Int32)) hx hb dX5_add_10 (by decide) ?_
      refine lv_icmp_lt (tgt := 32) hx hb dX5_add_11 (by decide) (fun c2 => ?_) (fun c2 => ?_)
      · have hm := if_t c2 hm
        refine lv_iconst (v := (-1 : Int32)) hx hb dX5_add_32 (by decide) ?_
        exact rtC_i cx hr hlk hw hm dX5_add_33
      · have hm := if_f c2 hm
        refine lv_iload_n hx hb dX5_add_14 rfl (lv_at hl 1 rfl) ?_
        refine lv_sipush (v := (4095 : Int32)) hx hb dX5_add_15 (by decide) ?_
        refine lv_icmp_gt (tgt := 32) hx hb dX5_add_18 (by decide) (fun c3 => ?_) (fun c3 => ?_)
        · have hm := if_t c3 hm
          refine lv_iconst (v := (-1 : Int32)) hx hb dX5_add_32 (by decide) ?_
          exact rtC_i cx hr hlk hw hm dX5_add_33
        · have hm := if_f c3 hm
          refine lv_iload_n hx hb dX5_add_21 rfl (lv_at hl 3 rfl) ?_
          refine lv_iconst (v := (-1 : Int32)) hx hb dX5_add_22 (by decide) ?_
          refine lv_icmp_lt (tgt := 32) hx hb dX5_add_23 (by decide) (fun c4 => ?_) (fun c4 => ?_)
          · have hm := if_t c4 hm
            refine lv_iconst (v := (-1 : Int32)) hx hb dX5_add_32 (by decide) ?_
            exact rtC_i cx hr hlk hw hm dX5_add_33
          · have hm := if_f c4 hm
            refine lv_iload_n hx hb dX5_add_26 rfl (lv_at hl 3 rfl) ?_
            refine lv_bipush (v := (127 : Int32)) hx hb dX5_add_27 (by decide) ?_
            refine lv_icmp_le (tgt := 34) hx hb dX5_add_29 (by decide) (fun c5 => ?_) (fun c5 => ?_)
            · have hm := if_t c5 hm
              refine lv_iload_n hx hb dX5_add_34 rfl (lv_at hl 2 rfl) ?_
              refine lv_iconst (v := (-1 : Int32)) hx hb dX5_add_35 (by decide) ?_
              refine lv_icmp_eq (tgt := 59) hx hb dX5_add_36 (by decide) (fun c6 => ?_) (fun c6 => ?_)
              · have hm := if_t c6 hm
                exact w_59 σ0 x1 x2 x3 H locs ls hw (lv_sub hl [0, 1, 2, 3] rfl) hm
              · have hm := if_f c6 hm
                refine lv_iload_n hx hb dX5_add_39 rfl (lv_at hl 2 rfl) ?_
                refine lv_if_lt (tgt := 57) hx hb dX5_add_40 (by decide) (fun c7 => ?_) (fun c7 => ?_)
                · have hm := if_t c7 hm
                  refine lv_iconst (v := (-1 : Int32)) hx hb dX5_add_57 (by decide) ?_
                  exact rtC_i cx hr hlk hw hm dX5_add_58
                · have hm := if_f c7 hm
                  refine lv_iload_n hx hb dX5_add_43 rfl (lv_at hl 2 rfl) ?_
                  refine lv_bipush (v := (12 : Int32)) hx hb dX5_add_44 (by decide) ?_
                  refine lv_icmp_ge (tgt := 57) hx hb dX5_add_46 (by decide) (fun c8 => ?_) (fun c8 => ?_)
                  · have hm := if_t c8 hm
                    refine lv_iconst (v := (-1 : Int32)) hx hb dX5_add_57 (by decide) ?_
                    exact rtC_i cx hr hlk hw hm dX5_add_58
                  · have hm := if_f c8 hm
                    refine lv_iload_n hx hb dX5_add_49 rfl (lv_at hl 1 rfl) ?_
                    refine lv_iload_n hx hb dX5_add_50 rfl (lv_at hl 2 rfl) ?_
                    refine lv_iushr hx hb dX5_add_51 rfl ?_
                    refine lv_iconst (v := (1 : Int32)) hx hb dX5_add_52 (by decide) ?_
                    refine lv_iand hx hb dX5_add_53 ?_
                    refine lv_if_ne (tgt := 59) hx hb dX5_add_54 (by decide) (fun c9 => ?_) (fun c9 => ?_)
                    · have hm := if_f c9 hm
                      exact w_59 σ0 x1 x2 x3 H locs ls hw (lv_sub hl [0, 1, 2, 3] rfl) hm
                    · have hm := if_t c9 hm
                      refine lv_iconst (v := (-1 : Int32)) hx hb dX5_add_57 (by decide) ?_
                      exact rtC_i cx hr hlk hw hm dX5_add_58
            · have hm := if_f c5 hm
              refine lv_iconst (v := (-1 : Int32)) hx hb dX5_add_32 (by decide) ?_
              exact rtC_i cx hr hlk hw hm dX5_add_33
  exact goal0 _ _ hw
theorem cwC_X9_Slots_add {R : Room} {s : State} {args : Array Value} {E : Ev} {A : Nat → Prop} (h : ∀ w ∈ wA, w.before args s = true) (ok : okC E A s) (hR : rmC_Slots_add.frames + 1 ≤ R.frames ∧ 8 + (4 + 11) + rmC_Slots_add.locals ≤ R.locals) : va_CN R s args RX9 94 yX5_add "ChordGrammars" cX5_add 4 (some .int) (wz yX5_add cX5_add 4 (some .int)) rmC_Slots_add 0 0 3 ∧ (Cond.instanceMethod yX5_add).before args s = true ∧ (Cond.selects RX5 yX5_add yX5_add).before args s = true := ⟨va_cnB 3 h (gdC k_484) rfl rfl rfl (ok.2.1 _ kn_481) (h _ k_4) (by decide +kernel) hR, h _ k_483, h _ ks_16⟩
/-! ChordGrammars.slot: writes -/
def C_CG_slot (σ0 : St) (x1 : Int32) (x2 : Int32) (x3 : Int32) : Option (Int32 × St) :=
  bd (C_Slots_add σ0 x1 x2 x3) fun r2 σ3 =>
  some (r2, σ3)
abbrev rmC_CG_slot : Room := { frames := 1, cells := 0, slots := 0, locals := 23 }
set_option maxHeartbeats 4000000 in
set_option maxRecDepth 100000 in
theorem cC_CG_slot (l : Launch) (E : Ev) (sz : Nat) (σ0 σ' : St) (x1 : Int32) (x2 : Int32) (x3 : Int32) (r : Int32) (hm : C_CG_slot σ0 x1 x2 x3 = some (r, σ')) : Met l yX9_slot (wz yX9_slot cX9_slot 4 (some .int)) rmC_CG_slot (PwC E [.ref (E.2.2 1000), .int x1, .int x2, .int x3] σ0 sz) (QiC E σ0 σ' sz r) 0 0 (va_A (wldC E σ0) sz) := by
  refine enC (own := RX9) (by decide) rfl (Nat.le_of_ble_eq_true rfl) (fun p e s m args below meth c cx hr hlk hml hsz ok hw ls hl => ?_)
  have hx := cx.1
  have hb := cx.2.1
  have hA9 := cx.2.2.2
  have hA : ∀ q, s.heap.size ≤ q → (va_A (wldC E σ0) sz) q := fun q h => Or.inr (by rw [← hsz]; exact h)
  have hl : lv_has ls 4 [(0, .ref (E.2.2 1000)), (1, .int x1), (2, .int x2), (3, .int x3)] := hl
  unfold C_CG_slot at hm
  have goal0 : ∀ (H : Heap) (locs : List Loc), wsC E σ0 (va_A (wldC E σ0) sz) s H locs → W p l e rmC_CG_slot s m args below meth c H locs 0 0 (MQ below (QiC E σ0 σ' sz r) args s 0 0 (va_A (wldC E σ0) sz)) (F0 m 0 ls []) := by
    intro H locs hw
    refine lv_aload_n hx hb dX9_slot_0 rfl (lv_at hl 0 rfl) ?_
    refine gtC_X9_0_2 cx ok hw dX9_slot_1 ?_
    refine lv_iload_n hx hb dX9_slot_4 rfl (lv_at hl 1 rfl) ?_
    refine lv_iload_n hx hb dX9_slot_5 rfl (lv_at hl 2 rfl) ?_
    refine lv_iload_n hx hb dX9_slot_6 rfl (lv_at hl 3 rfl) ?_
    obtain ⟨r2, σ3, h1, hm⟩ := bd_ok hm
    refine clVN_Ci (As := [.int x1, .int x2, .int x3]) (rest := []) cx hml hl.1 ok hw hA (rcC_3 ok hw) (cC_Slots_add l E _ σ0 σ3 x1 x2 x3 r2 h1) (cwC_X9_Slots_add hA9 ok ⟨Nat.le_of_ble_eq_true rfl, Nat.le_of_ble_eq_true rfl⟩) rfl rfl (Nat.le_of_ble_eq_true rfl) dX9_slot_7 (fun H locs hw => ?_)
    exact rtC_i cx hr hlk hw hm dX9_slot_10
  exact goal0 _ _ hw
/-! ChordGrammars.clear: writes -/
def C_CG_clear (σ0 : St) : Option (Int32 × St) :=
  lt ((σ0.1 51 0)) fun x1_1 =>
  lt (sI σ0 51 0 (0 : Int32)) fun σ3 =>
  some (x1_1, σ3)
abbrev rmC_CG_clear : Room := { frames := 0, cells := 0, slots := 0, locals := 0 }
set_option maxHeartbeats 4000000 in
set_option maxRecDepth 100000 in
theorem cC_CG_clear (l : Launch) (E : Ev) (sz : Nat) (σ0 σ' : St) (r : Int32) (hm : C_CG_clear σ0 = some (r, σ')) : Met l yX9_clear (wz yX9_clear cX9_clear 2 (some .int)) rmC_CG_clear (PwC E [.ref (E.2.2 1000)] σ0 sz) (QiC E σ0 σ' sz r) 0 0 (va_A (wldC E σ0) sz) := by
  refine enC (own := RX9) (by decide) rfl (Nat.le_of_ble_eq_true rfl) (fun p e s m args below meth c cx hr hlk hml hsz ok hw ls hl => ?_)
  have hx := cx.1
  have hb := cx.2.1
  have hA9 := cx.2.2.2
  have hA : ∀ q, s.heap.size ≤ q → (va_A (wldC E σ0) sz) q := fun q h => Or.inr (by rw [← hsz]; exact h)
  have hl : lv_has ls 2 [(0, .ref (E.2.2 1000))] := hl
  unfold C_CG_clear at hm
  have goal0 : ∀ (H : Heap) (locs : List Loc), wsC E σ0 (va_A (wldC E σ0) sz) s H locs → W p l e rmC_CG_clear s m args below meth c H locs 0 0 (MQ below (QiC E σ0 σ' sz r) args s 0 0 (va_A (wldC E σ0) sz)) (F0 m 0 ls []) := by
    intro H locs hw
    refine lv_aload_n hx hb dX9_clear_0 rfl (lv_at hl 0 rfl) ?_
    refine gtC_X9_0_2 cx ok hw dX9_clear_1 ?_
    refine gtC_X9_3_3 cx ok hw dX9_clear_4 ?_
    obtain ⟨x1_1, e2, hm⟩ := lt_ok hm
    refine ti_eq e2 ?_
    refine lv_istore_n (lv' := [(1, .int x1_1), (0, .ref (E.2.2 1000))]) hx hb dX9_clear_7 rfl hl (by decide) rfl (fun ls hl => ?_)
    refine lv_aload_n hx hb dX9_clear_8 rfl (lv_at hl 1 rfl) ?_
    refine gtC_X9_0_2 cx ok hw dX9_clear_9 ?_
    refine lv_iconst (v := (0 : Int32)) hx hb dX9_clear_12 (by decide) ?_
    refine ptC_X9_3_3 cx ok hw dX9_clear_13 (fun H locs hw => ?_)
    obtain ⟨σ3, e4, hm⟩ := lt_ok hm
    have hw := wsC_eq e4 hw
    refine lv_iload_n hx hb dX9_clear_16 rfl (lv_at hl 0 rfl) ?_
    exact rtC_i cx hr hlk hw hm dX9_clear_17
  exact goal0 _ _ hw
/-! ChordGrammars$Slots.has: reads only -/
def C_Slots_has (σ0 : St) (x1 : Int32) : Option Int32 :=
  if x1 < 0 then
    some (0 : Int32)
  else
    if (σ0.1 51 0) ≤ x1 then
      some (0 : Int32)
    else
      some (1 : Int32)
abbrev rmC_Slots_has : Room := { frames := 0, cells := 0, slots := 0, locals := 0 }
set_option maxHeartbeats 4000000 in
set_option maxRecDepth 100000 in
theorem cC_Slots_has (l : Launch) (E : Ev) (sz : Nat) (σ0 : St) (x1 : Int32) (r : Int32) (hm : C_Slots_has σ0 x1 = some r) : Met l yX5_has (wz yX5_has cX5_has 2 (some .boolean)) rmC_Slots_has (PwC E [.ref (E.2.2 1003), .int x1] σ0 sz) (QiC E σ0 σ0 sz r) 0 0 (va_A (wldC E σ0) sz) := by
  refine enC (own := RX5) (by decide) rfl (Nat.le_of_ble_eq_true rfl) (fun p e s m args below meth c cx hr hlk hml hsz ok hw ls hl => ?_)
  have hx := cx.1
  have hb := cx.2.1
  have hA9 := cx.2.2.2
  have hA : ∀ q, s.heap.size ≤ q → (va_A (wldC E σ0) sz) q := fun q h => Or.inr (by rw [← hsz]; exact h)
  have hl : lv_has ls 2 [(0, .ref (E.2.2 1003)), (1, .int x1)] := hl
  unfold C_Slots_has at hm
  have goal0 : ∀ (H : Heap) (locs : List Loc), wsC E σ0 (va_A (wldC E σ0) sz) s H locs → W p l e rmC_Slots_has s m args below meth c H locs 0 0 (MQ below (QiC E σ0 σ0 sz r) args s 0 0 (va_A (wldC E σ0) sz)) (F0 m 0 ls []) := by
    intro H locs hw
    refine lv_iload_n hx hb dX5_has_0 rfl (lv_at hl 1 rfl) ?_
    refine lv_if_lt (tgt := 16) hx hb dX5_has_1 (by decide) (fun c1 => ?_) (fun c1 => ?_)
    · have hm := if_t c1 hm
      refine lv_iconst (v := (0 : Int32)) hx hb dX5_has_16 (by decide) ?_
      exact rtC_z cx hr hlk hw (by decide) (pr_some hm) dX5_has_17
    · have hm := if_f c1 hm
      refine lv_iload_n hx hb dX5_has_4 rfl (lv_at hl 1 rfl) ?_
      refine lv_aload_n hx hb dX5_has_5 rfl (lv_at hl 0 rfl) ?_
      refine gtC_X5_3_3 cx ok hw dX5_has_6 ?_
      refine lv_icmp_ge (tgt := 16) hx hb dX5_has_9 (by decide) (fun c2 => ?_) (fun c2 => ?_)
      · have hm := if_t c2 hm
        refine lv_iconst (v := (0 : Int32)) hx hb dX5_has_16 (by decide) ?_
        exact rtC_z cx hr hlk hw (by decide) (pr_some hm) dX5_has_17
      · have hm := if_f c2 hm
        refine lv_iconst (v := (1 : Int32)) hx hb dX5_has_12 (by decide) ?_
        refine lv_goto (tgt := 17) hx hb dX5_has_13 (by decide) ?_
        exact rtC_z cx hr hlk hw (by decide) (pr_some hm) dX5_has_17
  exact goal0 _ _ hw
theorem cwC_X9_Slots_has {R : Room} {s : State} {args : Array Value} {E : Ev} {A : Nat → Prop} (h : ∀ w ∈ wA, w.before args s = true) (ok : okC E A s) (hR : rmC_Slots_has.frames + 1 ≤ R.frames ∧ 8 + (2 + 11) + rmC_Slots_has.locals ≤ R.locals) : va_CN R s args RX9 101 yX5_has "ChordGrammars" cX5_has 2 (some .boolean) (wz yX5_has cX5_has 2 (some .boolean)) rmC_Slots_has 0 0 1 ∧ (Cond.instanceMethod yX5_has).before args s = true ∧ (Cond.selects RX5 yX5_has yX5_has).before args s = true := ⟨va_cnB 1 h (gdC k_496) rfl rfl rfl (ok.2.1 _ kn_493) (h _ k_4) (by decide +kernel) hR, h _ k_495, h _ ks_17⟩

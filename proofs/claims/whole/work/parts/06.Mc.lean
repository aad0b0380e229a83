/-! private static int cellOf(int, int, int);: reads only -/
def M_cellOf (x0 : Int32) (x1 : Int32) (x2 : Int32) : Option Int32 :=
  some ((((300 : Int32) * x0) + ((x2 * (x2 + (1 : Int32))) / (2 : Int32))) + x1)
abbrev rmM_cellOf : Room := { frames := 0, cells := 0, slots := 0, locals := 0 }
set_option maxHeartbeats 4000000 in
set_option maxRecDepth 100000 in
theorem cM_cellOf (l : Launch) (E : Ev) (sz : Nat) (σ0 : St) (x0 : Int32) (x1 : Int32) (x2 : Int32) (r : Int32) (hm : M_cellOf x0 x1 x2 = some r) : Met l yX10_cellOf (wz yX10_cellOf cX10_cellOf 3 (some .int)) rmM_cellOf (PwM E [.int x0, .int x1, .int x2] σ0 sz) (QiM E σ0 σ0 sz r) 0 0 (va_A (wldM E σ0) sz) := by
  refine enM (by decide) rfl (Nat.le_of_ble_eq_true rfl) (fun p e s m args below meth c cx hr hlk hml hsz ok hw ls hl => ?_)
  have hx := cx.1
  have hb := cx.2.1
  have hA9 := cx.2.2.2
  have hA : ∀ q, s.heap.size ≤ q → (va_A (wldM E σ0) sz) q := fun q h => Or.inr (by rw [← hsz]; exact h)
  have hl : lv_has ls 3 [(0, .int x0), (1, .int x1), (2, .int x2)] := hl
  unfold M_cellOf at hm
  have goal0 : ∀ (H : Heap) (locs : List Loc), wsM E σ0 (va_A (wldM E σ0) sz) s H locs → W p l e rmM_cellOf s m args below meth c H locs 0 0 (MQ below (QiM E σ0 σ0 sz r) args s 0 0 (va_A (wldM E σ0) sz)) (F0 m 0 ls []) := by
    intro H locs hw
    refine lv_sipush (v := (300 : Int32)) hx hb dX10_cellOf_0 (by decide) ?_
    refine lv_iload_n hx hb dX10_cellOf_3 rfl (lv_at hl 0 rfl) ?_
    refine lv_imul hx hb dX10_cellOf_4 ?_
    refine lv_iload_n hx hb dX10_cellOf_5 rfl (lv_at hl 2 rfl) ?_
    refine lv_iload_n hx hb dX10_cellOf_6 rfl (lv_at hl 2 rfl) ?_
    refine lv_iconst (v := (1 : Int32)) hx hb dX10_cellOf_7 (by decide) ?_
    refine lv_iadd hx hb dX10_cellOf_8 ?_
    refine lv_imul hx hb dX10_cellOf_9 ?_
    refine lv_iconst (v := (2 : Int32)) hx hb dX10_cellOf_10 (by decide) ?_
    refine lv_idiv hx hb dX10_cellOf_11 (by decide) ?_
    refine lv_iadd hx hb dX10_cellOf_12 ?_
    refine lv_iload_n hx hb dX10_cellOf_13 rfl (lv_at hl 1 rfl) ?_
    refine lv_iadd hx hb dX10_cellOf_14 ?_
    exact rtM_i cx hr hlk hw (pr_some hm) dX10_cellOf_15
  exact goal0 _ _ hw
theorem cwM_cellOf {R : Room} {s : State} {args : Array Value} (h : ∀ w ∈ wA, w.before args s = true) (hR : rmM_cellOf.frames + 1 ≤ R.frames ∧ 8 + (3 + 11) + rmM_cellOf.locals ≤ R.locals) : CallB R s args RX10 198 yX10_cellOf cX10_cellOf 3 (some .int) (wz yX10_cellOf cX10_cellOf 3 (some .int)) rmM_cellOf 0 0 3 ∧ (Cond.static yX10_cellOf).before args s = true := va_cwS 3 h (gdS k_1052 k_1053 k_11 k_1054) rfl rfl rfl (by decide +kernel) hR
/-! private int itemSize(int, int, int);: reads only -/
def M_itemSize (σ0 : St) (x1 : Int32) (x2 : Int32) (x3 : Int32) : Option Int32 :=
  if (100 : Int32) ≤ x1 then
    if x2 = x3 then
      gd (((24 : Int32) * (x1 - (100 : Int32))) + x2) 1920 <|
      if (σ0.1 31 (((24 : Int32) * (x1 - (100 : Int32))) + x2).toNatClampNeg) < 0 then
        some (0 : Int32)
      else
        some (1 : Int32)
    else
      some (0 : Int32)
  else
    bp (M_cellOf x1 x2 x3) fun r6 =>
    gd r6 7800 <|
    some (σ0.1 33 r6.toNatClampNeg)
abbrev rmM_itemSize : Room := { frames := 1, cells := 0, slots := 0, locals := 22 }
set_option maxHeartbeats 4000000 in
set_option maxRecDepth 100000 in
theorem cM_itemSize (l : Launch) (E : Ev) (sz : Nat) (σ0 : St) (x1 : Int32) (x2 : Int32) (x3 : Int32) (r : Int32) (hm : M_itemSize σ0 x1 x2 x3 = some r) : Met l yX10_itemSize (wz yX10_itemSize cX10_itemSize 4 (some .int)) rmM_itemSize (PwM E [.ref (E.2.2 1000), .int x1, .int x2, .int x3] σ0 sz) (QiM E σ0 σ0 sz r) 0 0 (va_A (wldM E σ0) sz) := by
  refine enM (by decide) rfl (Nat.le_of_ble_eq_true rfl) (fun p e s m args below meth c cx hr hlk hml hsz ok hw ls hl => ?_)
  have hx := cx.1
  have hb := cx.2.1
  have hA9 := cx.2.2.2
  have hA : ∀ q, s.heap.size ≤ q → (va_A (wldM E σ0) sz) q := fun q h => Or.inr (by rw [← hsz]; exact h)
  have hl : lv_has ls 4 [(0, .ref (E.2.2 1000)), (1, .int x1), (2, .int x2), (3, .int x3)] := hl
  unfold M_itemSize at hm
  have goal0 : ∀ (H : Heap) (locs : List Loc), wsM E σ0 (va_A (wldM E σ0) sz) s H locs → W p l e rmM_itemSize s m args below meth c H locs 0 0 (MQ below (QiM E σ0 σ0 sz r) args s 0 0 (va_A (wldM E σ0) sz)) (F0 m 0 ls []) := by
    intro H locs hw
    refine lv_iload_n hx hb dX10_itemSize_0 rfl (lv_at hl 1 rfl) ?_
    refine lv_bipush (v := (100 : Int32)) hx hb dX10_itemSize_1 (by decide) ?_
    refine lv_icmp_ge (tgt := 18) hx hb dX10_itemSize_3 (by decide) (fun c1 => ?_) (fun c1 => ?_)
    · have hm := if_t c1 hm
      refine lv_iload_n hx hb dX10_itemSize_18 rfl (lv_at hl 2 rfl) ?_
      refine lv_iload_n hx hb dX10_itemSize_19 rfl (lv_at hl 3 rfl) ?_
      refine lv_icmp_ne (tgt := 44) hx hb dX10_itemSize_20 (by decide) (fun c2 => ?_) (fun c2 => ?_)
      · have hm := if_f c2 hm
        refine lv_iconst (v := (0 : Int32)) hx hb dX10_itemSize_44 (by decide) ?_
        exact rtM_i cx hr hlk hw (pr_some hm) dX10_itemSize_45
      · have hm := if_t c2 hm
        refine lv_aload_n hx hb dX10_itemSize_23 rfl (lv_at hl 0 rfl) ?_
        refine gtM_31 cx ok hw dX10_itemSize_24 ?_
        refine lv_bipush (v := (24 : Int32)) hx hb dX10_itemSize_27 (by decide) ?_
        refine lv_iload_n hx hb dX10_itemSize_29 rfl (lv_at hl 1 rfl) ?_
        refine lv_bipush (v := (100 : Int32)) hx hb dX10_itemSize_30 (by decide) ?_
        refine lv_isub hx hb dX10_itemSize_32 ?_
        refine lv_imul hx hb dX10_itemSize_33 ?_
        refine lv_iload_n hx hb dX10_itemSize_34 rfl (lv_at hl 2 rfl) ?_
        refine lv_iadd hx hb dX10_itemSize_35 ?_
        obtain ⟨g3, hm⟩ := gd_ok hm
        refine ldM_31 cx ok hw g3 dX10_itemSize_36 ?_
        refine lv_if_lt (tgt := 44) hx hb dX10_itemSize_37 (by decide) (fun c4 => ?_) (fun c4 => ?_)
        · have hm := if_t c4 hm
          refine lv_iconst (v := (0 : Int32)) hx hb dX10_itemSize_44 (by decide) ?_
          exact rtM_i cx hr hlk hw (pr_some hm) dX10_itemSize_45
        · have hm := if_f c4 hm
          refine lv_iconst (v := (1 : Int32)) hx hb dX10_itemSize_40 (by decide) ?_
          refine lv_goto (tgt := 45) hx hb dX10_itemSize_41 (by decide) ?_
          exact rtM_i cx hr hlk hw (pr_some hm) dX10_itemSize_45
    · have hm := if_f c1 hm
      refine lv_aload_n hx hb dX10_itemSize_6 rfl (lv_at hl 0 rfl) ?_
      refine gtM_33 cx ok hw dX10_itemSize_7 ?_
      refine lv_iload_n hx hb dX10_itemSize_10 rfl (lv_at hl 1 rfl) ?_
      refine lv_iload_n hx hb dX10_itemSize_11 rfl (lv_at hl 2 rfl) ?_
      refine lv_iload_n hx hb dX10_itemSize_12 rfl (lv_at hl 3 rfl) ?_
      obtain ⟨r6, h5, hm⟩ := bp_ok hm
      refine clS_Mi (As := [.int x1, .int x2, .int x3]) (rest := [.ref (E.2.2 33)]) cx hml hl.1 ok hw hA (cM_cellOf l E _ σ0 x1 x2 x3 r6 h5) (cwM_cellOf hA9 ⟨Nat.le_of_ble_eq_true rfl, Nat.le_of_ble_eq_true rfl⟩) rfl rfl (Nat.le_of_ble_eq_true rfl) dX10_itemSize_13 (fun H locs hw => ?_)
      obtain ⟨g7, hm⟩ := gd_ok hm
      refine ldM_33 cx ok hw g7 dX10_itemSize_16 ?_
      exact rtM_i cx hr hlk hw (pr_some hm) dX10_itemSize_17
  exact goal0 _ _ hw
theorem cwM_itemSize {R : Room} {s : State} {args : Array Value} (h : ∀ w ∈ wA, w.before args s = true) (hR : rmM_itemSize.frames + 1 ≤ R.frames ∧ 8 + (4 + 11) + rmM_itemSize.locals ≤ R.locals) : CallW R s args RX10 RX10 201 yX10_itemSize cX10_itemSize 4 (some .int) (wz yX10_itemSize cX10_itemSize 4 (some .int)) rmM_itemSize 0 0 3 := cwV 3 h (gdV k_1059 k_1061 ks_63 k_11 k_1062) rfl rfl rfl (by decide +kernel) hR
/-! private long itemCount(int, int, int);: reads only -/
def M_itemCount (σ0 : St) (x1 : Int32) (x2 : Int32) (x3 : Int32) : Option Int64 :=
  if (100 : Int32) ≤ x1 then
    bp (M_itemSize σ0 x1 x2 x3) fun r3 =>
    some (r3.toInt64)
  else
    bp (M_cellOf x1 x2 x3) fun r5 =>
    gd r5 7800 <|
    some (σ0.2 34 r5.toNatClampNeg)
abbrev rmM_itemCount : Room := { frames := 2, cells := 0, slots := 0, locals := 45 }
set_option maxHeartbeats 4000000 in
set_option maxRecDepth 100000 in
theorem cM_itemCount (l : Launch) (E : Ev) (sz : Nat) (σ0 : St) (x1 : Int32) (x2 : Int32) (x3 : Int32) (r : Int64) (hm : M_itemCount σ0 x1 x2 x3 = some r) : Met l yX10_itemCount (wz yX10_itemCount cX10_itemCount 4 (some .long)) rmM_itemCount (PwM E [.ref (E.2.2 1000), .int x1, .int x2, .int x3] σ0 sz) (QlM E σ0 σ0 sz r) 0 0 (va_A (wldM E σ0) sz) := by
  refine enM (by decide) rfl (Nat.le_of_ble_eq_true rfl) (fun p e s m args below meth c cx hr hlk hml hsz ok hw ls hl => ?_)
  have hx := cx.1
  have hb := cx.2.1
  have hA9 := cx.2.2.2
  have hA : ∀ q, s.heap.size ≤ q → (va_A (wldM E σ0) sz) q := fun q h => Or.inr (by rw [← hsz]; exact h)
  have hl : lv_has ls 4 [(0, .ref (E.2.2 1000)), (1, .int x1), (2, .int x2), (3, .int x3)] := hl
  unfold M_itemCount at hm
  have goal0 : ∀ (H : Heap) (locs : List Loc), wsM E σ0 (va_A (wldM E σ0) sz) s H locs → W p l e rmM_itemCount s m args below meth c H locs 0 0 (MQ below (QlM E σ0 σ0 sz r) args s 0 0 (va_A (wldM E σ0) sz)) (F0 m 0 ls []) := by
    intro H locs hw
    refine lv_iload_n hx hb dX10_itemCount_0 rfl (lv_at hl 1 rfl) ?_
    refine lv_bipush (v := (100 : Int32)) hx hb dX10_itemCount_1 (by decide) ?_
    refine lv_icmp_ge (tgt := 20) hx hb dX10_itemCount_3 (by decide) (fun c1 => ?_) (fun c1 => ?_)
    · have hm := if_t c1 hm
      refine lv_aload_n hx hb dX10_itemCount_20 rfl (lv_at hl 0 rfl) ?_
      refine lv_iload_n hx hb dX10_itemCount_21 rfl (lv_at hl 1 rfl) ?_
      refine lv_iload_n hx hb dX10_itemCount_22 rfl (lv_at hl 2 rfl) ?_
      refine lv_iload_n hx hb dX10_itemCount_23 rfl (lv_at hl 3 rfl) ?_
      obtain ⟨r3, h2, hm⟩ := bp_ok hm
      refine clV_Mi (As := [.int x1, .int x2, .int x3]) (rest := []) cx hml hl.1 ok hw hA (cM_itemSize l E _ σ0 x1 x2 x3 r3 h2) (cwM_itemSize hA9 ⟨Nat.le_of_ble_eq_true rfl, Nat.le_of_ble_eq_true rfl⟩) rfl rfl (Nat.le_of_ble_eq_true rfl) dX10_itemCount_24 (fun H locs hw => ?_)
      refine lv_i2l hx hb dX10_itemCount_27 rfl ?_
      exact rtM_l cx hr hlk hw (pr_some hm) dX10_itemCount_28
    · have hm := if_f c1 hm
      refine lv_aload_n hx hb dX10_itemCount_6 rfl (lv_at hl 0 rfl) ?_
      refine gtM_34 cx ok hw dX10_itemCount_7 ?_
      refine lv_iload_n hx hb dX10_itemCount_10 rfl (lv_at hl 1 rfl) ?_
      refine lv_iload_n hx hb dX10_itemCount_11 rfl (lv_at hl 2 rfl) ?_
      refine lv_iload_n hx hb dX10_itemCount_12 rfl (lv_at hl 3 rfl) ?_
      obtain ⟨r5, h4, hm⟩ := bp_ok hm
      refine clS_Mi (As := [.int x1, .int x2, .int x3]) (rest := [.ref (E.2.2 34)]) cx hml hl.1 ok hw hA (cM_cellOf l E _ σ0 x1 x2 x3 r5 h4) (cwM_cellOf hA9 ⟨Nat.le_of_ble_eq_true rfl, Nat.le_of_ble_eq_true rfl⟩) rfl rfl (Nat.le_of_ble_eq_true rfl) dX10_itemCount_13 (fun H locs hw => ?_)
      obtain ⟨g6, hm⟩ := gd_ok hm
      refine ldM_34 cx ok hw g6 dX10_itemCount_16 ?_
      refine lv_goto (tgt := 28) hx hb dX10_itemCount_17 (by decide) ?_
      exact rtM_l cx hr hlk hw (pr_some hm) dX10_itemCount_28
  exact goal0 _ _ hw
theorem cwM_itemCount {R : Room} {s : State} {args : Array Value} (h : ∀ w ∈ wA, w.before args s = true) (hR : rmM_itemCount.frames + 1 ≤ R.frames ∧ 8 + (4 + 11) + rmM_itemCount.locals ≤ R.locals) : CallW R s args RX10 RX10 204 yX10_itemCount cX10_itemCount 4 (some .long) (wz yX10_itemCount cX10_itemCount 4 (some .long)) rmM_itemCount 0 0 3 := cwV 3 h (gdV k_1063 k_1065 ks_64 k_11 k_1066) rfl rfl rfl (by decide +kernel) hR
/-! private int itemCost(int, int, int, int);: reads only -/
def M_itemCost (σ0 : St) (x1 : Int32) (x2 : Int32) (x3 : Int32) (x4 : Int32) : Option Int32 :=
  if (100 : Int32) ≤ x1 then
    gd (((24 : Int32) * (x1 - (100 : Int32))) + x2) 1920 <|
    some (σ0.1 32 (((24 : Int32) * (x1 - (100 : Int32))) + x2).toNatClampNeg)
  else
    bp (M_cellOf x1 x2 x3) fun r4 =>
    gd (((30 : Int32) * r4) + x4) 234000 <|
    some (σ0.1 35 (((30 : Int32) * r4) + x4).toNatClampNeg)
abbrev rmM_itemCost : Room := { frames := 1, cells := 0, slots := 0, locals := 22 }
set_option maxHeartbeats 4000000 in
set_option maxRecDepth 100000 in
theorem cM_itemCost (l : Launch) (E : Ev) (sz : Nat) (σ0 : St) (x1 : Int32) (x2 : Int32) (x3 : Int32) (x4 : Int32) (r : Int32) (hm : M_itemCost σ0 x1 x2 x3 x4 = some r) : Met l yX10_itemCost (wz yX10_itemCost cX10_itemCost 5 (some .int)) rmM_itemCost (PwM E [.ref (E.2.2 1000), .int x1, .int x2, .int x3, .int x4] σ0 sz) (QiM E σ0 σ0 sz r) 0 0 (va_A (wldM E σ0) sz) := by
  refine enM (by decide) rfl (Nat.le_of_ble_eq_true rfl) (fun p e s m args below meth c cx hr hlk hml hsz ok hw ls hl => ?_)
  have hx := cx.1
  have hb := cx.2.1
  have hA9 := cx.2.2.2
  have hA : ∀ q, s.heap.size ≤ q → (va_A (wldM E σ0) sz) q := fun q h => Or.inr (by rw [← hsz]; exact h)
  have hl : lv_has ls 5 [(0, .ref (E.2.2 1000)), (1, .int x1), (2, .int x2), (3, .int x3), (4, .int x4)] := hl
  unfold M_itemCost at hm
  have goal0 : ∀ (H : Heap) (locs : List Loc), wsM E σ0 (va_A (wldM E σ0) sz) s H locs → W p l e rmM_itemCost s m args below meth c H locs 0 0 (MQ below (QiM E σ0 σ0 sz r) args s 0 0 (va_A (wldM E σ0) sz)) (F0 m 0 ls []) := by
    intro H locs hw
    refine lv_iload_n hx hb dX10_itemCost_0 rfl (lv_at hl 1 rfl) ?_
    refine lv_bipush (v := (100 : Int32)) hx hb dX10_itemCost_1 (by decide) ?_
    refine lv_icmp_ge (tgt := 26) hx hb dX10_itemCost_3 (by decide) (fun c1 => ?_) (fun c1 => ?_)
    · have hm := if_t c1 hm
      refine lv_aload_n hx hb dX10_itemCost_26 rfl (lv_at hl 0 rfl) ?_
      refine gtM_32 cx ok hw dX10_itemCost_27 ?_
      refine lv_bipush (v := (24 : Int32)) hx hb dX10_itemCost_30 (by decide) ?_
      refine lv_iload_n hx hb dX10_itemCost_32 rfl (lv_at hl 1 rfl) ?_
      refine lv_bipush (v := (100 : Int32)) hx hb dX10_itemCost_33 (by decide) ?_
      refine lv_isub hx hb dX10_itemCost_35 ?_
      refine lv_imul hx hb dX10_itemCost_36 ?_
      refine lv_iload_n hx hb dX10_itemCost_37 rfl (lv_at hl 2 rfl) ?_
      refine lv_iadd hx hb dX10_itemCost_38 ?_
      obtain ⟨g2, hm⟩ := gd_ok hm
      refine ldM_32 cx ok hw g2 dX10_itemCost_39 ?_
      exact rtM_i cx hr hlk hw (pr_some hm) dX10_itemCost_40
    · have hm := if_f c1 hm
      refine lv_aload_n hx hb dX10_itemCost_6 rfl (lv_at hl 0 rfl) ?_
      refine gtM_35 cx ok hw dX10_itemCost_7 ?_
      refine lv_bipush (v := (30 : Int32)) hx hb dX10_itemCost_10 (by decide) ?_
      refine lv_iload_n hx hb dX10_itemCost_12 rfl (lv_at hl 1 rfl) ?_
      refine lv_iload_n hx hb dX10_itemCost_13 rfl (lv_at hl 2 rfl) ?_
      refine lv_iload_n hx hb dX10_itemCost_14 rfl (lv_at hl 3 rfl) ?_
      obtain ⟨r4, h3, hm⟩ := bp_ok hm
      refine clS_Mi (As := [.int x1, .int x2, .int x3]) (rest := [.int (30 : Int32), .ref (E.2.2 35)]) cx hml hl.1 ok hw hA (cM_cellOf l E _ σ0 x1 x2 x3 r4 h3) (cwM_cellOf hA9 ⟨Nat.le_of_ble_eq_true rfl, Nat.le_of_ble_eq_true rfl⟩) rfl rfl (Nat.le_of_ble_eq_true rfl) dX10_itemCost_15 (fun H locs hw => ?_)
      refine lv_imul hx hb dX10_itemCost_18 ?_
      refine lv_iload hx hb dX10_itemCost_19 (lv_at hl 4 rfl) ?_
      refine lv_iadd hx hb dX10_itemCost_21 ?_
      obtain ⟨g5, hm⟩ := gd_ok hm
      refine ldM_35 cx ok hw g5 dX10_itemCost_22 ?_
      refine lv_goto (tgt := 40) hx hb dX10_itemCost_23 (by decide) ?_
      exact rtM_i cx hr hlk hw (pr_some hm) dX10_itemCost_40
  exact goal0 _ _ hw
theorem cwM_itemCost {R : Room} {s : State} {args : Array Value} (h : ∀ w ∈ wA, w.before args s = true) (hR : rmM_itemCost.frames + 1 ≤ R.frames ∧ 8 + (5 + 11) + rmM_itemCost.locals ≤ R.locals) : CallW R s args RX10 RX10 208 yX10_itemCost cX10_itemCost 5 (some .int) (wz yX10_itemCost cX10_itemCost 5 (some .int)) rmM_itemCost 0 0 4 := cwV 4 h (gdV k_1067 k_1069 ks_65 k_11 k_1070) rfl rfl rfl (by decide +kernel) hR
/-! private boolean comes(int, int, int);: writes, loops -/
def M_comes_b192 (n : Nat) (σ : St) (x1 : Int32) (x2 : Int32) (x3 : Int32) (x4 : Int32) (x5 : Int32) (x6 : Int32) : Option (Int32 × St) :=
  gd (x5 + x6) 234000 <|
  lt (sI σ 35 (x5 + x6).toNatClampNeg x2) fun σ2 =>
  gd (x5 + x6) 234000 <|
  lt (sI σ2 36 (x5 + x6).toNatClampNeg x3) fun σ5 =>
  if x4 = (30 : Int32) then
    gd x1 7800 <|
    lt (sI σ5 33 x1.toNatClampNeg x4) fun σ12 =>
    some ((1 : Int32), σ12)
  else
    gd x1 7800 <|
    lt (sI σ5 33 x1.toNatClampNeg (x4 + (1 : Int32))) fun σ9 =>
    some ((1 : Int32), σ9)
def M_comes_b142 (n : Nat) (k89 : St → Int32 → Int32 → Int32 → Int32 → Int32 → Int32 → Option (Int32 × St)) (σ : St) (x1 : Int32) (x2 : Int32) (x3 : Int32) (x4 : Int32) (x5 : Int32) (x6 : Int32) : Option (Int32 × St) :=
  gd ((x5 + x6) - (1 : Int32)) 234000 <|
  gd (x5 + x6) 234000 <|
  lt (sI σ 35 (x5 + x6).toNatClampNeg (σ.1 35 ((x5 + x6) - (1 : Int32)).toNatClampNeg)) fun σ3 =>
  gd ((x5 + x6) - (1 : Int32)) 234000 <|
  gd (x5 + x6) 234000 <|
  lt (sI σ3 36 (x5 + x6).toNatClampNeg (σ3.1 36 ((x5 + x6) - (1 : Int32)).toNatClampNeg)) fun σ7 =>
  lt (x6 + (-1 : Int32)) fun x6_9 =>
  k89 σ7 x1 x2 x3 x4 x5 x6_9
def M_comes_l89 (n : Nat) : Nat → St → Int32 → Int32 → Int32 → Int32 → Int32 → Int32 → Option (Int32 × St)
  | 0, _, _, _, _, _, _, _ => none
  | f + 1, σ, x1, x2, x3, x4, x5, x6 =>
    if x6 ≤ 0 then
      M_comes_b192 n σ x1 x2 x3 x4 x5 x6
    else
      gd ((x5 + x6) - (1 : Int32)) 234000 <|
      if x2 < (σ.1 35 ((x5 + x6) - (1 : Int32)).toNatClampNeg) then
        M_comes_b142 n (M_comes_l89 n f) σ x1 x2 x3 x4 x5 x6
      else
        gd ((x5 + x6) - (1 : Int32)) 234000 <|
        if (σ.1 35 ((x5 + x6) - (1 : Int32)).toNatClampNeg) = x2 then
          gd ((x5 + x6) - (1 : Int32)) 234000 <|
          if (σ.1 36 ((x5 + x6) - (1 : Int32)).toNatClampNeg) ≤ x3 then
            M_comes_b192 n σ x1 x2 x3 x4 x5 x6
          else
            M_comes_b142 n (M_comes_l89 n f) σ x1 x2 x3 x4 x5 x6
        else
          M_comes_b192 n σ x1 x2 x3 x4 x5 x6
def M_comes (n : Nat) (σ0 : St) (x1 : Int32) (x2 : Int32) (x3 : Int32) : Option (Int32 × St) :=
  gd x1 7800 <|
  lt ((σ0.1 33 x1.toNatClampNeg)) fun x4_2 =>
  lt (((30 : Int32) * x1)) fun x5_4 =>
  if x4_2 = (30 : Int32) then
    gd ((x5_4 + x4_2) - (1 : Int32)) 234000 <|
    if (σ0.1 35 ((x5_4 + x4_2) - (1 : Int32)).toNatClampNeg) < x2 then
      some ((0 : Int32), σ0)
    else
      gd ((x5_4 + x4_2) - (1 : Int32)) 234000 <|
      if (σ0.1 35 ((x5_4 + x4_2) - (1 : Int32)).toNatClampNeg) = x2 then
        gd ((x5_4 + x4_2) - (1 : Int32)) 234000 <|
        if x3 ≤ (σ0.1 36 ((x5_4 + x4_2) - (1 : Int32)).toNatClampNeg) then
          if x4_2 = (30 : Int32) then
            lt ((x4_2 - (1 : Int32))) fun x6_20 =>
            M_comes_l89 n n σ0 x1 x2 x3 x4_2 x5_4 x6_20
          else
            M_comes_l89 n n σ0 x1 x2 x3 x4_2 x5_4 x4_2
        else
          some ((0 : Int32), σ0)
      else
        if x4_2 = (30 : Int32) then
          lt ((x4_2 - (1 : Int32))) fun x6_15 =>
          M_comes_l89 n n σ0 x1 x2 x3 x4_2 x5_4 x6_15
        else
          M_comes_l89 n n σ0 x1 x2 x3 x4_2 x5_4 x4_2
  else
    if x4_2 = (30 : Int32) then
      lt ((x4_2 - (1 : Int32))) fun x6_8 =>
      M_comes_l89 n n σ0 x1 x2 x3 x4_2 x5_4 x6_8
    else
      M_comes_l89 n n σ0 x1 x2 x3 x4_2 x5_4 x4_2
abbrev rmM_comes : Room := { frames := 0, cells := 0, slots := 0, locals := 0 }
set_option maxHeartbeats 4000000 in
set_option maxRecDepth 100000 in
theorem cM_comes (l : Launch) (E : Ev) (n : Nat) (sz : Nat) (σ0 σ' : St) (x1 : Int32) (x2 : Int32) (x3 : Int32) (r : Int32) (hm : M_comes n σ0 x1 x2 x3 = some (r, σ')) : Met l yX10_comes (wz yX10_comes cX10_comes 7 (some .boolean)) rmM_comes (PwM E [.ref (E.2.2 1000), .int x1, .int x2, .int x3] σ0 sz) (QiM E σ0 σ' sz r) 0 0 (va_A (wldM E σ0) sz) := by
  refine enM (by decide) rfl (Nat.le_of_ble_eq_true rfl) (fun p e s m args below meth c cx hr hlk hml hsz ok hw ls hl => ?_)
  have hx := cx.1
  have hb := cx.2.1
  have hA9 := cx.2.2.2
  have hA : ∀ q, s.heap.size ≤ q → (va_A (wldM E σ0) sz) q := fun q h => Or.inr (by rw [← hsz]; exact h)
  have w_192 : ∀ (σ : St) (x1 : Int32) (x2 : Int32) (x3 : Int32) (x4 : Int32) (x5 : Int32) (x6 : Int32) (H : Heap) (locs : List Loc) (ls : Array Slot), wsM E σ (va_A (wldM E σ0) sz) s H locs → lv_has ls 7 [(0, .ref (E.2.2 1000)), (1, .int x1), (2, .int x2), (3, .int x3), (4, .int x4), (5, .int x5), (6, .int x6)] → M_comes_b192 n σ x1 x2 x3 x4 x5 x6 = some (r, σ') → W p l e rmM_comes s m args below meth c H locs 0 0 (MQ below (QiM E σ0 σ' sz r) args s 0 0 (va_A (wldM E σ0) sz)) (F0 m 192 ls []) := by
    intro σ x1 x2 x3 x4 x5 x6 H locs ls hw hl hm
    unfold M_comes_b192 at hm
    refine lv_aload_n hx hb dX10_comes_192 rfl (lv_at hl 0 rfl) ?_
    refine gtM_35 cx ok hw dX10_comes_193 ?_
    refine lv_iload hx hb dX10_comes_196 (lv_at hl 5 rfl) ?_
    refine lv_iload hx hb dX10_comes_198 (lv_at hl 6 rfl) ?_
    refine lv_iadd hx hb dX10_comes_200 ?_
    refine lv_iload_n hx hb dX10_comes_201 rfl (lv_at hl 2 rfl) ?_
    obtain ⟨g1, hm⟩ := gd_ok hm
    refine stM_35 cx ok hw g1 dX10_comes_202 (fun H locs hw => ?_)
    obtain ⟨σ2, e3, hm⟩ := lt_ok hm
    have hw := wsM_eq e3 hw
    refine lv_aload_n hx hb dX10_comes_203 rfl (lv_at hl 0 rfl) ?_
    refine gtM_36 cx ok hw dX10_comes_204 ?_
    refine lv_iload hx hb dX10_comes_207 (lv_at hl 5 rfl) ?_
    refine lv_iload hx hb dX10_comes_209 (lv_at hl 6 rfl) ?_
    refine lv_iadd hx hb dX10_comes_211 ?_
    refine lv_iload_n hx hb dX10_comes_212 rfl (lv_at hl 3 rfl) ?_
    obtain ⟨g4, hm⟩ := gd_ok hm
    refine stM_36 cx ok hw g4 dX10_comes_213 (fun H locs hw => ?_)
    obtain ⟨σ5, e6, hm⟩ := lt_ok hm
    have hw := wsM_eq e6 hw
    refine lv_aload_n hx hb dX10_comes_214 rfl (lv_at hl 0 rfl) ?_
    refine gtM_33 cx ok hw dX10_comes_215 ?_
    refine lv_iload_n hx hb dX10_comes_218 rfl (lv_at hl 1 rfl) ?_
    refine lv_iload hx hb dX10_comes_219 (lv_at hl 4 rfl) ?_
    refine lv_bipush (v := (30 : Int32)) hx hb dX10_comes_221 (by decide) ?_
    refine lv_icmp_ne (tgt := 231) hx hb dX10_comes_223 (by decide) (fun c7 => ?_) (fun c7 => ?_)
    · have hm := if_f c7 hm
      refine lv_iload hx hb dX10_comes_231 (lv_at hl 4 rfl) ?_
      refine lv_iconst (v := (1 : Int32)) hx hb dX10_comes_233 (by decide) ?_
      refine lv_iadd hx hb dX10_comes_234 ?_
      obtain ⟨g8, hm⟩ := gd_ok hm
      refine stM_33 cx ok hw g8 dX10_comes_235 (fun H locs hw => ?_)
      obtain ⟨σ9, e10, hm⟩ := lt_ok hm
      have hw := wsM_eq e10 hw
      refine lv_iconst (v := (1 : Int32)) hx hb dX10_comes_236 (by decide) ?_
      exact rtM_z cx hr hlk hw (by decide) hm dX10_comes_237
    · have hm := if_t c7 hm
      refine lv_iload hx hb dX10_comes_226 (lv_at hl 4 rfl) ?_
      refine lv_goto (tgt := 235) hx hb dX10_comes_228 (by decide) ?_
      obtain ⟨g11, hm⟩ := gd_ok hm
      refine stM_33 cx ok hw g11 dX10_comes_235 (fun H locs hw => ?_)
      obtain ⟨σ12, e13, hm⟩ := lt_ok hm
      have hw := wsM_eq e13 hw
      refine lv_iconst (v := (1 : Int32)) hx hb dX10_comes_236 (by decide) ?_
      exact rtM_z cx hr hlk hw (by decide) hm dX10_comes_237
  have w_142 : ∀ (k89 : St → Int32 → Int32 → Int32 → Int32 → Int32 → Int32 → Option (Int32 × St)) (hk89 : ∀ (σ : St) (x1 : Int32) (x2 : Int32) (x3 : Int32) (x4 : Int32) (x5 : Int32) (x6 : Int32) (H : Heap) (locs : List Loc) (ls : Array Slot), wsM E σ (va_A (wldM E σ0) sz) s H locs → lv_has ls 7 [(0, .ref (E.2.2 1000)), (1, .int x1), (2, .int x2), (3, .int x3), (4, .int x4), (5, .int x5), (6, .int x6)] → k89 σ x1 x2 x3 x4 x5 x6 = some (r, σ') → W p l e rmM_comes s m args below meth c H locs 0 0 (MQ below (QiM E σ0 σ' sz r) args s 0 0 (va_A (wldM E σ0) sz)) (F0 m 89 ls [])), ∀ (σ : St) (x1 : Int32) (x2 : Int32) (x3 : Int32) (x4 : Int32) (x5 : Int32) (x6 : Int32) (H : Heap) (locs : List Loc) (ls : Array Slot), wsM E σ (va_A (wldM E σ0) sz) s H locs → lv_has ls 7 [(0, .ref (E.2.2 1000)), (1, .int x1), (2, .int x2), (3, .int x3), (4, .int x4), (5, .int x5), (6, .int x6)] → M_comes_b142 n k89 σ x1 x2 x3 x4 x5 x6 = some (r, σ') → W p l e rmM_comes s m args below meth c H locs 0 0 (MQ below (QiM E σ0 σ' sz r) args s 0 0 (va_A (wldM E σ0) sz)) (F0 m 142 ls []) := by
    intro k89 hk89 σ x1 x2 x3 x4 x5 x6 H locs ls hw hl hm
    unfold M_comes_b142 at hm
    refine lv_aload_n hx hb dX10_comes_142 rfl (lv_at hl 0 rfl) ?_
    refine gtM_35 cx ok hw dX10_comes_143 ?_
    refine lv_iload hx hb dX10_comes_146 (lv_at hl 5 rfl) ?_
    refine lv_iload hx hb dX10_comes_148 (lv_at hl 6 rfl) ?_
    refine lv_iadd hx hb dX10_comes_150 ?_
    refine lv_aload_n hx hb dX10_comes_151 rfl (lv_at hl 0 rfl) ?_
    refine gtM_35 cx ok hw dX10_comes_152 ?_
    refine lv_iload hx hb dX10_comes_155 (lv_at hl 5 rfl) ?_
    refine lv_iload hx hb dX10_comes_157 (lv_at hl 6 rfl) ?_
    refine lv_iadd hx hb dX10_comes_159 ?_
    refine lv_iconst (v := (1 : Int32)) hx hb dX10_comes_160 (by decide) ?_
    refine lv_isub hx hb dX10_comes_161 ?_
    obtain ⟨g1, hm⟩ := gd_ok hm
    refine ldM_35 cx ok hw g1 dX10_comes_162 ?_
    obtain ⟨g2, hm⟩ := gd_ok hm
    refine stM_35 cx ok hw g2 dX10_comes_163 (fun H locs hw => ?_)
    obtain ⟨σ3, e4, hm⟩ := lt_ok hm
    have hw := wsM_eq e4 hw
    refine lv_aload_n hx hb dX10_comes_164 rfl (lv_at hl 0 rfl) ?_
    refine gtM_36 cx ok hw dX10_comes_165 ?_
    refine lv_iload hx hb dX10_comes_168 (lv_at hl 5 rfl) ?_
    refine lv_iload hx hb dX10_comes_170 (lv_at hl 6 rfl) ?_
    refine lv_iadd hx hb dX10_comes_172 ?_
    refine lv_aload_n hx hb dX10_comes_173 rfl (lv_at hl 0 rfl) ?_
    refine gtM_36 cx ok hw dX10_comes_174 ?_
    refine lv_iload hx hb dX10_comes_177 (lv_at hl 5 rfl) ?_
    refine lv_iload hx hb dX10_comes_179 (lv_at hl 6 rfl) ?_
    refine lv_iadd hx hb dX10_comes_181 ?_
    refine lv_iconst (v := (1 : Int32)) hx hb dX10_comes_182 (by decide) ?_
    refine lv_isub hx hb dX10_comes_183 ?_
    obtain ⟨g5, hm⟩ := gd_ok hm
    refine ldM_36 cx ok hw g5 dX10_comes_184 ?_
    obtain ⟨g6, hm⟩ := gd_ok hm
    refine stM_36 cx ok hw g6 dX10_comes_185 (fun H locs hw => ?_)
    obtain ⟨σ7, e8, hm⟩ := lt_ok hm
    have hw := wsM_eq e8 hw
    obtain ⟨x6_9, e10, hm⟩ := lt_ok hm
    refine lv_iinc (v := x6_9) (lv' := [(6, .int x6_9), (0, .ref (E.2.2 1000)), (1, .int x1), (2, .int x2), (3, .int x3), (4, .int x4), (5, .int x5)]) hx hb dX10_comes_186 hl (k := 6) rfl (by rw [e10]; rfl) (by decide) rfl (fun ls hl => ?_)
    refine lv_goto (tgt := 89) hx hb dX10_comes_189 (by decide) ?_
    exact hk89 σ7 x1 x2 x3 x4 x5 x6_9 H locs ls hw (lv_sub hl [1, 2, 3, 4, 5, 6, 0] rfl) hm
  have w_89 : ∀ (f : Nat), ∀ (σ : St) (x1 : Int32) (x2 : Int32) (x3 : Int32) (x4 : Int32) (x5 : Int32) (x6 : Int32) (H : Heap) (locs : List Loc) (ls : Array Slot), wsM E σ (va_A (wldM E σ0) sz) s H locs → lv_has ls 7 [(0, .ref (E.2.2 1000)), (1, .int x1), (2, .int x2), (3, .int x3), (4, .int x4), (5, .int x5), (6, .int x6)] → M_comes_l89 n f σ x1 x2 x3 x4 x5 x6 = some (r, σ') → W p l e rmM_comes s m args below meth c H locs 0 0 (MQ below (QiM E σ0 σ' sz r) args s 0 0 (va_A (wldM E σ0) sz)) (F0 m 89 ls []) := by
    intro f
    induction f with
    | zero =>
      intro σ x1 x2 x3 x4 x5 x6 H locs ls hw hl hm
      rw [M_comes_l89] at hm
      cases hm
    | succ f ih =>
      intro σ x1 x2 x3 x4 x5 x6 H locs ls hw hl hm
      rw [M_comes_l89] at hm
      refine lv_iload hx hb dX10_comes_89 (lv_at hl 6 rfl) ?_
      refine lv_if_le (tgt := 192) hx hb dX10_comes_91 (by decide) (fun c1 => ?_) (fun c1 => ?_)
      · have hm := if_t c1 hm
        exact w_192 σ x1 x2 x3 x4 x5 x6 H locs ls hw (lv_sub hl [0, 1, 2, 3, 4, 5, 6] rfl) hm
      · have hm := if_f c1 hm
        refine lv_aload_n hx hb dX10_comes_94 rfl (lv_at hl 0 rfl) ?_
        refine gtM_35 cx ok hw dX10_comes_95 ?_
        refine lv_iload hx hb dX10_comes_98 (lv_at hl 5 rfl) ?_
        refine lv_iload hx hb dX10_comes_100 (lv_at hl 6 rfl) ?_
        refine lv_iadd hx hb dX10_comes_102 ?_
        refine lv_iconst (v := (1 : Int32)) hx hb dX10_comes_103 (by decide) ?_
        refine lv_isub hx hb dX10_comes_104 ?_
        obtain ⟨g2, hm⟩ := gd_ok hm
        refine ldM_35 cx ok hw g2 dX10_comes_105 ?_
        refine lv_iload_n hx hb dX10_comes_106 rfl (lv_at hl 2 rfl) ?_
        refine lv_icmp_gt (tgt := 142) hx hb dX10_comes_107 (by decide) (fun c3 => ?_) (fun c3 => ?_)
        · have hm := if_t c3 hm
          exact w_142 (M_comes_l89 n f) ih σ x1 x2 x3 x4 x5 x6 H locs ls hw (lv_sub hl [0, 1, 2, 3, 4, 5, 6] rfl) hm
        · have hm := if_f c3 hm
          refine lv_aload_n hx hb dX10_comes_110 rfl (lv_at hl 0 rfl) ?_
          refine gtM_35 cx ok hw dX10_comes_111 ?_
          refine lv_iload hx hb dX10_comes_114 (lv_at hl 5 rfl) ?_
          refine lv_iload hx hb dX10_comes_116 (lv_at hl 6 rfl) ?_
          refine lv_iadd hx hb dX10_comes_118 ?_
          refine lv_iconst (v := (1 : Int32)) hx hb dX10_comes_119 (by decide) ?_
          refine lv_isub hx hb dX10_comes_120 ?_
          obtain ⟨g4, hm⟩ := gd_ok hm
          refine ldM_35 cx ok hw g4 dX10_comes_121 ?_
          refine lv_iload_n hx hb dX10_comes_122 rfl (lv_at hl 2 rfl) ?_
          refine lv_icmp_ne (tgt := 192) hx hb dX10_comes_123 (by decide) (fun c5 => ?_) (fun c5 => ?_)
          · have hm := if_f c5 hm
            exact w_192 σ x1 x2 x3 x4 x5 x6 H locs ls hw (lv_sub hl [0, 1, 2, 3, 4, 5, 6] rfl) hm
          · have hm := if_t c5 hm
            refine lv_aload_n hx hb dX10_comes_126 rfl (lv_at hl 0 rfl) ?_
            refine gtM_36 cx ok hw dX10_comes_127 ?_
            refine lv_iload hx hb dX10_comes_130 (lv_at hl 5 rfl) ?_
            refine lv_iload hx hb dX10_comes_132 (lv_at hl 6 rfl) ?_
            refine lv_iadd hx hb dX10_comes_134 ?_
            refine lv_iconst (v := (1 : Int32)) hx hb dX10_comes_135 (by decide) ?_
            refine lv_isub hx hb dX10_comes_136 ?_
            obtain ⟨g6, hm⟩ := gd_ok hm
            refine ldM_36 cx ok hw g6 dX10_comes_137 ?_
            refine lv_iload_n hx hb dX10_comes_138 rfl (lv_at hl 3 rfl) ?_
            refine lv_icmp_le (tgt := 192) hx hb dX10_comes_139 (by decide) (fun c7 => ?_) (fun c7 => ?_)
            · have hm := if_t c7 hm
              exact w_192 σ x1 x2 x3 x4 x5 x6 H locs ls hw (lv_sub hl [0, 1, 2, 3, 4, 5, 6] rfl) hm
            · have hm := if_f c7 hm
              exact w_142 (M_comes_l89 n f) ih σ x1 x2 x3 x4 x5 x6 H locs ls hw (lv_sub hl [0, 1, 2, 3, 4, 5, 6] rfl) hm
  have hl : lv_has ls 7 [(0, .ref (E.2.2 1000)), (1, .int x1), (2, .int x2), (3, .int x3)] := hl
  unfold M_comes at hm
  have goal0 : ∀ (H : Heap) (locs : List Loc), wsM E σ0 (va_A (wldM E σ0) sz) s H locs → W p l e rmM_comes s m args below meth c H locs 0 0 (MQ below (QiM E σ0 σ' sz r) args s 0 0 (va_A (wldM E σ0) sz)) (F0 m 0 ls []) := by
    intro H locs hw
    refine lv_aload_n hx hb dX10_comes_0 rfl (lv_at hl 0 rfl) ?_
    refine gtM_33 cx ok hw dX10_comes_1 ?_
    refine lv_iload_n hx hb dX10_comes_4 rfl (lv_at hl 1 rfl) ?_
    obtain ⟨g1, hm⟩ := gd_ok hm
    refine ldM_33 cx ok hw g1 dX10_comes_5 ?_
    obtain ⟨x4_2, e3, hm⟩ := lt_ok hm
    refine ti_eq e3 ?_
    refine lv_istore (lv' := [(4, .int x4_2), (0, .ref (E.2.2 1000)), (1, .int x1), (2, .int x2), (3, .int x3)]) hx hb dX10_comes_6 hl (by decide) rfl (fun ls hl => ?_)
    refine lv_bipush (v := (30 : Int32)) hx hb dX10_comes_8 (by decide) ?_
    refine lv_iload_n hx hb dX10_comes_10 rfl (lv_at hl 2 rfl) ?_
    refine lv_imul hx hb dX10_comes_11 ?_
    obtain ⟨x5_4, e5, hm⟩ := lt_ok hm
    refine ti_eq e5 ?_
    refine lv_istore (lv' := [(5, .int x5_4), (4, .int x4_2), (0, .ref (E.2.2 1000)), (1, .int x1), (2, .int x2), (3, .int x3)]) hx hb dX10_comes_12 hl (by decide) rfl (fun ls hl => ?_)
    refine lv_iload hx hb dX10_comes_14 (lv_at hl 1 rfl) ?_
    refine lv_bipush (v := (30 : Int32)) hx hb dX10_comes_16 (by decide) ?_
    refine lv_icmp_ne (tgt := 71) hx hb dX10_comes_18 (by decide) (fun c6 => ?_) (fun c6 => ?_)
    · have hm := if_f c6 hm
      refine lv_iload hx hb dX10_comes_71 (lv_at hl 1 rfl) ?_
      refine lv_bipush (v := (30 : Int32)) hx hb dX10_comes_73 (by decide) ?_
      refine lv_icmp_ne (tgt := 85) hx hb dX10_comes_75 (by decide) (fun c7 => ?_) (fun c7 => ?_)
      · have hm := if_f c7 hm
        refine lv_iload hx hb dX10_comes_85 (lv_at hl 1 rfl) ?_
        refine lv_istore (lv' := [(6, .int x4_2), (5, .int x5_4), (4, .int x4_2), (0, .ref (E.2.2 1000)), (1, .int x1), (2, .int x2), (3, .int x3)]) hx hb dX10_comes_87 hl (by decide) rfl (fun ls hl => ?_)
        exact w_89 n σ0 x1 x2 x3 x4_2 x5_4 x4_2 H locs ls hw (lv_sub hl [3, 4, 5, 6, 2, 1, 0] rfl) hm
      · have hm := if_t c7 hm
        refine lv_iload hx hb dX10_comes_78 (lv_at hl 1 rfl) ?_
        refine lv_iconst (v := (1 : Int32)) hx hb dX10_comes_80 (by decide) ?_
        refine lv_isub hx hb dX10_comes_81 ?_
        refine lv_goto (tgt := 87) hx hb dX10_comes_82 (by decide) ?_
        obtain ⟨x6_8, e9, hm⟩ := lt_ok hm
        refine ti_eq e9 ?_
        refine lv_istore (lv' := [(6, .int x6_8), (5, .int x5_4), (4, .int x4_2), (0, .ref (E.2.2 1000)), (1, .int x1), (2, .int x2), (3, .int x3)]) hx hb dX10_comes_87 hl (by decide) rfl (fun ls hl => ?_)
        exact w_89 n σ0 x1 x2 x3 x4_2 x5_4 x6_8 H locs ls hw (lv_sub hl [3, 4, 5, 6, 2, 1, 0] rfl) hm
    · have hm := if_t c6 hm
      refine lv_aload_n hx hb dX10_comes_21 rfl (lv_at hl 2 rfl) ?_
      refine gtM_35 cx ok hw dX10_comes_22 ?_
      refine lv_iload hx hb dX10_comes_25 (lv_at hl 0 rfl) ?_
      refine lv_iload hx hb dX10_comes_27 (lv_at hl 1 rfl) ?_
      refine lv_iadd hx hb dX10_comes_29 ?_
      refine lv_iconst (v := (1 : Int32)) hx hb dX10_comes_30 (by decide) ?_
      refine lv_isub hx hb dX10_comes_31 ?_
      obtain ⟨g10, hm⟩ := gd_ok hm
      refine ldM_35 cx ok hw g10 dX10_comes_32 ?_
      refine lv_iload_n hx hb dX10_comes_33 rfl (lv_at hl 4 rfl) ?_
      refine lv_icmp_lt (tgt := 69) hx hb dX10_comes_34 (by decide) (fun c11 => ?_) (fun c11 => ?_)
      · have hm := if_t c11 hm
        refine lv_iconst (v := (0 : Int32)) hx hb dX10_comes_69 (by decide) ?_
        exact rtM_z cx hr hlk hw (by decide) hm dX10_comes_70
      · have hm := if_f c11 hm
        refine lv_aload_n hx hb dX10_comes_37 rfl (lv_at hl 2 rfl) ?_
        refine gtM_35 cx ok hw dX10_comes_38 ?_
        refine lv_iload hx hb dX10_comes_41 (lv_at hl 0 rfl) ?_
        refine lv_iload hx hb dX10_comes_43 (lv_at hl 1 rfl) ?_
        refine lv_iadd hx hb dX10_comes_45 ?_
        refine lv_iconst (v := (1 : Int32)) hx hb dX10_comes_46 (by decide) ?_
        refine lv_isub hx hb dX10_comes_47 ?_
        obtain ⟨g12, hm⟩ := gd_ok hm
        refine ldM_35 cx ok hw g12 dX10_comes_48 ?_
        refine lv_iload_n hx hb dX10_comes_49 rfl (lv_at hl 4 rfl) ?_
        refine lv_icmp_ne (tgt := 71) hx hb dX10_comes_50 (by decide) (fun c13 => ?_) (fun c13 => ?_)
        · have hm := if_f c13 hm
          refine lv_iload hx hb dX10_comes_71 (lv_at hl 1 rfl) ?_
          refine lv_bipush (v := (30 : Int32)) hx hb dX10_comes_73 (by decide) ?_
          refine lv_icmp_ne (tgt := 85) hx hb dX10_comes_75 (by decide) (fun c14 => ?_) (fun c14 => ?_)
          · have hm := if_f c14 hm
            refine lv_iload hx hb dX10_comes_85 (lv_at hl 1 rfl) ?_
            refine lv_istore (lv' := [(6, .int x4_2), (5, .int x5_4), (4, .int x4_2), (0, .ref (E.2.2 1000)), (1, .int x1), (2, .int x2), (3, .int x3)]) hx hb dX10_comes_87 hl (by decide) rfl (fun ls hl => ?_)
            exact w_89 n σ0 x1 x2 x3 x4_2 x5_4 x4_2 H locs ls hw (lv_sub hl [3, 4, 5, 6, 2, 1, 0] rfl) hm
          · have hm := if_t c14 hm
            refine lv_iload hx hb dX10_comes_78 (lv_at hl 1 rfl) ?_
            refine lv_iconst (v := (1 : Int32)) hx hb dX10_comes_80 (by decide) ?_
            refine lv_isub hx hb dX10_comes_81 ?_
            refine lv_goto (tgt := 87) hx hb dX10_comes_82 (by decide) ?_
            obtain ⟨x6_15, e16, hm⟩ := lt_ok hm
            refine ti_eq e16 ?_
            refine lv_istore (lv' := [(6, .int x6_15), (5, .int x5_4), (4, .int x4_2), (0, .ref (E.2.2 1000)), (1, .int x1), (2, .int x2), (3, .int x3)]) hx hb dX10_comes_87 hl (by decide) rfl (fun ls hl => ?_)
            exact w_89 n σ0 x1 x2 x3 x4_2 x5_4 x6_15 H locs ls hw (lv_sub hl [3, 4, 5, 6, 2, 1, 0] rfl) hm
        · have hm := if_t c13 hm
          refine lv_aload_n hx hb dX10_comes_53 rfl (lv_at hl 2 rfl) ?_
          refine gtM_36 cx ok hw dX10_comes_54 ?_
          refine lv_iload hx hb dX10_comes_57 (lv_at hl 0 rfl) ?_
          refine lv_iload hx hb dX10_comes_59 (lv_at hl 1 rfl) ?_
          refine lv_iadd hx hb dX10_comes_61 ?_
          refine lv_iconst (v := (1 : Int32)) hx hb dX10_comes_62 (by decide) ?_
          refine lv_isub hx hb dX10_comes_63 ?_
          obtain ⟨g17, hm⟩ := gd_ok hm
          refine ldM_36 cx ok hw g17 dX10_comes_64 ?_
          refine lv_iload_n hx hb dX10_comes_65 rfl (lv_at hl 5 rfl) ?_
          refine lv_icmp_ge (tgt := 71) hx hb dX10_comes_66 (by decide) (fun c18 => ?_) (fun c18 => ?_)
          · have hm := if_t c18 hm
            refine lv_iload hx hb dX10_comes_71 (lv_at hl 1 rfl) ?_
            refine lv_bipush (v := (30 : Int32)) hx hb dX10_comes_73 (by decide) ?_
            refine lv_icmp_ne (tgt := 85) hx hb dX10_comes_75 (by decide) (fun c19 => ?_) (fun c19 => ?_)
            · have hm := if_f c19 hm
              refine lv_iload hx hb dX10_comes_85 (lv_at hl 1 rfl) ?_
              refine lv_istore (lv' := [(6, .int x4_2), (5, .int x5_4), (4, .int x4_2), (0, .ref (E.2.2 1000)), (1, .int x1), (2, .int x2), (3, .int x3)]) hx hb dX10_comes_87 hl (by decide) rfl (fun ls hl => ?_)
              exact w_89 n σ0 x1 x2 x3 x4_2 x5_4 x4_2 H locs ls hw (lv_sub hl [3, 4, 5, 6, 2, 1, 0] rfl) hm
            · have hm := if_t c19 hm
              refine lv_iload hx hb dX10_comes_78 (lv_at hl 1 rfl) ?_
              refine lv_iconst (v := (1 : Int32)) hx hb dX10_comes_80 (by decide) ?_
              refine lv_isub hx hb dX10_comes_81 ?_
              refine lv_goto (tgt := 87) hx hb dX10_comes_82 (by decide) ?_
              obtain ⟨x6_20, e21, hm⟩ := lt_ok hm
              refine ti_eq e21 ?_
              refine lv_istore (lv' := [(6, .int x6_20), (5, .int x5_4), (4, .int x4_2), (0, .ref (E.2.2 1000)), (1, .int x1), (2, .int x2), (3, .int x3)]) hx hb dX10_comes_87 hl (by decide) rfl (fun ls hl => ?_)
              exact w_89 n σ0 x1 x2 x3 x4_2 x5_4 x6_20 H locs ls hw (lv_sub hl [3, 4, 5, 6, 2, 1, 0] rfl) hm
          · have hm := if_f c18 hm
            refine lv_iconst (v := (0 : Int32)) hx hb dX10_comes_69 (by decide) ?_
            exact rtM_z cx hr hlk hw (by decide) hm dX10_comes_70
  exact goal0 _ _ hw
theorem cwM_comes {R : Room} {s : State} {args : Array Value} (h : ∀ w ∈ wA, w.before args s = true) (hR : rmM_comes.frames + 1 ≤ R.frames ∧ 8 + (7 + 11) + rmM_comes.locals ≤ R.locals) : CallW R s args RX10 RX10 212 yX10_comes cX10_comes 7 (some .boolean) (wz yX10_comes cX10_comes 7 (some .boolean)) rmM_comes 0 0 3 := cwV 3 h (gdV k_1071 k_1073 ks_66 k_11 k_1074) rfl rfl rfl (by decide +kernel) hR
/-! private void one(int, int, int, int);: writes, loops -/
def M_one_l40 (n : Nat) : Nat → St → Int32 → Int32 → Int32 → Int32 → Int32 → Int32 → Option St
  | 0, _, _, _, _, _, _, _ => none
  | f + 1, σ, x1, x2, x3, x4, x5, x6 =>
    if x5 ≤ x6 then
      some σ
    else
      gd x2 60 <|
      gd x2 60 <|
      bp (M_itemCost σ (σ.1 27 x2.toNatClampNeg) x3 x4 x6) fun r5 =>
      bd (M_comes n σ x1 ((σ.1 29 x2.toNatClampNeg) + r5) ((x2 <<< ((15 : Int32) &&& 31)) + (x6 <<< ((5 : Int32) &&& 31)))) fun r7 σ8 =>
      lt (x6 + (1 : Int32)) fun x6_9 =>
      (M_one_l40 n f) σ8 x1 x2 x3 x4 x5 x6_9
def M_one (n : Nat) (σ0 : St) (x1 : Int32) (x2 : Int32) (x3 : Int32) (x4 : Int32) : Option St :=
  gd x2 60 <|
  bp (M_itemSize σ0 (σ0.1 27 x2.toNatClampNeg) x3 x4) fun r3 =>
  gd x1 7800 <|
  gd x2 60 <|
  bp (M_itemCount σ0 (σ0.1 27 x2.toNatClampNeg) x3 x4) fun r7 =>
  gd x1 7800 <|
  lt (sJ σ0 34 x1.toNatClampNeg ((σ0.2 34 x1.toNatClampNeg) + r7)) fun σ9 =>
  M_one_l40 n n σ9 x1 x2 x3 x4 r3 (0 : Int32)
abbrev rmM_one : Room := { frames := 3, cells := 0, slots := 0, locals := 68 }
set_option maxHeartbeats 4000000 in
set_option maxRecDepth 100000 in
theorem cM_one (l : Launch) (E : Ev) (n : Nat) (sz : Nat) (σ0 σ' : St) (x1 : Int32) (x2 : Int32) (x3 : Int32) (x4 : Int32) (hm : M_one n σ0 x1 x2 x3 x4 = some σ') : Met l yX10_one (wz yX10_one cX10_one 8 none) rmM_one (PwM E [.ref (E.2.2 1000), .int x1, .int x2, .int x3, .int x4] σ0 sz) (QvM E σ0 σ' sz) 0 0 (va_A (wldM E σ0) sz) := by
  refine enM (by decide) rfl (Nat.le_of_ble_eq_true rfl) (fun p e s m args below meth c cx hr hlk hml hsz ok hw ls hl => ?_)
  have hx := cx.1
  have hb := cx.2.1
  have hA9 := cx.2.2.2
  have hA : ∀ q, s.heap.size ≤ q → (va_A (wldM E σ0) sz) q := fun q h => Or.inr (by rw [← hsz]; exact h)
  have w_40 : ∀ (f : Nat), ∀ (σ : St) (x1 : Int32) (x2 : Int32) (x3 : Int32) (x4 : Int32) (x5 : Int32) (x6 : Int32) (H : Heap) (locs : List Loc) (ls : Array Slot), wsM E σ (va_A (wldM E σ0) sz) s H locs → lv_has ls 8 [(0, .ref (E.2.2 1000)), (1, .int x1), (2, .int x2), (3, .int x3), (4, .int x4), (5, .int x5), (6, .int x6)] → M_one_l40 n f σ x1 x2 x3 x4 x5 x6 = some σ' → W p l e rmM_one s m args below meth c H locs 0 0 (MQ below (QvM E σ0 σ' sz) args s 0 0 (va_A (wldM E σ0) sz)) (F0 m 40 ls []) := by
    intro f
    induction f with
    | zero =>
      intro σ x1 x2 x3 x4 x5 x6 H locs ls hw hl hm
      rw [M_one_l40] at hm
      cases hm
    | succ f ih =>
      intro σ x1 x2 x3 x4 x5 x6 H locs ls hw hl hm
      rw [M_one_l40] at hm
      refine lv_iload hx hb dX10_one_40 (lv_at hl 6 rfl) ?_
      refine lv_iload hx hb dX10_one_42 (lv_at hl 5 rfl) ?_
      refine lv_icmp_ge (tgt := 91) hx hb dX10_one_44 (by decide) (fun c1 => ?_) (fun c1 => ?_)
      · have hm := if_t c1 hm
        exact rtM_v cx hr hlk hw hm dX10_one_91
      · have hm := if_f c1 hm
        refine lv_aload_n hx hb dX10_one_47 rfl (lv_at hl 0 rfl) ?_
        refine lv_iload_n hx hb dX10_one_48 rfl (lv_at hl 1 rfl) ?_
        refine lv_aload_n hx hb dX10_one_49 rfl (lv_at hl 0 rfl) ?_
        refine gtM_29 cx ok hw dX10_one_50 ?_
        refine lv_iload_n hx hb dX10_one_53 rfl (lv_at hl 2 rfl) ?_
        obtain ⟨g2, hm⟩ := gd_ok hm
        refine ldM_29 cx ok hw g2 dX10_one_54 ?_
        refine lv_aload_n hx hb dX10_one_55 rfl (lv_at hl 0 rfl) ?_
        refine lv_aload_n hx hb dX10_one_56 rfl (lv_at hl 0 rfl) ?_
        refine gtM_27 cx ok hw dX10_one_57 ?_
        refine lv_iload_n hx hb dX10_one_60 rfl (lv_at hl 2 rfl) ?_
        obtain ⟨g3, hm⟩ := gd_ok hm
        refine ldM_27 cx ok hw g3 dX10_one_61 ?_
        refine lv_iload_n hx hb dX10_one_62 rfl (lv_at hl 3 rfl) ?_
        refine lv_iload hx hb dX10_one_63 (lv_at hl 4 rfl) ?_
        refine lv_iload hx hb dX10_one_65 (lv_at hl 6 rfl) ?_
        obtain ⟨r5, h4, hm⟩ := bp_ok hm
        refine clV_Mi (As := [.int (σ.1 27 x2.toNatClampNeg), .int x3, .int x4, .int x6]) (rest := [.int (σ.1 29 x2.toNatClampNeg), .int x1, .ref (E.2.2 1000)]) cx hml hl.1 ok hw hA (cM_itemCost l E _ σ (σ.1 27 x2.toNatClampNeg) x3 x4 x6 r5 h4) (cwM_itemCost hA9 ⟨Nat.le_of_ble_eq_true rfl, Nat.le_of_ble_eq_true rfl⟩) rfl rfl (Nat.le_of_ble_eq_true rfl) dX10_one_67 (fun H locs hw => ?_)
        refine lv_iadd hx hb dX10_one_70 ?_
        refine lv_iload_n hx hb dX10_one_71 rfl (lv_at hl 2 rfl) ?_
        refine lv_bipush (v := (15 : Int32)) hx hb dX10_one_72 (by decide) ?_
        refine lv_ishl hx hb dX10_one_74 ?_
        refine lv_iload hx hb dX10_one_75 (lv_at hl 6 rfl) ?_
        refine lv_iconst (v := (5 : Int32)) hx hb dX10_one_77 (by decide) ?_
        refine lv_ishl hx hb dX10_one_78 ?_
        refine lv_iadd hx hb dX10_one_79 ?_
        obtain ⟨r7, σ8, h6, hm⟩ := bd_ok hm
        refine clV_Mi (As := [.int x1, .int ((σ.1 29 x2.toNatClampNeg) + r5), .int ((x2 <<< ((15 : Int32) &&& 31)) + (x6 <<< ((5 : Int32) &&& 31)))]) (rest := []) cx hml hl.1 ok hw hA (cM_comes l E n _ σ σ8 x1 ((σ.1 29 x2.toNatClampNeg) + r5) ((x2 <<< ((15 : Int32) &&& 31)) + (x6 <<< ((5 : Int32) &&& 31))) r7 h6) (cwM_comes hA9 ⟨Nat.le_of_ble_eq_true rfl, Nat.le_of_ble_eq_true rfl⟩) rfl rfl (Nat.le_of_ble_eq_true rfl) dX10_one_80 (fun H locs hw => ?_)
        refine lv_istore (lv' := [(7, .int r7), (0, .ref (E.2.2 1000)), (1, .int x1), (2, .int x2), (3, .int x3), (4, .int x4), (5, .int x5), (6, .int x6)]) hx hb dX10_one_83 hl (by decide) rfl (fun ls hl => ?_)
        obtain ⟨x6_9, e10, hm⟩ := lt_ok hm
        refine lv_iinc (v := x6_9) (lv' := [(6, .int x6_9), (7, .int r7), (0, .ref (E.2.2 1000)), (1, .int x1), (2, .int x2), (3, .int x3), (4, .int x4), (5, .int x5)]) hx hb dX10_one_85 hl (k := 7) rfl (by rw [e10]; rfl) (by decide) rfl (fun ls hl => ?_)
        refine lv_goto (tgt := 40) hx hb dX10_one_88 (by decide) ?_
        exact ih σ8 x1 x2 x3 x4 x5 x6_9 H locs ls hw (lv_sub hl [2, 3, 4, 5, 6, 7, 0] rfl) hm
  have hl : lv_has ls 8 [(0, .ref (E.2.2 1000)), (1, .int x1), (2, .int x2), (3, .int x3), (4, .int x4)] := hl
  unfold M_one at hm
  have goal0 : ∀ (H : Heap) (locs : List Loc), wsM E σ0 (va_A (wldM E σ0) sz) s H locs → W p l e rmM_one s m args below meth c H locs 0 0 (MQ below (QvM E σ0 σ' sz) args s 0 0 (va_A (wldM E σ0) sz)) (F0 m 0 ls []) := by
    intro H locs hw
    refine lv_aload_n hx hb dX10_one_0 rfl (lv_at hl 0 rfl) ?_
    refine lv_aload_n hx hb dX10_one_1 rfl (lv_at hl 0 rfl) ?_
    refine gtM_27 cx ok hw dX10_one_2 ?_
    refine lv_iload_n hx hb dX10_one_5 rfl (lv_at hl 2 rfl) ?_
    obtain ⟨g1, hm⟩ := gd_ok hm
    refine ldM_27 cx ok hw g1 dX10_one_6 ?_
    refine lv_iload_n hx hb dX10_one_7 rfl (lv_at hl 3 rfl) ?_
    refine lv_iload hx hb dX10_one_8 (lv_at hl 4 rfl) ?_
    obtain ⟨r3, h2, hm⟩ := bp_ok hm
    refine clV_Mi (As := [.int (σ0.1 27 x2.toNatClampNeg), .int x3, .int x4]) (rest := []) cx hml hl.1 ok hw hA (cM_itemSize l E _ σ0 (σ0.1 27 x2.toNatClampNeg) x3 x4 r3 h2) (cwM_itemSize hA9 ⟨Nat.le_of_ble_eq_true rfl, Nat.le_of_ble_eq_true rfl⟩) rfl rfl (Nat.le_of_ble_eq_true rfl) dX10_one_10 (fun H locs hw => ?_)
    refine lv_istore (lv' := [(5, .int r3), (0, .ref (E.2.2 1000)), (1, .int x1), (2, .int x2), (3, .int x3), (4, .int x4)]) hx hb dX10_one_13 hl (by decide) rfl (fun ls hl => ?_)
    refine lv_aload_n hx hb dX10_one_15 rfl (lv_at hl 1 rfl) ?_
    refine gtM_34 cx ok hw dX10_one_16 ?_
    refine lv_iload_n hx hb dX10_one_19 rfl (lv_at hl 2 rfl) ?_
    refine lv_dup2_11 hx hb dX10_one_20 rfl rfl ?_
    obtain ⟨g4, hm⟩ := gd_ok hm
    refine ldM_34 cx ok hw g4 dX10_one_21 ?_
    refine lv_aload_n hx hb dX10_one_22 rfl (lv_at hl 1 rfl) ?_
    refine lv_aload_n hx hb dX10_one_23 rfl (lv_at hl 1 rfl) ?_
    refine gtM_27 cx ok hw dX10_one_24 ?_
    refine lv_iload_n hx hb dX10_one_27 rfl (lv_at hl 3 rfl) ?_
    obtain ⟨g5, hm⟩ := gd_ok hm
    refine ldM_27 cx ok hw g5 dX10_one_28 ?_
    refine lv_iload_n hx hb dX10_one_29 rfl (lv_at hl 4 rfl) ?_
    refine lv_iload hx hb dX10_one_30 (lv_at hl 5 rfl) ?_
    obtain ⟨r7, h6, hm⟩ := bp_ok hm
    refine clV_Ml (As := [.int (σ0.1 27 x2.toNatClampNeg), .int x3, .int x4]) (rest := [.long (σ0.2 34 x1.toNatClampNeg), .int x1, .ref (E.2.2 34)]) cx hml hl.1 ok hw hA (cM_itemCount l E _ σ0 (σ0.1 27 x2.toNatClampNeg) x3 x4 r7 h6) (cwM_itemCount hA9 ⟨Nat.le_of_ble_eq_true rfl, Nat.le_of_ble_eq_true rfl⟩) rfl rfl (Nat.le_of_ble_eq_true rfl) dX10_one_32 (fun H locs hw => ?_)
    refine lv_ladd hx hb dX10_one_35 ?_
    obtain ⟨g8, hm⟩ := gd_ok hm
    refine stM_34 cx ok hw g8 dX10_one_36 (fun H locs hw => ?_)
    obtain ⟨σ9, e10, hm⟩ := lt_ok hm
    have hw := wsM_eq e10 hw
    refine lv_iconst (v := (0 : Int32)) hx hb dX10_one_37 (by decide) ?_
    refine lv_istore (lv' := [(6, .int (0 : Int32)), (5, .int r3), (0, .ref (E.2.2 1000)), (1, .int x1), (2, .int x2), (3, .int x3), (4, .int x4)]) hx hb dX10_one_38 hl (by decide) rfl (fun ls hl => ?_)
    exact w_40 n σ9 x1 x2 x3 x4 r3 (0 : Int32) H locs ls hw (lv_sub hl [2, 3, 4, 5, 6, 1, 0] rfl) hm
  exact goal0 _ _ hw
theorem cwM_one {R : Room} {s : State} {args : Array Value} (h : ∀ w ∈ wA, w.before args s = true) (hR : rmM_one.frames + 1 ≤ R.frames ∧ 8 + (8 + 11) + rmM_one.locals ≤ R.locals) : CallW R s args RX10 RX10 231 yX10_one cX10_one 8 none (wz yX10_one cX10_one 8 none) rmM_one 0 0 4 := cwV 4 h (gdV k_1055 k_1057 ks_62 k_11 k_1058) rfl rfl rfl (by decide +kernel) hR
/-! private void two(int, int, int, int);: writes, loops -/
def M_two_l116 (n : Nat) (k3 : St → Int32 → Int32 → Int32 → Int32 → Int32 → Option St) (k98 : St → Int32 → Int32 → Int32 → Int32 → Int32 → Int32 → Int32 → Int32 → Int32 → Option St) : Nat → St → Int32 → Int32 → Int32 → Int32 → Int32 → Int32 → Int32 → Int32 → Int32 → Int32 → Int32 → Option St
  | 0, _, _, _, _, _, _, _, _, _, _, _, _ => none
  | f + 1, σ, x1, x2, x3, x4, x5, x6, x7, x8, x9, x10, x11 =>
    if x7 ≤ x11 then
      lt (x9 + (1 : Int32)) fun x9_2 =>
      k98 σ x1 x2 x3 x4 x5 x6 x7 x8 x9_2
    else
      if x10 = 0 then
        lt (x9 + (1 : Int32)) fun x9_5 =>
        k98 σ x1 x2 x3 x4 x5 x6 x7 x8 x9_5
      else
        if (30 : Int32) < ((x9 + (1 : Int32)) * (x11 + (1 : Int32))) then
          lt (x9 + (1 : Int32)) fun x9_8 =>
          k98 σ x1 x2 x3 x4 x5 x6 x7 x8 x9_8
        else
          gd x2 60 <|
          gd x2 60 <|
          bp (M_itemCost σ (σ.1 27 x2.toNatClampNeg) x3 ((x3 + x5) - (1 : Int32)) x9) fun r13 =>
          gd x2 60 <|
          bp (M_itemCost σ (σ.1 28 x2.toNatClampNeg) (x3 + x5) x4 x11) fun r16 =>
          lt ((((σ.1 29 x2.toNatClampNeg) + r13) + r16)) fun x12_17 =>
          bd (M_comes n σ x1 x12_17 ((((x2 <<< ((15 : Int32) &&& 31)) + (x5 <<< ((10 : Int32) &&& 31))) + (x9 <<< ((5 : Int32) &&& 31))) + x11)) fun r20 σ21 =>
          if r20 = 0 then
            if x11 ≤ 0 then
              lt (x11 + (1 : Int32)) fun x11_26 =>
              (M_two_l116 n k3 k98 f) σ21 x1 x2 x3 x4 x5 x6 x7 (0 : Int32) x9 r20 x11_26
            else
              lt (x11 + (1 : Int32)) fun x11_28 =>
              (M_two_l116 n k3 k98 f) σ21 x1 x2 x3 x4 x5 x6 x7 (1 : Int32) x9 r20 x11_28
          else
            lt (x11 + (1 : Int32)) fun x11_23 =>
            (M_two_l116 n k3 k98 f) σ21 x1 x2 x3 x4 x5 x6 x7 (1 : Int32) x9 r20 x11_23
def M_two_l98 (n : Nat) (k3 : St → Int32 → Int32 → Int32 → Int32 → Int32 → Option St) : Nat → St → Int32 → Int32 → Int32 → Int32 → Int32 → Int32 → Int32 → Int32 → Int32 → Option St
  | 0, _, _, _, _, _, _, _, _, _, _ => none
  | f + 1, σ, x1, x2, x3, x4, x5, x6, x7, x8, x9 =>
    if x6 ≤ x9 then
      lt (x5 + (1 : Int32)) fun x5_2 =>
      k3 σ x1 x2 x3 x4 x5_2
    else
      if x8 = 0 then
        lt (x5 + (1 : Int32)) fun x5_5 =>
        k3 σ x1 x2 x3 x4 x5_5
      else
        M_two_l116 n k3 (M_two_l98 n k3 f) n σ x1 x2 x3 x4 x5 x6 x7 x8 x9 (1 : Int32) (0 : Int32)
def M_two_l3 (n : Nat) : Nat → St → Int32 → Int32 → Int32 → Int32 → Int32 → Option St
  | 0, _, _, _, _, _, _ => none
  | f + 1, σ, x1, x2, x3, x4, x5 =>
    if (x4 - x3) < x5 then
      some σ
    else
      gd x2 60 <|
      bp (M_itemSize σ (σ.1 27 x2.toNatClampNeg) x3 ((x3 + x5) - (1 : Int32))) fun r4 =>
      gd x2 60 <|
      bp (M_itemSize σ (σ.1 28 x2.toNatClampNeg) (x3 + x5) x4) fun r7 =>
      gd x1 7800 <|
      gd x2 60 <|
      bp (M_itemCount σ (σ.1 27 x2.toNatClampNeg) x3 ((x3 + x5) - (1 : Int32))) fun r11 =>
      gd x2 60 <|
      bp (M_itemCount σ (σ.1 28 x2.toNatClampNeg) (x3 + x5) x4) fun r14 =>
      gd x1 7800 <|
      lt (sJ σ 34 x1.toNatClampNeg ((σ.2 34 x1.toNatClampNeg) + (r11 * r14))) fun σ16 =>
      M_two_l98 n (M_two_l3 n f) n σ16 x1 x2 x3 x4 x5 r4 r7 (1 : Int32) (0 : Int32)
def M_two (n : Nat) (σ0 : St) (x1 : Int32) (x2 : Int32) (x3 : Int32) (x4 : Int32) : Option St :=
  M_two_l3 n n σ0 x1 x2 x3 x4 (1 : Int32)
abbrev rmM_two : Room := { frames := 3, cells := 0, slots := 0, locals := 68 }
set_option maxHeartbeats 4000000 in
set_option maxRecDepth 100000 in
theorem cM_two (l : Launch) (E : Ev) (n : Nat) (sz : Nat) (σ0 σ' : St) (x1 : Int32) (x2 : Int32) (x3 : Int32) (x4 : Int32) (hm : M_two n σ0 x1 x2 x3 x4 = some σ') : Met l yX10_two (wz yX10_two cX10_two 13 none) rmM_two (PwM E [.ref (E.2.2 1000), .int x1, .int x2, .int x3, .int x4] σ0 sz) (QvM E σ0 σ' sz) 0 0 (va_A (wldM E σ0) sz) := by
  refine enM (by decide) rfl (Nat.le_of_ble_eq_true rfl) (fun p e s m args below meth c cx hr hlk hml hsz ok hw ls hl => ?_)
  have hx := cx.1
  have hb := cx.2.1
  have hA9 := cx.2.2.2
  have hA : ∀ q, s.heap.size ≤ q → (va_A (wldM E σ0) sz) q := fun q h => Or.inr (by rw [← hsz]; exact h)
  have w_116 : ∀ (k3 : St → Int32 → Int32 → Int32 → Int32 → Int32 → Option St) (hk3 : ∀ (σ : St) (x1 : Int32) (x2 : Int32) (x3 : Int32) (x4 : Int32) (x5 : Int32) (H : Heap) (locs : List Loc) (ls : Array Slot), wsM E σ (va_A (wldM E σ0) sz) s H locs → lv_has ls 13 [(0, .ref (E.2.2 1000)), (1, .int x1), (2, .int x2), (3, .int x3), (4, .int x4), (5, .int x5)] → k3 σ x1 x2 x3 x4 x5 = some σ' → W p l e rmM_two s m args below meth c H locs 0 0 (MQ below (QvM E σ0 σ' sz) args s 0 0 (va_A (wldM E σ0) sz)) (F0 m 3 ls [])) (k98 : St → Int32 → Int32 → Int32 → Int32 → Int32 → Int32 → Int32 → Int32 → Int32 → Option St) (hk98 : ∀ (σ : St) (x1 : Int32) (x2 : Int32) (x3 : Int32) (x4 : Int32) (x5 : Int32) (x6 : Int32) (x7 : Int32) (x8 : Int32) (x9 : Int32) (H : Heap) (locs : List Loc) (ls : Array Slot), wsM E σ (va_A (wldM E σ0) sz) s H locs → lv_has ls 13 [(0, .ref (E.2.2 1000)), (1, .int x1), (2, .int x2), (3, .int x3), (4, .int x4), (5, .int x5), (6, .int x6), (7, .int x7), (8, .int x8), (9, .int x9)] → k98 σ x1 x2 x3 x4 x5 x6 x7 x8 x9 = some σ' → W p l e rmM_two s m args below meth c H locs 0 0 (MQ below (QvM E σ0 σ' sz) args s 0 0 (va_A (wldM E σ0) sz)) (F0 m 98 ls [])), ∀ (f : Nat), ∀ (σ : St) (x1 : Int32) (x2 : Int32) (x3 : Int32) (x4 : Int32) (x5 : Int32) (x6 : Int32) (x7 : Int32) (x8 : Int32) (x9 : Int32) (x10 : Int32) (x11 : Int32) (H : Heap) (locs : List Loc) (ls : Array Slot), wsM E σ (va_A (wldM E σ0) sz) s H locs → lv_has ls 13 [(0, .ref (E.2.2 1000)), (1, .int x1), (2, .int x2), (3, .int x3), (4, .int x4), (5, .int x5), (6, .int x6), (7, .int x7), (8, .int x8), (9, .int x9), (10, .int x10), (11, .int x11)] → M_two_l116 n k3 k98 f σ x1 x2 x3 x4 x5 x6 x7 x8 x9 x10 x11 = some σ' → W p l e rmM_two s m args below meth c H locs 0 0 (MQ below (QvM E σ0 σ' sz) args s 0 0 (va_A (wldM E σ0) sz)) (F0 m 116 ls []) := by
    intro k3 hk3 k98 hk98
    intro f
    induction f with
    | zero =>
      intro σ x1 x2 x3 x4 x5 x6 x7 x8 x9 x10 x11 H locs ls hw hl hm
      rw [M_two_l116] at hm
      cases hm
    | succ f ih =>
      intro σ x1 x2 x3 x4 x5 x6 x7 x8 x9 x10 x11 H locs ls hw hl hm
      rw [M_two_l116] at hm
      refine lv_iload hx hb dX10_two_116 (lv_at hl 11 rfl) ?_
      refine lv_iload hx hb dX10_two_118 (lv_at hl 7 rfl) ?_
      refine lv_icmp_ge (tgt := 239) hx hb dX10_two_120 (by decide) (fun c1 => ?_) (fun c1 => ?_)
      · have hm := if_t c1 hm
        obtain ⟨x9_2, e3, hm⟩ := lt_ok hm
        refine lv_iinc (v := x9_2) (lv' := [(9, .int x9_2), (0, .ref (E.2.2 1000)), (1, .int x1), (2, .int x2), (3, .int x3), (4, .int x4), (5, .int x5), (6, .int x6), (7, .int x7), (8, .int x8), (10, .int x10), (11, .int x11)]) hx hb dX10_two_239 hl (k := 9) rfl (by rw [e3]; rfl) (by decide) rfl (fun ls hl => ?_)
        refine lv_goto (tgt := 98) hx hb dX10_two_242 (by decide) ?_
        exact hk98 σ x1 x2 x3 x4 x5 x6 x7 x8 x9_2 H locs ls hw (lv_sub hl [1, 2, 3, 4, 5, 6, 7, 8, 9, 0] rfl) hm
      · have hm := if_f c1 hm
        refine lv_iload hx hb dX10_two_123 (lv_at hl 10 rfl) ?_
        refine lv_if_eq (tgt := 239) hx hb dX10_two_125 (by decide) (fun c4 => ?_) (fun c4 => ?_)
        · have hm := if_t c4 hm
          obtain ⟨x9_5, e6, hm⟩ := lt_ok hm
          refine lv_iinc (v := x9_5) (lv' := [(9, .int x9_5), (0, .ref (E.2.2 1000)), (1, .int x1), (2, .int x2), (3, .int x3), (4, .int x4), (5, .int x5), (6, .int x6), (7, .int x7), (8, .int x8), (10, .int x10), (11, .int x11)]) hx hb dX10_two_239 hl (k := 9) rfl (by rw [e6]; rfl) (by decide) rfl (fun ls hl => ?_)
          refine lv_goto (tgt := 98) hx hb dX10_two_242 (by decide) ?_
          exact hk98 σ x1 x2 x3 x4 x5 x6 x7 x8 x9_5 H locs ls hw (lv_sub hl [1, 2, 3, 4, 5, 6, 7, 8, 9, 0] rfl) hm
        · have hm := if_f c4 hm
          refine lv_iload hx hb dX10_two_128 (lv_at hl 9 rfl) ?_
          refine lv_iconst (v := (1 : Int32)) hx hb dX10_two_130 (by decide) ?_
          refine lv_iadd hx hb dX10_two_131 ?_
          refine lv_iload hx hb dX10_two_132 (lv_at hl 11 rfl) ?_
          refine lv_iconst (v := (1 : Int32)) hx hb dX10_two_134 (by decide) ?_
          refine lv_iadd hx hb dX10_two_135 ?_
          refine lv_imul hx hb dX10_two_136 ?_
          refine lv_bipush (v := (30 : Int32)) hx hb dX10_two_137 (by decide) ?_
          refine lv_icmp_gt (tgt := 239) hx hb dX10_two_139 (by decide) (fun c7 => ?_) (fun c7 => ?_)
          · have hm := if_t c7 hm
            obtain ⟨x9_8, e9, hm⟩ := lt_ok hm
            refine lv_iinc (v := x9_8) (lv' := [(9, .int x9_8), (0, .ref (E.2.2 1000)), (1, .int x1), (2, .int x2), (3, .int x3), (4, .int x4), (5, .int x5), (6, .int x6), (7, .int x7), (8, .int x8), (10, .int x10), (11, .int x11)]) hx hb dX10_two_239 hl (k := 9) rfl (by rw [e9]; rfl) (by decide) rfl (fun ls hl => ?_)
            refine lv_goto (tgt := 98) hx hb dX10_two_242 (by decide) ?_
            exact hk98 σ x1 x2 x3 x4 x5 x6 x7 x8 x9_8 H locs ls hw (lv_sub hl [1, 2, 3, 4, 5, 6, 7, 8, 9, 0] rfl) hm
          · have hm := if_f c7 hm
            refine lv_aload_n hx hb dX10_two_142 rfl (lv_at hl 0 rfl) ?_
            refine gtM_29 cx ok hw dX10_two_143 ?_
            refine lv_iload_n hx hb dX10_two_146 rfl (lv_at hl 2 rfl) ?_
            obtain ⟨g10, hm⟩ := gd_ok hm
            refine ldM_29 cx ok hw g10 dX10_two_147 ?_
            refine lv_aload_n hx hb dX10_two_148 rfl (lv_at hl 0 rfl) ?_
            refine lv_aload_n hx hb dX10_two_149 rfl (lv_at hl 0 rfl) ?_
            refine gtM_27 cx ok hw dX10_two_150 ?_
            refine lv_iload_n hx hb dX10_two_153 rfl (lv_at hl 2 rfl) ?_
            obtain ⟨g11, hm⟩ := gd_ok hm
            refine ldM_27 cx ok hw g11 dX10_two_154 ?_
            refine lv_iload_n hx hb dX10_two_155 rfl (lv_at hl 3 rfl) ?_
            refine lv_iload_n hx hb dX10_two_156 rfl (lv_at hl 3 rfl) ?_
            refine lv_iload hx hb dX10_two_157 (lv_at hl 5 rfl) ?_
            refine lv_iadd hx hb dX10_two_159 ?_
            refine lv_iconst (v := (1 : Int32)) hx hb dX10_two_160 (by decide) ?_
            refine lv_isub hx hb dX10_two_161 ?_
            refine lv_iload hx hb dX10_two_162 (lv_at hl 9 rfl) ?_
            obtain ⟨r13, h12, hm⟩ := bp_ok hm
            refine clV_Mi (As := [.int (σ.1 27 x2.toNatClampNeg), .int x3, .int ((x3 + x5) - (1 : Int32)), .int x9]) (rest := [.int (σ.1 29 x2.toNatClampNeg)]) cx hml hl.1 ok hw hA (cM_itemCost l E _ σ (σ.1 27 x2.toNatClampNeg) x3 ((x3 + x5) - (1 : Int32)) x9 r13 h12) (cwM_itemCost hA9 ⟨Nat.le_of_ble_eq_true rfl, Nat.le_of_ble_eq_true rfl⟩) rfl rfl (Nat.le_of_ble_eq_true rfl) dX10_two_164 (fun H locs hw => ?_)
            refine lv_iadd hx hb dX10_two_167 ?_
            refine lv_aload_n hx hb dX10_two_168 rfl (lv_at hl 0 rfl) ?_
            refine lv_aload_n hx hb dX10_two_169 rfl (lv_at hl 0 rfl) ?_
            refine gtM_28 cx ok hw dX10_two_170 ?_
            refine lv_iload_n hx hb dX10_two_173 rfl (lv_at hl 2 rfl) ?_
            obtain ⟨g14, hm⟩ := gd_ok hm
            refine ldM_28 cx ok hw g14 dX10_two_174 ?_
            refine lv_iload_n hx hb dX10_two_175 rfl (lv_at hl 3 rfl) ?_
            refine lv_iload hx hb dX10_two_176 (lv_at hl 5 rfl) ?_
            refine lv_iadd hx hb dX10_two_178 ?_
            refine lv_iload hx hb dX10_two_179 (lv_at hl 4 rfl) ?_
            refine lv_iload hx hb dX10_two_181 (lv_at hl 11 rfl) ?_
            obtain ⟨r16, h15, hm⟩ := bp_ok hm
            refine clV_Mi (As := [.int (σ.1 28 x2.toNatClampNeg), .int (x3 + x5), .int x4, .int x11]) (rest := [.int ((σ.1 29 x2.toNatClampNeg) + r13)]) cx hml hl.1 ok hw hA (cM_itemCost l E _ σ (σ.1 28 x2.toNatClampNeg) (x3 + x5) x4 x11 r16 h15) (cwM_itemCost hA9 ⟨Nat.le_of_ble_eq_true rfl, Nat.le_of_ble_eq_true rfl⟩) rfl rfl (Nat.le_of_ble_eq_true rfl) dX10_two_183 (fun H locs hw => ?_)
            refine lv_iadd hx hb dX10_two_186 ?_
            obtain ⟨x12_17, e18, hm⟩ := lt_ok hm
            refine ti_eq e18 ?_
            refine lv_istore (lv' := [(12, .int x12_17), (0, .ref (E.2.2 1000)), (1, .int x1), (2, .int x2), (3, .int x3), (4, .int x4), (5, .int x5), (6, .int x6), (7, .int x7), (8, .int x8), (9, .int x9), (10, .int x10), (11, .int x11)]) hx hb dX10_two_187 hl (by decide) rfl (fun ls hl => ?_)
            refine lv_aload_n hx hb dX10_two_189 rfl (lv_at hl 1 rfl) ?_
            refine lv_iload_n hx hb dX10_two_190 rfl (lv_at hl 2 rfl) ?_
            refine lv_iload hx hb dX10_two_191 (lv_at hl 0 rfl) ?_
            refine lv_iload_n hx hb dX10_two_193 rfl (lv_at hl 3 rfl) ?_
            refine lv_bipush (v := (15 : Int32)) hx hb dX10_two_194 (by decide) ?_
            refine lv_ishl hx hb dX10_two_196 ?_
            refine lv_iload hx hb dX10_two_197 (lv_at hl 6 rfl) ?_
            refine lv_bipush (v := (10 : Int32)) hx hb dX10_two_199 (by decide) ?_
            refine lv_ishl hx hb dX10_two_201 ?_
            refine lv_iadd hx hb dX10_two_202 ?_
            refine lv_iload hx hb dX10_two_203 (lv_at hl 10 rfl) ?_
            refine lv_iconst (v := (5 : Int32)) hx hb dX10_two_205 (by decide) ?_
            refine lv_ishl hx hb dX10_two_206 ?_
            refine lv_iadd hx hb dX10_two_207 ?_
            refine lv_iload hx hb dX10_two_208 (lv_at hl 12 rfl) ?_
            refine lv_iadd hx hb dX10_two_210 ?_
            obtain ⟨r20, σ21, h19, hm⟩ := bd_ok hm
            refine clV_Mi (As := [.int x1, .int x12_17, .int ((((x2 <<< ((15 : Int32) &&& 31)) + (x5 <<< ((10 : Int32) &&& 31))) + (x9 <<< ((5 : Int32) &&& 31))) + x11)]) (rest := []) cx hml hl.1 ok hw hA (cM_comes l E n _ σ σ21 x1 x12_17 ((((x2 <<< ((15 : Int32) &&& 31)) + (x5 <<< ((10 : Int32) &&& 31))) + (x9 <<< ((5 : Int32) &&& 31))) + x11) r20 h19) (cwM_comes hA9 ⟨Nat.le_of_ble_eq_true rfl, Nat.le_of_ble_eq_true rfl⟩) rfl rfl (Nat.le_of_ble_eq_true rfl) dX10_two_211 (fun H locs hw => ?_)
            refine lv_istore (lv' := [(10, .int r20), (12, .int x12_17), (0, .ref (E.2.2 1000)), (1, .int x1), (2, .int x2), (3, .int x3), (4, .int x4), (5, .int x5), (6, .int x6), (7, .int x7), (8, .int x8), (9, .int x9), (11, .int x11)]) hx hb dX10_two_214 hl (by decide) rfl (fun ls hl => ?_)
            refine lv_iload hx hb dX10_two_216 (lv_at hl 0 rfl) ?_
            refine lv_if_ne (tgt := 226) hx hb dX10_two_218 (by decide) (fun c22 => ?_) (fun c22 => ?_)
            · have hm := if_f c22 hm
              refine lv_iconst (v := (1 : Int32)) hx hb dX10_two_226 (by decide) ?_
              refine lv_goto (tgt := 231) hx hb dX10_two_227 (by decide) ?_
              refine lv_istore (lv' := [(8, .int (1 : Int32)), (10, .int r20), (12, .int x12_17), (0, .ref (E.2.2 1000)), (1, .int x1), (2, .int x2), (3, .int x3), (4, .int x4), (5, .int x5), (6, .int x6), (7, .int x7), (9, .int x9), (11, .int x11)]) hx hb dX10_two_231 hl (by decide) rfl (fun ls hl => ?_)
              obtain ⟨x11_23, e24, hm⟩ := lt_ok hm
              refine lv_iinc (v := x11_23) (lv' := [(11, .int x11_23), (8, .int (1 : Int32)), (10, .int r20), (12, .int x12_17), (0, .ref (E.2.2 1000)), (1, .int x1), (2, .int x2), (3, .int x3), (4, .int x4), (5, .int x5), (6, .int x6), (7, .int x7), (9, .int x9)]) hx hb dX10_two_233 hl (k := 12) rfl (by rw [e24]; rfl) (by decide) rfl (fun ls hl => ?_)
              refine lv_goto (tgt := 116) hx hb dX10_two_236 (by decide) ?_
              exact ih σ21 x1 x2 x3 x4 x5 x6 x7 (1 : Int32) x9 r20 x11_23 H locs ls hw (lv_sub hl [4, 5, 6, 7, 8, 9, 10, 11, 1, 12, 2, 0] rfl) hm
            · have hm := if_t c22 hm
              refine lv_iload hx hb dX10_two_221 (lv_at hl 12 rfl) ?_
              refine lv_if_le (tgt := 230) hx hb dX10_two_223 (by decide) (fun c25 => ?_) (fun c25 => ?_)
              · have hm := if_t c25 hm
                refine lv_iconst (v := (0 : Int32)) hx hb dX10_two_230 (by decide) ?_
                refine lv_istore (lv' := [(8, .int (0 : Int32)), (10, .int r20), (12, .int x12_17), (0, .ref (E.2.2 1000)), (1, .int x1), (2, .int x2), (3, .int x3), (4, .int x4), (5, .int x5), (6, .int x6), (7, .int x7), (9, .int x9), (11, .int x11)]) hx hb dX10_two_231 hl (by decide) rfl (fun ls hl => ?_)
                obtain ⟨x11_26, e27, hm⟩ := lt_ok hm
                refine lv_iinc (v := x11_26) (lv' := [(11, .int x11_26), (8, .int (0 : Int32)), (10, .int r20), (12, .int x12_17), (0, .ref (E.2.2 1000)), (1, .int x1), (2, .int x2), (3, .int x3), (4, .int x4), (5, .int x5), (6, .int x6), (7, .int x7), (9, .int x9)]) hx hb dX10_two_233 hl (k := 12) rfl (by rw [e27]; rfl) (by decide) rfl (fun ls hl => ?_)
                refine lv_goto (tgt := 116) hx hb dX10_two_236 (by decide) ?_
                exact ih σ21 x1 x2 x3 x4 x5 x6 x7 (0 : Int32) x9 r20 x11_26 H locs ls hw (lv_sub hl [4, 5, 6, 7, 8, 9, 10, 11, 1, 12, 2, 0] rfl) hm
              · have hm := if_f c25 hm
                refine lv_iconst (v := (1 : Int32)) hx hb dX10_two_226 (by decide) ?_
                refine lv_goto (tgt := 231) hx hb dX10_two_227 (by decide) ?_
                refine lv_istore (lv' := [(8, .int (1 : Int32)), (10, .int r20), (12, .int x12_17), (0, .ref (E.2.2 1000)), (1, .int x1), (2, .int x2), (3, .int x3), (4, .int x4), (5, .int x5), (6, .int x6), (7, .int x7), (9, .int x9), (11, .int x11)]) hx hb dX10_two_231 hl (by decide) rfl (fun ls hl => ?_)
                obtain ⟨x11_28, e29, hm⟩ := lt_ok hm
                refine lv_iinc (v := x11_28) (lv' := [(11, .int x11_28), (8, .int (1 : Int32)), (10, .int r20), (12, .int x12_17), (0, .ref (E.2.2 1000)), (1, .int x1), (2, .int x2), (3, .int x3), (4, .int x4), (5, .int x5), (6, .int x6), (7, .int x7), (9, .int x9)]) hx hb dX10_two_233 hl (k := 12) rfl (by rw [e29]; rfl) (by decide) rfl (fun ls hl => ?_)
                refine lv_goto (tgt := 116) hx hb dX10_two_236 (by decide) ?_
                exact ih σ21 x1 x2 x3 x4 x5 x6 x7 (1 : Int32) x9 r20 x11_28 H locs ls hw (lv_sub hl [4, 5, 6, 7, 8, 9, 10, 11, 1, 12, 2, 0] rfl) hm
  have w_98 : ∀ (k3 : St → Int32 → Int32 → Int32 → Int32 → Int32 → Option St) (hk3 : ∀ (σ : St) (x1 : Int32) (x2 : Int32) (x3 : Int32) (x4 : Int32) (x5 : Int32) (H : Heap) (locs : List Loc) (ls : Array Slot), wsM E σ (va_A (wldM E σ0) sz) s H locs → lv_has ls 13 [(0, .ref (E.2.2 1000)), (1, .int x1), (2, .int x2), (3, .int x3), (4, .int x4), (5, .int x5)] → k3 σ x1 x2 x3 x4 x5 = some σ' → W p l e rmM_two s m args below meth c H locs 0 0 (MQ below (QvM E σ0 σ' sz) args s 0 0 (va_A (wldM E σ0) sz)) (F0 m 3 ls [])), ∀ (f : Nat), ∀ (σ : St) (x1 : Int32) (x2 : Int32) (x3 : Int32) (x4 : Int32) (x5 : Int32) (x6 : Int32) (x7 : Int32) (x8 : Int32) (x9 : Int32) (H : Heap) (locs : List Loc) (ls : Array Slot), wsM E σ (va_A (wldM E σ0) sz) s H locs → lv_has ls 13 [(0, .ref (E.2.2 1000)), (1, .int x1), (2, .int x2), (3, .int x3), (4, .int x4), (5, .int x5), (6, .int x6), (7, .int x7), (8, .int x8), (9, .int x9)] → M_two_l98 n k3 f σ x1 x2 x3 x4 x5 x6 x7 x8 x9 = some σ' → W p l e rmM_two s m args below meth c H locs 0 0 (MQ below (QvM E σ0 σ' sz) args s 0 0 (va_A (wldM E σ0) sz)) (F0 m 98 ls []) := by
    intro k3 hk3
    intro f
    induction f with
    | zero =>
      intro σ x1 x2 x3 x4 x5 x6 x7 x8 x9 H locs ls hw hl hm
      rw [M_two_l98] at hm
      cases hm
    | succ f ih =>
      intro σ x1 x2 x3 x4 x5 x6 x7 x8 x9 H locs ls hw hl hm
      rw [M_two_l98] at hm
      refine lv_iload hx hb dX10_two_98 (lv_at hl 9 rfl) ?_
      refine lv_iload hx hb dX10_two_100 (lv_at hl 6 rfl) ?_
      refine lv_icmp_ge (tgt := 245) hx hb dX10_two_102 (by decide) (fun c1 => ?_) (fun c1 => ?_)
      · have hm := if_t c1 hm
        obtain ⟨x5_2, e3, hm⟩ := lt_ok hm
        refine lv_iinc (v := x5_2) (lv' := [(5, .int x5_2), (0, .ref (E.2.2 1000)), (1, .int x1), (2, .int x2), (3, .int x3), (4, .int x4), (6, .int x6), (7, .int x7), (8, .int x8), (9, .int x9)]) hx hb dX10_two_245 hl (k := 5) rfl (by rw [e3]; rfl) (by decide) rfl (fun ls hl => ?_)
        refine lv_goto (tgt := 3) hx hb dX10_two_248 (by decide) ?_
        exact hk3 σ x1 x2 x3 x4 x5_2 H locs ls hw (lv_sub hl [1, 2, 3, 4, 5, 0] rfl) hm
      · have hm := if_f c1 hm
        refine lv_iload hx hb dX10_two_105 (lv_at hl 8 rfl) ?_
        refine lv_if_eq (tgt := 245) hx hb dX10_two_107 (by decide) (fun c4 => ?_) (fun c4 => ?_)
        · have hm := if_t c4 hm
          obtain ⟨x5_5, e6, hm⟩ := lt_ok hm
          refine lv_iinc (v := x5_5) (lv' := [(5, .int x5_5), (0, .ref (E.2.2 1000)), (1, .int x1), (2, .int x2), (3, .int x3), (4, .int x4), (6, .int x6), (7, .int x7), (8, .int x8), (9, .int x9)]) hx hb dX10_two_245 hl (k := 5) rfl (by rw [e6]; rfl) (by decide) rfl (fun ls hl => ?_)
          refine lv_goto (tgt := 3) hx hb dX10_two_248 (by decide) ?_
          exact hk3 σ x1 x2 x3 x4 x5_5 H locs ls hw (lv_sub hl [1, 2, 3, 4, 5, 0] rfl) hm
        · have hm := if_f c4 hm
          refine lv_iconst (v := (1 : Int32)) hx hb dX10_two_110 (by decide) ?_
          refine lv_istore (lv' := [(10, .int (1 : Int32)), (0, .ref (E.2.2 1000)), (1, .int x1), (2, .int x2), (3, .int x3), (4, .int x4), (5, .int x5), (6, .int x6), (7, .int x7), (8, .int x8), (9, .int x9)]) hx hb dX10_two_111 hl (by decide) rfl (fun ls hl => ?_)
          refine lv_iconst (v := (0 : Int32)) hx hb dX10_two_113 (by decide) ?_
          refine lv_istore (lv' := [(11, .int (0 : Int32)), (10, .int (1 : Int32)), (0, .ref (E.2.2 1000)), (1, .int x1), (2, .int x2), (3, .int x3), (4, .int x4), (5, .int x5), (6, .int x6), (7, .int x7), (8, .int x8), (9, .int x9)]) hx hb dX10_two_114 hl (by decide) rfl (fun ls hl => ?_)
          exact w_116 k3 hk3 (M_two_l98 n k3 f) ih n σ x1 x2 x3 x4 x5 x6 x7 x8 x9 (1 : Int32) (0 : Int32) H locs ls hw (lv_sub hl [2, 3, 4, 5, 6, 7, 8, 9, 10, 11, 1, 0] rfl) hm
  have w_3 : ∀ (f : Nat), ∀ (σ : St) (x1 : Int32) (x2 : Int32) (x3 : Int32) (x4 : Int32) (x5 : Int32) (H : Heap) (locs : List Loc) (ls : Array Slot), wsM E σ (va_A (wldM E σ0) sz) s H locs → lv_has ls 13 [(0, .ref (E.2.2 1000)), (1, .int x1), (2, .int x2), (3, .int x3), (4, .int x4), (5, .int x5)] → M_two_l3 n f σ x1 x2 x3 x4 x5 = some σ' → W p l e rmM_two s m args below meth c H locs 0 0 (MQ below (QvM E σ0 σ' sz) args s 0 0 (va_A (wldM E σ0) sz)) (F0 m 3 ls []) := by
    intro f
    induction f with
    | zero =>
      intro σ x1 x2 x3 x4 x5 H locs ls hw hl hm
      rw [M_two_l3] at hm
      cases hm
    | succ f ih =>
      intro σ x1 x2 x3 x4 x5 H locs ls hw hl hm
      rw [M_two_l3] at hm
      refine lv_iload hx hb dX10_two_3 (lv_at hl 5 rfl) ?_
      refine lv_iload hx hb dX10_two_5 (lv_at hl 4 rfl) ?_
      refine lv_iload_n hx hb dX10_two_7 rfl (lv_at hl 3 rfl) ?_
      refine lv_isub hx hb dX10_two_8 ?_
      refine lv_icmp_gt (tgt := 251) hx hb dX10_two_9 (by decide) (fun c1 => ?_) (fun c1 => ?_)
      · have hm := if_t c1 hm
        exact rtM_v cx hr hlk hw hm dX10_two_251
      · have hm := if_f c1 hm
        refine lv_aload_n hx hb dX10_two_12 rfl (lv_at hl 0 rfl) ?_
        refine lv_aload_n hx hb dX10_two_13 rfl (lv_at hl 0 rfl) ?_
        refine gtM_27 cx ok hw dX10_two_14 ?_
        refine lv_iload_n hx hb dX10_two_17 rfl (lv_at hl 2 rfl) ?_
        obtain ⟨g2, hm⟩ := gd_ok hm
        refine ldM_27 cx ok hw g2 dX10_two_18 ?_
        refine lv_iload_n hx hb dX10_two_19 rfl (lv_at hl 3 rfl) ?_
        refine lv_iload_n hx hb dX10_two_20 rfl (lv_at hl 3 rfl) ?_
        refine lv_iload hx hb dX10_two_21 (lv_at hl 5 rfl) ?_
        refine lv_iadd hx hb dX10_two_23 ?_
        refine lv_iconst (v := (1 : Int32)) hx hb dX10_two_24 (by decide) ?_
        refine lv_isub hx hb dX10_two_25 ?_
        obtain ⟨r4, h3, hm⟩ := bp_ok hm
        refine clV_Mi (As := [.int (σ.1 27 x2.toNatClampNeg), .int x3, .int ((x3 + x5) - (1 : Int32))]) (rest := []) cx hml hl.1 ok hw hA (cM_itemSize l E _ σ (σ.1 27 x2.toNatClampNeg) x3 ((x3 + x5) - (1 : Int32)) r4 h3) (cwM_itemSize hA9 ⟨Nat.le_of_ble_eq_true rfl, Nat.le_of_ble_eq_true rfl⟩) rfl rfl (Nat.le_of_ble_eq_true rfl) dX10_two_26 (fun H locs hw => ?_)
        refine lv_istore (lv' := [(6, .int r4), (0, .ref (E.2.2 1000)), (1, .int x1), (2, .int x2), (3, .int x3), (4, .int x4), (5, .int x5)]) hx hb dX10_two_29 hl (by decide) rfl (fun ls hl => ?_)
        refine lv_aload_n hx hb dX10_two_31 rfl (lv_at hl 1 rfl) ?_
        refine lv_aload_n hx hb dX10_two_32 rfl (lv_at hl 1 rfl) ?_
        refine gtM_28 cx ok hw dX10_two_33 ?_
        refine lv_iload_n hx hb dX10_two_36 rfl (lv_at hl 3 rfl) ?_
        obtain ⟨g5, hm⟩ := gd_ok hm
        refine ldM_28 cx ok hw g5 dX10_two_37 ?_
        refine lv_iload_n hx hb dX10_two_38 rfl (lv_at hl 4 rfl) ?_
        refine lv_iload hx hb dX10_two_39 (lv_at hl 6 rfl) ?_
        refine lv_iadd hx hb dX10_two_41 ?_
        refine lv_iload hx hb dX10_two_42 (lv_at hl 5 rfl) ?_
        obtain ⟨r7, h6, hm⟩ := bp_ok hm
        refine clV_Mi (As := [.int (σ.1 28 x2.toNatClampNeg), .int (x3 + x5), .int x4]) (rest := []) cx hml hl.1 ok hw hA (cM_itemSize l E _ σ (σ.1 28 x2.toNatClampNeg) (x3 + x5) x4 r7 h6) (cwM_itemSize hA9 ⟨Nat.le_of_ble_eq_true rfl, Nat.le_of_ble_eq_true rfl⟩) rfl rfl (Nat.le_of_ble_eq_true rfl) dX10_two_44 (fun H locs hw => ?_)
        refine lv_istore (lv' := [(7, .int r7), (6, .int r4), (0, .ref (E.2.2 1000)), (1, .int x1), (2, .int x2), (3, .int x3), (4, .int x4), (5, .int x5)]) hx hb dX10_two_47 hl (by decide) rfl (fun ls hl => ?_)
        refine lv_aload_n hx hb dX10_two_49 rfl (lv_at hl 2 rfl) ?_
        refine gtM_34 cx ok hw dX10_two_50 ?_
        refine lv_iload_n hx hb dX10_two_53 rfl (lv_at hl 3 rfl) ?_
        refine lv_dup2_11 hx hb dX10_two_54 rfl rfl ?_
        obtain ⟨g8, hm⟩ := gd_ok hm
        refine ldM_34 cx ok hw g8 dX10_two_55 ?_
        refine lv_aload_n hx hb dX10_two_56 rfl (lv_at hl 2 rfl) ?_
        refine lv_aload_n hx hb dX10_two_57 rfl (lv_at hl 2 rfl) ?_
        refine gtM_27 cx ok hw dX10_two_58 ?_
        refine lv_iload_n hx hb dX10_two_61 rfl (lv_at hl 4 rfl) ?_
        obtain ⟨g9, hm⟩ := gd_ok hm
        refine ldM_27 cx ok hw g9 dX10_two_62 ?_
        refine lv_iload_n hx hb dX10_two_63 rfl (lv_at hl 5 rfl) ?_
        refine lv_iload_n hx hb dX10_two_64 rfl (lv_at hl 5 rfl) ?_
        refine lv_iload hx hb dX10_two_65 (lv_at hl 7 rfl) ?_
        refine lv_iadd hx hb dX10_two_67 ?_
        refine lv_iconst (v := (1 : Int32)) hx hb dX10_two_68 (by decide) ?_
        refine lv_isub hx hb dX10_two_69 ?_
        obtain ⟨r11, h10, hm⟩ := bp_ok hm
        refine clV_Ml (As := [.int (σ.1 27 x2.toNatClampNeg), .int x3, .int ((x3 + x5) - (1 : Int32))]) (rest := [.long (σ.2 34 x1.toNatClampNeg), .int x1, .ref (E.2.2 34)]) cx hml hl.1 ok hw hA (cM_itemCount l E _ σ (σ.1 27 x2.toNatClampNeg) x3 ((x3 + x5) - (1 : Int32)) r11 h10) (cwM_itemCount hA9 ⟨Nat.le_of_ble_eq_true rfl, Nat.le_of_ble_eq_true rfl⟩) rfl rfl (Nat.le_of_ble_eq_true rfl) dX10_two_70 (fun H locs hw => ?_)
        refine lv_aload_n hx hb dX10_two_73 rfl (lv_at hl 2 rfl) ?_
        refine lv_aload_n hx hb dX10_two_74 rfl (lv_at hl 2 rfl) ?_
        refine gtM_28 cx ok hw dX10_two_75 ?_
        refine lv_iload_n hx hb dX10_two_78 rfl (lv_at hl 4 rfl) ?_
        obtain ⟨g12, hm⟩ := gd_ok hm
        refine ldM_28 cx ok hw g12 dX10_two_79 ?_
        refine lv_iload_n hx hb dX10_two_80 rfl (lv_at hl 5 rfl) ?_
        refine lv_iload hx hb dX10_two_81 (lv_at hl 7 rfl) ?_
        refine lv_iadd hx hb dX10_two_83 ?_
        refine lv_iload hx hb dX10_two_84 (lv_at hl 6 rfl) ?_
        obtain ⟨r14, h13, hm⟩ := bp_ok hm
        refine clV_Ml (As := [.int (σ.1 28 x2.toNatClampNeg), .int (x3 + x5), .int x4]) (rest := [.long r11, .long (σ.2 34 x1.toNatClampNeg), .int x1, .ref (E.2.2 34)]) cx hml hl.1 ok hw hA (cM_itemCount l E _ σ (σ.1 28 x2.toNatClampNeg) (x3 + x5) x4 r14 h13) (cwM_itemCount hA9 ⟨Nat.le_of_ble_eq_true rfl, Nat.le_of_ble_eq_true rfl⟩) rfl rfl (Nat.le_of_ble_eq_true rfl) dX10_two_86 (fun H locs hw => ?_)
        refine lv_lmul hx hb dX10_two_89 ?_
        refine lv_ladd hx hb dX10_two_90 ?_
        obtain ⟨g15, hm⟩ := gd_ok hm
        refine stM_34 cx ok hw g15 dX10_two_91 (fun H locs hw => ?_)
        obtain ⟨σ16, e17, hm⟩ := lt_ok hm
        have hw := wsM_eq e17 hw
        refine lv_iconst (v := (1 : Int32)) hx hb dX10_two_92 (by decide) ?_
        refine lv_istore (lv' := [(8, .int (1 : Int32)), (7, .int r7), (6, .int r4), (0, .ref (E.2.2 1000)), (1, .int x1), (2, .int x2), (3, .int x3), (4, .int x4), (5, .int x5)]) hx hb dX10_two_93 hl (by decide) rfl (fun ls hl => ?_)
        refine lv_iconst (v := (0 : Int32)) hx hb dX10_two_95 (by decide) ?_
        refine lv_istore (lv' := [(9, .int (0 : Int32)), (8, .int (1 : Int32)), (7, .int r7), (6, .int r4), (0, .ref (E.2.2 1000)), (1, .int x1), (2, .int x2), (3, .int x3), (4, .int x4), (5, .int x5)]) hx hb dX10_two_96 hl (by decide) rfl (fun ls hl => ?_)
        exact w_98 (M_two_l3 n f) ih n σ16 x1 x2 x3 x4 x5 r4 r7 (1 : Int32) (0 : Int32) H locs ls hw (lv_sub hl [4, 5, 6, 7, 8, 9, 3, 2, 1, 0] rfl) hm
  have hl : lv_has ls 13 [(0, .ref (E.2.2 1000)), (1, .int x1), (2, .int x2), (3, .int x3), (4, .int x4)] := hl
  unfold M_two at hm
  have goal0 : ∀ (H : Heap) (locs : List Loc), wsM E σ0 (va_A (wldM E σ0) sz) s H locs → W p l e rmM_two s m args below meth c H locs 0 0 (MQ below (QvM E σ0 σ' sz) args s 0 0 (va_A (wldM E σ0) sz)) (F0 m 0 ls []) := by
    intro H locs hw
    refine lv_iconst (v := (1 : Int32)) hx hb dX10_two_0 (by decide) ?_
    refine lv_istore (lv' := [(5, .int (1 : Int32)), (0, .ref (E.2.2 1000)), (1, .int x1), (2, .int x2), (3, .int x3), (4, .int x4)]) hx hb dX10_two_1 hl (by decide) rfl (fun ls hl => ?_)
    exact w_3 n σ0 x1 x2 x3 x4 (1 : Int32) H locs ls hw (lv_sub hl [1, 2, 3, 4, 5, 0] rfl) hm
  exact goal0 _ _ hw
theorem cwM_two {R : Room} {s : State} {args : Array Value} (h : ∀ w ∈ wA, w.before args s = true) (hR : rmM_two.frames + 1 ≤ R.frames ∧ 8 + (13 + 11) + rmM_two.locals ≤ R.locals) : CallW R s args RX10 RX10 235 yX10_two cX10_two 13 none (wz yX10_two cX10_two 13 none) rmM_two 0 0 4 := cwV 4 h (gdV k_1075 k_1077 ks_67 k_11 k_1078) rfl rfl rfl (by decide +kernel) hR
/-! private void order();: writes, loops -/
def M_order_l55 (n : Nat) (k23 : St → Int32 → Option St) (k31 : St → Int32 → Int32 → Option St) : Nat → St → Int32 → Int32 → Int32 → Int32 → Option St
  | 0, _, _, _, _, _ => none
  | f + 1, σ, x1, x2, x3, x4 =>
    if (σ.1 25 0) ≤ x4 then
      if x3 = 0 then
        lt (x2 + (1 : Int32)) fun x2_3 =>
        k31 σ x1 x2_3
      else
        gd x2 26 <|
        lt (sI σ 37 x2.toNatClampNeg x1) fun σ6 =>
        lt (x1 + (1 : Int32)) fun x1_8 =>
        lt (x2 + (1 : Int32)) fun x2_10 =>
        k31 σ6 x1_8 x2_10
    else
      gd x4 60 <|
      if (σ.1 26 x4.toNatClampNeg) = x2 then
        gd x4 60 <|
        if (σ.1 28 x4.toNatClampNeg) = (-1 : Int32) then
          gd x4 60 <|
          if (100 : Int32) ≤ (σ.1 27 x4.toNatClampNeg) then
            lt ((x3 &&& (1 : Int32))) fun x3_26 =>
            lt (x4 + (1 : Int32)) fun x4_28 =>
            (M_order_l55 n k23 k31 f) σ x1 x2 x3_26 x4_28
          else
            gd x4 60 <|
            gd (σ.1 27 x4.toNatClampNeg) 26 <|
            if (σ.1 37 (σ.1 27 x4.toNatClampNeg).toNatClampNeg) < 0 then
              lt ((x3 &&& (0 : Int32))) fun x3_33 =>
              lt (x4 + (1 : Int32)) fun x4_35 =>
              (M_order_l55 n k23 k31 f) σ x1 x2 x3_33 x4_35
            else
              lt ((x3 &&& (1 : Int32))) fun x3_37 =>
              lt (x4 + (1 : Int32)) fun x4_39 =>
              (M_order_l55 n k23 k31 f) σ x1 x2 x3_37 x4_39
        else
          lt ((x3 &&& (1 : Int32))) fun x3_20 =>
          lt (x4 + (1 : Int32)) fun x4_22 =>
          (M_order_l55 n k23 k31 f) σ x1 x2 x3_20 x4_22
      else
        lt ((x3 &&& (1 : Int32))) fun x3_14 =>
        lt (x4 + (1 : Int32)) fun x4_16 =>
        (M_order_l55 n k23 k31 f) σ x1 x2 x3_14 x4_16
def M_order_l31 (n : Nat) (k23 : St → Int32 → Option St) : Nat → St → Int32 → Int32 → Option St
  | 0, _, _, _ => none
  | f + 1, σ, x1, x2 =>
    if (26 : Int32) ≤ x2 then
      k23 σ x1
    else
      gd x2 26 <|
      if 0 ≤ (σ.1 37 x2.toNatClampNeg) then
        M_order_l55 n k23 (M_order_l31 n k23 f) n σ x1 x2 (0 : Int32) (0 : Int32)
      else
        M_order_l55 n k23 (M_order_l31 n k23 f) n σ x1 x2 (1 : Int32) (0 : Int32)
def M_order_l23 (n : Nat) : Nat → St → Int32 → Option St
  | 0, _, _ => none
  | f + 1, σ, x1 =>
    if (26 : Int32) ≤ x1 then
      some σ
    else
      M_order_l31 n (M_order_l23 n f) n σ x1 (0 : Int32)
def M_order_l2 (n : Nat) : Nat → St → Int32 → Option St
  | 0, _, _ => none
  | f + 1, σ, x1 =>
    if (26 : Int32) ≤ x1 then
      M_order_l23 n n σ (0 : Int32)
    else
      gd x1 26 <|
      lt (sI σ 37 x1.toNatClampNeg (-1 : Int32)) fun σ3 =>
      lt (x1 + (1 : Int32)) fun x1_5 =>
      (M_order_l2 n f) σ3 x1_5
def M_order (n : Nat) (σ0 : St) : Option St :=
  M_order_l2 n n σ0 (0 : Int32)
abbrev rmM_order : Room := { frames := 0, cells := 0, slots := 0, locals := 0 }
set_option maxHeartbeats 4000000 in
set_option maxRecDepth 100000 in
theorem cM_order (l : Launch) (E : Ev) (n : Nat) (sz : Nat) (σ0 σ' : St) (hm : M_order n σ0 = some σ') : Met l yX10_order (wz yX10_order cX10_order 5 none) rmM_order (PwM E [.ref (E.2.2 1000)] σ0 sz) (QvM E σ0 σ' sz) 0 0 (va_A (wldM E σ0) sz) := by
  refine enM (by decide) rfl (Nat.le_of_ble_eq_true rfl) (fun p e s m args below meth c cx hr hlk hml hsz ok hw ls hl => ?_)
  have hx := cx.1
  have hb := cx.2.1
  have hA9 := cx.2.2.2
  have hA : ∀ q, s.heap.size ≤ q → (va_A (wldM E σ0) sz) q := fun q h => Or.inr (by rw [← hsz]; exact h)
  have w_55 : ∀ (k23 : St → Int32 → Option St) (hk23 : ∀ (σ : St) (x1 : Int32) (H : Heap) (locs : List Loc) (ls : Array Slot), wsM E σ (va_A (wldM E σ0) sz) s H locs → lv_has ls 5 [(0, .ref (E.2.2 1000)), (1, .int x1)] → k23 σ x1 = some σ' → W p l e rmM_order s m args below meth c H locs 0 0 (MQ below (QvM E σ0 σ' sz) args s 0 0 (va_A (wldM E σ0) sz)) (F0 m 23 ls [])) (k31 : St → Int32 → Int32 → Option St) (hk31 : ∀ (σ : St) (x1 : Int32) (x2 : Int32) (H : Heap) (locs : List Loc) (ls : Array Slot), wsM E σ (va_A (wldM E σ0) sz) s H locs → lv_has ls 5 [(0, .ref (E.2.2 1000)), (1, .int x1), (2, .int x2)] → k31 σ x1 x2 = some σ' → W p l e rmM_order s m args below meth c H locs 0 0 (MQ below (QvM E σ0 σ' sz) args s 0 0 (va_A (wldM E σ0) sz)) (F0 m 31 ls [])), ∀ (f : Nat), ∀ (σ : St) (x1 : Int32) (x2 : Int32) (x3 : Int32) (x4 : Int32) (H : Heap) (locs : List Loc) (ls : Array Slot), wsM E σ (va_A (wldM E σ0) sz) s H locs → lv_has ls 5 [(0, .ref (E.2.2 1000)), (1, .int x1), (2, .int x2), (3, .int x3), (4, .int x4)] → M_order_l55 n k23 k31 f σ x1 x2 x3 x4 = some σ' → W p l e rmM_order s m args below meth c H locs 0 0 (MQ below (QvM E σ0 σ' sz) args s 0 0 (va_A (wldM E σ0) sz)) (F0 m 55 ls []) := by
    intro k23 hk23 k31 hk31
    intro f
    induction f with
    | zero =>
      intro σ x1 x2 x3 x4 H locs ls hw hl hm
      rw [M_order_l55] at hm
      cases hm
    | succ f ih =>
      intro σ x1 x2 x3 x4 H locs ls hw hl hm
      rw [M_order_l55] at hm
      refine lv_iload hx hb dX10_order_55 (lv_at hl 4 rfl) ?_
      refine lv_aload_n hx hb dX10_order_57 rfl (lv_at hl 0 rfl) ?_
      refine gtM_25 cx ok hw dX10_order_58 ?_
      refine lv_icmp_ge (tgt := 127) hx hb dX10_order_61 (by decide) (fun c1 => ?_) (fun c1 => ?_)
      · have hm := if_t c1 hm
        refine lv_iload_n hx hb dX10_order_127 rfl (lv_at hl 3 rfl) ?_
        refine lv_if_eq (tgt := 141) hx hb dX10_order_128 (by decide) (fun c2 => ?_) (fun c2 => ?_)
        · have hm := if_t c2 hm
          obtain ⟨x2_3, e4, hm⟩ := lt_ok hm
          refine lv_iinc (v := x2_3) (lv' := [(2, .int x2_3), (0, .ref (E.2.2 1000)), (1, .int x1), (3, .int x3), (4, .int x4)]) hx hb dX10_order_141 hl (k := 2) rfl (by rw [e4]; rfl) (by decide) rfl (fun ls hl => ?_)
          refine lv_goto (tgt := 31) hx hb dX10_order_144 (by decide) ?_
          exact hk31 σ x1 x2_3 H locs ls hw (lv_sub hl [1, 2, 0] rfl) hm
        · have hm := if_f c2 hm
          refine lv_aload_n hx hb dX10_order_131 rfl (lv_at hl 0 rfl) ?_
          refine gtM_37 cx ok hw dX10_order_132 ?_
          refine lv_iload_n hx hb dX10_order_135 rfl (lv_at hl 2 rfl) ?_
          refine lv_iload_n hx hb dX10_order_136 rfl (lv_at hl 1 rfl) ?_
          obtain ⟨g5, hm⟩ := gd_ok hm
          refine stM_37 cx ok hw g5 dX10_order_137 (fun H locs hw => ?_)
          obtain ⟨σ6, e7, hm⟩ := lt_ok hm
          have hw := wsM_eq e7 hw
          obtain ⟨x1_8, e9, hm⟩ := lt_ok hm
          refine lv_iinc (v := x1_8) (lv' := [(1, .int x1_8), (0, .ref (E.2.2 1000)), (2, .int x2), (3, .int x3), (4, .int x4)]) hx hb dX10_order_138 hl (k := 1) rfl (by rw [e9]; rfl) (by decide) rfl (fun ls hl => ?_)
          obtain ⟨x2_10, e11, hm⟩ := lt_ok hm
          refine lv_iinc (v := x2_10) (lv' := [(2, .int x2_10), (1, .int x1_8), (0, .ref (E.2.2 1000)), (3, .int x3), (4, .int x4)]) hx hb dX10_order_141 hl (k := 2) rfl (by rw [e11]; rfl) (by decide) rfl (fun ls hl => ?_)
          refine lv_goto (tgt := 31) hx hb dX10_order_144 (by decide) ?_
          exact hk31 σ6 x1_8 x2_10 H locs ls hw (lv_sub hl [2, 1, 0] rfl) hm
      · have hm := if_f c1 hm
        refine lv_iload_n hx hb dX10_order_64 rfl (lv_at hl 3 rfl) ?_
        refine lv_aload_n hx hb dX10_order_65 rfl (lv_at hl 0 rfl) ?_
        refine gtM_26 cx ok hw dX10_order_66 ?_
        refine lv_iload hx hb dX10_order_69 (lv_at hl 4 rfl) ?_
        obtain ⟨g12, hm⟩ := gd_ok hm
        refine ldM_26 cx ok hw g12 dX10_order_71 ?_
        refine lv_iload_n hx hb dX10_order_72 rfl (lv_at hl 2 rfl) ?_
        refine lv_icmp_ne (tgt := 114) hx hb dX10_order_73 (by decide) (fun c13 => ?_) (fun c13 => ?_)
        · have hm := if_f c13 hm
          refine lv_iconst (v := (1 : Int32)) hx hb dX10_order_114 (by decide) ?_
          refine lv_goto (tgt := 119) hx hb dX10_order_115 (by decide) ?_
          refine lv_iand hx hb dX10_order_119 ?_
          obtain ⟨x3_14, e15, hm⟩ := lt_ok hm
          refine ti_eq e15 ?_
          refine lv_istore_n (lv' := [(3, .int x3_14), (0, .ref (E.2.2 1000)), (1, .int x1), (2, .int x2), (4, .int x4)]) hx hb dX10_order_120 rfl hl (by decide) rfl (fun ls hl => ?_)
          obtain ⟨x4_16, e17, hm⟩ := lt_ok hm
          refine lv_iinc (v := x4_16) (lv' := [(4, .int x4_16), (3, .int x3_14), (0, .ref (E.2.2 1000)), (1, .int x1), (2, .int x2)]) hx hb dX10_order_121 hl (k := 4) rfl (by rw [e17]; rfl) (by decide) rfl (fun ls hl => ?_)
          refine lv_goto (tgt := 55) hx hb dX10_order_124 (by decide) ?_
          exact ih σ x1 x2 x3_14 x4_16 H locs ls hw (lv_sub hl [2, 3, 4, 1, 0] rfl) hm
        · have hm := if_t c13 hm
          refine lv_aload_n hx hb dX10_order_76 rfl (lv_at hl 0 rfl) ?_
          refine gtM_28 cx ok hw dX10_order_77 ?_
          refine lv_iload hx hb dX10_order_80 (lv_at hl 4 rfl) ?_
          obtain ⟨g18, hm⟩ := gd_ok hm
          refine ldM_28 cx ok hw g18 dX10_order_82 ?_
          refine lv_iconst (v := (-1 : Int32)) hx hb dX10_order_83 (by decide) ?_
          refine lv_icmp_ne (tgt := 114) hx hb dX10_order_84 (by decide) (fun c19 => ?_) (fun c19 => ?_)
          · have hm := if_f c19 hm
            refine lv_iconst (v := (1 : Int32)) hx hb dX10_order_114 (by decide) ?_
            refine lv_goto (tgt := 119) hx hb dX10_order_115 (by decide) ?_
            refine lv_iand hx hb dX10_order_119 ?_
            obtain ⟨x3_20, e21, hm⟩ := lt_ok hm
            refine ti_eq e21 ?_
            refine lv_istore_n (lv' := [(3, .int x3_20), (0, .ref (E.2.2 1000)), (1, .int x1), (2, .int x2), (4, .int x4)]) hx hb dX10_order_120 rfl hl (by decide) rfl (fun ls hl => ?_)
            obtain ⟨x4_22, e23, hm⟩ := lt_ok hm
            refine lv_iinc (v := x4_22) (lv' := [(4, .int x4_22), (3, .int x3_20), (0, .ref (E.2.2 1000)), (1, .int x1), (2, .int x2)]) hx hb dX10_order_121 hl (k := 4) rfl (by rw [e23]; rfl) (by decide) rfl (fun ls hl => ?_)
            refine lv_goto (tgt := 55) hx hb dX10_order_124 (by decide) ?_
            exact ih σ x1 x2 x3_20 x4_22 H locs ls hw (lv_sub hl [2, 3, 4, 1, 0] rfl) hm
          · have hm := if_t c19 hm
            refine lv_aload_n hx hb dX10_order_87 rfl (lv_at hl 0 rfl) ?_
            refine gtM_27 cx ok hw dX10_order_88 ?_
            refine lv_iload hx hb dX10_order_91 (lv_at hl 4 rfl) ?_
            obtain ⟨g24, hm⟩ := gd_ok hm
            refine ldM_27 cx ok hw g24 dX10_order_93 ?_
            refine lv_bipush (v := (100 : Int32)) hx hb dX10_order_94 (by decide) ?_
            refine lv_icmp_ge (tgt := 114) hx hb dX10_order_96 (by decide) (fun c25 => ?_) (fun c25 => ?_)
            · have hm := if_t c25 hm
              refine lv_iconst (v := (1 : Int32)) hx hb dX10_order_114 (by decide) ?_
              refine lv_goto (tgt := 119) hx hb dX10_order_115 (by decide) ?_
              refine lv_iand hx hb dX10_order_119 ?_
              obtain ⟨x3_26, e27, hm⟩ := lt_ok hm
              refine ti_eq e27 ?_
              refine lv_istore_n (lv' := [(3, .int x3_26), (0, .ref (E.2.2 1000)), (1, .int x1), (2, .int x2), (4, .int x4)]) hx hb dX10_order_120 rfl hl (by decide) rfl (fun ls hl => ?_)
              obtain ⟨x4_28, e29, hm⟩ := lt_ok hm
              refine lv_iinc (v := x4_28) (lv' := [(4, .int x4_28), (3, .int x3_26), (0, .ref (E.2.2 1000)), (1, .int x1), (2, .int x2)]) hx hb dX10_order_121 hl (k := 4) rfl (by rw [e29]; rfl) (by decide) rfl (fun ls hl => ?_)
              refine lv_goto (tgt := 55) hx hb dX10_order_124 (by decide) ?_
              exact ih σ x1 x2 x3_26 x4_28 H locs ls hw (lv_sub hl [2, 3, 4, 1, 0] rfl) hm
            · have hm := if_f c25 hm
              refine lv_aload_n hx hb dX10_order_99 rfl (lv_at hl 0 rfl) ?_
              refine gtM_37 cx ok hw dX10_order_100 ?_
              refine lv_aload_n hx hb dX10_order_103 rfl (lv_at hl 0 rfl) ?_
              refine gtM_27 cx ok hw dX10_order_104 ?_
              refine lv_iload hx hb dX10_order_107 (lv_at hl 4 rfl) ?_
              obtain ⟨g30, hm⟩ := gd_ok hm
              refine ldM_27 cx ok hw g30 dX10_order_109 ?_
              obtain ⟨g31, hm⟩ := gd_ok hm
              refine ldM_37 cx ok hw g31 dX10_order_110 ?_
              refine lv_if_lt (tgt := 118) hx hb dX10_order_111 (by decide) (fun c32 => ?_) (fun c32 => ?_)
              · have hm := if_t c32 hm
                refine lv_iconst (v := (0 : Int32)) hx hb dX10_order_118 (by decide) ?_
                refine lv_iand hx hb dX10_order_119 ?_
                obtain ⟨x3_33, e34, hm⟩ := lt_ok hm
                refine ti_eq e34 ?_
                refine lv_istore_n (lv' := [(3, .int x3_33), (0, .ref (E.2.2 1000)), (1, .int x1), (2, .int x2), (4, .int x4)]) hx hb dX10_order_120 rfl hl (by decide) rfl (fun ls hl => ?_)
                obtain ⟨x4_35, e36, hm⟩ := lt_ok hm
                refine lv_iinc (v := x4_35) (lv' := [(4, .int x4_35), (3, .int x3_33), (0, .ref (E.2.2 1000)), (1, .int x1), (2, .int x2)]) hx hb dX10_order_121 hl (k := 4) rfl (by rw [e36]; rfl) (by decide) rfl (fun ls hl => ?_)
                refine lv_goto (tgt := 55) hx hb dX10_order_124 (by decide) ?_
                exact ih σ x1 x2 x3_33 x4_35 H locs ls hw (lv_sub hl [2, 3, 4, 1, 0] rfl) hm
              · have hm := if_f c32 hm
                refine lv_iconst (v := (1 : Int32)) hx hb dX10_order_114 (by decide) ?_
                refine lv_goto (tgt := 119) hx hb dX10_order_115 (by decide) ?_
                refine lv_iand hx hb dX10_order_119 ?_
                obtain ⟨x3_37, e38, hm⟩ := lt_ok hm
                refine ti_eq e38 ?_
                refine lv_istore_n (lv' := [(3, .int x3_37), (0, .ref (E.2.2 1000)), (1, .int x1), (2, .int x2), (4, .int x4)]) hx hb dX10_order_120 rfl hl (by decide) rfl (fun ls hl => ?_)
                obtain ⟨x4_39, e40, hm⟩ := lt_ok hm
                refine lv_iinc (v := x4_39) (lv' := [(4, .int x4_39), (3, .int x3_37), (0, .ref (E.2.2 1000)), (1, .int x1), (2, .int x2)]) hx hb dX10_order_121 hl (k := 4) rfl (by rw [e40]; rfl) (by decide) rfl (fun ls hl => ?_)
                refine lv_goto (tgt := 55) hx hb dX10_order_124 (by decide) ?_
                exact ih σ x1 x2 x3_37 x4_39 H locs ls hw (lv_sub hl [2, 3, 4, 1, 0] rfl) hm
  have w_31 : ∀ (k23 : St → Int32 → Option St) (hk23 : ∀ (σ : St) (x1 : Int32) (H : Heap) (locs : List Loc) (ls : Array Slot), wsM E σ (va_A (wldM E σ0) sz) s H locs → lv_has ls 5 [(0, .ref (E.2.2 1000)), (1, .int x1)] → k23 σ x1 = some σ' → W p l e rmM_order s m args below meth c H locs 0 0 (MQ below (QvM E σ0 σ' sz) args s 0 0 (va_A (wldM E σ0) sz)) (F0 m 23 ls [])), ∀ (f : Nat), ∀ (σ : St) (x1 : Int32) (x2 : Int32) (H : Heap) (locs : List Loc) (ls : Array Slot), wsM E σ (va_A (wldM E σ0) sz) s H locs → lv_has ls 5 [(0, .ref (E.2.2 1000)), (1, .int x1), (2, .int x2)] → M_order_l31 n k23 f σ x1 x2 = some σ' → W p l e rmM_order s m args below meth c H locs 0 0 (MQ below (QvM E σ0 σ' sz) args s 0 0 (va_A (wldM E σ0) sz)) (F0 m 31 ls []) := by
    intro k23 hk23
    intro f
    induction f with
    | zero =>
      intro σ x1 x2 H locs ls hw hl hm
      rw [M_order_l31] at hm
      cases hm
    | succ f ih =>
      intro σ x1 x2 H locs ls hw hl hm
      rw [M_order_l31] at hm
      refine lv_iload_n hx hb dX10_order_31 rfl (lv_at hl 2 rfl) ?_
      refine lv_bipush (v := (26 : Int32)) hx hb dX10_order_32 (by decide) ?_
      refine lv_icmp_ge (tgt := 147) hx hb dX10_order_34 (by decide) (fun c1 => ?_) (fun c1 => ?_)
      · have hm := if_t c1 hm
        refine lv_goto (tgt := 23) hx hb dX10_order_147 (by decide) ?_
        exact hk23 σ x1 H locs ls hw (lv_sub hl [0, 1] rfl) hm
      · have hm := if_f c1 hm
        refine lv_aload_n hx hb dX10_order_37 rfl (lv_at hl 0 rfl) ?_
        refine gtM_37 cx ok hw dX10_order_38 ?_
        refine lv_iload_n hx hb dX10_order_41 rfl (lv_at hl 2 rfl) ?_
        obtain ⟨g2, hm⟩ := gd_ok hm
        refine ldM_37 cx ok hw g2 dX10_order_42 ?_
        refine lv_if_ge (tgt := 50) hx hb dX10_order_43 (by decide) (fun c3 => ?_) (fun c3 => ?_)
        · have hm := if_t c3 hm
          refine lv_iconst (v := (0 : Int32)) hx hb dX10_order_50 (by decide) ?_
          refine lv_istore_n (lv' := [(3, .int (0 : Int32)), (0, .ref (E.2.2 1000)), (1, .int x1), (2, .int x2)]) hx hb dX10_order_51 rfl hl (by decide) rfl (fun ls hl => ?_)
          refine lv_iconst (v := (0 : Int32)) hx hb dX10_order_52 (by decide) ?_
          refine lv_istore (lv' := [(4, .int (0 : Int32)), (3, .int (0 : Int32)), (0, .ref (E.2.2 1000)), (1, .int x1), (2, .int x2)]) hx hb dX10_order_53 hl (by decide) rfl (fun ls hl => ?_)
          exact w_55 k23 hk23 (M_order_l31 n k23 f) ih n σ x1 x2 (0 : Int32) (0 : Int32) H locs ls hw (lv_sub hl [2, 3, 4, 1, 0] rfl) hm
        · have hm := if_f c3 hm
          refine lv_iconst (v := (1 : Int32)) hx hb dX10_order_46 (by decide) ?_
          refine lv_goto (tgt := 51) hx hb dX10_order_47 (by decide) ?_
          refine lv_istore_n (lv' := [(3, .int (1 : Int32)), (0, .ref (E.2.2 1000)), (1, .int x1), (2, .int x2)]) hx hb dX10_order_51 rfl hl (by decide) rfl (fun ls hl => ?_)
          refine lv_iconst (v := (0 : Int32)) hx hb dX10_order_52 (by decide) ?_
          refine lv_istore (lv' := [(4, .int (0 : Int32)), (3, .int (1 : Int32)), (0, .ref (E.2.2 1000)), (1, .int x1), (2, .int x2)]) hx hb dX10_order_53 hl (by decide) rfl (fun ls hl => ?_)
          exact w_55 k23 hk23 (M_order_l31 n k23 f) ih n σ x1 x2 (1 : Int32) (0 : Int32) H locs ls hw (lv_sub hl [2, 3, 4, 1, 0] rfl) hm
  have w_23 : ∀ (f : Nat), ∀ (σ : St) (x1 : Int32) (H : Heap) (locs : List Loc) (ls : Array Slot), wsM E σ (va_A (wldM E σ0) sz) s H locs → lv_has ls 5 [(0, .ref (E.2.2 1000)), (1, .int x1)] → M_order_l23 n f σ x1 = some σ' → W p l e rmM_order s m args below meth c H locs 0 0 (MQ below (QvM E σ0 σ' sz) args s 0 0 (va_A (wldM E σ0) sz)) (F0 m 23 ls []) := by
    intro f
    induction f with
    | zero =>
      intro σ x1 H locs ls hw hl hm
      rw [M_order_l23] at hm
      cases hm
    | succ f ih =>
      intro σ x1 H locs ls hw hl hm
      rw [M_order_l23] at hm
      refine lv_iload_n hx hb dX10_order_23 rfl (lv_at hl 1 rfl) ?_
      refine lv_bipush (v := (26 : Int32)) hx hb dX10_order_24 (by decide) ?_
      refine lv_icmp_ge (tgt := 150) hx hb dX10_order_26 (by decide) (fun c1 => ?_) (fun c1 => ?_)
      · have hm := if_t c1 hm
        exact rtM_v cx hr hlk hw hm dX10_order_150
      · have hm := if_f c1 hm
        refine lv_iconst (v := (0 : Int32)) hx hb dX10_order_29 (by decide) ?_
        refine lv_istore_n (lv' := [(2, .int (0 : Int32)), (0, .ref (E.2.2 1000)), (1, .int x1)]) hx hb dX10_order_30 rfl hl (by decide) rfl (fun ls hl => ?_)
        exact w_31 (M_order_l23 n f) ih n σ x1 (0 : Int32) H locs ls hw (lv_sub hl [1, 2, 0] rfl) hm
  have w_2 : ∀ (f : Nat), ∀ (σ : St) (x1 : Int32) (H : Heap) (locs : List Loc) (ls : Array Slot), wsM E σ (va_A (wldM E σ0) sz) s H locs → lv_has ls 5 [(0, .ref (E.2.2 1000)), (1, .int x1)] → M_order_l2 n f σ x1 = some σ' → W p l e rmM_order s m args below meth c H locs 0 0 (MQ below (QvM E σ0 σ' sz) args s 0 0 (va_A (wldM E σ0) sz)) (F0 m 2 ls []) := by
    intro f
    induction f with
    | zero =>
      intro σ x1 H locs ls hw hl hm
      rw [M_order_l2] at hm
      cases hm
    | succ f ih =>
      intro σ x1 H locs ls hw hl hm
      rw [M_order_l2] at hm
      refine lv_iload_n hx hb dX10_order_2 rfl (lv_at hl 1 rfl) ?_
      refine lv_bipush (v := (26 : Int32)) hx hb dX10_order_3 (by decide) ?_
      refine lv_icmp_ge (tgt := 21) hx hb dX10_order_5 (by decide) (fun c1 => ?_) (fun c1 => ?_)
      · have hm := if_t c1 hm
        refine lv_iconst (v := (0 : Int32)) hx hb dX10_order_21 (by decide) ?_
        refine lv_istore_n (lv' := [(1, .int (0 : Int32)), (0, .ref (E.2.2 1000))]) hx hb dX10_order_22 rfl hl (by decide) rfl (fun ls hl => ?_)
        exact w_23 n σ (0 : Int32) H locs ls hw (lv_sub hl [1, 0] rfl) hm
      · have hm := if_f c1 hm
        refine lv_aload_n hx hb dX10_order_8 rfl (lv_at hl 0 rfl) ?_
        refine gtM_37 cx ok hw dX10_order_9 ?_
        refine lv_iload_n hx hb dX10_order_12 rfl (lv_at hl 1 rfl) ?_
        refine lv_iconst (v := (-1 : Int32)) hx hb dX10_order_13 (by decide) ?_
        obtain ⟨g2, hm⟩ := gd_ok hm
        refine stM_37 cx ok hw g2 dX10_order_14 (fun H locs hw => ?_)
        obtain ⟨σ3, e4, hm⟩ := lt_ok hm
        have hw := wsM_eq e4 hw
        obtain ⟨x1_5, e6, hm⟩ := lt_ok hm
        refine lv_iinc (v := x1_5) (lv' := [(1, .int x1_5), (0, .ref (E.2.2 1000))]) hx hb dX10_order_15 hl (k := 1) rfl (by rw [e6]; rfl) (by decide) rfl (fun ls hl => ?_)
        refine lv_goto (tgt := 2) hx hb dX10_order_18 (by decide) ?_
        exact ih σ3 x1_5 H locs ls hw (lv_sub hl [1, 0] rfl) hm
  have hl : lv_has ls 5 [(0, .ref (E.2.2 1000))] := hl
  unfold M_order at hm
  have goal0 : ∀ (H : Heap) (locs : List Loc), wsM E σ0 (va_A (wldM E σ0) sz) s H locs → W p l e rmM_order s m args below meth c H locs 0 0 (MQ below (QvM E σ0 σ' sz) args s 0 0 (va_A (wldM E σ0) sz)) (F0 m 0 ls []) := by
    intro H locs hw
    refine lv_iconst (v := (0 : Int32)) hx hb dX10_order_0 (by decide) ?_
    refine lv_istore_n (lv' := [(1, .int (0 : Int32)), (0, .ref (E.2.2 1000))]) hx hb dX10_order_1 rfl hl (by decide) rfl (fun ls hl => ?_)
    exact w_2 n σ0 (0 : Int32) H locs ls hw (lv_sub hl [1, 0] rfl) hm
  exact goal0 _ _ hw
theorem cwM_order {R : Room} {s : State} {args : Array Value} (h : ∀ w ∈ wA, w.before args s = true) (hR : rmM_order.frames + 1 ≤ R.frames ∧ 8 + (5 + 11) + rmM_order.locals ≤ R.locals) : CallW R s args RX10 RX10 225 yX10_order cX10_order 5 none (wz yX10_order cX10_order 5 none) rmM_order 0 0 0 := cwV 0 h (gdV k_1044 k_1046 ks_60 k_11 k_1047) rfl rfl rfl (by decide +kernel) hR

/-! ChordGrammars$Chart.countOfAll: reads only -/
def C_Chart_countOfAll (σ0 : St) : Option Int64 :=
  if (σ0.1 118 0) = 0 then
    some (0 : Int64)
  else
    bp (C_Chart_wholeRow σ0) fun r3 =>
    gd r3 7800 <|
    some (σ0.2 115 r3.toNatClampNeg)
abbrev rmC_Chart_countOfAll : Room := { frames := 2, cells := 0, slots := 0, locals := 42 }
set_option maxHeartbeats 4000000 in
set_option maxRecDepth 100000 in
theorem cC_Chart_countOfAll (l : Launch) (E : Ev) (sz : Nat) (σ0 : St) (r : Int64) (hm : C_Chart_countOfAll σ0 = some r) : Met l yX0_countOfAll (wz yX0_countOfAll cX0_countOfAll 1 (some .long)) rmC_Chart_countOfAll (PwC E [.ref (E.2.2 1007)] σ0 sz) (QlC E σ0 σ0 sz r) 0 0 (va_A (wldC E σ0) sz) := by
  refine enC (own := RX0) (by decide) rfl (Nat.le_of_ble_eq_true rfl) (fun p e s m args below meth c cx hr hlk hml hsz ok hw ls hl => ?_)
  have hx := cx.1
  have hb := cx.2.1
  have hA9 := cx.2.2.2
  have hA : ∀ q, s.heap.size ≤ q → (va_A (wldC E σ0) sz) q := fun q h => Or.inr (by rw [← hsz]; exact h)
  have hl : lv_has ls 1 [(0, .ref (E.2.2 1007))] := hl
  unfold C_Chart_countOfAll at hm
  have goal0 : ∀ (H : Heap) (locs : List Loc), wsC E σ0 (va_A (wldC E σ0) sz) s H locs → W p l e rmC_Chart_countOfAll s m args below meth c H locs 0 0 (MQ below (QlC E σ0 σ0 sz r) args s 0 0 (va_A (wldC E σ0) sz)) (F0 m 0 ls []) := by
    intro H locs hw
    refine lv_aload_n hx hb dX0_countOfAll_0 rfl (lv_at hl 0 rfl) ?_
    refine gtC_X0_7_6 cx ok hw dX0_countOfAll_1 ?_
    refine lv_if_ne (tgt := 11) hx hb dX0_countOfAll_4 (by decide) (fun c1 => ?_) (fun c1 => ?_)
    · have hm := if_f c1 hm
      refine lv_aload_n hx hb dX0_countOfAll_11 rfl (lv_at hl 0 rfl) ?_
      refine gtC_X0_7_3 cx ok hw dX0_countOfAll_12 ?_
      refine lv_aload_n hx hb dX0_countOfAll_15 rfl (lv_at hl 0 rfl) ?_
      obtain ⟨r3, h2, hm⟩ := bp_ok hm
      refine clV_Ci (As := []) (rest := [.ref (E.2.2 115)]) cx hml hl.1 ok hw hA (rcC_7 ok hw) (cC_Chart_wholeRow l E _ σ0 r3 h2) (cwC_X0_Chart_wholeRow hA9 ⟨Nat.le_of_ble_eq_true rfl, Nat.le_of_ble_eq_true rfl⟩) rfl rfl (Nat.le_of_ble_eq_true rfl) dX0_countOfAll_16 (fun H locs hw => ?_)
      obtain ⟨g4, hm⟩ := gd_ok hm
      refine ldC_115 cx ok hw g4 dX0_countOfAll_19 ?_
      exact rtC_l cx hr hlk hw (pr_some hm) dX0_countOfAll_20
    · have hm := if_t c1 hm
      refine lv_lconst (v := (0 : Int64)) hx hb dX0_countOfAll_7 (by decide) ?_
      refine lv_goto (tgt := 20) hx hb dX0_countOfAll_8 (by decide) ?_
      exact rtC_l cx hr hlk hw (pr_some hm) dX0_countOfAll_20
  exact goal0 _ _ hw
theorem cwC_X9_Chart_countOfAll {R : Room} {s : State} {args : Array Value} {E : Ev} {A : Nat → Prop} (h : ∀ w ∈ wA, w.before args s = true) (ok : okC E A s) (hR : rmC_Chart_countOfAll.frames + 1 ≤ R.frames ∧ 8 + (1 + 11) + rmC_Chart_countOfAll.locals ≤ R.locals) : va_CN R s args RX9 131 yX0_countOfAll "ChordGrammars" cX0_countOfAll 1 (some .long) (wz yX0_countOfAll cX0_countOfAll 1 (some .long)) rmC_Chart_countOfAll 0 0 0 ∧ (Cond.instanceMethod yX0_countOfAll).before args s = true ∧ (Cond.selects RX0 yX0_countOfAll yX0_countOfAll).before args s = true := ⟨va_cnB 0 h (gdC k_606) rfl rfl rfl (ok.2.1 _ kn_603) (h _ k_8) (by decide +kernel) hR, h _ k_605, h _ ks_36⟩
/-! ChordGrammars.readings: reads only -/
def C_CG_readings (σ0 : St) : Option Int64 :=
  bp (C_Chart_countOfAll σ0) fun r2 =>
  some r2
abbrev rmC_CG_readings : Room := { frames := 3, cells := 0, slots := 0, locals := 62 }
set_option maxHeartbeats 4000000 in
set_option maxRecDepth 100000 in
theorem cC_CG_readings (l : Launch) (E : Ev) (sz : Nat) (σ0 : St) (r : Int64) (hm : C_CG_readings σ0 = some r) : Met l yX9_readings (wz yX9_readings cX9_readings 1 (some .long)) rmC_CG_readings (PwC E [.ref (E.2.2 1000)] σ0 sz) (QlC E σ0 σ0 sz r) 0 0 (va_A (wldC E σ0) sz) := by
  refine enC (own := RX9) (by decide) rfl (Nat.le_of_ble_eq_true rfl) (fun p e s m args below meth c cx hr hlk hml hsz ok hw ls hl => ?_)
  have hx := cx.1
  have hb := cx.2.1
  have hA9 := cx.2.2.2
  have hA : ∀ q, s.heap.size ≤ q → (va_A (wldC E σ0) sz) q := fun q h => Or.inr (by rw [← hsz]; exact h)
  have hl : lv_has ls 1 [(0, .ref (E.2.2 1000))] := hl
  unfold C_CG_readings at hm
  have goal0 : ∀ (H : Heap) (locs : List Loc), wsC E σ0 (va_A (wldC E σ0) sz) s H locs → W p l e rmC_CG_readings s m args below meth c H locs 0 0 (MQ below (QlC E σ0 σ0 sz r) args s 0 0 (va_A (wldC E σ0) sz)) (F0 m 0 ls []) := by
    intro H locs hw
    refine lv_aload_n hx hb dX9_readings_0 rfl (lv_at hl 0 rfl) ?_
    refine gtC_X9_0_6 cx ok hw dX9_readings_1 ?_
    obtain ⟨r2, h1, hm⟩ := bp_ok hm
    refine clVN_Cl (As := []) (rest := []) cx hml hl.1 ok hw hA (rcC_7 ok hw) (cC_Chart_countOfAll l E _ σ0 r2 h1) (cwC_X9_Chart_countOfAll hA9 ok ⟨Nat.le_of_ble_eq_true rfl, Nat.le_of_ble_eq_true rfl⟩) rfl rfl (Nat.le_of_ble_eq_true rfl) dX9_readings_4 (fun H locs hw => ?_)
    exact rtC_l cx hr hlk hw (pr_some hm) dX9_readings_7
  exact goal0 _ _ hw
/-! ChordGrammars.isListed: reads only -/
def C_CG_isListed (σ0 : St) (x1 : Int32) : Option Int32 :=
  if x1 < 0 then
    some (0 : Int32)
  else
    bp (C_Chart_listed σ0) fun r3 =>
    if r3 ≤ x1 then
      some (0 : Int32)
    else
      some (1 : Int32)
abbrev rmC_CG_isListed : Room := { frames := 3, cells := 0, slots := 0, locals := 62 }
set_option maxHeartbeats 4000000 in
set_option maxRecDepth 100000 in
theorem cC_CG_isListed (l : Launch) (E : Ev) (sz : Nat) (σ0 : St) (x1 : Int32) (r : Int32) (hm : C_CG_isListed σ0 x1 = some r) : Met l yX9_isListed (wz yX9_isListed cX9_isListed 2 (some .boolean)) rmC_CG_isListed (PwC E [.ref (E.2.2 1000), .int x1] σ0 sz) (QiC E σ0 σ0 sz r) 0 0 (va_A (wldC E σ0) sz) := by
  refine enC (own := RX9) (by decide) rfl (Nat.le_of_ble_eq_true rfl) (fun p e s m args below meth c cx hr hlk hml hsz ok hw ls hl => ?_)
  have hx := cx.1
  have hb := cx.2.1
  have hA9 := cx.2.2.2
  have hA : ∀ q, s.heap.size ≤ q → (va_A (wldC E σ0) sz) q := fun q h => Or.inr (by rw [← hsz]; exact h)
  have hl : lv_has ls 2 [(0, .ref (E.2.2 1000)), (1, .int x1)] := hl
  unfold C_CG_isListed at hm
  have goal0 : ∀ (H : Heap) (locs : List Loc), wsC E σ0 (va_A (wldC E σ0) sz) s H locs → W p l e rmC_CG_isListed s m args below meth c H locs 0 0 (MQ below (QiC E σ0 σ0 sz r) args s 0 0 (va_A (wldC E σ0) sz)) (F0 m 0 ls []) := by
    intro H locs hw
    refine lv_iload_n hx hb dX9_isListed_0 rfl (lv_at hl 1 rfl) ?_
    refine lv_if_lt (tgt := 19) hx hb dX9_isListed_1 (by decide) (fun c1 => ?_) (fun c1 => ?_)
    · have hm := if_t c1 hm
      refine lv_iconst (v := (0 : Int32)) hx hb dX9_isListed_19 (by decide) ?_
      exact rtC_z cx hr hlk hw (by decide) (pr_some hm) dX9_isListed_20
    · have hm := if_f c1 hm
      refine lv_iload_n hx hb dX9_isListed_4 rfl (lv_at hl 1 rfl) ?_
      refine lv_aload_n hx hb dX9_isListed_5 rfl (lv_at hl 0 rfl) ?_
      refine gtC_X9_0_6 cx ok hw dX9_isListed_6 ?_
      obtain ⟨r3, h2, hm⟩ := bp_ok hm
      refine clVN_Ci (As := []) (rest := [.int x1]) cx hml hl.1 ok hw hA (rcC_7 ok hw) (cC_Chart_listed l E _ σ0 r3 h2) (cwC_X9_Chart_listed hA9 ok ⟨Nat.le_of_ble_eq_true rfl, Nat.le_of_ble_eq_true rfl⟩) rfl rfl (Nat.le_of_ble_eq_true rfl) dX9_isListed_9 (fun H locs hw => ?_)
      refine lv_icmp_ge (tgt := 19) hx hb dX9_isListed_12 (by decide) (fun c4 => ?_) (fun c4 => ?_)
      · have hm := if_t c4 hm
        refine lv_iconst (v := (0 : Int32)) hx hb dX9_isListed_19 (by decide) ?_
        exact rtC_z cx hr hlk hw (by decide) (pr_some hm) dX9_isListed_20
      · have hm := if_f c4 hm
        refine lv_iconst (v := (1 : Int32)) hx hb dX9_isListed_15 (by decide) ?_
        refine lv_goto (tgt := 20) hx hb dX9_isListed_16 (by decide) ?_
        exact rtC_z cx hr hlk hw (by decide) (pr_some hm) dX9_isListed_20
  exact goal0 _ _ hw
theorem cwC_X9_CG_isListed {R : Room} {s : State} {args : Array Value} (h : ∀ w ∈ wA, w.before args s = true) (hR : rmC_CG_isListed.frames + 1 ≤ R.frames ∧ 8 + (2 + 11) + rmC_CG_isListed.locals ≤ R.locals) : CallW R s args RX9 RX9 135 yX9_isListed cX9_isListed 2 (some .boolean) (wz yX9_isListed cX9_isListed 2 (some .boolean)) rmC_CG_isListed 0 0 1 := cwV 1 h (gdV k_611 k_613 ks_37 k_1 k_614) rfl rfl rfl (by decide +kernel) hR
/-! ChordGrammars$Chart.priceOfWhole: reads only -/
def C_Chart_priceOfWhole (σ0 : St) (x1 : Int32) : Option Int32 :=
  gd (0 : Int32) 60 <|
  bp (C_Chart_priceOf σ0 (σ0.1 160 (0 : Int32).toNatClampNeg) (0 : Int32) ((σ0.1 118 0) - (1 : Int32)) x1) fun r3 =>
  some r3
abbrev rmC_Chart_priceOfWhole : Room := { frames := 3, cells := 0, slots := 0, locals := 70 }
set_option maxHeartbeats 4000000 in
set_option maxRecDepth 100000 in
theorem cC_Chart_priceOfWhole (l : Launch) (E : Ev) (sz : Nat) (σ0 : St) (x1 : Int32) (r : Int32) (hm : C_Chart_priceOfWhole σ0 x1 = some r) : Met l yX0_priceOfWhole (wz yX0_priceOfWhole cX0_priceOfWhole 2 (some .int)) rmC_Chart_priceOfWhole (PwC E [.ref (E.2.2 1007), .int x1] σ0 sz) (QiC E σ0 σ0 sz r) 0 0 (va_A (wldC E σ0) sz) := by
  refine enC (own := RX0) (by decide) rfl (Nat.le_of_ble_eq_true rfl) (fun p e s m args below meth c cx hr hlk hml hsz ok hw ls hl => ?_)
  have hx := cx.1
  have hb := cx.2.1
  have hA9 := cx.2.2.2
  have hA : ∀ q, s.heap.size ≤ q → (va_A (wldC E σ0) sz) q := fun q h => Or.inr (by rw [← hsz]; exact h)
  have hl : lv_has ls 2 [(0, .ref (E.2.2 1007)), (1, .int x1)] := hl
  unfold C_Chart_priceOfWhole at hm
  have goal0 : ∀ (H : Heap) (locs : List Loc), wsC E σ0 (va_A (wldC E σ0) sz) s H locs → W p l e rmC_Chart_priceOfWhole s m args below meth c H locs 0 0 (MQ below (QiC E σ0 σ0 sz r) args s 0 0 (va_A (wldC E σ0) sz)) (F0 m 0 ls []) := by
    intro H locs hw
    refine lv_aload_n hx hb dX0_priceOfWhole_0 rfl (lv_at hl 0 rfl) ?_
    refine lv_aload_n hx hb dX0_priceOfWhole_1 rfl (lv_at hl 0 rfl) ?_
    refine gtC_X0_7_0 cx ok hw dX0_priceOfWhole_2 ?_
    refine gtC_X0_10_0 cx ok hw dX0_priceOfWhole_5 ?_
    refine lv_iconst (v := (0 : Int32)) hx hb dX0_priceOfWhole_8 (by decide) ?_
    obtain ⟨g1, hm⟩ := gd_ok hm
    refine ldC_160 cx ok hw g1 dX0_priceOfWhole_9 ?_
    refine lv_iconst (v := (0 : Int32)) hx hb dX0_priceOfWhole_10 (by decide) ?_
    refine lv_aload_n hx hb dX0_priceOfWhole_11 rfl (lv_at hl 0 rfl) ?_
    refine gtC_X0_7_6 cx ok hw dX0_priceOfWhole_12 ?_
    refine lv_iconst (v := (1 : Int32)) hx hb dX0_priceOfWhole_15 (by decide) ?_
    refine lv_isub hx hb dX0_priceOfWhole_16 ?_
    refine lv_iload_n hx hb dX0_priceOfWhole_17 rfl (lv_at hl 1 rfl) ?_
    obtain ⟨r3, h2, hm⟩ := bp_ok hm
    refine clV_Ci (As := [.int (σ0.1 160 (0 : Int32).toNatClampNeg), .int (0 : Int32), .int ((σ0.1 118 0) - (1 : Int32)), .int x1]) (rest := []) cx hml hl.1 ok hw hA (rcC_7 ok hw) (cC_Chart_priceOf l E _ σ0 (σ0.1 160 (0 : Int32).toNatClampNeg) (0 : Int32) ((σ0.1 118 0) - (1 : Int32)) x1 r3 h2) (cwC_X0_Chart_priceOf hA9 ⟨Nat.le_of_ble_eq_true rfl, Nat.le_of_ble_eq_true rfl⟩) rfl rfl (Nat.le_of_ble_eq_true rfl) dX0_priceOfWhole_18 (fun H locs hw => ?_)
    exact rtC_i cx hr hlk hw (pr_some hm) dX0_priceOfWhole_21
  exact goal0 _ _ hw
theorem cwC_X9_Chart_priceOfWhole {R : Room} {s : State} {args : Array Value} {E : Ev} {A : Nat → Prop} (h : ∀ w ∈ wA, w.before args s = true) (ok : okC E A s) (hR : rmC_Chart_priceOfWhole.frames + 1 ≤ R.frames ∧ 8 + (2 + 11) + rmC_Chart_priceOfWhole.locals ≤ R.locals) : va_CN R s args RX9 138 yX0_priceOfWhole "ChordGrammars" cX0_priceOfWhole 2 (some .int) (wz yX0_priceOfWhole cX0_priceOfWhole 2 (some .int)) rmC_Chart_priceOfWhole 0 0 1 ∧ (Cond.instanceMethod yX0_priceOfWhole).before args s = true ∧ (Cond.selects RX0 yX0_priceOfWhole yX0_priceOfWhole).before args s = true := ⟨va_cnB 1 h (gdC k_618) rfl rfl rfl (ok.2.1 _ kn_615) (h _ k_8) (by decide +kernel) hR, h _ k_617, h _ ks_38⟩
/-! ChordGrammars.price: reads only -/
def C_CG_price (σ0 : St) (x1 : Int32) : Option Int32 :=
  bp (C_CG_isListed σ0 x1) fun r2 =>
  if r2 = 0 then
    some (-1 : Int32)
  else
    bp (C_Chart_priceOfWhole σ0 x1) fun r5 =>
    some r5
abbrev rmC_CG_price : Room := { frames := 4, cells := 0, slots := 0, locals := 91 }
set_option maxHeartbeats 4000000 in
set_option maxRecDepth 100000 in
theorem cC_CG_price (l : Launch) (E : Ev) (sz : Nat) (σ0 : St) (x1 : Int32) (r : Int32) (hm : C_CG_price σ0 x1 = some r) : Met l yX9_price (wz yX9_price cX9_price 2 (some .int)) rmC_CG_price (PwC E [.ref (E.2.2 1000), .int x1] σ0 sz) (QiC E σ0 σ0 sz r) 0 0 (va_A (wldC E σ0) sz) := by
  refine enC (own := RX9) (by decide) rfl (Nat.le_of_ble_eq_true rfl) (fun p e s m args below meth c cx hr hlk hml hsz ok hw ls hl => ?_)
  have hx := cx.1
  have hb := cx.2.1
  have hA9 := cx.2.2.2
  have hA : ∀ q, s.heap.size ≤ q → (va_A (wldC E σ0) sz) q := fun q h => Or.inr (by rw [← hsz]; exact h)
  have hl : lv_has ls 2 [(0, .ref (E.2.2 1000)), (1, .int x1)] := hl
  unfold C_CG_price at hm
  have goal0 : ∀ (H : Heap) (locs : List Loc), wsC E σ0 (va_A (wldC E σ0) sz) s H locs → W p l e rmC_CG_price s m args below meth c H locs 0 0 (MQ below (QiC E σ0 σ0 sz r) args s 0 0 (va_A (wldC E σ0) sz)) (F0 m 0 ls []) := by
    intro H locs hw
    refine lv_aload_n hx hb dX9_price_0 rfl (lv_at hl 0 rfl) ?_
    refine lv_iload_n hx hb dX9_price_1 rfl (lv_at hl 1 rfl) ?_
    obtain ⟨r2, h1, hm⟩ := bp_ok hm
    refine clV_Ci (As := [.int x1]) (rest := []) cx hml hl.1 ok hw hA (rcC_0 ok hw) (cC_CG_isListed l E _ σ0 x1 r2 h1) (cwC_X9_CG_isListed hA9 ⟨Nat.le_of_ble_eq_true rfl, Nat.le_of_ble_eq_true rfl⟩) rfl rfl (Nat.le_of_ble_eq_true rfl) dX9_price_2 (fun H locs hw => ?_)
    refine lv_if_eq (tgt := 19) hx hb dX9_price_5 (by decide) (fun c3 => ?_) (fun c3 => ?_)
    · have hm := if_t c3 hm
      refine lv_iconst (v := (-1 : Int32)) hx hb dX9_price_19 (by decide) ?_
      exact rtC_i cx hr hlk hw (pr_some hm) dX9_price_20
    · have hm := if_f c3 hm
      refine lv_aload_n hx hb dX9_price_8 rfl (lv_at hl 0 rfl) ?_
      refine gtC_X9_0_6 cx ok hw dX9_price_9 ?_
      refine lv_iload_n hx hb dX9_price_12 rfl (lv_at hl 1 rfl) ?_
      obtain ⟨r5, h4, hm⟩ := bp_ok hm
      refine clVN_Ci (As := [.int x1]) (rest := []) cx hml hl.1 ok hw hA (rcC_7 ok hw) (cC_Chart_priceOfWhole l E _ σ0 x1 r5 h4) (cwC_X9_Chart_priceOfWhole hA9 ok ⟨Nat.le_of_ble_eq_true rfl, Nat.le_of_ble_eq_true rfl⟩) rfl rfl (Nat.le_of_ble_eq_true rfl) dX9_price_13 (fun H locs hw => ?_)
      refine lv_goto (tgt := 20) hx hb dX9_price_16 (by decide) ?_
      exact rtC_i cx hr hlk hw (pr_some hm) dX9_price_20
  exact goal0 _ _ hw
/-! ChordGrammars$Tree.push: writes -/
def C_Tree_push (σ0 : St) (x1 : Int32) (x2 : Int32) (x3 : Int32) (x4 : Int32) : Option St :=
  if (24 : Int32) ≤ (σ0.1 140 0) then
    some σ0
  else
    gd (σ0.1 140 0) 24 <|
    lt (sI σ0 136 (σ0.1 140 0).toNatClampNeg x1) fun σ3 =>
    gd (σ3.1 140 0) 24 <|
    lt (sI σ3 137 (σ3.1 140 0).toNatClampNeg x2) fun σ6 =>
    gd (σ6.1 140 0) 24 <|
    lt (sI σ6 138 (σ6.1 140 0).toNatClampNeg x3) fun σ9 =>
    gd (σ9.1 140 0) 24 <|
    lt (sI σ9 139 (σ9.1 140 0).toNatClampNeg x4) fun σ12 =>
    lt (sI σ12 140 0 ((σ12.1 140 0) + (1 : Int32))) fun σ14 =>
    some σ14
abbrev rmC_Tree_push : Room := { frames := 0, cells := 0, slots := 0, locals := 0 }
set_option maxHeartbeats 4000000 in
set_option maxRecDepth 100000 in
theorem cC_Tree_push (l : Launch) (E : Ev) (sz : Nat) (σ0 σ' : St) (x1 : Int32) (x2 : Int32) (x3 : Int32) (x4 : Int32) (hm : C_Tree_push σ0 x1 x2 x3 x4 = some σ') : Met l yX8_push (wz yX8_push cX8_push 5 none) rmC_Tree_push (PwC E [.ref (E.2.2 1008), .int x1, .int x2, .int x3, .int x4] σ0 sz) (QvC E σ0 σ' sz) 0 0 (va_A (wldC E σ0) sz) := by
  refine enC (own := RX8) (by decide) rfl (Nat.le_of_ble_eq_true rfl) (fun p e s m args below meth c cx hr hlk hml hsz ok hw ls hl => ?_)
  have hx := cx.1
  have hb := cx.2.1
  have hA9 := cx.2.2.2
  have hA : ∀ q, s.heap.size ≤ q → (va_A (wldC E σ0) sz) q := fun q h => Or.inr (by rw [← hsz]; exact h)
  have hl : lv_has ls 5 [(0, .ref (E.2.2 1008)), (1, .int x1), (2, .int x2), (3, .int x3), (4, .int x4)] := hl
  unfold C_Tree_push at hm
  have goal0 : ∀ (H : Heap) (locs : List Loc), wsC E σ0 (va_A (wldC E σ0) sz) s H locs → W p l e rmC_Tree_push s m args below meth c H locs 0 0 (MQ below (QvC E σ0 σ' sz) args s 0 0 (va_A (wldC E σ0) sz)) (F0 m 0 ls []) := by
    intro H locs hw
    refine lv_aload_n hx hb dX8_push_0 rfl (lv_at hl 0 rfl) ?_
    refine gtC_X8_8_12 cx ok hw dX8_push_1 ?_
    refine lv_bipush (v := (24 : Int32)) hx hb dX8_push_4 (by decide) ?_
    refine lv_icmp_ge (tgt := 60) hx hb dX8_push_6 (by decide) (fun c1 => ?_) (fun c1 => ?_)
    · have hm := if_t c1 hm
      exact rtC_v cx hr hlk hw hm dX8_push_60
    · have hm := if_f c1 hm
      refine lv_aload_n hx hb dX8_push_9 rfl (lv_at hl 0 rfl) ?_
      refine gtC_X8_8_8 cx ok hw dX8_push_10 ?_
      refine lv_aload_n hx hb dX8_push_13 rfl (lv_at hl 0 rfl) ?_
      refine gtC_X8_8_12 cx ok hw dX8_push_14 ?_
      refine lv_iload_n hx hb dX8_push_17 rfl (lv_at hl 1 rfl) ?_
      obtain ⟨g2, hm⟩ := gd_ok hm
      refine stC_136 cx ok hw g2 dX8_push_18 (fun H locs hw => ?_)
      obtain ⟨σ3, e4, hm⟩ := lt_ok hm
      have hw := wsC_eq e4 hw
      refine lv_aload_n hx hb dX8_push_19 rfl (lv_at hl 0 rfl) ?_
      refine gtC_X8_8_9 cx ok hw dX8_push_20 ?_
      refine lv_aload_n hx hb dX8_push_23 rfl (lv_at hl 0 rfl) ?_
      refine gtC_X8_8_12 cx ok hw dX8_push_24 ?_
      refine lv_iload_n hx hb dX8_push_27 rfl (lv_at hl 2 rfl) ?_
      obtain ⟨g5, hm⟩ := gd_ok hm
      refine stC_137 cx ok hw g5 dX8_push_28 (fun H locs hw => ?_)
      obtain ⟨σ6, e7, hm⟩ := lt_ok hm
      have hw := wsC_eq e7 hw
      refine lv_aload_n hx hb dX8_push_29 rfl (lv_at hl 0 rfl) ?_
      refine gtC_X8_8_10 cx ok hw dX8_push_30 ?_
      refine lv_aload_n hx hb dX8_push_33 rfl (lv_at hl 0 rfl) ?_
      refine gtC_X8_8_12 cx ok hw dX8_push_34 ?_
      refine lv_iload_n hx hb dX8_push_37 rfl (lv_at hl 3 rfl) ?_
      obtain ⟨g8, hm⟩ := gd_ok hm
      refine stC_138 cx ok hw g8 dX8_push_38 (fun H locs hw => ?_)
      obtain ⟨σ9, e10, hm⟩ := lt_ok hm
      have hw := wsC_eq e10 hw
      refine lv_aload_n hx hb dX8_push_39 rfl (lv_at hl 0 rfl) ?_
      refine gtC_X8_8_11 cx ok hw dX8_push_40 ?_
      refine lv_aload_n hx hb dX8_push_43 rfl (lv_at hl 0 rfl) ?_
      refine gtC_X8_8_12 cx ok hw dX8_push_44 ?_
      refine lv_iload hx hb dX8_push_47 (lv_at hl 4 rfl) ?_
      obtain ⟨g11, hm⟩ := gd_ok hm
      refine stC_139 cx ok hw g11 dX8_push_49 (fun H locs hw => ?_)
      obtain ⟨σ12, e13, hm⟩ := lt_ok hm
      have hw := wsC_eq e13 hw
      refine lv_aload_n hx hb dX8_push_50 rfl (lv_at hl 0 rfl) ?_
      refine lv_dup hx hb dX8_push_51 rfl ?_
      refine gtC_X8_8_12 cx ok hw dX8_push_52 ?_
      refine lv_iconst (v := (1 : Int32)) hx hb dX8_push_55 (by decide) ?_
      refine lv_iadd hx hb dX8_push_56 ?_
      refine ptC_X8_8_12 cx ok hw dX8_push_57 (fun H locs hw => ?_)
      obtain ⟨σ14, e15, hm⟩ := lt_ok hm
      have hw := wsC_eq e15 hw
      exact rtC_v cx hr hlk hw hm dX8_push_60
  exact goal0 _ _ hw
theorem cwC_X8_Tree_push {R : Room} {s : State} {args : Array Value} (h : ∀ w ∈ wA, w.before args s = true) (hR : rmC_Tree_push.frames + 1 ≤ R.frames ∧ 8 + (5 + 11) + rmC_Tree_push.locals ≤ R.locals) : CallW R s args RX8 RX8 66 yX8_push cX8_push 5 none (wz yX8_push cX8_push 5 none) rmC_Tree_push 0 0 4 := cwV 4 h (gdV k_631 k_633 ks_41 k_10 k_634) rfl rfl rfl (by decide +kernel) hR
/-! ChordGrammars$Chart.ruleOf: reads only -/
def C_Chart_ruleOf (x0 : Int64) : Option Int32 :=
  some ((((x0.toUInt64 >>> ((15 : Int32).toInt64.toUInt64 &&& Int64.toUInt64 63)).toInt64).toInt32) &&& (63 : Int32))
abbrev rmC_Chart_ruleOf : Room := { frames := 0, cells := 0, slots := 0, locals := 0 }
set_option maxHeartbeats 4000000 in
set_option maxRecDepth 100000 in
theorem cC_Chart_ruleOf (l : Launch) (E : Ev) (sz : Nat) (σ0 : St) (x0 : Int64) (r : Int32) (hm : C_Chart_ruleOf x0 = some r) : Met l yX0_ruleOf (wz yX0_ruleOf cX0_ruleOf 2 (some .int)) rmC_Chart_ruleOf (PwC E [.long x0] σ0 sz) (QiC E σ0 σ0 sz r) 0 0 (va_A (wldC E σ0) sz) := by
  refine enC (own := RX0) (by decide) rfl (Nat.le_of_ble_eq_true rfl) (fun p e s m args below meth c cx hr hlk hml hsz ok hw ls hl => ?_)
  have hx := cx.1
  have hb := cx.2.1
  have hA9 := cx.2.2.2
  have hA : ∀ q, s.heap.size ≤ q → (va_A (wldC E σ0) sz) q := fun q h => Or.inr (by rw [← hsz]; exact h)
  have hl : lv_has ls 2 [(0, .long x0)] := hl
  unfold C_Chart_ruleOf at hm
  have goal0 : ∀ (H : Heap) (locs : List Loc), wsC E σ0 (va_A (wldC E σ0) sz) s H locs → W p l e rmC_Chart_ruleOf s m args below meth c H locs 0 0 (MQ below (QiC E σ0 σ0 sz r) args s 0 0 (va_A (wldC E σ0) sz)) (F0 m 0 ls []) := by
    intro H locs hw
    refine lv_lload_n hx hb dX0_ruleOf_0 rfl (lv_at hl 0 rfl) ?_
    refine lv_bipush (v := (15 : Int32)) hx hb dX0_ruleOf_1 (by decide) ?_
    refine lv_lushr hx hb dX0_ruleOf_3 rfl ?_
    refine lv_l2i hx hb dX0_ruleOf_4 rfl ?_
    refine lv_bipush (v := (63 : Int32)) hx hb dX0_ruleOf_5 (by decide) ?_
    refine lv_iand hx hb dX0_ruleOf_7 ?_
    exact rtC_i cx hr hlk hw (pr_some hm) dX0_ruleOf_8
  exact goal0 _ _ hw
theorem cwC_X8_Chart_ruleOf {R : Room} {s : State} {args : Array Value} {E : Ev} {A : Nat → Prop} (h : ∀ w ∈ wA, w.before args s = true) (ok : okC E A s) (hR : rmC_Chart_ruleOf.frames + 1 ≤ R.frames ∧ 8 + (2 + 11) + rmC_Chart_ruleOf.locals ≤ R.locals) : va_CN R s args RX8 86 yX0_ruleOf "ChordGrammars" cX0_ruleOf 2 (some .int) (wz yX0_ruleOf cX0_ruleOf 2 (some .int)) rmC_Chart_ruleOf 0 0 1 ∧ (Cond.static yX0_ruleOf).before args s = true ∧ True := ⟨va_cnB 1 h (gdC k_644) rfl rfl rfl (ok.2.1 _ kn_642) (h _ k_8) (by decide +kernel) hR, h _ k_643, trivial⟩
/-! ChordGrammars$Chart.partOf: reads only -/
def C_Chart_partOf (x0 : Int64) : Option Int32 :=
  some ((((x0.toUInt64 >>> ((10 : Int32).toInt64.toUInt64 &&& Int64.toUInt64 63)).toInt64).toInt32) &&& (31 : Int32))
abbrev rmC_Chart_partOf : Room := { frames := 0, cells := 0, slots := 0, locals := 0 }
set_option maxHeartbeats 4000000 in
set_option maxRecDepth 100000 in
theorem cC_Chart_partOf (l : Launch) (E : Ev) (sz : Nat) (σ0 : St) (x0 : Int64) (r : Int32) (hm : C_Chart_partOf x0 = some r) : Met l yX0_partOf (wz yX0_partOf cX0_partOf 2 (some .int)) rmC_Chart_partOf (PwC E [.long x0] σ0 sz) (QiC E σ0 σ0 sz r) 0 0 (va_A (wldC E σ0) sz) := by
  refine enC (own := RX0) (by decide) rfl (Nat.le_of_ble_eq_true rfl) (fun p e s m args below meth c cx hr hlk hml hsz ok hw ls hl => ?_)
  have hx := cx.1
  have hb := cx.2.1
  have hA9 := cx.2.2.2
  have hA : ∀ q, s.heap.size ≤ q → (va_A (wldC E σ0) sz) q := fun q h => Or.inr (by rw [← hsz]; exact h)
  have hl : lv_has ls 2 [(0, .long x0)] := hl
  unfold C_Chart_partOf at hm
  have goal0 : ∀ (H : Heap) (locs : List Loc), wsC E σ0 (va_A (wldC E σ0) sz) s H locs → W p l e rmC_Chart_partOf s m args below meth c H locs 0 0 (MQ below (QiC E σ0 σ0 sz r) args s 0 0 (va_A (wldC E σ0) sz)) (F0 m 0 ls []) := by
    intro H locs hw
    refine lv_lload_n hx hb dX0_partOf_0 rfl (lv_at hl 0 rfl) ?_
    refine lv_bipush (v := (10 : Int32)) hx hb dX0_partOf_1 (by decide) ?_
    refine lv_lushr hx hb dX0_partOf_3 rfl ?_
    refine lv_l2i hx hb dX0_partOf_4 rfl ?_
    refine lv_bipush (v := (31 : Int32)) hx hb dX0_partOf_5 (by decide) ?_
    refine lv_iand hx hb dX0_partOf_7 ?_
    exact rtC_i cx hr hlk hw (pr_some hm) dX0_partOf_8
  exact goal0 _ _ hw
theorem cwC_X8_Chart_partOf {R : Room} {s : State} {args : Array Value} {E : Ev} {A : Nat → Prop} (h : ∀ w ∈ wA, w.before args s = true) (ok : okC E A s) (hR : rmC_Chart_partOf.frames + 1 ≤ R.frames ∧ 8 + (2 + 11) + rmC_Chart_partOf.locals ≤ R.locals) : va_CN R s args RX8 96 yX0_partOf "ChordGrammars" cX0_partOf 2 (some .int) (wz yX0_partOf cX0_partOf 2 (some .int)) rmC_Chart_partOf 0 0 1 ∧ (Cond.static yX0_partOf).before args s = true ∧ True := ⟨va_cnB 1 h (gdC k_651) rfl rfl rfl (ok.2.1 _ kn_649) (h _ k_8) (by decide +kernel) hR, h _ k_650, trivial⟩
/-! ChordGrammars$Chart.rankOneOf: reads only -/
def C_Chart_rankOneOf (x0 : Int64) : Option Int32 :=
  some ((((x0.toUInt64 >>> ((5 : Int32).toInt64.toUInt64 &&& Int64.toUInt64 63)).toInt64).toInt32) &&& (31 : Int32))
abbrev rmC_Chart_rankOneOf : Room := { frames := 0, cells := 0, slots := 0, locals := 0 }
set_option maxHeartbeats 4000000 in
set_option maxRecDepth 100000 in
theorem cC_Chart_rankOneOf (l : Launch) (E : Ev) (sz : Nat) (σ0 : St) (x0 : Int64) (r : Int32) (hm : C_Chart_rankOneOf x0 = some r) : Met l yX0_rankOneOf (wz yX0_rankOneOf cX0_rankOneOf 2 (some .int)) rmC_Chart_rankOneOf (PwC E [.long x0] σ0 sz) (QiC E σ0 σ0 sz r) 0 0 (va_A (wldC E σ0) sz) := by
  refine enC (own := RX0) (by decide) rfl (Nat.le_of_ble_eq_true rfl) (fun p e s m args below meth c cx hr hlk hml hsz ok hw ls hl => ?_)
  have hx := cx.1
  have hb := cx.2.1
  have hA9 := cx.2.2.2
  have hA : ∀ q, s.heap.size ≤ q → (va_A (wldC E σ0) sz) q := fun q h => Or.inr (by rw [← hsz]; exact h)
  have hl : lv_has ls 2 [(0, .long x0)] := hl
  unfold C_Chart_rankOneOf at hm
  have goal0 : ∀ (H : Heap) (locs : List Loc), wsC E σ0 (va_A (wldC E σ0) sz) s H locs → W p l e rmC_Chart_rankOneOf s m args below meth c H locs 0 0 (MQ below (QiC E σ0 σ0 sz r) args s 0 0 (va_A (wldC E σ0) sz)) (F0 m 0 ls []) := by
    intro H locs hw
    refine lv_lload_n hx hb dX0_rankOneOf_0 rfl (lv_at hl 0 rfl) ?_
    refine lv_iconst (v := (5 : Int32)) hx hb dX0_rankOneOf_1 (by decide) ?_
    refine lv_lushr hx hb dX0_rankOneOf_2 rfl ?_
    refine lv_l2i hx hb dX0_rankOneOf_3 rfl ?_
    refine lv_bipush (v := (31 : Int32)) hx hb dX0_rankOneOf_4 (by decide) ?_
    refine lv_iand hx hb dX0_rankOneOf_6 ?_
    exact rtC_i cx hr hlk hw (pr_some hm) dX0_rankOneOf_7
  exact goal0 _ _ hw
theorem cwC_X8_Chart_rankOneOf {R : Room} {s : State} {args : Array Value} {E : Ev} {A : Nat → Prop} (h : ∀ w ∈ wA, w.before args s = true) (ok : okC E A s) (hR : rmC_Chart_rankOneOf.frames + 1 ≤ R.frames ∧ 8 + (2 + 11) + rmC_Chart_rankOneOf.locals ≤ R.locals) : va_CN R s args RX8 105 yX0_rankOneOf "ChordGrammars" cX0_rankOneOf 2 (some .int) (wz yX0_rankOneOf cX0_rankOneOf 2 (some .int)) rmC_Chart_rankOneOf 0 0 1 ∧ (Cond.static yX0_rankOneOf).before args s = true ∧ True := ⟨va_cnB 1 h (gdC k_654) rfl rfl rfl (ok.2.1 _ kn_652) (h _ k_8) (by decide +kernel) hR, h _ k_653, trivial⟩
/-! ChordGrammars$Chart.rankTwoOf: reads only -/
def C_Chart_rankTwoOf (x0 : Int64) : Option Int32 :=
  some ((x0.toInt32) &&& (31 : Int32))
abbrev rmC_Chart_rankTwoOf : Room := { frames := 0, cells := 0, slots := 0, locals := 0 }
set_option maxHeartbeats 4000000 in
set_option maxRecDepth 100000 in
theorem cC_Chart_rankTwoOf (l : Launch) (E : Ev) (sz : Nat) (σ0 : St) (x0 : Int64) (r : Int32) (hm : C_Chart_rankTwoOf x0 = some r) : Met l yX0_rankTwoOf (wz yX0_rankTwoOf cX0_rankTwoOf 2 (some .int)) rmC_Chart_rankTwoOf (PwC E [.long x0] σ0 sz) (QiC E σ0 σ0 sz r) 0 0 (va_A (wldC E σ0) sz) := by
  refine enC (own := RX0) (by decide) rfl (Nat.le_of_ble_eq_true rfl) (fun p e s m args below meth c cx hr hlk hml hsz ok hw ls hl => ?_)
  have hx := cx.1
  have hb := cx.2.1
  have hA9 := cx.2.2.2
  have hA : ∀ q, s.heap.size ≤ q → (va_A (wldC E σ0) sz) q := fun q h => Or.inr (by rw [← hsz]; exact h)
  have hl : lv_has ls 2 [(0, .long x0)] := hl
  unfold C_Chart_rankTwoOf at hm
  have goal0 : ∀ (H : Heap) (locs : List Loc), wsC E σ0 (va_A (wldC E σ0) sz) s H locs → W p l e rmC_Chart_rankTwoOf s m args below meth c H locs 0 0 (MQ below (QiC E σ0 σ0 sz r) args s 0 0 (va_A (wldC E σ0) sz)) (F0 m 0 ls []) := by
    intro H locs hw
    refine lv_lload_n hx hb dX0_rankTwoOf_0 rfl (lv_at hl 0 rfl) ?_
    refine lv_l2i hx hb dX0_rankTwoOf_1 rfl ?_
    refine lv_bipush (v := (31 : Int32)) hx hb dX0_rankTwoOf_2 (by decide) ?_
    refine lv_iand hx hb dX0_rankTwoOf_4 ?_
    exact rtC_i cx hr hlk hw (pr_some hm) dX0_rankTwoOf_5
  exact goal0 _ _ hw
theorem cwC_X8_Chart_rankTwoOf {R : Room} {s : State} {args : Array Value} {E : Ev} {A : Nat → Prop} (h : ∀ w ∈ wA, w.before args s = true) (ok : okC E A s) (hR : rmC_Chart_rankTwoOf.frames + 1 ≤ R.frames ∧ 8 + (2 + 11) + rmC_Chart_rankTwoOf.locals ≤ R.locals) : va_CN R s args RX8 108 yX0_rankTwoOf "ChordGrammars" cX0_rankTwoOf 2 (some .int) (wz yX0_rankTwoOf cX0_rankTwoOf 2 (some .int)) rmC_Chart_rankTwoOf 0 0 1 ∧ (Cond.static yX0_rankTwoOf).before args s = true ∧ True := ⟨va_cnB 1 h (gdC k_657) rfl rfl rfl (ok.2.1 _ kn_655) (h _ k_8) (by decide +kernel) hR, h _ k_656, trivial⟩
/-! ChordGrammars$Tree.pushParts: writes -/
def C_Tree_pushParts (σ0 : St) (x2 : Int64) (x4 : Int32) (x5 : Int32) : Option St :=
  bp (C_Chart_ruleOf x2) fun r2 =>
  if r2 < (σ0.1 165 0) then
    bp (C_Chart_partOf x2) fun r5 =>
    lt ((x4 + r5)) fun x7_6 =>
    gd r2 60 <|
    if (σ0.1 162 r2.toNatClampNeg) = (-1 : Int32) then
      gd r2 60 <|
      bp (C_Chart_rankOneOf x2) fun r24 =>
      bp (C_Tree_push σ0 (σ0.1 161 r2.toNatClampNeg) x4 x5 r24) fun σ26 =>
      some σ26
    else
      if x7_6 ≤ x4 then
        some σ0
      else
        if x5 < x7_6 then
          some σ0
        else
          gd r2 60 <|
          bp (C_Chart_rankTwoOf x2) fun r14 =>
          bp (C_Tree_push σ0 (σ0.1 162 r2.toNatClampNeg) x7_6 x5 r14) fun σ16 =>
          gd r2 60 <|
          bp (C_Chart_rankOneOf x2) fun r19 =>
          bp (C_Tree_push σ16 (σ16.1 161 r2.toNatClampNeg) x4 (x7_6 - (1 : Int32)) r19) fun σ21 =>
          some σ21
  else
    some σ0
abbrev rmC_Tree_pushParts : Room := { frames := 1, cells := 0, slots := 0, locals := 24 }
set_option maxHeartbeats 4000000 in
set_option maxRecDepth 100000 in
theorem cC_Tree_pushParts (l : Launch) (E : Ev) (sz : Nat) (σ0 σ' : St) (x2 : Int64) (x4 : Int32) (x5 : Int32) (hm : C_Tree_pushParts σ0 x2 x4 x5 = some σ') : Met l yX8_pushParts (wz yX8_pushParts cX8_pushParts 8 none) rmC_Tree_pushParts (PwC E [.ref (E.2.2 1008), .ref (E.2.2 1010), .long x2, .int x4, .int x5] σ0 sz) (QvC E σ0 σ' sz) 0 0 (va_A (wldC E σ0) sz) := by
  refine enC (own := RX8) (by decide) rfl (Nat.le_of_ble_eq_true rfl) (fun p e s m args below meth c cx hr hlk hml hsz ok hw ls hl => ?_)
  have hx := cx.1
  have hb := cx.2.1
  have hA9 := cx.2.2.2
  have hA : ∀ q, s.heap.size ≤ q → (va_A (wldC E σ0) sz) q := fun q h => Or.inr (by rw [← hsz]; exact h)
  have hl : lv_has ls 8 [(0, .ref (E.2.2 1008)), (1, .ref (E.2.2 1010)), (2, .long x2), (4, .int x4), (5, .int x5)] := hl
  unfold C_Tree_pushParts at hm
  have goal0 : ∀ (H : Heap) (locs : List Loc), wsC E σ0 (va_A (wldC E σ0) sz) s H locs → W p l e rmC_Tree_pushParts s m args below meth c H locs 0 0 (MQ below (QvC E σ0 σ' sz) args s 0 0 (va_A (wldC E σ0) sz)) (F0 m 0 ls []) := by
    intro H locs hw
    refine lv_lload_n hx hb dX8_pushParts_0 rfl (lv_at hl 2 rfl) ?_
    obtain ⟨r2, h1, hm⟩ := bp_ok hm
    refine clSN_Ci (As := [.long x2]) (rest := []) cx hml hl.1 ok hw hA (cC_Chart_ruleOf l E _ σ0 x2 r2 h1) (cwC_X8_Chart_ruleOf hA9 ok ⟨Nat.le_of_ble_eq_true rfl, Nat.le_of_ble_eq_true rfl⟩) rfl rfl (Nat.le_of_ble_eq_true rfl) dX8_pushParts_1 (fun H locs hw => ?_)
    refine lv_istore (lv' := [(6, .int r2), (0, .ref (E.2.2 1008)), (1, .ref (E.2.2 1010)), (2, .long x2), (4, .int x4), (5, .int x5)]) hx hb dX8_pushParts_4 hl (by decide) rfl (fun ls hl => ?_)
    refine lv_iload hx hb dX8_pushParts_6 (lv_at hl 0 rfl) ?_
    refine lv_aload_n hx hb dX8_pushParts_8 rfl (lv_at hl 2 rfl) ?_
    refine gtC_X8_10_5 cx ok hw dX8_pushParts_9 ?_
    refine lv_icmp_lt (tgt := 16) hx hb dX8_pushParts_12 (by decide) (fun c3 => ?_) (fun c3 => ?_)
    · have hm := if_t c3 hm
      refine lv_iload hx hb dX8_pushParts_16 (lv_at hl 4 rfl) ?_
      refine lv_lload_n hx hb dX8_pushParts_18 rfl (lv_at hl 3 rfl) ?_
      obtain ⟨r5, h4, hm⟩ := bp_ok hm
      refine clSN_Ci (As := [.long x2]) (rest := [.int x4]) cx hml hl.1 ok hw hA (cC_Chart_partOf l E _ σ0 x2 r5 h4) (cwC_X8_Chart_partOf hA9 ok ⟨Nat.le_of_ble_eq_true rfl, Nat.le_of_ble_eq_true rfl⟩) rfl rfl (Nat.le_of_ble_eq_true rfl) dX8_pushParts_19 (fun H locs hw => ?_)
      refine lv_iadd hx hb dX8_pushParts_22 ?_
      obtain ⟨x7_6, e7, hm⟩ := lt_ok hm
      refine ti_eq e7 ?_
      refine lv_istore (lv' := [(7, .int x7_6), (6, .int r2), (0, .ref (E.2.2 1008)), (1, .ref (E.2.2 1010)), (2, .long x2), (4, .int x4), (5, .int x5)]) hx hb dX8_pushParts_23 hl (by decide) rfl (fun ls hl => ?_)
      refine lv_aload_n hx hb dX8_pushParts_25 rfl (lv_at hl 3 rfl) ?_
      refine gtC_X8_10_2 cx ok hw dX8_pushParts_26 ?_
      refine lv_iload hx hb dX8_pushParts_29 (lv_at hl 1 rfl) ?_
      obtain ⟨g8, hm⟩ := gd_ok hm
      refine ldC_162 cx ok hw g8 dX8_pushParts_31 ?_
      refine lv_iconst (v := (-1 : Int32)) hx hb dX8_pushParts_32 (by decide) ?_
      refine lv_icmp_ne (tgt := 58) hx hb dX8_pushParts_33 (by decide) (fun c9 => ?_) (fun c9 => ?_)
      · have hm := if_f c9 hm
        refine lv_iload hx hb dX8_pushParts_58 (lv_at hl 0 rfl) ?_
        refine lv_iload hx hb dX8_pushParts_60 (lv_at hl 5 rfl) ?_
        refine lv_icmp_le (tgt := 112) hx hb dX8_pushParts_62 (by decide) (fun c10 => ?_) (fun c10 => ?_)
        · have hm := if_t c10 hm
          exact rtC_v cx hr hlk hw hm dX8_pushParts_112
        · have hm := if_f c10 hm
          refine lv_iload hx hb dX8_pushParts_65 (lv_at hl 0 rfl) ?_
          refine lv_iload hx hb dX8_pushParts_67 (lv_at hl 6 rfl) ?_
          refine lv_icmp_gt (tgt := 112) hx hb dX8_pushParts_69 (by decide) (fun c11 => ?_) (fun c11 => ?_)
          · have hm := if_t c11 hm
            exact rtC_v cx hr hlk hw hm dX8_pushParts_112
          · have hm := if_f c11 hm
            refine lv_aload_n hx hb dX8_pushParts_72 rfl (lv_at hl 2 rfl) ?_
            refine lv_aload_n hx hb dX8_pushParts_73 rfl (lv_at hl 3 rfl) ?_
            refine gtC_X8_10_2 cx ok hw dX8_pushParts_74 ?_
            refine lv_iload hx hb dX8_pushParts_77 (lv_at hl 1 rfl) ?_
            obtain ⟨g12, hm⟩ := gd_ok hm
            refine ldC_162 cx ok hw g12 dX8_pushParts_79 ?_
            refine lv_iload hx hb dX8_pushParts_80 (lv_at hl 0 rfl) ?_
            refine lv_iload hx hb dX8_pushParts_82 (lv_at hl 6 rfl) ?_
            refine lv_lload_n hx hb dX8_pushParts_84 rfl (lv_at hl 4 rfl) ?_
            obtain ⟨r14, h13, hm⟩ := bp_ok hm
            refine clSN_Ci (As := [.long x2]) (rest := [.int x5, .int x7_6, .int (σ0.1 162 r2.toNatClampNeg), .ref (E.2.2 1008)]) cx hml hl.1 ok hw hA (cC_Chart_rankTwoOf l E _ σ0 x2 r14 h13) (cwC_X8_Chart_rankTwoOf hA9 ok ⟨Nat.le_of_ble_eq_true rfl, Nat.le_of_ble_eq_true rfl⟩) rfl rfl (Nat.le_of_ble_eq_true rfl) dX8_pushParts_85 (fun H locs hw => ?_)
            obtain ⟨σ16, h15, hm⟩ := bp_ok hm
            refine clV_Cv (As := [.int (σ0.1 162 r2.toNatClampNeg), .int x7_6, .int x5, .int r14]) (rest := []) cx hml hl.1 ok hw hA (rcC_8 ok hw) (cC_Tree_push l E _ σ0 σ16 (σ0.1 162 r2.toNatClampNeg) x7_6 x5 r14 h15) (cwC_X8_Tree_push hA9 ⟨Nat.le_of_ble_eq_true rfl, Nat.le_of_ble_eq_true rfl⟩) rfl rfl (Nat.le_of_ble_eq_true rfl) dX8_pushParts_88 (fun H locs hw => ?_)
            refine lv_aload_n hx hb dX8_pushParts_91 rfl (lv_at hl 2 rfl) ?_
            refine lv_aload_n hx hb dX8_pushParts_92 rfl (lv_at hl 3 rfl) ?_
            refine gtC_X8_10_1 cx ok hw dX8_pushParts_93 ?_
            refine lv_iload hx hb dX8_pushParts_96 (lv_at hl 1 rfl) ?_
            obtain ⟨g17, hm⟩ := gd_ok hm
            refine ldC_161 cx ok hw g17 dX8_pushParts_98 ?_
            refine lv_iload hx hb dX8_pushParts_99 (lv_at hl 5 rfl) ?_
            refine lv_iload hx hb dX8_pushParts_101 (lv_at hl 0 rfl) ?_
            refine lv_iconst (v := (1 : Int32)) hx hb dX8_pushParts_103 (by decide) ?_
            refine lv_isub hx hb dX8_pushParts_104 ?_
            refine lv_lload_n hx hb dX8_pushParts_105 rfl (lv_at hl 4 rfl) ?_
            obtain ⟨r19, h18, hm⟩ := bp_ok hm
            refine clSN_Ci (As := [.long x2]) (rest := [.int (x7_6 - (1 : Int32)), .int x4, .int (σ16.1 161 r2.toNatClampNeg), .ref (E.2.2 1008)]) cx hml hl.1 ok hw hA (cC_Chart_rankOneOf l E _ σ16 x2 r19 h18) (cwC_X8_Chart_rankOneOf hA9 ok ⟨Nat.le_of_ble_eq_true rfl, Nat.le_of_ble_eq_true rfl⟩) rfl rfl (Nat.le_of_ble_eq_true rfl) dX8_pushParts_106 (fun H locs hw => ?_)
            obtain ⟨σ21, h20, hm⟩ := bp_ok hm
            refine clV_Cv (As := [.int (σ16.1 161 r2.toNatClampNeg), .int x4, .int (x7_6 - (1 : Int32)), .int r19]) (rest := []) cx hml hl.1 ok hw hA (rcC_8 ok hw) (cC_Tree_push l E _ σ16 σ21 (σ16.1 161 r2.toNatClampNeg) x4 (x7_6 - (1 : Int32)) r19 h20) (cwC_X8_Tree_push hA9 ⟨Nat.le_of_ble_eq_true rfl, Nat.le_of_ble_eq_true rfl⟩) rfl rfl (Nat.le_of_ble_eq_true rfl) dX8_pushParts_109 (fun H locs hw => ?_)
            exact rtC_v cx hr hlk hw hm dX8_pushParts_112
      · have hm := if_t c9 hm
        refine lv_aload_n hx hb dX8_pushParts_36 rfl (lv_at hl 2 rfl) ?_
        refine lv_aload_n hx hb dX8_pushParts_37 rfl (lv_at hl 3 rfl) ?_
        refine gtC_X8_10_1 cx ok hw dX8_pushParts_38 ?_
        refine lv_iload hx hb dX8_pushParts_41 (lv_at hl 1 rfl) ?_
        obtain ⟨g22, hm⟩ := gd_ok hm
        refine ldC_161 cx ok hw g22 dX8_pushParts_43 ?_
        refine lv_iload hx hb dX8_pushParts_44 (lv_at hl 5 rfl) ?_
        refine lv_iload hx hb dX8_pushParts_46 (lv_at hl 6 rfl) ?_
        refine lv_lload_n hx hb dX8_pushParts_48 rfl (lv_at hl 4 rfl) ?_
        obtain ⟨r24, h23, hm⟩ := bp_ok hm
        refine clSN_Ci (As := [.long x2]) (rest := [.int x5, .int x4, .int (σ0.1 161 r2.toNatClampNeg), .ref (E.2.2 1008)]) cx hml hl.1 ok hw hA (cC_Chart_rankOneOf l E _ σ0 x2 r24 h23) (cwC_X8_Chart_rankOneOf hA9 ok ⟨Nat.le_of_ble_eq_true rfl, Nat.le_of_ble_eq_true rfl⟩) rfl rfl (Nat.le_of_ble_eq_true rfl) dX8_pushParts_49 (fun H locs hw => ?_)
        obtain ⟨σ26, h25, hm⟩ := bp_ok hm
        refine clV_Cv (As := [.int (σ0.1 161 r2.toNatClampNeg), .int x4, .int x5, .int r24]) (rest := []) cx hml hl.1 ok hw hA (rcC_8 ok hw) (cC_Tree_push l E _ σ0 σ26 (σ0.1 161 r2.toNatClampNeg) x4 x5 r24 h25) (cwC_X8_Tree_push hA9 ⟨Nat.le_of_ble_eq_true rfl, Nat.le_of_ble_eq_true rfl⟩) rfl rfl (Nat.le_of_ble_eq_true rfl) dX8_pushParts_52 (fun H locs hw => ?_)
        refine lv_goto (tgt := 112) hx hb dX8_pushParts_55 (by decide) ?_
        exact rtC_v cx hr hlk hw hm dX8_pushParts_112
    · have hm := if_f c3 hm
      exact rtC_v cx hr hlk hw hm dX8_pushParts_15
  exact goal0 _ _ hw
theorem cwC_X8_Tree_pushParts {R : Room} {s : State} {args : Array Value} (h : ∀ w ∈ wA, w.before args s = true) (hR : rmC_Tree_pushParts.frames + 1 ≤ R.frames ∧ 8 + (8 + 11) + rmC_Tree_pushParts.locals ≤ R.locals) : CallW R s args RX8 RX8 90 yX8_pushParts cX8_pushParts 8 none (wz yX8_pushParts cX8_pushParts 8 none) rmC_Tree_pushParts 0 0 4 := cwV 4 h (gdV k_645 k_647 ks_43 k_10 k_648) rfl rfl rfl (by decide +kernel) hR
/-! ChordGrammars$Tree.visit: writes -/
def C_Tree_visit (σ0 : St) (x2 : Int32) (x3 : Int32) : Option St :=
  gd x3 24 <|
  lt ((σ0.1 136 x3.toNatClampNeg)) fun x4_2 =>
  gd x3 24 <|
  lt ((σ0.1 137 x3.toNatClampNeg)) fun x5_5 =>
  gd x3 24 <|
  lt ((σ0.1 138 x3.toNatClampNeg)) fun x6_8 =>
  gd x2 1246 <|
  lt (sI σ0 131 x2.toNatClampNeg x5_5) fun σ11 =>
  gd x2 1246 <|
  lt (sI σ11 132 x2.toNatClampNeg x6_8) fun σ14 =>
  gd x2 1246 <|
  lt (sI σ14 130 x2.toNatClampNeg (-1 : Int32)) fun σ17 =>
  gd x2 1246 <|
  lt (sI σ17 133 x2.toNatClampNeg (-1 : Int32)) fun σ20 =>
  if x4_2 < (26 : Int32) then
    gd x3 24 <|
    bp (C_Chart_sizeOf σ20 x4_2 x5_5 x6_8) fun r25 =>
    if r25 ≤ (σ20.1 139 x3.toNatClampNeg) then
      some σ20
    else
      gd x3 24 <|
      bp (C_Chart_entryAt σ20 x4_2 x5_5 x6_8 (σ20.1 139 x3.toNatClampNeg)) fun r29 =>
      bp (C_Chart_ruleOf r29) fun r31 =>
      gd x2 1246 <|
      lt (sI σ20 130 x2.toNatClampNeg r31) fun σ33 =>
      bp (C_Tree_pushParts σ33 r29 x5_5 x6_8) fun σ36 =>
      some σ36
  else
    bp (C_Chart_chordOf σ20 x4_2 x5_5) fun r38 =>
    gd x2 1246 <|
    lt (sI σ20 133 x2.toNatClampNeg r38) fun σ40 =>
    gd x2 1246 <|
    gd x5_5 24 <|
    lt (sI σ40 134 x5_5.toNatClampNeg (σ40.1 133 x2.toNatClampNeg)) fun σ44 =>
    gd x5_5 24 <|
    lt (sI σ44 135 x5_5.toNatClampNeg (((x4_2 - (26 : Int32)) / (10 : Int32)) + (1 : Int32))) fun σ47 =>
    some σ47
abbrev rmC_Tree_visit : Room := { frames := 2, cells := 0, slots := 0, locals := 51 }
set_option maxHeartbeats 4000000 in
set_option maxRecDepth 100000 in
theorem cC_Tree_visit (l : Launch) (E : Ev) (sz : Nat) (σ0 σ' : St) (x2 : Int32) (x3 : Int32) (hm : C_Tree_visit σ0 x2 x3 = some σ') : Met l yX8_visit (wz yX8_visit cX8_visit 9 none) rmC_Tree_visit (PwC E [.ref (E.2.2 1008), .ref (E.2.2 1007), .int x2, .int x3] σ0 sz) (QvC E σ0 σ' sz) 0 0 (va_A (wldC E σ0) sz) := by
  refine enC (own := RX8) (by decide) rfl (Nat.le_of_ble_eq_true rfl) (fun p e s m args below meth c cx hr hlk hml hsz ok hw ls hl => ?_)
  have hx := cx.1
  have hb := cx.2.1
  have hA9 := cx.2.2.2
  have hA : ∀ q, s.heap.size ≤ q → (va_A (wldC E σ0) sz) q := fun q h => Or.inr (by rw [← hsz]; exact h)
  have hl : lv_has ls 9 [(0, .ref (E.2.2 1008)), (1, .ref (E.2.2 1007)), (2, .int x2), (3, .int x3)] := hl
  unfold C_Tree_visit at hm
  have goal0 : ∀ (H : Heap) (locs : List Loc), wsC E σ0 (va_A (wldC E σ0) sz) s H locs → W p l e rmC_Tree_visit s m args below meth c H locs 0 0 (MQ below (QvC E σ0 σ' sz) args s 0 0 (va_A (wldC E σ0) sz)) (F0 m 0 ls []) := by
    intro H locs hw
    refine lv_aload_n hx hb dX8_visit_0 rfl (lv_at hl 0 rfl) ?_
    refine gtC_X8_8_8 cx ok hw dX8_visit_1 ?_
    refine lv_iload_n hx hb dX8_visit_4 rfl (lv_at hl 3 rfl) ?_
    obtain ⟨g1, hm⟩ := gd_ok hm
    refine ldC_136 cx ok hw g1 dX8_visit_5 ?_
    obtain ⟨x4_2, e3, hm⟩ := lt_ok hm
    refine ti_eq e3 ?_
    refine lv_istore (lv' := [(4, .int x4_2), (0, .ref (E.2.2 1008)), (1, .ref (E.2.2 1007)), (2, .int x2), (3, .int x3)]) hx hb dX8_visit_6 hl (by decide) rfl (fun ls hl => ?_)
    refine lv_aload_n hx hb dX8_visit_8 rfl (lv_at hl 1 rfl) ?_
    refine gtC_X8_8_9 cx ok hw dX8_visit_9 ?_
    refine lv_iload_n hx hb dX8_visit_12 rfl (lv_at hl 4 rfl) ?_
    obtain ⟨g4, hm⟩ := gd_ok hm
    refine ldC_137 cx ok hw g4 dX8_visit_13 ?_
    obtain ⟨x5_5, e6, hm⟩ := lt_ok hm
    refine ti_eq e6 ?_
    refine lv_istore (lv' := [(5, .int x5_5), (4, .int x4_2), (0, .ref (E.2.2 1008)), (1, .ref (E.2.2 1007)), (2, .int x2), (3, .int x3)]) hx hb dX8_visit_14 hl (by decide) rfl (fun ls hl => ?_)
    refine lv_aload_n hx hb dX8_visit_16 rfl (lv_at hl 2 rfl) ?_
    refine gtC_X8_8_10 cx ok hw dX8_visit_17 ?_
    refine lv_iload_n hx hb dX8_visit_20 rfl (lv_at hl 5 rfl) ?_
    obtain ⟨g7, hm⟩ := gd_ok hm
    refine ldC_138 cx ok hw g7 dX8_visit_21 ?_
    obtain ⟨x6_8, e9, hm⟩ := lt_ok hm
    refine ti_eq e9 ?_
    refine lv_istore (lv' := [(6, .int x6_8), (5, .int x5_5), (4, .int x4_2), (0, .ref (E.2.2 1008)), (1, .ref (E.2.2 1007)), (2, .int x2), (3, .int x3)]) hx hb dX8_visit_22 hl (by decide) rfl (fun ls hl => ?_)
    refine lv_aload_n hx hb dX8_visit_24 rfl (lv_at hl 3 rfl) ?_
    refine gtC_X8_8_3 cx ok hw dX8_visit_25 ?_
    refine lv_iload_n hx hb dX8_visit_28 rfl (lv_at hl 5 rfl) ?_
    refine lv_iload hx hb dX8_visit_29 (lv_at hl 1 rfl) ?_
    obtain ⟨g10, hm⟩ := gd_ok hm
    refine stC_131 cx ok hw g10 dX8_visit_31 (fun H locs hw => ?_)
    obtain ⟨σ11, e12, hm⟩ := lt_ok hm
    have hw := wsC_eq e12 hw
    refine lv_aload_n hx hb dX8_visit_32 rfl (lv_at hl 3 rfl) ?_
    refine gtC_X8_8_4 cx ok hw dX8_visit_33 ?_
    refine lv_iload_n hx hb dX8_visit_36 rfl (lv_at hl 5 rfl) ?_
    refine lv_iload hx hb dX8_visit_37 (lv_at hl 0 rfl) ?_
    obtain ⟨g13, hm⟩ := gd_ok hm
    refine stC_132 cx ok hw g13 dX8_visit_39 (fun H locs hw => ?_)
    obtain ⟨σ14, e15, hm⟩ := lt_ok hm
    have hw := wsC_eq e15 hw
    refine lv_aload_n hx hb dX8_visit_40 rfl (lv_at hl 3 rfl) ?_
    refine gtC_X8_8_2 cx ok hw dX8_visit_41 ?_
    refine lv_iload_n hx hb dX8_visit_44 rfl (lv_at hl 5 rfl) ?_
    refine lv_iconst (v := (-1 : Int32)) hx hb dX8_visit_45 (by decide) ?_
    obtain ⟨g16, hm⟩ := gd_ok hm
    refine stC_130 cx ok hw g16 dX8_visit_46 (fun H locs hw => ?_)
    obtain ⟨σ17, e18, hm⟩ := lt_ok hm
    have hw := wsC_eq e18 hw
    refine lv_aload_n hx hb dX8_visit_47 rfl (lv_at hl 3 rfl) ?_
    refine gtC_X8_8_5 cx ok hw dX8_visit_48 ?_
    refine lv_iload_n hx hb dX8_visit_51 rfl (lv_at hl 5 rfl) ?_
    refine lv_iconst (v := (-1 : Int32)) hx hb dX8_visit_52 (by decide) ?_
    obtain ⟨g19, hm⟩ := gd_ok hm
    refine stC_133 cx ok hw g19 dX8_visit_53 (fun H locs hw => ?_)
    obtain ⟨σ20, e21, hm⟩ := lt_ok hm
    have hw := wsC_eq e21 hw
    refine lv_iload hx hb dX8_visit_54 (lv_at hl 2 rfl) ?_
    refine lv_bipush (v := (26 : Int32)) hx hb dX8_visit_56 (by decide) ?_
    refine lv_icmp_lt (tgt := 108) hx hb dX8_visit_58 (by decide) (fun c22 => ?_) (fun c22 => ?_)
    · have hm := if_t c22 hm
      refine lv_aload_n hx hb dX8_visit_108 rfl (lv_at hl 3 rfl) ?_
      refine gtC_X8_8_11 cx ok hw dX8_visit_109 ?_
      refine lv_iload_n hx hb dX8_visit_112 rfl (lv_at hl 6 rfl) ?_
      obtain ⟨g23, hm⟩ := gd_ok hm
      refine ldC_139 cx ok hw g23 dX8_visit_113 ?_
      refine lv_aload_n hx hb dX8_visit_114 rfl (lv_at hl 4 rfl) ?_
      refine lv_iload hx hb dX8_visit_115 (lv_at hl 2 rfl) ?_
      refine lv_iload hx hb dX8_visit_117 (lv_at hl 1 rfl) ?_
      refine lv_iload hx hb dX8_visit_119 (lv_at hl 0 rfl) ?_
      obtain ⟨r25, h24, hm⟩ := bp_ok hm
      refine clVN_Ci (As := [.int x4_2, .int x5_5, .int x6_8]) (rest := [.int (σ20.1 139 x3.toNatClampNeg)]) cx hml hl.1 ok hw hA (rcC_7 ok hw) (cC_Chart_sizeOf l E _ σ20 x4_2 x5_5 x6_8 r25 h24) (cwC_X8_Chart_sizeOf hA9 ok ⟨Nat.le_of_ble_eq_true rfl, Nat.le_of_ble_eq_true rfl⟩) rfl rfl (Nat.le_of_ble_eq_true rfl) dX8_visit_121 (fun H locs hw => ?_)
      refine lv_icmp_ge (tgt := 170) hx hb dX8_visit_124 (by decide) (fun c26 => ?_) (fun c26 => ?_)
      · have hm := if_t c26 hm
        exact rtC_v cx hr hlk hw hm dX8_visit_170
      · have hm := if_f c26 hm
        refine lv_aload_n hx hb dX8_visit_127 rfl (lv_at hl 4 rfl) ?_
        refine lv_iload hx hb dX8_visit_128 (lv_at hl 2 rfl) ?_
        refine lv_iload hx hb dX8_visit_130 (lv_at hl 1 rfl) ?_
        refine lv_iload hx hb dX8_visit_132 (lv_at hl 0 rfl) ?_
        refine lv_aload_n hx hb dX8_visit_134 rfl (lv_at hl 3 rfl) ?_
        refine gtC_X8_8_11 cx ok hw dX8_visit_135 ?_
        refine lv_iload_n hx hb dX8_visit_138 rfl (lv_at hl 6 rfl) ?_
        obtain ⟨g27, hm⟩ := gd_ok hm
        refine ldC_139 cx ok hw g27 dX8_visit_139 ?_
        obtain ⟨r29, h28, hm⟩ := bp_ok hm
        refine clVN_Cl (As := [.int x4_2, .int x5_5, .int x6_8, .int (σ20.1 139 x3.toNatClampNeg)]) (rest := []) cx hml hl.1 ok hw hA (rcC_7 ok hw) (cC_Chart_entryAt l E _ σ20 x4_2 x5_5 x6_8 (σ20.1 139 x3.toNatClampNeg) r29 h28) (cwC_X8_Chart_entryAt hA9 ok ⟨Nat.le_of_ble_eq_true rfl, Nat.le_of_ble_eq_true rfl⟩) rfl rfl (Nat.le_of_ble_eq_true rfl) dX8_visit_140 (fun H locs hw => ?_)
        refine lv_lstore (lv' := [(7, .long r29), (6, .int x6_8), (5, .int x5_5), (4, .int x4_2), (0, .ref (E.2.2 1008)), (1, .ref (E.2.2 1007)), (2, .int x2), (3, .int x3)]) hx hb dX8_visit_143 hl (by decide) rfl (fun ls hl => ?_)
        refine lv_aload_n hx hb dX8_visit_145 rfl (lv_at hl 4 rfl) ?_
        refine gtC_X8_8_2 cx ok hw dX8_visit_146 ?_
        refine lv_iload_n hx hb dX8_visit_149 rfl (lv_at hl 6 rfl) ?_
        refine lv_lload hx hb dX8_visit_150 (lv_at hl 0 rfl) ?_
        obtain ⟨r31, h30, hm⟩ := bp_ok hm
        refine clSN_Ci (As := [.long r29]) (rest := [.int x2, .ref (E.2.2 130)]) cx hml hl.1 ok hw hA (cC_Chart_ruleOf l E _ σ20 r29 r31 h30) (cwC_X8_Chart_ruleOf hA9 ok ⟨Nat.le_of_ble_eq_true rfl, Nat.le_of_ble_eq_true rfl⟩) rfl rfl (Nat.le_of_ble_eq_true rfl) dX8_visit_152 (fun H locs hw => ?_)
        obtain ⟨g32, hm⟩ := gd_ok hm
        refine stC_130 cx ok hw g32 dX8_visit_155 (fun H locs hw => ?_)
        obtain ⟨σ33, e34, hm⟩ := lt_ok hm
        have hw := wsC_eq e34 hw
        refine lv_aload_n hx hb dX8_visit_156 rfl (lv_at hl 4 rfl) ?_
        refine lv_aload_n hx hb dX8_visit_157 rfl (lv_at hl 5 rfl) ?_
        refine gtC_X8_7_0 cx ok hw dX8_visit_158 ?_
        refine lv_lload hx hb dX8_visit_161 (lv_at hl 0 rfl) ?_
        refine lv_iload hx hb dX8_visit_163 (lv_at hl 2 rfl) ?_
        refine lv_iload hx hb dX8_visit_165 (lv_at hl 1 rfl) ?_
        obtain ⟨σ36, h35, hm⟩ := bp_ok hm
        refine clV_Cv (As := [.ref (E.2.2 1010), .long r29, .int x5_5, .int x6_8]) (rest := []) cx hml hl.1 ok hw hA (rcC_8 ok hw) (cC_Tree_pushParts l E _ σ33 σ36 r29 x5_5 x6_8 h35) (cwC_X8_Tree_pushParts hA9 ⟨Nat.le_of_ble_eq_true rfl, Nat.le_of_ble_eq_true rfl⟩) rfl rfl (Nat.le_of_ble_eq_true rfl) dX8_visit_167 (fun H locs hw => ?_)
        exact rtC_v cx hr hlk hw hm dX8_visit_170
    · have hm := if_f c22 hm
      refine lv_aload_n hx hb dX8_visit_61 rfl (lv_at hl 3 rfl) ?_
      refine gtC_X8_8_5 cx ok hw dX8_visit_62 ?_
      refine lv_iload_n hx hb dX8_visit_65 rfl (lv_at hl 5 rfl) ?_
      refine lv_aload_n hx hb dX8_visit_66 rfl (lv_at hl 4 rfl) ?_
      refine lv_iload hx hb dX8_visit_67 (lv_at hl 2 rfl) ?_
      refine lv_iload hx hb dX8_visit_69 (lv_at hl 1 rfl) ?_
      obtain ⟨r38, h37, hm⟩ := bp_ok hm
      refine clVN_Ci (As := [.int x4_2, .int x5_5]) (rest := [.int x2, .ref (E.2.2 133)]) cx hml hl.1 ok hw hA (rcC_7 ok hw) (cC_Chart_chordOf l E _ σ20 x4_2 x5_5 r38 h37) (cwC_X8_Chart_chordOf hA9 ok ⟨Nat.le_of_ble_eq_true rfl, Nat.le_of_ble_eq_true rfl⟩) rfl rfl (Nat.le_of_ble_eq_true rfl) dX8_visit_71 (fun H locs hw => ?_)
      obtain ⟨g39, hm⟩ := gd_ok hm
      refine stC_133 cx ok hw g39 dX8_visit_74 (fun H locs hw => ?_)
      obtain ⟨σ40, e41, hm⟩ := lt_ok hm
      have hw := wsC_eq e41 hw
      refine lv_aload_n hx hb dX8_visit_75 rfl (lv_at hl 3 rfl) ?_
      refine gtC_X8_8_6 cx ok hw dX8_visit_76 ?_
      refine lv_iload hx hb dX8_visit_79 (lv_at hl 1 rfl) ?_
      refine lv_aload_n hx hb dX8_visit_81 rfl (lv_at hl 3 rfl) ?_
      refine gtC_X8_8_5 cx ok hw dX8_visit_82 ?_
      refine lv_iload_n hx hb dX8_visit_85 rfl (lv_at hl 5 rfl) ?_
      obtain ⟨g42, hm⟩ := gd_ok hm
      refine ldC_133 cx ok hw g42 dX8_visit_86 ?_
      obtain ⟨g43, hm⟩ := gd_ok hm
      refine stC_134 cx ok hw g43 dX8_visit_87 (fun H locs hw => ?_)
      obtain ⟨σ44, e45, hm⟩ := lt_ok hm
      have hw := wsC_eq e45 hw
      refine lv_aload_n hx hb dX8_visit_88 rfl (lv_at hl 3 rfl) ?_
      refine gtC_X8_8_7 cx ok hw dX8_visit_89 ?_
      refine lv_iload hx hb dX8_visit_92 (lv_at hl 1 rfl) ?_
      refine lv_iload hx hb dX8_visit_94 (lv_at hl 2 rfl) ?_
      refine lv_bipush (v := (26 : Int32)) hx hb dX8_visit_96 (by decide) ?_
      refine lv_isub hx hb dX8_visit_98 ?_
      refine lv_bipush (v := (10 : Int32)) hx hb dX8_visit_99 (by decide) ?_
      refine lv_idiv hx hb dX8_visit_101 (by decide) ?_
      refine lv_iconst (v := (1 : Int32)) hx hb dX8_visit_102 (by decide) ?_
      refine lv_iadd hx hb dX8_visit_103 ?_
      obtain ⟨g46, hm⟩ := gd_ok hm
      refine stC_135 cx ok hw g46 dX8_visit_104 (fun H locs hw => ?_)
      obtain ⟨σ47, e48, hm⟩ := lt_ok hm
      have hw := wsC_eq e48 hw
      refine lv_goto (tgt := 170) hx hb dX8_visit_105 (by decide) ?_
      exact rtC_v cx hr hlk hw hm dX8_visit_170
  exact goal0 _ _ hw
theorem cwC_X8_Tree_visit {R : Room} {s : State} {args : Array Value} (h : ∀ w ∈ wA, w.before args s = true) (hR : rmC_Tree_visit.frames + 1 ≤ R.frames ∧ 8 + (9 + 11) + rmC_Tree_visit.locals ≤ R.locals) : CallW R s args RX8 RX8 70 yX8_visit cX8_visit 9 none (wz yX8_visit cX8_visit 9 none) rmC_Tree_visit 0 0 3 := cwV 3 h (gdV k_635 k_637 ks_42 k_10 k_638) rfl rfl rfl (by decide +kernel) hR
/-! ChordGrammars$Tree.walk: writes, loops -/
def C_Tree_walk_l38 (n : Nat) : Nat → St → Int32 → Option St
  | 0, _, _ => none
  | f + 1, σ, x3 =>
    if (1246 : Int32) ≤ x3 then
      some σ
    else
      if (σ.1 140 0) ≤ 0 then
        some σ
      else
        lt (sI σ 140 0 ((σ.1 140 0) - (1 : Int32))) fun σ3 =>
        lt (sI σ3 129 0 (x3 + (1 : Int32))) fun σ5 =>
        bp (C_Tree_visit σ5 x3 (σ5.1 140 0)) fun σ8 =>
        lt (x3 + (1 : Int32)) fun x3_9 =>
        (C_Tree_walk_l38 n f) σ8 x3_9
def C_Tree_walk (n : Nat) (σ0 : St) (x2 : Int32) : Option St :=
  lt (sI σ0 128 0 x2) fun σ1 =>
  lt (sI σ1 129 0 (0 : Int32)) fun σ3 =>
  lt (sI σ3 140 0 (0 : Int32)) fun σ5 =>
  gd (0 : Int32) 60 <|
  bp (C_Tree_push σ5 (σ5.1 160 (0 : Int32).toNatClampNeg) (0 : Int32) ((σ5.1 118 0) - (1 : Int32)) x2) fun σ9 =>
  C_Tree_walk_l38 n n σ9 (0 : Int32)
abbrev rmC_Tree_walk : Room := { frames := 3, cells := 0, slots := 0, locals := 79 }
set_option maxHeartbeats 4000000 in
set_option maxRecDepth 100000 in
theorem cC_Tree_walk (l : Launch) (E : Ev) (n : Nat) (sz : Nat) (σ0 σ' : St) (x2 : Int32) (hm : C_Tree_walk n σ0 x2 = some σ') : Met l yX8_walk (wz yX8_walk cX8_walk 4 none) rmC_Tree_walk (PwC E [.ref (E.2.2 1008), .ref (E.2.2 1007), .int x2] σ0 sz) (QvC E σ0 σ' sz) 0 0 (va_A (wldC E σ0) sz) := by
  refine enC (own := RX8) (by decide) rfl (Nat.le_of_ble_eq_true rfl) (fun p e s m args below meth c cx hr hlk hml hsz ok hw ls hl => ?_)
  have hx := cx.1
  have hb := cx.2.1
  have hA9 := cx.2.2.2
  have hA : ∀ q, s.heap.size ≤ q → (va_A (wldC E σ0) sz) q := fun q h => Or.inr (by rw [← hsz]; exact h)
  have w_38 : ∀ (f : Nat), ∀ (σ : St) (x3 : Int32) (H : Heap) (locs : List Loc) (ls : Array Slot), wsC E σ (va_A (wldC E σ0) sz) s H locs → lv_has ls 4 [(0, .ref (E.2.2 1008)), (1, .ref (E.2.2 1007)), (3, .int x3)] → C_Tree_walk_l38 n f σ x3 = some σ' → W p l e rmC_Tree_walk s m args below meth c H locs 0 0 (MQ below (QvC E σ0 σ' sz) args s 0 0 (va_A (wldC E σ0) sz)) (F0 m 38 ls []) := by
    intro f
    induction f with
    | zero =>
      intro σ x3 H locs ls hw hl hm
      rw [C_Tree_walk_l38] at hm
      cases hm
    | succ f ih =>
      intro σ x3 H locs ls hw hl hm
      rw [C_Tree_walk_l38] at hm
      refine lv_iload_n hx hb dX8_walk_38 rfl (lv_at hl 2 rfl) ?_
      refine lv_sipush (v := (1246 : Int32)) hx hb dX8_walk_39 (by decide) ?_
      refine lv_icmp_ge (tgt := 85) hx hb dX8_walk_42 (by decide) (fun c1 => ?_) (fun c1 => ?_)
      · have hm := if_t c1 hm
        exact rtC_v cx hr hlk hw hm dX8_walk_85
      · have hm := if_f c1 hm
        refine lv_aload_n hx hb dX8_walk_45 rfl (lv_at hl 0 rfl) ?_
        refine gtC_X8_8_12 cx ok hw dX8_walk_46 ?_
        refine lv_if_le (tgt := 85) hx hb dX8_walk_49 (by decide) (fun c2 => ?_) (fun c2 => ?_)
        · have hm := if_t c2 hm
          exact rtC_v cx hr hlk hw hm dX8_walk_85
        · have hm := if_f c2 hm
          refine lv_aload_n hx hb dX8_walk_52 rfl (lv_at hl 0 rfl) ?_
          refine lv_dup hx hb dX8_walk_53 rfl ?_
          refine gtC_X8_8_12 cx ok hw dX8_walk_54 ?_
          refine lv_iconst (v := (1 : Int32)) hx hb dX8_walk_57 (by decide) ?_
          refine lv_isub hx hb dX8_walk_58 ?_
          refine ptC_X8_8_12 cx ok hw dX8_walk_59 (fun H locs hw => ?_)
          obtain ⟨σ3, e4, hm⟩ := lt_ok hm
          have hw := wsC_eq e4 hw
          refine lv_aload_n hx hb dX8_walk_62 rfl (lv_at hl 0 rfl) ?_
          refine lv_iload_n hx hb dX8_walk_63 rfl (lv_at hl 2 rfl) ?_
          refine lv_iconst (v := (1 : Int32)) hx hb dX8_walk_64 (by decide) ?_
          refine lv_iadd hx hb dX8_walk_65 ?_
          refine ptC_X8_8_1 cx ok hw dX8_walk_66 (fun H locs hw => ?_)
          obtain ⟨σ5, e6, hm⟩ := lt_ok hm
          have hw := wsC_eq e6 hw
          refine lv_aload_n hx hb dX8_walk_69 rfl (lv_at hl 0 rfl) ?_
          refine lv_aload_n hx hb dX8_walk_70 rfl (lv_at hl 1 rfl) ?_
          refine lv_iload_n hx hb dX8_walk_71 rfl (lv_at hl 2 rfl) ?_
          refine lv_aload_n hx hb dX8_walk_72 rfl (lv_at hl 0 rfl) ?_
          refine gtC_X8_8_12 cx ok hw dX8_walk_73 ?_
          obtain ⟨σ8, h7, hm⟩ := bp_ok hm
          refine clV_Cv (As := [.ref (E.2.2 1007), .int x3, .int (σ5.1 140 0)]) (rest := []) cx hml hl.1 ok hw hA (rcC_8 ok hw) (cC_Tree_visit l E _ σ5 σ8 x3 (σ5.1 140 0) h7) (cwC_X8_Tree_visit hA9 ⟨Nat.le_of_ble_eq_true rfl, Nat.le_of_ble_eq_true rfl⟩) rfl rfl (Nat.le_of_ble_eq_true rfl) dX8_walk_76 (fun H locs hw => ?_)
          obtain ⟨x3_9, e10, hm⟩ := lt_ok hm
          refine lv_iinc (v := x3_9) (lv' := [(3, .int x3_9), (0, .ref (E.2.2 1008)), (1, .ref (E.2.2 1007))]) hx hb dX8_walk_79 hl (k := 2) rfl (by rw [e10]; rfl) (by decide) rfl (fun ls hl => ?_)
          refine lv_goto (tgt := 38) hx hb dX8_walk_82 (by decide) ?_
          exact ih σ8 x3_9 H locs ls hw (lv_sub hl [1, 2, 0] rfl) hm
  have hl : lv_has ls 4 [(0, .ref (E.2.2 1008)), (1, .ref (E.2.2 1007)), (2, .int x2)] := hl
  unfold C_Tree_walk at hm
  have goal0 : ∀ (H : Heap) (locs : List Loc), wsC E σ0 (va_A (wldC E σ0) sz) s H locs → W p l e rmC_Tree_walk s m args below meth c H locs 0 0 (MQ below (QvC E σ0 σ' sz) args s 0 0 (va_A (wldC E σ0) sz)) (F0 m 0 ls []) := by
    intro H locs hw
    refine lv_aload_n hx hb dX8_walk_0 rfl (lv_at hl 0 rfl) ?_
    refine lv_iload_n hx hb dX8_walk_1 rfl (lv_at hl 2 rfl) ?_
    refine ptC_X8_8_0 cx ok hw dX8_walk_2 (fun H locs hw => ?_)
    obtain ⟨σ1, e2, hm⟩ := lt_ok hm
    have hw := wsC_eq e2 hw
    refine lv_aload_n hx hb dX8_walk_5 rfl (lv_at hl 0 rfl) ?_
    refine lv_iconst (v := (0 : Int32)) hx hb dX8_walk_6 (by decide) ?_
    refine ptC_X8_8_1 cx ok hw dX8_walk_7 (fun H locs hw => ?_)
    obtain ⟨σ3, e4, hm⟩ := lt_ok hm
    have hw := wsC_eq e4 hw
    refine lv_aload_n hx hb dX8_walk_10 rfl (lv_at hl 0 rfl) ?_
    refine lv_iconst (v := (0 : Int32)) hx hb dX8_walk_11 (by decide) ?_
    refine ptC_X8_8_12 cx ok hw dX8_walk_12 (fun H locs hw => ?_)
    obtain ⟨σ5, e6, hm⟩ := lt_ok hm
    have hw := wsC_eq e6 hw
    refine lv_aload_n hx hb dX8_walk_15 rfl (lv_at hl 0 rfl) ?_
    refine lv_aload_n hx hb dX8_walk_16 rfl (lv_at hl 1 rfl) ?_
    refine gtC_X8_7_0 cx ok hw dX8_walk_17 ?_
    refine gtC_X8_10_0 cx ok hw dX8_walk_20 ?_
    refine lv_iconst (v := (0 : Int32)) hx hb dX8_walk_23 (by decide) ?_
    obtain ⟨g7, hm⟩ := gd_ok hm
    refine ldC_160 cx ok hw g7 dX8_walk_24 ?_
    refine lv_iconst (v := (0 : Int32)) hx hb dX8_walk_25 (by decide) ?_
    refine lv_aload_n hx hb dX8_walk_26 rfl (lv_at hl 1 rfl) ?_
    refine gtC_X8_7_6 cx ok hw dX8_walk_27 ?_
    refine lv_iconst (v := (1 : Int32)) hx hb dX8_walk_30 (by decide) ?_
    refine lv_isub hx hb dX8_walk_31 ?_
    refine lv_iload_n hx hb dX8_walk_32 rfl (lv_at hl 2 rfl) ?_
    obtain ⟨σ9, h8, hm⟩ := bp_ok hm
    refine clV_Cv (As := [.int (σ5.1 160 (0 : Int32).toNatClampNeg), .int (0 : Int32), .int ((σ5.1 118 0) - (1 : Int32)), .int x2]) (rest := []) cx hml hl.1 ok hw hA (rcC_8 ok hw) (cC_Tree_push l E _ σ5 σ9 (σ5.1 160 (0 : Int32).toNatClampNeg) (0 : Int32) ((σ5.1 118 0) - (1 : Int32)) x2 h8) (cwC_X8_Tree_push hA9 ⟨Nat.le_of_ble_eq_true rfl, Nat.le_of_ble_eq_true rfl⟩) rfl rfl (Nat.le_of_ble_eq_true rfl) dX8_walk_33 (fun H locs hw => ?_)
    refine lv_iconst (v := (0 : Int32)) hx hb dX8_walk_36 (by decide) ?_
    refine lv_istore_n (lv' := [(3, .int (0 : Int32)), (0, .ref (E.2.2 1008)), (1, .ref (E.2.2 1007)), (2, .int x2)]) hx hb dX8_walk_37 rfl hl (by decide) rfl (fun ls hl => ?_)
    exact w_38 n σ9 (0 : Int32) H locs ls hw (lv_sub hl [1, 2, 0] rfl) hm
  exact goal0 _ _ hw
theorem cwC_X9_Tree_walk {R : Room} {s : State} {args : Array Value} {E : Ev} {A : Nat → Prop} (h : ∀ w ∈ wA, w.before args s = true) (ok : okC E A s) (hR : rmC_Tree_walk.frames + 1 ≤ R.frames ∧ 8 + (4 + 11) + rmC_Tree_walk.locals ≤ R.locals) : va_CN R s args RX9 195 yX8_walk "ChordGrammars" cX8_walk 4 none (wz yX8_walk cX8_walk 4 none) rmC_Tree_walk 0 0 2 ∧ (Cond.instanceMethod yX8_walk).before args s = true ∧ (Cond.selects RX8 yX8_walk yX8_walk).before args s = true := ⟨va_cnB 2 h (gdC k_630) rfl rfl rfl (ok.2.1 _ kn_627) (h _ k_10) (by decide +kernel) hR, h _ k_629, h _ ks_40⟩
/-! ChordGrammars.treeOf: writes -/
def C_CG_treeOf (n : Nat) (σ0 : St) (x1 : Int32) : Option St :=
  if (σ0.1 128 0) = x1 then
    some σ0
  else
    bp (C_Tree_walk n σ0 x1) fun σ3 =>
    some σ3
abbrev rmC_CG_treeOf : Room := { frames := 4, cells := 0, slots := 0, locals := 102 }
set_option maxHeartbeats 4000000 in
set_option maxRecDepth 100000 in
theorem cC_CG_treeOf (l : Launch) (E : Ev) (n : Nat) (sz : Nat) (σ0 σ' : St) (x1 : Int32) (hm : C_CG_treeOf n σ0 x1 = some σ') : Met l yX9_treeOf (wz yX9_treeOf cX9_treeOf 2 (some (.object "ChordGrammars$Tree"))) rmC_CG_treeOf (PwC E [.ref (E.2.2 1000), .int x1] σ0 sz) (QrC E σ0 σ' sz (E.2.2 1008)) 0 0 (va_A (wldC E σ0) sz) := by
  refine enC (own := RX9) (by decide) rfl (Nat.le_of_ble_eq_true rfl) (fun p e s m args below meth c cx hr hlk hml hsz ok hw ls hl => ?_)
  have hx := cx.1
  have hb := cx.2.1
  have hA9 := cx.2.2.2
  have hA : ∀ q, s.heap.size ≤ q → (va_A (wldC E σ0) sz) q := fun q h => Or.inr (by rw [← hsz]; exact h)
  have hl : lv_has ls 2 [(0, .ref (E.2.2 1000)), (1, .int x1)] := hl
  unfold C_CG_treeOf at hm
  have goal0 : ∀ (H : Heap) (locs : List Loc), wsC E σ0 (va_A (wldC E σ0) sz) s H locs → W p l e rmC_CG_treeOf s m args below meth c H locs 0 0 (MQ below (QrC E σ0 σ' sz (E.2.2 1008)) args s 0 0 (va_A (wldC E σ0) sz)) (F0 m 0 ls []) := by
    intro H locs hw
    refine lv_aload_n hx hb dX9_treeOf_0 rfl (lv_at hl 0 rfl) ?_
    refine gtC_X9_0_7 cx ok hw dX9_treeOf_1 ?_
    refine gtC_X9_8_0 cx ok hw dX9_treeOf_4 ?_
    refine lv_iload_n hx hb dX9_treeOf_7 rfl (lv_at hl 1 rfl) ?_
    refine lv_icmp_eq (tgt := 23) hx hb dX9_treeOf_8 (by decide) (fun c1 => ?_) (fun c1 => ?_)
    · have hm := if_t c1 hm
      refine lv_aload_n hx hb dX9_treeOf_23 rfl (lv_at hl 0 rfl) ?_
      refine gtC_X9_0_7 cx ok hw dX9_treeOf_24 ?_
      exact rtC_r cx hr hlk hw hm dX9_treeOf_27
    · have hm := if_f c1 hm
      refine lv_aload_n hx hb dX9_treeOf_11 rfl (lv_at hl 0 rfl) ?_
      refine gtC_X9_0_7 cx ok hw dX9_treeOf_12 ?_
      refine lv_aload_n hx hb dX9_treeOf_15 rfl (lv_at hl 0 rfl) ?_
      refine gtC_X9_0_6 cx ok hw dX9_treeOf_16 ?_
      refine lv_iload_n hx hb dX9_treeOf_19 rfl (lv_at hl 1 rfl) ?_
      obtain ⟨σ3, h2, hm⟩ := bp_ok hm
      refine clVN_Cv (As := [.ref (E.2.2 1007), .int x1]) (rest := []) cx hml hl.1 ok hw hA (rcC_8 ok hw) (cC_Tree_walk l E n _ σ0 σ3 x1 h2) (cwC_X9_Tree_walk hA9 ok ⟨Nat.le_of_ble_eq_true rfl, Nat.le_of_ble_eq_true rfl⟩) rfl rfl (Nat.le_of_ble_eq_true rfl) dX9_treeOf_20 (fun H locs hw => ?_)
      refine lv_aload_n hx hb dX9_treeOf_23 rfl (lv_at hl 0 rfl) ?_
      refine gtC_X9_0_7 cx ok hw dX9_treeOf_24 ?_
      exact rtC_r cx hr hlk hw hm dX9_treeOf_27
  exact goal0 _ _ hw
theorem cwC_X9_CG_treeOf {R : Room} {s : State} {args : Array Value} (h : ∀ w ∈ wA, w.before args s = true) (hR : rmC_CG_treeOf.frames + 1 ≤ R.frames ∧ 8 + (2 + 11) + rmC_CG_treeOf.locals ≤ R.locals) : CallW R s args RX9 RX9 142 yX9_treeOf cX9_treeOf 2 (some (.object "ChordGrammars$Tree")) (wz yX9_treeOf cX9_treeOf 2 (some (.object "ChordGrammars$Tree"))) rmC_CG_treeOf 0 0 1 := cwV 1 h (gdV k_623 k_625 ks_39 k_1 k_626) rfl rfl rfl (by decide +kernel) hR
/-! ChordGrammars.node: writes -/
def C_CG_node (n : Nat) (σ0 : St) (x1 : Int32) (x2 : Int32) (x3 : Int32) : Option (Int32 × St) :=
  bp (C_CG_isListed σ0 x1) fun r2 =>
  if r2 = 0 then
    some ((-1 : Int32), σ0)
  else
    bp (C_CG_treeOf n σ0 x1) fun σ5 =>
    if x2 < 0 then
      some ((-1 : Int32), σ5)
    else
      if x2 < (σ5.1 129 0) then
        if x3 = (0 : Int32) then
          gd x2 1246 <|
          some ((σ5.1 130 x2.toNatClampNeg), σ5)
        else
        if x3 = (1 : Int32) then
          gd x2 1246 <|
          some ((σ5.1 131 x2.toNatClampNeg), σ5)
        else
        if x3 = (2 : Int32) then
          gd x2 1246 <|
          some ((σ5.1 132 x2.toNatClampNeg), σ5)
        else
        if x3 = (3 : Int32) then
          gd x2 1246 <|
          some ((σ5.1 133 x2.toNatClampNeg), σ5)
        else
          some ((-1 : Int32), σ5)
      else
        some ((-1 : Int32), σ5)
abbrev rmC_CG_node : Room := { frames := 5, cells := 0, slots := 0, locals := 123 }
set_option maxHeartbeats 4000000 in
set_option maxRecDepth 100000 in
theorem cC_CG_node (l : Launch) (E : Ev) (n : Nat) (sz : Nat) (σ0 σ' : St) (x1 : Int32) (x2 : Int32) (x3 : Int32) (r : Int32) (hm : C_CG_node n σ0 x1 x2 x3 = some (r, σ')) : Met l yX9_node (wz yX9_node cX9_node 4 (some .int)) rmC_CG_node (PwC E [.ref (E.2.2 1000), .int x1, .int x2, .int x3] σ0 sz) (QiC E σ0 σ' sz r) 0 0 (va_A (wldC E σ0) sz) := by
  refine enC (own := RX9) (by decide) rfl (Nat.le_of_ble_eq_true rfl) (fun p e s m args below meth c cx hr hlk hml hsz ok hw ls hl => ?_)
  have hx := cx.1
  have hb := cx.2.1
  have hA9 := cx.2.2.2
  have hA : ∀ q, s.heap.size ≤ q → (va_A (wldC E σ0) sz) q := fun q h => Or.inr (by rw [← hsz]; exact h)
  have hl : lv_has ls 4 [(0, .ref (E.2.2 1000)), (1, .int x1), (2, .int x2), (3, .int x3)] := hl
  unfold C_CG_node at hm
  have goal0 : ∀ (H : Heap) (locs : List Loc), wsC E σ0 (va_A (wldC E σ0) sz) s H locs → W p l e rmC_CG_node s m args below meth c H locs 0 0 (MQ below (QiC E σ0 σ' sz r) args s 0 0 (va_A (wldC E σ0) sz)) (F0 m 0 ls []) := by
    intro H locs hw
    refine lv_aload_n hx hb dX9_node_0 rfl (lv_at hl 0 rfl) ?_
    refine lv_iload_n hx hb dX9_node_1 rfl (lv_at hl 1 rfl) ?_
    obtain ⟨r2, h1, hm⟩ := bp_ok hm
    refine clV_Ci (As := [.int x1]) (rest := []) cx hml hl.1 ok hw hA (rcC_0 ok hw) (cC_CG_isListed l E _ σ0 x1 r2 h1) (cwC_X9_CG_isListed hA9 ⟨Nat.le_of_ble_eq_true rfl, Nat.le_of_ble_eq_true rfl⟩) rfl rfl (Nat.le_of_ble_eq_true rfl) dX9_node_2 (fun H locs hw => ?_)
    refine lv_if_ne (tgt := 10) hx hb dX9_node_5 (by decide) (fun c3 => ?_) (fun c3 => ?_)
    · have hm := if_f c3 hm
      refine lv_aload_n hx hb dX9_node_10 rfl (lv_at hl 0 rfl) ?_
      refine lv_iload_n hx hb dX9_node_11 rfl (lv_at hl 1 rfl) ?_
      obtain ⟨σ5, h4, hm⟩ := bp_ok hm
      refine clV_Cr (As := [.int x1]) (rest := []) cx hml hl.1 ok hw hA (rcC_0 ok hw) (cC_CG_treeOf l E n _ σ0 σ5 x1 h4) (cwC_X9_CG_treeOf hA9 ⟨Nat.le_of_ble_eq_true rfl, Nat.le_of_ble_eq_true rfl⟩) rfl rfl (Nat.le_of_ble_eq_true rfl) dX9_node_12 (fun H locs hw => ?_)
      refine lv_pop hx hb dX9_node_15 rfl ?_
      refine lv_iload_n hx hb dX9_node_16 rfl (lv_at hl 2 rfl) ?_
      refine lv_if_lt (tgt := 31) hx hb dX9_node_17 (by decide) (fun c6 => ?_) (fun c6 => ?_)
      · have hm := if_t c6 hm
        refine lv_iconst (v := (-1 : Int32)) hx hb dX9_node_31 (by decide) ?_
        exact rtC_i cx hr hlk hw hm dX9_node_32
      · have hm := if_f c6 hm
        refine lv_iload_n hx hb dX9_node_20 rfl (lv_at hl 2 rfl) ?_
        refine lv_aload_n hx hb dX9_node_21 rfl (lv_at hl 0 rfl) ?_
        refine gtC_X9_0_7 cx ok hw dX9_node_22 ?_
        refine gtC_X9_8_1 cx ok hw dX9_node_25 ?_
        refine lv_icmp_lt (tgt := 33) hx hb dX9_node_28 (by decide) (fun c7 => ?_) (fun c7 => ?_)
        · have hm := if_t c7 hm
          refine lv_iload_n hx hb dX9_node_33 rfl (lv_at hl 3 rfl) ?_
          by_cases c8 : x3 = (0 : Int32)
          · refine lv_tableIn (tgt := 64) hx hb dX9_node_34 (by rw [c8]; decide) (by rw [c8]; decide) (by rw [c8]; rfl) (by decide) ?_
            have hm := if_t c8 hm
            refine lv_aload_n hx hb dX9_node_64 rfl (lv_at hl 0 rfl) ?_
            refine gtC_X9_0_7 cx ok hw dX9_node_65 ?_
            refine gtC_X9_8_2 cx ok hw dX9_node_68 ?_
            refine lv_iload_n hx hb dX9_node_71 rfl (lv_at hl 2 rfl) ?_
            obtain ⟨g9, hm⟩ := gd_ok hm
            refine ldC_130 cx ok hw g9 dX9_node_72 ?_
            exact rtC_i cx hr hlk hw hm dX9_node_73
          have hm := if_f c8 hm
          by_cases c10 : x3 = (1 : Int32)
          · refine lv_tableIn (tgt := 74) hx hb dX9_node_34 (by rw [c10]; decide) (by rw [c10]; decide) (by rw [c10]; rfl) (by decide) ?_
            have hm := if_t c10 hm
            refine lv_aload_n hx hb dX9_node_74 rfl (lv_at hl 0 rfl) ?_
            refine gtC_X9_0_7 cx ok hw dX9_node_75 ?_
            refine gtC_X9_8_3 cx ok hw dX9_node_78 ?_
            refine lv_iload_n hx hb dX9_node_81 rfl (lv_at hl 2 rfl) ?_
            obtain ⟨g11, hm⟩ := gd_ok hm
            refine ldC_131 cx ok hw g11 dX9_node_82 ?_
            exact rtC_i cx hr hlk hw hm dX9_node_83
          have hm := if_f c10 hm
          by_cases c12 : x3 = (2 : Int32)
          · refine lv_tableIn (tgt := 84) hx hb dX9_node_34 (by rw [c12]; decide) (by rw [c12]; decide) (by rw [c12]; rfl) (by decide) ?_
            have hm := if_t c12 hm
            refine lv_aload_n hx hb dX9_node_84 rfl (lv_at hl 0 rfl) ?_
            refine gtC_X9_0_7 cx ok hw dX9_node_85 ?_
            refine gtC_X9_8_4 cx ok hw dX9_node_88 ?_
            refine lv_iload_n hx hb dX9_node_91 rfl (lv_at hl 2 rfl) ?_
            obtain ⟨g13, hm⟩ := gd_ok hm
            refine ldC_132 cx ok hw g13 dX9_node_92 ?_
            exact rtC_i cx hr hlk hw hm dX9_node_93
          have hm := if_f c12 hm
          by_cases c14 : x3 = (3 : Int32)
          · refine lv_tableIn (tgt := 94) hx hb dX9_node_34 (by rw [c14]; decide) (by rw [c14]; decide) (by rw [c14]; rfl) (by decide) ?_
            have hm := if_t c14 hm
            refine lv_aload_n hx hb dX9_node_94 rfl (lv_at hl 0 rfl) ?_
            refine gtC_X9_0_7 cx ok hw dX9_node_95 ?_
            refine gtC_X9_8_5 cx ok hw dX9_node_98 ?_
            refine lv_iload_n hx hb dX9_node_101 rfl (lv_at hl 2 rfl) ?_
            obtain ⟨g15, hm⟩ := gd_ok hm
            refine ldC_133 cx ok hw g15 dX9_node_102 ?_
            exact rtC_i cx hr hlk hw hm dX9_node_103
          have hm := if_f c14 hm
          have c8 := ne_ti c8
          rw [show ((0 : Int32)).toInt = 0 from by decide] at c8
          have c10 := ne_ti c10
          rw [show ((1 : Int32)).toInt = 1 from by decide] at c10
          have c12 := ne_ti c12
          rw [show ((2 : Int32)).toInt = 2 from by decide] at c12
          have c14 := ne_ti c14
          rw [show ((3 : Int32)).toInt = 3 from by decide] at c14
          refine lv_tableOut (tgt := 104) hx hb dX9_node_34 (by omega) (by decide) ?_
          refine lv_iconst (v := (-1 : Int32)) hx hb dX9_node_104 (by decide) ?_
          exact rtC_i cx hr hlk hw hm dX9_node_105
        · have hm := if_f c7 hm
          refine lv_iconst (v := (-1 : Int32)) hx hb dX9_node_31 (by decide) ?_
          exact rtC_i cx hr hlk hw hm dX9_node_32
    · have hm := if_t c3 hm
      refine lv_iconst (v := (-1 : Int32)) hx hb dX9_node_8 (by decide) ?_
      exact rtC_i cx hr hlk hw hm dX9_node_9
  exact goal0 _ _ hw
/-! ChordGrammars.nodes: writes -/
def C_CG_nodes (n : Nat) (σ0 : St) (x1 : Int32) : Option (Int32 × St) :=
  bp (C_CG_isListed σ0 x1) fun r2 =>
  if r2 = 0 then
    some ((-1 : Int32), σ0)
  else
    bp (C_CG_treeOf n σ0 x1) fun σ5 =>
    some ((σ5.1 129 0), σ5)
abbrev rmC_CG_nodes : Room := { frames := 5, cells := 0, slots := 0, locals := 123 }
set_option maxHeartbeats 4000000 in
set_option maxRecDepth 100000 in
theorem cC_CG_nodes (l : Launch) (E : Ev) (n : Nat) (sz : Nat) (σ0 σ' : St) (x1 : Int32) (r : Int32) (hm : C_CG_nodes n σ0 x1 = some (r, σ')) : Met l yX9_nodes (wz yX9_nodes cX9_nodes 2 (some .int)) rmC_CG_nodes (PwC E [.ref (E.2.2 1000), .int x1] σ0 sz) (QiC E σ0 σ' sz r) 0 0 (va_A (wldC E σ0) sz) := by
  refine enC (own := RX9) (by decide) rfl (Nat.le_of_ble_eq_true rfl) (fun p e s m args below meth c cx hr hlk hml hsz ok hw ls hl => ?_)
  have hx := cx.1
  have hb := cx.2.1
  have hA9 := cx.2.2.2
  have hA : ∀ q, s.heap.size ≤ q → (va_A (wldC E σ0) sz) q := fun q h => Or.inr (by rw [← hsz]; exact h)
  have hl : lv_has ls 2 [(0, .ref (E.2.2 1000)), (1, .int x1)] := hl
  unfold C_CG_nodes at hm
  have goal0 : ∀ (H : Heap) (locs : List Loc), wsC E σ0 (va_A (wldC E σ0) sz) s H locs → W p l e rmC_CG_nodes s m args below meth c H locs 0 0 (MQ below (QiC E σ0 σ' sz r) args s 0 0 (va_A (wldC E σ0) sz)) (F0 m 0 ls []) := by
    intro H locs hw
    refine lv_aload_n hx hb dX9_nodes_0 rfl (lv_at hl 0 rfl) ?_
    refine lv_iload_n hx hb dX9_nodes_1 rfl (lv_at hl 1 rfl) ?_
    obtain ⟨r2, h1, hm⟩ := bp_ok hm
    refine clV_Ci (As := [.int x1]) (rest := []) cx hml hl.1 ok hw hA (rcC_0 ok hw) (cC_CG_isListed l E _ σ0 x1 r2 h1) (cwC_X9_CG_isListed hA9 ⟨Nat.le_of_ble_eq_true rfl, Nat.le_of_ble_eq_true rfl⟩) rfl rfl (Nat.le_of_ble_eq_true rfl) dX9_nodes_2 (fun H locs hw => ?_)
    refine lv_if_eq (tgt := 19) hx hb dX9_nodes_5 (by decide) (fun c3 => ?_) (fun c3 => ?_)
    · have hm := if_t c3 hm
      refine lv_iconst (v := (-1 : Int32)) hx hb dX9_nodes_19 (by decide) ?_
      exact rtC_i cx hr hlk hw hm dX9_nodes_20
    · have hm := if_f c3 hm
      refine lv_aload_n hx hb dX9_nodes_8 rfl (lv_at hl 0 rfl) ?_
      refine lv_iload_n hx hb dX9_nodes_9 rfl (lv_at hl 1 rfl) ?_
      obtain ⟨σ5, h4, hm⟩ := bp_ok hm
      refine clV_Cr (As := [.int x1]) (rest := []) cx hml hl.1 ok hw hA (rcC_0 ok hw) (cC_CG_treeOf l E n _ σ0 σ5 x1 h4) (cwC_X9_CG_treeOf hA9 ⟨Nat.le_of_ble_eq_true rfl, Nat.le_of_ble_eq_true rfl⟩) rfl rfl (Nat.le_of_ble_eq_true rfl) dX9_nodes_10 (fun H locs hw => ?_)
      refine gtC_X9_8_1 cx ok hw dX9_nodes_13 ?_
      refine lv_goto (tgt := 20) hx hb dX9_nodes_16 (by decide) ?_
      exact rtC_i cx hr hlk hw hm dX9_nodes_20
  exact goal0 _ _ hw
/-! ChordGrammars$Chart.hasSlot: reads only -/
def C_Chart_hasSlot (σ0 : St) (x1 : Int32) : Option Int32 :=
  if x1 < 0 then
    some (0 : Int32)
  else
    if (σ0.1 118 0) ≤ x1 then
      some (0 : Int32)
    else
      some (1 : Int32)
abbrev rmC_Chart_hasSlot : Room := { frames := 0, cells := 0, slots := 0, locals := 0 }
set_option maxHeartbeats 4000000 in
set_option maxRecDepth 100000 in
theorem cC_Chart_hasSlot (l : Launch) (E : Ev) (sz : Nat) (σ0 : St) (x1 : Int32) (r : Int32) (hm : C_Chart_hasSlot σ0 x1 = some r) : Met l yX0_hasSlot (wz yX0_hasSlot cX0_hasSlot 2 (some .boolean)) rmC_Chart_hasSlot (PwC E [.ref (E.2.2 1007), .int x1] σ0 sz) (QiC E σ0 σ0 sz r) 0 0 (va_A (wldC E σ0) sz) := by
  refine enC (own := RX0) (by decide) rfl (Nat.le_of_ble_eq_true rfl) (fun p e s m args below meth c cx hr hlk hml hsz ok hw ls hl => ?_)
  have hx := cx.1
  have hb := cx.2.1
  have hA9 := cx.2.2.2
  have hA : ∀ q, s.heap.size ≤ q → (va_A (wldC E σ0) sz) q := fun q h => Or.inr (by rw [← hsz]; exact h)
  have hl : lv_has ls 2 [(0, .ref (E.2.2 1007)), (1, .int x1)] := hl
  unfold C_Chart_hasSlot at hm
  have goal0 : ∀ (H : Heap) (locs : List Loc), wsC E σ0 (va_A (wldC E σ0) sz) s H locs → W p l e rmC_Chart_hasSlot s m args below meth c H locs 0 0 (MQ below (QiC E σ0 σ0 sz r) args s 0 0 (va_A (wldC E σ0) sz)) (F0 m 0 ls []) := by
    intro H locs hw
    refine lv_iload_n hx hb dX0_hasSlot_0 rfl (lv_at hl 1 rfl) ?_
    refine lv_if_lt (tgt := 16) hx hb dX0_hasSlot_1 (by decide) (fun c1 => ?_) (fun c1 => ?_)
    · have hm := if_t c1 hm
      refine lv_iconst (v := (0 : Int32)) hx hb dX0_hasSlot_16 (by decide) ?_
      exact rtC_z cx hr hlk hw (by decide) (pr_some hm) dX0_hasSlot_17
    · have hm := if_f c1 hm
      refine lv_iload_n hx hb dX0_hasSlot_4 rfl (lv_at hl 1 rfl) ?_
      refine lv_aload_n hx hb dX0_hasSlot_5 rfl (lv_at hl 0 rfl) ?_
      refine gtC_X0_7_6 cx ok hw dX0_hasSlot_6 ?_
      refine lv_icmp_ge (tgt := 16) hx hb dX0_hasSlot_9 (by decide) (fun c2 => ?_) (fun c2 => ?_)
      · have hm := if_t c2 hm
        refine lv_iconst (v := (0 : Int32)) hx hb dX0_hasSlot_16 (by decide) ?_
        exact rtC_z cx hr hlk hw (by decide) (pr_some hm) dX0_hasSlot_17
      · have hm := if_f c2 hm
        refine lv_iconst (v := (1 : Int32)) hx hb dX0_hasSlot_12 (by decide) ?_
        refine lv_goto (tgt := 17) hx hb dX0_hasSlot_13 (by decide) ?_
        exact rtC_z cx hr hlk hw (by decide) (pr_some hm) dX0_hasSlot_17
  exact goal0 _ _ hw
theorem cwC_X9_Chart_hasSlot {R : Room} {s : State} {args : Array Value} {E : Ev} {A : Nat → Prop} (h : ∀ w ∈ wA, w.before args s = true) (ok : okC E A s) (hR : rmC_Chart_hasSlot.frames + 1 ≤ R.frames ∧ 8 + (2 + 11) + rmC_Chart_hasSlot.locals ≤ R.locals) : va_CN R s args RX9 158 yX0_hasSlot "ChordGrammars" cX0_hasSlot 2 (some .boolean) (wz yX0_hasSlot cX0_hasSlot 2 (some .boolean)) rmC_Chart_hasSlot 0 0 1 ∧ (Cond.instanceMethod yX0_hasSlot).before args s = true ∧ (Cond.selects RX0 yX0_hasSlot yX0_hasSlot).before args s = true := ⟨va_cnB 1 h (gdC k_669) rfl rfl rfl (ok.2.1 _ kn_666) (h _ k_8) (by decide +kernel) hR, h _ k_668, h _ ks_44⟩
theorem cwC_X0_Chart_hasSlot {R : Room} {s : State} {args : Array Value} (h : ∀ w ∈ wA, w.before args s = true) (hR : rmC_Chart_hasSlot.frames + 1 ≤ R.frames ∧ 8 + (2 + 11) + rmC_Chart_hasSlot.locals ≤ R.locals) : CallW R s args RX0 RX0 127 yX0_hasSlot cX0_hasSlot 2 (some .boolean) (wz yX0_hasSlot cX0_hasSlot 2 (some .boolean)) rmC_Chart_hasSlot 0 0 1 := cwV 1 h (gdV k_689 k_668 ks_44 k_8 k_669) rfl rfl rfl (by decide +kernel) hR
/-! ChordGrammars.chord: writes -/
def C_CG_chord (n : Nat) (σ0 : St) (x1 : Int32) (x2 : Int32) : Option (Int32 × St) :=
  bp (C_CG_isListed σ0 x1) fun r2 =>
  if r2 = 0 then
    some ((-1 : Int32), σ0)
  else
    bp (C_Chart_hasSlot σ0 x2) fun r5 =>
    if r5 = 0 then
      some ((-1 : Int32), σ0)
    else
      bp (C_CG_treeOf n σ0 x1) fun σ8 =>
      gd x2 24 <|
      some ((σ8.1 134 x2.toNatClampNeg), σ8)
abbrev rmC_CG_chord : Room := { frames := 5, cells := 0, slots := 0, locals := 123 }
set_option maxHeartbeats 4000000 in
set_option maxRecDepth 100000 in
theorem cC_CG_chord (l : Launch) (E : Ev) (n : Nat) (sz : Nat) (σ0 σ' : St) (x1 : Int32) (x2 : Int32) (r : Int32) (hm : C_CG_chord n σ0 x1 x2 = some (r, σ')) : Met l yX9_chord (wz yX9_chord cX9_chord 3 (some .int)) rmC_CG_chord (PwC E [.ref (E.2.2 1000), .int x1, .int x2] σ0 sz) (QiC E σ0 σ' sz r) 0 0 (va_A (wldC E σ0) sz) := by
  refine enC (own := RX9) (by decide) rfl (Nat.le_of_ble_eq_true rfl) (fun p e s m args below meth c cx hr hlk hml hsz ok hw ls hl => ?_)
  have hx := cx.1
  have hb := cx.2.1
  have hA9 := cx.2.2.2
  have hA : ∀ q, s.heap.size ≤ q → (va_A (wldC E σ0) sz) q := fun q h => Or.inr (by rw [← hsz]; exact h)
  have hl : lv_has ls 3 [(0, .ref (E.2.2 1000)), (1, .int x1), (2, .int x2)] := hl
  unfold C_CG_chord at hm
  have goal0 : ∀ (H : Heap) (locs : List Loc), wsC E σ0 (va_A (wldC E σ0) sz) s H locs → W p l e rmC_CG_chord s m args below meth c H locs 0 0 (MQ below (QiC E σ0 σ' sz r) args s 0 0 (va_A (wldC E σ0) sz)) (F0 m 0 ls []) := by
    intro H locs hw
    refine lv_aload_n hx hb dX9_chord_0 rfl (lv_at hl 0 rfl) ?_
    refine lv_iload_n hx hb dX9_chord_1 rfl (lv_at hl 1 rfl) ?_
    obtain ⟨r2, h1, hm⟩ := bp_ok hm
    refine clV_Ci (As := [.int x1]) (rest := []) cx hml hl.1 ok hw hA (rcC_0 ok hw) (cC_CG_isListed l E _ σ0 x1 r2 h1) (cwC_X9_CG_isListed hA9 ⟨Nat.le_of_ble_eq_true rfl, Nat.le_of_ble_eq_true rfl⟩) rfl rfl (Nat.le_of_ble_eq_true rfl) dX9_chord_2 (fun H locs hw => ?_)
    refine lv_if_eq (tgt := 32) hx hb dX9_chord_5 (by decide) (fun c3 => ?_) (fun c3 => ?_)
    · have hm := if_t c3 hm
      refine lv_iconst (v := (-1 : Int32)) hx hb dX9_chord_32 (by decide) ?_
      exact rtC_i cx hr hlk hw hm dX9_chord_33
    · have hm := if_f c3 hm
      refine lv_aload_n hx hb dX9_chord_8 rfl (lv_at hl 0 rfl) ?_
      refine gtC_X9_0_6 cx ok hw dX9_chord_9 ?_
      refine lv_iload_n hx hb dX9_chord_12 rfl (lv_at hl 2 rfl) ?_
      obtain ⟨r5, h4, hm⟩ := bp_ok hm
      refine clVN_Ci (As := [.int x2]) (rest := []) cx hml hl.1 ok hw hA (rcC_7 ok hw) (cC_Chart_hasSlot l E _ σ0 x2 r5 h4) (cwC_X9_Chart_hasSlot hA9 ok ⟨Nat.le_of_ble_eq_true rfl, Nat.le_of_ble_eq_true rfl⟩) rfl rfl (Nat.le_of_ble_eq_true rfl) dX9_chord_13 (fun H locs hw => ?_)
      refine lv_if_eq (tgt := 32) hx hb dX9_chord_16 (by decide) (fun c6 => ?_) (fun c6 => ?_)
      · have hm := if_t c6 hm
        refine lv_iconst (v := (-1 : Int32)) hx hb dX9_chord_32 (by decide) ?_
        exact rtC_i cx hr hlk hw hm dX9_chord_33
      · have hm := if_f c6 hm
        refine lv_aload_n hx hb dX9_chord_19 rfl (lv_at hl 0 rfl) ?_
        refine lv_iload_n hx hb dX9_chord_20 rfl (lv_at hl 1 rfl) ?_
        obtain ⟨σ8, h7, hm⟩ := bp_ok hm
        refine clV_Cr (As := [.int x1]) (rest := []) cx hml hl.1 ok hw hA (rcC_0 ok hw) (cC_CG_treeOf l E n _ σ0 σ8 x1 h7) (cwC_X9_CG_treeOf hA9 ⟨Nat.le_of_ble_eq_true rfl, Nat.le_of_ble_eq_true rfl⟩) rfl rfl (Nat.le_of_ble_eq_true rfl) dX9_chord_21 (fun H locs hw => ?_)
        refine gtC_X9_8_6 cx ok hw dX9_chord_24 ?_
        refine lv_iload_n hx hb dX9_chord_27 rfl (lv_at hl 2 rfl) ?_
        obtain ⟨g9, hm⟩ := gd_ok hm
        refine ldC_134 cx ok hw g9 dX9_chord_28 ?_
        refine lv_goto (tgt := 33) hx hb dX9_chord_29 (by decide) ?_
        exact rtC_i cx hr hlk hw hm dX9_chord_33
  exact goal0 _ _ hw
theorem cwC_X9_CG_chord {R : Room} {s : State} {args : Array Value} (h : ∀ w ∈ wA, w.before args s = true) (hR : rmC_CG_chord.frames + 1 ≤ R.frames ∧ 8 + (3 + 11) + rmC_CG_chord.locals ≤ R.locals) : CallW R s args RX9 RX9 175 yX9_chord cX9_chord 3 (some .int) (wz yX9_chord cX9_chord 3 (some .int)) rmC_CG_chord 0 0 2 := cwV 2 h (gdV k_690 k_663 k_664 k_1 k_665) rfl rfl rfl (by decide +kernel) hR
/-! ChordGrammars$Tree.degreeAt: reads only -/
def C_Tree_degreeAt (σ0 : St) (x1 : Int32) : Option Int32 :=
  if x1 < 0 then
    some (-1 : Int32)
  else
    if (24 : Int32) ≤ x1 then
      some (-1 : Int32)
    else
      gd x1 24 <|
      some (σ0.1 135 x1.toNatClampNeg)
abbrev rmC_Tree_degreeAt : Room := { frames := 0, cells := 0, slots := 0, locals := 0 }
set_option maxHeartbeats 4000000 in
set_option maxRecDepth 100000 in
theorem cC_Tree_degreeAt (l : Launch) (E : Ev) (sz : Nat) (σ0 : St) (x1 : Int32) (r : Int32) (hm : C_Tree_degreeAt σ0 x1 = some r) : Met l yX8_degreeAt (wz yX8_degreeAt cX8_degreeAt 2 (some .int)) rmC_Tree_degreeAt (PwC E [.ref (E.2.2 1008), .int x1] σ0 sz) (QiC E σ0 σ0 sz r) 0 0 (va_A (wldC E σ0) sz) := by
  refine enC (own := RX8) (by decide) rfl (Nat.le_of_ble_eq_true rfl) (fun p e s m args below meth c cx hr hlk hml hsz ok hw ls hl => ?_)
  have hx := cx.1
  have hb := cx.2.1
  have hA9 := cx.2.2.2
  have hA : ∀ q, s.heap.size ≤ q → (va_A (wldC E σ0) sz) q := fun q h => Or.inr (by rw [← hsz]; exact h)
  have hl : lv_has ls 2 [(0, .ref (E.2.2 1008)), (1, .int x1)] := hl
  unfold C_Tree_degreeAt at hm
  have goal0 : ∀ (H : Heap) (locs : List Loc), wsC E σ0 (va_A (wldC E σ0) sz) s H locs → W p l e rmC_Tree_degreeAt s m args below meth c H locs 0 0 (MQ below (QiC E σ0 σ0 sz r) args s 0 0 (va_A (wldC E σ0) sz)) (F0 m 0 ls []) := by
    intro H locs hw
    refine lv_iload_n hx hb dX8_degreeAt_0 rfl (lv_at hl 1 rfl) ?_
    refine lv_if_lt (tgt := 19) hx hb dX8_degreeAt_1 (by decide) (fun c1 => ?_) (fun c1 => ?_)
    · have hm := if_t c1 hm
      refine lv_iconst (v := (-1 : Int32)) hx hb dX8_degreeAt_19 (by decide) ?_
      exact rtC_i cx hr hlk hw (pr_some hm) dX8_degreeAt_20
    · have hm := if_f c1 hm
      refine lv_iload_n hx hb dX8_degreeAt_4 rfl (lv_at hl 1 rfl) ?_
      refine lv_bipush (v := (24 : Int32)) hx hb dX8_degreeAt_5 (by decide) ?_
      refine lv_icmp_ge (tgt := 19) hx hb dX8_degreeAt_7 (by decide) (fun c2 => ?_) (fun c2 => ?_)
      · have hm := if_t c2 hm
        refine lv_iconst (v := (-1 : Int32)) hx hb dX8_degreeAt_19 (by decide) ?_
        exact rtC_i cx hr hlk hw (pr_some hm) dX8_degreeAt_20
      · have hm := if_f c2 hm
        refine lv_aload_n hx hb dX8_degreeAt_10 rfl (lv_at hl 0 rfl) ?_
        refine gtC_X8_8_7 cx ok hw dX8_degreeAt_11 ?_
        refine lv_iload_n hx hb dX8_degreeAt_14 rfl (lv_at hl 1 rfl) ?_
        obtain ⟨g3, hm⟩ := gd_ok hm
        refine ldC_135 cx ok hw g3 dX8_degreeAt_15 ?_
        refine lv_goto (tgt := 20) hx hb dX8_degreeAt_16 (by decide) ?_
        exact rtC_i cx hr hlk hw (pr_some hm) dX8_degreeAt_20
  exact goal0 _ _ hw
theorem cwC_X9_Tree_degreeAt {R : Room} {s : State} {args : Array Value} {E : Ev} {A : Nat → Prop} (h : ∀ w ∈ wA, w.before args s = true) (ok : okC E A s) (hR : rmC_Tree_degreeAt.frames + 1 ≤ R.frames ∧ 8 + (2 + 11) + rmC_Tree_degreeAt.locals ≤ R.locals) : va_CN R s args RX9 166 yX8_degreeAt "ChordGrammars" cX8_degreeAt 2 (some .int) (wz yX8_degreeAt cX8_degreeAt 2 (some .int)) rmC_Tree_degreeAt 0 0 1 ∧ (Cond.instanceMethod yX8_degreeAt).before args s = true ∧ (Cond.selects RX8 yX8_degreeAt yX8_degreeAt).before args s = true := ⟨va_cnB 1 h (gdC k_677) rfl rfl rfl (ok.2.1 _ kn_674) (h _ k_10) (by decide +kernel) hR, h _ k_676, h _ ks_45⟩
/-! ChordGrammars.ending: reads only -/
def C_CG_ending_b24 (x0 : Int32) (x1 : Int32) : Option Int32 :=
  if x1 = (5 : Int32) then
    some (3 : Int32)
  else
    if x1 = (6 : Int32) then
      if x0 = (5 : Int32) then
        some (4 : Int32)
      else
        some (0 : Int32)
    else
      some (0 : Int32)
def C_CG_ending (x0 : Int32) (x1 : Int32) : Option Int32 :=
  if x1 = (1 : Int32) then
    if x0 = (5 : Int32) then
      some (1 : Int32)
    else
      if x1 = (1 : Int32) then
        if x0 = (4 : Int32) then
          some (2 : Int32)
        else
          C_CG_ending_b24 x0 x1
      else
        C_CG_ending_b24 x0 x1
  else
    if x1 = (1 : Int32) then
      if x0 = (4 : Int32) then
        some (2 : Int32)
      else
        C_CG_ending_b24 x0 x1
    else
      C_CG_ending_b24 x0 x1
abbrev rmC_CG_ending : Room := { frames := 0, cells := 0, slots := 0, locals := 0 }
set_option maxHeartbeats 4000000 in
set_option maxRecDepth 100000 in
theorem cC_CG_ending (l : Launch) (E : Ev) (sz : Nat) (σ0 : St) (x0 : Int32) (x1 : Int32) (r : Int32) (hm : C_CG_ending x0 x1 = some r) : Met l yX9_ending (wz yX9_ending cX9_ending 2 (some .int)) rmC_CG_ending (PwC E [.int x0, .int x1] σ0 sz) (QiC E σ0 σ0 sz r) 0 0 (va_A (wldC E σ0) sz) := by
  refine enC (own := RX9) (by decide) rfl (Nat.le_of_ble_eq_true rfl) (fun p e s m args below meth c cx hr hlk hml hsz ok hw ls hl => ?_)
  have hx := cx.1
  have hb := cx.2.1
  have hA9 := cx.2.2.2
  have hA : ∀ q, s.heap.size ≤ q → (va_A (wldC E σ0) sz) q := fun q h => Or.inr (by rw [← hsz]; exact h)
  have w_24 : ∀ (x0 : Int32) (x1 : Int32) (H : Heap) (locs : List Loc) (ls : Array Slot), wsC E σ0 (va_A (wldC E σ0) sz) s H locs → lv_has ls 2 [(0, .int x0), (1, .int x1)] → C_CG_ending_b24 x0 x1 = some r → W p l e rmC_CG_ending s m args below meth c H locs 0 0 (MQ below (QiC E σ0 σ0 sz r) args s 0 0 (va_A (wldC E σ0) sz)) (F0 m 24 ls []) := by
    intro x0 x1 H locs ls hw hl hm
    unfold C_CG_ending_b24 at hm
    refine lv_iload_n hx hb dX9_ending_24 rfl (lv_at hl 1 rfl) ?_
    refine lv_iconst (v := (5 : Int32)) hx hb dX9_ending_25 (by decide) ?_
    refine lv_icmp_ne (tgt := 31) hx hb dX9_ending_26 (by decide) (fun c1 => ?_) (fun c1 => ?_)
    · have hm := if_f c1 hm
      refine lv_iload_n hx hb dX9_ending_31 rfl (lv_at hl 1 rfl) ?_
      refine lv_bipush (v := (6 : Int32)) hx hb dX9_ending_32 (by decide) ?_
      refine lv_icmp_ne (tgt := 46) hx hb dX9_ending_34 (by decide) (fun c2 => ?_) (fun c2 => ?_)
      · have hm := if_f c2 hm
        refine lv_iconst (v := (0 : Int32)) hx hb dX9_ending_46 (by decide) ?_
        exact rtC_i cx hr hlk hw (pr_some hm) dX9_ending_47
      · have hm := if_t c2 hm
        refine lv_iload_n hx hb dX9_ending_37 rfl (lv_at hl 0 rfl) ?_
        refine lv_iconst (v := (5 : Int32)) hx hb dX9_ending_38 (by decide) ?_
        refine lv_icmp_ne (tgt := 46) hx hb dX9_ending_39 (by decide) (fun c3 => ?_) (fun c3 => ?_)
        · have hm := if_f c3 hm
          refine lv_iconst (v := (0 : Int32)) hx hb dX9_ending_46 (by decide) ?_
          exact rtC_i cx hr hlk hw (pr_some hm) dX9_ending_47
        · have hm := if_t c3 hm
          refine lv_iconst (v := (4 : Int32)) hx hb dX9_ending_42 (by decide) ?_
          refine lv_goto (tgt := 47) hx hb dX9_ending_43 (by decide) ?_
          exact rtC_i cx hr hlk hw (pr_some hm) dX9_ending_47
    · have hm := if_t c1 hm
      refine lv_iconst (v := (3 : Int32)) hx hb dX9_ending_29 (by decide) ?_
      exact rtC_i cx hr hlk hw (pr_some hm) dX9_ending_30
  have hl : lv_has ls 2 [(0, .int x0), (1, .int x1)] := hl
  unfold C_CG_ending at hm
  have goal0 : ∀ (H : Heap) (locs : List Loc), wsC E σ0 (va_A (wldC E σ0) sz) s H locs → W p l e rmC_CG_ending s m args below meth c H locs 0 0 (MQ below (QiC E σ0 σ0 sz r) args s 0 0 (va_A (wldC E σ0) sz)) (F0 m 0 ls []) := by
    intro H locs hw
    refine lv_iload_n hx hb dX9_ending_0 rfl (lv_at hl 1 rfl) ?_
    refine lv_iconst (v := (1 : Int32)) hx hb dX9_ending_1 (by decide) ?_
    refine lv_icmp_ne (tgt := 12) hx hb dX9_ending_2 (by decide) (fun c1 => ?_) (fun c1 => ?_)
    · have hm := if_f c1 hm
      refine lv_iload_n hx hb dX9_ending_12 rfl (lv_at hl 1 rfl) ?_
      refine lv_iconst (v := (1 : Int32)) hx hb dX9_ending_13 (by decide) ?_
      refine lv_icmp_ne (tgt := 24) hx hb dX9_ending_14 (by decide) (fun c2 => ?_) (fun c2 => ?_)
      · have hm := if_f c2 hm
        exact w_24 x0 x1 H locs ls hw (lv_sub hl [0, 1] rfl) hm
      · have hm := if_t c2 hm
        refine lv_iload_n hx hb dX9_ending_17 rfl (lv_at hl 0 rfl) ?_
        refine lv_iconst (v := (4 : Int32)) hx hb dX9_ending_18 (by decide) ?_
        refine lv_icmp_ne (tgt := 24) hx hb dX9_ending_19 (by decide) (fun c3 => ?_) (fun c3 => ?_)
        · have hm := if_f c3 hm
          exact w_24 x0 x1 H locs ls hw (lv_sub hl [0, 1] rfl) hm
        · have hm := if_t c3 hm
          refine lv_iconst (v := (2 : Int32)) hx hb dX9_ending_22 (by decide) ?_
          exact rtC_i cx hr hlk hw (pr_some hm) dX9_ending_23
    · have hm := if_t c1 hm
      refine lv_iload_n hx hb dX9_ending_5 rfl (lv_at hl 0 rfl) ?_
      refine lv_iconst (v := (5 : Int32)) hx hb dX9_ending_6 (by decide) ?_
      refine lv_icmp_ne (tgt := 12) hx hb dX9_ending_7 (by decide) (fun c4 => ?_) (fun c4 => ?_)
      · have hm := if_f c4 hm
        refine lv_iload_n hx hb dX9_ending_12 rfl (lv_at hl 1 rfl) ?_
        refine lv_iconst (v := (1 : Int32)) hx hb dX9_ending_13 (by decide) ?_
        refine lv_icmp_ne (tgt := 24) hx hb dX9_ending_14 (by decide) (fun c5 => ?_) (fun c5 => ?_)
        · have hm := if_f c5 hm
          exact w_24 x0 x1 H locs ls hw (lv_sub hl [0, 1] rfl) hm
        · have hm := if_t c5 hm
          refine lv_iload_n hx hb dX9_ending_17 rfl (lv_at hl 0 rfl) ?_
          refine lv_iconst (v := (4 : Int32)) hx hb dX9_ending_18 (by decide) ?_
          refine lv_icmp_ne (tgt := 24) hx hb dX9_ending_19 (by decide) (fun c6 => ?_) (fun c6 => ?_)
          · have hm := if_f c6 hm
            exact w_24 x0 x1 H locs ls hw (lv_sub hl [0, 1] rfl) hm
          · have hm := if_t c6 hm
            refine lv_iconst (v := (2 : Int32)) hx hb dX9_ending_22 (by decide) ?_
            exact rtC_i cx hr hlk hw (pr_some hm) dX9_ending_23
      · have hm := if_t c4 hm
        refine lv_iconst (v := (1 : Int32)) hx hb dX9_ending_10 (by decide) ?_
        exact rtC_i cx hr hlk hw (pr_some hm) dX9_ending_11
  exact goal0 _ _ hw
theorem cwC_X9_CG_ending {R : Room} {s : State} {args : Array Value} (h : ∀ w ∈ wA, w.before args s = true) (hR : rmC_CG_ending.frames + 1 ≤ R.frames ∧ 8 + (2 + 11) + rmC_CG_ending.locals ≤ R.locals) : CallB R s args RX9 169 yX9_ending cX9_ending 2 (some .int) (wz yX9_ending cX9_ending 2 (some .int)) rmC_CG_ending 0 0 2 ∧ (Cond.static yX9_ending).before args s = true := va_cwS 2 h (gdS k_678 k_679 k_1 k_680) rfl rfl rfl (by decide +kernel) hR

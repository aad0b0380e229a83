/-! private int nameAt(int);: reads only, loops -/
def M_nameAt_l2 (n : Nat) (σ0 : St) : Nat → Int32 → Int32 → Option Int32
  | 0, _, _ => none
  | f + 1, x1, x2 =>
    gd x2 26 <|
    if (σ0.1 37 x2.toNatClampNeg) = x1 then
      some x2
    else
      lt (x2 + (1 : Int32)) fun x2_3 =>
      (M_nameAt_l2 n σ0 f) x1 x2_3
def M_nameAt (n : Nat) (σ0 : St) (x1 : Int32) : Option Int32 :=
  M_nameAt_l2 n σ0 n x1 (0 : Int32)
abbrev rmM_nameAt : Room := { frames := 0, cells := 0, slots := 0, locals := 0 }
set_option maxHeartbeats 4000000 in
set_option maxRecDepth 100000 in
theorem cM_nameAt (l : Launch) (E : Ev) (n : Nat) (sz : Nat) (σ0 : St) (x1 : Int32) (r : Int32) (hm : M_nameAt n σ0 x1 = some r) : Met l yX10_nameAt (wz yX10_nameAt cX10_nameAt 3 (some .int)) rmM_nameAt (PwM E [.ref (E.2.2 1000), .int x1] σ0 sz) (QiM E σ0 σ0 sz r) 0 0 (va_A (wldM E σ0) sz) := by
  refine enM (by decide) rfl (Nat.le_of_ble_eq_true rfl) (fun p e s m args below meth c cx hr hlk hml hsz ok hw ls hl => ?_)
  have hx := cx.1
  have hb := cx.2.1
  have hA9 := cx.2.2.2
  have hA : ∀ q, s.heap.size ≤ q → (va_A (wldM E σ0) sz) q := fun q h => Or.inr (by rw [← hsz]; exact h)
  have w_2 : ∀ (f : Nat), ∀ (x1 : Int32) (x2 : Int32) (H : Heap) (locs : List Loc) (ls : Array Slot), wsM E σ0 (va_A (wldM E σ0) sz) s H locs → lv_has ls 3 [(0, .ref (E.2.2 1000)), (1, .int x1), (2, .int x2)] → M_nameAt_l2 n σ0 f x1 x2 = some r → W p l e rmM_nameAt s m args below meth c H locs 0 0 (MQ below (QiM E σ0 σ0 sz r) args s 0 0 (va_A (wldM E σ0) sz)) (F0 m 2 ls []) := by
    intro f
    induction f with
    | zero =>
      intro x1 x2 H locs ls hw hl hm
      rw [M_nameAt_l2] at hm
      cases hm
    | succ f ih =>
      intro x1 x2 H locs ls hw hl hm
      rw [M_nameAt_l2] at hm
      refine lv_aload_n hx hb dX10_nameAt_2 rfl (lv_at hl 0 rfl) ?_
      refine gtM_37 cx ok hw dX10_nameAt_3 ?_
      refine lv_iload_n hx hb dX10_nameAt_6 rfl (lv_at hl 2 rfl) ?_
      obtain ⟨g1, hm⟩ := gd_ok hm
      refine ldM_37 cx ok hw g1 dX10_nameAt_7 ?_
      refine lv_iload_n hx hb dX10_nameAt_8 rfl (lv_at hl 1 rfl) ?_
      refine lv_icmp_eq (tgt := 18) hx hb dX10_nameAt_9 (by decide) (fun c2 => ?_) (fun c2 => ?_)
      · have hm := if_t c2 hm
        refine lv_iload_n hx hb dX10_nameAt_18 rfl (lv_at hl 2 rfl) ?_
        exact rtM_i cx hr hlk hw (pr_some hm) dX10_nameAt_19
      · have hm := if_f c2 hm
        obtain ⟨x2_3, e4, hm⟩ := lt_ok hm
        refine lv_iinc (v := x2_3) (lv' := [(2, .int x2_3), (0, .ref (E.2.2 1000)), (1, .int x1)]) hx hb dX10_nameAt_12 hl (k := 2) rfl (by rw [e4]; rfl) (by decide) rfl (fun ls hl => ?_)
        refine lv_goto (tgt := 2) hx hb dX10_nameAt_15 (by decide) ?_
        exact ih x1 x2_3 H locs ls hw (lv_sub hl [1, 2, 0] rfl) hm
  have hl : lv_has ls 3 [(0, .ref (E.2.2 1000)), (1, .int x1)] := hl
  unfold M_nameAt at hm
  have goal0 : ∀ (H : Heap) (locs : List Loc), wsM E σ0 (va_A (wldM E σ0) sz) s H locs → W p l e rmM_nameAt s m args below meth c H locs 0 0 (MQ below (QiM E σ0 σ0 sz r) args s 0 0 (va_A (wldM E σ0) sz)) (F0 m 0 ls []) := by
    intro H locs hw
    refine lv_iconst (v := (0 : Int32)) hx hb dX10_nameAt_0 (by decide) ?_
    refine lv_istore_n (lv' := [(2, .int (0 : Int32)), (0, .ref (E.2.2 1000)), (1, .int x1)]) hx hb dX10_nameAt_1 rfl hl (by decide) rfl (fun ls hl => ?_)
    exact w_2 n x1 (0 : Int32) H locs ls hw (lv_sub hl [1, 2, 0] rfl) hm
  exact goal0 _ _ hw
theorem cwM_nameAt {R : Room} {s : State} {args : Array Value} (h : ∀ w ∈ wA, w.before args s = true) (hR : rmM_nameAt.frames + 1 ≤ R.frames ∧ 8 + (3 + 11) + rmM_nameAt.locals ≤ R.locals) : CallW R s args RX10 RX10 228 yX10_nameAt cX10_nameAt 3 (some .int) (wz yX10_nameAt cX10_nameAt 3 (some .int)) rmM_nameAt 0 0 1 := cwV 1 h (gdV k_1048 k_1050 ks_61 k_11 k_1051) rfl rfl rfl (by decide +kernel) hR
/-! private int topCell();: reads only -/
def M_topCell (σ0 : St) : Option Int32 :=
  gd (0 : Int32) 60 <|
  bp (M_cellOf (σ0.1 26 (0 : Int32).toNatClampNeg) (0 : Int32) ((σ0.1 24 0) - (1 : Int32))) fun r3 =>
  some r3
abbrev rmM_topCell : Room := { frames := 1, cells := 0, slots := 0, locals := 22 }
set_option maxHeartbeats 4000000 in
set_option maxRecDepth 100000 in
theorem cM_topCell (l : Launch) (E : Ev) (sz : Nat) (σ0 : St) (r : Int32) (hm : M_topCell σ0 = some r) : Met l yX10_topCell (wz yX10_topCell cX10_topCell 1 (some .int)) rmM_topCell (PwM E [.ref (E.2.2 1000)] σ0 sz) (QiM E σ0 σ0 sz r) 0 0 (va_A (wldM E σ0) sz) := by
  refine enM (by decide) rfl (Nat.le_of_ble_eq_true rfl) (fun p e s m args below meth c cx hr hlk hml hsz ok hw ls hl => ?_)
  have hx := cx.1
  have hb := cx.2.1
  have hA9 := cx.2.2.2
  have hA : ∀ q, s.heap.size ≤ q → (va_A (wldM E σ0) sz) q := fun q h => Or.inr (by rw [← hsz]; exact h)
  have hl : lv_has ls 1 [(0, .ref (E.2.2 1000))] := hl
  unfold M_topCell at hm
  have goal0 : ∀ (H : Heap) (locs : List Loc), wsM E σ0 (va_A (wldM E σ0) sz) s H locs → W p l e rmM_topCell s m args below meth c H locs 0 0 (MQ below (QiM E σ0 σ0 sz r) args s 0 0 (va_A (wldM E σ0) sz)) (F0 m 0 ls []) := by
    intro H locs hw
    refine lv_aload_n hx hb dX10_topCell_0 rfl (lv_at hl 0 rfl) ?_
    refine gtM_26 cx ok hw dX10_topCell_1 ?_
    refine lv_iconst (v := (0 : Int32)) hx hb dX10_topCell_4 (by decide) ?_
    obtain ⟨g1, hm⟩ := gd_ok hm
    refine ldM_26 cx ok hw g1 dX10_topCell_5 ?_
    refine lv_iconst (v := (0 : Int32)) hx hb dX10_topCell_6 (by decide) ?_
    refine lv_aload_n hx hb dX10_topCell_7 rfl (lv_at hl 0 rfl) ?_
    refine gtM_24 cx ok hw dX10_topCell_8 ?_
    refine lv_iconst (v := (1 : Int32)) hx hb dX10_topCell_11 (by decide) ?_
    refine lv_isub hx hb dX10_topCell_12 ?_
    obtain ⟨r3, h2, hm⟩ := bp_ok hm
    refine clS_Mi (As := [.int (σ0.1 26 (0 : Int32).toNatClampNeg), .int (0 : Int32), .int ((σ0.1 24 0) - (1 : Int32))]) (rest := []) cx hml hl.1 ok hw hA (cM_cellOf l E _ σ0 (σ0.1 26 (0 : Int32).toNatClampNeg) (0 : Int32) ((σ0.1 24 0) - (1 : Int32)) r3 h2) (cwM_cellOf hA9 ⟨Nat.le_of_ble_eq_true rfl, Nat.le_of_ble_eq_true rfl⟩) rfl rfl (Nat.le_of_ble_eq_true rfl) dX10_topCell_13 (fun H locs hw => ?_)
    exact rtM_i cx hr hlk hw (pr_some hm) dX10_topCell_16
  exact goal0 _ _ hw
theorem cwM_topCell {R : Room} {s : State} {args : Array Value} (h : ∀ w ∈ wA, w.before args s = true) (hR : rmM_topCell.frames + 1 ≤ R.frames ∧ 8 + (1 + 11) + rmM_topCell.locals ≤ R.locals) : CallW R s args RX10 RX10 241 yX10_topCell cX10_topCell 1 (some .int) (wz yX10_topCell cX10_topCell 1 (some .int)) rmM_topCell 0 0 0 := cwV 0 h (gdV k_1083 k_1085 ks_69 k_11 k_1086) rfl rfl rfl (by decide +kernel) hR
/-! private int listed();: reads only -/
def M_listed (σ0 : St) : Option Int32 :=
  if (σ0.1 38 0) = 0 then
    some (0 : Int32)
  else
    bp (M_topCell σ0) fun r3 =>
    gd r3 7800 <|
    some (σ0.1 33 r3.toNatClampNeg)
abbrev rmM_listed : Room := { frames := 2, cells := 0, slots := 0, locals := 42 }
set_option maxHeartbeats 4000000 in
set_option maxRecDepth 100000 in
theorem cM_listed (l : Launch) (E : Ev) (sz : Nat) (σ0 : St) (r : Int32) (hm : M_listed σ0 = some r) : Met l yX10_listed (wz yX10_listed cX10_listed 1 (some .int)) rmM_listed (PwM E [.ref (E.2.2 1000)] σ0 sz) (QiM E σ0 σ0 sz r) 0 0 (va_A (wldM E σ0) sz) := by
  refine enM (by decide) rfl (Nat.le_of_ble_eq_true rfl) (fun p e s m args below meth c cx hr hlk hml hsz ok hw ls hl => ?_)
  have hx := cx.1
  have hb := cx.2.1
  have hA9 := cx.2.2.2
  have hA : ∀ q, s.heap.size ≤ q → (va_A (wldM E σ0) sz) q := fun q h => Or.inr (by rw [← hsz]; exact h)
  have hl : lv_has ls 1 [(0, .ref (E.2.2 1000))] := hl
  unfold M_listed at hm
  have goal0 : ∀ (H : Heap) (locs : List Loc), wsM E σ0 (va_A (wldM E σ0) sz) s H locs → W p l e rmM_listed s m args below meth c H locs 0 0 (MQ below (QiM E σ0 σ0 sz r) args s 0 0 (va_A (wldM E σ0) sz)) (F0 m 0 ls []) := by
    intro H locs hw
    refine lv_aload_n hx hb dX10_listed_0 rfl (lv_at hl 0 rfl) ?_
    refine gtM_38 cx ok hw dX10_listed_1 ?_
    refine lv_if_eq (tgt := 19) hx hb dX10_listed_4 (by decide) (fun c1 => ?_) (fun c1 => ?_)
    · have hm := if_t c1 hm
      refine lv_iconst (v := (0 : Int32)) hx hb dX10_listed_19 (by decide) ?_
      exact rtM_i cx hr hlk hw (pr_some hm) dX10_listed_20
    · have hm := if_f c1 hm
      refine lv_aload_n hx hb dX10_listed_7 rfl (lv_at hl 0 rfl) ?_
      refine gtM_33 cx ok hw dX10_listed_8 ?_
      refine lv_aload_n hx hb dX10_listed_11 rfl (lv_at hl 0 rfl) ?_
      obtain ⟨r3, h2, hm⟩ := bp_ok hm
      refine clV_Mi (As := []) (rest := [.ref (E.2.2 33)]) cx hml hl.1 ok hw hA (cM_topCell l E _ σ0 r3 h2) (cwM_topCell hA9 ⟨Nat.le_of_ble_eq_true rfl, Nat.le_of_ble_eq_true rfl⟩) rfl rfl (Nat.le_of_ble_eq_true rfl) dX10_listed_12 (fun H locs hw => ?_)
      obtain ⟨g4, hm⟩ := gd_ok hm
      refine ldM_33 cx ok hw g4 dX10_listed_15 ?_
      refine lv_goto (tgt := 20) hx hb dX10_listed_16 (by decide) ?_
      exact rtM_i cx hr hlk hw (pr_some hm) dX10_listed_20
  exact goal0 _ _ hw
theorem cwM_listed {R : Room} {s : State} {args : Array Value} (h : ∀ w ∈ wA, w.before args s = true) (hR : rmM_listed.frames + 1 ≤ R.frames ∧ 8 + (1 + 11) + rmM_listed.locals ≤ R.locals) : CallW R s args RX10 RX10 238 yX10_listed cX10_listed 1 (some .int) (wz yX10_listed cX10_listed 1 (some .int)) rmM_listed 0 0 0 := cwV 0 h (gdV k_1079 k_1081 ks_68 k_11 k_1082) rfl rfl rfl (by decide +kernel) hR
/-! public int parse();: writes, loops -/
def M_parse_b269 (n : Nat) (k173 : St → Int32 → Option (Int32 × St)) (k183 : St → Int32 → Int32 → Option (Int32 × St)) (k195 : St → Int32 → Int32 → Int32 → Option (Int32 × St)) (k222 : St → Int32 → Int32 → Int32 → Int32 → Int32 → Int32 → Option (Int32 × St)) (σ : St) (x1 : Int32) (x2 : Int32) (x3 : Int32) (x4 : Int32) (x5 : Int32) (x6 : Int32) : Option (Int32 × St) :=
  gd x6 60 <|
  if (σ.1 26 x6.toNatClampNeg) = x4 then
    bp (M_two n σ x5 x6 x2 (x2 + x1)) fun σ6 =>
    lt (x6 + (1 : Int32)) fun x6_7 =>
    k222 σ6 x1 x2 x3 x4 x5 x6_7
  else
    lt (x6 + (1 : Int32)) fun x6_3 =>
    k222 σ x1 x2 x3 x4 x5 x6_3
def M_parse_l222 (n : Nat) (k173 : St → Int32 → Option (Int32 × St)) (k183 : St → Int32 → Int32 → Option (Int32 × St)) (k195 : St → Int32 → Int32 → Int32 → Option (Int32 × St)) : Nat → St → Int32 → Int32 → Int32 → Int32 → Int32 → Int32 → Option (Int32 × St)
  | 0, _, _, _, _, _, _, _ => none
  | f + 1, σ, x1, x2, x3, x4, x5, x6 =>
    if (σ.1 25 0) ≤ x6 then
      lt (x3 + (1 : Int32)) fun x3_2 =>
      k195 σ x1 x2 x3_2
    else
      gd x6 60 <|
      if (σ.1 26 x6.toNatClampNeg) = x4 then
        gd x6 60 <|
        if (σ.1 28 x6.toNatClampNeg) = (-1 : Int32) then
          bp (M_one n σ x5 x6 x2 (x2 + x1)) fun σ9 =>
          lt (x6 + (1 : Int32)) fun x6_10 =>
          (M_parse_l222 n k173 k183 k195 f) σ9 x1 x2 x3 x4 x5 x6_10
        else
          M_parse_b269 n k173 k183 k195 (M_parse_l222 n k173 k183 k195 f) σ x1 x2 x3 x4 x5 x6
      else
        M_parse_b269 n k173 k183 k195 (M_parse_l222 n k173 k183 k195 f) σ x1 x2 x3 x4 x5 x6
def M_parse_l195 (n : Nat) (k173 : St → Int32 → Option (Int32 × St)) (k183 : St → Int32 → Int32 → Option (Int32 × St)) : Nat → St → Int32 → Int32 → Int32 → Option (Int32 × St)
  | 0, _, _, _, _ => none
  | f + 1, σ, x1, x2, x3 =>
    if (26 : Int32) ≤ x3 then
      lt (x2 + (1 : Int32)) fun x2_2 =>
      k183 σ x1 x2_2
    else
      bp (M_nameAt n σ x3) fun r5 =>
      bp (M_cellOf r5 x2 (x2 + x1)) fun r7 =>
      M_parse_l222 n k173 k183 (M_parse_l195 n k173 k183 f) n σ x1 x2 x3 r5 r7 (0 : Int32)
def M_parse_l183 (n : Nat) (k173 : St → Int32 → Option (Int32 × St)) : Nat → St → Int32 → Int32 → Option (Int32 × St)
  | 0, _, _, _ => none
  | f + 1, σ, x1, x2 =>
    if (σ.1 24 0) ≤ (x2 + x1) then
      lt (x1 + (1 : Int32)) fun x1_2 =>
      k173 σ x1_2
    else
      M_parse_l195 n k173 (M_parse_l183 n k173 f) n σ x1 x2 (0 : Int32)
def M_parse_l173 (n : Nat) : Nat → St → Int32 → Option (Int32 × St)
  | 0, _, _ => none
  | f + 1, σ, x1 =>
    if (σ.1 24 0) ≤ x1 then
      bp (M_listed σ) fun r3 =>
      some (r3, σ)
    else
      M_parse_l183 n (M_parse_l173 n f) n σ x1 (0 : Int32)
def M_parse_l144 (n : Nat) : Nat → St → Int32 → Option (Int32 × St)
  | 0, _, _ => none
  | f + 1, σ, x1 =>
    if (7800 : Int32) ≤ x1 then
      M_parse_l173 n n σ (0 : Int32)
    else
      gd x1 7800 <|
      lt (sI σ 33 x1.toNatClampNeg (0 : Int32)) fun σ3 =>
      gd x1 7800 <|
      lt (sJ σ3 34 x1.toNatClampNeg (0 : Int64)) fun σ6 =>
      lt (x1 + (1 : Int32)) fun x1_8 =>
      (M_parse_l144 n f) σ6 x1_8
def M_parse_l108 (n : Nat) : Nat → St → Int32 → Option (Int32 × St)
  | 0, _, _ => none
  | f + 1, σ, x1 =>
    if (σ.1 24 0) ≤ x1 then
      bp (M_readSymbols n σ) fun σ3 =>
      bp (M_order n σ3) fun σ5 =>
      M_parse_l144 n n σ5 (0 : Int32)
    else
      gd x1 24 <|
      gd x1 24 <|
      lt (sI σ 30 x1.toNatClampNeg (σ.1 9 x1.toNatClampNeg)) fun σ8 =>
      lt (x1 + (1 : Int32)) fun x1_10 =>
      (M_parse_l108 n f) σ8 x1_10
def M_parse_l44 (n : Nat) : Nat → St → Int32 → Option (Int32 × St)
  | 0, _, _ => none
  | f + 1, σ, x1 =>
    if (σ.1 10 0) ≤ x1 then
      M_parse_l108 n n σ (0 : Int32)
    else
      gd x1 60 <|
      gd x1 60 <|
      lt (sI σ 26 x1.toNatClampNeg (σ.1 11 x1.toNatClampNeg)) fun σ4 =>
      gd x1 60 <|
      gd x1 60 <|
      lt (sI σ4 27 x1.toNatClampNeg (σ4.1 12 x1.toNatClampNeg)) fun σ8 =>
      gd x1 60 <|
      gd x1 60 <|
      lt (sI σ8 28 x1.toNatClampNeg (σ8.1 13 x1.toNatClampNeg)) fun σ12 =>
      gd x1 60 <|
      gd x1 60 <|
      lt (sI σ12 29 x1.toNatClampNeg (σ12.1 14 x1.toNatClampNeg)) fun σ16 =>
      lt (x1 + (1 : Int32)) fun x1_18 =>
      (M_parse_l44 n f) σ16 x1_18
def M_parse (n : Nat) (σ0 : St) : Option (Int32 × St) :=
  lt (sI σ0 0 0 (0 : Int32)) fun σ1 =>
  if (σ1.1 10 0) = 0 then
    some ((-1 : Int32), σ1)
  else
    if (σ1.1 6 0) = 0 then
      some ((-1 : Int32), σ1)
    else
      lt (sI σ1 38 0 (1 : Int32)) fun σ5 =>
      lt (sI σ5 24 0 (σ5.1 6 0)) fun σ7 =>
      lt (sI σ7 25 0 (σ7.1 10 0)) fun σ9 =>
      M_parse_l44 n n σ9 (0 : Int32)
abbrev rmM_parse : Room := { frames := 4, cells := 0, slots := 0, locals := 100 }
set_option maxHeartbeats 4000000 in
set_option maxRecDepth 100000 in
theorem cM_parse (l : Launch) (E : Ev) (n : Nat) (sz : Nat) (σ0 σ' : St) (r : Int32) (hm : M_parse n σ0 = some (r, σ')) : Met l yX10_parse (wz yX10_parse cX10_parse 7 (some .int)) rmM_parse (PwM E [.ref (E.2.2 1000)] σ0 sz) (QiM E σ0 σ' sz r) 0 0 (va_A (wldM E σ0) sz) := by
  refine enM (by decide) rfl (Nat.le_of_ble_eq_true rfl) (fun p e s m args below meth c cx hr hlk hml hsz ok hw ls hl => ?_)
  have hx := cx.1
  have hb := cx.2.1
  have hA9 := cx.2.2.2
  have hA : ∀ q, s.heap.size ≤ q → (va_A (wldM E σ0) sz) q := fun q h => Or.inr (by rw [← hsz]; exact h)
  have w_269 : ∀ (k173 : St → Int32 → Option (Int32 × St)) (hk173 : ∀ (σ : St) (x1 : Int32) (H : Heap) (locs : List Loc) (ls : Array Slot), wsM E σ (va_A (wldM E σ0) sz) s H locs → lv_has ls 7 [(0, .ref (E.2.2 1000)), (1, .int x1)] → k173 σ x1 = some (r, σ') → W p l e rmM_parse s m args below meth c H locs 0 0 (MQ below (QiM E σ0 σ' sz r) args s 0 0 (va_A (wldM E σ0) sz)) (F0 m 173 ls [])) (k183 : St → Int32 → Int32 → Option (Int32 × St)) (hk183 : ∀ (σ : St) (x1 : Int32) (x2 : Int32) (H : Heap) (locs : List Loc) (ls : Array Slot), wsM E σ (va_A (wldM E σ0) sz) s H locs → lv_has ls 7 [(0, .ref (E.2.2 1000)), (1, .int x1), (2, .int x2)] → k183 σ x1 x2 = some (r, σ') → W p l e rmM_parse s m args below meth c H locs 0 0 (MQ below (QiM E σ0 σ' sz r) args s 0 0 (va_A (wldM E σ0) sz)) (F0 m 183 ls [])) (k195 : St → Int32 → Int32 → Int32 → Option (Int32 × St)) (hk195 : ∀ (σ : St) (x1 : Int32) (x2 : Int32) (x3 : Int32) (H : Heap) (locs : List Loc) (ls : Array Slot), wsM E σ (va_A (wldM E σ0) sz) s H locs → lv_has ls 7 [(0, .ref (E.2.2 1000)), (1, .int x1), (2, .int x2), (3, .int x3)] → k195 σ x1 x2 x3 = some (r, σ') → W p l e rmM_parse s m args below meth c H locs 0 0 (MQ below (QiM E σ0 σ' sz r) args s 0 0 (va_A (wldM E σ0) sz)) (F0 m 195 ls [])) (k222 : St → Int32 → Int32 → Int32 → Int32 → Int32 → Int32 → Option (Int32 × St)) (hk222 : ∀ (σ : St) (x1 : Int32) (x2 : Int32) (x3 : Int32) (x4 : Int32) (x5 : Int32) (x6 : Int32) (H : Heap) (locs : List Loc) (ls : Array Slot), wsM E σ (va_A (wldM E σ0) sz) s H locs → lv_has ls 7 [(0, .ref (E.2.2 1000)), (1, .int x1), (2, .int x2), (3, .int x3), (4, .int x4), (5, .int x5), (6, .int x6)] → k222 σ x1 x2 x3 x4 x5 x6 = some (r, σ') → W p l e rmM_parse s m args below meth c H locs 0 0 (MQ below (QiM E σ0 σ' sz r) args s 0 0 (va_A (wldM E σ0) sz)) (F0 m 222 ls [])), ∀ (σ : St) (x1 : Int32) (x2 : Int32) (x3 : Int32) (x4 : Int32) (x5 : Int32) (x6 : Int32) (H : Heap) (locs : List Loc) (ls : Array Slot), wsM E σ (va_A (wldM E σ0) sz) s H locs → lv_has ls 7 [(0, .ref (E.2.2 1000)), (1, .int x1), (2, .int x2), (3, .int x3), (4, .int x4), (5, .int x5), (6, .int x6)] → M_parse_b269 n k173 k183 k195 k222 σ x1 x2 x3 x4 x5 x6 = some (r, σ') → W p l e rmM_parse s m args below meth c H locs 0 0 (MQ below (QiM E σ0 σ' sz r) args s 0 0 (va_A (wldM E σ0) sz)) (F0 m 269 ls []) := by
    intro k173 hk173 k183 hk183 k195 hk195 k222 hk222 σ x1 x2 x3 x4 x5 x6 H locs ls hw hl hm
    unfold M_parse_b269 at hm
    refine lv_aload_n hx hb dX10_parse_269 rfl (lv_at hl 0 rfl) ?_
    refine gtM_26 cx ok hw dX10_parse_270 ?_
    refine lv_iload hx hb dX10_parse_273 (lv_at hl 6 rfl) ?_
    obtain ⟨g1, hm⟩ := gd_ok hm
    refine ldM_26 cx ok hw g1 dX10_parse_275 ?_
    refine lv_iload hx hb dX10_parse_276 (lv_at hl 4 rfl) ?_
    refine lv_icmp_ne (tgt := 293) hx hb dX10_parse_278 (by decide) (fun c2 => ?_) (fun c2 => ?_)
    · have hm := if_f c2 hm
      obtain ⟨x6_3, e4, hm⟩ := lt_ok hm
      refine lv_iinc (v := x6_3) (lv' := [(6, .int x6_3), (0, .ref (E.2.2 1000)), (1, .int x1), (2, .int x2), (3, .int x3), (4, .int x4), (5, .int x5)]) hx hb dX10_parse_293 hl (k := 6) rfl (by rw [e4]; rfl) (by decide) rfl (fun ls hl => ?_)
      refine lv_goto (tgt := 222) hx hb dX10_parse_296 (by decide) ?_
      exact hk222 σ x1 x2 x3 x4 x5 x6_3 H locs ls hw (lv_sub hl [1, 2, 3, 4, 5, 6, 0] rfl) hm
    · have hm := if_t c2 hm
      refine lv_aload_n hx hb dX10_parse_281 rfl (lv_at hl 0 rfl) ?_
      refine lv_iload hx hb dX10_parse_282 (lv_at hl 5 rfl) ?_
      refine lv_iload hx hb dX10_parse_284 (lv_at hl 6 rfl) ?_
      refine lv_iload_n hx hb dX10_parse_286 rfl (lv_at hl 2 rfl) ?_
      refine lv_iload_n hx hb dX10_parse_287 rfl (lv_at hl 2 rfl) ?_
      refine lv_iload_n hx hb dX10_parse_288 rfl (lv_at hl 1 rfl) ?_
      refine lv_iadd hx hb dX10_parse_289 ?_
      obtain ⟨σ6, h5, hm⟩ := bp_ok hm
      refine clV_Mv (As := [.int x5, .int x6, .int x2, .int (x2 + x1)]) (rest := []) cx hml hl.1 ok hw hA (cM_two l E n _ σ σ6 x5 x6 x2 (x2 + x1) h5) (cwM_two hA9 ⟨Nat.le_of_ble_eq_true rfl, Nat.le_of_ble_eq_true rfl⟩) rfl rfl (Nat.le_of_ble_eq_true rfl) dX10_parse_290 (fun H locs hw => ?_)
      obtain ⟨x6_7, e8, hm⟩ := lt_ok hm
      refine lv_iinc (v := x6_7) (lv' := [(6, .int x6_7), (0, .ref (E.2.2 1000)), (1, .int x1), (2, .int x2), (3, .int x3), (4, .int x4), (5, .int x5)]) hx hb dX10_parse_293 hl (k := 6) rfl (by rw [e8]; rfl) (by decide) rfl (fun ls hl => ?_)
      refine lv_goto (tgt := 222) hx hb dX10_parse_296 (by decide) ?_
      exact hk222 σ6 x1 x2 x3 x4 x5 x6_7 H locs ls hw (lv_sub hl [1, 2, 3, 4, 5, 6, 0] rfl) hm
  have w_222 : ∀ (k173 : St → Int32 → Option (Int32 × St)) (hk173 : ∀ (σ : St) (x1 : Int32) (H : Heap) (locs : List Loc) (ls : Array Slot), wsM E σ (va_A (wldM E σ0) sz) s H locs → lv_has ls 7 [(0, .ref (E.2.2 1000)), (1, .int x1)] → k173 σ x1 = some (r, σ') → W p l e rmM_parse s m args below meth c H locs 0 0 (MQ below (QiM E σ0 σ' sz r) args s 0 0 (va_A (wldM E σ0) sz)) (F0 m 173 ls [])) (k183 : St → Int32 → Int32 → Option (Int32 × St)) (hk183 : ∀ (σ : St) (x1 : Int32) (x2 : Int32) (H : Heap) (locs : List Loc) (ls : Array Slot), wsM E σ (va_A (wldM E σ0) sz) s H locs → lv_has ls 7 [(0, .ref (E.2.2 1000)), (1, .int x1), (2, .int x2)] → k183 σ x1 x2 = some (r, σ') → W p l e rmM_parse s m args below meth c H locs 0 0 (MQ below (QiM E σ0 σ' sz r) args s 0 0 (va_A (wldM E σ0) sz)) (F0 m 183 ls [])) (k195 : St → Int32 → Int32 → Int32 → Option (Int32 × St)) (hk195 : ∀ (σ : St) (x1 : Int32) (x2 : Int32) (x3 : Int32) (H : Heap) (locs : List Loc) (ls : Array Slot), wsM E σ (va_A (wldM E σ0) sz) s H locs → lv_has ls 7 [(0, .ref (E.2.2 1000)), (1, .int x1), (2, .int x2), (3, .int x3)] → k195 σ x1 x2 x3 = some (r, σ') → W p l e rmM_parse s m args below meth c H locs 0 0 (MQ below (QiM E σ0 σ' sz r) args s 0 0 (va_A (wldM E σ0) sz)) (F0 m 195 ls [])), ∀ (f : Nat), ∀ (σ : St) (x1 : Int32) (x2 : Int32) (x3 : Int32) (x4 : Int32) (x5 : Int32) (x6 : Int32) (H : Heap) (locs : List Loc) (ls : Array Slot), wsM E σ (va_A (wldM E σ0) sz) s H locs → lv_has ls 7 [(0, .ref (E.2.2 1000)), (1, .int x1), (2, .int x2), (3, .int x3), (4, .int x4), (5, .int x5), (6, .int x6)] → M_parse_l222 n k173 k183 k195 f σ x1 x2 x3 x4 x5 x6 = some (r, σ') → W p l e rmM_parse s m args below meth c H locs 0 0 (MQ below (QiM E σ0 σ' sz r) args s 0 0 (va_A (wldM E σ0) sz)) (F0 m 222 ls []) := by
    intro k173 hk173 k183 hk183 k195 hk195
    intro f
    induction f with
    | zero =>
      intro σ x1 x2 x3 x4 x5 x6 H locs ls hw hl hm
      rw [M_parse_l222] at hm
      cases hm
    | succ f ih =>
      intro σ x1 x2 x3 x4 x5 x6 H locs ls hw hl hm
      rw [M_parse_l222] at hm
      refine lv_iload hx hb dX10_parse_222 (lv_at hl 6 rfl) ?_
      refine lv_aload_n hx hb dX10_parse_224 rfl (lv_at hl 0 rfl) ?_
      refine gtM_25 cx ok hw dX10_parse_225 ?_
      refine lv_icmp_ge (tgt := 299) hx hb dX10_parse_228 (by decide) (fun c1 => ?_) (fun c1 => ?_)
      · have hm := if_t c1 hm
        obtain ⟨x3_2, e3, hm⟩ := lt_ok hm
        refine lv_iinc (v := x3_2) (lv' := [(3, .int x3_2), (0, .ref (E.2.2 1000)), (1, .int x1), (2, .int x2), (4, .int x4), (5, .int x5), (6, .int x6)]) hx hb dX10_parse_299 hl (k := 3) rfl (by rw [e3]; rfl) (by decide) rfl (fun ls hl => ?_)
        refine lv_goto (tgt := 195) hx hb dX10_parse_302 (by decide) ?_
        exact hk195 σ x1 x2 x3_2 H locs ls hw (lv_sub hl [1, 2, 3, 0] rfl) hm
      · have hm := if_f c1 hm
        refine lv_aload_n hx hb dX10_parse_231 rfl (lv_at hl 0 rfl) ?_
        refine gtM_26 cx ok hw dX10_parse_232 ?_
        refine lv_iload hx hb dX10_parse_235 (lv_at hl 6 rfl) ?_
        obtain ⟨g4, hm⟩ := gd_ok hm
        refine ldM_26 cx ok hw g4 dX10_parse_237 ?_
        refine lv_iload hx hb dX10_parse_238 (lv_at hl 4 rfl) ?_
        refine lv_icmp_ne (tgt := 269) hx hb dX10_parse_240 (by decide) (fun c5 => ?_) (fun c5 => ?_)
        · have hm := if_f c5 hm
          exact w_269 k173 hk173 k183 hk183 k195 hk195 (M_parse_l222 n k173 k183 k195 f) ih σ x1 x2 x3 x4 x5 x6 H locs ls hw (lv_sub hl [0, 1, 2, 3, 4, 5, 6] rfl) hm
        · have hm := if_t c5 hm
          refine lv_aload_n hx hb dX10_parse_243 rfl (lv_at hl 0 rfl) ?_
          refine gtM_28 cx ok hw dX10_parse_244 ?_
          refine lv_iload hx hb dX10_parse_247 (lv_at hl 6 rfl) ?_
          obtain ⟨g6, hm⟩ := gd_ok hm
          refine ldM_28 cx ok hw g6 dX10_parse_249 ?_
          refine lv_iconst (v := (-1 : Int32)) hx hb dX10_parse_250 (by decide) ?_
          refine lv_icmp_ne (tgt := 269) hx hb dX10_parse_251 (by decide) (fun c7 => ?_) (fun c7 => ?_)
          · have hm := if_f c7 hm
            exact w_269 k173 hk173 k183 hk183 k195 hk195 (M_parse_l222 n k173 k183 k195 f) ih σ x1 x2 x3 x4 x5 x6 H locs ls hw (lv_sub hl [0, 1, 2, 3, 4, 5, 6] rfl) hm
          · have hm := if_t c7 hm
            refine lv_aload_n hx hb dX10_parse_254 rfl (lv_at hl 0 rfl) ?_
            refine lv_iload hx hb dX10_parse_255 (lv_at hl 5 rfl) ?_
            refine lv_iload hx hb dX10_parse_257 (lv_at hl 6 rfl) ?_
            refine lv_iload_n hx hb dX10_parse_259 rfl (lv_at hl 2 rfl) ?_
            refine lv_iload_n hx hb dX10_parse_260 rfl (lv_at hl 2 rfl) ?_
            refine lv_iload_n hx hb dX10_parse_261 rfl (lv_at hl 1 rfl) ?_
            refine lv_iadd hx hb dX10_parse_262 ?_
            obtain ⟨σ9, h8, hm⟩ := bp_ok hm
            refine clV_Mv (As := [.int x5, .int x6, .int x2, .int (x2 + x1)]) (rest := []) cx hml hl.1 ok hw hA (cM_one l E n _ σ σ9 x5 x6 x2 (x2 + x1) h8) (cwM_one hA9 ⟨Nat.le_of_ble_eq_true rfl, Nat.le_of_ble_eq_true rfl⟩) rfl rfl (Nat.le_of_ble_eq_true rfl) dX10_parse_263 (fun H locs hw => ?_)
            refine lv_goto (tgt := 293) hx hb dX10_parse_266 (by decide) ?_
            obtain ⟨x6_10, e11, hm⟩ := lt_ok hm
            refine lv_iinc (v := x6_10) (lv' := [(6, .int x6_10), (0, .ref (E.2.2 1000)), (1, .int x1), (2, .int x2), (3, .int x3), (4, .int x4), (5, .int x5)]) hx hb dX10_parse_293 hl (k := 6) rfl (by rw [e11]; rfl) (by decide) rfl (fun ls hl => ?_)
            refine lv_goto (tgt := 222) hx hb dX10_parse_296 (by decide) ?_
            exact ih σ9 x1 x2 x3 x4 x5 x6_10 H locs ls hw (lv_sub hl [1, 2, 3, 4, 5, 6, 0] rfl) hm
  have w_195 : ∀ (k173 : St → Int32 → Option (Int32 × St)) (hk173 : ∀ (σ : St) (x1 : Int32) (H : Heap) (locs : List Loc) (ls : Array Slot), wsM E σ (va_A (wldM E σ0) sz) s H locs → lv_has ls 7 [(0, .ref (E.2.2 1000)), (1, .int x1)] → k173 σ x1 = some (r, σ') → W p l e rmM_parse s m args below meth c H locs 0 0 (MQ below (QiM E σ0 σ' sz r) args s 0 0 (va_A (wldM E σ0) sz)) (F0 m 173 ls [])) (k183 : St → Int32 → Int32 → Option (Int32 × St)) (hk183 : ∀ (σ : St) (x1 : Int32) (x2 : Int32) (H : Heap) (locs : List Loc) (ls : Array Slot), wsM E σ (va_A (wldM E σ0) sz) s H locs → lv_has ls 7 [(0, .ref (E.2.2 1000)), (1, .int x1), (2, .int x2)] → k183 σ x1 x2 = some (r, σ') → W p l e rmM_parse s m args below meth c H locs 0 0 (MQ below (QiM E σ0 σ' sz r) args s 0 0 (va_A (wldM E σ0) sz)) (F0 m 183 ls [])), ∀ (f : Nat), ∀ (σ : St) (x1 : Int32) (x2 : Int32) (x3 : Int32) (H : Heap) (locs : List Loc) (ls : Array Slot), wsM E σ (va_A (wldM E σ0) sz) s H locs → lv_has ls 7 [(0, .ref (E.2.2 1000)), (1, .int x1), (2, .int x2), (3, .int x3)] → M_parse_l195 n k173 k183 f σ x1 x2 x3 = some (r, σ') → W p l e rmM_parse s m args below meth c H locs 0 0 (MQ below (QiM E σ0 σ' sz r) args s 0 0 (va_A (wldM E σ0) sz)) (F0 m 195 ls []) := by
    intro k173 hk173 k183 hk183
    intro f
    induction f with
    | zero =>
      intro σ x1 x2 x3 H locs ls hw hl hm
      rw [M_parse_l195] at hm
      cases hm
    | succ f ih =>
      intro σ x1 x2 x3 H locs ls hw hl hm
      rw [M_parse_l195] at hm
      refine lv_iload_n hx hb dX10_parse_195 rfl (lv_at hl 3 rfl) ?_
      refine lv_bipush (v := (26 : Int32)) hx hb dX10_parse_196 (by decide) ?_
      refine lv_icmp_ge (tgt := 305) hx hb dX10_parse_198 (by decide) (fun c1 => ?_) (fun c1 => ?_)
      · have hm := if_t c1 hm
        obtain ⟨x2_2, e3, hm⟩ := lt_ok hm
        refine lv_iinc (v := x2_2) (lv' := [(2, .int x2_2), (0, .ref (E.2.2 1000)), (1, .int x1), (3, .int x3)]) hx hb dX10_parse_305 hl (k := 2) rfl (by rw [e3]; rfl) (by decide) rfl (fun ls hl => ?_)
        refine lv_goto (tgt := 183) hx hb dX10_parse_308 (by decide) ?_
        exact hk183 σ x1 x2_2 H locs ls hw (lv_sub hl [1, 2, 0] rfl) hm
      · have hm := if_f c1 hm
        refine lv_aload_n hx hb dX10_parse_201 rfl (lv_at hl 0 rfl) ?_
        refine lv_iload_n hx hb dX10_parse_202 rfl (lv_at hl 3 rfl) ?_
        obtain ⟨r5, h4, hm⟩ := bp_ok hm
        refine clV_Mi (As := [.int x3]) (rest := []) cx hml hl.1 ok hw hA (cM_nameAt l E n _ σ x3 r5 h4) (cwM_nameAt hA9 ⟨Nat.le_of_ble_eq_true rfl, Nat.le_of_ble_eq_true rfl⟩) rfl rfl (Nat.le_of_ble_eq_true rfl) dX10_parse_203 (fun H locs hw => ?_)
        refine lv_istore (lv' := [(4, .int r5), (0, .ref (E.2.2 1000)), (1, .int x1), (2, .int x2), (3, .int x3)]) hx hb dX10_parse_206 hl (by decide) rfl (fun ls hl => ?_)
        refine lv_iload hx hb dX10_parse_208 (lv_at hl 0 rfl) ?_
        refine lv_iload_n hx hb dX10_parse_210 rfl (lv_at hl 3 rfl) ?_
        refine lv_iload_n hx hb dX10_parse_211 rfl (lv_at hl 3 rfl) ?_
        refine lv_iload_n hx hb dX10_parse_212 rfl (lv_at hl 2 rfl) ?_
        refine lv_iadd hx hb dX10_parse_213 ?_
        obtain ⟨r7, h6, hm⟩ := bp_ok hm
        refine clS_Mi (As := [.int r5, .int x2, .int (x2 + x1)]) (rest := []) cx hml hl.1 ok hw hA (cM_cellOf l E _ σ r5 x2 (x2 + x1) r7 h6) (cwM_cellOf hA9 ⟨Nat.le_of_ble_eq_true rfl, Nat.le_of_ble_eq_true rfl⟩) rfl rfl (Nat.le_of_ble_eq_true rfl) dX10_parse_214 (fun H locs hw => ?_)
        refine lv_istore (lv' := [(5, .int r7), (4, .int r5), (0, .ref (E.2.2 1000)), (1, .int x1), (2, .int x2), (3, .int x3)]) hx hb dX10_parse_217 hl (by decide) rfl (fun ls hl => ?_)
        refine lv_iconst (v := (0 : Int32)) hx hb dX10_parse_219 (by decide) ?_
        refine lv_istore (lv' := [(6, .int (0 : Int32)), (5, .int r7), (4, .int r5), (0, .ref (E.2.2 1000)), (1, .int x1), (2, .int x2), (3, .int x3)]) hx hb dX10_parse_220 hl (by decide) rfl (fun ls hl => ?_)
        exact w_222 k173 hk173 k183 hk183 (M_parse_l195 n k173 k183 f) ih n σ x1 x2 x3 r5 r7 (0 : Int32) H locs ls hw (lv_sub hl [3, 4, 5, 6, 2, 1, 0] rfl) hm
  have w_183 : ∀ (k173 : St → Int32 → Option (Int32 × St)) (hk173 : ∀ (σ : St) (x1 : Int32) (H : Heap) (locs : List Loc) (ls : Array Slot), wsM E σ (va_A (wldM E σ0) sz) s H locs → lv_has ls 7 [(0, .ref (E.2.2 1000)), (1, .int x1)] → k173 σ x1 = some (r, σ') → W p l e rmM_parse s m args below meth c H locs 0 0 (MQ below (QiM E σ0 σ' sz r) args s 0 0 (va_A (wldM E σ0) sz)) (F0 m 173 ls [])), ∀ (f : Nat), ∀ (σ : St) (x1 : Int32) (x2 : Int32) (H : Heap) (locs : List Loc) (ls : Array Slot), wsM E σ (va_A (wldM E σ0) sz) s H locs → lv_has ls 7 [(0, .ref (E.2.2 1000)), (1, .int x1), (2, .int x2)] → M_parse_l183 n k173 f σ x1 x2 = some (r, σ') → W p l e rmM_parse s m args below meth c H locs 0 0 (MQ below (QiM E σ0 σ' sz r) args s 0 0 (va_A (wldM E σ0) sz)) (F0 m 183 ls []) := by
    intro k173 hk173
    intro f
    induction f with
    | zero =>
      intro σ x1 x2 H locs ls hw hl hm
      rw [M_parse_l183] at hm
      cases hm
    | succ f ih =>
      intro σ x1 x2 H locs ls hw hl hm
      rw [M_parse_l183] at hm
      refine lv_iload_n hx hb dX10_parse_183 rfl (lv_at hl 2 rfl) ?_
      refine lv_iload_n hx hb dX10_parse_184 rfl (lv_at hl 1 rfl) ?_
      refine lv_iadd hx hb dX10_parse_185 ?_
      refine lv_aload_n hx hb dX10_parse_186 rfl (lv_at hl 0 rfl) ?_
      refine gtM_24 cx ok hw dX10_parse_187 ?_
      refine lv_icmp_ge (tgt := 311) hx hb dX10_parse_190 (by decide) (fun c1 => ?_) (fun c1 => ?_)
      · have hm := if_t c1 hm
        obtain ⟨x1_2, e3, hm⟩ := lt_ok hm
        refine lv_iinc (v := x1_2) (lv' := [(1, .int x1_2), (0, .ref (E.2.2 1000)), (2, .int x2)]) hx hb dX10_parse_311 hl (k := 1) rfl (by rw [e3]; rfl) (by decide) rfl (fun ls hl => ?_)
        refine lv_goto (tgt := 173) hx hb dX10_parse_314 (by decide) ?_
        exact hk173 σ x1_2 H locs ls hw (lv_sub hl [1, 0] rfl) hm
      · have hm := if_f c1 hm
        refine lv_iconst (v := (0 : Int32)) hx hb dX10_parse_193 (by decide) ?_
        refine lv_istore_n (lv' := [(3, .int (0 : Int32)), (0, .ref (E.2.2 1000)), (1, .int x1), (2, .int x2)]) hx hb dX10_parse_194 rfl hl (by decide) rfl (fun ls hl => ?_)
        exact w_195 k173 hk173 (M_parse_l183 n k173 f) ih n σ x1 x2 (0 : Int32) H locs ls hw (lv_sub hl [1, 2, 3, 0] rfl) hm
  have w_173 : ∀ (f : Nat), ∀ (σ : St) (x1 : Int32) (H : Heap) (locs : List Loc) (ls : Array Slot), wsM E σ (va_A (wldM E σ0) sz) s H locs → lv_has ls 7 [(0, .ref (E.2.2 1000)), (1, .int x1)] → M_parse_l173 n f σ x1 = some (r, σ') → W p l e rmM_parse s m args below meth c H locs 0 0 (MQ below (QiM E σ0 σ' sz r) args s 0 0 (va_A (wldM E σ0) sz)) (F0 m 173 ls []) := by
    intro f
    induction f with
    | zero =>
      intro σ x1 H locs ls hw hl hm
      rw [M_parse_l173] at hm
      cases hm
    | succ f ih =>
      intro σ x1 H locs ls hw hl hm
      rw [M_parse_l173] at hm
      refine lv_iload_n hx hb dX10_parse_173 rfl (lv_at hl 1 rfl) ?_
      refine lv_aload_n hx hb dX10_parse_174 rfl (lv_at hl 0 rfl) ?_
      refine gtM_24 cx ok hw dX10_parse_175 ?_
      refine lv_icmp_ge (tgt := 317) hx hb dX10_parse_178 (by decide) (fun c1 => ?_) (fun c1 => ?_)
      · have hm := if_t c1 hm
        refine lv_aload_n hx hb dX10_parse_317 rfl (lv_at hl 0 rfl) ?_
        obtain ⟨r3, h2, hm⟩ := bp_ok hm
        refine clV_Mi (As := []) (rest := []) cx hml hl.1 ok hw hA (cM_listed l E _ σ r3 h2) (cwM_listed hA9 ⟨Nat.le_of_ble_eq_true rfl, Nat.le_of_ble_eq_true rfl⟩) rfl rfl (Nat.le_of_ble_eq_true rfl) dX10_parse_318 (fun H locs hw => ?_)
        exact rtM_i cx hr hlk hw hm dX10_parse_321
      · have hm := if_f c1 hm
        refine lv_iconst (v := (0 : Int32)) hx hb dX10_parse_181 (by decide) ?_
        refine lv_istore_n (lv' := [(2, .int (0 : Int32)), (0, .ref (E.2.2 1000)), (1, .int x1)]) hx hb dX10_parse_182 rfl hl (by decide) rfl (fun ls hl => ?_)
        exact w_183 (M_parse_l173 n f) ih n σ x1 (0 : Int32) H locs ls hw (lv_sub hl [1, 2, 0] rfl) hm
  have w_144 : ∀ (f : Nat), ∀ (σ : St) (x1 : Int32) (H : Heap) (locs : List Loc) (ls : Array Slot), wsM E σ (va_A (wldM E σ0) sz) s H locs → lv_has ls 7 [(0, .ref (E.2.2 1000)), (1, .int x1)] → M_parse_l144 n f σ x1 = some (r, σ') → W p l e rmM_parse s m args below meth c H locs 0 0 (MQ below (QiM E σ0 σ' sz r) args s 0 0 (va_A (wldM E σ0) sz)) (F0 m 144 ls []) := by
    intro f
    induction f with
    | zero =>
      intro σ x1 H locs ls hw hl hm
      rw [M_parse_l144] at hm
      cases hm
    | succ f ih =>
      intro σ x1 H locs ls hw hl hm
      rw [M_parse_l144] at hm
      refine lv_iload_n hx hb dX10_parse_144 rfl (lv_at hl 1 rfl) ?_
      refine lv_sipush (v := (7800 : Int32)) hx hb dX10_parse_145 (by decide) ?_
      refine lv_icmp_ge (tgt := 171) hx hb dX10_parse_148 (by decide) (fun c1 => ?_) (fun c1 => ?_)
      · have hm := if_t c1 hm
        refine lv_iconst (v := (0 : Int32)) hx hb dX10_parse_171 (by decide) ?_
        refine lv_istore_n (lv' := [(1, .int (0 : Int32)), (0, .ref (E.2.2 1000))]) hx hb dX10_parse_172 rfl hl (by decide) rfl (fun ls hl => ?_)
        exact w_173 n σ (0 : Int32) H locs ls hw (lv_sub hl [1, 0] rfl) hm
      · have hm := if_f c1 hm
        refine lv_aload_n hx hb dX10_parse_151 rfl (lv_at hl 0 rfl) ?_
        refine gtM_33 cx ok hw dX10_parse_152 ?_
        refine lv_iload_n hx hb dX10_parse_155 rfl (lv_at hl 1 rfl) ?_
        refine lv_iconst (v := (0 : Int32)) hx hb dX10_parse_156 (by decide) ?_
        obtain ⟨g2, hm⟩ := gd_ok hm
        refine stM_33 cx ok hw g2 dX10_parse_157 (fun H locs hw => ?_)
        obtain ⟨σ3, e4, hm⟩ := lt_ok hm
        have hw := wsM_eq e4 hw
        refine lv_aload_n hx hb dX10_parse_158 rfl (lv_at hl 0 rfl) ?_
        refine gtM_34 cx ok hw dX10_parse_159 ?_
        refine lv_iload_n hx hb dX10_parse_162 rfl (lv_at hl 1 rfl) ?_
        refine lv_lconst (v := (0 : Int64)) hx hb dX10_parse_163 (by decide) ?_
        obtain ⟨g5, hm⟩ := gd_ok hm
        refine stM_34 cx ok hw g5 dX10_parse_164 (fun H locs hw => ?_)
        obtain ⟨σ6, e7, hm⟩ := lt_ok hm
        have hw := wsM_eq e7 hw
        obtain ⟨x1_8, e9, hm⟩ := lt_ok hm
        refine lv_iinc (v := x1_8) (lv' := [(1, .int x1_8), (0, .ref (E.2.2 1000))]) hx hb dX10_parse_165 hl (k := 1) rfl (by rw [e9]; rfl) (by decide) rfl (fun ls hl => ?_)
        refine lv_goto (tgt := 144) hx hb dX10_parse_168 (by decide) ?_
        exact ih σ6 x1_8 H locs ls hw (lv_sub hl [1, 0] rfl) hm
  have w_108 : ∀ (f : Nat), ∀ (σ : St) (x1 : Int32) (H : Heap) (locs : List Loc) (ls : Array Slot), wsM E σ (va_A (wldM E σ0) sz) s H locs → lv_has ls 7 [(0, .ref (E.2.2 1000)), (1, .int x1)] → M_parse_l108 n f σ x1 = some (r, σ') → W p l e rmM_parse s m args below meth c H locs 0 0 (MQ below (QiM E σ0 σ' sz r) args s 0 0 (va_A (wldM E σ0) sz)) (F0 m 108 ls []) := by
    intro f
    induction f with
    | zero =>
      intro σ x1 H locs ls hw hl hm
      rw [M_parse_l108] at hm
      cases hm
    | succ f ih =>
      intro σ x1 H locs ls hw hl hm
      rw [M_parse_l108] at hm
      refine lv_iload_n hx hb dX10_parse_108 rfl (lv_at hl 1 rfl) ?_
      refine lv_aload_n hx hb dX10_parse_109 rfl (lv_at hl 0 rfl) ?_
      refine gtM_24 cx ok hw dX10_parse_110 ?_
      refine lv_icmp_ge (tgt := 134) hx hb dX10_parse_113 (by decide) (fun c1 => ?_) (fun c1 => ?_)
      · have hm := if_t c1 hm
        refine lv_aload_n hx hb dX10_parse_134 rfl (lv_at hl 0 rfl) ?_
        obtain ⟨σ3, h2, hm⟩ := bp_ok hm
        refine clV_Mv (As := []) (rest := []) cx hml hl.1 ok hw hA (cM_readSymbols l E n _ σ σ3 h2) (cwM_readSymbols hA9 ⟨Nat.le_of_ble_eq_true rfl, Nat.le_of_ble_eq_true rfl⟩) rfl rfl (Nat.le_of_ble_eq_true rfl) dX10_parse_135 (fun H locs hw => ?_)
        refine lv_aload_n hx hb dX10_parse_138 rfl (lv_at hl 0 rfl) ?_
        obtain ⟨σ5, h4, hm⟩ := bp_ok hm
        refine clV_Mv (As := []) (rest := []) cx hml hl.1 ok hw hA (cM_order l E n _ σ3 σ5 h4) (cwM_order hA9 ⟨Nat.le_of_ble_eq_true rfl, Nat.le_of_ble_eq_true rfl⟩) rfl rfl (Nat.le_of_ble_eq_true rfl) dX10_parse_139 (fun H locs hw => ?_)
        refine lv_iconst (v := (0 : Int32)) hx hb dX10_parse_142 (by decide) ?_
        refine lv_istore_n (lv' := [(1, .int (0 : Int32)), (0, .ref (E.2.2 1000))]) hx hb dX10_parse_143 rfl hl (by decide) rfl (fun ls hl => ?_)
        exact w_144 n σ5 (0 : Int32) H locs ls hw (lv_sub hl [1, 0] rfl) hm
      · have hm := if_f c1 hm
        refine lv_aload_n hx hb dX10_parse_116 rfl (lv_at hl 0 rfl) ?_
        refine gtM_30 cx ok hw dX10_parse_117 ?_
        refine lv_iload_n hx hb dX10_parse_120 rfl (lv_at hl 1 rfl) ?_
        refine lv_aload_n hx hb dX10_parse_121 rfl (lv_at hl 0 rfl) ?_
        refine gtM_9 cx ok hw dX10_parse_122 ?_
        refine lv_iload_n hx hb dX10_parse_125 rfl (lv_at hl 1 rfl) ?_
        obtain ⟨g6, hm⟩ := gd_ok hm
        refine ldM_9 cx ok hw g6 dX10_parse_126 ?_
        obtain ⟨g7, hm⟩ := gd_ok hm
        refine stM_30 cx ok hw g7 dX10_parse_127 (fun H locs hw => ?_)
        obtain ⟨σ8, e9, hm⟩ := lt_ok hm
        have hw := wsM_eq e9 hw
        obtain ⟨x1_10, e11, hm⟩ := lt_ok hm
        refine lv_iinc (v := x1_10) (lv' := [(1, .int x1_10), (0, .ref (E.2.2 1000))]) hx hb dX10_parse_128 hl (k := 1) rfl (by rw [e11]; rfl) (by decide) rfl (fun ls hl => ?_)
        refine lv_goto (tgt := 108) hx hb dX10_parse_131 (by decide) ?_
        exact ih σ8 x1_10 H locs ls hw (lv_sub hl [1, 0] rfl) hm
  have w_44 : ∀ (f : Nat), ∀ (σ : St) (x1 : Int32) (H : Heap) (locs : List Loc) (ls : Array Slot), wsM E σ (va_A (wldM E σ0) sz) s H locs → lv_has ls 7 [(0, .ref (E.2.2 1000)), (1, .int x1)] → M_parse_l44 n f σ x1 = some (r, σ') → W p l e rmM_parse s m args below meth c H locs 0 0 (MQ below (QiM E σ0 σ' sz r) args s 0 0 (va_A (wldM E σ0) sz)) (F0 m 44 ls []) := by
    intro f
    induction f with
    | zero =>
      intro σ x1 H locs ls hw hl hm
      rw [M_parse_l44] at hm
      cases hm
    | succ f ih =>
      intro σ x1 H locs ls hw hl hm
      rw [M_parse_l44] at hm
      refine lv_iload_n hx hb dX10_parse_44 rfl (lv_at hl 1 rfl) ?_
      refine lv_aload_n hx hb dX10_parse_45 rfl (lv_at hl 0 rfl) ?_
      refine gtM_10 cx ok hw dX10_parse_46 ?_
      refine lv_icmp_ge (tgt := 106) hx hb dX10_parse_49 (by decide) (fun c1 => ?_) (fun c1 => ?_)
      · have hm := if_t c1 hm
        refine lv_iconst (v := (0 : Int32)) hx hb dX10_parse_106 (by decide) ?_
        refine lv_istore_n (lv' := [(1, .int (0 : Int32)), (0, .ref (E.2.2 1000))]) hx hb dX10_parse_107 rfl hl (by decide) rfl (fun ls hl => ?_)
        exact w_108 n σ (0 : Int32) H locs ls hw (lv_sub hl [1, 0] rfl) hm
      · have hm := if_f c1 hm
        refine lv_aload_n hx hb dX10_parse_52 rfl (lv_at hl 0 rfl) ?_
        refine gtM_26 cx ok hw dX10_parse_53 ?_
        refine lv_iload_n hx hb dX10_parse_56 rfl (lv_at hl 1 rfl) ?_
        refine lv_aload_n hx hb dX10_parse_57 rfl (lv_at hl 0 rfl) ?_
        refine gtM_11 cx ok hw dX10_parse_58 ?_
        refine lv_iload_n hx hb dX10_parse_61 rfl (lv_at hl 1 rfl) ?_
        obtain ⟨g2, hm⟩ := gd_ok hm
        refine ldM_11 cx ok hw g2 dX10_parse_62 ?_
        obtain ⟨g3, hm⟩ := gd_ok hm
        refine stM_26 cx ok hw g3 dX10_parse_63 (fun H locs hw => ?_)
        obtain ⟨σ4, e5, hm⟩ := lt_ok hm
        have hw := wsM_eq e5 hw
        refine lv_aload_n hx hb dX10_parse_64 rfl (lv_at hl 0 rfl) ?_
        refine gtM_27 cx ok hw dX10_parse_65 ?_
        refine lv_iload_n hx hb dX10_parse_68 rfl (lv_at hl 1 rfl) ?_
        refine lv_aload_n hx hb dX10_parse_69 rfl (lv_at hl 0 rfl) ?_
        refine gtM_12 cx ok hw dX10_parse_70 ?_
        refine lv_iload_n hx hb dX10_parse_73 rfl (lv_at hl 1 rfl) ?_
        obtain ⟨g6, hm⟩ := gd_ok hm
        refine ldM_12 cx ok hw g6 dX10_parse_74 ?_
        obtain ⟨g7, hm⟩ := gd_ok hm
        refine stM_27 cx ok hw g7 dX10_parse_75 (fun H locs hw => ?_)
        obtain ⟨σ8, e9, hm⟩ := lt_ok hm
        have hw := wsM_eq e9 hw
        refine lv_aload_n hx hb dX10_parse_76 rfl (lv_at hl 0 rfl) ?_
        refine gtM_28 cx ok hw dX10_parse_77 ?_
        refine lv_iload_n hx hb dX10_parse_80 rfl (lv_at hl 1 rfl) ?_
        refine lv_aload_n hx hb dX10_parse_81 rfl (lv_at hl 0 rfl) ?_
        refine gtM_13 cx ok hw dX10_parse_82 ?_
        refine lv_iload_n hx hb dX10_parse_85 rfl (lv_at hl 1 rfl) ?_
        obtain ⟨g10, hm⟩ := gd_ok hm
        refine ldM_13 cx ok hw g10 dX10_parse_86 ?_
        obtain ⟨g11, hm⟩ := gd_ok hm
        refine stM_28 cx ok hw g11 dX10_parse_87 (fun H locs hw => ?_)
        obtain ⟨σ12, e13, hm⟩ := lt_ok hm
        have hw := wsM_eq e13 hw
        refine lv_aload_n hx hb dX10_parse_88 rfl (lv_at hl 0 rfl) ?_
        refine gtM_29 cx ok hw dX10_parse_89 ?_
        refine lv_iload_n hx hb dX10_parse_92 rfl (lv_at hl 1 rfl) ?_
        refine lv_aload_n hx hb dX10_parse_93 rfl (lv_at hl 0 rfl) ?_
        refine gtM_14 cx ok hw dX10_parse_94 ?_
        refine lv_iload_n hx hb dX10_parse_97 rfl (lv_at hl 1 rfl) ?_
        obtain ⟨g14, hm⟩ := gd_ok hm
        refine ldM_14 cx ok hw g14 dX10_parse_98 ?_
        obtain ⟨g15, hm⟩ := gd_ok hm
        refine stM_29 cx ok hw g15 dX10_parse_99 (fun H locs hw => ?_)
        obtain ⟨σ16, e17, hm⟩ := lt_ok hm
        have hw := wsM_eq e17 hw
        obtain ⟨x1_18, e19, hm⟩ := lt_ok hm
        refine lv_iinc (v := x1_18) (lv' := [(1, .int x1_18), (0, .ref (E.2.2 1000))]) hx hb dX10_parse_100 hl (k := 1) rfl (by rw [e19]; rfl) (by decide) rfl (fun ls hl => ?_)
        refine lv_goto (tgt := 44) hx hb dX10_parse_103 (by decide) ?_
        exact ih σ16 x1_18 H locs ls hw (lv_sub hl [1, 0] rfl) hm
  have hl : lv_has ls 7 [(0, .ref (E.2.2 1000))] := hl
  unfold M_parse at hm
  have goal0 : ∀ (H : Heap) (locs : List Loc), wsM E σ0 (va_A (wldM E σ0) sz) s H locs → W p l e rmM_parse s m args below meth c H locs 0 0 (MQ below (QiM E σ0 σ' sz r) args s 0 0 (va_A (wldM E σ0) sz)) (F0 m 0 ls []) := by
    intro H locs hw
    refine lv_aload_n hx hb dX10_parse_0 rfl (lv_at hl 0 rfl) ?_
    refine lv_iconst (v := (0 : Int32)) hx hb dX10_parse_1 (by decide) ?_
    refine ptM_0 cx ok hw dX10_parse_2 (fun H locs hw => ?_)
    obtain ⟨σ1, e2, hm⟩ := lt_ok hm
    have hw := wsM_eq e2 hw
    refine lv_aload_n hx hb dX10_parse_5 rfl (lv_at hl 0 rfl) ?_
    refine gtM_10 cx ok hw dX10_parse_6 ?_
    refine lv_if_eq (tgt := 19) hx hb dX10_parse_9 (by decide) (fun c3 => ?_) (fun c3 => ?_)
    · have hm := if_t c3 hm
      refine lv_iconst (v := (-1 : Int32)) hx hb dX10_parse_19 (by decide) ?_
      exact rtM_i cx hr hlk hw hm dX10_parse_20
    · have hm := if_f c3 hm
      refine lv_aload_n hx hb dX10_parse_12 rfl (lv_at hl 0 rfl) ?_
      refine gtM_6 cx ok hw dX10_parse_13 ?_
      refine lv_if_ne (tgt := 21) hx hb dX10_parse_16 (by decide) (fun c4 => ?_) (fun c4 => ?_)
      · have hm := if_f c4 hm
        refine lv_aload_n hx hb dX10_parse_21 rfl (lv_at hl 0 rfl) ?_
        refine lv_iconst (v := (1 : Int32)) hx hb dX10_parse_22 (by decide) ?_
        refine ptM_38 cx ok hw (by decide) dX10_parse_23 (fun H locs hw => ?_)
        obtain ⟨σ5, e6, hm⟩ := lt_ok hm
        have hw := wsM_eq e6 hw
        refine lv_aload_n hx hb dX10_parse_26 rfl (lv_at hl 0 rfl) ?_
        refine lv_aload_n hx hb dX10_parse_27 rfl (lv_at hl 0 rfl) ?_
        refine gtM_6 cx ok hw dX10_parse_28 ?_
        refine ptM_24 cx ok hw dX10_parse_31 (fun H locs hw => ?_)
        obtain ⟨σ7, e8, hm⟩ := lt_ok hm
        have hw := wsM_eq e8 hw
        refine lv_aload_n hx hb dX10_parse_34 rfl (lv_at hl 0 rfl) ?_
        refine lv_aload_n hx hb dX10_parse_35 rfl (lv_at hl 0 rfl) ?_
        refine gtM_10 cx ok hw dX10_parse_36 ?_
        refine ptM_25 cx ok hw dX10_parse_39 (fun H locs hw => ?_)
        obtain ⟨σ9, e10, hm⟩ := lt_ok hm
        have hw := wsM_eq e10 hw
        refine lv_iconst (v := (0 : Int32)) hx hb dX10_parse_42 (by decide) ?_
        refine lv_istore_n (lv' := [(1, .int (0 : Int32)), (0, .ref (E.2.2 1000))]) hx hb dX10_parse_43 rfl hl (by decide) rfl (fun ls hl => ?_)
        exact w_44 n σ9 (0 : Int32) H locs ls hw (lv_sub hl [1, 0] rfl) hm
      · have hm := if_t c4 hm
        refine lv_iconst (v := (-1 : Int32)) hx hb dX10_parse_19 (by decide) ?_
        exact rtM_i cx hr hlk hw hm dX10_parse_20
  exact goal0 _ _ hw
/-! private boolean noReading(int);: reads only -/
def M_noReading (σ0 : St) (x1 : Int32) : Option Int32 :=
  if x1 < 0 then
    some (1 : Int32)
  else
    bp (M_listed σ0) fun r3 =>
    if x1 < r3 then
      some (0 : Int32)
    else
      some (1 : Int32)
abbrev rmM_noReading : Room := { frames := 3, cells := 0, slots := 0, locals := 62 }
set_option maxHeartbeats 4000000 in
set_option maxRecDepth 100000 in
theorem cM_noReading (l : Launch) (E : Ev) (sz : Nat) (σ0 : St) (x1 : Int32) (r : Int32) (hm : M_noReading σ0 x1 = some r) : Met l yX10_noReading (wz yX10_noReading cX10_noReading 2 (some .boolean)) rmM_noReading (PwM E [.ref (E.2.2 1000), .int x1] σ0 sz) (QiM E σ0 σ0 sz r) 0 0 (va_A (wldM E σ0) sz) := by
  refine enM (by decide) rfl (Nat.le_of_ble_eq_true rfl) (fun p e s m args below meth c cx hr hlk hml hsz ok hw ls hl => ?_)
  have hx := cx.1
  have hb := cx.2.1
  have hA9 := cx.2.2.2
  have hA : ∀ q, s.heap.size ≤ q → (va_A (wldM E σ0) sz) q := fun q h => Or.inr (by rw [← hsz]; exact h)
  have hl : lv_has ls 2 [(0, .ref (E.2.2 1000)), (1, .int x1)] := hl
  unfold M_noReading at hm
  have goal0 : ∀ (H : Heap) (locs : List Loc), wsM E σ0 (va_A (wldM E σ0) sz) s H locs → W p l e rmM_noReading s m args below meth c H locs 0 0 (MQ below (QiM E σ0 σ0 sz r) args s 0 0 (va_A (wldM E σ0) sz)) (F0 m 0 ls []) := by
    intro H locs hw
    refine lv_iload_n hx hb dX10_noReading_0 rfl (lv_at hl 1 rfl) ?_
    refine lv_if_lt (tgt := 12) hx hb dX10_noReading_1 (by decide) (fun c1 => ?_) (fun c1 => ?_)
    · have hm := if_t c1 hm
      refine lv_iconst (v := (1 : Int32)) hx hb dX10_noReading_12 (by decide) ?_
      refine lv_goto (tgt := 17) hx hb dX10_noReading_13 (by decide) ?_
      exact rtM_z cx hr hlk hw (by decide) (pr_some hm) dX10_noReading_17
    · have hm := if_f c1 hm
      refine lv_iload_n hx hb dX10_noReading_4 rfl (lv_at hl 1 rfl) ?_
      refine lv_aload_n hx hb dX10_noReading_5 rfl (lv_at hl 0 rfl) ?_
      obtain ⟨r3, h2, hm⟩ := bp_ok hm
      refine clV_Mi (As := []) (rest := [.int x1]) cx hml hl.1 ok hw hA (cM_listed l E _ σ0 r3 h2) (cwM_listed hA9 ⟨Nat.le_of_ble_eq_true rfl, Nat.le_of_ble_eq_true rfl⟩) rfl rfl (Nat.le_of_ble_eq_true rfl) dX10_noReading_6 (fun H locs hw => ?_)
      refine lv_icmp_lt (tgt := 16) hx hb dX10_noReading_9 (by decide) (fun c4 => ?_) (fun c4 => ?_)
      · have hm := if_t c4 hm
        refine lv_iconst (v := (0 : Int32)) hx hb dX10_noReading_16 (by decide) ?_
        exact rtM_z cx hr hlk hw (by decide) (pr_some hm) dX10_noReading_17
      · have hm := if_f c4 hm
        refine lv_iconst (v := (1 : Int32)) hx hb dX10_noReading_12 (by decide) ?_
        refine lv_goto (tgt := 17) hx hb dX10_noReading_13 (by decide) ?_
        exact rtM_z cx hr hlk hw (by decide) (pr_some hm) dX10_noReading_17
  exact goal0 _ _ hw
theorem cwM_noReading {R : Room} {s : State} {args : Array Value} (h : ∀ w ∈ wA, w.before args s = true) (hR : rmM_noReading.frames + 1 ≤ R.frames ∧ 8 + (2 + 11) + rmM_noReading.locals ≤ R.locals) : CallW R s args RX10 RX10 244 yX10_noReading cX10_noReading 2 (some .boolean) (wz yX10_noReading cX10_noReading 2 (some .boolean)) rmM_noReading 0 0 1 := cwV 1 h (gdV k_1095 k_1097 ks_70 k_11 k_1098) rfl rfl rfl (by decide +kernel) hR
/-! public long readings();: writes -/
def M_readings (σ0 : St) : Option (Int64 × St) :=
  lt (sI σ0 0 0 (0 : Int32)) fun σ1 =>
  if (σ1.1 38 0) = 0 then
    some ((0 : Int64), σ1)
  else
    bp (M_topCell σ1) fun r5 =>
    gd r5 7800 <|
    some ((σ1.2 34 r5.toNatClampNeg), σ1)
abbrev rmM_readings : Room := { frames := 2, cells := 0, slots := 0, locals := 42 }
set_option maxHeartbeats 4000000 in
set_option maxRecDepth 100000 in
theorem cM_readings (l : Launch) (E : Ev) (sz : Nat) (σ0 σ' : St) (r : Int64) (hm : M_readings σ0 = some (r, σ')) : Met l yX10_readings (wz yX10_readings cX10_readings 1 (some .long)) rmM_readings (PwM E [.ref (E.2.2 1000)] σ0 sz) (QlM E σ0 σ' sz r) 0 0 (va_A (wldM E σ0) sz) := by
  refine enM (by decide) rfl (Nat.le_of_ble_eq_true rfl) (fun p e s m args below meth c cx hr hlk hml hsz ok hw ls hl => ?_)
  have hx := cx.1
  have hb := cx.2.1
  have hA9 := cx.2.2.2
  have hA : ∀ q, s.heap.size ≤ q → (va_A (wldM E σ0) sz) q := fun q h => Or.inr (by rw [← hsz]; exact h)
  have hl : lv_has ls 1 [(0, .ref (E.2.2 1000))] := hl
  unfold M_readings at hm
  have goal0 : ∀ (H : Heap) (locs : List Loc), wsM E σ0 (va_A (wldM E σ0) sz) s H locs → W p l e rmM_readings s m args below meth c H locs 0 0 (MQ below (QlM E σ0 σ' sz r) args s 0 0 (va_A (wldM E σ0) sz)) (F0 m 0 ls []) := by
    intro H locs hw
    refine lv_aload_n hx hb dX10_readings_0 rfl (lv_at hl 0 rfl) ?_
    refine lv_iconst (v := (0 : Int32)) hx hb dX10_readings_1 (by decide) ?_
    refine ptM_0 cx ok hw dX10_readings_2 (fun H locs hw => ?_)
    obtain ⟨σ1, e2, hm⟩ := lt_ok hm
    have hw := wsM_eq e2 hw
    refine lv_aload_n hx hb dX10_readings_5 rfl (lv_at hl 0 rfl) ?_
    refine gtM_38 cx ok hw dX10_readings_6 ?_
    refine lv_if_eq (tgt := 24) hx hb dX10_readings_9 (by decide) (fun c3 => ?_) (fun c3 => ?_)
    · have hm := if_t c3 hm
      refine lv_lconst (v := (0 : Int64)) hx hb dX10_readings_24 (by decide) ?_
      exact rtM_l cx hr hlk hw hm dX10_readings_25
    · have hm := if_f c3 hm
      refine lv_aload_n hx hb dX10_readings_12 rfl (lv_at hl 0 rfl) ?_
      refine gtM_34 cx ok hw dX10_readings_13 ?_
      refine lv_aload_n hx hb dX10_readings_16 rfl (lv_at hl 0 rfl) ?_
      obtain ⟨r5, h4, hm⟩ := bp_ok hm
      refine clV_Mi (As := []) (rest := [.ref (E.2.2 34)]) cx hml hl.1 ok hw hA (cM_topCell l E _ σ1 r5 h4) (cwM_topCell hA9 ⟨Nat.le_of_ble_eq_true rfl, Nat.le_of_ble_eq_true rfl⟩) rfl rfl (Nat.le_of_ble_eq_true rfl) dX10_readings_17 (fun H locs hw => ?_)
      obtain ⟨g6, hm⟩ := gd_ok hm
      refine ldM_34 cx ok hw g6 dX10_readings_20 ?_
      refine lv_goto (tgt := 25) hx hb dX10_readings_21 (by decide) ?_
      exact rtM_l cx hr hlk hw hm dX10_readings_25
  exact goal0 _ _ hw
/-! public int price(int);: writes -/
def M_price (σ0 : St) (x1 : Int32) : Option (Int32 × St) :=
  lt (sI σ0 0 0 (0 : Int32)) fun σ1 =>
  bp (M_noReading σ1 x1) fun r4 =>
  if r4 = 0 then
    bp (M_topCell σ1) fun r7 =>
    gd (((30 : Int32) * r7) + x1) 234000 <|
    some ((σ1.1 35 (((30 : Int32) * r7) + x1).toNatClampNeg), σ1)
  else
    some ((-1 : Int32), σ1)
abbrev rmM_price : Room := { frames := 4, cells := 0, slots := 0, locals := 83 }
set_option maxHeartbeats 4000000 in
set_option maxRecDepth 100000 in
theorem cM_price (l : Launch) (E : Ev) (sz : Nat) (σ0 σ' : St) (x1 : Int32) (r : Int32) (hm : M_price σ0 x1 = some (r, σ')) : Met l yX10_price (wz yX10_price cX10_price 2 (some .int)) rmM_price (PwM E [.ref (E.2.2 1000), .int x1] σ0 sz) (QiM E σ0 σ' sz r) 0 0 (va_A (wldM E σ0) sz) := by
  refine enM (by decide) rfl (Nat.le_of_ble_eq_true rfl) (fun p e s m args below meth c cx hr hlk hml hsz ok hw ls hl => ?_)
  have hx := cx.1
  have hb := cx.2.1
  have hA9 := cx.2.2.2
  have hA : ∀ q, s.heap.size ≤ q → (va_A (wldM E σ0) sz) q := fun q h => Or.inr (by rw [← hsz]; exact h)
  have hl : lv_has ls 2 [(0, .ref (E.2.2 1000)), (1, .int x1)] := hl
  unfold M_price at hm
  have goal0 : ∀ (H : Heap) (locs : List Loc), wsM E σ0 (va_A (wldM E σ0) sz) s H locs → W p l e rmM_price s m args below meth c H locs 0 0 (MQ below (QiM E σ0 σ' sz r) args s 0 0 (va_A (wldM E σ0) sz)) (F0 m 0 ls []) := by
    intro H locs hw
    refine lv_aload_n hx hb dX10_price_0 rfl (lv_at hl 0 rfl) ?_
    refine lv_iconst (v := (0 : Int32)) hx hb dX10_price_1 (by decide) ?_
    refine ptM_0 cx ok hw dX10_price_2 (fun H locs hw => ?_)
    obtain ⟨σ1, e2, hm⟩ := lt_ok hm
    have hw := wsM_eq e2 hw
    refine lv_aload_n hx hb dX10_price_5 rfl (lv_at hl 0 rfl) ?_
    refine lv_iload_n hx hb dX10_price_6 rfl (lv_at hl 1 rfl) ?_
    obtain ⟨r4, h3, hm⟩ := bp_ok hm
    refine clV_Mi (As := [.int x1]) (rest := []) cx hml hl.1 ok hw hA (cM_noReading l E _ σ1 x1 r4 h3) (cwM_noReading hA9 ⟨Nat.le_of_ble_eq_true rfl, Nat.le_of_ble_eq_true rfl⟩) rfl rfl (Nat.le_of_ble_eq_true rfl) dX10_price_7 (fun H locs hw => ?_)
    refine lv_if_eq (tgt := 17) hx hb dX10_price_10 (by decide) (fun c5 => ?_) (fun c5 => ?_)
    · have hm := if_t c5 hm
      refine lv_aload_n hx hb dX10_price_17 rfl (lv_at hl 0 rfl) ?_
      refine gtM_35 cx ok hw dX10_price_18 ?_
      refine lv_bipush (v := (30 : Int32)) hx hb dX10_price_21 (by decide) ?_
      refine lv_aload_n hx hb dX10_price_23 rfl (lv_at hl 0 rfl) ?_
      obtain ⟨r7, h6, hm⟩ := bp_ok hm
      refine clV_Mi (As := []) (rest := [.int (30 : Int32), .ref (E.2.2 35)]) cx hml hl.1 ok hw hA (cM_topCell l E _ σ1 r7 h6) (cwM_topCell hA9 ⟨Nat.le_of_ble_eq_true rfl, Nat.le_of_ble_eq_true rfl⟩) rfl rfl (Nat.le_of_ble_eq_true rfl) dX10_price_24 (fun H locs hw => ?_)
      refine lv_imul hx hb dX10_price_27 ?_
      refine lv_iload_n hx hb dX10_price_28 rfl (lv_at hl 1 rfl) ?_
      refine lv_iadd hx hb dX10_price_29 ?_
      obtain ⟨g8, hm⟩ := gd_ok hm
      refine ldM_35 cx ok hw g8 dX10_price_30 ?_
      exact rtM_i cx hr hlk hw hm dX10_price_31
    · have hm := if_f c5 hm
      refine lv_iconst (v := (-1 : Int32)) hx hb dX10_price_13 (by decide) ?_
      refine lv_goto (tgt := 31) hx hb dX10_price_14 (by decide) ?_
      exact rtM_i cx hr hlk hw hm dX10_price_31
  exact goal0 _ _ hw
/-! private void later(int, int, int, int);: writes -/
def M_later (σ0 : St) (x1 : Int32) (x2 : Int32) (x3 : Int32) (x4 : Int32) : Option St :=
  gd (σ0.1 43 0) 64 <|
  lt (sI σ0 39 (σ0.1 43 0).toNatClampNeg x1) fun σ2 =>
  gd (σ2.1 43 0) 64 <|
  lt (sI σ2 40 (σ2.1 43 0).toNatClampNeg x2) fun σ5 =>
  gd (σ5.1 43 0) 64 <|
  lt (sI σ5 41 (σ5.1 43 0).toNatClampNeg x3) fun σ8 =>
  gd (σ8.1 43 0) 64 <|
  lt (sI σ8 42 (σ8.1 43 0).toNatClampNeg x4) fun σ11 =>
  lt (sI σ11 43 0 ((σ11.1 43 0) + (1 : Int32))) fun σ13 =>
  some σ13
abbrev rmM_later : Room := { frames := 0, cells := 0, slots := 0, locals := 0 }
set_option maxHeartbeats 4000000 in
set_option maxRecDepth 100000 in
theorem cM_later (l : Launch) (E : Ev) (sz : Nat) (σ0 σ' : St) (x1 : Int32) (x2 : Int32) (x3 : Int32) (x4 : Int32) (hm : M_later σ0 x1 x2 x3 x4 = some σ') : Met l yX10_later (wz yX10_later cX10_later 5 none) rmM_later (PwM E [.ref (E.2.2 1000), .int x1, .int x2, .int x3, .int x4] σ0 sz) (QvM E σ0 σ' sz) 0 0 (va_A (wldM E σ0) sz) := by
  refine enM (by decide) rfl (Nat.le_of_ble_eq_true rfl) (fun p e s m args below meth c cx hr hlk hml hsz ok hw ls hl => ?_)
  have hx := cx.1
  have hb := cx.2.1
  have hA9 := cx.2.2.2
  have hA : ∀ q, s.heap.size ≤ q → (va_A (wldM E σ0) sz) q := fun q h => Or.inr (by rw [← hsz]; exact h)
  have hl : lv_has ls 5 [(0, .ref (E.2.2 1000)), (1, .int x1), (2, .int x2), (3, .int x3), (4, .int x4)] := hl
  unfold M_later at hm
  have goal0 : ∀ (H : Heap) (locs : List Loc), wsM E σ0 (va_A (wldM E σ0) sz) s H locs → W p l e rmM_later s m args below meth c H locs 0 0 (MQ below (QvM E σ0 σ' sz) args s 0 0 (va_A (wldM E σ0) sz)) (F0 m 0 ls []) := by
    intro H locs hw
    refine lv_aload_n hx hb dX10_later_0 rfl (lv_at hl 0 rfl) ?_
    refine gtM_39 cx ok hw dX10_later_1 ?_
    refine lv_aload_n hx hb dX10_later_4 rfl (lv_at hl 0 rfl) ?_
    refine gtM_43 cx ok hw dX10_later_5 ?_
    refine lv_iload_n hx hb dX10_later_8 rfl (lv_at hl 1 rfl) ?_
    obtain ⟨g1, hm⟩ := gd_ok hm
    refine stM_39 cx ok hw g1 dX10_later_9 (fun H locs hw => ?_)
    obtain ⟨σ2, e3, hm⟩ := lt_ok hm
    have hw := wsM_eq e3 hw
    refine lv_aload_n hx hb dX10_later_10 rfl (lv_at hl 0 rfl) ?_
    refine gtM_40 cx ok hw dX10_later_11 ?_
    refine lv_aload_n hx hb dX10_later_14 rfl (lv_at hl 0 rfl) ?_
    refine gtM_43 cx ok hw dX10_later_15 ?_
    refine lv_iload_n hx hb dX10_later_18 rfl (lv_at hl 2 rfl) ?_
    obtain ⟨g4, hm⟩ := gd_ok hm
    refine stM_40 cx ok hw g4 dX10_later_19 (fun H locs hw => ?_)
    obtain ⟨σ5, e6, hm⟩ := lt_ok hm
    have hw := wsM_eq e6 hw
    refine lv_aload_n hx hb dX10_later_20 rfl (lv_at hl 0 rfl) ?_
    refine gtM_41 cx ok hw dX10_later_21 ?_
    refine lv_aload_n hx hb dX10_later_24 rfl (lv_at hl 0 rfl) ?_
    refine gtM_43 cx ok hw dX10_later_25 ?_
    refine lv_iload_n hx hb dX10_later_28 rfl (lv_at hl 3 rfl) ?_
    obtain ⟨g7, hm⟩ := gd_ok hm
    refine stM_41 cx ok hw g7 dX10_later_29 (fun H locs hw => ?_)
    obtain ⟨σ8, e9, hm⟩ := lt_ok hm
    have hw := wsM_eq e9 hw
    refine lv_aload_n hx hb dX10_later_30 rfl (lv_at hl 0 rfl) ?_
    refine gtM_42 cx ok hw dX10_later_31 ?_
    refine lv_aload_n hx hb dX10_later_34 rfl (lv_at hl 0 rfl) ?_
    refine gtM_43 cx ok hw dX10_later_35 ?_
    refine lv_iload hx hb dX10_later_38 (lv_at hl 4 rfl) ?_
    obtain ⟨g10, hm⟩ := gd_ok hm
    refine stM_42 cx ok hw g10 dX10_later_40 (fun H locs hw => ?_)
    obtain ⟨σ11, e12, hm⟩ := lt_ok hm
    have hw := wsM_eq e12 hw
    refine lv_aload_n hx hb dX10_later_41 rfl (lv_at hl 0 rfl) ?_
    refine lv_dup hx hb dX10_later_42 rfl ?_
    refine gtM_43 cx ok hw dX10_later_43 ?_
    refine lv_iconst (v := (1 : Int32)) hx hb dX10_later_46 (by decide) ?_
    refine lv_iadd hx hb dX10_later_47 ?_
    refine ptM_43 cx ok hw dX10_later_48 (fun H locs hw => ?_)
    obtain ⟨σ13, e14, hm⟩ := lt_ok hm
    have hw := wsM_eq e14 hw
    exact rtM_v cx hr hlk hw hm dX10_later_51
  exact goal0 _ _ hw
theorem cwM_later {R : Room} {s : State} {args : Array Value} (h : ∀ w ∈ wA, w.before args s = true) (hR : rmM_later.frames + 1 ≤ R.frames ∧ 8 + (5 + 11) + rmM_later.locals ≤ R.locals) : CallW R s args RX10 RX10 250 yX10_later cX10_later 5 none (wz yX10_later cX10_later 5 none) rmM_later 0 0 4 := cwV 4 h (gdV k_1107 k_1109 ks_72 k_11 k_1110) rfl rfl rfl (by decide +kernel) hR
/-! private void begin(int);: writes -/
def M_begin (σ0 : St) (x1 : Int32) : Option St :=
  lt (sI σ0 43 0 (0 : Int32)) fun σ1 =>
  gd (0 : Int32) 60 <|
  bp (M_later σ1 (σ1.1 26 (0 : Int32).toNatClampNeg) (0 : Int32) ((σ1.1 24 0) - (1 : Int32)) x1) fun σ5 =>
  some σ5
abbrev rmM_begin : Room := { frames := 1, cells := 0, slots := 0, locals := 24 }
set_option maxHeartbeats 4000000 in
set_option maxRecDepth 100000 in
theorem cM_begin (l : Launch) (E : Ev) (sz : Nat) (σ0 σ' : St) (x1 : Int32) (hm : M_begin σ0 x1 = some σ') : Met l yX10_begin (wz yX10_begin cX10_begin 2 none) rmM_begin (PwM E [.ref (E.2.2 1000), .int x1] σ0 sz) (QvM E σ0 σ' sz) 0 0 (va_A (wldM E σ0) sz) := by
  refine enM (by decide) rfl (Nat.le_of_ble_eq_true rfl) (fun p e s m args below meth c cx hr hlk hml hsz ok hw ls hl => ?_)
  have hx := cx.1
  have hb := cx.2.1
  have hA9 := cx.2.2.2
  have hA : ∀ q, s.heap.size ≤ q → (va_A (wldM E σ0) sz) q := fun q h => Or.inr (by rw [← hsz]; exact h)
  have hl : lv_has ls 2 [(0, .ref (E.2.2 1000)), (1, .int x1)] := hl
  unfold M_begin at hm
  have goal0 : ∀ (H : Heap) (locs : List Loc), wsM E σ0 (va_A (wldM E σ0) sz) s H locs → W p l e rmM_begin s m args below meth c H locs 0 0 (MQ below (QvM E σ0 σ' sz) args s 0 0 (va_A (wldM E σ0) sz)) (F0 m 0 ls []) := by
    intro H locs hw
    refine lv_aload_n hx hb dX10_begin_0 rfl (lv_at hl 0 rfl) ?_
    refine lv_iconst (v := (0 : Int32)) hx hb dX10_begin_1 (by decide) ?_
    refine ptM_43 cx ok hw dX10_begin_2 (fun H locs hw => ?_)
    obtain ⟨σ1, e2, hm⟩ := lt_ok hm
    have hw := wsM_eq e2 hw
    refine lv_aload_n hx hb dX10_begin_5 rfl (lv_at hl 0 rfl) ?_
    refine lv_aload_n hx hb dX10_begin_6 rfl (lv_at hl 0 rfl) ?_
    refine gtM_26 cx ok hw dX10_begin_7 ?_
    refine lv_iconst (v := (0 : Int32)) hx hb dX10_begin_10 (by decide) ?_
    obtain ⟨g3, hm⟩ := gd_ok hm
    refine ldM_26 cx ok hw g3 dX10_begin_11 ?_
    refine lv_iconst (v := (0 : Int32)) hx hb dX10_begin_12 (by decide) ?_
    refine lv_aload_n hx hb dX10_begin_13 rfl (lv_at hl 0 rfl) ?_
    refine gtM_24 cx ok hw dX10_begin_14 ?_
    refine lv_iconst (v := (1 : Int32)) hx hb dX10_begin_17 (by decide) ?_
    refine lv_isub hx hb dX10_begin_18 ?_
    refine lv_iload_n hx hb dX10_begin_19 rfl (lv_at hl 1 rfl) ?_
    obtain ⟨σ5, h4, hm⟩ := bp_ok hm
    refine clV_Mv (As := [.int (σ1.1 26 (0 : Int32).toNatClampNeg), .int (0 : Int32), .int ((σ1.1 24 0) - (1 : Int32)), .int x1]) (rest := []) cx hml hl.1 ok hw hA (cM_later l E _ σ1 σ5 (σ1.1 26 (0 : Int32).toNatClampNeg) (0 : Int32) ((σ1.1 24 0) - (1 : Int32)) x1 h4) (cwM_later hA9 ⟨Nat.le_of_ble_eq_true rfl, Nat.le_of_ble_eq_true rfl⟩) rfl rfl (Nat.le_of_ble_eq_true rfl) dX10_begin_20 (fun H locs hw => ?_)
    exact rtM_v cx hr hlk hw hm dX10_begin_23
  exact goal0 _ _ hw
theorem cwM_begin {R : Room} {s : State} {args : Array Value} (h : ∀ w ∈ wA, w.before args s = true) (hR : rmM_begin.frames + 1 ≤ R.frames ∧ 8 + (2 + 11) + rmM_begin.locals ≤ R.locals) : CallW R s args RX10 RX10 265 yX10_begin cX10_begin 2 none (wz yX10_begin cX10_begin 2 none) rmM_begin 0 0 1 := cwV 1 h (gdV k_1103 k_1105 ks_71 k_11 k_1106) rfl rfl rfl (by decide +kernel) hR
/-! private boolean next();: writes -/
def M_next (σ0 : St) : Option (Int32 × St) :=
  if (σ0.1 43 0) = 0 then
    some ((0 : Int32), σ0)
  else
    lt (sI σ0 43 0 ((σ0.1 43 0) - (1 : Int32))) fun σ2 =>
    gd (σ2.1 43 0) 64 <|
    lt (sI σ2 44 0 (σ2.1 39 (σ2.1 43 0).toNatClampNeg)) fun σ5 =>
    gd (σ5.1 43 0) 64 <|
    lt (sI σ5 45 0 (σ5.1 40 (σ5.1 43 0).toNatClampNeg)) fun σ8 =>
    gd (σ8.1 43 0) 64 <|
    lt (sI σ8 46 0 (σ8.1 41 (σ8.1 43 0).toNatClampNeg)) fun σ11 =>
    lt (sI σ11 47 0 (-1 : Int32)) fun σ13 =>
    if (100 : Int32) ≤ (σ13.1 44 0) then
      some ((1 : Int32), σ13)
    else
      bp (M_cellOf (σ13.1 44 0) (σ13.1 45 0) (σ13.1 46 0)) fun r17 =>
      gd (σ13.1 43 0) 64 <|
      gd (((30 : Int32) * r17) + (σ13.1 42 (σ13.1 43 0).toNatClampNeg)) 234000 <|
      lt ((σ13.1 36 (((30 : Int32) * r17) + (σ13.1 42 (σ13.1 43 0).toNatClampNeg)).toNatClampNeg)) fun x1_20 =>
      lt ((x1_20 >>> ((15 : Int32) &&& 31))) fun x2_22 =>
      lt (((x1_20 >>> ((10 : Int32) &&& 31)) &&& (31 : Int32))) fun x3_24 =>
      lt (((x1_20 >>> ((5 : Int32) &&& 31)) &&& (31 : Int32))) fun x4_26 =>
      lt ((x1_20 &&& (31 : Int32))) fun x5_28 =>
      lt (sI σ13 47 0 x2_22) fun σ30 =>
      if x3_24 = 0 then
        gd x2_22 60 <|
        bp (M_later σ30 (σ30.1 27 x2_22.toNatClampNeg) (σ30.1 45 0) (σ30.1 46 0) x4_26) fun σ41 =>
        some ((1 : Int32), σ41)
      else
        gd x2_22 60 <|
        bp (M_later σ30 (σ30.1 28 x2_22.toNatClampNeg) ((σ30.1 45 0) + x3_24) (σ30.1 46 0) x5_28) fun σ35 =>
        gd x2_22 60 <|
        bp (M_later σ35 (σ35.1 27 x2_22.toNatClampNeg) (σ35.1 45 0) (((σ35.1 45 0) + x3_24) - (1 : Int32)) x4_26) fun σ38 =>
        some ((1 : Int32), σ38)
abbrev rmM_next : Room := { frames := 1, cells := 0, slots := 0, locals := 24 }
set_option maxHeartbeats 4000000 in
set_option maxRecDepth 100000 in
theorem cM_next (l : Launch) (E : Ev) (sz : Nat) (σ0 σ' : St) (r : Int32) (hm : M_next σ0 = some (r, σ')) : Met l yX10_next (wz yX10_next cX10_next 6 (some .boolean)) rmM_next (PwM E [.ref (E.2.2 1000)] σ0 sz) (QiM E σ0 σ' sz r) 0 0 (va_A (wldM E σ0) sz) := by
  refine enM (by decide) rfl (Nat.le_of_ble_eq_true rfl) (fun p e s m args below meth c cx hr hlk hml hsz ok hw ls hl => ?_)
  have hx := cx.1
  have hb := cx.2.1
  have hA9 := cx.2.2.2
  have hA : ∀ q, s.heap.size ≤ q → (va_A (wldM E σ0) sz) q := fun q h => Or.inr (by rw [← hsz]; exact h)
  have hl : lv_has ls 6 [(0, .ref (E.2.2 1000))] := hl
  unfold M_next at hm
  have goal0 : ∀ (H : Heap) (locs : List Loc), wsM E σ0 (va_A (wldM E σ0) sz) s H locs → W p l e rmM_next s m args below meth c H locs 0 0 (MQ below (QiM E σ0 σ' sz r) args s 0 0 (va_A (wldM E σ0) sz)) (F0 m 0 ls []) := by
    intro H locs hw
    refine lv_aload_n hx hb dX10_next_0 rfl (lv_at hl 0 rfl) ?_
    refine gtM_43 cx ok hw dX10_next_1 ?_
    refine lv_if_ne (tgt := 9) hx hb dX10_next_4 (by decide) (fun c1 => ?_) (fun c1 => ?_)
    · have hm := if_f c1 hm
      refine lv_aload_n hx hb dX10_next_9 rfl (lv_at hl 0 rfl) ?_
      refine lv_dup hx hb dX10_next_10 rfl ?_
      refine gtM_43 cx ok hw dX10_next_11 ?_
      refine lv_iconst (v := (1 : Int32)) hx hb dX10_next_14 (by decide) ?_
      refine lv_isub hx hb dX10_next_15 ?_
      refine ptM_43 cx ok hw dX10_next_16 (fun H locs hw => ?_)
      obtain ⟨σ2, e3, hm⟩ := lt_ok hm
      have hw := wsM_eq e3 hw
      refine lv_aload_n hx hb dX10_next_19 rfl (lv_at hl 0 rfl) ?_
      refine lv_aload_n hx hb dX10_next_20 rfl (lv_at hl 0 rfl) ?_
      refine gtM_39 cx ok hw dX10_next_21 ?_
      refine lv_aload_n hx hb dX10_next_24 rfl (lv_at hl 0 rfl) ?_
      refine gtM_43 cx ok hw dX10_next_25 ?_
      obtain ⟨g4, hm⟩ := gd_ok hm
      refine ldM_39 cx ok hw g4 dX10_next_28 ?_
      refine ptM_44 cx ok hw dX10_next_29 (fun H locs hw => ?_)
      obtain ⟨σ5, e6, hm⟩ := lt_ok hm
      have hw := wsM_eq e6 hw
      refine lv_aload_n hx hb dX10_next_32 rfl (lv_at hl 0 rfl) ?_
      refine lv_aload_n hx hb dX10_next_33 rfl (lv_at hl 0 rfl) ?_
      refine gtM_40 cx ok hw dX10_next_34 ?_
      refine lv_aload_n hx hb dX10_next_37 rfl (lv_at hl 0 rfl) ?_
      refine gtM_43 cx ok hw dX10_next_38 ?_
      obtain ⟨g7, hm⟩ := gd_ok hm
      refine ldM_40 cx ok hw g7 dX10_next_41 ?_
      refine ptM_45 cx ok hw dX10_next_42 (fun H locs hw => ?_)
      obtain ⟨σ8, e9, hm⟩ := lt_ok hm
      have hw := wsM_eq e9 hw
      refine lv_aload_n hx hb dX10_next_45 rfl (lv_at hl 0 rfl) ?_
      refine lv_aload_n hx hb dX10_next_46 rfl (lv_at hl 0 rfl) ?_
      refine gtM_41 cx ok hw dX10_next_47 ?_
      refine lv_aload_n hx hb dX10_next_50 rfl (lv_at hl 0 rfl) ?_
      refine gtM_43 cx ok hw dX10_next_51 ?_
      obtain ⟨g10, hm⟩ := gd_ok hm
      refine ldM_41 cx ok hw g10 dX10_next_54 ?_
      refine ptM_46 cx ok hw dX10_next_55 (fun H locs hw => ?_)
      obtain ⟨σ11, e12, hm⟩ := lt_ok hm
      have hw := wsM_eq e12 hw
      refine lv_aload_n hx hb dX10_next_58 rfl (lv_at hl 0 rfl) ?_
      refine lv_iconst (v := (-1 : Int32)) hx hb dX10_next_59 (by decide) ?_
      refine ptM_47 cx ok hw dX10_next_60 (fun H locs hw => ?_)
      obtain ⟨σ13, e14, hm⟩ := lt_ok hm
      have hw := wsM_eq e14 hw
      refine lv_aload_n hx hb dX10_next_63 rfl (lv_at hl 0 rfl) ?_
      refine gtM_44 cx ok hw dX10_next_64 ?_
      refine lv_bipush (v := (100 : Int32)) hx hb dX10_next_67 (by decide) ?_
      refine lv_icmp_ge (tgt := 211) hx hb dX10_next_69 (by decide) (fun c15 => ?_) (fun c15 => ?_)
      · have hm := if_t c15 hm
        refine lv_iconst (v := (1 : Int32)) hx hb dX10_next_211 (by decide) ?_
        exact rtM_z cx hr hlk hw (by decide) hm dX10_next_212
      · have hm := if_f c15 hm
        refine lv_aload_n hx hb dX10_next_72 rfl (lv_at hl 0 rfl) ?_
        refine gtM_36 cx ok hw dX10_next_73 ?_
        refine lv_bipush (v := (30 : Int32)) hx hb dX10_next_76 (by decide) ?_
        refine lv_aload_n hx hb dX10_next_78 rfl (lv_at hl 0 rfl) ?_
        refine gtM_44 cx ok hw dX10_next_79 ?_
        refine lv_aload_n hx hb dX10_next_82 rfl (lv_at hl 0 rfl) ?_
        refine gtM_45 cx ok hw dX10_next_83 ?_
        refine lv_aload_n hx hb dX10_next_86 rfl (lv_at hl 0 rfl) ?_
        refine gtM_46 cx ok hw dX10_next_87 ?_
        obtain ⟨r17, h16, hm⟩ := bp_ok hm
        refine clS_Mi (As := [.int (σ13.1 44 0), .int (σ13.1 45 0), .int (σ13.1 46 0)]) (rest := [.int (30 : Int32), .ref (E.2.2 36)]) cx hml hl.1 ok hw hA (cM_cellOf l E _ σ13 (σ13.1 44 0) (σ13.1 45 0) (σ13.1 46 0) r17 h16) (cwM_cellOf hA9 ⟨Nat.le_of_ble_eq_true rfl, Nat.le_of_ble_eq_true rfl⟩) rfl rfl (Nat.le_of_ble_eq_true rfl) dX10_next_90 (fun H locs hw => ?_)
        refine lv_imul hx hb dX10_next_93 ?_
        refine lv_aload_n hx hb dX10_next_94 rfl (lv_at hl 0 rfl) ?_
        refine gtM_42 cx ok hw dX10_next_95 ?_
        refine lv_aload_n hx hb dX10_next_98 rfl (lv_at hl 0 rfl) ?_
        refine gtM_43 cx ok hw dX10_next_99 ?_
        obtain ⟨g18, hm⟩ := gd_ok hm
        refine ldM_42 cx ok hw g18 dX10_next_102 ?_
        refine lv_iadd hx hb dX10_next_103 ?_
        obtain ⟨g19, hm⟩ := gd_ok hm
        refine ldM_36 cx ok hw g19 dX10_next_104 ?_
        obtain ⟨x1_20, e21, hm⟩ := lt_ok hm
        refine ti_eq e21 ?_
        refine lv_istore_n (lv' := [(1, .int x1_20), (0, .ref (E.2.2 1000))]) hx hb dX10_next_105 rfl hl (by decide) rfl (fun ls hl => ?_)
        refine lv_iload_n hx hb dX10_next_106 rfl (lv_at hl 0 rfl) ?_
        refine lv_bipush (v := (15 : Int32)) hx hb dX10_next_107 (by decide) ?_
        refine lv_ishr hx hb dX10_next_109 ?_
        obtain ⟨x2_22, e23, hm⟩ := lt_ok hm
        refine ti_eq e23 ?_
        refine lv_istore_n (lv' := [(2, .int x2_22), (1, .int x1_20), (0, .ref (E.2.2 1000))]) hx hb dX10_next_110 rfl hl (by decide) rfl (fun ls hl => ?_)
        refine lv_iload_n hx hb dX10_next_111 rfl (lv_at hl 1 rfl) ?_
        refine lv_bipush (v := (10 : Int32)) hx hb dX10_next_112 (by decide) ?_
        refine lv_ishr hx hb dX10_next_114 ?_
        refine lv_bipush (v := (31 : Int32)) hx hb dX10_next_115 (by decide) ?_
        refine lv_iand hx hb dX10_next_117 ?_
        obtain ⟨x3_24, e25, hm⟩ := lt_ok hm
        refine ti_eq e25 ?_
        refine lv_istore_n (lv' := [(3, .int x3_24), (2, .int x2_22), (1, .int x1_20), (0, .ref (E.2.2 1000))]) hx hb dX10_next_118 rfl hl (by decide) rfl (fun ls hl => ?_)
        refine lv_iload_n hx hb dX10_next_119 rfl (lv_at hl 2 rfl) ?_
        refine lv_iconst (v := (5 : Int32)) hx hb dX10_next_120 (by decide) ?_
        refine lv_ishr hx hb dX10_next_121 ?_
        refine lv_bipush (v := (31 : Int32)) hx hb dX10_next_122 (by decide) ?_
        refine lv_iand hx hb dX10_next_124 ?_
        obtain ⟨x4_26, e27, hm⟩ := lt_ok hm
        refine ti_eq e27 ?_
        refine lv_istore (lv' := [(4, .int x4_26), (3, .int x3_24), (2, .int x2_22), (1, .int x1_20), (0, .ref (E.2.2 1000))]) hx hb dX10_next_125 hl (by decide) rfl (fun ls hl => ?_)
        refine lv_iload_n hx hb dX10_next_127 rfl (lv_at hl 3 rfl) ?_
        refine lv_bipush (v := (31 : Int32)) hx hb dX10_next_128 (by decide) ?_
        refine lv_iand hx hb dX10_next_130 ?_
        obtain ⟨x5_28, e29, hm⟩ := lt_ok hm
        refine ti_eq e29 ?_
        refine lv_istore (lv' := [(5, .int x5_28), (4, .int x4_26), (3, .int x3_24), (2, .int x2_22), (1, .int x1_20), (0, .ref (E.2.2 1000))]) hx hb dX10_next_131 hl (by decide) rfl (fun ls hl => ?_)
        refine lv_aload_n hx hb dX10_next_133 rfl (lv_at hl 5 rfl) ?_
        refine lv_iload_n hx hb dX10_next_134 rfl (lv_at hl 3 rfl) ?_
        refine ptM_47 cx ok hw dX10_next_135 (fun H locs hw => ?_)
        obtain ⟨σ30, e31, hm⟩ := lt_ok hm
        have hw := wsM_eq e31 hw
        refine lv_iload_n hx hb dX10_next_138 rfl (lv_at hl 2 rfl) ?_
        refine lv_if_ne (tgt := 165) hx hb dX10_next_139 (by decide) (fun c32 => ?_) (fun c32 => ?_)
        · have hm := if_f c32 hm
          refine lv_aload_n hx hb dX10_next_165 rfl (lv_at hl 5 rfl) ?_
          refine lv_aload_n hx hb dX10_next_166 rfl (lv_at hl 5 rfl) ?_
          refine gtM_28 cx ok hw dX10_next_167 ?_
          refine lv_iload_n hx hb dX10_next_170 rfl (lv_at hl 3 rfl) ?_
          obtain ⟨g33, hm⟩ := gd_ok hm
          refine ldM_28 cx ok hw g33 dX10_next_171 ?_
          refine lv_aload_n hx hb dX10_next_172 rfl (lv_at hl 5 rfl) ?_
          refine gtM_45 cx ok hw dX10_next_173 ?_
          refine lv_iload_n hx hb dX10_next_176 rfl (lv_at hl 2 rfl) ?_
          refine lv_iadd hx hb dX10_next_177 ?_
          refine lv_aload_n hx hb dX10_next_178 rfl (lv_at hl 5 rfl) ?_
          refine gtM_46 cx ok hw dX10_next_179 ?_
          refine lv_iload hx hb dX10_next_182 (lv_at hl 0 rfl) ?_
          obtain ⟨σ35, h34, hm⟩ := bp_ok hm
          refine clV_Mv (As := [.int (σ30.1 28 x2_22.toNatClampNeg), .int ((σ30.1 45 0) + x3_24), .int (σ30.1 46 0), .int x5_28]) (rest := []) cx hml hl.1 ok hw hA (cM_later l E _ σ30 σ35 (σ30.1 28 x2_22.toNatClampNeg) ((σ30.1 45 0) + x3_24) (σ30.1 46 0) x5_28 h34) (cwM_later hA9 ⟨Nat.le_of_ble_eq_true rfl, Nat.le_of_ble_eq_true rfl⟩) rfl rfl (Nat.le_of_ble_eq_true rfl) dX10_next_184 (fun H locs hw => ?_)
          refine lv_aload_n hx hb dX10_next_187 rfl (lv_at hl 5 rfl) ?_
          refine lv_aload_n hx hb dX10_next_188 rfl (lv_at hl 5 rfl) ?_
          refine gtM_27 cx ok hw dX10_next_189 ?_
          refine lv_iload_n hx hb dX10_next_192 rfl (lv_at hl 3 rfl) ?_
          obtain ⟨g36, hm⟩ := gd_ok hm
          refine ldM_27 cx ok hw g36 dX10_next_193 ?_
          refine lv_aload_n hx hb dX10_next_194 rfl (lv_at hl 5 rfl) ?_
          refine gtM_45 cx ok hw dX10_next_195 ?_
          refine lv_aload_n hx hb dX10_next_198 rfl (lv_at hl 5 rfl) ?_
          refine gtM_45 cx ok hw dX10_next_199 ?_
          refine lv_iload_n hx hb dX10_next_202 rfl (lv_at hl 2 rfl) ?_
          refine lv_iadd hx hb dX10_next_203 ?_
          refine lv_iconst (v := (1 : Int32)) hx hb dX10_next_204 (by decide) ?_
          refine lv_isub hx hb dX10_next_205 ?_
          refine lv_iload hx hb dX10_next_206 (lv_at hl 1 rfl) ?_
          obtain ⟨σ38, h37, hm⟩ := bp_ok hm
          refine clV_Mv (As := [.int (σ35.1 27 x2_22.toNatClampNeg), .int (σ35.1 45 0), .int (((σ35.1 45 0) + x3_24) - (1 : Int32)), .int x4_26]) (rest := []) cx hml hl.1 ok hw hA (cM_later l E _ σ35 σ38 (σ35.1 27 x2_22.toNatClampNeg) (σ35.1 45 0) (((σ35.1 45 0) + x3_24) - (1 : Int32)) x4_26 h37) (cwM_later hA9 ⟨Nat.le_of_ble_eq_true rfl, Nat.le_of_ble_eq_true rfl⟩) rfl rfl (Nat.le_of_ble_eq_true rfl) dX10_next_208 (fun H locs hw => ?_)
          refine lv_iconst (v := (1 : Int32)) hx hb dX10_next_211 (by decide) ?_
          exact rtM_z cx hr hlk hw (by decide) hm dX10_next_212
        · have hm := if_t c32 hm
          refine lv_aload_n hx hb dX10_next_142 rfl (lv_at hl 5 rfl) ?_
          refine lv_aload_n hx hb dX10_next_143 rfl (lv_at hl 5 rfl) ?_
          refine gtM_27 cx ok hw dX10_next_144 ?_
          refine lv_iload_n hx hb dX10_next_147 rfl (lv_at hl 3 rfl) ?_
          obtain ⟨g39, hm⟩ := gd_ok hm
          refine ldM_27 cx ok hw g39 dX10_next_148 ?_
          refine lv_aload_n hx hb dX10_next_149 rfl (lv_at hl 5 rfl) ?_
          refine gtM_45 cx ok hw dX10_next_150 ?_
          refine lv_aload_n hx hb dX10_next_153 rfl (lv_at hl 5 rfl) ?_
          refine gtM_46 cx ok hw dX10_next_154 ?_
          refine lv_iload hx hb dX10_next_157 (lv_at hl 1 rfl) ?_
          obtain ⟨σ41, h40, hm⟩ := bp_ok hm
          refine clV_Mv (As := [.int (σ30.1 27 x2_22.toNatClampNeg), .int (σ30.1 45 0), .int (σ30.1 46 0), .int x4_26]) (rest := []) cx hml hl.1 ok hw hA (cM_later l E _ σ30 σ41 (σ30.1 27 x2_22.toNatClampNeg) (σ30.1 45 0) (σ30.1 46 0) x4_26 h40) (cwM_later hA9 ⟨Nat.le_of_ble_eq_true rfl, Nat.le_of_ble_eq_true rfl⟩) rfl rfl (Nat.le_of_ble_eq_true rfl) dX10_next_159 (fun H locs hw => ?_)
          refine lv_goto (tgt := 211) hx hb dX10_next_162 (by decide) ?_
          refine lv_iconst (v := (1 : Int32)) hx hb dX10_next_211 (by decide) ?_
          exact rtM_z cx hr hlk hw (by decide) hm dX10_next_212
    · have hm := if_t c1 hm
      refine lv_iconst (v := (0 : Int32)) hx hb dX10_next_7 (by decide) ?_
      exact rtM_z cx hr hlk hw (by decide) hm dX10_next_8
  exact goal0 _ _ hw
theorem cwM_next {R : Room} {s : State} {args : Array Value} (h : ∀ w ∈ wA, w.before args s = true) (hR : rmM_next.frames + 1 ≤ R.frames ∧ 8 + (6 + 11) + rmM_next.locals ≤ R.locals) : CallW R s args RX10 RX10 268 yX10_next cX10_next 6 (some .boolean) (wz yX10_next cX10_next 6 (some .boolean)) rmM_next 0 0 0 := cwV 0 h (gdV k_1111 k_1113 ks_73 k_11 k_1114) rfl rfl rfl (by decide +kernel) hR
/-! private int nodeChord();: reads only -/
def M_nodeChord (σ0 : St) : Option Int32 :=
  if (100 : Int32) ≤ (σ0.1 44 0) then
    gd (((24 : Int32) * ((σ0.1 44 0) - (100 : Int32))) + (σ0.1 45 0)) 1920 <|
    some (σ0.1 31 (((24 : Int32) * ((σ0.1 44 0) - (100 : Int32))) + (σ0.1 45 0)).toNatClampNeg)
  else
    some (-1 : Int32)
abbrev rmM_nodeChord : Room := { frames := 0, cells := 0, slots := 0, locals := 0 }
set_option maxHeartbeats 4000000 in
set_option maxRecDepth 100000 in
theorem cM_nodeChord (l : Launch) (E : Ev) (sz : Nat) (σ0 : St) (r : Int32) (hm : M_nodeChord σ0 = some r) : Met l yX10_nodeChord (wz yX10_nodeChord cX10_nodeChord 1 (some .int)) rmM_nodeChord (PwM E [.ref (E.2.2 1000)] σ0 sz) (QiM E σ0 σ0 sz r) 0 0 (va_A (wldM E σ0) sz) := by
  refine enM (by decide) rfl (Nat.le_of_ble_eq_true rfl) (fun p e s m args below meth c cx hr hlk hml hsz ok hw ls hl => ?_)
  have hx := cx.1
  have hb := cx.2.1
  have hA9 := cx.2.2.2
  have hA : ∀ q, s.heap.size ≤ q → (va_A (wldM E σ0) sz) q := fun q h => Or.inr (by rw [← hsz]; exact h)
  have hl : lv_has ls 1 [(0, .ref (E.2.2 1000))] := hl
  unfold M_nodeChord at hm
  have goal0 : ∀ (H : Heap) (locs : List Loc), wsM E σ0 (va_A (wldM E σ0) sz) s H locs → W p l e rmM_nodeChord s m args below meth c H locs 0 0 (MQ below (QiM E σ0 σ0 sz r) args s 0 0 (va_A (wldM E σ0) sz)) (F0 m 0 ls []) := by
    intro H locs hw
    refine lv_aload_n hx hb dX10_nodeChord_0 rfl (lv_at hl 0 rfl) ?_
    refine gtM_44 cx ok hw dX10_nodeChord_1 ?_
    refine lv_bipush (v := (100 : Int32)) hx hb dX10_nodeChord_4 (by decide) ?_
    refine lv_icmp_ge (tgt := 13) hx hb dX10_nodeChord_6 (by decide) (fun c1 => ?_) (fun c1 => ?_)
    · have hm := if_t c1 hm
      refine lv_aload_n hx hb dX10_nodeChord_13 rfl (lv_at hl 0 rfl) ?_
      refine gtM_31 cx ok hw dX10_nodeChord_14 ?_
      refine lv_bipush (v := (24 : Int32)) hx hb dX10_nodeChord_17 (by decide) ?_
      refine lv_aload_n hx hb dX10_nodeChord_19 rfl (lv_at hl 0 rfl) ?_
      refine gtM_44 cx ok hw dX10_nodeChord_20 ?_
      refine lv_bipush (v := (100 : Int32)) hx hb dX10_nodeChord_23 (by decide) ?_
      refine lv_isub hx hb dX10_nodeChord_25 ?_
      refine lv_imul hx hb dX10_nodeChord_26 ?_
      refine lv_aload_n hx hb dX10_nodeChord_27 rfl (lv_at hl 0 rfl) ?_
      refine gtM_45 cx ok hw dX10_nodeChord_28 ?_
      refine lv_iadd hx hb dX10_nodeChord_31 ?_
      obtain ⟨g2, hm⟩ := gd_ok hm
      refine ldM_31 cx ok hw g2 dX10_nodeChord_32 ?_
      exact rtM_i cx hr hlk hw (pr_some hm) dX10_nodeChord_33
    · have hm := if_f c1 hm
      refine lv_iconst (v := (-1 : Int32)) hx hb dX10_nodeChord_9 (by decide) ?_
      refine lv_goto (tgt := 33) hx hb dX10_nodeChord_10 (by decide) ?_
      exact rtM_i cx hr hlk hw (pr_some hm) dX10_nodeChord_33
  exact goal0 _ _ hw
theorem cwM_nodeChord {R : Room} {s : State} {args : Array Value} (h : ∀ w ∈ wA, w.before args s = true) (hR : rmM_nodeChord.frames + 1 ≤ R.frames ∧ 8 + (1 + 11) + rmM_nodeChord.locals ≤ R.locals) : CallW R s args RX10 RX10 271 yX10_nodeChord cX10_nodeChord 1 (some .int) (wz yX10_nodeChord cX10_nodeChord 1 (some .int)) rmM_nodeChord 0 0 0 := cwV 0 h (gdV k_1115 k_1117 ks_74 k_11 k_1118) rfl rfl rfl (by decide +kernel) hR
/-! public int node(int, int, int);: writes, loops -/
def M_node_b65 (n : Nat) (σ : St) (x3 : Int32) (x4 : Int32) : Option (Int32 × St) :=
  if x4 = 0 then
    some ((-1 : Int32), σ)
  else
    if x3 = 0 then
      some ((σ.1 47 0), σ)
    else
      if x3 = (1 : Int32) then
        some ((σ.1 45 0), σ)
      else
        if x3 = (2 : Int32) then
          some ((σ.1 46 0), σ)
        else
          bp (M_nodeChord σ) fun r6 =>
          some (r6, σ)
def M_node_l42 (n : Nat) : Nat → St → Int32 → Int32 → Int32 → Int32 → Option (Int32 × St)
  | 0, _, _, _, _, _ => none
  | f + 1, σ, x2, x3, x4, x5 =>
    if x2 ≤ x5 then
      M_node_b65 n σ x3 x4
    else
      if x4 = 0 then
        M_node_b65 n σ x3 x4
      else
        bd (M_next σ) fun r4 σ5 =>
        lt (x5 + (1 : Int32)) fun x5_6 =>
        (M_node_l42 n f) σ5 x2 x3 r4 x5_6
def M_node (n : Nat) (σ0 : St) (x1 : Int32) (x2 : Int32) (x3 : Int32) : Option (Int32 × St) :=
  lt (sI σ0 0 0 (0 : Int32)) fun σ1 =>
  bp (M_noReading σ1 x1) fun r4 =>
  if r4 = 0 then
    if x2 < 0 then
      some ((-1 : Int32), σ1)
    else
      if x3 < 0 then
        some ((-1 : Int32), σ1)
      else
        if x3 ≤ (3 : Int32) then
          bp (M_begin σ1 x1) fun σ10 =>
          bd (M_next σ10) fun r12 σ13 =>
          M_node_l42 n n σ13 x2 x3 r12 (0 : Int32)
        else
          some ((-1 : Int32), σ1)
  else
    some ((-1 : Int32), σ1)
abbrev rmM_node : Room := { frames := 4, cells := 0, slots := 0, locals := 83 }
set_option maxHeartbeats 4000000 in
set_option maxRecDepth 100000 in
theorem cM_node (l : Launch) (E : Ev) (n : Nat) (sz : Nat) (σ0 σ' : St) (x1 : Int32) (x2 : Int32) (x3 : Int32) (r : Int32) (hm : M_node n σ0 x1 x2 x3 = some (r, σ')) : Met l yX10_node (wz yX10_node cX10_node 6 (some .int)) rmM_node (PwM E [.ref (E.2.2 1000), .int x1, .int x2, .int x3] σ0 sz) (QiM E σ0 σ' sz r) 0 0 (va_A (wldM E σ0) sz) := by
  refine enM (by decide) rfl (Nat.le_of_ble_eq_true rfl) (fun p e s m args below meth c cx hr hlk hml hsz ok hw ls hl => ?_)
  have hx := cx.1
  have hb := cx.2.1
  have hA9 := cx.2.2.2
  have hA : ∀ q, s.heap.size ≤ q → (va_A (wldM E σ0) sz) q := fun q h => Or.inr (by rw [← hsz]; exact h)
  have w_65 : ∀ (σ : St) (x3 : Int32) (x4 : Int32) (H : Heap) (locs : List Loc) (ls : Array Slot), wsM E σ (va_A (wldM E σ0) sz) s H locs → lv_has ls 6 [(0, .ref (E.2.2 1000)), (3, .int x3), (4, .int x4)] → M_node_b65 n σ x3 x4 = some (r, σ') → W p l e rmM_node s m args below meth c H locs 0 0 (MQ below (QiM E σ0 σ' sz r) args s 0 0 (va_A (wldM E σ0) sz)) (F0 m 65 ls []) := by
    intro σ x3 x4 H locs ls hw hl hm
    unfold M_node_b65 at hm
    refine lv_iload hx hb dX10_node_65 (lv_at hl 2 rfl) ?_
    refine lv_if_ne (tgt := 72) hx hb dX10_node_67 (by decide) (fun c1 => ?_) (fun c1 => ?_)
    · have hm := if_f c1 hm
      refine lv_iload_n hx hb dX10_node_72 rfl (lv_at hl 1 rfl) ?_
      refine lv_if_ne (tgt := 83) hx hb dX10_node_73 (by decide) (fun c2 => ?_) (fun c2 => ?_)
      · have hm := if_f c2 hm
        refine lv_iload_n hx hb dX10_node_83 rfl (lv_at hl 1 rfl) ?_
        refine lv_iconst (v := (1 : Int32)) hx hb dX10_node_84 (by decide) ?_
        refine lv_icmp_ne (tgt := 95) hx hb dX10_node_85 (by decide) (fun c3 => ?_) (fun c3 => ?_)
        · have hm := if_f c3 hm
          refine lv_iload_n hx hb dX10_node_95 rfl (lv_at hl 1 rfl) ?_
          refine lv_iconst (v := (2 : Int32)) hx hb dX10_node_96 (by decide) ?_
          refine lv_icmp_ne (tgt := 107) hx hb dX10_node_97 (by decide) (fun c4 => ?_) (fun c4 => ?_)
          · have hm := if_f c4 hm
            refine lv_aload_n hx hb dX10_node_107 rfl (lv_at hl 0 rfl) ?_
            obtain ⟨r6, h5, hm⟩ := bp_ok hm
            refine clV_Mi (As := []) (rest := []) cx hml hl.1 ok hw hA (cM_nodeChord l E _ σ r6 h5) (cwM_nodeChord hA9 ⟨Nat.le_of_ble_eq_true rfl, Nat.le_of_ble_eq_true rfl⟩) rfl rfl (Nat.le_of_ble_eq_true rfl) dX10_node_108 (fun H locs hw => ?_)
            exact rtM_i cx hr hlk hw hm dX10_node_111
          · have hm := if_t c4 hm
            refine lv_aload_n hx hb dX10_node_100 rfl (lv_at hl 0 rfl) ?_
            refine gtM_46 cx ok hw dX10_node_101 ?_
            refine lv_goto (tgt := 111) hx hb dX10_node_104 (by decide) ?_
            exact rtM_i cx hr hlk hw hm dX10_node_111
        · have hm := if_t c3 hm
          refine lv_aload_n hx hb dX10_node_88 rfl (lv_at hl 0 rfl) ?_
          refine gtM_45 cx ok hw dX10_node_89 ?_
          refine lv_goto (tgt := 111) hx hb dX10_node_92 (by decide) ?_
          exact rtM_i cx hr hlk hw hm dX10_node_111
      · have hm := if_t c2 hm
        refine lv_aload_n hx hb dX10_node_76 rfl (lv_at hl 0 rfl) ?_
        refine gtM_47 cx ok hw dX10_node_77 ?_
        refine lv_goto (tgt := 111) hx hb dX10_node_80 (by decide) ?_
        exact rtM_i cx hr hlk hw hm dX10_node_111
    · have hm := if_t c1 hm
      refine lv_iconst (v := (-1 : Int32)) hx hb dX10_node_70 (by decide) ?_
      exact rtM_i cx hr hlk hw hm dX10_node_71
  have w_42 : ∀ (f : Nat), ∀ (σ : St) (x2 : Int32) (x3 : Int32) (x4 : Int32) (x5 : Int32) (H : Heap) (locs : List Loc) (ls : Array Slot), wsM E σ (va_A (wldM E σ0) sz) s H locs → lv_has ls 6 [(0, .ref (E.2.2 1000)), (2, .int x2), (3, .int x3), (4, .int x4), (5, .int x5)] → M_node_l42 n f σ x2 x3 x4 x5 = some (r, σ') → W p l e rmM_node s m args below meth c H locs 0 0 (MQ below (QiM E σ0 σ' sz r) args s 0 0 (va_A (wldM E σ0) sz)) (F0 m 42 ls []) := by
    intro f
    induction f with
    | zero =>
      intro σ x2 x3 x4 x5 H locs ls hw hl hm
      rw [M_node_l42] at hm
      cases hm
    | succ f ih =>
      intro σ x2 x3 x4 x5 H locs ls hw hl hm
      rw [M_node_l42] at hm
      refine lv_iload hx hb dX10_node_42 (lv_at hl 4 rfl) ?_
      refine lv_iload_n hx hb dX10_node_44 rfl (lv_at hl 1 rfl) ?_
      refine lv_icmp_ge (tgt := 65) hx hb dX10_node_45 (by decide) (fun c1 => ?_) (fun c1 => ?_)
      · have hm := if_t c1 hm
        exact w_65 σ x3 x4 H locs ls hw (lv_sub hl [0, 2, 3] rfl) hm
      · have hm := if_f c1 hm
        refine lv_iload hx hb dX10_node_48 (lv_at hl 3 rfl) ?_
        refine lv_if_eq (tgt := 65) hx hb dX10_node_50 (by decide) (fun c2 => ?_) (fun c2 => ?_)
        · have hm := if_t c2 hm
          exact w_65 σ x3 x4 H locs ls hw (lv_sub hl [0, 2, 3] rfl) hm
        · have hm := if_f c2 hm
          refine lv_aload_n hx hb dX10_node_53 rfl (lv_at hl 0 rfl) ?_
          obtain ⟨r4, σ5, h3, hm⟩ := bd_ok hm
          refine clV_Mi (As := []) (rest := []) cx hml hl.1 ok hw hA (cM_next l E _ σ σ5 r4 h3) (cwM_next hA9 ⟨Nat.le_of_ble_eq_true rfl, Nat.le_of_ble_eq_true rfl⟩) rfl rfl (Nat.le_of_ble_eq_true rfl) dX10_node_54 (fun H locs hw => ?_)
          refine lv_istore (lv' := [(4, .int r4), (0, .ref (E.2.2 1000)), (2, .int x2), (3, .int x3), (5, .int x5)]) hx hb dX10_node_57 hl (by decide) rfl (fun ls hl => ?_)
          obtain ⟨x5_6, e7, hm⟩ := lt_ok hm
          refine lv_iinc (v := x5_6) (lv' := [(5, .int x5_6), (4, .int r4), (0, .ref (E.2.2 1000)), (2, .int x2), (3, .int x3)]) hx hb dX10_node_59 hl (k := 4) rfl (by rw [e7]; rfl) (by decide) rfl (fun ls hl => ?_)
          refine lv_goto (tgt := 42) hx hb dX10_node_62 (by decide) ?_
          exact ih σ5 x2 x3 r4 x5_6 H locs ls hw (lv_sub hl [2, 3, 4, 1, 0] rfl) hm
  have hl : lv_has ls 6 [(0, .ref (E.2.2 1000)), (1, .int x1), (2, .int x2), (3, .int x3)] := hl
  unfold M_node at hm
  have goal0 : ∀ (H : Heap) (locs : List Loc), wsM E σ0 (va_A (wldM E σ0) sz) s H locs → W p l e rmM_node s m args below meth c H locs 0 0 (MQ below (QiM E σ0 σ' sz r) args s 0 0 (va_A (wldM E σ0) sz)) (F0 m 0 ls []) := by
    intro H locs hw
    refine lv_aload_n hx hb dX10_node_0 rfl (lv_at hl 0 rfl) ?_
    refine lv_iconst (v := (0 : Int32)) hx hb dX10_node_1 (by decide) ?_
    refine ptM_0 cx ok hw dX10_node_2 (fun H locs hw => ?_)
    obtain ⟨σ1, e2, hm⟩ := lt_ok hm
    have hw := wsM_eq e2 hw
    refine lv_aload_n hx hb dX10_node_5 rfl (lv_at hl 0 rfl) ?_
    refine lv_iload_n hx hb dX10_node_6 rfl (lv_at hl 1 rfl) ?_
    obtain ⟨r4, h3, hm⟩ := bp_ok hm
    refine clV_Mi (As := [.int x1]) (rest := []) cx hml hl.1 ok hw hA (cM_noReading l E _ σ1 x1 r4 h3) (cwM_noReading hA9 ⟨Nat.le_of_ble_eq_true rfl, Nat.le_of_ble_eq_true rfl⟩) rfl rfl (Nat.le_of_ble_eq_true rfl) dX10_node_7 (fun H locs hw => ?_)
    refine lv_if_ne (tgt := 26) hx hb dX10_node_10 (by decide) (fun c5 => ?_) (fun c5 => ?_)
    · have hm := if_f c5 hm
      refine lv_iconst (v := (-1 : Int32)) hx hb dX10_node_26 (by decide) ?_
      exact rtM_i cx hr hlk hw hm dX10_node_27
    · have hm := if_t c5 hm
      refine lv_iload_n hx hb dX10_node_13 rfl (lv_at hl 2 rfl) ?_
      refine lv_if_lt (tgt := 26) hx hb dX10_node_14 (by decide) (fun c6 => ?_) (fun c6 => ?_)
      · have hm := if_t c6 hm
        refine lv_iconst (v := (-1 : Int32)) hx hb dX10_node_26 (by decide) ?_
        exact rtM_i cx hr hlk hw hm dX10_node_27
      · have hm := if_f c6 hm
        refine lv_iload_n hx hb dX10_node_17 rfl (lv_at hl 3 rfl) ?_
        refine lv_if_lt (tgt := 26) hx hb dX10_node_18 (by decide) (fun c7 => ?_) (fun c7 => ?_)
        · have hm := if_t c7 hm
          refine lv_iconst (v := (-1 : Int32)) hx hb dX10_node_26 (by decide) ?_
          exact rtM_i cx hr hlk hw hm dX10_node_27
        · have hm := if_f c7 hm
          refine lv_iload_n hx hb dX10_node_21 rfl (lv_at hl 3 rfl) ?_
          refine lv_iconst (v := (3 : Int32)) hx hb dX10_node_22 (by decide) ?_
          refine lv_icmp_le (tgt := 28) hx hb dX10_node_23 (by decide) (fun c8 => ?_) (fun c8 => ?_)
          · have hm := if_t c8 hm
            refine lv_aload_n hx hb dX10_node_28 rfl (lv_at hl 0 rfl) ?_
            refine lv_iload_n hx hb dX10_node_29 rfl (lv_at hl 1 rfl) ?_
            obtain ⟨σ10, h9, hm⟩ := bp_ok hm
            refine clV_Mv (As := [.int x1]) (rest := []) cx hml hl.1 ok hw hA (cM_begin l E _ σ1 σ10 x1 h9) (cwM_begin hA9 ⟨Nat.le_of_ble_eq_true rfl, Nat.le_of_ble_eq_true rfl⟩) rfl rfl (Nat.le_of_ble_eq_true rfl) dX10_node_30 (fun H locs hw => ?_)
            refine lv_aload_n hx hb dX10_node_33 rfl (lv_at hl 0 rfl) ?_
            obtain ⟨r12, σ13, h11, hm⟩ := bd_ok hm
            refine clV_Mi (As := []) (rest := []) cx hml hl.1 ok hw hA (cM_next l E _ σ10 σ13 r12 h11) (cwM_next hA9 ⟨Nat.le_of_ble_eq_true rfl, Nat.le_of_ble_eq_true rfl⟩) rfl rfl (Nat.le_of_ble_eq_true rfl) dX10_node_34 (fun H locs hw => ?_)
            refine lv_istore (lv' := [(4, .int r12), (0, .ref (E.2.2 1000)), (1, .int x1), (2, .int x2), (3, .int x3)]) hx hb dX10_node_37 hl (by decide) rfl (fun ls hl => ?_)
            refine lv_iconst (v := (0 : Int32)) hx hb dX10_node_39 (by decide) ?_
            refine lv_istore (lv' := [(5, .int (0 : Int32)), (4, .int r12), (0, .ref (E.2.2 1000)), (1, .int x1), (2, .int x2), (3, .int x3)]) hx hb dX10_node_40 hl (by decide) rfl (fun ls hl => ?_)
            exact w_42 n σ13 x2 x3 r12 (0 : Int32) H locs ls hw (lv_sub hl [2, 4, 5, 1, 0] rfl) hm
          · have hm := if_f c8 hm
            refine lv_iconst (v := (-1 : Int32)) hx hb dX10_node_26 (by decide) ?_
            exact rtM_i cx hr hlk hw hm dX10_node_27
  exact goal0 _ _ hw

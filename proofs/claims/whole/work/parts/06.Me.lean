/-! public int nodes(int);: writes, loops -/
def M_nodes_l22 (n : Nat) : Nat → St → Int32 → Option (Int32 × St)
  | 0, _, _ => none
  | f + 1, σ, x2 =>
    bd (M_next σ) fun r2 σ3 =>
    if r2 = 0 then
      some (x2, σ3)
    else
      lt (x2 + (1 : Int32)) fun x2_5 =>
      (M_nodes_l22 n f) σ3 x2_5
def M_nodes (n : Nat) (σ0 : St) (x1 : Int32) : Option (Int32 × St) :=
  lt (sI σ0 0 0 (0 : Int32)) fun σ1 =>
  bp (M_noReading σ1 x1) fun r4 =>
  if r4 = 0 then
    bp (M_begin σ1 x1) fun σ7 =>
    M_nodes_l22 n n σ7 (0 : Int32)
  else
    some ((-1 : Int32), σ1)
abbrev rmM_nodes : Room := { frames := 4, cells := 0, slots := 0, locals := 83 }
set_option maxHeartbeats 4000000 in
set_option maxRecDepth 100000 in
theorem cM_nodes (l : Launch) (E : Ev) (n : Nat) (sz : Nat) (σ0 σ' : St) (x1 : Int32) (r : Int32) (hm : M_nodes n σ0 x1 = some (r, σ')) : Met l yX10_nodes (wz yX10_nodes cX10_nodes 3 (some .int)) rmM_nodes (PwM E [.ref (E.2.2 1000), .int x1] σ0 sz) (QiM E σ0 σ' sz r) 0 0 (va_A (wldM E σ0) sz) := by
  refine enM (by decide) rfl (Nat.le_of_ble_eq_true rfl) (fun p e s m args below meth c cx hr hlk hml hsz ok hw ls hl => ?_)
  have hx := cx.1
  have hb := cx.2.1
  have hA9 := cx.2.2.2
  have hA : ∀ q, s.heap.size ≤ q → (va_A (wldM E σ0) sz) q := fun q h => Or.inr (by rw [← hsz]; exact h)
  have w_22 : ∀ (f : Nat), ∀ (σ : St) (x2 : Int32) (H : Heap) (locs : List Loc) (ls : Array Slot), wsM E σ (va_A (wldM E σ0) sz) s H locs → lv_has ls 3 [(0, .ref (E.2.2 1000)), (2, .int x2)] → M_nodes_l22 n f σ x2 = some (r, σ') → W p l e rmM_nodes s m args below meth c H locs 0 0 (MQ below (QiM E σ0 σ' sz r) args s 0 0 (va_A (wldM E σ0) sz)) (F0 m 22 ls []) := by
    intro f
    induction f with
    | zero =>
      intro σ x2 H locs ls hw hl hm
      rw [M_nodes_l22] at hm
      cases hm
    | succ f ih =>
      intro σ x2 H locs ls hw hl hm
      rw [M_nodes_l22] at hm
      refine lv_aload_n hx hb dX10_nodes_22 rfl (lv_at hl 0 rfl) ?_
      obtain ⟨r2, σ3, h1, hm⟩ := bd_ok hm
      refine clV_Mi (As := []) (rest := []) cx hml hl.1 ok hw hA (cM_next l E _ σ σ3 r2 h1) (cwM_next hA9 ⟨Nat.le_of_ble_eq_true rfl, Nat.le_of_ble_eq_true rfl⟩) rfl rfl (Nat.le_of_ble_eq_true rfl) dX10_nodes_23 (fun H locs hw => ?_)
      refine lv_if_eq (tgt := 35) hx hb dX10_nodes_26 (by decide) (fun c4 => ?_) (fun c4 => ?_)
      · have hm := if_t c4 hm
        refine lv_iload_n hx hb dX10_nodes_35 rfl (lv_at hl 1 rfl) ?_
        exact rtM_i cx hr hlk hw hm dX10_nodes_36
      · have hm := if_f c4 hm
        obtain ⟨x2_5, e6, hm⟩ := lt_ok hm
        refine lv_iinc (v := x2_5) (lv' := [(2, .int x2_5), (0, .ref (E.2.2 1000))]) hx hb dX10_nodes_29 hl (k := 1) rfl (by rw [e6]; rfl) (by decide) rfl (fun ls hl => ?_)
        refine lv_goto (tgt := 22) hx hb dX10_nodes_32 (by decide) ?_
        exact ih σ3 x2_5 H locs ls hw (lv_sub hl [1, 0] rfl) hm
  have hl : lv_has ls 3 [(0, .ref (E.2.2 1000)), (1, .int x1)] := hl
  unfold M_nodes at hm
  have goal0 : ∀ (H : Heap) (locs : List Loc), wsM E σ0 (va_A (wldM E σ0) sz) s H locs → W p l e rmM_nodes s m args below meth c H locs 0 0 (MQ below (QiM E σ0 σ' sz r) args s 0 0 (va_A (wldM E σ0) sz)) (F0 m 0 ls []) := by
    intro H locs hw
    refine lv_aload_n hx hb dX10_nodes_0 rfl (lv_at hl 0 rfl) ?_
    refine lv_iconst (v := (0 : Int32)) hx hb dX10_nodes_1 (by decide) ?_
    refine ptM_0 cx ok hw dX10_nodes_2 (fun H locs hw => ?_)
    obtain ⟨σ1, e2, hm⟩ := lt_ok hm
    have hw := wsM_eq e2 hw
    refine lv_aload_n hx hb dX10_nodes_5 rfl (lv_at hl 0 rfl) ?_
    refine lv_iload_n hx hb dX10_nodes_6 rfl (lv_at hl 1 rfl) ?_
    obtain ⟨r4, h3, hm⟩ := bp_ok hm
    refine clV_Mi (As := [.int x1]) (rest := []) cx hml hl.1 ok hw hA (cM_noReading l E _ σ1 x1 r4 h3) (cwM_noReading hA9 ⟨Nat.le_of_ble_eq_true rfl, Nat.le_of_ble_eq_true rfl⟩) rfl rfl (Nat.le_of_ble_eq_true rfl) dX10_nodes_7 (fun H locs hw => ?_)
    refine lv_if_eq (tgt := 15) hx hb dX10_nodes_10 (by decide) (fun c5 => ?_) (fun c5 => ?_)
    · have hm := if_t c5 hm
      refine lv_aload_n hx hb dX10_nodes_15 rfl (lv_at hl 0 rfl) ?_
      refine lv_iload_n hx hb dX10_nodes_16 rfl (lv_at hl 1 rfl) ?_
      obtain ⟨σ7, h6, hm⟩ := bp_ok hm
      refine clV_Mv (As := [.int x1]) (rest := []) cx hml hl.1 ok hw hA (cM_begin l E _ σ1 σ7 x1 h6) (cwM_begin hA9 ⟨Nat.le_of_ble_eq_true rfl, Nat.le_of_ble_eq_true rfl⟩) rfl rfl (Nat.le_of_ble_eq_true rfl) dX10_nodes_17 (fun H locs hw => ?_)
      refine lv_iconst (v := (0 : Int32)) hx hb dX10_nodes_20 (by decide) ?_
      refine lv_istore_n (lv' := [(2, .int (0 : Int32)), (0, .ref (E.2.2 1000)), (1, .int x1)]) hx hb dX10_nodes_21 rfl hl (by decide) rfl (fun ls hl => ?_)
      exact w_22 n σ7 (0 : Int32) H locs ls hw (lv_sub hl [1, 0] rfl) hm
    · have hm := if_f c5 hm
      refine lv_iconst (v := (-1 : Int32)) hx hb dX10_nodes_13 (by decide) ?_
      exact rtM_i cx hr hlk hw hm dX10_nodes_14
  exact goal0 _ _ hw
/-! private int symbolAt(int, int);: writes, loops -/
def M_symbolAt_l5 (n : Nat) : Nat → St → Int32 → Option (Int32 × St)
  | 0, _, _ => none
  | f + 1, σ, x2 =>
    bd (M_next σ) fun r2 σ3 =>
    if r2 = 0 then
      some ((-1 : Int32), σ3)
    else
      if (σ3.1 44 0) < (100 : Int32) then
        (M_symbolAt_l5 n f) σ3 x2
      else
        if (σ3.1 45 0) = x2 then
          some (((σ3.1 44 0) - (100 : Int32)), σ3)
        else
          (M_symbolAt_l5 n f) σ3 x2
def M_symbolAt (n : Nat) (σ0 : St) (x1 : Int32) (x2 : Int32) : Option (Int32 × St) :=
  bp (M_begin σ0 x1) fun σ2 =>
  M_symbolAt_l5 n n σ2 x2
abbrev rmM_symbolAt : Room := { frames := 2, cells := 0, slots := 0, locals := 49 }
set_option maxHeartbeats 4000000 in
set_option maxRecDepth 100000 in
theorem cM_symbolAt (l : Launch) (E : Ev) (n : Nat) (sz : Nat) (σ0 σ' : St) (x1 : Int32) (x2 : Int32) (r : Int32) (hm : M_symbolAt n σ0 x1 x2 = some (r, σ')) : Met l yX10_symbolAt (wz yX10_symbolAt cX10_symbolAt 3 (some .int)) rmM_symbolAt (PwM E [.ref (E.2.2 1000), .int x1, .int x2] σ0 sz) (QiM E σ0 σ' sz r) 0 0 (va_A (wldM E σ0) sz) := by
  refine enM (by decide) rfl (Nat.le_of_ble_eq_true rfl) (fun p e s m args below meth c cx hr hlk hml hsz ok hw ls hl => ?_)
  have hx := cx.1
  have hb := cx.2.1
  have hA9 := cx.2.2.2
  have hA : ∀ q, s.heap.size ≤ q → (va_A (wldM E σ0) sz) q := fun q h => Or.inr (by rw [← hsz]; exact h)
  have w_5 : ∀ (f : Nat), ∀ (σ : St) (x2 : Int32) (H : Heap) (locs : List Loc) (ls : Array Slot), wsM E σ (va_A (wldM E σ0) sz) s H locs → lv_has ls 3 [(0, .ref (E.2.2 1000)), (2, .int x2)] → M_symbolAt_l5 n f σ x2 = some (r, σ') → W p l e rmM_symbolAt s m args below meth c H locs 0 0 (MQ below (QiM E σ0 σ' sz r) args s 0 0 (va_A (wldM E σ0) sz)) (F0 m 5 ls []) := by
    intro f
    induction f with
    | zero =>
      intro σ x2 H locs ls hw hl hm
      rw [M_symbolAt_l5] at hm
      cases hm
    | succ f ih =>
      intro σ x2 H locs ls hw hl hm
      rw [M_symbolAt_l5] at hm
      refine lv_aload_n hx hb dX10_symbolAt_5 rfl (lv_at hl 0 rfl) ?_
      obtain ⟨r2, σ3, h1, hm⟩ := bd_ok hm
      refine clV_Mi (As := []) (rest := []) cx hml hl.1 ok hw hA (cM_next l E _ σ σ3 r2 h1) (cwM_next hA9 ⟨Nat.le_of_ble_eq_true rfl, Nat.le_of_ble_eq_true rfl⟩) rfl rfl (Nat.le_of_ble_eq_true rfl) dX10_symbolAt_6 (fun H locs hw => ?_)
      refine lv_if_eq (tgt := 37) hx hb dX10_symbolAt_9 (by decide) (fun c4 => ?_) (fun c4 => ?_)
      · have hm := if_t c4 hm
        refine lv_iconst (v := (-1 : Int32)) hx hb dX10_symbolAt_37 (by decide) ?_
        exact rtM_i cx hr hlk hw hm dX10_symbolAt_38
      · have hm := if_f c4 hm
        refine lv_aload_n hx hb dX10_symbolAt_12 rfl (lv_at hl 0 rfl) ?_
        refine gtM_44 cx ok hw dX10_symbolAt_13 ?_
        refine lv_bipush (v := (100 : Int32)) hx hb dX10_symbolAt_16 (by decide) ?_
        refine lv_icmp_lt (tgt := 5) hx hb dX10_symbolAt_18 (by decide) (fun c5 => ?_) (fun c5 => ?_)
        · have hm := if_t c5 hm
          exact ih σ3 x2 H locs ls hw (lv_sub hl [0, 1] rfl) hm
        · have hm := if_f c5 hm
          refine lv_aload_n hx hb dX10_symbolAt_21 rfl (lv_at hl 0 rfl) ?_
          refine gtM_45 cx ok hw dX10_symbolAt_22 ?_
          refine lv_iload_n hx hb dX10_symbolAt_25 rfl (lv_at hl 1 rfl) ?_
          refine lv_icmp_ne (tgt := 5) hx hb dX10_symbolAt_26 (by decide) (fun c6 => ?_) (fun c6 => ?_)
          · have hm := if_f c6 hm
            exact ih σ3 x2 H locs ls hw (lv_sub hl [0, 1] rfl) hm
          · have hm := if_t c6 hm
            refine lv_aload_n hx hb dX10_symbolAt_29 rfl (lv_at hl 0 rfl) ?_
            refine gtM_44 cx ok hw dX10_symbolAt_30 ?_
            refine lv_bipush (v := (100 : Int32)) hx hb dX10_symbolAt_33 (by decide) ?_
            refine lv_isub hx hb dX10_symbolAt_35 ?_
            exact rtM_i cx hr hlk hw hm dX10_symbolAt_36
  have hl : lv_has ls 3 [(0, .ref (E.2.2 1000)), (1, .int x1), (2, .int x2)] := hl
  unfold M_symbolAt at hm
  have goal0 : ∀ (H : Heap) (locs : List Loc), wsM E σ0 (va_A (wldM E σ0) sz) s H locs → W p l e rmM_symbolAt s m args below meth c H locs 0 0 (MQ below (QiM E σ0 σ' sz r) args s 0 0 (va_A (wldM E σ0) sz)) (F0 m 0 ls []) := by
    intro H locs hw
    refine lv_aload_n hx hb dX10_symbolAt_0 rfl (lv_at hl 0 rfl) ?_
    refine lv_iload_n hx hb dX10_symbolAt_1 rfl (lv_at hl 1 rfl) ?_
    obtain ⟨σ2, h1, hm⟩ := bp_ok hm
    refine clV_Mv (As := [.int x1]) (rest := []) cx hml hl.1 ok hw hA (cM_begin l E _ σ0 σ2 x1 h1) (cwM_begin hA9 ⟨Nat.le_of_ble_eq_true rfl, Nat.le_of_ble_eq_true rfl⟩) rfl rfl (Nat.le_of_ble_eq_true rfl) dX10_symbolAt_2 (fun H locs hw => ?_)
    exact w_5 n σ2 x2 H locs ls hw (lv_sub hl [0, 2] rfl) hm
  exact goal0 _ _ hw
theorem cwM_symbolAt {R : Room} {s : State} {args : Array Value} (h : ∀ w ∈ wA, w.before args s = true) (hR : rmM_symbolAt.frames + 1 ≤ R.frames ∧ 8 + (3 + 11) + rmM_symbolAt.locals ≤ R.locals) : CallW R s args RX10 RX10 274 yX10_symbolAt cX10_symbolAt 3 (some .int) (wz yX10_symbolAt cX10_symbolAt 3 (some .int)) rmM_symbolAt 0 0 2 := cwV 2 h (gdV k_1127 k_1129 ks_75 k_11 k_1130) rfl rfl rfl (by decide +kernel) hR
/-! public int chord(int, int);: writes -/
def M_chord (n : Nat) (σ0 : St) (x1 : Int32) (x2 : Int32) : Option (Int32 × St) :=
  lt (sI σ0 0 0 (0 : Int32)) fun σ1 =>
  bp (M_noReading σ1 x1) fun r4 =>
  if r4 = 0 then
    if x2 < 0 then
      some ((-1 : Int32), σ1)
    else
      if x2 < (σ1.1 24 0) then
        bd (M_symbolAt n σ1 x1 x2) fun r9 σ10 =>
        gd (((24 : Int32) * r9) + x2) 1920 <|
        some ((σ10.1 31 (((24 : Int32) * r9) + x2).toNatClampNeg), σ10)
      else
        some ((-1 : Int32), σ1)
  else
    some ((-1 : Int32), σ1)
abbrev rmM_chord : Room := { frames := 4, cells := 0, slots := 0, locals := 83 }
set_option maxHeartbeats 4000000 in
set_option maxRecDepth 100000 in
theorem cM_chord (l : Launch) (E : Ev) (n : Nat) (sz : Nat) (σ0 σ' : St) (x1 : Int32) (x2 : Int32) (r : Int32) (hm : M_chord n σ0 x1 x2 = some (r, σ')) : Met l yX10_chord (wz yX10_chord cX10_chord 3 (some .int)) rmM_chord (PwM E [.ref (E.2.2 1000), .int x1, .int x2] σ0 sz) (QiM E σ0 σ' sz r) 0 0 (va_A (wldM E σ0) sz) := by
  refine enM (by decide) rfl (Nat.le_of_ble_eq_true rfl) (fun p e s m args below meth c cx hr hlk hml hsz ok hw ls hl => ?_)
  have hx := cx.1
  have hb := cx.2.1
  have hA9 := cx.2.2.2
  have hA : ∀ q, s.heap.size ≤ q → (va_A (wldM E σ0) sz) q := fun q h => Or.inr (by rw [← hsz]; exact h)
  have hl : lv_has ls 3 [(0, .ref (E.2.2 1000)), (1, .int x1), (2, .int x2)] := hl
  unfold M_chord at hm
  have goal0 : ∀ (H : Heap) (locs : List Loc), wsM E σ0 (va_A (wldM E σ0) sz) s H locs → W p l e rmM_chord s m args below meth c H locs 0 0 (MQ below (QiM E σ0 σ' sz r) args s 0 0 (va_A (wldM E σ0) sz)) (F0 m 0 ls []) := by
    intro H locs hw
    refine lv_aload_n hx hb dX10_chord_0 rfl (lv_at hl 0 rfl) ?_
    refine lv_iconst (v := (0 : Int32)) hx hb dX10_chord_1 (by decide) ?_
    refine ptM_0 cx ok hw dX10_chord_2 (fun H locs hw => ?_)
    obtain ⟨σ1, e2, hm⟩ := lt_ok hm
    have hw := wsM_eq e2 hw
    refine lv_aload_n hx hb dX10_chord_5 rfl (lv_at hl 0 rfl) ?_
    refine lv_iload_n hx hb dX10_chord_6 rfl (lv_at hl 1 rfl) ?_
    obtain ⟨r4, h3, hm⟩ := bp_ok hm
    refine clV_Mi (As := [.int x1]) (rest := []) cx hml hl.1 ok hw hA (cM_noReading l E _ σ1 x1 r4 h3) (cwM_noReading hA9 ⟨Nat.le_of_ble_eq_true rfl, Nat.le_of_ble_eq_true rfl⟩) rfl rfl (Nat.le_of_ble_eq_true rfl) dX10_chord_7 (fun H locs hw => ?_)
    refine lv_if_ne (tgt := 25) hx hb dX10_chord_10 (by decide) (fun c5 => ?_) (fun c5 => ?_)
    · have hm := if_f c5 hm
      refine lv_iconst (v := (-1 : Int32)) hx hb dX10_chord_25 (by decide) ?_
      exact rtM_i cx hr hlk hw hm dX10_chord_26
    · have hm := if_t c5 hm
      refine lv_iload_n hx hb dX10_chord_13 rfl (lv_at hl 2 rfl) ?_
      refine lv_if_lt (tgt := 25) hx hb dX10_chord_14 (by decide) (fun c6 => ?_) (fun c6 => ?_)
      · have hm := if_t c6 hm
        refine lv_iconst (v := (-1 : Int32)) hx hb dX10_chord_25 (by decide) ?_
        exact rtM_i cx hr hlk hw hm dX10_chord_26
      · have hm := if_f c6 hm
        refine lv_iload_n hx hb dX10_chord_17 rfl (lv_at hl 2 rfl) ?_
        refine lv_aload_n hx hb dX10_chord_18 rfl (lv_at hl 0 rfl) ?_
        refine gtM_24 cx ok hw dX10_chord_19 ?_
        refine lv_icmp_lt (tgt := 27) hx hb dX10_chord_22 (by decide) (fun c7 => ?_) (fun c7 => ?_)
        · have hm := if_t c7 hm
          refine lv_aload_n hx hb dX10_chord_27 rfl (lv_at hl 0 rfl) ?_
          refine gtM_31 cx ok hw dX10_chord_28 ?_
          refine lv_bipush (v := (24 : Int32)) hx hb dX10_chord_31 (by decide) ?_
          refine lv_aload_n hx hb dX10_chord_33 rfl (lv_at hl 0 rfl) ?_
          refine lv_iload_n hx hb dX10_chord_34 rfl (lv_at hl 1 rfl) ?_
          refine lv_iload_n hx hb dX10_chord_35 rfl (lv_at hl 2 rfl) ?_
          obtain ⟨r9, σ10, h8, hm⟩ := bd_ok hm
          refine clV_Mi (As := [.int x1, .int x2]) (rest := [.int (24 : Int32), .ref (E.2.2 31)]) cx hml hl.1 ok hw hA (cM_symbolAt l E n _ σ1 σ10 x1 x2 r9 h8) (cwM_symbolAt hA9 ⟨Nat.le_of_ble_eq_true rfl, Nat.le_of_ble_eq_true rfl⟩) rfl rfl (Nat.le_of_ble_eq_true rfl) dX10_chord_36 (fun H locs hw => ?_)
          refine lv_imul hx hb dX10_chord_39 ?_
          refine lv_iload_n hx hb dX10_chord_40 rfl (lv_at hl 2 rfl) ?_
          refine lv_iadd hx hb dX10_chord_41 ?_
          obtain ⟨g11, hm⟩ := gd_ok hm
          refine ldM_31 cx ok hw g11 dX10_chord_42 ?_
          exact rtM_i cx hr hlk hw hm dX10_chord_43
        · have hm := if_f c7 hm
          refine lv_iconst (v := (-1 : Int32)) hx hb dX10_chord_25 (by decide) ?_
          exact rtM_i cx hr hlk hw hm dX10_chord_26
  exact goal0 _ _ hw
/-! public int cadence(int);: writes -/
def M_cadence_b85 (n : Nat) (σ : St) (x2 : Int32) (x3 : Int32) : Option (Int32 × St) :=
  if x2 = (5 : Int32) then
    some ((3 : Int32), σ)
  else
    if x2 = (6 : Int32) then
      if x3 = (5 : Int32) then
        some ((4 : Int32), σ)
      else
        some ((0 : Int32), σ)
    else
      some ((0 : Int32), σ)
def M_cadence_b56 (n : Nat) (σ : St) (x2 : Int32) (s0 : Int32) : Option (Int32 × St) :=
  if x2 = (1 : Int32) then
    if s0 = (5 : Int32) then
      some ((1 : Int32), σ)
    else
      if x2 = (1 : Int32) then
        if s0 = (4 : Int32) then
          some ((2 : Int32), σ)
        else
          M_cadence_b85 n σ x2 s0
      else
        M_cadence_b85 n σ x2 s0
  else
    if x2 = (1 : Int32) then
      if s0 = (4 : Int32) then
        some ((2 : Int32), σ)
      else
        M_cadence_b85 n σ x2 s0
    else
      M_cadence_b85 n σ x2 s0
def M_cadence (n : Nat) (σ0 : St) (x1 : Int32) : Option (Int32 × St) :=
  lt (sI σ0 0 0 (0 : Int32)) fun σ1 =>
  bp (M_noReading σ1 x1) fun r4 =>
  if r4 = 0 then
    bd (M_symbolAt n σ1 x1 ((σ1.1 24 0) - (1 : Int32))) fun r7 σ8 =>
    lt ((r7 / (10 : Int32))) fun x2_9 =>
    if (2 : Int32) ≤ (σ8.1 24 0) then
      bd (M_symbolAt n σ8 x1 ((σ8.1 24 0) - (2 : Int32))) fun r13 σ14 =>
      M_cadence_b56 n σ14 x2_9 (r13 / (10 : Int32))
    else
      M_cadence_b56 n σ8 x2_9 (0 : Int32)
  else
    some ((-1 : Int32), σ1)
abbrev rmM_cadence : Room := { frames := 4, cells := 0, slots := 0, locals := 83 }
set_option maxHeartbeats 4000000 in
set_option maxRecDepth 100000 in
theorem cM_cadence (l : Launch) (E : Ev) (n : Nat) (sz : Nat) (σ0 σ' : St) (x1 : Int32) (r : Int32) (hm : M_cadence n σ0 x1 = some (r, σ')) : Met l yX10_cadence (wz yX10_cadence cX10_cadence 4 (some .int)) rmM_cadence (PwM E [.ref (E.2.2 1000), .int x1] σ0 sz) (QiM E σ0 σ' sz r) 0 0 (va_A (wldM E σ0) sz) := by
  refine enM (by decide) rfl (Nat.le_of_ble_eq_true rfl) (fun p e s m args below meth c cx hr hlk hml hsz ok hw ls hl => ?_)
  have hx := cx.1
  have hb := cx.2.1
  have hA9 := cx.2.2.2
  have hA : ∀ q, s.heap.size ≤ q → (va_A (wldM E σ0) sz) q := fun q h => Or.inr (by rw [← hsz]; exact h)
  have w_85 : ∀ (σ : St) (x2 : Int32) (x3 : Int32) (H : Heap) (locs : List Loc) (ls : Array Slot), wsM E σ (va_A (wldM E σ0) sz) s H locs → lv_has ls 4 [(2, .int x2), (3, .int x3)] → M_cadence_b85 n σ x2 x3 = some (r, σ') → W p l e rmM_cadence s m args below meth c H locs 0 0 (MQ below (QiM E σ0 σ' sz r) args s 0 0 (va_A (wldM E σ0) sz)) (F0 m 85 ls []) := by
    intro σ x2 x3 H locs ls hw hl hm
    unfold M_cadence_b85 at hm
    refine lv_iload_n hx hb dX10_cadence_85 rfl (lv_at hl 0 rfl) ?_
    refine lv_iconst (v := (5 : Int32)) hx hb dX10_cadence_86 (by decide) ?_
    refine lv_icmp_ne (tgt := 94) hx hb dX10_cadence_87 (by decide) (fun c1 => ?_) (fun c1 => ?_)
    · have hm := if_f c1 hm
      refine lv_iload_n hx hb dX10_cadence_94 rfl (lv_at hl 0 rfl) ?_
      refine lv_bipush (v := (6 : Int32)) hx hb dX10_cadence_95 (by decide) ?_
      refine lv_icmp_ne (tgt := 109) hx hb dX10_cadence_97 (by decide) (fun c2 => ?_) (fun c2 => ?_)
      · have hm := if_f c2 hm
        refine lv_iconst (v := (0 : Int32)) hx hb dX10_cadence_109 (by decide) ?_
        exact rtM_i cx hr hlk hw hm dX10_cadence_110
      · have hm := if_t c2 hm
        refine lv_iload_n hx hb dX10_cadence_100 rfl (lv_at hl 1 rfl) ?_
        refine lv_iconst (v := (5 : Int32)) hx hb dX10_cadence_101 (by decide) ?_
        refine lv_icmp_ne (tgt := 109) hx hb dX10_cadence_102 (by decide) (fun c3 => ?_) (fun c3 => ?_)
        · have hm := if_f c3 hm
          refine lv_iconst (v := (0 : Int32)) hx hb dX10_cadence_109 (by decide) ?_
          exact rtM_i cx hr hlk hw hm dX10_cadence_110
        · have hm := if_t c3 hm
          refine lv_iconst (v := (4 : Int32)) hx hb dX10_cadence_105 (by decide) ?_
          refine lv_goto (tgt := 110) hx hb dX10_cadence_106 (by decide) ?_
          exact rtM_i cx hr hlk hw hm dX10_cadence_110
    · have hm := if_t c1 hm
      refine lv_iconst (v := (3 : Int32)) hx hb dX10_cadence_90 (by decide) ?_
      refine lv_goto (tgt := 110) hx hb dX10_cadence_91 (by decide) ?_
      exact rtM_i cx hr hlk hw hm dX10_cadence_110
  have w_56 : ∀ (σ : St) (x2 : Int32) (s0 : Int32) (H : Heap) (locs : List Loc) (ls : Array Slot), wsM E σ (va_A (wldM E σ0) sz) s H locs → lv_has ls 4 [(2, .int x2)] → M_cadence_b56 n σ x2 s0 = some (r, σ') → W p l e rmM_cadence s m args below meth c H locs 0 0 (MQ below (QiM E σ0 σ' sz r) args s 0 0 (va_A (wldM E σ0) sz)) (F0 m 56 ls [.int s0]) := by
    intro σ x2 s0 H locs ls hw hl hm
    unfold M_cadence_b56 at hm
    refine lv_istore_n (lv' := [(3, .int s0), (2, .int x2)]) hx hb dX10_cadence_56 rfl hl (by decide) rfl (fun ls hl => ?_)
    refine lv_iload_n hx hb dX10_cadence_57 rfl (lv_at hl 1 rfl) ?_
    refine lv_iconst (v := (1 : Int32)) hx hb dX10_cadence_58 (by decide) ?_
    refine lv_icmp_ne (tgt := 71) hx hb dX10_cadence_59 (by decide) (fun c1 => ?_) (fun c1 => ?_)
    · have hm := if_f c1 hm
      refine lv_iload_n hx hb dX10_cadence_71 rfl (lv_at hl 1 rfl) ?_
      refine lv_iconst (v := (1 : Int32)) hx hb dX10_cadence_72 (by decide) ?_
      refine lv_icmp_ne (tgt := 85) hx hb dX10_cadence_73 (by decide) (fun c2 => ?_) (fun c2 => ?_)
      · have hm := if_f c2 hm
        exact w_85 σ x2 s0 H locs ls hw (lv_sub hl [1, 0] rfl) hm
      · have hm := if_t c2 hm
        refine lv_iload_n hx hb dX10_cadence_76 rfl (lv_at hl 0 rfl) ?_
        refine lv_iconst (v := (4 : Int32)) hx hb dX10_cadence_77 (by decide) ?_
        refine lv_icmp_ne (tgt := 85) hx hb dX10_cadence_78 (by decide) (fun c3 => ?_) (fun c3 => ?_)
        · have hm := if_f c3 hm
          exact w_85 σ x2 s0 H locs ls hw (lv_sub hl [1, 0] rfl) hm
        · have hm := if_t c3 hm
          refine lv_iconst (v := (2 : Int32)) hx hb dX10_cadence_81 (by decide) ?_
          refine lv_goto (tgt := 110) hx hb dX10_cadence_82 (by decide) ?_
          exact rtM_i cx hr hlk hw hm dX10_cadence_110
    · have hm := if_t c1 hm
      refine lv_iload_n hx hb dX10_cadence_62 rfl (lv_at hl 0 rfl) ?_
      refine lv_iconst (v := (5 : Int32)) hx hb dX10_cadence_63 (by decide) ?_
      refine lv_icmp_ne (tgt := 71) hx hb dX10_cadence_64 (by decide) (fun c4 => ?_) (fun c4 => ?_)
      · have hm := if_f c4 hm
        refine lv_iload_n hx hb dX10_cadence_71 rfl (lv_at hl 1 rfl) ?_
        refine lv_iconst (v := (1 : Int32)) hx hb dX10_cadence_72 (by decide) ?_
        refine lv_icmp_ne (tgt := 85) hx hb dX10_cadence_73 (by decide) (fun c5 => ?_) (fun c5 => ?_)
        · have hm := if_f c5 hm
          exact w_85 σ x2 s0 H locs ls hw (lv_sub hl [1, 0] rfl) hm
        · have hm := if_t c5 hm
          refine lv_iload_n hx hb dX10_cadence_76 rfl (lv_at hl 0 rfl) ?_
          refine lv_iconst (v := (4 : Int32)) hx hb dX10_cadence_77 (by decide) ?_
          refine lv_icmp_ne (tgt := 85) hx hb dX10_cadence_78 (by decide) (fun c6 => ?_) (fun c6 => ?_)
          · have hm := if_f c6 hm
            exact w_85 σ x2 s0 H locs ls hw (lv_sub hl [1, 0] rfl) hm
          · have hm := if_t c6 hm
            refine lv_iconst (v := (2 : Int32)) hx hb dX10_cadence_81 (by decide) ?_
            refine lv_goto (tgt := 110) hx hb dX10_cadence_82 (by decide) ?_
            exact rtM_i cx hr hlk hw hm dX10_cadence_110
      · have hm := if_t c4 hm
        refine lv_iconst (v := (1 : Int32)) hx hb dX10_cadence_67 (by decide) ?_
        refine lv_goto (tgt := 110) hx hb dX10_cadence_68 (by decide) ?_
        exact rtM_i cx hr hlk hw hm dX10_cadence_110
  have hl : lv_has ls 4 [(0, .ref (E.2.2 1000)), (1, .int x1)] := hl
  unfold M_cadence at hm
  have goal0 : ∀ (H : Heap) (locs : List Loc), wsM E σ0 (va_A (wldM E σ0) sz) s H locs → W p l e rmM_cadence s m args below meth c H locs 0 0 (MQ below (QiM E σ0 σ' sz r) args s 0 0 (va_A (wldM E σ0) sz)) (F0 m 0 ls []) := by
    intro H locs hw
    refine lv_aload_n hx hb dX10_cadence_0 rfl (lv_at hl 0 rfl) ?_
    refine lv_iconst (v := (0 : Int32)) hx hb dX10_cadence_1 (by decide) ?_
    refine ptM_0 cx ok hw dX10_cadence_2 (fun H locs hw => ?_)
    obtain ⟨σ1, e2, hm⟩ := lt_ok hm
    have hw := wsM_eq e2 hw
    refine lv_aload_n hx hb dX10_cadence_5 rfl (lv_at hl 0 rfl) ?_
    refine lv_iload_n hx hb dX10_cadence_6 rfl (lv_at hl 1 rfl) ?_
    obtain ⟨r4, h3, hm⟩ := bp_ok hm
    refine clV_Mi (As := [.int x1]) (rest := []) cx hml hl.1 ok hw hA (cM_noReading l E _ σ1 x1 r4 h3) (cwM_noReading hA9 ⟨Nat.le_of_ble_eq_true rfl, Nat.le_of_ble_eq_true rfl⟩) rfl rfl (Nat.le_of_ble_eq_true rfl) dX10_cadence_7 (fun H locs hw => ?_)
    refine lv_if_eq (tgt := 15) hx hb dX10_cadence_10 (by decide) (fun c5 => ?_) (fun c5 => ?_)
    · have hm := if_t c5 hm
      refine lv_aload_n hx hb dX10_cadence_15 rfl (lv_at hl 0 rfl) ?_
      refine lv_iload_n hx hb dX10_cadence_16 rfl (lv_at hl 1 rfl) ?_
      refine lv_aload_n hx hb dX10_cadence_17 rfl (lv_at hl 0 rfl) ?_
      refine gtM_24 cx ok hw dX10_cadence_18 ?_
      refine lv_iconst (v := (1 : Int32)) hx hb dX10_cadence_21 (by decide) ?_
      refine lv_isub hx hb dX10_cadence_22 ?_
      obtain ⟨r7, σ8, h6, hm⟩ := bd_ok hm
      refine clV_Mi (As := [.int x1, .int ((σ1.1 24 0) - (1 : Int32))]) (rest := []) cx hml hl.1 ok hw hA (cM_symbolAt l E n _ σ1 σ8 x1 ((σ1.1 24 0) - (1 : Int32)) r7 h6) (cwM_symbolAt hA9 ⟨Nat.le_of_ble_eq_true rfl, Nat.le_of_ble_eq_true rfl⟩) rfl rfl (Nat.le_of_ble_eq_true rfl) dX10_cadence_23 (fun H locs hw => ?_)
      refine lv_bipush (v := (10 : Int32)) hx hb dX10_cadence_26 (by decide) ?_
      refine lv_idiv hx hb dX10_cadence_28 (by decide) ?_
      obtain ⟨x2_9, e10, hm⟩ := lt_ok hm
      refine ti_eq e10 ?_
      refine lv_istore_n (lv' := [(2, .int x2_9), (0, .ref (E.2.2 1000)), (1, .int x1)]) hx hb dX10_cadence_29 rfl hl (by decide) rfl (fun ls hl => ?_)
      refine lv_aload_n hx hb dX10_cadence_30 rfl (lv_at hl 1 rfl) ?_
      refine gtM_24 cx ok hw dX10_cadence_31 ?_
      refine lv_iconst (v := (2 : Int32)) hx hb dX10_cadence_34 (by decide) ?_
      refine lv_icmp_ge (tgt := 42) hx hb dX10_cadence_35 (by decide) (fun c11 => ?_) (fun c11 => ?_)
      · have hm := if_t c11 hm
        refine lv_aload_n hx hb dX10_cadence_42 rfl (lv_at hl 1 rfl) ?_
        refine lv_iload_n hx hb dX10_cadence_43 rfl (lv_at hl 2 rfl) ?_
        refine lv_aload_n hx hb dX10_cadence_44 rfl (lv_at hl 1 rfl) ?_
        refine gtM_24 cx ok hw dX10_cadence_45 ?_
        refine lv_iconst (v := (2 : Int32)) hx hb dX10_cadence_48 (by decide) ?_
        refine lv_isub hx hb dX10_cadence_49 ?_
        obtain ⟨r13, σ14, h12, hm⟩ := bd_ok hm
        refine clV_Mi (As := [.int x1, .int ((σ8.1 24 0) - (2 : Int32))]) (rest := []) cx hml hl.1 ok hw hA (cM_symbolAt l E n _ σ8 σ14 x1 ((σ8.1 24 0) - (2 : Int32)) r13 h12) (cwM_symbolAt hA9 ⟨Nat.le_of_ble_eq_true rfl, Nat.le_of_ble_eq_true rfl⟩) rfl rfl (Nat.le_of_ble_eq_true rfl) dX10_cadence_50 (fun H locs hw => ?_)
        refine lv_bipush (v := (10 : Int32)) hx hb dX10_cadence_53 (by decide) ?_
        refine lv_idiv hx hb dX10_cadence_55 (by decide) ?_
        exact w_56 σ14 x2_9 (r13 / (10 : Int32)) H locs ls hw (lv_sub hl [0] rfl) hm
      · have hm := if_f c11 hm
        refine lv_iconst (v := (0 : Int32)) hx hb dX10_cadence_38 (by decide) ?_
        refine lv_goto (tgt := 56) hx hb dX10_cadence_39 (by decide) ?_
        exact w_56 σ8 x2_9 (0 : Int32) H locs ls hw (lv_sub hl [0] rfl) hm
    · have hm := if_f c5 hm
      refine lv_iconst (v := (-1 : Int32)) hx hb dX10_cadence_13 (by decide) ?_
      exact rtM_i cx hr hlk hw hm dX10_cadence_14
  exact goal0 _ _ hw
/-! private static boolean isStep(int);: reads only -/
def M_isStep (x0 : Int32) : Option Int32 :=
  if x0 = (1 : Int32) then
    some (1 : Int32)
  else
    if x0 = (2 : Int32) then
      some (1 : Int32)
    else
      if x0 = (-1 : Int32) then
        some (1 : Int32)
      else
        if x0 = (-2 : Int32) then
          some (1 : Int32)
        else
          some (0 : Int32)
abbrev rmM_isStep : Room := { frames := 0, cells := 0, slots := 0, locals := 0 }
set_option maxHeartbeats 4000000 in
set_option maxRecDepth 100000 in
theorem cM_isStep (l : Launch) (E : Ev) (sz : Nat) (σ0 : St) (x0 : Int32) (r : Int32) (hm : M_isStep x0 = some r) : Met l yX10_isStep (wz yX10_isStep cX10_isStep 1 (some .boolean)) rmM_isStep (PwM E [.int x0] σ0 sz) (QiM E σ0 σ0 sz r) 0 0 (va_A (wldM E σ0) sz) := by
  refine enM (by decide) rfl (Nat.le_of_ble_eq_true rfl) (fun p e s m args below meth c cx hr hlk hml hsz ok hw ls hl => ?_)
  have hx := cx.1
  have hb := cx.2.1
  have hA9 := cx.2.2.2
  have hA : ∀ q, s.heap.size ≤ q → (va_A (wldM E σ0) sz) q := fun q h => Or.inr (by rw [← hsz]; exact h)
  have hl : lv_has ls 1 [(0, .int x0)] := hl
  unfold M_isStep at hm
  have goal0 : ∀ (H : Heap) (locs : List Loc), wsM E σ0 (va_A (wldM E σ0) sz) s H locs → W p l e rmM_isStep s m args below meth c H locs 0 0 (MQ below (QiM E σ0 σ0 sz r) args s 0 0 (va_A (wldM E σ0) sz)) (F0 m 0 ls []) := by
    intro H locs hw
    refine lv_iload_n hx hb dX10_isStep_0 rfl (lv_at hl 0 rfl) ?_
    refine lv_iconst (v := (1 : Int32)) hx hb dX10_isStep_1 (by decide) ?_
    refine lv_icmp_eq (tgt := 21) hx hb dX10_isStep_2 (by decide) (fun c1 => ?_) (fun c1 => ?_)
    · have hm := if_t c1 hm
      refine lv_iconst (v := (1 : Int32)) hx hb dX10_isStep_21 (by decide) ?_
      refine lv_goto (tgt := 26) hx hb dX10_isStep_22 (by decide) ?_
      exact rtM_z cx hr hlk hw (by decide) (pr_some hm) dX10_isStep_26
    · have hm := if_f c1 hm
      refine lv_iload_n hx hb dX10_isStep_5 rfl (lv_at hl 0 rfl) ?_
      refine lv_iconst (v := (2 : Int32)) hx hb dX10_isStep_6 (by decide) ?_
      refine lv_icmp_eq (tgt := 21) hx hb dX10_isStep_7 (by decide) (fun c2 => ?_) (fun c2 => ?_)
      · have hm := if_t c2 hm
        refine lv_iconst (v := (1 : Int32)) hx hb dX10_isStep_21 (by decide) ?_
        refine lv_goto (tgt := 26) hx hb dX10_isStep_22 (by decide) ?_
        exact rtM_z cx hr hlk hw (by decide) (pr_some hm) dX10_isStep_26
      · have hm := if_f c2 hm
        refine lv_iload_n hx hb dX10_isStep_10 rfl (lv_at hl 0 rfl) ?_
        refine lv_iconst (v := (-1 : Int32)) hx hb dX10_isStep_11 (by decide) ?_
        refine lv_icmp_eq (tgt := 21) hx hb dX10_isStep_12 (by decide) (fun c3 => ?_) (fun c3 => ?_)
        · have hm := if_t c3 hm
          refine lv_iconst (v := (1 : Int32)) hx hb dX10_isStep_21 (by decide) ?_
          refine lv_goto (tgt := 26) hx hb dX10_isStep_22 (by decide) ?_
          exact rtM_z cx hr hlk hw (by decide) (pr_some hm) dX10_isStep_26
        · have hm := if_f c3 hm
          refine lv_iload_n hx hb dX10_isStep_15 rfl (lv_at hl 0 rfl) ?_
          refine lv_bipush (v := (-2 : Int32)) hx hb dX10_isStep_16 (by decide) ?_
          refine lv_icmp_ne (tgt := 25) hx hb dX10_isStep_18 (by decide) (fun c4 => ?_) (fun c4 => ?_)
          · have hm := if_f c4 hm
            refine lv_iconst (v := (0 : Int32)) hx hb dX10_isStep_25 (by decide) ?_
            exact rtM_z cx hr hlk hw (by decide) (pr_some hm) dX10_isStep_26
          · have hm := if_t c4 hm
            refine lv_iconst (v := (1 : Int32)) hx hb dX10_isStep_21 (by decide) ?_
            refine lv_goto (tgt := 26) hx hb dX10_isStep_22 (by decide) ?_
            exact rtM_z cx hr hlk hw (by decide) (pr_some hm) dX10_isStep_26
  exact goal0 _ _ hw
theorem cwM_isStep {R : Room} {s : State} {args : Array Value} (h : ∀ w ∈ wA, w.before args s = true) (hR : rmM_isStep.frames + 1 ≤ R.frames ∧ 8 + (1 + 11) + rmM_isStep.locals ≤ R.locals) : CallB R s args RX10 277 yX10_isStep cX10_isStep 1 (some .boolean) (wz yX10_isStep cX10_isStep 1 (some .boolean)) rmM_isStep 0 0 1 ∧ (Cond.static yX10_isStep).before args s = true := va_cwS 1 h (gdS k_1139 k_1140 k_11 k_1141) rfl rfl rfl (by decide +kernel) hR
/-! private static boolean isMore(int);: reads only -/
def M_isMore (x0 : Int32) : Option Int32 :=
  if (2 : Int32) < x0 then
    some (1 : Int32)
  else
    if (-2 : Int32) ≤ x0 then
      some (0 : Int32)
    else
      some (1 : Int32)
abbrev rmM_isMore : Room := { frames := 0, cells := 0, slots := 0, locals := 0 }
set_option maxHeartbeats 4000000 in
set_option maxRecDepth 100000 in
theorem cM_isMore (l : Launch) (E : Ev) (sz : Nat) (σ0 : St) (x0 : Int32) (r : Int32) (hm : M_isMore x0 = some r) : Met l yX10_isMore (wz yX10_isMore cX10_isMore 1 (some .boolean)) rmM_isMore (PwM E [.int x0] σ0 sz) (QiM E σ0 σ0 sz r) 0 0 (va_A (wldM E σ0) sz) := by
  refine enM (by decide) rfl (Nat.le_of_ble_eq_true rfl) (fun p e s m args below meth c cx hr hlk hml hsz ok hw ls hl => ?_)
  have hx := cx.1
  have hb := cx.2.1
  have hA9 := cx.2.2.2
  have hA : ∀ q, s.heap.size ≤ q → (va_A (wldM E σ0) sz) q := fun q h => Or.inr (by rw [← hsz]; exact h)
  have hl : lv_has ls 1 [(0, .int x0)] := hl
  unfold M_isMore at hm
  have goal0 : ∀ (H : Heap) (locs : List Loc), wsM E σ0 (va_A (wldM E σ0) sz) s H locs → W p l e rmM_isMore s m args below meth c H locs 0 0 (MQ below (QiM E σ0 σ0 sz r) args s 0 0 (va_A (wldM E σ0) sz)) (F0 m 0 ls []) := by
    intro H locs hw
    refine lv_iload_n hx hb dX10_isMore_0 rfl (lv_at hl 0 rfl) ?_
    refine lv_iconst (v := (2 : Int32)) hx hb dX10_isMore_1 (by decide) ?_
    refine lv_icmp_gt (tgt := 11) hx hb dX10_isMore_2 (by decide) (fun c1 => ?_) (fun c1 => ?_)
    · have hm := if_t c1 hm
      refine lv_iconst (v := (1 : Int32)) hx hb dX10_isMore_11 (by decide) ?_
      refine lv_goto (tgt := 16) hx hb dX10_isMore_12 (by decide) ?_
      exact rtM_z cx hr hlk hw (by decide) (pr_some hm) dX10_isMore_16
    · have hm := if_f c1 hm
      refine lv_iload_n hx hb dX10_isMore_5 rfl (lv_at hl 0 rfl) ?_
      refine lv_bipush (v := (-2 : Int32)) hx hb dX10_isMore_6 (by decide) ?_
      refine lv_icmp_ge (tgt := 15) hx hb dX10_isMore_8 (by decide) (fun c2 => ?_) (fun c2 => ?_)
      · have hm := if_t c2 hm
        refine lv_iconst (v := (0 : Int32)) hx hb dX10_isMore_15 (by decide) ?_
        exact rtM_z cx hr hlk hw (by decide) (pr_some hm) dX10_isMore_16
      · have hm := if_f c2 hm
        refine lv_iconst (v := (1 : Int32)) hx hb dX10_isMore_11 (by decide) ?_
        refine lv_goto (tgt := 16) hx hb dX10_isMore_12 (by decide) ?_
        exact rtM_z cx hr hlk hw (by decide) (pr_some hm) dX10_isMore_16
  exact goal0 _ _ hw
theorem cwM_isMore {R : Room} {s : State} {args : Array Value} (h : ∀ w ∈ wA, w.before args s = true) (hR : rmM_isMore.frames + 1 ≤ R.frames ∧ 8 + (1 + 11) + rmM_isMore.locals ≤ R.locals) : CallB R s args RX10 284 yX10_isMore cX10_isMore 1 (some .boolean) (wz yX10_isMore cX10_isMore 1 (some .boolean)) rmM_isMore 0 0 1 ∧ (Cond.static yX10_isMore).before args s = true := va_cwS 1 h (gdS k_1145 k_1146 k_11 k_1147) rfl rfl rfl (by decide +kernel) hR
/-! private static boolean isTurned(int, int);: reads only -/
def M_isTurned (x0 : Int32) (x1 : Int32) : Option Int32 :=
  if x0 ≤ 0 then
    if 0 ≤ x0 then
      some (0 : Int32)
    else
      if x1 ≤ 0 then
        some (0 : Int32)
      else
        some (1 : Int32)
  else
    if x1 < 0 then
      some (1 : Int32)
    else
      if 0 ≤ x0 then
        some (0 : Int32)
      else
        if x1 ≤ 0 then
          some (0 : Int32)
        else
          some (1 : Int32)
abbrev rmM_isTurned : Room := { frames := 0, cells := 0, slots := 0, locals := 0 }
set_option maxHeartbeats 4000000 in
set_option maxRecDepth 100000 in
theorem cM_isTurned (l : Launch) (E : Ev) (sz : Nat) (σ0 : St) (x0 : Int32) (x1 : Int32) (r : Int32) (hm : M_isTurned x0 x1 = some r) : Met l yX10_isTurned (wz yX10_isTurned cX10_isTurned 2 (some .boolean)) rmM_isTurned (PwM E [.int x0, .int x1] σ0 sz) (QiM E σ0 σ0 sz r) 0 0 (va_A (wldM E σ0) sz) := by
  refine enM (by decide) rfl (Nat.le_of_ble_eq_true rfl) (fun p e s m args below meth c cx hr hlk hml hsz ok hw ls hl => ?_)
  have hx := cx.1
  have hb := cx.2.1
  have hA9 := cx.2.2.2
  have hA : ∀ q, s.heap.size ≤ q → (va_A (wldM E σ0) sz) q := fun q h => Or.inr (by rw [← hsz]; exact h)
  have hl : lv_has ls 2 [(0, .int x0), (1, .int x1)] := hl
  unfold M_isTurned at hm
  have goal0 : ∀ (H : Heap) (locs : List Loc), wsM E σ0 (va_A (wldM E σ0) sz) s H locs → W p l e rmM_isTurned s m args below meth c H locs 0 0 (MQ below (QiM E σ0 σ0 sz r) args s 0 0 (va_A (wldM E σ0) sz)) (F0 m 0 ls []) := by
    intro H locs hw
    refine lv_iload_n hx hb dX10_isTurned_0 rfl (lv_at hl 0 rfl) ?_
    refine lv_if_le (tgt := 8) hx hb dX10_isTurned_1 (by decide) (fun c1 => ?_) (fun c1 => ?_)
    · have hm := if_t c1 hm
      refine lv_iload_n hx hb dX10_isTurned_8 rfl (lv_at hl 0 rfl) ?_
      refine lv_if_ge (tgt := 20) hx hb dX10_isTurned_9 (by decide) (fun c2 => ?_) (fun c2 => ?_)
      · have hm := if_t c2 hm
        refine lv_iconst (v := (0 : Int32)) hx hb dX10_isTurned_20 (by decide) ?_
        exact rtM_z cx hr hlk hw (by decide) (pr_some hm) dX10_isTurned_21
      · have hm := if_f c2 hm
        refine lv_iload_n hx hb dX10_isTurned_12 rfl (lv_at hl 1 rfl) ?_
        refine lv_if_le (tgt := 20) hx hb dX10_isTurned_13 (by decide) (fun c3 => ?_) (fun c3 => ?_)
        · have hm := if_t c3 hm
          refine lv_iconst (v := (0 : Int32)) hx hb dX10_isTurned_20 (by decide) ?_
          exact rtM_z cx hr hlk hw (by decide) (pr_some hm) dX10_isTurned_21
        · have hm := if_f c3 hm
          refine lv_iconst (v := (1 : Int32)) hx hb dX10_isTurned_16 (by decide) ?_
          refine lv_goto (tgt := 21) hx hb dX10_isTurned_17 (by decide) ?_
          exact rtM_z cx hr hlk hw (by decide) (pr_some hm) dX10_isTurned_21
    · have hm := if_f c1 hm
      refine lv_iload_n hx hb dX10_isTurned_4 rfl (lv_at hl 1 rfl) ?_
      refine lv_if_lt (tgt := 16) hx hb dX10_isTurned_5 (by decide) (fun c4 => ?_) (fun c4 => ?_)
      · have hm := if_t c4 hm
        refine lv_iconst (v := (1 : Int32)) hx hb dX10_isTurned_16 (by decide) ?_
        refine lv_goto (tgt := 21) hx hb dX10_isTurned_17 (by decide) ?_
        exact rtM_z cx hr hlk hw (by decide) (pr_some hm) dX10_isTurned_21
      · have hm := if_f c4 hm
        refine lv_iload_n hx hb dX10_isTurned_8 rfl (lv_at hl 0 rfl) ?_
        refine lv_if_ge (tgt := 20) hx hb dX10_isTurned_9 (by decide) (fun c5 => ?_) (fun c5 => ?_)
        · have hm := if_t c5 hm
          refine lv_iconst (v := (0 : Int32)) hx hb dX10_isTurned_20 (by decide) ?_
          exact rtM_z cx hr hlk hw (by decide) (pr_some hm) dX10_isTurned_21
        · have hm := if_f c5 hm
          refine lv_iload_n hx hb dX10_isTurned_12 rfl (lv_at hl 1 rfl) ?_
          refine lv_if_le (tgt := 20) hx hb dX10_isTurned_13 (by decide) (fun c6 => ?_) (fun c6 => ?_)
          · have hm := if_t c6 hm
            refine lv_iconst (v := (0 : Int32)) hx hb dX10_isTurned_20 (by decide) ?_
            exact rtM_z cx hr hlk hw (by decide) (pr_some hm) dX10_isTurned_21
          · have hm := if_f c6 hm
            refine lv_iconst (v := (1 : Int32)) hx hb dX10_isTurned_16 (by decide) ?_
            refine lv_goto (tgt := 21) hx hb dX10_isTurned_17 (by decide) ?_
            exact rtM_z cx hr hlk hw (by decide) (pr_some hm) dX10_isTurned_21
  exact goal0 _ _ hw
theorem cwM_isTurned {R : Room} {s : State} {args : Array Value} (h : ∀ w ∈ wA, w.before args s = true) (hR : rmM_isTurned.frames + 1 ≤ R.frames ∧ 8 + (2 + 11) + rmM_isTurned.locals ≤ R.locals) : CallB R s args RX10 280 yX10_isTurned cX10_isTurned 2 (some .boolean) (wz yX10_isTurned cX10_isTurned 2 (some .boolean)) rmM_isTurned 0 0 2 ∧ (Cond.static yX10_isTurned).before args s = true := va_cwS 2 h (gdS k_1142 k_1143 k_11 k_1144) rfl rfl rfl (by decide +kernel) hR
/-! public int melody(int, int);: writes -/
def M_melody_b344 (n : Nat) (σ : St) (x7 : Int32) (x8 : Int32) (x9 : Int32) : Option (Int32 × St) :=
  if x9 = 0 then
    some ((7 : Int32), σ)
  else
    bp (M_isStep x7) fun r3 =>
    if r3 = 0 then
      some ((7 : Int32), σ)
    else
      bp (M_isMore x8) fun r6 =>
      if r6 = 0 then
        some ((7 : Int32), σ)
      else
        bp (M_isTurned x7 x8) fun r9 =>
        if r9 = 0 then
          some ((7 : Int32), σ)
        else
          some ((6 : Int32), σ)
def M_melody_b311 (n : Nat) (σ : St) (x7 : Int32) (x8 : Int32) (x9 : Int32) : Option (Int32 × St) :=
  if x9 = 0 then
    M_melody_b344 n σ x7 x8 x9
  else
    bp (M_isMore x7) fun r3 =>
    if r3 = 0 then
      M_melody_b344 n σ x7 x8 x9
    else
      bp (M_isStep x8) fun r6 =>
      if r6 = 0 then
        M_melody_b344 n σ x7 x8 x9
      else
        bp (M_isTurned x7 x8) fun r9 =>
        if r9 = 0 then
          M_melody_b344 n σ x7 x8 x9
        else
          some ((5 : Int32), σ)
def M_melody_b274 (n : Nat) (σ : St) (x6 : Int32) (x7 : Int32) (x8 : Int32) (x9 : Int32) : Option (Int32 × St) :=
  if x9 = 0 then
    if x6 = 0 then
      M_melody_b311 n σ x7 x8 x9
    else
      if x8 = 0 then
        some ((4 : Int32), σ)
      else
        M_melody_b311 n σ x7 x8 x9
  else
    if x7 = 0 then
      if x8 = (-1 : Int32) then
        some ((3 : Int32), σ)
      else
        if x8 = (-2 : Int32) then
          some ((3 : Int32), σ)
        else
          if x6 = 0 then
            M_melody_b311 n σ x7 x8 x9
          else
            if x8 = 0 then
              some ((4 : Int32), σ)
            else
              M_melody_b311 n σ x7 x8 x9
    else
      if x6 = 0 then
        M_melody_b311 n σ x7 x8 x9
      else
        if x8 = 0 then
          some ((4 : Int32), σ)
        else
          M_melody_b311 n σ x7 x8 x9
def M_melody_b216 (n : Nat) (σ : St) (x6 : Int32) (x7 : Int32) (x8 : Int32) (s0 : Int32) : Option (Int32 × St) :=
  if s0 = 0 then
    if s0 = 0 then
      M_melody_b274 n σ x6 x7 x8 s0
    else
      bp (M_isStep x7) fun r4 =>
      if r4 = 0 then
        M_melody_b274 n σ x6 x7 x8 s0
      else
        if x8 = (-x7) then
          some ((2 : Int32), σ)
        else
          M_melody_b274 n σ x6 x7 x8 s0
  else
    bp (M_isStep x7) fun r8 =>
    if r8 = 0 then
      if s0 = 0 then
        M_melody_b274 n σ x6 x7 x8 s0
      else
        bp (M_isStep x7) fun r12 =>
        if r12 = 0 then
          M_melody_b274 n σ x6 x7 x8 s0
        else
          if x8 = (-x7) then
            some ((2 : Int32), σ)
          else
            M_melody_b274 n σ x6 x7 x8 s0
    else
      bp (M_isStep x8) fun r16 =>
      if r16 = 0 then
        if s0 = 0 then
          M_melody_b274 n σ x6 x7 x8 s0
        else
          bp (M_isStep x7) fun r20 =>
          if r20 = 0 then
            M_melody_b274 n σ x6 x7 x8 s0
          else
            if x8 = (-x7) then
              some ((2 : Int32), σ)
            else
              M_melody_b274 n σ x6 x7 x8 s0
      else
        bp (M_isTurned x7 x8) fun r24 =>
        if r24 = 0 then
          some ((1 : Int32), σ)
        else
          if s0 = 0 then
            M_melody_b274 n σ x6 x7 x8 s0
          else
            bp (M_isStep x7) fun r28 =>
            if r28 = 0 then
              M_melody_b274 n σ x6 x7 x8 s0
            else
              if x8 = (-x7) then
                some ((2 : Int32), σ)
              else
                M_melody_b274 n σ x6 x7 x8 s0
def M_melody_b178 (n : Nat) (σ : St) (x2 : Int32) (x3 : Int32) (x5 : Int32) (x6 : Int32) (s0 : Int32) : Option (Int32 × St) :=
  if x6 = 0 then
    if x5 = 0 then
      M_melody_b216 n σ x6 s0 (0 : Int32) (0 : Int32)
    else
      if x6 = 0 then
        M_melody_b216 n σ x6 s0 (0 : Int32) (0 : Int32)
      else
        M_melody_b216 n σ x6 s0 (0 : Int32) (1 : Int32)
  else
    gd (x2 + (1 : Int32)) 24 <|
    lt (((σ.1 30 (x2 + (1 : Int32)).toNatClampNeg) - x3)) fun x8_5 =>
    if x5 = 0 then
      M_melody_b216 n σ x6 s0 x8_5 (0 : Int32)
    else
      if x6 = 0 then
        M_melody_b216 n σ x6 s0 x8_5 (0 : Int32)
      else
        M_melody_b216 n σ x6 s0 x8_5 (1 : Int32)
def M_melody_b157 (n : Nat) (σ : St) (x2 : Int32) (x3 : Int32) (x5 : Int32) (s0 : Int32) : Option (Int32 × St) :=
  if x5 = 0 then
    M_melody_b178 n σ x2 x3 x5 s0 (0 : Int32)
  else
    gd (x2 - (1 : Int32)) 24 <|
    M_melody_b178 n σ x2 x3 x5 s0 (x3 - (σ.1 30 (x2 - (1 : Int32)).toNatClampNeg))
def M_melody_b115 (n : Nat) (σ : St) (x2 : Int32) (x3 : Int32) (s0 : Int32) : Option (Int32 × St) :=
  if (σ.1 24 0) ≤ (x2 + (1 : Int32)) then
    M_melody_b157 n σ x2 x3 s0 (0 : Int32)
  else
    if (σ.1 24 0) ≤ (x2 + (1 : Int32)) then
      gd (0 : Int32) 24 <|
      if (σ.1 30 (0 : Int32).toNatClampNeg) < 0 then
        M_melody_b157 n σ x2 x3 s0 (0 : Int32)
      else
        M_melody_b157 n σ x2 x3 s0 (1 : Int32)
    else
      gd (x2 + (1 : Int32)) 24 <|
      if (σ.1 30 (x2 + (1 : Int32)).toNatClampNeg) < 0 then
        M_melody_b157 n σ x2 x3 s0 (0 : Int32)
      else
        M_melody_b157 n σ x2 x3 s0 (1 : Int32)
def M_melody (n : Nat) (σ0 : St) (x1 : Int32) (x2 : Int32) : Option (Int32 × St) :=
  lt (sI σ0 0 0 (0 : Int32)) fun σ1 =>
  bp (M_noReading σ1 x1) fun r4 =>
  if r4 = 0 then
    if x2 < 0 then
      some ((-1 : Int32), σ1)
    else
      if (σ1.1 24 0) ≤ x2 then
        some ((-1 : Int32), σ1)
      else
        gd x2 24 <|
        if 0 ≤ (σ1.1 30 x2.toNatClampNeg) then
          gd x2 24 <|
          lt ((σ1.1 30 x2.toNatClampNeg)) fun x3_11 =>
          bd (M_symbolAt n σ1 x1 x2) fun r14 σ15 =>
          gd (((24 : Int32) * r14) + x2) 1920 <|
          lt ((σ15.1 31 (((24 : Int32) * r14) + x2).toNatClampNeg)) fun x4_17 =>
          bp (M_classes (x4_17 - x4_17 / (12 : Int32) * (12 : Int32)) (x4_17 / (12 : Int32))) fun r20 =>
          if ((r20 >>> ((x3_11 - x3_11 / (12 : Int32) * (12 : Int32)) &&& 31)) &&& (1 : Int32)) = (1 : Int32) then
            some ((0 : Int32), σ15)
          else
            if x2 ≤ 0 then
              M_melody_b115 n σ15 x2 x3_11 (0 : Int32)
            else
              if x2 ≤ 0 then
                gd (0 : Int32) 24 <|
                if (σ15.1 30 (0 : Int32).toNatClampNeg) < 0 then
                  M_melody_b115 n σ15 x2 x3_11 (0 : Int32)
                else
                  M_melody_b115 n σ15 x2 x3_11 (1 : Int32)
              else
                gd (x2 - (1 : Int32)) 24 <|
                if (σ15.1 30 (x2 - (1 : Int32)).toNatClampNeg) < 0 then
                  M_melody_b115 n σ15 x2 x3_11 (0 : Int32)
                else
                  M_melody_b115 n σ15 x2 x3_11 (1 : Int32)
        else
          some ((-1 : Int32), σ1)
  else
    some ((-1 : Int32), σ1)
abbrev rmM_melody : Room := { frames := 4, cells := 0, slots := 0, locals := 83 }
set_option maxHeartbeats 4000000 in
set_option maxRecDepth 100000 in
theorem cM_melody (l : Launch) (E : Ev) (n : Nat) (sz : Nat) (σ0 σ' : St) (x1 : Int32) (x2 : Int32) (r : Int32) (hm : M_melody n σ0 x1 x2 = some (r, σ')) : Met l yX10_melody (wz yX10_melody cX10_melody 10 (some .int)) rmM_melody (PwM E [.ref (E.2.2 1000), .int x1, .int x2] σ0 sz) (QiM E σ0 σ' sz r) 0 0 (va_A (wldM E σ0) sz) := by
  refine enM (by decide) rfl (Nat.le_of_ble_eq_true rfl) (fun p e s m args below meth c cx hr hlk hml hsz ok hw ls hl => ?_)
  have hx := cx.1
  have hb := cx.2.1
  have hA9 := cx.2.2.2
  have hA : ∀ q, s.heap.size ≤ q → (va_A (wldM E σ0) sz) q := fun q h => Or.inr (by rw [← hsz]; exact h)
  have w_344 : ∀ (σ : St) (x7 : Int32) (x8 : Int32) (x9 : Int32) (H : Heap) (locs : List Loc) (ls : Array Slot), wsM E σ (va_A (wldM E σ0) sz) s H locs → lv_has ls 10 [(7, .int x7), (8, .int x8), (9, .int x9)] → M_melody_b344 n σ x7 x8 x9 = some (r, σ') → W p l e rmM_melody s m args below meth c H locs 0 0 (MQ below (QiM E σ0 σ' sz r) args s 0 0 (va_A (wldM E σ0) sz)) (F0 m 344 ls []) := by
    intro σ x7 x8 x9 H locs ls hw hl hm
    unfold M_melody_b344 at hm
    refine lv_iload hx hb dX10_melody_344 (lv_at hl 2 rfl) ?_
    refine lv_if_eq (tgt := 380) hx hb dX10_melody_346 (by decide) (fun c1 => ?_) (fun c1 => ?_)
    · have hm := if_t c1 hm
      refine lv_bipush (v := (7 : Int32)) hx hb dX10_melody_380 (by decide) ?_
      exact rtM_i cx hr hlk hw hm dX10_melody_382
    · have hm := if_f c1 hm
      refine lv_iload hx hb dX10_melody_349 (lv_at hl 0 rfl) ?_
      obtain ⟨r3, h2, hm⟩ := bp_ok hm
      refine clS_Mi (As := [.int x7]) (rest := []) cx hml hl.1 ok hw hA (cM_isStep l E _ σ x7 r3 h2) (cwM_isStep hA9 ⟨Nat.le_of_ble_eq_true rfl, Nat.le_of_ble_eq_true rfl⟩) rfl rfl (Nat.le_of_ble_eq_true rfl) dX10_melody_351 (fun H locs hw => ?_)
      refine lv_if_eq (tgt := 380) hx hb dX10_melody_354 (by decide) (fun c4 => ?_) (fun c4 => ?_)
      · have hm := if_t c4 hm
        refine lv_bipush (v := (7 : Int32)) hx hb dX10_melody_380 (by decide) ?_
        exact rtM_i cx hr hlk hw hm dX10_melody_382
      · have hm := if_f c4 hm
        refine lv_iload hx hb dX10_melody_357 (lv_at hl 1 rfl) ?_
        obtain ⟨r6, h5, hm⟩ := bp_ok hm
        refine clS_Mi (As := [.int x8]) (rest := []) cx hml hl.1 ok hw hA (cM_isMore l E _ σ x8 r6 h5) (cwM_isMore hA9 ⟨Nat.le_of_ble_eq_true rfl, Nat.le_of_ble_eq_true rfl⟩) rfl rfl (Nat.le_of_ble_eq_true rfl) dX10_melody_359 (fun H locs hw => ?_)
        refine lv_if_eq (tgt := 380) hx hb dX10_melody_362 (by decide) (fun c7 => ?_) (fun c7 => ?_)
        · have hm := if_t c7 hm
          refine lv_bipush (v := (7 : Int32)) hx hb dX10_melody_380 (by decide) ?_
          exact rtM_i cx hr hlk hw hm dX10_melody_382
        · have hm := if_f c7 hm
          refine lv_iload hx hb dX10_melody_365 (lv_at hl 0 rfl) ?_
          refine lv_iload hx hb dX10_melody_367 (lv_at hl 1 rfl) ?_
          obtain ⟨r9, h8, hm⟩ := bp_ok hm
          refine clS_Mi (As := [.int x7, .int x8]) (rest := []) cx hml hl.1 ok hw hA (cM_isTurned l E _ σ x7 x8 r9 h8) (cwM_isTurned hA9 ⟨Nat.le_of_ble_eq_true rfl, Nat.le_of_ble_eq_true rfl⟩) rfl rfl (Nat.le_of_ble_eq_true rfl) dX10_melody_369 (fun H locs hw => ?_)
          refine lv_if_eq (tgt := 380) hx hb dX10_melody_372 (by decide) (fun c10 => ?_) (fun c10 => ?_)
          · have hm := if_t c10 hm
            refine lv_bipush (v := (7 : Int32)) hx hb dX10_melody_380 (by decide) ?_
            exact rtM_i cx hr hlk hw hm dX10_melody_382
          · have hm := if_f c10 hm
            refine lv_bipush (v := (6 : Int32)) hx hb dX10_melody_375 (by decide) ?_
            refine lv_goto (tgt := 382) hx hb dX10_melody_377 (by decide) ?_
            exact rtM_i cx hr hlk hw hm dX10_melody_382
  have w_311 : ∀ (σ : St) (x7 : Int32) (x8 : Int32) (x9 : Int32) (H : Heap) (locs : List Loc) (ls : Array Slot), wsM E σ (va_A (wldM E σ0) sz) s H locs → lv_has ls 10 [(7, .int x7), (8, .int x8), (9, .int x9)] → M_melody_b311 n σ x7 x8 x9 = some (r, σ') → W p l e rmM_melody s m args below meth c H locs 0 0 (MQ below (QiM E σ0 σ' sz r) args s 0 0 (va_A (wldM E σ0) sz)) (F0 m 311 ls []) := by
    intro σ x7 x8 x9 H locs ls hw hl hm
    unfold M_melody_b311 at hm
    refine lv_iload hx hb dX10_melody_311 (lv_at hl 2 rfl) ?_
    refine lv_if_eq (tgt := 344) hx hb dX10_melody_313 (by decide) (fun c1 => ?_) (fun c1 => ?_)
    · have hm := if_t c1 hm
      exact w_344 σ x7 x8 x9 H locs ls hw (lv_sub hl [0, 1, 2] rfl) hm
    · have hm := if_f c1 hm
      refine lv_iload hx hb dX10_melody_316 (lv_at hl 0 rfl) ?_
      obtain ⟨r3, h2, hm⟩ := bp_ok hm
      refine clS_Mi (As := [.int x7]) (rest := []) cx hml hl.1 ok hw hA (cM_isMore l E _ σ x7 r3 h2) (cwM_isMore hA9 ⟨Nat.le_of_ble_eq_true rfl, Nat.le_of_ble_eq_true rfl⟩) rfl rfl (Nat.le_of_ble_eq_true rfl) dX10_melody_318 (fun H locs hw => ?_)
      refine lv_if_eq (tgt := 344) hx hb dX10_melody_321 (by decide) (fun c4 => ?_) (fun c4 => ?_)
      · have hm := if_t c4 hm
        exact w_344 σ x7 x8 x9 H locs ls hw (lv_sub hl [0, 1, 2] rfl) hm
      · have hm := if_f c4 hm
        refine lv_iload hx hb dX10_melody_324 (lv_at hl 1 rfl) ?_
        obtain ⟨r6, h5, hm⟩ := bp_ok hm
        refine clS_Mi (As := [.int x8]) (rest := []) cx hml hl.1 ok hw hA (cM_isStep l E _ σ x8 r6 h5) (cwM_isStep hA9 ⟨Nat.le_of_ble_eq_true rfl, Nat.le_of_ble_eq_true rfl⟩) rfl rfl (Nat.le_of_ble_eq_true rfl) dX10_melody_326 (fun H locs hw => ?_)
        refine lv_if_eq (tgt := 344) hx hb dX10_melody_329 (by decide) (fun c7 => ?_) (fun c7 => ?_)
        · have hm := if_t c7 hm
          exact w_344 σ x7 x8 x9 H locs ls hw (lv_sub hl [0, 1, 2] rfl) hm
        · have hm := if_f c7 hm
          refine lv_iload hx hb dX10_melody_332 (lv_at hl 0 rfl) ?_
          refine lv_iload hx hb dX10_melody_334 (lv_at hl 1 rfl) ?_
          obtain ⟨r9, h8, hm⟩ := bp_ok hm
          refine clS_Mi (As := [.int x7, .int x8]) (rest := []) cx hml hl.1 ok hw hA (cM_isTurned l E _ σ x7 x8 r9 h8) (cwM_isTurned hA9 ⟨Nat.le_of_ble_eq_true rfl, Nat.le_of_ble_eq_true rfl⟩) rfl rfl (Nat.le_of_ble_eq_true rfl) dX10_melody_336 (fun H locs hw => ?_)
          refine lv_if_eq (tgt := 344) hx hb dX10_melody_339 (by decide) (fun c10 => ?_) (fun c10 => ?_)
          · have hm := if_t c10 hm
            exact w_344 σ x7 x8 x9 H locs ls hw (lv_sub hl [0, 1, 2] rfl) hm
          · have hm := if_f c10 hm
            refine lv_iconst (v := (5 : Int32)) hx hb dX10_melody_342 (by decide) ?_
            exact rtM_i cx hr hlk hw hm dX10_melody_343
  have w_274 : ∀ (σ : St) (x6 : Int32) (x7 : Int32) (x8 : Int32) (x9 : Int32) (H : Heap) (locs : List Loc) (ls : Array Slot), wsM E σ (va_A (wldM E σ0) sz) s H locs → lv_has ls 10 [(6, .int x6), (7, .int x7), (8, .int x8), (9, .int x9)] → M_melody_b274 n σ x6 x7 x8 x9 = some (r, σ') → W p l e rmM_melody s m args below meth c H locs 0 0 (MQ below (QiM E σ0 σ' sz r) args s 0 0 (va_A (wldM E σ0) sz)) (F0 m 274 ls []) := by
    intro σ x6 x7 x8 x9 H locs ls hw hl hm
    unfold M_melody_b274 at hm
    refine lv_iload hx hb dX10_melody_274 (lv_at hl 3 rfl) ?_
    refine lv_if_eq (tgt := 299) hx hb dX10_melody_276 (by decide) (fun c1 => ?_) (fun c1 => ?_)
    · have hm := if_t c1 hm
      refine lv_iload hx hb dX10_melody_299 (lv_at hl 0 rfl) ?_
      refine lv_if_eq (tgt := 311) hx hb dX10_melody_301 (by decide) (fun c2 => ?_) (fun c2 => ?_)
      · have hm := if_t c2 hm
        exact w_311 σ x7 x8 x9 H locs ls hw (lv_sub hl [1, 2, 3] rfl) hm
      · have hm := if_f c2 hm
        refine lv_iload hx hb dX10_melody_304 (lv_at hl 2 rfl) ?_
        refine lv_if_ne (tgt := 311) hx hb dX10_melody_306 (by decide) (fun c3 => ?_) (fun c3 => ?_)
        · have hm := if_f c3 hm
          exact w_311 σ x7 x8 x9 H locs ls hw (lv_sub hl [1, 2, 3] rfl) hm
        · have hm := if_t c3 hm
          refine lv_iconst (v := (4 : Int32)) hx hb dX10_melody_309 (by decide) ?_
          exact rtM_i cx hr hlk hw hm dX10_melody_310
    · have hm := if_f c1 hm
      refine lv_iload hx hb dX10_melody_279 (lv_at hl 1 rfl) ?_
      refine lv_if_ne (tgt := 299) hx hb dX10_melody_281 (by decide) (fun c4 => ?_) (fun c4 => ?_)
      · have hm := if_f c4 hm
        refine lv_iload hx hb dX10_melody_299 (lv_at hl 0 rfl) ?_
        refine lv_if_eq (tgt := 311) hx hb dX10_melody_301 (by decide) (fun c5 => ?_) (fun c5 => ?_)
        · have hm := if_t c5 hm
          exact w_311 σ x7 x8 x9 H locs ls hw (lv_sub hl [1, 2, 3] rfl) hm
        · have hm := if_f c5 hm
          refine lv_iload hx hb dX10_melody_304 (lv_at hl 2 rfl) ?_
          refine lv_if_ne (tgt := 311) hx hb dX10_melody_306 (by decide) (fun c6 => ?_) (fun c6 => ?_)
          · have hm := if_f c6 hm
            exact w_311 σ x7 x8 x9 H locs ls hw (lv_sub hl [1, 2, 3] rfl) hm
          · have hm := if_t c6 hm
            refine lv_iconst (v := (4 : Int32)) hx hb dX10_melody_309 (by decide) ?_
            exact rtM_i cx hr hlk hw hm dX10_melody_310
      · have hm := if_t c4 hm
        refine lv_iload hx hb dX10_melody_284 (lv_at hl 2 rfl) ?_
        refine lv_iconst (v := (-1 : Int32)) hx hb dX10_melody_286 (by decide) ?_
        refine lv_icmp_eq (tgt := 297) hx hb dX10_melody_287 (by decide) (fun c7 => ?_) (fun c7 => ?_)
        · have hm := if_t c7 hm
          refine lv_iconst (v := (3 : Int32)) hx hb dX10_melody_297 (by decide) ?_
          exact rtM_i cx hr hlk hw hm dX10_melody_298
        · have hm := if_f c7 hm
          refine lv_iload hx hb dX10_melody_290 (lv_at hl 2 rfl) ?_
          refine lv_bipush (v := (-2 : Int32)) hx hb dX10_melody_292 (by decide) ?_
          refine lv_icmp_ne (tgt := 299) hx hb dX10_melody_294 (by decide) (fun c8 => ?_) (fun c8 => ?_)
          · have hm := if_f c8 hm
            refine lv_iload hx hb dX10_melody_299 (lv_at hl 0 rfl) ?_
            refine lv_if_eq (tgt := 311) hx hb dX10_melody_301 (by decide) (fun c9 => ?_) (fun c9 => ?_)
            · have hm := if_t c9 hm
              exact w_311 σ x7 x8 x9 H locs ls hw (lv_sub hl [1, 2, 3] rfl) hm
            · have hm := if_f c9 hm
              refine lv_iload hx hb dX10_melody_304 (lv_at hl 2 rfl) ?_
              refine lv_if_ne (tgt := 311) hx hb dX10_melody_306 (by decide) (fun c10 => ?_) (fun c10 => ?_)
              · have hm := if_f c10 hm
                exact w_311 σ x7 x8 x9 H locs ls hw (lv_sub hl [1, 2, 3] rfl) hm
              · have hm := if_t c10 hm
                refine lv_iconst (v := (4 : Int32)) hx hb dX10_melody_309 (by decide) ?_
                exact rtM_i cx hr hlk hw hm dX10_melody_310
          · have hm := if_t c8 hm
            refine lv_iconst (v := (3 : Int32)) hx hb dX10_melody_297 (by decide) ?_
            exact rtM_i cx hr hlk hw hm dX10_melody_298
  have w_216 : ∀ (σ : St) (x6 : Int32) (x7 : Int32) (x8 : Int32) (s0 : Int32) (H : Heap) (locs : List Loc) (ls : Array Slot), wsM E σ (va_A (wldM E σ0) sz) s H locs → lv_has ls 10 [(6, .int x6), (7, .int x7), (8, .int x8)] → M_melody_b216 n σ x6 x7 x8 s0 = some (r, σ') → W p l e rmM_melody s m args below meth c H locs 0 0 (MQ below (QiM E σ0 σ' sz r) args s 0 0 (va_A (wldM E σ0) sz)) (F0 m 216 ls [.int s0]) := by
    intro σ x6 x7 x8 s0 H locs ls hw hl hm
    unfold M_melody_b216 at hm
    refine lv_istore (lv' := [(9, .int s0), (6, .int x6), (7, .int x7), (8, .int x8)]) hx hb dX10_melody_216 hl (by decide) rfl (fun ls hl => ?_)
    refine lv_iload hx hb dX10_melody_218 (lv_at hl 0 rfl) ?_
    refine lv_if_eq (tgt := 251) hx hb dX10_melody_220 (by decide) (fun c1 => ?_) (fun c1 => ?_)
    · have hm := if_t c1 hm
      refine lv_iload hx hb dX10_melody_251 (lv_at hl 0 rfl) ?_
      refine lv_if_eq (tgt := 274) hx hb dX10_melody_253 (by decide) (fun c2 => ?_) (fun c2 => ?_)
      · have hm := if_t c2 hm
        exact w_274 σ x6 x7 x8 s0 H locs ls hw (lv_sub hl [1, 2, 3, 0] rfl) hm
      · have hm := if_f c2 hm
        refine lv_iload hx hb dX10_melody_256 (lv_at hl 2 rfl) ?_
        obtain ⟨r4, h3, hm⟩ := bp_ok hm
        refine clS_Mi (As := [.int x7]) (rest := []) cx hml hl.1 ok hw hA (cM_isStep l E _ σ x7 r4 h3) (cwM_isStep hA9 ⟨Nat.le_of_ble_eq_true rfl, Nat.le_of_ble_eq_true rfl⟩) rfl rfl (Nat.le_of_ble_eq_true rfl) dX10_melody_258 (fun H locs hw => ?_)
        refine lv_if_eq (tgt := 274) hx hb dX10_melody_261 (by decide) (fun c5 => ?_) (fun c5 => ?_)
        · have hm := if_t c5 hm
          exact w_274 σ x6 x7 x8 s0 H locs ls hw (lv_sub hl [1, 2, 3, 0] rfl) hm
        · have hm := if_f c5 hm
          refine lv_iload hx hb dX10_melody_264 (lv_at hl 3 rfl) ?_
          refine lv_iload hx hb dX10_melody_266 (lv_at hl 2 rfl) ?_
          refine lv_ineg hx hb dX10_melody_268 ?_
          refine lv_icmp_ne (tgt := 274) hx hb dX10_melody_269 (by decide) (fun c6 => ?_) (fun c6 => ?_)
          · have hm := if_f c6 hm
            exact w_274 σ x6 x7 x8 s0 H locs ls hw (lv_sub hl [1, 2, 3, 0] rfl) hm
          · have hm := if_t c6 hm
            refine lv_iconst (v := (2 : Int32)) hx hb dX10_melody_272 (by decide) ?_
            exact rtM_i cx hr hlk hw hm dX10_melody_273
    · have hm := if_f c1 hm
      refine lv_iload hx hb dX10_melody_223 (lv_at hl 2 rfl) ?_
      obtain ⟨r8, h7, hm⟩ := bp_ok hm
      refine clS_Mi (As := [.int x7]) (rest := []) cx hml hl.1 ok hw hA (cM_isStep l E _ σ x7 r8 h7) (cwM_isStep hA9 ⟨Nat.le_of_ble_eq_true rfl, Nat.le_of_ble_eq_true rfl⟩) rfl rfl (Nat.le_of_ble_eq_true rfl) dX10_melody_225 (fun H locs hw => ?_)
      refine lv_if_eq (tgt := 251) hx hb dX10_melody_228 (by decide) (fun c9 => ?_) (fun c9 => ?_)
      · have hm := if_t c9 hm
        refine lv_iload hx hb dX10_melody_251 (lv_at hl 0 rfl) ?_
        refine lv_if_eq (tgt := 274) hx hb dX10_melody_253 (by decide) (fun c10 => ?_) (fun c10 => ?_)
        · have hm := if_t c10 hm
          exact w_274 σ x6 x7 x8 s0 H locs ls hw (lv_sub hl [1, 2, 3, 0] rfl) hm
        · have hm := if_f c10 hm
          refine lv_iload hx hb dX10_melody_256 (lv_at hl 2 rfl) ?_
          obtain ⟨r12, h11, hm⟩ := bp_ok hm
          refine clS_Mi (As := [.int x7]) (rest := []) cx hml hl.1 ok hw hA (cM_isStep l E _ σ x7 r12 h11) (cwM_isStep hA9 ⟨Nat.le_of_ble_eq_true rfl, Nat.le_of_ble_eq_true rfl⟩) rfl rfl (Nat.le_of_ble_eq_true rfl) dX10_melody_258 (fun H locs hw => ?_)
          refine lv_if_eq (tgt := 274) hx hb dX10_melody_261 (by decide) (fun c13 => ?_) (fun c13 => ?_)
          · have hm := if_t c13 hm
            exact w_274 σ x6 x7 x8 s0 H locs ls hw (lv_sub hl [1, 2, 3, 0] rfl) hm
          · have hm := if_f c13 hm
            refine lv_iload hx hb dX10_melody_264 (lv_at hl 3 rfl) ?_
            refine lv_iload hx hb dX10_melody_266 (lv_at hl 2 rfl) ?_
            refine lv_ineg hx hb dX10_melody_268 ?_
            refine lv_icmp_ne (tgt := 274) hx hb dX10_melody_269 (by decide) (fun c14 => ?_) (fun c14 => ?_)
            · have hm := if_f c14 hm
              exact w_274 σ x6 x7 x8 s0 H locs ls hw (lv_sub hl [1, 2, 3, 0] rfl) hm
            · have hm := if_t c14 hm
              refine lv_iconst (v := (2 : Int32)) hx hb dX10_melody_272 (by decide) ?_
              exact rtM_i cx hr hlk hw hm dX10_melody_273
      · have hm := if_f c9 hm
        refine lv_iload hx hb dX10_melody_231 (lv_at hl 3 rfl) ?_
        obtain ⟨r16, h15, hm⟩ := bp_ok hm
        refine clS_Mi (As := [.int x8]) (rest := []) cx hml hl.1 ok hw hA (cM_isStep l E _ σ x8 r16 h15) (cwM_isStep hA9 ⟨Nat.le_of_ble_eq_true rfl, Nat.le_of_ble_eq_true rfl⟩) rfl rfl (Nat.le_of_ble_eq_true rfl) dX10_melody_233 (fun H locs hw => ?_)
        refine lv_if_eq (tgt := 251) hx hb dX10_melody_236 (by decide) (fun c17 => ?_) (fun c17 => ?_)
        · have hm := if_t c17 hm
          refine lv_iload hx hb dX10_melody_251 (lv_at hl 0 rfl) ?_
          refine lv_if_eq (tgt := 274) hx hb dX10_melody_253 (by decide) (fun c18 => ?_) (fun c18 => ?_)
          · have hm := if_t c18 hm
            exact w_274 σ x6 x7 x8 s0 H locs ls hw (lv_sub hl [1, 2, 3, 0] rfl) hm
          · have hm := if_f c18 hm
            refine lv_iload hx hb dX10_melody_256 (lv_at hl 2 rfl) ?_
            obtain ⟨r20, h19, hm⟩ := bp_ok hm
            refine clS_Mi (As := [.int x7]) (rest := []) cx hml hl.1 ok hw hA (cM_isStep l E _ σ x7 r20 h19) (cwM_isStep hA9 ⟨Nat.le_of_ble_eq_true rfl, Nat.le_of_ble_eq_true rfl⟩) rfl rfl (Nat.le_of_ble_eq_true rfl) dX10_melody_258 (fun H locs hw => ?_)
            refine lv_if_eq (tgt := 274) hx hb dX10_melody_261 (by decide) (fun c21 => ?_) (fun c21 => ?_)
            · have hm := if_t c21 hm
              exact w_274 σ x6 x7 x8 s0 H locs ls hw (lv_sub hl [1, 2, 3, 0] rfl) hm
            · have hm := if_f c21 hm
              refine lv_iload hx hb dX10_melody_264 (lv_at hl 3 rfl) ?_
              refine lv_iload hx hb dX10_melody_266 (lv_at hl 2 rfl) ?_
              refine lv_ineg hx hb dX10_melody_268 ?_
              refine lv_icmp_ne (tgt := 274) hx hb dX10_melody_269 (by decide) (fun c22 => ?_) (fun c22 => ?_)
              · have hm := if_f c22 hm
                exact w_274 σ x6 x7 x8 s0 H locs ls hw (lv_sub hl [1, 2, 3, 0] rfl) hm
              · have hm := if_t c22 hm
                refine lv_iconst (v := (2 : Int32)) hx hb dX10_melody_272 (by decide) ?_
                exact rtM_i cx hr hlk hw hm dX10_melody_273
        · have hm := if_f c17 hm
          refine lv_iload hx hb dX10_melody_239 (lv_at hl 2 rfl) ?_
          refine lv_iload hx hb dX10_melody_241 (lv_at hl 3 rfl) ?_
          obtain ⟨r24, h23, hm⟩ := bp_ok hm
          refine clS_Mi (As := [.int x7, .int x8]) (rest := []) cx hml hl.1 ok hw hA (cM_isTurned l E _ σ x7 x8 r24 h23) (cwM_isTurned hA9 ⟨Nat.le_of_ble_eq_true rfl, Nat.le_of_ble_eq_true rfl⟩) rfl rfl (Nat.le_of_ble_eq_true rfl) dX10_melody_243 (fun H locs hw => ?_)
          refine lv_if_ne (tgt := 251) hx hb dX10_melody_246 (by decide) (fun c25 => ?_) (fun c25 => ?_)
          · have hm := if_f c25 hm
            refine lv_iload hx hb dX10_melody_251 (lv_at hl 0 rfl) ?_
            refine lv_if_eq (tgt := 274) hx hb dX10_melody_253 (by decide) (fun c26 => ?_) (fun c26 => ?_)
            · have hm := if_t c26 hm
              exact w_274 σ x6 x7 x8 s0 H locs ls hw (lv_sub hl [1, 2, 3, 0] rfl) hm
            · have hm := if_f c26 hm
              refine lv_iload hx hb dX10_melody_256 (lv_at hl 2 rfl) ?_
              obtain ⟨r28, h27, hm⟩ := bp_ok hm
              refine clS_Mi (As := [.int x7]) (rest := []) cx hml hl.1 ok hw hA (cM_isStep l E _ σ x7 r28 h27) (cwM_isStep hA9 ⟨Nat.le_of_ble_eq_true rfl, Nat.le_of_ble_eq_true rfl⟩) rfl rfl (Nat.le_of_ble_eq_true rfl) dX10_melody_258 (fun H locs hw => ?_)
              refine lv_if_eq (tgt := 274) hx hb dX10_melody_261 (by decide) (fun c29 => ?_) (fun c29 => ?_)
              · have hm := if_t c29 hm
                exact w_274 σ x6 x7 x8 s0 H locs ls hw (lv_sub hl [1, 2, 3, 0] rfl) hm
              · have hm := if_f c29 hm
                refine lv_iload hx hb dX10_melody_264 (lv_at hl 3 rfl) ?_
                refine lv_iload hx hb dX10_melody_266 (lv_at hl 2 rfl) ?_
                refine lv_ineg hx hb dX10_melody_268 ?_
                refine lv_icmp_ne (tgt := 274) hx hb dX10_melody_269 (by decide) (fun c30 => ?_) (fun c30 => ?_)
                · have hm := if_f c30 hm
                  exact w_274 σ x6 x7 x8 s0 H locs ls hw (lv_sub hl [1, 2, 3, 0] rfl) hm
                · have hm := if_t c30 hm
                  refine lv_iconst (v := (2 : Int32)) hx hb dX10_melody_272 (by decide) ?_
                  exact rtM_i cx hr hlk hw hm dX10_melody_273
          · have hm := if_t c25 hm
            refine lv_iconst (v := (1 : Int32)) hx hb dX10_melody_249 (by decide) ?_
            exact rtM_i cx hr hlk hw hm dX10_melody_250
  have w_178 : ∀ (σ : St) (x2 : Int32) (x3 : Int32) (x5 : Int32) (x6 : Int32) (s0 : Int32) (H : Heap) (locs : List Loc) (ls : Array Slot), wsM E σ (va_A (wldM E σ0) sz) s H locs → lv_has ls 10 [(0, .ref (E.2.2 1000)), (2, .int x2), (3, .int x3), (5, .int x5), (6, .int x6)] → M_melody_b178 n σ x2 x3 x5 x6 s0 = some (r, σ') → W p l e rmM_melody s m args below meth c H locs 0 0 (MQ below (QiM E σ0 σ' sz r) args s 0 0 (va_A (wldM E σ0) sz)) (F0 m 178 ls [.int s0]) := by
    intro σ x2 x3 x5 x6 s0 H locs ls hw hl hm
    unfold M_melody_b178 at hm
    refine lv_istore (lv' := [(7, .int s0), (0, .ref (E.2.2 1000)), (2, .int x2), (3, .int x3), (5, .int x5), (6, .int x6)]) hx hb dX10_melody_178 hl (by decide) rfl (fun ls hl => ?_)
    refine lv_iload hx hb dX10_melody_180 (lv_at hl 5 rfl) ?_
    refine lv_if_eq (tgt := 198) hx hb dX10_melody_182 (by decide) (fun c1 => ?_) (fun c1 => ?_)
    · have hm := if_t c1 hm
      refine lv_iconst (v := (0 : Int32)) hx hb dX10_melody_198 (by decide) ?_
      refine lv_istore (lv' := [(8, .int (0 : Int32)), (7, .int s0), (0, .ref (E.2.2 1000)), (2, .int x2), (3, .int x3), (5, .int x5), (6, .int x6)]) hx hb dX10_melody_199 hl (by decide) rfl (fun ls hl => ?_)
      refine lv_iload hx hb dX10_melody_201 (lv_at hl 5 rfl) ?_
      refine lv_if_eq (tgt := 215) hx hb dX10_melody_203 (by decide) (fun c2 => ?_) (fun c2 => ?_)
      · have hm := if_t c2 hm
        refine lv_iconst (v := (0 : Int32)) hx hb dX10_melody_215 (by decide) ?_
        exact w_216 σ x6 s0 (0 : Int32) (0 : Int32) H locs ls hw (lv_sub hl [6, 1, 0] rfl) hm
      · have hm := if_f c2 hm
        refine lv_iload hx hb dX10_melody_206 (lv_at hl 6 rfl) ?_
        refine lv_if_eq (tgt := 215) hx hb dX10_melody_208 (by decide) (fun c3 => ?_) (fun c3 => ?_)
        · have hm := if_t c3 hm
          refine lv_iconst (v := (0 : Int32)) hx hb dX10_melody_215 (by decide) ?_
          exact w_216 σ x6 s0 (0 : Int32) (0 : Int32) H locs ls hw (lv_sub hl [6, 1, 0] rfl) hm
        · have hm := if_f c3 hm
          refine lv_iconst (v := (1 : Int32)) hx hb dX10_melody_211 (by decide) ?_
          refine lv_goto (tgt := 216) hx hb dX10_melody_212 (by decide) ?_
          exact w_216 σ x6 s0 (0 : Int32) (1 : Int32) H locs ls hw (lv_sub hl [6, 1, 0] rfl) hm
    · have hm := if_f c1 hm
      refine lv_aload_n hx hb dX10_melody_185 rfl (lv_at hl 1 rfl) ?_
      refine gtM_30 cx ok hw dX10_melody_186 ?_
      refine lv_iload_n hx hb dX10_melody_189 rfl (lv_at hl 2 rfl) ?_
      refine lv_iconst (v := (1 : Int32)) hx hb dX10_melody_190 (by decide) ?_
      refine lv_iadd hx hb dX10_melody_191 ?_
      obtain ⟨g4, hm⟩ := gd_ok hm
      refine ldM_30 cx ok hw g4 dX10_melody_192 ?_
      refine lv_iload_n hx hb dX10_melody_193 rfl (lv_at hl 3 rfl) ?_
      refine lv_isub hx hb dX10_melody_194 ?_
      refine lv_goto (tgt := 199) hx hb dX10_melody_195 (by decide) ?_
      obtain ⟨x8_5, e6, hm⟩ := lt_ok hm
      refine ti_eq e6 ?_
      refine lv_istore (lv' := [(8, .int x8_5), (7, .int s0), (0, .ref (E.2.2 1000)), (2, .int x2), (3, .int x3), (5, .int x5), (6, .int x6)]) hx hb dX10_melody_199 hl (by decide) rfl (fun ls hl => ?_)
      refine lv_iload hx hb dX10_melody_201 (lv_at hl 5 rfl) ?_
      refine lv_if_eq (tgt := 215) hx hb dX10_melody_203 (by decide) (fun c7 => ?_) (fun c7 => ?_)
      · have hm := if_t c7 hm
        refine lv_iconst (v := (0 : Int32)) hx hb dX10_melody_215 (by decide) ?_
        exact w_216 σ x6 s0 x8_5 (0 : Int32) H locs ls hw (lv_sub hl [6, 1, 0] rfl) hm
      · have hm := if_f c7 hm
        refine lv_iload hx hb dX10_melody_206 (lv_at hl 6 rfl) ?_
        refine lv_if_eq (tgt := 215) hx hb dX10_melody_208 (by decide) (fun c8 => ?_) (fun c8 => ?_)
        · have hm := if_t c8 hm
          refine lv_iconst (v := (0 : Int32)) hx hb dX10_melody_215 (by decide) ?_
          exact w_216 σ x6 s0 x8_5 (0 : Int32) H locs ls hw (lv_sub hl [6, 1, 0] rfl) hm
        · have hm := if_f c8 hm
          refine lv_iconst (v := (1 : Int32)) hx hb dX10_melody_211 (by decide) ?_
          refine lv_goto (tgt := 216) hx hb dX10_melody_212 (by decide) ?_
          exact w_216 σ x6 s0 x8_5 (1 : Int32) H locs ls hw (lv_sub hl [6, 1, 0] rfl) hm
  have w_157 : ∀ (σ : St) (x2 : Int32) (x3 : Int32) (x5 : Int32) (s0 : Int32) (H : Heap) (locs : List Loc) (ls : Array Slot), wsM E σ (va_A (wldM E σ0) sz) s H locs → lv_has ls 10 [(0, .ref (E.2.2 1000)), (2, .int x2), (3, .int x3), (5, .int x5)] → M_melody_b157 n σ x2 x3 x5 s0 = some (r, σ') → W p l e rmM_melody s m args below meth c H locs 0 0 (MQ below (QiM E σ0 σ' sz r) args s 0 0 (va_A (wldM E σ0) sz)) (F0 m 157 ls [.int s0]) := by
    intro σ x2 x3 x5 s0 H locs ls hw hl hm
    unfold M_melody_b157 at hm
    refine lv_istore (lv' := [(6, .int s0), (0, .ref (E.2.2 1000)), (2, .int x2), (3, .int x3), (5, .int x5)]) hx hb dX10_melody_157 hl (by decide) rfl (fun ls hl => ?_)
    refine lv_iload hx hb dX10_melody_159 (lv_at hl 4 rfl) ?_
    refine lv_if_eq (tgt := 177) hx hb dX10_melody_161 (by decide) (fun c1 => ?_) (fun c1 => ?_)
    · have hm := if_t c1 hm
      refine lv_iconst (v := (0 : Int32)) hx hb dX10_melody_177 (by decide) ?_
      exact w_178 σ x2 x3 x5 s0 (0 : Int32) H locs ls hw (lv_sub hl [1, 2, 3, 4, 0] rfl) hm
    · have hm := if_f c1 hm
      refine lv_iload_n hx hb dX10_melody_164 rfl (lv_at hl 3 rfl) ?_
      refine lv_aload_n hx hb dX10_melody_165 rfl (lv_at hl 1 rfl) ?_
      refine gtM_30 cx ok hw dX10_melody_166 ?_
      refine lv_iload_n hx hb dX10_melody_169 rfl (lv_at hl 2 rfl) ?_
      refine lv_iconst (v := (1 : Int32)) hx hb dX10_melody_170 (by decide) ?_
      refine lv_isub hx hb dX10_melody_171 ?_
      obtain ⟨g2, hm⟩ := gd_ok hm
      refine ldM_30 cx ok hw g2 dX10_melody_172 ?_
      refine lv_isub hx hb dX10_melody_173 ?_
      refine lv_goto (tgt := 178) hx hb dX10_melody_174 (by decide) ?_
      exact w_178 σ x2 x3 x5 s0 (x3 - (σ.1 30 (x2 - (1 : Int32)).toNatClampNeg)) H locs ls hw (lv_sub hl [1, 2, 3, 4, 0] rfl) hm
  have w_115 : ∀ (σ : St) (x2 : Int32) (x3 : Int32) (s0 : Int32) (H : Heap) (locs : List Loc) (ls : Array Slot), wsM E σ (va_A (wldM E σ0) sz) s H locs → lv_has ls 10 [(0, .ref (E.2.2 1000)), (2, .int x2), (3, .int x3)] → M_melody_b115 n σ x2 x3 s0 = some (r, σ') → W p l e rmM_melody s m args below meth c H locs 0 0 (MQ below (QiM E σ0 σ' sz r) args s 0 0 (va_A (wldM E σ0) sz)) (F0 m 115 ls [.int s0]) := by
    intro σ x2 x3 s0 H locs ls hw hl hm
    unfold M_melody_b115 at hm
    refine lv_istore (lv' := [(5, .int s0), (0, .ref (E.2.2 1000)), (2, .int x2), (3, .int x3)]) hx hb dX10_melody_115 hl (by decide) rfl (fun ls hl => ?_)
    refine lv_iload_n hx hb dX10_melody_117 rfl (lv_at hl 2 rfl) ?_
    refine lv_iconst (v := (1 : Int32)) hx hb dX10_melody_118 (by decide) ?_
    refine lv_iadd hx hb dX10_melody_119 ?_
    refine lv_aload_n hx hb dX10_melody_120 rfl (lv_at hl 1 rfl) ?_
    refine gtM_24 cx ok hw dX10_melody_121 ?_
    refine lv_icmp_ge (tgt := 156) hx hb dX10_melody_124 (by decide) (fun c1 => ?_) (fun c1 => ?_)
    · have hm := if_t c1 hm
      refine lv_iconst (v := (0 : Int32)) hx hb dX10_melody_156 (by decide) ?_
      exact w_157 σ x2 x3 s0 (0 : Int32) H locs ls hw (lv_sub hl [1, 2, 3, 0] rfl) hm
    · have hm := if_f c1 hm
      refine lv_aload_n hx hb dX10_melody_127 rfl (lv_at hl 1 rfl) ?_
      refine gtM_30 cx ok hw dX10_melody_128 ?_
      refine lv_iload_n hx hb dX10_melody_131 rfl (lv_at hl 2 rfl) ?_
      refine lv_iconst (v := (1 : Int32)) hx hb dX10_melody_132 (by decide) ?_
      refine lv_iadd hx hb dX10_melody_133 ?_
      refine lv_aload_n hx hb dX10_melody_134 rfl (lv_at hl 1 rfl) ?_
      refine gtM_24 cx ok hw dX10_melody_135 ?_
      refine lv_icmp_ge (tgt := 147) hx hb dX10_melody_138 (by decide) (fun c2 => ?_) (fun c2 => ?_)
      · have hm := if_t c2 hm
        refine lv_iconst (v := (0 : Int32)) hx hb dX10_melody_147 (by decide) ?_
        obtain ⟨g3, hm⟩ := gd_ok hm
        refine ldM_30 cx ok hw g3 dX10_melody_148 ?_
        refine lv_if_lt (tgt := 156) hx hb dX10_melody_149 (by decide) (fun c4 => ?_) (fun c4 => ?_)
        · have hm := if_t c4 hm
          refine lv_iconst (v := (0 : Int32)) hx hb dX10_melody_156 (by decide) ?_
          exact w_157 σ x2 x3 s0 (0 : Int32) H locs ls hw (lv_sub hl [1, 2, 3, 0] rfl) hm
        · have hm := if_f c4 hm
          refine lv_iconst (v := (1 : Int32)) hx hb dX10_melody_152 (by decide) ?_
          refine lv_goto (tgt := 157) hx hb dX10_melody_153 (by decide) ?_
          exact w_157 σ x2 x3 s0 (1 : Int32) H locs ls hw (lv_sub hl [1, 2, 3, 0] rfl) hm
      · have hm := if_f c2 hm
        refine lv_iload_n hx hb dX10_melody_141 rfl (lv_at hl 2 rfl) ?_
        refine lv_iconst (v := (1 : Int32)) hx hb dX10_melody_142 (by decide) ?_
        refine lv_iadd hx hb dX10_melody_143 ?_
        refine lv_goto (tgt := 148) hx hb dX10_melody_144 (by decide) ?_
        obtain ⟨g5, hm⟩ := gd_ok hm
        refine ldM_30 cx ok hw g5 dX10_melody_148 ?_
        refine lv_if_lt (tgt := 156) hx hb dX10_melody_149 (by decide) (fun c6 => ?_) (fun c6 => ?_)
        · have hm := if_t c6 hm
          refine lv_iconst (v := (0 : Int32)) hx hb dX10_melody_156 (by decide) ?_
          exact w_157 σ x2 x3 s0 (0 : Int32) H locs ls hw (lv_sub hl [1, 2, 3, 0] rfl) hm
        · have hm := if_f c6 hm
          refine lv_iconst (v := (1 : Int32)) hx hb dX10_melody_152 (by decide) ?_
          refine lv_goto (tgt := 157) hx hb dX10_melody_153 (by decide) ?_
          exact w_157 σ x2 x3 s0 (1 : Int32) H locs ls hw (lv_sub hl [1, 2, 3, 0] rfl) hm
  have hl : lv_has ls 10 [(0, .ref (E.2.2 1000)), (1, .int x1), (2, .int x2)] := hl
  unfold M_melody at hm
  have goal0 : ∀ (H : Heap) (locs : List Loc), wsM E σ0 (va_A (wldM E σ0) sz) s H locs → W p l e rmM_melody s m args below meth c H locs 0 0 (MQ below (QiM E σ0 σ' sz r) args s 0 0 (va_A (wldM E σ0) sz)) (F0 m 0 ls []) := by
    intro H locs hw
    refine lv_aload_n hx hb dX10_melody_0 rfl (lv_at hl 0 rfl) ?_
    refine lv_iconst (v := (0 : Int32)) hx hb dX10_melody_1 (by decide) ?_
    refine ptM_0 cx ok hw dX10_melody_2 (fun H locs hw => ?_)
    obtain ⟨σ1, e2, hm⟩ := lt_ok hm
    have hw := wsM_eq e2 hw
    refine lv_aload_n hx hb dX10_melody_5 rfl (lv_at hl 0 rfl) ?_
    refine lv_iload_n hx hb dX10_melody_6 rfl (lv_at hl 1 rfl) ?_
    obtain ⟨r4, h3, hm⟩ := bp_ok hm
    refine clV_Mi (As := [.int x1]) (rest := []) cx hml hl.1 ok hw hA (cM_noReading l E _ σ1 x1 r4 h3) (cwM_noReading hA9 ⟨Nat.le_of_ble_eq_true rfl, Nat.le_of_ble_eq_true rfl⟩) rfl rfl (Nat.le_of_ble_eq_true rfl) dX10_melody_7 (fun H locs hw => ?_)
    refine lv_if_ne (tgt := 34) hx hb dX10_melody_10 (by decide) (fun c5 => ?_) (fun c5 => ?_)
    · have hm := if_f c5 hm
      refine lv_iconst (v := (-1 : Int32)) hx hb dX10_melody_34 (by decide) ?_
      exact rtM_i cx hr hlk hw hm dX10_melody_35
    · have hm := if_t c5 hm
      refine lv_iload_n hx hb dX10_melody_13 rfl (lv_at hl 2 rfl) ?_
      refine lv_if_lt (tgt := 34) hx hb dX10_melody_14 (by decide) (fun c6 => ?_) (fun c6 => ?_)
      · have hm := if_t c6 hm
        refine lv_iconst (v := (-1 : Int32)) hx hb dX10_melody_34 (by decide) ?_
        exact rtM_i cx hr hlk hw hm dX10_melody_35
      · have hm := if_f c6 hm
        refine lv_iload_n hx hb dX10_melody_17 rfl (lv_at hl 2 rfl) ?_
        refine lv_aload_n hx hb dX10_melody_18 rfl (lv_at hl 0 rfl) ?_
        refine gtM_24 cx ok hw dX10_melody_19 ?_
        refine lv_icmp_ge (tgt := 34) hx hb dX10_melody_22 (by decide) (fun c7 => ?_) (fun c7 => ?_)
        · have hm := if_t c7 hm
          refine lv_iconst (v := (-1 : Int32)) hx hb dX10_melody_34 (by decide) ?_
          exact rtM_i cx hr hlk hw hm dX10_melody_35
        · have hm := if_f c7 hm
          refine lv_aload_n hx hb dX10_melody_25 rfl (lv_at hl 0 rfl) ?_
          refine gtM_30 cx ok hw dX10_melody_26 ?_
          refine lv_iload_n hx hb dX10_melody_29 rfl (lv_at hl 2 rfl) ?_
          obtain ⟨g8, hm⟩ := gd_ok hm
          refine ldM_30 cx ok hw g8 dX10_melody_30 ?_
          refine lv_if_ge (tgt := 36) hx hb dX10_melody_31 (by decide) (fun c9 => ?_) (fun c9 => ?_)
          · have hm := if_t c9 hm
            refine lv_aload_n hx hb dX10_melody_36 rfl (lv_at hl 0 rfl) ?_
            refine gtM_30 cx ok hw dX10_melody_37 ?_
            refine lv_iload_n hx hb dX10_melody_40 rfl (lv_at hl 2 rfl) ?_
            obtain ⟨g10, hm⟩ := gd_ok hm
            refine ldM_30 cx ok hw g10 dX10_melody_41 ?_
            obtain ⟨x3_11, e12, hm⟩ := lt_ok hm
            refine ti_eq e12 ?_
            refine lv_istore_n (lv' := [(3, .int x3_11), (0, .ref (E.2.2 1000)), (1, .int x1), (2, .int x2)]) hx hb dX10_melody_42 rfl hl (by decide) rfl (fun ls hl => ?_)
            refine lv_aload_n hx hb dX10_melody_43 rfl (lv_at hl 1 rfl) ?_
            refine gtM_31 cx ok hw dX10_melody_44 ?_
            refine lv_bipush (v := (24 : Int32)) hx hb dX10_melody_47 (by decide) ?_
            refine lv_aload_n hx hb dX10_melody_49 rfl (lv_at hl 1 rfl) ?_
            refine lv_iload_n hx hb dX10_melody_50 rfl (lv_at hl 2 rfl) ?_
            refine lv_iload_n hx hb dX10_melody_51 rfl (lv_at hl 3 rfl) ?_
            obtain ⟨r14, σ15, h13, hm⟩ := bd_ok hm
            refine clV_Mi (As := [.int x1, .int x2]) (rest := [.int (24 : Int32), .ref (E.2.2 31)]) cx hml hl.1 ok hw hA (cM_symbolAt l E n _ σ1 σ15 x1 x2 r14 h13) (cwM_symbolAt hA9 ⟨Nat.le_of_ble_eq_true rfl, Nat.le_of_ble_eq_true rfl⟩) rfl rfl (Nat.le_of_ble_eq_true rfl) dX10_melody_52 (fun H locs hw => ?_)
            refine lv_imul hx hb dX10_melody_55 ?_
            refine lv_iload_n hx hb dX10_melody_56 rfl (lv_at hl 3 rfl) ?_
            refine lv_iadd hx hb dX10_melody_57 ?_
            obtain ⟨g16, hm⟩ := gd_ok hm
            refine ldM_31 cx ok hw g16 dX10_melody_58 ?_
            obtain ⟨x4_17, e18, hm⟩ := lt_ok hm
            refine ti_eq e18 ?_
            refine lv_istore (lv' := [(4, .int x4_17), (3, .int x3_11), (0, .ref (E.2.2 1000)), (1, .int x1), (2, .int x2)]) hx hb dX10_melody_59 hl (by decide) rfl (fun ls hl => ?_)
            refine lv_iload hx hb dX10_melody_61 (lv_at hl 0 rfl) ?_
            refine lv_bipush (v := (12 : Int32)) hx hb dX10_melody_63 (by decide) ?_
            refine lv_irem hx hb dX10_melody_65 (by decide) ?_
            refine lv_iload hx hb dX10_melody_66 (lv_at hl 0 rfl) ?_
            refine lv_bipush (v := (12 : Int32)) hx hb dX10_melody_68 (by decide) ?_
            refine lv_idiv hx hb dX10_melody_70 (by decide) ?_
            obtain ⟨r20, h19, hm⟩ := bp_ok hm
            refine clS_Mi (As := [.int (x4_17 - x4_17 / (12 : Int32) * (12 : Int32)), .int (x4_17 / (12 : Int32))]) (rest := []) cx hml hl.1 ok hw hA (cM_classes l E _ σ15 (x4_17 - x4_17 / (12 : Int32) * (12 : Int32)) (x4_17 / (12 : Int32)) r20 h19) (cwM_classes hA9 ⟨Nat.le_of_ble_eq_true rfl, Nat.le_of_ble_eq_true rfl⟩) rfl rfl (Nat.le_of_ble_eq_true rfl) dX10_melody_71 (fun H locs hw => ?_)
            refine lv_iload_n hx hb dX10_melody_74 rfl (lv_at hl 1 rfl) ?_
            refine lv_bipush (v := (12 : Int32)) hx hb dX10_melody_75 (by decide) ?_
            refine lv_irem hx hb dX10_melody_77 (by decide) ?_
            refine lv_ishr hx hb dX10_melody_78 ?_
            refine lv_iconst (v := (1 : Int32)) hx hb dX10_melody_79 (by decide) ?_
            refine lv_iand hx hb dX10_melody_80 ?_
            refine lv_iconst (v := (1 : Int32)) hx hb dX10_melody_81 (by decide) ?_
            refine lv_icmp_ne (tgt := 87) hx hb dX10_melody_82 (by decide) (fun c21 => ?_) (fun c21 => ?_)
            · have hm := if_f c21 hm
              refine lv_iload_n hx hb dX10_melody_87 rfl (lv_at hl 4 rfl) ?_
              refine lv_if_le (tgt := 114) hx hb dX10_melody_88 (by decide) (fun c22 => ?_) (fun c22 => ?_)
              · have hm := if_t c22 hm
                refine lv_iconst (v := (0 : Int32)) hx hb dX10_melody_114 (by decide) ?_
                exact w_115 σ15 x2 x3_11 (0 : Int32) H locs ls hw (lv_sub hl [2, 4, 1] rfl) hm
              · have hm := if_f c22 hm
                refine lv_aload_n hx hb dX10_melody_91 rfl (lv_at hl 2 rfl) ?_
                refine gtM_30 cx ok hw dX10_melody_92 ?_
                refine lv_iload_n hx hb dX10_melody_95 rfl (lv_at hl 4 rfl) ?_
                refine lv_if_le (tgt := 105) hx hb dX10_melody_96 (by decide) (fun c23 => ?_) (fun c23 => ?_)
                · have hm := if_t c23 hm
                  refine lv_iconst (v := (0 : Int32)) hx hb dX10_melody_105 (by decide) ?_
                  obtain ⟨g24, hm⟩ := gd_ok hm
                  refine ldM_30 cx ok hw g24 dX10_melody_106 ?_
                  refine lv_if_lt (tgt := 114) hx hb dX10_melody_107 (by decide) (fun c25 => ?_) (fun c25 => ?_)
                  · have hm := if_t c25 hm
                    refine lv_iconst (v := (0 : Int32)) hx hb dX10_melody_114 (by decide) ?_
                    exact w_115 σ15 x2 x3_11 (0 : Int32) H locs ls hw (lv_sub hl [2, 4, 1] rfl) hm
                  · have hm := if_f c25 hm
                    refine lv_iconst (v := (1 : Int32)) hx hb dX10_melody_110 (by decide) ?_
                    refine lv_goto (tgt := 115) hx hb dX10_melody_111 (by decide) ?_
                    exact w_115 σ15 x2 x3_11 (1 : Int32) H locs ls hw (lv_sub hl [2, 4, 1] rfl) hm
                · have hm := if_f c23 hm
                  refine lv_iload_n hx hb dX10_melody_99 rfl (lv_at hl 4 rfl) ?_
                  refine lv_iconst (v := (1 : Int32)) hx hb dX10_melody_100 (by decide) ?_
                  refine lv_isub hx hb dX10_melody_101 ?_
                  refine lv_goto (tgt := 106) hx hb dX10_melody_102 (by decide) ?_
                  obtain ⟨g26, hm⟩ := gd_ok hm
                  refine ldM_30 cx ok hw g26 dX10_melody_106 ?_
                  refine lv_if_lt (tgt := 114) hx hb dX10_melody_107 (by decide) (fun c27 => ?_) (fun c27 => ?_)
                  · have hm := if_t c27 hm
                    refine lv_iconst (v := (0 : Int32)) hx hb dX10_melody_114 (by decide) ?_
                    exact w_115 σ15 x2 x3_11 (0 : Int32) H locs ls hw (lv_sub hl [2, 4, 1] rfl) hm
                  · have hm := if_f c27 hm
                    refine lv_iconst (v := (1 : Int32)) hx hb dX10_melody_110 (by decide) ?_
                    refine lv_goto (tgt := 115) hx hb dX10_melody_111 (by decide) ?_
                    exact w_115 σ15 x2 x3_11 (1 : Int32) H locs ls hw (lv_sub hl [2, 4, 1] rfl) hm
            · have hm := if_t c21 hm
              refine lv_iconst (v := (0 : Int32)) hx hb dX10_melody_85 (by decide) ?_
              exact rtM_i cx hr hlk hw hm dX10_melody_86
          · have hm := if_f c9 hm
            refine lv_iconst (v := (-1 : Int32)) hx hb dX10_melody_34 (by decide) ?_
            exact rtM_i cx hr hlk hw hm dX10_melody_35
  exact goal0 _ _ hw
/-! public long cell(int, int, int);: writes -/
def M_cell_b33 (σ : St) (x1 : Int32) (x2 : Int32) (x3 : Int32) (s1 : Int32) : Option (Int64 × St) :=
  lt (sI σ 0 0 s1) fun σ1 =>
  if (σ1.1 0 0) ≤ 0 then
    bp (M_cellOf x3 x1 x2) fun r5 =>
    gd r5 7800 <|
    some ((σ1.2 34 r5.toNatClampNeg), σ1)
  else
    some ((0 : Int64), σ1)
def M_cell (σ0 : St) (x1 : Int32) (x2 : Int32) (x3 : Int32) : Option (Int64 × St) :=
  if x1 < 0 then
    M_cell_b33 σ0 x1 x2 x3 (1 : Int32)
  else
    if x2 < x1 then
      M_cell_b33 σ0 x1 x2 x3 (1 : Int32)
    else
      if (σ0.1 24 0) ≤ x2 then
        M_cell_b33 σ0 x1 x2 x3 (1 : Int32)
      else
        if x3 < 0 then
          M_cell_b33 σ0 x1 x2 x3 (1 : Int32)
        else
          if x3 ≤ (25 : Int32) then
            M_cell_b33 σ0 x1 x2 x3 (0 : Int32)
          else
            M_cell_b33 σ0 x1 x2 x3 (1 : Int32)
abbrev rmM_cell : Room := { frames := 1, cells := 0, slots := 0, locals := 22 }
set_option maxHeartbeats 4000000 in
set_option maxRecDepth 100000 in
theorem cM_cell (l : Launch) (E : Ev) (sz : Nat) (σ0 σ' : St) (x1 : Int32) (x2 : Int32) (x3 : Int32) (r : Int64) (hm : M_cell σ0 x1 x2 x3 = some (r, σ')) : Met l yX10_cell (wz yX10_cell cX10_cell 4 (some .long)) rmM_cell (PwM E [.ref (E.2.2 1000), .int x1, .int x2, .int x3] σ0 sz) (QlM E σ0 σ' sz r) 0 0 (va_A (wldM E σ0) sz) := by
  refine enM (by decide) rfl (Nat.le_of_ble_eq_true rfl) (fun p e s m args below meth c cx hr hlk hml hsz ok hw ls hl => ?_)
  have hx := cx.1
  have hb := cx.2.1
  have hA9 := cx.2.2.2
  have hA : ∀ q, s.heap.size ≤ q → (va_A (wldM E σ0) sz) q := fun q h => Or.inr (by rw [← hsz]; exact h)
  have w_33 : ∀ (σ : St) (x1 : Int32) (x2 : Int32) (x3 : Int32) (s1 : Int32) (H : Heap) (locs : List Loc) (ls : Array Slot), wsM E σ (va_A (wldM E σ0) sz) s H locs → lv_has ls 4 [(0, .ref (E.2.2 1000)), (1, .int x1), (2, .int x2), (3, .int x3)] → M_cell_b33 σ x1 x2 x3 s1 = some (r, σ') → W p l e rmM_cell s m args below meth c H locs 0 0 (MQ below (QlM E σ0 σ' sz r) args s 0 0 (va_A (wldM E σ0) sz)) (F0 m 33 ls [.int s1, .ref (E.2.2 1000)]) := by
    intro σ x1 x2 x3 s1 H locs ls hw hl hm
    unfold M_cell_b33 at hm
    refine ptM_0 cx ok hw dX10_cell_33 (fun H locs hw => ?_)
    obtain ⟨σ1, e2, hm⟩ := lt_ok hm
    have hw := wsM_eq e2 hw
    refine lv_aload_n hx hb dX10_cell_36 rfl (lv_at hl 0 rfl) ?_
    refine gtM_0 cx ok hw dX10_cell_37 ?_
    refine lv_if_le (tgt := 47) hx hb dX10_cell_40 (by decide) (fun c3 => ?_) (fun c3 => ?_)
    · have hm := if_t c3 hm
      refine lv_aload_n hx hb dX10_cell_47 rfl (lv_at hl 0 rfl) ?_
      refine gtM_34 cx ok hw dX10_cell_48 ?_
      refine lv_iload_n hx hb dX10_cell_51 rfl (lv_at hl 3 rfl) ?_
      refine lv_iload_n hx hb dX10_cell_52 rfl (lv_at hl 1 rfl) ?_
      refine lv_iload_n hx hb dX10_cell_53 rfl (lv_at hl 2 rfl) ?_
      obtain ⟨r5, h4, hm⟩ := bp_ok hm
      refine clS_Mi (As := [.int x3, .int x1, .int x2]) (rest := [.ref (E.2.2 34)]) cx hml hl.1 ok hw hA (cM_cellOf l E _ σ1 x3 x1 x2 r5 h4) (cwM_cellOf hA9 ⟨Nat.le_of_ble_eq_true rfl, Nat.le_of_ble_eq_true rfl⟩) rfl rfl (Nat.le_of_ble_eq_true rfl) dX10_cell_54 (fun H locs hw => ?_)
      obtain ⟨g6, hm⟩ := gd_ok hm
      refine ldM_34 cx ok hw g6 dX10_cell_57 ?_
      exact rtM_l cx hr hlk hw hm dX10_cell_58
    · have hm := if_f c3 hm
      refine lv_lconst (v := (0 : Int64)) hx hb dX10_cell_43 (by decide) ?_
      refine lv_goto (tgt := 58) hx hb dX10_cell_44 (by decide) ?_
      exact rtM_l cx hr hlk hw hm dX10_cell_58
  have hl : lv_has ls 4 [(0, .ref (E.2.2 1000)), (1, .int x1), (2, .int x2), (3, .int x3)] := hl
  unfold M_cell at hm
  have goal0 : ∀ (H : Heap) (locs : List Loc), wsM E σ0 (va_A (wldM E σ0) sz) s H locs → W p l e rmM_cell s m args below meth c H locs 0 0 (MQ below (QlM E σ0 σ' sz r) args s 0 0 (va_A (wldM E σ0) sz)) (F0 m 0 ls []) := by
    intro H locs hw
    refine lv_aload_n hx hb dX10_cell_0 rfl (lv_at hl 0 rfl) ?_
    refine lv_iload_n hx hb dX10_cell_1 rfl (lv_at hl 1 rfl) ?_
    refine lv_if_lt (tgt := 28) hx hb dX10_cell_2 (by decide) (fun c1 => ?_) (fun c1 => ?_)
    · have hm := if_t c1 hm
      refine lv_iconst (v := (1 : Int32)) hx hb dX10_cell_28 (by decide) ?_
      refine lv_goto (tgt := 33) hx hb dX10_cell_29 (by decide) ?_
      exact w_33 σ0 x1 x2 x3 (1 : Int32) H locs ls hw (lv_sub hl [0, 1, 2, 3] rfl) hm
    · have hm := if_f c1 hm
      refine lv_iload_n hx hb dX10_cell_5 rfl (lv_at hl 1 rfl) ?_
      refine lv_iload_n hx hb dX10_cell_6 rfl (lv_at hl 2 rfl) ?_
      refine lv_icmp_gt (tgt := 28) hx hb dX10_cell_7 (by decide) (fun c2 => ?_) (fun c2 => ?_)
      · have hm := if_t c2 hm
        refine lv_iconst (v := (1 : Int32)) hx hb dX10_cell_28 (by decide) ?_
        refine lv_goto (tgt := 33) hx hb dX10_cell_29 (by decide) ?_
        exact w_33 σ0 x1 x2 x3 (1 : Int32) H locs ls hw (lv_sub hl [0, 1, 2, 3] rfl) hm
      · have hm := if_f c2 hm
        refine lv_iload_n hx hb dX10_cell_10 rfl (lv_at hl 2 rfl) ?_
        refine lv_aload_n hx hb dX10_cell_11 rfl (lv_at hl 0 rfl) ?_
        refine gtM_24 cx ok hw dX10_cell_12 ?_
        refine lv_icmp_ge (tgt := 28) hx hb dX10_cell_15 (by decide) (fun c3 => ?_) (fun c3 => ?_)
        · have hm := if_t c3 hm
          refine lv_iconst (v := (1 : Int32)) hx hb dX10_cell_28 (by decide) ?_
          refine lv_goto (tgt := 33) hx hb dX10_cell_29 (by decide) ?_
          exact w_33 σ0 x1 x2 x3 (1 : Int32) H locs ls hw (lv_sub hl [0, 1, 2, 3] rfl) hm
        · have hm := if_f c3 hm
          refine lv_iload_n hx hb dX10_cell_18 rfl (lv_at hl 3 rfl) ?_
          refine lv_if_lt (tgt := 28) hx hb dX10_cell_19 (by decide) (fun c4 => ?_) (fun c4 => ?_)
          · have hm := if_t c4 hm
            refine lv_iconst (v := (1 : Int32)) hx hb dX10_cell_28 (by decide) ?_
            refine lv_goto (tgt := 33) hx hb dX10_cell_29 (by decide) ?_
            exact w_33 σ0 x1 x2 x3 (1 : Int32) H locs ls hw (lv_sub hl [0, 1, 2, 3] rfl) hm
          · have hm := if_f c4 hm
            refine lv_iload_n hx hb dX10_cell_22 rfl (lv_at hl 3 rfl) ?_
            refine lv_bipush (v := (25 : Int32)) hx hb dX10_cell_23 (by decide) ?_
            refine lv_icmp_le (tgt := 32) hx hb dX10_cell_25 (by decide) (fun c5 => ?_) (fun c5 => ?_)
            · have hm := if_t c5 hm
              refine lv_iconst (v := (0 : Int32)) hx hb dX10_cell_32 (by decide) ?_
              exact w_33 σ0 x1 x2 x3 (0 : Int32) H locs ls hw (lv_sub hl [0, 1, 2, 3] rfl) hm
            · have hm := if_f c5 hm
              refine lv_iconst (v := (1 : Int32)) hx hb dX10_cell_28 (by decide) ?_
              refine lv_goto (tgt := 33) hx hb dX10_cell_29 (by decide) ?_
              exact w_33 σ0 x1 x2 x3 (1 : Int32) H locs ls hw (lv_sub hl [0, 1, 2, 3] rfl) hm
  exact goal0 _ _ hw
/-! public int told(int);: writes -/
def M_told (σ0 : St) (x1 : Int32) : Option (Int32 × St) :=
  lt (sI σ0 0 0 (0 : Int32)) fun σ1 =>
  if x1 = (0 : Int32) then
    some ((σ1.1 6 0), σ1)
  else
  if x1 = (1 : Int32) then
    some ((σ1.1 10 0), σ1)
  else
  if x1 = (2 : Int32) then
    some ((σ1.1 5 0), σ1)
  else
  if x1 = (3 : Int32) then
    bp (M_listed σ1) fun r8 =>
    some (r8, σ1)
  else
  if x1 = (4 : Int32) then
    some ((σ1.1 24 0), σ1)
  else
    some ((-1 : Int32), σ1)
abbrev rmM_told : Room := { frames := 3, cells := 0, slots := 0, locals := 62 }
set_option maxHeartbeats 4000000 in
set_option maxRecDepth 100000 in
theorem cM_told (l : Launch) (E : Ev) (sz : Nat) (σ0 σ' : St) (x1 : Int32) (r : Int32) (hm : M_told σ0 x1 = some (r, σ')) : Met l yX10_told (wz yX10_told cX10_told 2 (some .int)) rmM_told (PwM E [.ref (E.2.2 1000), .int x1] σ0 sz) (QiM E σ0 σ' sz r) 0 0 (va_A (wldM E σ0) sz) := by
  refine enM (by decide) rfl (Nat.le_of_ble_eq_true rfl) (fun p e s m args below meth c cx hr hlk hml hsz ok hw ls hl => ?_)
  have hx := cx.1
  have hb := cx.2.1
  have hA9 := cx.2.2.2
  have hA : ∀ q, s.heap.size ≤ q → (va_A (wldM E σ0) sz) q := fun q h => Or.inr (by rw [← hsz]; exact h)
  have hl : lv_has ls 2 [(0, .ref (E.2.2 1000)), (1, .int x1)] := hl
  unfold M_told at hm
  have goal0 : ∀ (H : Heap) (locs : List Loc), wsM E σ0 (va_A (wldM E σ0) sz) s H locs → W p l e rmM_told s m args below meth c H locs 0 0 (MQ below (QiM E σ0 σ' sz r) args s 0 0 (va_A (wldM E σ0) sz)) (F0 m 0 ls []) := by
    intro H locs hw
    refine lv_aload_n hx hb dX10_told_0 rfl (lv_at hl 0 rfl) ?_
    refine lv_iconst (v := (0 : Int32)) hx hb dX10_told_1 (by decide) ?_
    refine ptM_0 cx ok hw dX10_told_2 (fun H locs hw => ?_)
    obtain ⟨σ1, e2, hm⟩ := lt_ok hm
    have hw := wsM_eq e2 hw
    refine lv_iload_n hx hb dX10_told_5 rfl (lv_at hl 1 rfl) ?_
    by_cases c3 : x1 = (0 : Int32)
    · refine lv_tableIn (tgt := 40) hx hb dX10_told_6 (by rw [c3]; decide) (by rw [c3]; decide) (by rw [c3]; rfl) (by decide) ?_
      have hm := if_t c3 hm
      refine lv_aload_n hx hb dX10_told_40 rfl (lv_at hl 0 rfl) ?_
      refine gtM_6 cx ok hw dX10_told_41 ?_
      exact rtM_i cx hr hlk hw hm dX10_told_44
    have hm := if_f c3 hm
    by_cases c4 : x1 = (1 : Int32)
    · refine lv_tableIn (tgt := 45) hx hb dX10_told_6 (by rw [c4]; decide) (by rw [c4]; decide) (by rw [c4]; rfl) (by decide) ?_
      have hm := if_t c4 hm
      refine lv_aload_n hx hb dX10_told_45 rfl (lv_at hl 0 rfl) ?_
      refine gtM_10 cx ok hw dX10_told_46 ?_
      exact rtM_i cx hr hlk hw hm dX10_told_49
    have hm := if_f c4 hm
    by_cases c5 : x1 = (2 : Int32)
    · refine lv_tableIn (tgt := 50) hx hb dX10_told_6 (by rw [c5]; decide) (by rw [c5]; decide) (by rw [c5]; rfl) (by decide) ?_
      have hm := if_t c5 hm
      refine lv_aload_n hx hb dX10_told_50 rfl (lv_at hl 0 rfl) ?_
      refine gtM_5 cx ok hw dX10_told_51 ?_
      exact rtM_i cx hr hlk hw hm dX10_told_54
    have hm := if_f c5 hm
    by_cases c6 : x1 = (3 : Int32)
    · refine lv_tableIn (tgt := 55) hx hb dX10_told_6 (by rw [c6]; decide) (by rw [c6]; decide) (by rw [c6]; rfl) (by decide) ?_
      have hm := if_t c6 hm
      refine lv_aload_n hx hb dX10_told_55 rfl (lv_at hl 0 rfl) ?_
      obtain ⟨r8, h7, hm⟩ := bp_ok hm
      refine clV_Mi (As := []) (rest := []) cx hml hl.1 ok hw hA (cM_listed l E _ σ1 r8 h7) (cwM_listed hA9 ⟨Nat.le_of_ble_eq_true rfl, Nat.le_of_ble_eq_true rfl⟩) rfl rfl (Nat.le_of_ble_eq_true rfl) dX10_told_56 (fun H locs hw => ?_)
      exact rtM_i cx hr hlk hw hm dX10_told_59
    have hm := if_f c6 hm
    by_cases c9 : x1 = (4 : Int32)
    · refine lv_tableIn (tgt := 60) hx hb dX10_told_6 (by rw [c9]; decide) (by rw [c9]; decide) (by rw [c9]; rfl) (by decide) ?_
      have hm := if_t c9 hm
      refine lv_aload_n hx hb dX10_told_60 rfl (lv_at hl 0 rfl) ?_
      refine gtM_24 cx ok hw dX10_told_61 ?_
      exact rtM_i cx hr hlk hw hm dX10_told_64
    have hm := if_f c9 hm
    have c3 := ne_ti c3
    rw [show ((0 : Int32)).toInt = 0 from by decide] at c3
    have c4 := ne_ti c4
    rw [show ((1 : Int32)).toInt = 1 from by decide] at c4
    have c5 := ne_ti c5
    rw [show ((2 : Int32)).toInt = 2 from by decide] at c5
    have c6 := ne_ti c6
    rw [show ((3 : Int32)).toInt = 3 from by decide] at c6
    have c9 := ne_ti c9
    rw [show ((4 : Int32)).toInt = 4 from by decide] at c9
    refine lv_tableOut (tgt := 65) hx hb dX10_told_6 (by omega) (by decide) ?_
    refine lv_iconst (v := (-1 : Int32)) hx hb dX10_told_65 (by decide) ?_
    exact rtM_i cx hr hlk hw hm dX10_told_66
  exact goal0 _ _ hw

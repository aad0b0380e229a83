/-! public int thrown();: reads only -/
def M_thrown (σ0 : St) : Option Int32 :=
  some (σ0.1 0 0)
abbrev rmM_thrown : Room := { frames := 0, cells := 0, slots := 0, locals := 0 }
set_option maxHeartbeats 4000000 in
set_option maxRecDepth 100000 in
theorem cM_thrown (l : Launch) (E : Ev) (sz : Nat) (σ0 : St) (r : Int32) (hm : M_thrown σ0 = some r) : Met l yX10_thrown (wz yX10_thrown cX10_thrown 1 (some .int)) rmM_thrown (PwM E [.ref (E.2.2 1000)] σ0 sz) (QiM E σ0 σ0 sz r) 0 0 (va_A (wldM E σ0) sz) := by
  refine enM (by decide) rfl (Nat.le_of_ble_eq_true rfl) (fun p e s m args below meth c cx hr hlk hml hsz ok hw ls hl => ?_)
  have hx := cx.1
  have hb := cx.2.1
  have hA9 := cx.2.2.2
  have hA : ∀ q, s.heap.size ≤ q → (va_A (wldM E σ0) sz) q := fun q h => Or.inr (by rw [← hsz]; exact h)
  have hl : lv_has ls 1 [(0, .ref (E.2.2 1000))] := hl
  unfold M_thrown at hm
  have goal0 : ∀ (H : Heap) (locs : List Loc), wsM E σ0 (va_A (wldM E σ0) sz) s H locs → W p l e rmM_thrown s m args below meth c H locs 0 0 (MQ below (QiM E σ0 σ0 sz r) args s 0 0 (va_A (wldM E σ0) sz)) (F0 m 0 ls []) := by
    intro H locs hw
    refine lv_aload_n hx hb dX10_thrown_0 rfl (lv_at hl 0 rfl) ?_
    refine gtM_0 cx ok hw dX10_thrown_1 ?_
    exact rtM_i cx hr hlk hw (pr_some hm) dX10_thrown_4
  exact goal0 _ _ hw
/-! public boolean key(int, boolean);: writes -/
def M_key (σ0 : St) (x1 : Int32) (x2 : Int32) : Option (Int32 × St) :=
  lt (sI σ0 0 0 (0 : Int32)) fun σ1 =>
  if x1 < 0 then
    some ((0 : Int32), σ1)
  else
    if x1 ≤ (11 : Int32) then
      lt (sI σ1 1 0 x1) fun σ5 =>
      gb x2 <|
      lt (sI σ5 2 0 x2) fun σ8 =>
      some ((1 : Int32), σ8)
    else
      some ((0 : Int32), σ1)
abbrev rmM_key : Room := { frames := 0, cells := 0, slots := 0, locals := 0 }
set_option maxHeartbeats 4000000 in
set_option maxRecDepth 100000 in
theorem cM_key (l : Launch) (E : Ev) (sz : Nat) (σ0 σ' : St) (x1 : Int32) (x2 : Int32) (r : Int32) (hm : M_key σ0 x1 x2 = some (r, σ')) : Met l yX10_key (wz yX10_key cX10_key 3 (some .boolean)) rmM_key (PwM E [.ref (E.2.2 1000), .int x1, .int x2] σ0 sz) (QiM E σ0 σ' sz r) 0 0 (va_A (wldM E σ0) sz) := by
  refine enM (by decide) rfl (Nat.le_of_ble_eq_true rfl) (fun p e s m args below meth c cx hr hlk hml hsz ok hw ls hl => ?_)
  have hx := cx.1
  have hb := cx.2.1
  have hA9 := cx.2.2.2
  have hA : ∀ q, s.heap.size ≤ q → (va_A (wldM E σ0) sz) q := fun q h => Or.inr (by rw [← hsz]; exact h)
  have hl : lv_has ls 3 [(0, .ref (E.2.2 1000)), (1, .int x1), (2, .int x2)] := hl
  unfold M_key at hm
  have goal0 : ∀ (H : Heap) (locs : List Loc), wsM E σ0 (va_A (wldM E σ0) sz) s H locs → W p l e rmM_key s m args below meth c H locs 0 0 (MQ below (QiM E σ0 σ' sz r) args s 0 0 (va_A (wldM E σ0) sz)) (F0 m 0 ls []) := by
    intro H locs hw
    refine lv_aload_n hx hb dX10_key_0 rfl (lv_at hl 0 rfl) ?_
    refine lv_iconst (v := (0 : Int32)) hx hb dX10_key_1 (by decide) ?_
    refine ptM_0 cx ok hw dX10_key_2 (fun H locs hw => ?_)
    obtain ⟨σ1, e2, hm⟩ := lt_ok hm
    have hw := wsM_eq e2 hw
    refine lv_iload_n hx hb dX10_key_5 rfl (lv_at hl 1 rfl) ?_
    refine lv_if_lt (tgt := 15) hx hb dX10_key_6 (by decide) (fun c3 => ?_) (fun c3 => ?_)
    · have hm := if_t c3 hm
      refine lv_iconst (v := (0 : Int32)) hx hb dX10_key_15 (by decide) ?_
      exact rtM_z cx hr hlk hw (by decide) hm dX10_key_16
    · have hm := if_f c3 hm
      refine lv_iload_n hx hb dX10_key_9 rfl (lv_at hl 1 rfl) ?_
      refine lv_bipush (v := (11 : Int32)) hx hb dX10_key_10 (by decide) ?_
      refine lv_icmp_le (tgt := 17) hx hb dX10_key_12 (by decide) (fun c4 => ?_) (fun c4 => ?_)
      · have hm := if_t c4 hm
        refine lv_aload_n hx hb dX10_key_17 rfl (lv_at hl 0 rfl) ?_
        refine lv_iload_n hx hb dX10_key_18 rfl (lv_at hl 1 rfl) ?_
        refine ptM_1 cx ok hw dX10_key_19 (fun H locs hw => ?_)
        obtain ⟨σ5, e6, hm⟩ := lt_ok hm
        have hw := wsM_eq e6 hw
        refine lv_aload_n hx hb dX10_key_22 rfl (lv_at hl 0 rfl) ?_
        refine lv_iload_n hx hb dX10_key_23 rfl (lv_at hl 2 rfl) ?_
        obtain ⟨g7, hm⟩ := gb_ok hm
        refine ptM_2 cx ok hw g7 dX10_key_24 (fun H locs hw => ?_)
        obtain ⟨σ8, e9, hm⟩ := lt_ok hm
        have hw := wsM_eq e9 hw
        refine lv_iconst (v := (1 : Int32)) hx hb dX10_key_27 (by decide) ?_
        exact rtM_z cx hr hlk hw (by decide) hm dX10_key_28
      · have hm := if_f c4 hm
        refine lv_iconst (v := (0 : Int32)) hx hb dX10_key_15 (by decide) ?_
        exact rtM_z cx hr hlk hw (by decide) hm dX10_key_16
  exact goal0 _ _ hw
/-! public boolean cost(int, int);: writes -/
def M_cost (σ0 : St) (x1 : Int32) (x2 : Int32) : Option (Int32 × St) :=
  lt (sI σ0 0 0 (0 : Int32)) fun σ1 =>
  if x1 < 0 then
    some ((0 : Int32), σ1)
  else
    if (3 : Int32) < x1 then
      some ((0 : Int32), σ1)
    else
      if x2 < 0 then
        some ((0 : Int32), σ1)
      else
        if x2 ≤ (1000 : Int32) then
          gd x1 4 <|
          lt (sI σ1 3 x1.toNatClampNeg x2) fun σ8 =>
          some ((1 : Int32), σ8)
        else
          some ((0 : Int32), σ1)
abbrev rmM_cost : Room := { frames := 0, cells := 0, slots := 0, locals := 0 }
set_option maxHeartbeats 4000000 in
set_option maxRecDepth 100000 in
theorem cM_cost (l : Launch) (E : Ev) (sz : Nat) (σ0 σ' : St) (x1 : Int32) (x2 : Int32) (r : Int32) (hm : M_cost σ0 x1 x2 = some (r, σ')) : Met l yX10_cost (wz yX10_cost cX10_cost 3 (some .boolean)) rmM_cost (PwM E [.ref (E.2.2 1000), .int x1, .int x2] σ0 sz) (QiM E σ0 σ' sz r) 0 0 (va_A (wldM E σ0) sz) := by
  refine enM (by decide) rfl (Nat.le_of_ble_eq_true rfl) (fun p e s m args below meth c cx hr hlk hml hsz ok hw ls hl => ?_)
  have hx := cx.1
  have hb := cx.2.1
  have hA9 := cx.2.2.2
  have hA : ∀ q, s.heap.size ≤ q → (va_A (wldM E σ0) sz) q := fun q h => Or.inr (by rw [← hsz]; exact h)
  have hl : lv_has ls 3 [(0, .ref (E.2.2 1000)), (1, .int x1), (2, .int x2)] := hl
  unfold M_cost at hm
  have goal0 : ∀ (H : Heap) (locs : List Loc), wsM E σ0 (va_A (wldM E σ0) sz) s H locs → W p l e rmM_cost s m args below meth c H locs 0 0 (MQ below (QiM E σ0 σ' sz r) args s 0 0 (va_A (wldM E σ0) sz)) (F0 m 0 ls []) := by
    intro H locs hw
    refine lv_aload_n hx hb dX10_cost_0 rfl (lv_at hl 0 rfl) ?_
    refine lv_iconst (v := (0 : Int32)) hx hb dX10_cost_1 (by decide) ?_
    refine ptM_0 cx ok hw dX10_cost_2 (fun H locs hw => ?_)
    obtain ⟨σ1, e2, hm⟩ := lt_ok hm
    have hw := wsM_eq e2 hw
    refine lv_iload_n hx hb dX10_cost_5 rfl (lv_at hl 1 rfl) ?_
    refine lv_if_lt (tgt := 25) hx hb dX10_cost_6 (by decide) (fun c3 => ?_) (fun c3 => ?_)
    · have hm := if_t c3 hm
      refine lv_iconst (v := (0 : Int32)) hx hb dX10_cost_25 (by decide) ?_
      exact rtM_z cx hr hlk hw (by decide) hm dX10_cost_26
    · have hm := if_f c3 hm
      refine lv_iload_n hx hb dX10_cost_9 rfl (lv_at hl 1 rfl) ?_
      refine lv_iconst (v := (3 : Int32)) hx hb dX10_cost_10 (by decide) ?_
      refine lv_icmp_gt (tgt := 25) hx hb dX10_cost_11 (by decide) (fun c4 => ?_) (fun c4 => ?_)
      · have hm := if_t c4 hm
        refine lv_iconst (v := (0 : Int32)) hx hb dX10_cost_25 (by decide) ?_
        exact rtM_z cx hr hlk hw (by decide) hm dX10_cost_26
      · have hm := if_f c4 hm
        refine lv_iload_n hx hb dX10_cost_14 rfl (lv_at hl 2 rfl) ?_
        refine lv_if_lt (tgt := 25) hx hb dX10_cost_15 (by decide) (fun c5 => ?_) (fun c5 => ?_)
        · have hm := if_t c5 hm
          refine lv_iconst (v := (0 : Int32)) hx hb dX10_cost_25 (by decide) ?_
          exact rtM_z cx hr hlk hw (by decide) hm dX10_cost_26
        · have hm := if_f c5 hm
          refine lv_iload_n hx hb dX10_cost_18 rfl (lv_at hl 2 rfl) ?_
          refine lv_sipush (v := (1000 : Int32)) hx hb dX10_cost_19 (by decide) ?_
          refine lv_icmp_le (tgt := 27) hx hb dX10_cost_22 (by decide) (fun c6 => ?_) (fun c6 => ?_)
          · have hm := if_t c6 hm
            refine lv_aload_n hx hb dX10_cost_27 rfl (lv_at hl 0 rfl) ?_
            refine gtM_3 cx ok hw dX10_cost_28 ?_
            refine lv_iload_n hx hb dX10_cost_31 rfl (lv_at hl 1 rfl) ?_
            refine lv_iload_n hx hb dX10_cost_32 rfl (lv_at hl 2 rfl) ?_
            obtain ⟨g7, hm⟩ := gd_ok hm
            refine stM_3 cx ok hw g7 dX10_cost_33 (fun H locs hw => ?_)
            obtain ⟨σ8, e9, hm⟩ := lt_ok hm
            have hw := wsM_eq e9 hw
            refine lv_iconst (v := (1 : Int32)) hx hb dX10_cost_34 (by decide) ?_
            exact rtM_z cx hr hlk hw (by decide) hm dX10_cost_35
          · have hm := if_f c6 hm
            refine lv_iconst (v := (0 : Int32)) hx hb dX10_cost_25 (by decide) ?_
            exact rtM_z cx hr hlk hw (by decide) hm dX10_cost_26
  exact goal0 _ _ hw
/-! public int draft(int, long);: writes, loops -/
def M_draft_l33 (n : Nat) : Nat → St → Int32 → Int64 → Int32 → Option (Int32 × St)
  | 0, _, _, _, _ => none
  | f + 1, σ, x1, x2, x4 =>
    if x1 ≤ x4 then
      some ((σ.1 5 0), σ)
    else
      gd (σ.1 5 0) 800 <|
      lt (sI σ 4 (σ.1 5 0).toNatClampNeg (((x2 >>> (((8 : Int32) * x4).toInt64 &&& 63)) &&& (255 : Int64)).toInt32)) fun σ3 =>
      lt (sI σ3 5 0 ((σ3.1 5 0) + (1 : Int32))) fun σ5 =>
      lt (x4 + (1 : Int32)) fun x4_7 =>
      (M_draft_l33 n f) σ5 x1 x2 x4_7
def M_draft (n : Nat) (σ0 : St) (x1 : Int32) (x2 : Int64) : Option (Int32 × St) :=
  lt (sI σ0 0 0 (0 : Int32)) fun σ1 =>
  if x1 < (1 : Int32) then
    some ((-1 : Int32), σ1)
  else
    if (8 : Int32) < x1 then
      some ((-1 : Int32), σ1)
    else
      if ((σ1.1 5 0) + x1) ≤ (800 : Int32) then
        M_draft_l33 n n σ1 x1 x2 (0 : Int32)
      else
        some ((-1 : Int32), σ1)
abbrev rmM_draft : Room := { frames := 0, cells := 0, slots := 0, locals := 0 }
set_option maxHeartbeats 4000000 in
set_option maxRecDepth 100000 in
theorem cM_draft (l : Launch) (E : Ev) (n : Nat) (sz : Nat) (σ0 σ' : St) (x1 : Int32) (x2 : Int64) (r : Int32) (hm : M_draft n σ0 x1 x2 = some (r, σ')) : Met l yX10_draft (wz yX10_draft cX10_draft 5 (some .int)) rmM_draft (PwM E [.ref (E.2.2 1000), .int x1, .long x2] σ0 sz) (QiM E σ0 σ' sz r) 0 0 (va_A (wldM E σ0) sz) := by
  refine enM (by decide) rfl (Nat.le_of_ble_eq_true rfl) (fun p e s m args below meth c cx hr hlk hml hsz ok hw ls hl => ?_)
  have hx := cx.1
  have hb := cx.2.1
  have hA9 := cx.2.2.2
  have hA : ∀ q, s.heap.size ≤ q → (va_A (wldM E σ0) sz) q := fun q h => Or.inr (by rw [← hsz]; exact h)
  have w_33 : ∀ (f : Nat), ∀ (σ : St) (x1 : Int32) (x2 : Int64) (x4 : Int32) (H : Heap) (locs : List Loc) (ls : Array Slot), wsM E σ (va_A (wldM E σ0) sz) s H locs → lv_has ls 5 [(0, .ref (E.2.2 1000)), (1, .int x1), (2, .long x2), (4, .int x4)] → M_draft_l33 n f σ x1 x2 x4 = some (r, σ') → W p l e rmM_draft s m args below meth c H locs 0 0 (MQ below (QiM E σ0 σ' sz r) args s 0 0 (va_A (wldM E σ0) sz)) (F0 m 33 ls []) := by
    intro f
    induction f with
    | zero =>
      intro σ x1 x2 x4 H locs ls hw hl hm
      rw [M_draft_l33] at hm
      cases hm
    | succ f ih =>
      intro σ x1 x2 x4 H locs ls hw hl hm
      rw [M_draft_l33] at hm
      refine lv_iload hx hb dX10_draft_33 (lv_at hl 3 rfl) ?_
      refine lv_iload_n hx hb dX10_draft_35 rfl (lv_at hl 1 rfl) ?_
      refine lv_icmp_ge (tgt := 76) hx hb dX10_draft_36 (by decide) (fun c1 => ?_) (fun c1 => ?_)
      · have hm := if_t c1 hm
        refine lv_aload_n hx hb dX10_draft_76 rfl (lv_at hl 0 rfl) ?_
        refine gtM_5 cx ok hw dX10_draft_77 ?_
        exact rtM_i cx hr hlk hw hm dX10_draft_80
      · have hm := if_f c1 hm
        refine lv_aload_n hx hb dX10_draft_39 rfl (lv_at hl 0 rfl) ?_
        refine gtM_4 cx ok hw dX10_draft_40 ?_
        refine lv_aload_n hx hb dX10_draft_43 rfl (lv_at hl 0 rfl) ?_
        refine gtM_5 cx ok hw dX10_draft_44 ?_
        refine lv_lload_n hx hb dX10_draft_47 rfl (lv_at hl 2 rfl) ?_
        refine lv_bipush (v := (8 : Int32)) hx hb dX10_draft_48 (by decide) ?_
        refine lv_iload hx hb dX10_draft_50 (lv_at hl 3 rfl) ?_
        refine lv_imul hx hb dX10_draft_52 ?_
        refine lv_lshr hx hb dX10_draft_53 rfl ?_
        refine W.ldc2 (v := (255 : Int64)) hx hb cx.2.2.1 (hA9 _ k_953) rfl dX10_draft_54 ?_
        refine W.eq (g2 := F0 m 57 ls [.long (255 : Int64), .long (x2 >>> (((8 : Int32) * x4).toInt64 &&& 63)), .int (σ.1 5 0), .ref (E.2.2 4)]) rfl ?_
        refine lv_land hx hb dX10_draft_57 ?_
        refine lv_l2i hx hb dX10_draft_58 rfl ?_
        obtain ⟨g2, hm⟩ := gd_ok hm
        refine stM_4 cx ok hw g2 dX10_draft_59 (fun H locs hw => ?_)
        obtain ⟨σ3, e4, hm⟩ := lt_ok hm
        have hw := wsM_eq e4 hw
        refine lv_aload_n hx hb dX10_draft_60 rfl (lv_at hl 0 rfl) ?_
        refine lv_dup hx hb dX10_draft_61 rfl ?_
        refine gtM_5 cx ok hw dX10_draft_62 ?_
        refine lv_iconst (v := (1 : Int32)) hx hb dX10_draft_65 (by decide) ?_
        refine lv_iadd hx hb dX10_draft_66 ?_
        refine ptM_5 cx ok hw dX10_draft_67 (fun H locs hw => ?_)
        obtain ⟨σ5, e6, hm⟩ := lt_ok hm
        have hw := wsM_eq e6 hw
        obtain ⟨x4_7, e8, hm⟩ := lt_ok hm
        refine lv_iinc (v := x4_7) (lv' := [(4, .int x4_7), (0, .ref (E.2.2 1000)), (1, .int x1), (2, .long x2)]) hx hb dX10_draft_70 hl (k := 3) rfl (by rw [e8]; rfl) (by decide) rfl (fun ls hl => ?_)
        refine lv_goto (tgt := 33) hx hb dX10_draft_73 (by decide) ?_
        exact ih σ5 x1 x2 x4_7 H locs ls hw (lv_sub hl [1, 2, 3, 0] rfl) hm
  have hl : lv_has ls 5 [(0, .ref (E.2.2 1000)), (1, .int x1), (2, .long x2)] := hl
  unfold M_draft at hm
  have goal0 : ∀ (H : Heap) (locs : List Loc), wsM E σ0 (va_A (wldM E σ0) sz) s H locs → W p l e rmM_draft s m args below meth c H locs 0 0 (MQ below (QiM E σ0 σ' sz r) args s 0 0 (va_A (wldM E σ0) sz)) (F0 m 0 ls []) := by
    intro H locs hw
    refine lv_aload_n hx hb dX10_draft_0 rfl (lv_at hl 0 rfl) ?_
    refine lv_iconst (v := (0 : Int32)) hx hb dX10_draft_1 (by decide) ?_
    refine ptM_0 cx ok hw dX10_draft_2 (fun H locs hw => ?_)
    obtain ⟨σ1, e2, hm⟩ := lt_ok hm
    have hw := wsM_eq e2 hw
    refine lv_iload_n hx hb dX10_draft_5 rfl (lv_at hl 1 rfl) ?_
    refine lv_iconst (v := (1 : Int32)) hx hb dX10_draft_6 (by decide) ?_
    refine lv_icmp_lt (tgt := 28) hx hb dX10_draft_7 (by decide) (fun c3 => ?_) (fun c3 => ?_)
    · have hm := if_t c3 hm
      refine lv_iconst (v := (-1 : Int32)) hx hb dX10_draft_28 (by decide) ?_
      exact rtM_i cx hr hlk hw hm dX10_draft_29
    · have hm := if_f c3 hm
      refine lv_iload_n hx hb dX10_draft_10 rfl (lv_at hl 1 rfl) ?_
      refine lv_bipush (v := (8 : Int32)) hx hb dX10_draft_11 (by decide) ?_
      refine lv_icmp_gt (tgt := 28) hx hb dX10_draft_13 (by decide) (fun c4 => ?_) (fun c4 => ?_)
      · have hm := if_t c4 hm
        refine lv_iconst (v := (-1 : Int32)) hx hb dX10_draft_28 (by decide) ?_
        exact rtM_i cx hr hlk hw hm dX10_draft_29
      · have hm := if_f c4 hm
        refine lv_aload_n hx hb dX10_draft_16 rfl (lv_at hl 0 rfl) ?_
        refine gtM_5 cx ok hw dX10_draft_17 ?_
        refine lv_iload_n hx hb dX10_draft_20 rfl (lv_at hl 1 rfl) ?_
        refine lv_iadd hx hb dX10_draft_21 ?_
        refine lv_sipush (v := (800 : Int32)) hx hb dX10_draft_22 (by decide) ?_
        refine lv_icmp_le (tgt := 30) hx hb dX10_draft_25 (by decide) (fun c5 => ?_) (fun c5 => ?_)
        · have hm := if_t c5 hm
          refine lv_iconst (v := (0 : Int32)) hx hb dX10_draft_30 (by decide) ?_
          refine lv_istore (lv' := [(4, .int (0 : Int32)), (0, .ref (E.2.2 1000)), (1, .int x1), (2, .long x2)]) hx hb dX10_draft_31 hl (by decide) rfl (fun ls hl => ?_)
          exact w_33 n σ1 x1 x2 (0 : Int32) H locs ls hw (lv_sub hl [1, 2, 3, 0] rfl) hm
        · have hm := if_f c5 hm
          refine lv_iconst (v := (-1 : Int32)) hx hb dX10_draft_28 (by decide) ?_
          exact rtM_i cx hr hlk hw hm dX10_draft_29
  exact goal0 _ _ hw
/-! private int here();: reads only -/
def M_here (σ0 : St) : Option Int32 :=
  if (σ0.1 5 0) ≤ (σ0.1 21 0) then
    some (-1 : Int32)
  else
    gd (σ0.1 21 0) 800 <|
    some (σ0.1 4 (σ0.1 21 0).toNatClampNeg)
abbrev rmM_here : Room := { frames := 0, cells := 0, slots := 0, locals := 0 }
set_option maxHeartbeats 4000000 in
set_option maxRecDepth 100000 in
theorem cM_here (l : Launch) (E : Ev) (sz : Nat) (σ0 : St) (r : Int32) (hm : M_here σ0 = some r) : Met l yX10_here (wz yX10_here cX10_here 1 (some .int)) rmM_here (PwM E [.ref (E.2.2 1000)] σ0 sz) (QiM E σ0 σ0 sz r) 0 0 (va_A (wldM E σ0) sz) := by
  refine enM (by decide) rfl (Nat.le_of_ble_eq_true rfl) (fun p e s m args below meth c cx hr hlk hml hsz ok hw ls hl => ?_)
  have hx := cx.1
  have hb := cx.2.1
  have hA9 := cx.2.2.2
  have hA : ∀ q, s.heap.size ≤ q → (va_A (wldM E σ0) sz) q := fun q h => Or.inr (by rw [← hsz]; exact h)
  have hl : lv_has ls 1 [(0, .ref (E.2.2 1000))] := hl
  unfold M_here at hm
  have goal0 : ∀ (H : Heap) (locs : List Loc), wsM E σ0 (va_A (wldM E σ0) sz) s H locs → W p l e rmM_here s m args below meth c H locs 0 0 (MQ below (QiM E σ0 σ0 sz r) args s 0 0 (va_A (wldM E σ0) sz)) (F0 m 0 ls []) := by
    intro H locs hw
    refine lv_aload_n hx hb dX10_here_0 rfl (lv_at hl 0 rfl) ?_
    refine gtM_21 cx ok hw dX10_here_1 ?_
    refine lv_aload_n hx hb dX10_here_4 rfl (lv_at hl 0 rfl) ?_
    refine gtM_5 cx ok hw dX10_here_5 ?_
    refine lv_icmp_ge (tgt := 23) hx hb dX10_here_8 (by decide) (fun c1 => ?_) (fun c1 => ?_)
    · have hm := if_t c1 hm
      refine lv_iconst (v := (-1 : Int32)) hx hb dX10_here_23 (by decide) ?_
      exact rtM_i cx hr hlk hw (pr_some hm) dX10_here_24
    · have hm := if_f c1 hm
      refine lv_aload_n hx hb dX10_here_11 rfl (lv_at hl 0 rfl) ?_
      refine gtM_4 cx ok hw dX10_here_12 ?_
      refine lv_aload_n hx hb dX10_here_15 rfl (lv_at hl 0 rfl) ?_
      refine gtM_21 cx ok hw dX10_here_16 ?_
      obtain ⟨g2, hm⟩ := gd_ok hm
      refine ldM_4 cx ok hw g2 dX10_here_19 ?_
      refine lv_goto (tgt := 24) hx hb dX10_here_20 (by decide) ?_
      exact rtM_i cx hr hlk hw (pr_some hm) dX10_here_24
  exact goal0 _ _ hw
theorem cwM_here {R : Room} {s : State} {args : Array Value} (h : ∀ w ∈ wA, w.before args s = true) (hR : rmM_here.frames + 1 ≤ R.frames ∧ 8 + (1 + 11) + rmM_here.locals ≤ R.locals) : CallW R s args RX10 RX10 125 yX10_here cX10_here 1 (some .int) (wz yX10_here cX10_here 1 (some .int)) rmM_here 0 0 0 := cwV 0 h (gdV k_962 k_964 ks_49 k_11 k_965) rfl rfl rfl (by decide +kernel) hR
/-! private void blanks();: writes, loops -/
def M_blanks_l0 (n : Nat) : Nat → St → Option St
  | 0, _ => none
  | f + 1, σ =>
    bp (M_here σ) fun r2 =>
    if r2 = (32 : Int32) then
      lt (sI σ 21 0 ((σ.1 21 0) + (1 : Int32))) fun σ4 =>
      (M_blanks_l0 n f) σ4
    else
      some σ
def M_blanks (n : Nat) (σ0 : St) : Option St :=
  M_blanks_l0 n n σ0
abbrev rmM_blanks : Room := { frames := 1, cells := 0, slots := 0, locals := 20 }
set_option maxHeartbeats 4000000 in
set_option maxRecDepth 100000 in
theorem cM_blanks (l : Launch) (E : Ev) (n : Nat) (sz : Nat) (σ0 σ' : St) (hm : M_blanks n σ0 = some σ') : Met l yX10_blanks (wz yX10_blanks cX10_blanks 1 none) rmM_blanks (PwM E [.ref (E.2.2 1000)] σ0 sz) (QvM E σ0 σ' sz) 0 0 (va_A (wldM E σ0) sz) := by
  refine enM (by decide) rfl (Nat.le_of_ble_eq_true rfl) (fun p e s m args below meth c cx hr hlk hml hsz ok hw ls hl => ?_)
  have hx := cx.1
  have hb := cx.2.1
  have hA9 := cx.2.2.2
  have hA : ∀ q, s.heap.size ≤ q → (va_A (wldM E σ0) sz) q := fun q h => Or.inr (by rw [← hsz]; exact h)
  have w_0 : ∀ (f : Nat), ∀ (σ : St) (H : Heap) (locs : List Loc) (ls : Array Slot), wsM E σ (va_A (wldM E σ0) sz) s H locs → lv_has ls 1 [(0, .ref (E.2.2 1000))] → M_blanks_l0 n f σ = some σ' → W p l e rmM_blanks s m args below meth c H locs 0 0 (MQ below (QvM E σ0 σ' sz) args s 0 0 (va_A (wldM E σ0) sz)) (F0 m 0 ls []) := by
    intro f
    induction f with
    | zero =>
      intro σ H locs ls hw hl hm
      rw [M_blanks_l0] at hm
      cases hm
    | succ f ih =>
      intro σ H locs ls hw hl hm
      rw [M_blanks_l0] at hm
      refine lv_aload_n hx hb dX10_blanks_0 rfl (lv_at hl 0 rfl) ?_
      obtain ⟨r2, h1, hm⟩ := bp_ok hm
      refine clV_Mi (As := []) (rest := []) cx hml hl.1 ok hw hA (cM_here l E _ σ r2 h1) (cwM_here hA9 ⟨Nat.le_of_ble_eq_true rfl, Nat.le_of_ble_eq_true rfl⟩) rfl rfl (Nat.le_of_ble_eq_true rfl) dX10_blanks_1 (fun H locs hw => ?_)
      refine lv_bipush (v := (32 : Int32)) hx hb dX10_blanks_4 (by decide) ?_
      refine lv_icmp_ne (tgt := 22) hx hb dX10_blanks_6 (by decide) (fun c3 => ?_) (fun c3 => ?_)
      · have hm := if_f c3 hm
        exact rtM_v cx hr hlk hw hm dX10_blanks_22
      · have hm := if_t c3 hm
        refine lv_aload_n hx hb dX10_blanks_9 rfl (lv_at hl 0 rfl) ?_
        refine lv_dup hx hb dX10_blanks_10 rfl ?_
        refine gtM_21 cx ok hw dX10_blanks_11 ?_
        refine lv_iconst (v := (1 : Int32)) hx hb dX10_blanks_14 (by decide) ?_
        refine lv_iadd hx hb dX10_blanks_15 ?_
        refine ptM_21 cx ok hw dX10_blanks_16 (fun H locs hw => ?_)
        obtain ⟨σ4, e5, hm⟩ := lt_ok hm
        have hw := wsM_eq e5 hw
        refine lv_goto (tgt := 0) hx hb dX10_blanks_19 (by decide) ?_
        exact ih σ4 H locs ls hw (lv_sub hl [0] rfl) hm
  have hl : lv_has ls 1 [(0, .ref (E.2.2 1000))] := hl
  unfold M_blanks at hm
  have goal0 : ∀ (H : Heap) (locs : List Loc), wsM E σ0 (va_A (wldM E σ0) sz) s H locs → W p l e rmM_blanks s m args below meth c H locs 0 0 (MQ below (QvM E σ0 σ' sz) args s 0 0 (va_A (wldM E σ0) sz)) (F0 m 0 ls []) := by
    intro H locs hw
    exact w_0 n σ0 H locs ls hw (lv_sub hl [0] rfl) hm
  exact goal0 _ _ hw
theorem cwM_blanks {R : Room} {s : State} {args : Array Value} (h : ∀ w ∈ wA, w.before args s = true) (hR : rmM_blanks.frames + 1 ≤ R.frames ∧ 8 + (1 + 11) + rmM_blanks.locals ≤ R.locals) : CallW R s args RX10 RX10 150 yX10_blanks cX10_blanks 1 none (wz yX10_blanks cX10_blanks 1 none) rmM_blanks 0 0 0 := cwV 0 h (gdV k_958 k_960 ks_48 k_11 k_961) rfl rfl rfl (by decide +kernel) hR
/-! private void stop(int);: writes -/
def M_stop (σ0 : St) (x1 : Int32) : Option St :=
  if 0 ≤ (σ0.1 22 0) then
    lt (sI σ0 22 0 (σ0.1 22 0)) fun σ2 =>
    some σ2
  else
    lt (sI σ0 22 0 x1) fun σ4 =>
    some σ4
abbrev rmM_stop : Room := { frames := 0, cells := 0, slots := 0, locals := 0 }
set_option maxHeartbeats 4000000 in
set_option maxRecDepth 100000 in
theorem cM_stop (l : Launch) (E : Ev) (sz : Nat) (σ0 σ' : St) (x1 : Int32) (hm : M_stop σ0 x1 = some σ') : Met l yX10_stop (wz yX10_stop cX10_stop 2 none) rmM_stop (PwM E [.ref (E.2.2 1000), .int x1] σ0 sz) (QvM E σ0 σ' sz) 0 0 (va_A (wldM E σ0) sz) := by
  refine enM (by decide) rfl (Nat.le_of_ble_eq_true rfl) (fun p e s m args below meth c cx hr hlk hml hsz ok hw ls hl => ?_)
  have hx := cx.1
  have hb := cx.2.1
  have hA9 := cx.2.2.2
  have hA : ∀ q, s.heap.size ≤ q → (va_A (wldM E σ0) sz) q := fun q h => Or.inr (by rw [← hsz]; exact h)
  have hl : lv_has ls 2 [(0, .ref (E.2.2 1000)), (1, .int x1)] := hl
  unfold M_stop at hm
  have goal0 : ∀ (H : Heap) (locs : List Loc), wsM E σ0 (va_A (wldM E σ0) sz) s H locs → W p l e rmM_stop s m args below meth c H locs 0 0 (MQ below (QvM E σ0 σ' sz) args s 0 0 (va_A (wldM E σ0) sz)) (F0 m 0 ls []) := by
    intro H locs hw
    refine lv_aload_n hx hb dX10_stop_0 rfl (lv_at hl 0 rfl) ?_
    refine lv_aload_n hx hb dX10_stop_1 rfl (lv_at hl 0 rfl) ?_
    refine gtM_22 cx ok hw dX10_stop_2 ?_
    refine lv_if_ge (tgt := 12) hx hb dX10_stop_5 (by decide) (fun c1 => ?_) (fun c1 => ?_)
    · have hm := if_t c1 hm
      refine lv_aload_n hx hb dX10_stop_12 rfl (lv_at hl 0 rfl) ?_
      refine gtM_22 cx ok hw dX10_stop_13 ?_
      refine ptM_22 cx ok hw dX10_stop_16 (fun H locs hw => ?_)
      obtain ⟨σ2, e3, hm⟩ := lt_ok hm
      have hw := wsM_eq e3 hw
      exact rtM_v cx hr hlk hw hm dX10_stop_19
    · have hm := if_f c1 hm
      refine lv_iload_n hx hb dX10_stop_8 rfl (lv_at hl 1 rfl) ?_
      refine lv_goto (tgt := 16) hx hb dX10_stop_9 (by decide) ?_
      refine ptM_22 cx ok hw dX10_stop_16 (fun H locs hw => ?_)
      obtain ⟨σ4, e5, hm⟩ := lt_ok hm
      have hw := wsM_eq e5 hw
      exact rtM_v cx hr hlk hw hm dX10_stop_19
  exact goal0 _ _ hw
theorem cwM_stop {R : Room} {s : State} {args : Array Value} (h : ∀ w ∈ wA, w.before args s = true) (hR : rmM_stop.frames + 1 ≤ R.frames ∧ 8 + (2 + 11) + rmM_stop.locals ≤ R.locals) : CallW R s args RX10 RX10 143 yX10_stop cX10_stop 2 none (wz yX10_stop cX10_stop 2 none) rmM_stop 0 0 1 := cwV 1 h (gdV k_966 k_968 ks_50 k_11 k_969) rfl rfl rfl (by decide +kernel) hR
/-! private static boolean isName(int);: reads only -/
def M_isName (x0 : Int32) : Option Int32 :=
  if x0 < (65 : Int32) then
    some (0 : Int32)
  else
    if (90 : Int32) < x0 then
      some (0 : Int32)
    else
      some (1 : Int32)
abbrev rmM_isName : Room := { frames := 0, cells := 0, slots := 0, locals := 0 }
set_option maxHeartbeats 4000000 in
set_option maxRecDepth 100000 in
theorem cM_isName (l : Launch) (E : Ev) (sz : Nat) (σ0 : St) (x0 : Int32) (r : Int32) (hm : M_isName x0 = some r) : Met l yX10_isName (wz yX10_isName cX10_isName 1 (some .boolean)) rmM_isName (PwM E [.int x0] σ0 sz) (QiM E σ0 σ0 sz r) 0 0 (va_A (wldM E σ0) sz) := by
  refine enM (by decide) rfl (Nat.le_of_ble_eq_true rfl) (fun p e s m args below meth c cx hr hlk hml hsz ok hw ls hl => ?_)
  have hx := cx.1
  have hb := cx.2.1
  have hA9 := cx.2.2.2
  have hA : ∀ q, s.heap.size ≤ q → (va_A (wldM E σ0) sz) q := fun q h => Or.inr (by rw [← hsz]; exact h)
  have hl : lv_has ls 1 [(0, .int x0)] := hl
  unfold M_isName at hm
  have goal0 : ∀ (H : Heap) (locs : List Loc), wsM E σ0 (va_A (wldM E σ0) sz) s H locs → W p l e rmM_isName s m args below meth c H locs 0 0 (MQ below (QiM E σ0 σ0 sz r) args s 0 0 (va_A (wldM E σ0) sz)) (F0 m 0 ls []) := by
    intro H locs hw
    refine lv_iload_n hx hb dX10_isName_0 rfl (lv_at hl 0 rfl) ?_
    refine lv_bipush (v := (65 : Int32)) hx hb dX10_isName_1 (by decide) ?_
    refine lv_icmp_lt (tgt := 16) hx hb dX10_isName_3 (by decide) (fun c1 => ?_) (fun c1 => ?_)
    · have hm := if_t c1 hm
      refine lv_iconst (v := (0 : Int32)) hx hb dX10_isName_16 (by decide) ?_
      exact rtM_z cx hr hlk hw (by decide) (pr_some hm) dX10_isName_17
    · have hm := if_f c1 hm
      refine lv_iload_n hx hb dX10_isName_6 rfl (lv_at hl 0 rfl) ?_
      refine lv_bipush (v := (90 : Int32)) hx hb dX10_isName_7 (by decide) ?_
      refine lv_icmp_gt (tgt := 16) hx hb dX10_isName_9 (by decide) (fun c2 => ?_) (fun c2 => ?_)
      · have hm := if_t c2 hm
        refine lv_iconst (v := (0 : Int32)) hx hb dX10_isName_16 (by decide) ?_
        exact rtM_z cx hr hlk hw (by decide) (pr_some hm) dX10_isName_17
      · have hm := if_f c2 hm
        refine lv_iconst (v := (1 : Int32)) hx hb dX10_isName_12 (by decide) ?_
        refine lv_goto (tgt := 17) hx hb dX10_isName_13 (by decide) ?_
        exact rtM_z cx hr hlk hw (by decide) (pr_some hm) dX10_isName_17
  exact goal0 _ _ hw
theorem cwM_isName {R : Room} {s : State} {args : Array Value} (h : ∀ w ∈ wA, w.before args s = true) (hR : rmM_isName.frames + 1 ≤ R.frames ∧ 8 + (1 + 11) + rmM_isName.locals ≤ R.locals) : CallB R s args RX10 132 yX10_isName cX10_isName 1 (some .boolean) (wz yX10_isName cX10_isName 1 (some .boolean)) rmM_isName 0 0 1 ∧ (Cond.static yX10_isName).before args s = true := va_cwS 1 h (gdS k_974 k_975 k_11 k_976) rfl rfl rfl (by decide +kernel) hR
/-! private static boolean isDegree(int);: reads only -/
def M_isDegree (x0 : Int32) : Option Int32 :=
  if x0 < (49 : Int32) then
    some (0 : Int32)
  else
    if (55 : Int32) < x0 then
      some (0 : Int32)
    else
      some (1 : Int32)
abbrev rmM_isDegree : Room := { frames := 0, cells := 0, slots := 0, locals := 0 }
set_option maxHeartbeats 4000000 in
set_option maxRecDepth 100000 in
theorem cM_isDegree (l : Launch) (E : Ev) (sz : Nat) (σ0 : St) (x0 : Int32) (r : Int32) (hm : M_isDegree x0 = some r) : Met l yX10_isDegree (wz yX10_isDegree cX10_isDegree 1 (some .boolean)) rmM_isDegree (PwM E [.int x0] σ0 sz) (QiM E σ0 σ0 sz r) 0 0 (va_A (wldM E σ0) sz) := by
  refine enM (by decide) rfl (Nat.le_of_ble_eq_true rfl) (fun p e s m args below meth c cx hr hlk hml hsz ok hw ls hl => ?_)
  have hx := cx.1
  have hb := cx.2.1
  have hA9 := cx.2.2.2
  have hA : ∀ q, s.heap.size ≤ q → (va_A (wldM E σ0) sz) q := fun q h => Or.inr (by rw [← hsz]; exact h)
  have hl : lv_has ls 1 [(0, .int x0)] := hl
  unfold M_isDegree at hm
  have goal0 : ∀ (H : Heap) (locs : List Loc), wsM E σ0 (va_A (wldM E σ0) sz) s H locs → W p l e rmM_isDegree s m args below meth c H locs 0 0 (MQ below (QiM E σ0 σ0 sz r) args s 0 0 (va_A (wldM E σ0) sz)) (F0 m 0 ls []) := by
    intro H locs hw
    refine lv_iload_n hx hb dX10_isDegree_0 rfl (lv_at hl 0 rfl) ?_
    refine lv_bipush (v := (49 : Int32)) hx hb dX10_isDegree_1 (by decide) ?_
    refine lv_icmp_lt (tgt := 16) hx hb dX10_isDegree_3 (by decide) (fun c1 => ?_) (fun c1 => ?_)
    · have hm := if_t c1 hm
      refine lv_iconst (v := (0 : Int32)) hx hb dX10_isDegree_16 (by decide) ?_
      exact rtM_z cx hr hlk hw (by decide) (pr_some hm) dX10_isDegree_17
    · have hm := if_f c1 hm
      refine lv_iload_n hx hb dX10_isDegree_6 rfl (lv_at hl 0 rfl) ?_
      refine lv_bipush (v := (55 : Int32)) hx hb dX10_isDegree_7 (by decide) ?_
      refine lv_icmp_gt (tgt := 16) hx hb dX10_isDegree_9 (by decide) (fun c2 => ?_) (fun c2 => ?_)
      · have hm := if_t c2 hm
        refine lv_iconst (v := (0 : Int32)) hx hb dX10_isDegree_16 (by decide) ?_
        exact rtM_z cx hr hlk hw (by decide) (pr_some hm) dX10_isDegree_17
      · have hm := if_f c2 hm
        refine lv_iconst (v := (1 : Int32)) hx hb dX10_isDegree_12 (by decide) ?_
        refine lv_goto (tgt := 17) hx hb dX10_isDegree_13 (by decide) ?_
        exact rtM_z cx hr hlk hw (by decide) (pr_some hm) dX10_isDegree_17
  exact goal0 _ _ hw
theorem cwM_isDegree {R : Room} {s : State} {args : Array Value} (h : ∀ w ∈ wA, w.before args s = true) (hR : rmM_isDegree.frames + 1 ≤ R.frames ∧ 8 + (1 + 11) + rmM_isDegree.locals ≤ R.locals) : CallB R s args RX10 140 yX10_isDegree cX10_isDegree 1 (some .boolean) (wz yX10_isDegree cX10_isDegree 1 (some .boolean)) rmM_isDegree 0 0 1 ∧ (Cond.static yX10_isDegree).before args s = true := va_cwS 1 h (gdS k_981 k_982 k_11 k_983) rfl rfl rfl (by decide +kernel) hR
/-! private static int kindOf(int);: reads only -/
def M_kindOf (x0 : Int32) : Option Int32 :=
  if x0 = (77 : Int32) then
    some (0 : Int32)
  else
  if x0 = (97 : Int32) then
    some (3 : Int32)
  else
  if x0 = (100 : Int32) then
    some (2 : Int32)
  else
  if x0 = (104 : Int32) then
    some (7 : Int32)
  else
  if x0 = (106 : Int32) then
    some (5 : Int32)
  else
  if x0 = (109 : Int32) then
    some (1 : Int32)
  else
  if x0 = (110 : Int32) then
    some (6 : Int32)
  else
  if x0 = (111 : Int32) then
    some (8 : Int32)
  else
  if x0 = (115 : Int32) then
    some (4 : Int32)
  else
    some (-1 : Int32)
abbrev rmM_kindOf : Room := { frames := 0, cells := 0, slots := 0, locals := 0 }
set_option maxHeartbeats 4000000 in
set_option maxRecDepth 100000 in
theorem cM_kindOf (l : Launch) (E : Ev) (sz : Nat) (σ0 : St) (x0 : Int32) (r : Int32) (hm : M_kindOf x0 = some r) : Met l yX10_kindOf (wz yX10_kindOf cX10_kindOf 1 (some .int)) rmM_kindOf (PwM E [.int x0] σ0 sz) (QiM E σ0 σ0 sz r) 0 0 (va_A (wldM E σ0) sz) := by
  refine enM (by decide) rfl (Nat.le_of_ble_eq_true rfl) (fun p e s m args below meth c cx hr hlk hml hsz ok hw ls hl => ?_)
  have hx := cx.1
  have hb := cx.2.1
  have hA9 := cx.2.2.2
  have hA : ∀ q, s.heap.size ≤ q → (va_A (wldM E σ0) sz) q := fun q h => Or.inr (by rw [← hsz]; exact h)
  have hl : lv_has ls 1 [(0, .int x0)] := hl
  unfold M_kindOf at hm
  have goal0 : ∀ (H : Heap) (locs : List Loc), wsM E σ0 (va_A (wldM E σ0) sz) s H locs → W p l e rmM_kindOf s m args below meth c H locs 0 0 (MQ below (QiM E σ0 σ0 sz r) args s 0 0 (va_A (wldM E σ0) sz)) (F0 m 0 ls []) := by
    intro H locs hw
    refine lv_iload_n hx hb dX10_kindOf_0 rfl (lv_at hl 0 rfl) ?_
    by_cases c1 : x0 = (77 : Int32)
    · refine lv_lookup (tgt := 84) hx hb dX10_kindOf_1 (by decide) (by rw [c1]) (by decide) ?_
      have hm := if_t c1 hm
      refine lv_iconst (v := (0 : Int32)) hx hb dX10_kindOf_84 (by decide) ?_
      exact rtM_i cx hr hlk hw (pr_some hm) dX10_kindOf_85
    have hm := if_f c1 hm
    by_cases c2 : x0 = (97 : Int32)
    · refine lv_lookup (tgt := 90) hx hb dX10_kindOf_1 (by decide) (by rw [c2]) (by decide) ?_
      have hm := if_t c2 hm
      refine lv_iconst (v := (3 : Int32)) hx hb dX10_kindOf_90 (by decide) ?_
      exact rtM_i cx hr hlk hw (pr_some hm) dX10_kindOf_91
    have hm := if_f c2 hm
    by_cases c3 : x0 = (100 : Int32)
    · refine lv_lookup (tgt := 88) hx hb dX10_kindOf_1 (by decide) (by rw [c3]) (by decide) ?_
      have hm := if_t c3 hm
      refine lv_iconst (v := (2 : Int32)) hx hb dX10_kindOf_88 (by decide) ?_
      exact rtM_i cx hr hlk hw (pr_some hm) dX10_kindOf_89
    have hm := if_f c3 hm
    by_cases c4 : x0 = (104 : Int32)
    · refine lv_lookup (tgt := 99) hx hb dX10_kindOf_1 (by decide) (by rw [c4]) (by decide) ?_
      have hm := if_t c4 hm
      refine lv_bipush (v := (7 : Int32)) hx hb dX10_kindOf_99 (by decide) ?_
      exact rtM_i cx hr hlk hw (pr_some hm) dX10_kindOf_101
    have hm := if_f c4 hm
    by_cases c5 : x0 = (106 : Int32)
    · refine lv_lookup (tgt := 94) hx hb dX10_kindOf_1 (by decide) (by rw [c5]) (by decide) ?_
      have hm := if_t c5 hm
      refine lv_iconst (v := (5 : Int32)) hx hb dX10_kindOf_94 (by decide) ?_
      exact rtM_i cx hr hlk hw (pr_some hm) dX10_kindOf_95
    have hm := if_f c5 hm
    by_cases c6 : x0 = (109 : Int32)
    · refine lv_lookup (tgt := 86) hx hb dX10_kindOf_1 (by decide) (by rw [c6]) (by decide) ?_
      have hm := if_t c6 hm
      refine lv_iconst (v := (1 : Int32)) hx hb dX10_kindOf_86 (by decide) ?_
      exact rtM_i cx hr hlk hw (pr_some hm) dX10_kindOf_87
    have hm := if_f c6 hm
    by_cases c7 : x0 = (110 : Int32)
    · refine lv_lookup (tgt := 96) hx hb dX10_kindOf_1 (by decide) (by rw [c7]) (by decide) ?_
      have hm := if_t c7 hm
      refine lv_bipush (v := (6 : Int32)) hx hb dX10_kindOf_96 (by decide) ?_
      exact rtM_i cx hr hlk hw (pr_some hm) dX10_kindOf_98
    have hm := if_f c7 hm
    by_cases c8 : x0 = (111 : Int32)
    · refine lv_lookup (tgt := 102) hx hb dX10_kindOf_1 (by decide) (by rw [c8]) (by decide) ?_
      have hm := if_t c8 hm
      refine lv_bipush (v := (8 : Int32)) hx hb dX10_kindOf_102 (by decide) ?_
      exact rtM_i cx hr hlk hw (pr_some hm) dX10_kindOf_104
    have hm := if_f c8 hm
    by_cases c9 : x0 = (115 : Int32)
    · refine lv_lookup (tgt := 92) hx hb dX10_kindOf_1 (by decide) (by rw [c9]) (by decide) ?_
      have hm := if_t c9 hm
      refine lv_iconst (v := (4 : Int32)) hx hb dX10_kindOf_92 (by decide) ?_
      exact rtM_i cx hr hlk hw (pr_some hm) dX10_kindOf_93
    have hm := if_f c9 hm
    have c1 := ne_ti c1
    rw [show ((77 : Int32)).toInt = 77 from by decide] at c1
    have c2 := ne_ti c2
    rw [show ((97 : Int32)).toInt = 97 from by decide] at c2
    have c3 := ne_ti c3
    rw [show ((100 : Int32)).toInt = 100 from by decide] at c3
    have c4 := ne_ti c4
    rw [show ((104 : Int32)).toInt = 104 from by decide] at c4
    have c5 := ne_ti c5
    rw [show ((106 : Int32)).toInt = 106 from by decide] at c5
    have c6 := ne_ti c6
    rw [show ((109 : Int32)).toInt = 109 from by decide] at c6
    have c7 := ne_ti c7
    rw [show ((110 : Int32)).toInt = 110 from by decide] at c7
    have c8 := ne_ti c8
    rw [show ((111 : Int32)).toInt = 111 from by decide] at c8
    have c9 := ne_ti c9
    rw [show ((115 : Int32)).toInt = 115 from by decide] at c9
    refine lv_lookup (tgt := 105) hx hb dX10_kindOf_1 (by decide) (off := 104) (by simp [Op.lookupswitch.offset, c1, c1.symm, c2, c2.symm, c3, c3.symm, c4, c4.symm, c5, c5.symm, c6, c6.symm, c7, c7.symm, c8, c8.symm, c9, c9.symm]) (by decide) ?_
    refine lv_iconst (v := (-1 : Int32)) hx hb dX10_kindOf_105 (by decide) ?_
    exact rtM_i cx hr hlk hw (pr_some hm) dX10_kindOf_106
  exact goal0 _ _ hw
theorem cwM_kindOf {R : Room} {s : State} {args : Array Value} (h : ∀ w ∈ wA, w.before args s = true) (hR : rmM_kindOf.frames + 1 ≤ R.frames ∧ 8 + (1 + 11) + rmM_kindOf.locals ≤ R.locals) : CallB R s args RX10 136 yX10_kindOf cX10_kindOf 1 (some .int) (wz yX10_kindOf cX10_kindOf 1 (some .int)) rmM_kindOf 0 0 1 ∧ (Cond.static yX10_kindOf).before args s = true := va_cwS 1 h (gdS k_988 k_989 k_11 k_990) rfl rfl rfl (by decide +kernel) hR
/-! private int item();: writes -/
def M_item (σ0 : St) : Option (Int32 × St) :=
  bp (M_here σ0) fun r2 =>
  lt (sI σ0 21 0 ((σ0.1 21 0) + (1 : Int32))) fun σ3 =>
  bp (M_isName r2) fun r6 =>
  if r6 = 0 then
    bp (M_here σ3) fun r9 =>
    bp (M_kindOf r9) fun r11 =>
    if r11 < 0 then
      lt (sI σ3 21 0 ((σ3.1 21 0) + (0 : Int32))) fun σ13 =>
      some (((((100 : Int32) + ((10 : Int32) * (r2 - (48 : Int32)))) + r11) + (1 : Int32)), σ13)
    else
      lt (sI σ3 21 0 ((σ3.1 21 0) + (1 : Int32))) fun σ15 =>
      some (((((100 : Int32) + ((10 : Int32) * (r2 - (48 : Int32)))) + r11) + (1 : Int32)), σ15)
  else
    some ((r2 - (65 : Int32)), σ3)
abbrev rmM_item : Room := { frames := 1, cells := 0, slots := 0, locals := 20 }
set_option maxHeartbeats 4000000 in
set_option maxRecDepth 100000 in
theorem cM_item (l : Launch) (E : Ev) (sz : Nat) (σ0 σ' : St) (r : Int32) (hm : M_item σ0 = some (r, σ')) : Met l yX10_item (wz yX10_item cX10_item 3 (some .int)) rmM_item (PwM E [.ref (E.2.2 1000)] σ0 sz) (QiM E σ0 σ' sz r) 0 0 (va_A (wldM E σ0) sz) := by
  refine enM (by decide) rfl (Nat.le_of_ble_eq_true rfl) (fun p e s m args below meth c cx hr hlk hml hsz ok hw ls hl => ?_)
  have hx := cx.1
  have hb := cx.2.1
  have hA9 := cx.2.2.2
  have hA : ∀ q, s.heap.size ≤ q → (va_A (wldM E σ0) sz) q := fun q h => Or.inr (by rw [← hsz]; exact h)
  have hl : lv_has ls 3 [(0, .ref (E.2.2 1000))] := hl
  unfold M_item at hm
  have goal0 : ∀ (H : Heap) (locs : List Loc), wsM E σ0 (va_A (wldM E σ0) sz) s H locs → W p l e rmM_item s m args below meth c H locs 0 0 (MQ below (QiM E σ0 σ' sz r) args s 0 0 (va_A (wldM E σ0) sz)) (F0 m 0 ls []) := by
    intro H locs hw
    refine lv_aload_n hx hb dX10_item_0 rfl (lv_at hl 0 rfl) ?_
    obtain ⟨r2, h1, hm⟩ := bp_ok hm
    refine clV_Mi (As := []) (rest := []) cx hml hl.1 ok hw hA (cM_here l E _ σ0 r2 h1) (cwM_here hA9 ⟨Nat.le_of_ble_eq_true rfl, Nat.le_of_ble_eq_true rfl⟩) rfl rfl (Nat.le_of_ble_eq_true rfl) dX10_item_1 (fun H locs hw => ?_)
    refine lv_istore_n (lv' := [(1, .int r2), (0, .ref (E.2.2 1000))]) hx hb dX10_item_4 rfl hl (by decide) rfl (fun ls hl => ?_)
    refine lv_aload_n hx hb dX10_item_5 rfl (lv_at hl 1 rfl) ?_
    refine lv_dup hx hb dX10_item_6 rfl ?_
    refine gtM_21 cx ok hw dX10_item_7 ?_
    refine lv_iconst (v := (1 : Int32)) hx hb dX10_item_10 (by decide) ?_
    refine lv_iadd hx hb dX10_item_11 ?_
    refine ptM_21 cx ok hw dX10_item_12 (fun H locs hw => ?_)
    obtain ⟨σ3, e4, hm⟩ := lt_ok hm
    have hw := wsM_eq e4 hw
    refine lv_iload_n hx hb dX10_item_15 rfl (lv_at hl 0 rfl) ?_
    obtain ⟨r6, h5, hm⟩ := bp_ok hm
    refine clS_Mi (As := [.int r2]) (rest := []) cx hml hl.1 ok hw hA (cM_isName l E _ σ3 r2 r6 h5) (cwM_isName hA9 ⟨Nat.le_of_ble_eq_true rfl, Nat.le_of_ble_eq_true rfl⟩) rfl rfl (Nat.le_of_ble_eq_true rfl) dX10_item_16 (fun H locs hw => ?_)
    refine lv_if_eq (tgt := 27) hx hb dX10_item_19 (by decide) (fun c7 => ?_) (fun c7 => ?_)
    · have hm := if_t c7 hm
      refine lv_aload_n hx hb dX10_item_27 rfl (lv_at hl 1 rfl) ?_
      obtain ⟨r9, h8, hm⟩ := bp_ok hm
      refine clV_Mi (As := []) (rest := []) cx hml hl.1 ok hw hA (cM_here l E _ σ3 r9 h8) (cwM_here hA9 ⟨Nat.le_of_ble_eq_true rfl, Nat.le_of_ble_eq_true rfl⟩) rfl rfl (Nat.le_of_ble_eq_true rfl) dX10_item_28 (fun H locs hw => ?_)
      obtain ⟨r11, h10, hm⟩ := bp_ok hm
      refine clS_Mi (As := [.int r9]) (rest := []) cx hml hl.1 ok hw hA (cM_kindOf l E _ σ3 r9 r11 h10) (cwM_kindOf hA9 ⟨Nat.le_of_ble_eq_true rfl, Nat.le_of_ble_eq_true rfl⟩) rfl rfl (Nat.le_of_ble_eq_true rfl) dX10_item_31 (fun H locs hw => ?_)
      refine lv_istore_n (lv' := [(2, .int r11), (1, .int r2), (0, .ref (E.2.2 1000))]) hx hb dX10_item_34 rfl hl (by decide) rfl (fun ls hl => ?_)
      refine lv_aload_n hx hb dX10_item_35 rfl (lv_at hl 2 rfl) ?_
      refine lv_dup hx hb dX10_item_36 rfl ?_
      refine gtM_21 cx ok hw dX10_item_37 ?_
      refine lv_iload_n hx hb dX10_item_40 rfl (lv_at hl 0 rfl) ?_
      refine lv_if_lt (tgt := 48) hx hb dX10_item_41 (by decide) (fun c12 => ?_) (fun c12 => ?_)
      · have hm := if_t c12 hm
        refine lv_iconst (v := (0 : Int32)) hx hb dX10_item_48 (by decide) ?_
        refine lv_iadd hx hb dX10_item_49 ?_
        refine ptM_21 cx ok hw dX10_item_50 (fun H locs hw => ?_)
        obtain ⟨σ13, e14, hm⟩ := lt_ok hm
        have hw := wsM_eq e14 hw
        refine lv_bipush (v := (100 : Int32)) hx hb dX10_item_53 (by decide) ?_
        refine lv_bipush (v := (10 : Int32)) hx hb dX10_item_55 (by decide) ?_
        refine lv_iload_n hx hb dX10_item_57 rfl (lv_at hl 1 rfl) ?_
        refine lv_bipush (v := (48 : Int32)) hx hb dX10_item_58 (by decide) ?_
        refine lv_isub hx hb dX10_item_60 ?_
        refine lv_imul hx hb dX10_item_61 ?_
        refine lv_iadd hx hb dX10_item_62 ?_
        refine lv_iload_n hx hb dX10_item_63 rfl (lv_at hl 0 rfl) ?_
        refine lv_iadd hx hb dX10_item_64 ?_
        refine lv_iconst (v := (1 : Int32)) hx hb dX10_item_65 (by decide) ?_
        refine lv_iadd hx hb dX10_item_66 ?_
        exact rtM_i cx hr hlk hw hm dX10_item_67
      · have hm := if_f c12 hm
        refine lv_iconst (v := (1 : Int32)) hx hb dX10_item_44 (by decide) ?_
        refine lv_goto (tgt := 49) hx hb dX10_item_45 (by decide) ?_
        refine lv_iadd hx hb dX10_item_49 ?_
        refine ptM_21 cx ok hw dX10_item_50 (fun H locs hw => ?_)
        obtain ⟨σ15, e16, hm⟩ := lt_ok hm
        have hw := wsM_eq e16 hw
        refine lv_bipush (v := (100 : Int32)) hx hb dX10_item_53 (by decide) ?_
        refine lv_bipush (v := (10 : Int32)) hx hb dX10_item_55 (by decide) ?_
        refine lv_iload_n hx hb dX10_item_57 rfl (lv_at hl 1 rfl) ?_
        refine lv_bipush (v := (48 : Int32)) hx hb dX10_item_58 (by decide) ?_
        refine lv_isub hx hb dX10_item_60 ?_
        refine lv_imul hx hb dX10_item_61 ?_
        refine lv_iadd hx hb dX10_item_62 ?_
        refine lv_iload_n hx hb dX10_item_63 rfl (lv_at hl 0 rfl) ?_
        refine lv_iadd hx hb dX10_item_64 ?_
        refine lv_iconst (v := (1 : Int32)) hx hb dX10_item_65 (by decide) ?_
        refine lv_iadd hx hb dX10_item_66 ?_
        exact rtM_i cx hr hlk hw hm dX10_item_67
    · have hm := if_f c7 hm
      refine lv_iload_n hx hb dX10_item_22 rfl (lv_at hl 0 rfl) ?_
      refine lv_bipush (v := (65 : Int32)) hx hb dX10_item_23 (by decide) ?_
      refine lv_isub hx hb dX10_item_25 ?_
      exact rtM_i cx hr hlk hw hm dX10_item_26
  exact goal0 _ _ hw
theorem cwM_item {R : Room} {s : State} {args : Array Value} (h : ∀ w ∈ wA, w.before args s = true) (hR : rmM_item.frames + 1 ≤ R.frames ∧ 8 + (3 + 11) + rmM_item.locals ≤ R.locals) : CallW R s args RX10 RX10 157 yX10_item cX10_item 3 (some .int) (wz yX10_item cX10_item 3 (some .int)) rmM_item 0 0 0 := cwV 0 h (gdV k_984 k_986 ks_53 k_11 k_987) rfl rfl rfl (by decide +kernel) hR
/-! private boolean isItem();: reads only -/
def M_isItem (σ0 : St) : Option Int32 :=
  bp (M_here σ0) fun r2 =>
  bp (M_isName r2) fun r4 =>
  if r4 = 0 then
    bp (M_here σ0) fun r7 =>
    bp (M_isDegree r7) fun r9 =>
    if r9 = 0 then
      some (0 : Int32)
    else
      some (1 : Int32)
  else
    some (1 : Int32)
abbrev rmM_isItem : Room := { frames := 1, cells := 0, slots := 0, locals := 20 }
set_option maxHeartbeats 4000000 in
set_option maxRecDepth 100000 in
theorem cM_isItem (l : Launch) (E : Ev) (sz : Nat) (σ0 : St) (r : Int32) (hm : M_isItem σ0 = some r) : Met l yX10_isItem (wz yX10_isItem cX10_isItem 1 (some .boolean)) rmM_isItem (PwM E [.ref (E.2.2 1000)] σ0 sz) (QiM E σ0 σ0 sz r) 0 0 (va_A (wldM E σ0) sz) := by
  refine enM (by decide) rfl (Nat.le_of_ble_eq_true rfl) (fun p e s m args below meth c cx hr hlk hml hsz ok hw ls hl => ?_)
  have hx := cx.1
  have hb := cx.2.1
  have hA9 := cx.2.2.2
  have hA : ∀ q, s.heap.size ≤ q → (va_A (wldM E σ0) sz) q := fun q h => Or.inr (by rw [← hsz]; exact h)
  have hl : lv_has ls 1 [(0, .ref (E.2.2 1000))] := hl
  unfold M_isItem at hm
  have goal0 : ∀ (H : Heap) (locs : List Loc), wsM E σ0 (va_A (wldM E σ0) sz) s H locs → W p l e rmM_isItem s m args below meth c H locs 0 0 (MQ below (QiM E σ0 σ0 sz r) args s 0 0 (va_A (wldM E σ0) sz)) (F0 m 0 ls []) := by
    intro H locs hw
    refine lv_aload_n hx hb dX10_isItem_0 rfl (lv_at hl 0 rfl) ?_
    obtain ⟨r2, h1, hm⟩ := bp_ok hm
    refine clV_Mi (As := []) (rest := []) cx hml hl.1 ok hw hA (cM_here l E _ σ0 r2 h1) (cwM_here hA9 ⟨Nat.le_of_ble_eq_true rfl, Nat.le_of_ble_eq_true rfl⟩) rfl rfl (Nat.le_of_ble_eq_true rfl) dX10_isItem_1 (fun H locs hw => ?_)
    obtain ⟨r4, h3, hm⟩ := bp_ok hm
    refine clS_Mi (As := [.int r2]) (rest := []) cx hml hl.1 ok hw hA (cM_isName l E _ σ0 r2 r4 h3) (cwM_isName hA9 ⟨Nat.le_of_ble_eq_true rfl, Nat.le_of_ble_eq_true rfl⟩) rfl rfl (Nat.le_of_ble_eq_true rfl) dX10_isItem_4 (fun H locs hw => ?_)
    refine lv_if_ne (tgt := 20) hx hb dX10_isItem_7 (by decide) (fun c5 => ?_) (fun c5 => ?_)
    · have hm := if_f c5 hm
      refine lv_iconst (v := (1 : Int32)) hx hb dX10_isItem_20 (by decide) ?_
      refine lv_goto (tgt := 25) hx hb dX10_isItem_21 (by decide) ?_
      exact rtM_z cx hr hlk hw (by decide) (pr_some hm) dX10_isItem_25
    · have hm := if_t c5 hm
      refine lv_aload_n hx hb dX10_isItem_10 rfl (lv_at hl 0 rfl) ?_
      obtain ⟨r7, h6, hm⟩ := bp_ok hm
      refine clV_Mi (As := []) (rest := []) cx hml hl.1 ok hw hA (cM_here l E _ σ0 r7 h6) (cwM_here hA9 ⟨Nat.le_of_ble_eq_true rfl, Nat.le_of_ble_eq_true rfl⟩) rfl rfl (Nat.le_of_ble_eq_true rfl) dX10_isItem_11 (fun H locs hw => ?_)
      obtain ⟨r9, h8, hm⟩ := bp_ok hm
      refine clS_Mi (As := [.int r7]) (rest := []) cx hml hl.1 ok hw hA (cM_isDegree l E _ σ0 r7 r9 h8) (cwM_isDegree hA9 ⟨Nat.le_of_ble_eq_true rfl, Nat.le_of_ble_eq_true rfl⟩) rfl rfl (Nat.le_of_ble_eq_true rfl) dX10_isItem_14 (fun H locs hw => ?_)
      refine lv_if_eq (tgt := 24) hx hb dX10_isItem_17 (by decide) (fun c10 => ?_) (fun c10 => ?_)
      · have hm := if_t c10 hm
        refine lv_iconst (v := (0 : Int32)) hx hb dX10_isItem_24 (by decide) ?_
        exact rtM_z cx hr hlk hw (by decide) (pr_some hm) dX10_isItem_25
      · have hm := if_f c10 hm
        refine lv_iconst (v := (1 : Int32)) hx hb dX10_isItem_20 (by decide) ?_
        refine lv_goto (tgt := 25) hx hb dX10_isItem_21 (by decide) ?_
        exact rtM_z cx hr hlk hw (by decide) (pr_some hm) dX10_isItem_25
  exact goal0 _ _ hw
theorem cwM_isItem {R : Room} {s : State} {args : Array Value} (h : ∀ w ∈ wA, w.before args s = true) (hR : rmM_isItem.frames + 1 ≤ R.frames ∧ 8 + (1 + 11) + rmM_isItem.locals ≤ R.locals) : CallW R s args RX10 RX10 153 yX10_isItem cX10_isItem 1 (some .boolean) (wz yX10_isItem cX10_isItem 1 (some .boolean)) rmM_isItem 0 0 0 := cwV 0 h (gdV k_977 k_979 ks_52 k_11 k_980) rfl rfl rfl (by decide +kernel) hR
/-! private int figures();: writes, loops -/
def M_figures_l4 (n : Nat) : Nat → St → Int32 → Int32 → Option (Int32 × St)
  | 0, _, _, _ => none
  | f + 1, σ, x1, x2 =>
    if 0 ≤ (σ.1 22 0) then
      if x2 = 0 then
        bp (M_stop σ (σ.1 21 0)) fun σ4 =>
        some (x1, σ4)
      else
        some (x1, σ)
    else
      bp (M_here σ) fun r6 =>
      if r6 < (48 : Int32) then
        if x2 = 0 then
          bp (M_stop σ (σ.1 21 0)) fun σ10 =>
          some (x1, σ10)
        else
          some (x1, σ)
      else
        bp (M_here σ) fun r12 =>
        if (57 : Int32) < r12 then
          if x2 = 0 then
            bp (M_stop σ (σ.1 21 0)) fun σ16 =>
            some (x1, σ16)
          else
            some (x1, σ)
        else
          if x2 = (3 : Int32) then
            bp (M_stop σ (σ.1 21 0)) fun σ27 =>
            (M_figures_l4 n f) σ27 x1 x2
          else
            bp (M_here σ) fun r19 =>
            lt (((((10 : Int32) * x1) + r19) - (48 : Int32))) fun x1_20 =>
            lt (sI σ 21 0 ((σ.1 21 0) + (1 : Int32))) fun σ22 =>
            lt (x2 + (1 : Int32)) fun x2_24 =>
            (M_figures_l4 n f) σ22 x1_20 x2_24
def M_figures (n : Nat) (σ0 : St) : Option (Int32 × St) :=
  M_figures_l4 n n σ0 (0 : Int32) (0 : Int32)
abbrev rmM_figures : Room := { frames := 1, cells := 0, slots := 0, locals := 21 }
set_option maxHeartbeats 4000000 in
set_option maxRecDepth 100000 in
theorem cM_figures (l : Launch) (E : Ev) (n : Nat) (sz : Nat) (σ0 σ' : St) (r : Int32) (hm : M_figures n σ0 = some (r, σ')) : Met l yX10_figures (wz yX10_figures cX10_figures 3 (some .int)) rmM_figures (PwM E [.ref (E.2.2 1000)] σ0 sz) (QiM E σ0 σ' sz r) 0 0 (va_A (wldM E σ0) sz) := by
  refine enM (by decide) rfl (Nat.le_of_ble_eq_true rfl) (fun p e s m args below meth c cx hr hlk hml hsz ok hw ls hl => ?_)
  have hx := cx.1
  have hb := cx.2.1
  have hA9 := cx.2.2.2
  have hA : ∀ q, s.heap.size ≤ q → (va_A (wldM E σ0) sz) q := fun q h => Or.inr (by rw [← hsz]; exact h)
  have w_4 : ∀ (f : Nat), ∀ (σ : St) (x1 : Int32) (x2 : Int32) (H : Heap) (locs : List Loc) (ls : Array Slot), wsM E σ (va_A (wldM E σ0) sz) s H locs → lv_has ls 3 [(0, .ref (E.2.2 1000)), (1, .int x1), (2, .int x2)] → M_figures_l4 n f σ x1 x2 = some (r, σ') → W p l e rmM_figures s m args below meth c H locs 0 0 (MQ below (QiM E σ0 σ' sz r) args s 0 0 (va_A (wldM E σ0) sz)) (F0 m 4 ls []) := by
    intro f
    induction f with
    | zero =>
      intro σ x1 x2 H locs ls hw hl hm
      rw [M_figures_l4] at hm
      cases hm
    | succ f ih =>
      intro σ x1 x2 H locs ls hw hl hm
      rw [M_figures_l4] at hm
      refine lv_aload_n hx hb dX10_figures_4 rfl (lv_at hl 0 rfl) ?_
      refine gtM_22 cx ok hw dX10_figures_5 ?_
      refine lv_if_ge (tgt := 74) hx hb dX10_figures_8 (by decide) (fun c1 => ?_) (fun c1 => ?_)
      · have hm := if_t c1 hm
        refine lv_iload_n hx hb dX10_figures_74 rfl (lv_at hl 2 rfl) ?_
        refine lv_if_ne (tgt := 86) hx hb dX10_figures_75 (by decide) (fun c2 => ?_) (fun c2 => ?_)
        · have hm := if_f c2 hm
          refine lv_iload_n hx hb dX10_figures_86 rfl (lv_at hl 1 rfl) ?_
          exact rtM_i cx hr hlk hw hm dX10_figures_87
        · have hm := if_t c2 hm
          refine lv_aload_n hx hb dX10_figures_78 rfl (lv_at hl 0 rfl) ?_
          refine lv_aload_n hx hb dX10_figures_79 rfl (lv_at hl 0 rfl) ?_
          refine gtM_21 cx ok hw dX10_figures_80 ?_
          obtain ⟨σ4, h3, hm⟩ := bp_ok hm
          refine clV_Mv (As := [.int (σ.1 21 0)]) (rest := []) cx hml hl.1 ok hw hA (cM_stop l E _ σ σ4 (σ.1 21 0) h3) (cwM_stop hA9 ⟨Nat.le_of_ble_eq_true rfl, Nat.le_of_ble_eq_true rfl⟩) rfl rfl (Nat.le_of_ble_eq_true rfl) dX10_figures_83 (fun H locs hw => ?_)
          refine lv_iload_n hx hb dX10_figures_86 rfl (lv_at hl 1 rfl) ?_
          exact rtM_i cx hr hlk hw hm dX10_figures_87
      · have hm := if_f c1 hm
        refine lv_aload_n hx hb dX10_figures_11 rfl (lv_at hl 0 rfl) ?_
        obtain ⟨r6, h5, hm⟩ := bp_ok hm
        refine clV_Mi (As := []) (rest := []) cx hml hl.1 ok hw hA (cM_here l E _ σ r6 h5) (cwM_here hA9 ⟨Nat.le_of_ble_eq_true rfl, Nat.le_of_ble_eq_true rfl⟩) rfl rfl (Nat.le_of_ble_eq_true rfl) dX10_figures_12 (fun H locs hw => ?_)
        refine lv_bipush (v := (48 : Int32)) hx hb dX10_figures_15 (by decide) ?_
        refine lv_icmp_lt (tgt := 74) hx hb dX10_figures_17 (by decide) (fun c7 => ?_) (fun c7 => ?_)
        · have hm := if_t c7 hm
          refine lv_iload_n hx hb dX10_figures_74 rfl (lv_at hl 2 rfl) ?_
          refine lv_if_ne (tgt := 86) hx hb dX10_figures_75 (by decide) (fun c8 => ?_) (fun c8 => ?_)
          · have hm := if_f c8 hm
            refine lv_iload_n hx hb dX10_figures_86 rfl (lv_at hl 1 rfl) ?_
            exact rtM_i cx hr hlk hw hm dX10_figures_87
          · have hm := if_t c8 hm
            refine lv_aload_n hx hb dX10_figures_78 rfl (lv_at hl 0 rfl) ?_
            refine lv_aload_n hx hb dX10_figures_79 rfl (lv_at hl 0 rfl) ?_
            refine gtM_21 cx ok hw dX10_figures_80 ?_
            obtain ⟨σ10, h9, hm⟩ := bp_ok hm
            refine clV_Mv (As := [.int (σ.1 21 0)]) (rest := []) cx hml hl.1 ok hw hA (cM_stop l E _ σ σ10 (σ.1 21 0) h9) (cwM_stop hA9 ⟨Nat.le_of_ble_eq_true rfl, Nat.le_of_ble_eq_true rfl⟩) rfl rfl (Nat.le_of_ble_eq_true rfl) dX10_figures_83 (fun H locs hw => ?_)
            refine lv_iload_n hx hb dX10_figures_86 rfl (lv_at hl 1 rfl) ?_
            exact rtM_i cx hr hlk hw hm dX10_figures_87
        · have hm := if_f c7 hm
          refine lv_aload_n hx hb dX10_figures_20 rfl (lv_at hl 0 rfl) ?_
          obtain ⟨r12, h11, hm⟩ := bp_ok hm
          refine clV_Mi (As := []) (rest := []) cx hml hl.1 ok hw hA (cM_here l E _ σ r12 h11) (cwM_here hA9 ⟨Nat.le_of_ble_eq_true rfl, Nat.le_of_ble_eq_true rfl⟩) rfl rfl (Nat.le_of_ble_eq_true rfl) dX10_figures_21 (fun H locs hw => ?_)
          refine lv_bipush (v := (57 : Int32)) hx hb dX10_figures_24 (by decide) ?_
          refine lv_icmp_gt (tgt := 74) hx hb dX10_figures_26 (by decide) (fun c13 => ?_) (fun c13 => ?_)
          · have hm := if_t c13 hm
            refine lv_iload_n hx hb dX10_figures_74 rfl (lv_at hl 2 rfl) ?_
            refine lv_if_ne (tgt := 86) hx hb dX10_figures_75 (by decide) (fun c14 => ?_) (fun c14 => ?_)
            · have hm := if_f c14 hm
              refine lv_iload_n hx hb dX10_figures_86 rfl (lv_at hl 1 rfl) ?_
              exact rtM_i cx hr hlk hw hm dX10_figures_87
            · have hm := if_t c14 hm
              refine lv_aload_n hx hb dX10_figures_78 rfl (lv_at hl 0 rfl) ?_
              refine lv_aload_n hx hb dX10_figures_79 rfl (lv_at hl 0 rfl) ?_
              refine gtM_21 cx ok hw dX10_figures_80 ?_
              obtain ⟨σ16, h15, hm⟩ := bp_ok hm
              refine clV_Mv (As := [.int (σ.1 21 0)]) (rest := []) cx hml hl.1 ok hw hA (cM_stop l E _ σ σ16 (σ.1 21 0) h15) (cwM_stop hA9 ⟨Nat.le_of_ble_eq_true rfl, Nat.le_of_ble_eq_true rfl⟩) rfl rfl (Nat.le_of_ble_eq_true rfl) dX10_figures_83 (fun H locs hw => ?_)
              refine lv_iload_n hx hb dX10_figures_86 rfl (lv_at hl 1 rfl) ?_
              exact rtM_i cx hr hlk hw hm dX10_figures_87
          · have hm := if_f c13 hm
            refine lv_iload_n hx hb dX10_figures_29 rfl (lv_at hl 2 rfl) ?_
            refine lv_iconst (v := (3 : Int32)) hx hb dX10_figures_30 (by decide) ?_
            refine lv_icmp_ne (tgt := 45) hx hb dX10_figures_31 (by decide) (fun c17 => ?_) (fun c17 => ?_)
            · have hm := if_f c17 hm
              refine lv_bipush (v := (10 : Int32)) hx hb dX10_figures_45 (by decide) ?_
              refine lv_iload_n hx hb dX10_figures_47 rfl (lv_at hl 1 rfl) ?_
              refine lv_imul hx hb dX10_figures_48 ?_
              refine lv_aload_n hx hb dX10_figures_49 rfl (lv_at hl 0 rfl) ?_
              obtain ⟨r19, h18, hm⟩ := bp_ok hm
              refine clV_Mi (As := []) (rest := [.int ((10 : Int32) * x1)]) cx hml hl.1 ok hw hA (cM_here l E _ σ r19 h18) (cwM_here hA9 ⟨Nat.le_of_ble_eq_true rfl, Nat.le_of_ble_eq_true rfl⟩) rfl rfl (Nat.le_of_ble_eq_true rfl) dX10_figures_50 (fun H locs hw => ?_)
              refine lv_iadd hx hb dX10_figures_53 ?_
              refine lv_bipush (v := (48 : Int32)) hx hb dX10_figures_54 (by decide) ?_
              refine lv_isub hx hb dX10_figures_56 ?_
              obtain ⟨x1_20, e21, hm⟩ := lt_ok hm
              refine ti_eq e21 ?_
              refine lv_istore_n (lv' := [(1, .int x1_20), (0, .ref (E.2.2 1000)), (2, .int x2)]) hx hb dX10_figures_57 rfl hl (by decide) rfl (fun ls hl => ?_)
              refine lv_aload_n hx hb dX10_figures_58 rfl (lv_at hl 1 rfl) ?_
              refine lv_dup hx hb dX10_figures_59 rfl ?_
              refine gtM_21 cx ok hw dX10_figures_60 ?_
              refine lv_iconst (v := (1 : Int32)) hx hb dX10_figures_63 (by decide) ?_
              refine lv_iadd hx hb dX10_figures_64 ?_
              refine ptM_21 cx ok hw dX10_figures_65 (fun H locs hw => ?_)
              obtain ⟨σ22, e23, hm⟩ := lt_ok hm
              have hw := wsM_eq e23 hw
              obtain ⟨x2_24, e25, hm⟩ := lt_ok hm
              refine lv_iinc (v := x2_24) (lv' := [(2, .int x2_24), (1, .int x1_20), (0, .ref (E.2.2 1000))]) hx hb dX10_figures_68 hl (k := 2) rfl (by rw [e25]; rfl) (by decide) rfl (fun ls hl => ?_)
              refine lv_goto (tgt := 4) hx hb dX10_figures_71 (by decide) ?_
              exact ih σ22 x1_20 x2_24 H locs ls hw (lv_sub hl [2, 1, 0] rfl) hm
            · have hm := if_t c17 hm
              refine lv_aload_n hx hb dX10_figures_34 rfl (lv_at hl 0 rfl) ?_
              refine lv_aload_n hx hb dX10_figures_35 rfl (lv_at hl 0 rfl) ?_
              refine gtM_21 cx ok hw dX10_figures_36 ?_
              obtain ⟨σ27, h26, hm⟩ := bp_ok hm
              refine clV_Mv (As := [.int (σ.1 21 0)]) (rest := []) cx hml hl.1 ok hw hA (cM_stop l E _ σ σ27 (σ.1 21 0) h26) (cwM_stop hA9 ⟨Nat.le_of_ble_eq_true rfl, Nat.le_of_ble_eq_true rfl⟩) rfl rfl (Nat.le_of_ble_eq_true rfl) dX10_figures_39 (fun H locs hw => ?_)
              refine lv_goto (tgt := 4) hx hb dX10_figures_42 (by decide) ?_
              exact ih σ27 x1 x2 H locs ls hw (lv_sub hl [0, 1, 2] rfl) hm
  have hl : lv_has ls 3 [(0, .ref (E.2.2 1000))] := hl
  unfold M_figures at hm
  have goal0 : ∀ (H : Heap) (locs : List Loc), wsM E σ0 (va_A (wldM E σ0) sz) s H locs → W p l e rmM_figures s m args below meth c H locs 0 0 (MQ below (QiM E σ0 σ' sz r) args s 0 0 (va_A (wldM E σ0) sz)) (F0 m 0 ls []) := by
    intro H locs hw
    refine lv_iconst (v := (0 : Int32)) hx hb dX10_figures_0 (by decide) ?_
    refine lv_istore_n (lv' := [(1, .int (0 : Int32)), (0, .ref (E.2.2 1000))]) hx hb dX10_figures_1 rfl hl (by decide) rfl (fun ls hl => ?_)
    refine lv_iconst (v := (0 : Int32)) hx hb dX10_figures_2 (by decide) ?_
    refine lv_istore_n (lv' := [(2, .int (0 : Int32)), (1, .int (0 : Int32)), (0, .ref (E.2.2 1000))]) hx hb dX10_figures_3 rfl hl (by decide) rfl (fun ls hl => ?_)
    exact w_4 n σ0 (0 : Int32) (0 : Int32) H locs ls hw (lv_sub hl [2, 1, 0] rfl) hm
  exact goal0 _ _ hw
theorem cwM_figures {R : Room} {s : State} {args : Array Value} (h : ∀ w ∈ wA, w.before args s = true) (hR : rmM_figures.frames + 1 ≤ R.frames ∧ 8 + (3 + 11) + rmM_figures.locals ≤ R.locals) : CallW R s args RX10 RX10 160 yX10_figures cX10_figures 3 (some .int) (wz yX10_figures cX10_figures 3 (some .int)) rmM_figures 0 0 0 := cwV 0 h (gdV k_991 k_993 ks_54 k_11 k_994) rfl rfl rfl (by decide +kernel) hR
/-! private void rule();: writes -/
def M_rule_b195 (n : Nat) (σ : St) : Option St :=
  if 0 ≤ (σ.1 22 0) then
    lt (sI σ 21 0 ((σ.1 21 0) + (1 : Int32))) fun σ2 =>
    lt (sI σ2 15 0 ((σ2.1 15 0) + (1 : Int32))) fun σ4 =>
    some σ4
  else
    bp (M_here σ) fun r7 =>
    if r7 = (59 : Int32) then
      lt (sI σ 21 0 ((σ.1 21 0) + (1 : Int32))) fun σ9 =>
      lt (sI σ9 15 0 ((σ9.1 15 0) + (1 : Int32))) fun σ11 =>
      some σ11
    else
      bp (M_stop σ (σ.1 21 0)) fun σ14 =>
      lt (sI σ14 21 0 ((σ14.1 21 0) + (1 : Int32))) fun σ15 =>
      lt (sI σ15 15 0 ((σ15.1 15 0) + (1 : Int32))) fun σ17 =>
      some σ17
def M_rule_b158 (n : Nat) (σ : St) (x1 : Int32) : Option St :=
  bp (M_here σ) fun r2 =>
  if r2 = (58 : Int32) then
    lt (sI σ 21 0 ((σ.1 21 0) + (1 : Int32))) fun σ4 =>
    bp (M_blanks n σ4) fun σ7 =>
    bd (M_figures n σ7) fun r9 σ10 =>
    gd x1 61 <|
    lt (sI σ10 19 x1.toNatClampNeg r9) fun σ12 =>
    bp (M_blanks n σ12) fun σ15 =>
    M_rule_b195 n σ15
  else
    M_rule_b195 n σ
def M_rule (n : Nat) (σ0 : St) : Option St :=
  lt ((σ0.1 15 0)) fun x1_1 =>
  bp (M_here σ0) fun r4 =>
  bp (M_isName r4) fun r6 =>
  if r6 = 0 then
    bp (M_stop σ0 (σ0.1 21 0)) fun σ60 =>
    some σ60
  else
    gd x1_1 61 <|
    lt (sI σ0 20 x1_1.toNatClampNeg (σ0.1 21 0)) fun σ9 =>
    bp (M_here σ9) fun r12 =>
    gd x1_1 61 <|
    lt (sI σ9 16 x1_1.toNatClampNeg (r12 - (65 : Int32))) fun σ14 =>
    gd x1_1 61 <|
    lt (sI σ14 18 x1_1.toNatClampNeg (-1 : Int32)) fun σ17 =>
    gd x1_1 61 <|
    lt (sI σ17 19 x1_1.toNatClampNeg (0 : Int32)) fun σ20 =>
    lt (sI σ20 21 0 ((σ20.1 21 0) + (1 : Int32))) fun σ22 =>
    bp (M_blanks n σ22) fun σ25 =>
    bp (M_here σ25) fun r27 =>
    if r27 = (61 : Int32) then
      lt (sI σ25 21 0 ((σ25.1 21 0) + (1 : Int32))) fun σ29 =>
      bp (M_blanks n σ29) fun σ32 =>
      bp (M_isItem σ32) fun r34 =>
      if r34 = 0 then
        bp (M_stop σ32 (σ32.1 21 0)) fun σ56 =>
        some σ56
      else
        bd (M_item σ32) fun r37 σ38 =>
        gd x1_1 61 <|
        lt (sI σ38 17 x1_1.toNatClampNeg r37) fun σ40 =>
        bp (M_blanks n σ40) fun σ43 =>
        bp (M_isItem σ43) fun r45 =>
        if r45 = 0 then
          M_rule_b158 n σ43 x1_1
        else
          bd (M_item σ43) fun r48 σ49 =>
          gd x1_1 61 <|
          lt (sI σ49 18 x1_1.toNatClampNeg r48) fun σ51 =>
          bp (M_blanks n σ51) fun σ54 =>
          M_rule_b158 n σ54 x1_1
    else
      bp (M_stop σ25 (σ25.1 21 0)) fun σ58 =>
      some σ58
abbrev rmM_rule : Room := { frames := 2, cells := 0, slots := 0, locals := 43 }
set_option maxHeartbeats 4000000 in
set_option maxRecDepth 100000 in
theorem cM_rule (l : Launch) (E : Ev) (n : Nat) (sz : Nat) (σ0 σ' : St) (hm : M_rule n σ0 = some σ') : Met l yX10_rule (wz yX10_rule cX10_rule 2 none) rmM_rule (PwM E [.ref (E.2.2 1000)] σ0 sz) (QvM E σ0 σ' sz) 0 0 (va_A (wldM E σ0) sz) := by
  refine enM (by decide) rfl (Nat.le_of_ble_eq_true rfl) (fun p e s m args below meth c cx hr hlk hml hsz ok hw ls hl => ?_)
  have hx := cx.1
  have hb := cx.2.1
  have hA9 := cx.2.2.2
  have hA : ∀ q, s.heap.size ≤ q → (va_A (wldM E σ0) sz) q := fun q h => Or.inr (by rw [← hsz]; exact h)
  have w_195 : ∀ (σ : St) (H : Heap) (locs : List Loc) (ls : Array Slot), wsM E σ (va_A (wldM E σ0) sz) s H locs → lv_has ls 2 [(0, .ref (E.2.2 1000))] → M_rule_b195 n σ = some σ' → W p l e rmM_rule s m args below meth c H locs 0 0 (MQ below (QvM E σ0 σ' sz) args s 0 0 (va_A (wldM E σ0) sz)) (F0 m 195 ls []) := by
    intro σ H locs ls hw hl hm
    unfold M_rule_b195 at hm
    refine lv_aload_n hx hb dX10_rule_195 rfl (lv_at hl 0 rfl) ?_
    refine gtM_22 cx ok hw dX10_rule_196 ?_
    refine lv_if_ge (tgt := 219) hx hb dX10_rule_199 (by decide) (fun c1 => ?_) (fun c1 => ?_)
    · have hm := if_t c1 hm
      refine lv_aload_n hx hb dX10_rule_219 rfl (lv_at hl 0 rfl) ?_
      refine lv_dup hx hb dX10_rule_220 rfl ?_
      refine gtM_21 cx ok hw dX10_rule_221 ?_
      refine lv_iconst (v := (1 : Int32)) hx hb dX10_rule_224 (by decide) ?_
      refine lv_iadd hx hb dX10_rule_225 ?_
      refine ptM_21 cx ok hw dX10_rule_226 (fun H locs hw => ?_)
      obtain ⟨σ2, e3, hm⟩ := lt_ok hm
      have hw := wsM_eq e3 hw
      refine lv_aload_n hx hb dX10_rule_229 rfl (lv_at hl 0 rfl) ?_
      refine lv_dup hx hb dX10_rule_230 rfl ?_
      refine gtM_15 cx ok hw dX10_rule_231 ?_
      refine lv_iconst (v := (1 : Int32)) hx hb dX10_rule_234 (by decide) ?_
      refine lv_iadd hx hb dX10_rule_235 ?_
      refine ptM_15 cx ok hw dX10_rule_236 (fun H locs hw => ?_)
      obtain ⟨σ4, e5, hm⟩ := lt_ok hm
      have hw := wsM_eq e5 hw
      exact rtM_v cx hr hlk hw hm dX10_rule_239
    · have hm := if_f c1 hm
      refine lv_aload_n hx hb dX10_rule_202 rfl (lv_at hl 0 rfl) ?_
      obtain ⟨r7, h6, hm⟩ := bp_ok hm
      refine clV_Mi (As := []) (rest := []) cx hml hl.1 ok hw hA (cM_here l E _ σ r7 h6) (cwM_here hA9 ⟨Nat.le_of_ble_eq_true rfl, Nat.le_of_ble_eq_true rfl⟩) rfl rfl (Nat.le_of_ble_eq_true rfl) dX10_rule_203 (fun H locs hw => ?_)
      refine lv_bipush (v := (59 : Int32)) hx hb dX10_rule_206 (by decide) ?_
      refine lv_icmp_eq (tgt := 219) hx hb dX10_rule_208 (by decide) (fun c8 => ?_) (fun c8 => ?_)
      · have hm := if_t c8 hm
        refine lv_aload_n hx hb dX10_rule_219 rfl (lv_at hl 0 rfl) ?_
        refine lv_dup hx hb dX10_rule_220 rfl ?_
        refine gtM_21 cx ok hw dX10_rule_221 ?_
        refine lv_iconst (v := (1 : Int32)) hx hb dX10_rule_224 (by decide) ?_
        refine lv_iadd hx hb dX10_rule_225 ?_
        refine ptM_21 cx ok hw dX10_rule_226 (fun H locs hw => ?_)
        obtain ⟨σ9, e10, hm⟩ := lt_ok hm
        have hw := wsM_eq e10 hw
        refine lv_aload_n hx hb dX10_rule_229 rfl (lv_at hl 0 rfl) ?_
        refine lv_dup hx hb dX10_rule_230 rfl ?_
        refine gtM_15 cx ok hw dX10_rule_231 ?_
        refine lv_iconst (v := (1 : Int32)) hx hb dX10_rule_234 (by decide) ?_
        refine lv_iadd hx hb dX10_rule_235 ?_
        refine ptM_15 cx ok hw dX10_rule_236 (fun H locs hw => ?_)
        obtain ⟨σ11, e12, hm⟩ := lt_ok hm
        have hw := wsM_eq e12 hw
        exact rtM_v cx hr hlk hw hm dX10_rule_239
      · have hm := if_f c8 hm
        refine lv_aload_n hx hb dX10_rule_211 rfl (lv_at hl 0 rfl) ?_
        refine lv_aload_n hx hb dX10_rule_212 rfl (lv_at hl 0 rfl) ?_
        refine gtM_21 cx ok hw dX10_rule_213 ?_
        obtain ⟨σ14, h13, hm⟩ := bp_ok hm
        refine clV_Mv (As := [.int (σ.1 21 0)]) (rest := []) cx hml hl.1 ok hw hA (cM_stop l E _ σ σ14 (σ.1 21 0) h13) (cwM_stop hA9 ⟨Nat.le_of_ble_eq_true rfl, Nat.le_of_ble_eq_true rfl⟩) rfl rfl (Nat.le_of_ble_eq_true rfl) dX10_rule_216 (fun H locs hw => ?_)
        refine lv_aload_n hx hb dX10_rule_219 rfl (lv_at hl 0 rfl) ?_
        refine lv_dup hx hb dX10_rule_220 rfl ?_
        refine gtM_21 cx ok hw dX10_rule_221 ?_
        refine lv_iconst (v := (1 : Int32)) hx hb dX10_rule_224 (by decide) ?_
        refine lv_iadd hx hb dX10_rule_225 ?_
        refine ptM_21 cx ok hw dX10_rule_226 (fun H locs hw => ?_)
        obtain ⟨σ15, e16, hm⟩ := lt_ok hm
        have hw := wsM_eq e16 hw
        refine lv_aload_n hx hb dX10_rule_229 rfl (lv_at hl 0 rfl) ?_
        refine lv_dup hx hb dX10_rule_230 rfl ?_
        refine gtM_15 cx ok hw dX10_rule_231 ?_
        refine lv_iconst (v := (1 : Int32)) hx hb dX10_rule_234 (by decide) ?_
        refine lv_iadd hx hb dX10_rule_235 ?_
        refine ptM_15 cx ok hw dX10_rule_236 (fun H locs hw => ?_)
        obtain ⟨σ17, e18, hm⟩ := lt_ok hm
        have hw := wsM_eq e18 hw
        exact rtM_v cx hr hlk hw hm dX10_rule_239
  have w_158 : ∀ (σ : St) (x1 : Int32) (H : Heap) (locs : List Loc) (ls : Array Slot), wsM E σ (va_A (wldM E σ0) sz) s H locs → lv_has ls 2 [(0, .ref (E.2.2 1000)), (1, .int x1)] → M_rule_b158 n σ x1 = some σ' → W p l e rmM_rule s m args below meth c H locs 0 0 (MQ below (QvM E σ0 σ' sz) args s 0 0 (va_A (wldM E σ0) sz)) (F0 m 158 ls []) := by
    intro σ x1 H locs ls hw hl hm
    unfold M_rule_b158 at hm
    refine lv_aload_n hx hb dX10_rule_158 rfl (lv_at hl 0 rfl) ?_
    obtain ⟨r2, h1, hm⟩ := bp_ok hm
    refine clV_Mi (As := []) (rest := []) cx hml hl.1 ok hw hA (cM_here l E _ σ r2 h1) (cwM_here hA9 ⟨Nat.le_of_ble_eq_true rfl, Nat.le_of_ble_eq_true rfl⟩) rfl rfl (Nat.le_of_ble_eq_true rfl) dX10_rule_159 (fun H locs hw => ?_)
    refine lv_bipush (v := (58 : Int32)) hx hb dX10_rule_162 (by decide) ?_
    refine lv_icmp_ne (tgt := 195) hx hb dX10_rule_164 (by decide) (fun c3 => ?_) (fun c3 => ?_)
    · have hm := if_f c3 hm
      exact w_195 σ H locs ls hw (lv_sub hl [0] rfl) hm
    · have hm := if_t c3 hm
      refine lv_aload_n hx hb dX10_rule_167 rfl (lv_at hl 0 rfl) ?_
      refine lv_dup hx hb dX10_rule_168 rfl ?_
      refine gtM_21 cx ok hw dX10_rule_169 ?_
      refine lv_iconst (v := (1 : Int32)) hx hb dX10_rule_172 (by decide) ?_
      refine lv_iadd hx hb dX10_rule_173 ?_
      refine ptM_21 cx ok hw dX10_rule_174 (fun H locs hw => ?_)
      obtain ⟨σ4, e5, hm⟩ := lt_ok hm
      have hw := wsM_eq e5 hw
      refine lv_aload_n hx hb dX10_rule_177 rfl (lv_at hl 0 rfl) ?_
      obtain ⟨σ7, h6, hm⟩ := bp_ok hm
      refine clV_Mv (As := []) (rest := []) cx hml hl.1 ok hw hA (cM_blanks l E n _ σ4 σ7 h6) (cwM_blanks hA9 ⟨Nat.le_of_ble_eq_true rfl, Nat.le_of_ble_eq_true rfl⟩) rfl rfl (Nat.le_of_ble_eq_true rfl) dX10_rule_178 (fun H locs hw => ?_)
      refine lv_aload_n hx hb dX10_rule_181 rfl (lv_at hl 0 rfl) ?_
      refine gtM_19 cx ok hw dX10_rule_182 ?_
      refine lv_iload_n hx hb dX10_rule_185 rfl (lv_at hl 1 rfl) ?_
      refine lv_aload_n hx hb dX10_rule_186 rfl (lv_at hl 0 rfl) ?_
      obtain ⟨r9, σ10, h8, hm⟩ := bd_ok hm
      refine clV_Mi (As := []) (rest := [.int x1, .ref (E.2.2 19)]) cx hml hl.1 ok hw hA (cM_figures l E n _ σ7 σ10 r9 h8) (cwM_figures hA9 ⟨Nat.le_of_ble_eq_true rfl, Nat.le_of_ble_eq_true rfl⟩) rfl rfl (Nat.le_of_ble_eq_true rfl) dX10_rule_187 (fun H locs hw => ?_)
      obtain ⟨g11, hm⟩ := gd_ok hm
      refine stM_19 cx ok hw g11 dX10_rule_190 (fun H locs hw => ?_)
      obtain ⟨σ12, e13, hm⟩ := lt_ok hm
      have hw := wsM_eq e13 hw
      refine lv_aload_n hx hb dX10_rule_191 rfl (lv_at hl 0 rfl) ?_
      obtain ⟨σ15, h14, hm⟩ := bp_ok hm
      refine clV_Mv (As := []) (rest := []) cx hml hl.1 ok hw hA (cM_blanks l E n _ σ12 σ15 h14) (cwM_blanks hA9 ⟨Nat.le_of_ble_eq_true rfl, Nat.le_of_ble_eq_true rfl⟩) rfl rfl (Nat.le_of_ble_eq_true rfl) dX10_rule_192 (fun H locs hw => ?_)
      exact w_195 σ15 H locs ls hw (lv_sub hl [0] rfl) hm
  have hl : lv_has ls 2 [(0, .ref (E.2.2 1000))] := hl
  unfold M_rule at hm
  have goal0 : ∀ (H : Heap) (locs : List Loc), wsM E σ0 (va_A (wldM E σ0) sz) s H locs → W p l e rmM_rule s m args below meth c H locs 0 0 (MQ below (QvM E σ0 σ' sz) args s 0 0 (va_A (wldM E σ0) sz)) (F0 m 0 ls []) := by
    intro H locs hw
    refine lv_aload_n hx hb dX10_rule_0 rfl (lv_at hl 0 rfl) ?_
    refine gtM_15 cx ok hw dX10_rule_1 ?_
    obtain ⟨x1_1, e2, hm⟩ := lt_ok hm
    refine ti_eq e2 ?_
    refine lv_istore_n (lv' := [(1, .int x1_1), (0, .ref (E.2.2 1000))]) hx hb dX10_rule_4 rfl hl (by decide) rfl (fun ls hl => ?_)
    refine lv_aload_n hx hb dX10_rule_5 rfl (lv_at hl 1 rfl) ?_
    obtain ⟨r4, h3, hm⟩ := bp_ok hm
    refine clV_Mi (As := []) (rest := []) cx hml hl.1 ok hw hA (cM_here l E _ σ0 r4 h3) (cwM_here hA9 ⟨Nat.le_of_ble_eq_true rfl, Nat.le_of_ble_eq_true rfl⟩) rfl rfl (Nat.le_of_ble_eq_true rfl) dX10_rule_6 (fun H locs hw => ?_)
    obtain ⟨r6, h5, hm⟩ := bp_ok hm
    refine clS_Mi (As := [.int r4]) (rest := []) cx hml hl.1 ok hw hA (cM_isName l E _ σ0 r4 r6 h5) (cwM_isName hA9 ⟨Nat.le_of_ble_eq_true rfl, Nat.le_of_ble_eq_true rfl⟩) rfl rfl (Nat.le_of_ble_eq_true rfl) dX10_rule_9 (fun H locs hw => ?_)
    refine lv_if_ne (tgt := 24) hx hb dX10_rule_12 (by decide) (fun c7 => ?_) (fun c7 => ?_)
    · have hm := if_f c7 hm
      refine lv_aload_n hx hb dX10_rule_24 rfl (lv_at hl 1 rfl) ?_
      refine gtM_20 cx ok hw dX10_rule_25 ?_
      refine lv_iload_n hx hb dX10_rule_28 rfl (lv_at hl 0 rfl) ?_
      refine lv_aload_n hx hb dX10_rule_29 rfl (lv_at hl 1 rfl) ?_
      refine gtM_21 cx ok hw dX10_rule_30 ?_
      obtain ⟨g8, hm⟩ := gd_ok hm
      refine stM_20 cx ok hw g8 dX10_rule_33 (fun H locs hw => ?_)
      obtain ⟨σ9, e10, hm⟩ := lt_ok hm
      have hw := wsM_eq e10 hw
      refine lv_aload_n hx hb dX10_rule_34 rfl (lv_at hl 1 rfl) ?_
      refine gtM_16 cx ok hw dX10_rule_35 ?_
      refine lv_iload_n hx hb dX10_rule_38 rfl (lv_at hl 0 rfl) ?_
      refine lv_aload_n hx hb dX10_rule_39 rfl (lv_at hl 1 rfl) ?_
      obtain ⟨r12, h11, hm⟩ := bp_ok hm
      refine clV_Mi (As := []) (rest := [.int x1_1, .ref (E.2.2 16)]) cx hml hl.1 ok hw hA (cM_here l E _ σ9 r12 h11) (cwM_here hA9 ⟨Nat.le_of_ble_eq_true rfl, Nat.le_of_ble_eq_true rfl⟩) rfl rfl (Nat.le_of_ble_eq_true rfl) dX10_rule_40 (fun H locs hw => ?_)
      refine lv_bipush (v := (65 : Int32)) hx hb dX10_rule_43 (by decide) ?_
      refine lv_isub hx hb dX10_rule_45 ?_
      obtain ⟨g13, hm⟩ := gd_ok hm
      refine stM_16 cx ok hw g13 dX10_rule_46 (fun H locs hw => ?_)
      obtain ⟨σ14, e15, hm⟩ := lt_ok hm
      have hw := wsM_eq e15 hw
      refine lv_aload_n hx hb dX10_rule_47 rfl (lv_at hl 1 rfl) ?_
      refine gtM_18 cx ok hw dX10_rule_48 ?_
      refine lv_iload_n hx hb dX10_rule_51 rfl (lv_at hl 0 rfl) ?_
      refine lv_iconst (v := (-1 : Int32)) hx hb dX10_rule_52 (by decide) ?_
      obtain ⟨g16, hm⟩ := gd_ok hm
      refine stM_18 cx ok hw g16 dX10_rule_53 (fun H locs hw => ?_)
      obtain ⟨σ17, e18, hm⟩ := lt_ok hm
      have hw := wsM_eq e18 hw
      refine lv_aload_n hx hb dX10_rule_54 rfl (lv_at hl 1 rfl) ?_
      refine gtM_19 cx ok hw dX10_rule_55 ?_
      refine lv_iload_n hx hb dX10_rule_58 rfl (lv_at hl 0 rfl) ?_
      refine lv_iconst (v := (0 : Int32)) hx hb dX10_rule_59 (by decide) ?_
      obtain ⟨g19, hm⟩ := gd_ok hm
      refine stM_19 cx ok hw g19 dX10_rule_60 (fun H locs hw => ?_)
      obtain ⟨σ20, e21, hm⟩ := lt_ok hm
      have hw := wsM_eq e21 hw
      refine lv_aload_n hx hb dX10_rule_61 rfl (lv_at hl 1 rfl) ?_
      refine lv_dup hx hb dX10_rule_62 rfl ?_
      refine gtM_21 cx ok hw dX10_rule_63 ?_
      refine lv_iconst (v := (1 : Int32)) hx hb dX10_rule_66 (by decide) ?_
      refine lv_iadd hx hb dX10_rule_67 ?_
      refine ptM_21 cx ok hw dX10_rule_68 (fun H locs hw => ?_)
      obtain ⟨σ22, e23, hm⟩ := lt_ok hm
      have hw := wsM_eq e23 hw
      refine lv_aload_n hx hb dX10_rule_71 rfl (lv_at hl 1 rfl) ?_
      obtain ⟨σ25, h24, hm⟩ := bp_ok hm
      refine clV_Mv (As := []) (rest := []) cx hml hl.1 ok hw hA (cM_blanks l E n _ σ22 σ25 h24) (cwM_blanks hA9 ⟨Nat.le_of_ble_eq_true rfl, Nat.le_of_ble_eq_true rfl⟩) rfl rfl (Nat.le_of_ble_eq_true rfl) dX10_rule_72 (fun H locs hw => ?_)
      refine lv_aload_n hx hb dX10_rule_75 rfl (lv_at hl 1 rfl) ?_
      obtain ⟨r27, h26, hm⟩ := bp_ok hm
      refine clV_Mi (As := []) (rest := []) cx hml hl.1 ok hw hA (cM_here l E _ σ25 r27 h26) (cwM_here hA9 ⟨Nat.le_of_ble_eq_true rfl, Nat.le_of_ble_eq_true rfl⟩) rfl rfl (Nat.le_of_ble_eq_true rfl) dX10_rule_76 (fun H locs hw => ?_)
      refine lv_bipush (v := (61 : Int32)) hx hb dX10_rule_79 (by decide) ?_
      refine lv_icmp_eq (tgt := 93) hx hb dX10_rule_81 (by decide) (fun c28 => ?_) (fun c28 => ?_)
      · have hm := if_t c28 hm
        refine lv_aload_n hx hb dX10_rule_93 rfl (lv_at hl 1 rfl) ?_
        refine lv_dup hx hb dX10_rule_94 rfl ?_
        refine gtM_21 cx ok hw dX10_rule_95 ?_
        refine lv_iconst (v := (1 : Int32)) hx hb dX10_rule_98 (by decide) ?_
        refine lv_iadd hx hb dX10_rule_99 ?_
        refine ptM_21 cx ok hw dX10_rule_100 (fun H locs hw => ?_)
        obtain ⟨σ29, e30, hm⟩ := lt_ok hm
        have hw := wsM_eq e30 hw
        refine lv_aload_n hx hb dX10_rule_103 rfl (lv_at hl 1 rfl) ?_
        obtain ⟨σ32, h31, hm⟩ := bp_ok hm
        refine clV_Mv (As := []) (rest := []) cx hml hl.1 ok hw hA (cM_blanks l E n _ σ29 σ32 h31) (cwM_blanks hA9 ⟨Nat.le_of_ble_eq_true rfl, Nat.le_of_ble_eq_true rfl⟩) rfl rfl (Nat.le_of_ble_eq_true rfl) dX10_rule_104 (fun H locs hw => ?_)
        refine lv_aload_n hx hb dX10_rule_107 rfl (lv_at hl 1 rfl) ?_
        obtain ⟨r34, h33, hm⟩ := bp_ok hm
        refine clV_Mi (As := []) (rest := []) cx hml hl.1 ok hw hA (cM_isItem l E _ σ32 r34 h33) (cwM_isItem hA9 ⟨Nat.le_of_ble_eq_true rfl, Nat.le_of_ble_eq_true rfl⟩) rfl rfl (Nat.le_of_ble_eq_true rfl) dX10_rule_108 (fun H locs hw => ?_)
        refine lv_if_ne (tgt := 123) hx hb dX10_rule_111 (by decide) (fun c35 => ?_) (fun c35 => ?_)
        · have hm := if_f c35 hm
          refine lv_aload_n hx hb dX10_rule_123 rfl (lv_at hl 1 rfl) ?_
          refine gtM_17 cx ok hw dX10_rule_124 ?_
          refine lv_iload_n hx hb dX10_rule_127 rfl (lv_at hl 0 rfl) ?_
          refine lv_aload_n hx hb dX10_rule_128 rfl (lv_at hl 1 rfl) ?_
          obtain ⟨r37, σ38, h36, hm⟩ := bd_ok hm
          refine clV_Mi (As := []) (rest := [.int x1_1, .ref (E.2.2 17)]) cx hml hl.1 ok hw hA (cM_item l E _ σ32 σ38 r37 h36) (cwM_item hA9 ⟨Nat.le_of_ble_eq_true rfl, Nat.le_of_ble_eq_true rfl⟩) rfl rfl (Nat.le_of_ble_eq_true rfl) dX10_rule_129 (fun H locs hw => ?_)
          obtain ⟨g39, hm⟩ := gd_ok hm
          refine stM_17 cx ok hw g39 dX10_rule_132 (fun H locs hw => ?_)
          obtain ⟨σ40, e41, hm⟩ := lt_ok hm
          have hw := wsM_eq e41 hw
          refine lv_aload_n hx hb dX10_rule_133 rfl (lv_at hl 1 rfl) ?_
          obtain ⟨σ43, h42, hm⟩ := bp_ok hm
          refine clV_Mv (As := []) (rest := []) cx hml hl.1 ok hw hA (cM_blanks l E n _ σ40 σ43 h42) (cwM_blanks hA9 ⟨Nat.le_of_ble_eq_true rfl, Nat.le_of_ble_eq_true rfl⟩) rfl rfl (Nat.le_of_ble_eq_true rfl) dX10_rule_134 (fun H locs hw => ?_)
          refine lv_aload_n hx hb dX10_rule_137 rfl (lv_at hl 1 rfl) ?_
          obtain ⟨r45, h44, hm⟩ := bp_ok hm
          refine clV_Mi (As := []) (rest := []) cx hml hl.1 ok hw hA (cM_isItem l E _ σ43 r45 h44) (cwM_isItem hA9 ⟨Nat.le_of_ble_eq_true rfl, Nat.le_of_ble_eq_true rfl⟩) rfl rfl (Nat.le_of_ble_eq_true rfl) dX10_rule_138 (fun H locs hw => ?_)
          refine lv_if_eq (tgt := 158) hx hb dX10_rule_141 (by decide) (fun c46 => ?_) (fun c46 => ?_)
          · have hm := if_t c46 hm
            exact w_158 σ43 x1_1 H locs ls hw (lv_sub hl [1, 0] rfl) hm
          · have hm := if_f c46 hm
            refine lv_aload_n hx hb dX10_rule_144 rfl (lv_at hl 1 rfl) ?_
            refine gtM_18 cx ok hw dX10_rule_145 ?_
            refine lv_iload_n hx hb dX10_rule_148 rfl (lv_at hl 0 rfl) ?_
            refine lv_aload_n hx hb dX10_rule_149 rfl (lv_at hl 1 rfl) ?_
            obtain ⟨r48, σ49, h47, hm⟩ := bd_ok hm
            refine clV_Mi (As := []) (rest := [.int x1_1, .ref (E.2.2 18)]) cx hml hl.1 ok hw hA (cM_item l E _ σ43 σ49 r48 h47) (cwM_item hA9 ⟨Nat.le_of_ble_eq_true rfl, Nat.le_of_ble_eq_true rfl⟩) rfl rfl (Nat.le_of_ble_eq_true rfl) dX10_rule_150 (fun H locs hw => ?_)
            obtain ⟨g50, hm⟩ := gd_ok hm
            refine stM_18 cx ok hw g50 dX10_rule_153 (fun H locs hw => ?_)
            obtain ⟨σ51, e52, hm⟩ := lt_ok hm
            have hw := wsM_eq e52 hw
            refine lv_aload_n hx hb dX10_rule_154 rfl (lv_at hl 1 rfl) ?_
            obtain ⟨σ54, h53, hm⟩ := bp_ok hm
            refine clV_Mv (As := []) (rest := []) cx hml hl.1 ok hw hA (cM_blanks l E n _ σ51 σ54 h53) (cwM_blanks hA9 ⟨Nat.le_of_ble_eq_true rfl, Nat.le_of_ble_eq_true rfl⟩) rfl rfl (Nat.le_of_ble_eq_true rfl) dX10_rule_155 (fun H locs hw => ?_)
            exact w_158 σ54 x1_1 H locs ls hw (lv_sub hl [1, 0] rfl) hm
        · have hm := if_t c35 hm
          refine lv_aload_n hx hb dX10_rule_114 rfl (lv_at hl 1 rfl) ?_
          refine lv_aload_n hx hb dX10_rule_115 rfl (lv_at hl 1 rfl) ?_
          refine gtM_21 cx ok hw dX10_rule_116 ?_
          obtain ⟨σ56, h55, hm⟩ := bp_ok hm
          refine clV_Mv (As := [.int (σ32.1 21 0)]) (rest := []) cx hml hl.1 ok hw hA (cM_stop l E _ σ32 σ56 (σ32.1 21 0) h55) (cwM_stop hA9 ⟨Nat.le_of_ble_eq_true rfl, Nat.le_of_ble_eq_true rfl⟩) rfl rfl (Nat.le_of_ble_eq_true rfl) dX10_rule_119 (fun H locs hw => ?_)
          exact rtM_v cx hr hlk hw hm dX10_rule_122
      · have hm := if_f c28 hm
        refine lv_aload_n hx hb dX10_rule_84 rfl (lv_at hl 1 rfl) ?_
        refine lv_aload_n hx hb dX10_rule_85 rfl (lv_at hl 1 rfl) ?_
        refine gtM_21 cx ok hw dX10_rule_86 ?_
        obtain ⟨σ58, h57, hm⟩ := bp_ok hm
        refine clV_Mv (As := [.int (σ25.1 21 0)]) (rest := []) cx hml hl.1 ok hw hA (cM_stop l E _ σ25 σ58 (σ25.1 21 0) h57) (cwM_stop hA9 ⟨Nat.le_of_ble_eq_true rfl, Nat.le_of_ble_eq_true rfl⟩) rfl rfl (Nat.le_of_ble_eq_true rfl) dX10_rule_89 (fun H locs hw => ?_)
        exact rtM_v cx hr hlk hw hm dX10_rule_92
    · have hm := if_t c7 hm
      refine lv_aload_n hx hb dX10_rule_15 rfl (lv_at hl 1 rfl) ?_
      refine lv_aload_n hx hb dX10_rule_16 rfl (lv_at hl 1 rfl) ?_
      refine gtM_21 cx ok hw dX10_rule_17 ?_
      obtain ⟨σ60, h59, hm⟩ := bp_ok hm
      refine clV_Mv (As := [.int (σ0.1 21 0)]) (rest := []) cx hml hl.1 ok hw hA (cM_stop l E _ σ0 σ60 (σ0.1 21 0) h59) (cwM_stop hA9 ⟨Nat.le_of_ble_eq_true rfl, Nat.le_of_ble_eq_true rfl⟩) rfl rfl (Nat.le_of_ble_eq_true rfl) dX10_rule_20 (fun H locs hw => ?_)
      exact rtM_v cx hr hlk hw hm dX10_rule_23
  exact goal0 _ _ hw
theorem cwM_rule {R : Room} {s : State} {args : Array Value} (h : ∀ w ∈ wA, w.before args s = true) (hR : rmM_rule.frames + 1 ≤ R.frames ∧ 8 + (2 + 11) + rmM_rule.locals ≤ R.locals) : CallW R s args RX10 RX10 166 yX10_rule cX10_rule 2 none (wz yX10_rule cX10_rule 2 none) rmM_rule 0 0 0 := cwV 0 h (gdV k_970 k_972 ks_51 k_11 k_973) rfl rfl rfl (by decide +kernel) hR
/-! private boolean isUnary(int);: reads only -/
def M_isUnary (σ0 : St) (x1 : Int32) : Option Int32 :=
  gd x1 61 <|
  if (σ0.1 18 x1.toNatClampNeg) = (-1 : Int32) then
    gd x1 61 <|
    if (100 : Int32) ≤ (σ0.1 17 x1.toNatClampNeg) then
      some (0 : Int32)
    else
      some (1 : Int32)
  else
    some (0 : Int32)
abbrev rmM_isUnary : Room := { frames := 0, cells := 0, slots := 0, locals := 0 }
set_option maxHeartbeats 4000000 in
set_option maxRecDepth 100000 in
theorem cM_isUnary (l : Launch) (E : Ev) (sz : Nat) (σ0 : St) (x1 : Int32) (r : Int32) (hm : M_isUnary σ0 x1 = some r) : Met l yX10_isUnary (wz yX10_isUnary cX10_isUnary 2 (some .boolean)) rmM_isUnary (PwM E [.ref (E.2.2 1000), .int x1] σ0 sz) (QiM E σ0 σ0 sz r) 0 0 (va_A (wldM E σ0) sz) := by
  refine enM (by decide) rfl (Nat.le_of_ble_eq_true rfl) (fun p e s m args below meth c cx hr hlk hml hsz ok hw ls hl => ?_)
  have hx := cx.1
  have hb := cx.2.1
  have hA9 := cx.2.2.2
  have hA : ∀ q, s.heap.size ≤ q → (va_A (wldM E σ0) sz) q := fun q h => Or.inr (by rw [← hsz]; exact h)
  have hl : lv_has ls 2 [(0, .ref (E.2.2 1000)), (1, .int x1)] := hl
  unfold M_isUnary at hm
  have goal0 : ∀ (H : Heap) (locs : List Loc), wsM E σ0 (va_A (wldM E σ0) sz) s H locs → W p l e rmM_isUnary s m args below meth c H locs 0 0 (MQ below (QiM E σ0 σ0 sz r) args s 0 0 (va_A (wldM E σ0) sz)) (F0 m 0 ls []) := by
    intro H locs hw
    refine lv_aload_n hx hb dX10_isUnary_0 rfl (lv_at hl 0 rfl) ?_
    refine gtM_18 cx ok hw dX10_isUnary_1 ?_
    refine lv_iload_n hx hb dX10_isUnary_4 rfl (lv_at hl 1 rfl) ?_
    obtain ⟨g1, hm⟩ := gd_ok hm
    refine ldM_18 cx ok hw g1 dX10_isUnary_5 ?_
    refine lv_iconst (v := (-1 : Int32)) hx hb dX10_isUnary_6 (by decide) ?_
    refine lv_icmp_ne (tgt := 25) hx hb dX10_isUnary_7 (by decide) (fun c2 => ?_) (fun c2 => ?_)
    · have hm := if_f c2 hm
      refine lv_iconst (v := (0 : Int32)) hx hb dX10_isUnary_25 (by decide) ?_
      exact rtM_z cx hr hlk hw (by decide) (pr_some hm) dX10_isUnary_26
    · have hm := if_t c2 hm
      refine lv_aload_n hx hb dX10_isUnary_10 rfl (lv_at hl 0 rfl) ?_
      refine gtM_17 cx ok hw dX10_isUnary_11 ?_
      refine lv_iload_n hx hb dX10_isUnary_14 rfl (lv_at hl 1 rfl) ?_
      obtain ⟨g3, hm⟩ := gd_ok hm
      refine ldM_17 cx ok hw g3 dX10_isUnary_15 ?_
      refine lv_bipush (v := (100 : Int32)) hx hb dX10_isUnary_16 (by decide) ?_
      refine lv_icmp_ge (tgt := 25) hx hb dX10_isUnary_18 (by decide) (fun c4 => ?_) (fun c4 => ?_)
      · have hm := if_t c4 hm
        refine lv_iconst (v := (0 : Int32)) hx hb dX10_isUnary_25 (by decide) ?_
        exact rtM_z cx hr hlk hw (by decide) (pr_some hm) dX10_isUnary_26
      · have hm := if_f c4 hm
        refine lv_iconst (v := (1 : Int32)) hx hb dX10_isUnary_21 (by decide) ?_
        refine lv_goto (tgt := 26) hx hb dX10_isUnary_22 (by decide) ?_
        exact rtM_z cx hr hlk hw (by decide) (pr_some hm) dX10_isUnary_26
  exact goal0 _ _ hw
theorem cwM_isUnary {R : Room} {s : State} {args : Array Value} (h : ∀ w ∈ wA, w.before args s = true) (hR : rmM_isUnary.frames + 1 ≤ R.frames ∧ 8 + (2 + 11) + rmM_isUnary.locals ≤ R.locals) : CallW R s args RX10 RX10 163 yX10_isUnary cX10_isUnary 2 (some .boolean) (wz yX10_isUnary cX10_isUnary 2 (some .boolean)) rmM_isUnary 0 0 1 := cwV 1 h (gdV k_999 k_1001 ks_56 k_11 k_1002) rfl rfl rfl (by decide +kernel) hR
/-! private void findRings();: writes, loops -/
def M_findRings_l159 (n : Nat) : Nat → St → Int32 → Option St
  | 0, _, _ => none
  | f + 1, σ, x1 =>
    if (σ.1 15 0) ≤ x1 then
      some σ
    else
      bp (M_isUnary σ x1) fun r3 =>
      if r3 = 0 then
        lt (x1 + (1 : Int32)) fun x1_5 =>
        (M_findRings_l159 n f) σ x1_5
      else
        gd x1 61 <|
        gd x1 61 <|
        if (σ.1 17 x1.toNatClampNeg) = (σ.1 16 x1.toNatClampNeg) then
          gd x1 61 <|
          bp (M_stop σ (σ.1 20 x1.toNatClampNeg)) fun σ12 =>
          lt (x1 + (1 : Int32)) fun x1_13 =>
          (M_findRings_l159 n f) σ12 x1_13
        else
          gd x1 61 <|
          gd x1 61 <|
          gd (((26 : Int32) * (σ.1 17 x1.toNatClampNeg)) + (σ.1 16 x1.toNatClampNeg)) 676 <|
          if (σ.1 23 (((26 : Int32) * (σ.1 17 x1.toNatClampNeg)) + (σ.1 16 x1.toNatClampNeg)).toNatClampNeg) = 0 then
            lt (x1 + (1 : Int32)) fun x1_19 =>
            (M_findRings_l159 n f) σ x1_19
          else
            gd x1 61 <|
            bp (M_stop σ (σ.1 20 x1.toNatClampNeg)) fun σ23 =>
            lt (x1 + (1 : Int32)) fun x1_24 =>
            (M_findRings_l159 n f) σ23 x1_24
def M_findRings_l86 (n : Nat) (k70 : St → Int32 → Option St) (k78 : St → Int32 → Int32 → Option St) : Nat → St → Int32 → Int32 → Int32 → Option St
  | 0, _, _, _, _ => none
  | f + 1, σ, x1, x2, x3 =>
    if (26 : Int32) ≤ x3 then
      lt (x2 + (1 : Int32)) fun x2_2 =>
      k78 σ x1 x2_2
    else
      gd (((26 : Int32) * x2) + x3) 676 <|
      gd (((26 : Int32) * x2) + x1) 676 <|
      if (σ.1 23 (((26 : Int32) * x2) + x1).toNatClampNeg) = 0 then
        gd (((26 : Int32) * x2) + x3) 676 <|
        lt (sI σ 23 (((26 : Int32) * x2) + x3).toNatClampNeg (vp_nar .boolean ((σ.1 23 (((26 : Int32) * x2) + x3).toNatClampNeg) ||| (0 : Int32)))) fun σ8 =>
        lt (x3 + (1 : Int32)) fun x3_10 =>
        (M_findRings_l86 n k70 k78 f) σ8 x1 x2 x3_10
      else
        gd (((26 : Int32) * x1) + x3) 676 <|
        if (σ.1 23 (((26 : Int32) * x1) + x3).toNatClampNeg) = 0 then
          gd (((26 : Int32) * x2) + x3) 676 <|
          lt (sI σ 23 (((26 : Int32) * x2) + x3).toNatClampNeg (vp_nar .boolean ((σ.1 23 (((26 : Int32) * x2) + x3).toNatClampNeg) ||| (0 : Int32)))) fun σ15 =>
          lt (x3 + (1 : Int32)) fun x3_17 =>
          (M_findRings_l86 n k70 k78 f) σ15 x1 x2 x3_17
        else
          gd (((26 : Int32) * x2) + x3) 676 <|
          lt (sI σ 23 (((26 : Int32) * x2) + x3).toNatClampNeg (vp_nar .boolean ((σ.1 23 (((26 : Int32) * x2) + x3).toNatClampNeg) ||| (1 : Int32)))) fun σ20 =>
          lt (x3 + (1 : Int32)) fun x3_22 =>
          (M_findRings_l86 n k70 k78 f) σ20 x1 x2 x3_22
def M_findRings_l78 (n : Nat) (k70 : St → Int32 → Option St) : Nat → St → Int32 → Int32 → Option St
  | 0, _, _, _ => none
  | f + 1, σ, x1, x2 =>
    if (26 : Int32) ≤ x2 then
      lt (x1 + (1 : Int32)) fun x1_2 =>
      k70 σ x1_2
    else
      M_findRings_l86 n k70 (M_findRings_l78 n k70 f) n σ x1 x2 (0 : Int32)
def M_findRings_l70 (n : Nat) : Nat → St → Int32 → Option St
  | 0, _, _ => none
  | f + 1, σ, x1 =>
    if (26 : Int32) ≤ x1 then
      M_findRings_l159 n n σ (0 : Int32)
    else
      M_findRings_l78 n (M_findRings_l70 n f) n σ x1 (0 : Int32)
def M_findRings_l24 (n : Nat) : Nat → St → Int32 → Option St
  | 0, _, _ => none
  | f + 1, σ, x1 =>
    if (σ.1 15 0) ≤ x1 then
      M_findRings_l70 n n σ (0 : Int32)
    else
      bp (M_isUnary σ x1) fun r3 =>
      if r3 = 0 then
        lt (x1 + (1 : Int32)) fun x1_5 =>
        (M_findRings_l24 n f) σ x1_5
      else
        gd x1 61 <|
        gd x1 61 <|
        gd (((26 : Int32) * (σ.1 16 x1.toNatClampNeg)) + (σ.1 17 x1.toNatClampNeg)) 676 <|
        lt (sI σ 23 (((26 : Int32) * (σ.1 16 x1.toNatClampNeg)) + (σ.1 17 x1.toNatClampNeg)).toNatClampNeg (vp_nar .boolean (1 : Int32))) fun σ10 =>
        lt (x1 + (1 : Int32)) fun x1_12 =>
        (M_findRings_l24 n f) σ10 x1_12
def M_findRings_l2 (n : Nat) : Nat → St → Int32 → Option St
  | 0, _, _ => none
  | f + 1, σ, x1 =>
    if (676 : Int32) ≤ x1 then
      M_findRings_l24 n n σ (0 : Int32)
    else
      gd x1 676 <|
      lt (sI σ 23 x1.toNatClampNeg (vp_nar .boolean (0 : Int32))) fun σ3 =>
      lt (x1 + (1 : Int32)) fun x1_5 =>
      (M_findRings_l2 n f) σ3 x1_5
def M_findRings (n : Nat) (σ0 : St) : Option St :=
  M_findRings_l2 n n σ0 (0 : Int32)
abbrev rmM_findRings : Room := { frames := 1, cells := 0, slots := 0, locals := 21 }
set_option maxHeartbeats 4000000 in
set_option maxRecDepth 100000 in
theorem cM_findRings (l : Launch) (E : Ev) (n : Nat) (sz : Nat) (σ0 σ' : St) (hm : M_findRings n σ0 = some σ') : Met l yX10_findRings (wz yX10_findRings cX10_findRings 4 none) rmM_findRings (PwM E [.ref (E.2.2 1000)] σ0 sz) (QvM E σ0 σ' sz) 0 0 (va_A (wldM E σ0) sz) := by
  refine enM (by decide) rfl (Nat.le_of_ble_eq_true rfl) (fun p e s m args below meth c cx hr hlk hml hsz ok hw ls hl => ?_)
  have hx := cx.1
  have hb := cx.2.1
  have hA9 := cx.2.2.2
  have hA : ∀ q, s.heap.size ≤ q → (va_A (wldM E σ0) sz) q := fun q h => Or.inr (by rw [← hsz]; exact h)
  have w_159 : ∀ (f : Nat), ∀ (σ : St) (x1 : Int32) (H : Heap) (locs : List Loc) (ls : Array Slot), wsM E σ (va_A (wldM E σ0) sz) s H locs → lv_has ls 4 [(0, .ref (E.2.2 1000)), (1, .int x1)] → M_findRings_l159 n f σ x1 = some σ' → W p l e rmM_findRings s m args below meth c H locs 0 0 (MQ below (QvM E σ0 σ' sz) args s 0 0 (va_A (wldM E σ0) sz)) (F0 m 159 ls []) := by
    intro f
    induction f with
    | zero =>
      intro σ x1 H locs ls hw hl hm
      rw [M_findRings_l159] at hm
      cases hm
    | succ f ih =>
      intro σ x1 H locs ls hw hl hm
      rw [M_findRings_l159] at hm
      refine lv_iload_n hx hb dX10_findRings_159 rfl (lv_at hl 1 rfl) ?_
      refine lv_aload_n hx hb dX10_findRings_160 rfl (lv_at hl 0 rfl) ?_
      refine gtM_15 cx ok hw dX10_findRings_161 ?_
      refine lv_icmp_ge (tgt := 230) hx hb dX10_findRings_164 (by decide) (fun c1 => ?_) (fun c1 => ?_)
      · have hm := if_t c1 hm
        exact rtM_v cx hr hlk hw hm dX10_findRings_230
      · have hm := if_f c1 hm
        refine lv_aload_n hx hb dX10_findRings_167 rfl (lv_at hl 0 rfl) ?_
        refine lv_iload_n hx hb dX10_findRings_168 rfl (lv_at hl 1 rfl) ?_
        obtain ⟨r3, h2, hm⟩ := bp_ok hm
        refine clV_Mi (As := [.int x1]) (rest := []) cx hml hl.1 ok hw hA (cM_isUnary l E _ σ x1 r3 h2) (cwM_isUnary hA9 ⟨Nat.le_of_ble_eq_true rfl, Nat.le_of_ble_eq_true rfl⟩) rfl rfl (Nat.le_of_ble_eq_true rfl) dX10_findRings_169 (fun H locs hw => ?_)
        refine lv_if_eq (tgt := 224) hx hb dX10_findRings_172 (by decide) (fun c4 => ?_) (fun c4 => ?_)
        · have hm := if_t c4 hm
          obtain ⟨x1_5, e6, hm⟩ := lt_ok hm
          refine lv_iinc (v := x1_5) (lv' := [(1, .int x1_5), (0, .ref (E.2.2 1000))]) hx hb dX10_findRings_224 hl (k := 1) rfl (by rw [e6]; rfl) (by decide) rfl (fun ls hl => ?_)
          refine lv_goto (tgt := 159) hx hb dX10_findRings_227 (by decide) ?_
          exact ih σ x1_5 H locs ls hw (lv_sub hl [1, 0] rfl) hm
        · have hm := if_f c4 hm
          refine lv_aload_n hx hb dX10_findRings_175 rfl (lv_at hl 0 rfl) ?_
          refine gtM_17 cx ok hw dX10_findRings_176 ?_
          refine lv_iload_n hx hb dX10_findRings_179 rfl (lv_at hl 1 rfl) ?_
          obtain ⟨g7, hm⟩ := gd_ok hm
          refine ldM_17 cx ok hw g7 dX10_findRings_180 ?_
          refine lv_aload_n hx hb dX10_findRings_181 rfl (lv_at hl 0 rfl) ?_
          refine gtM_16 cx ok hw dX10_findRings_182 ?_
          refine lv_iload_n hx hb dX10_findRings_185 rfl (lv_at hl 1 rfl) ?_
          obtain ⟨g8, hm⟩ := gd_ok hm
          refine ldM_16 cx ok hw g8 dX10_findRings_186 ?_
          refine lv_icmp_eq (tgt := 214) hx hb dX10_findRings_187 (by decide) (fun c9 => ?_) (fun c9 => ?_)
          · have hm := if_t c9 hm
            refine lv_aload_n hx hb dX10_findRings_214 rfl (lv_at hl 0 rfl) ?_
            refine lv_aload_n hx hb dX10_findRings_215 rfl (lv_at hl 0 rfl) ?_
            refine gtM_20 cx ok hw dX10_findRings_216 ?_
            refine lv_iload_n hx hb dX10_findRings_219 rfl (lv_at hl 1 rfl) ?_
            obtain ⟨g10, hm⟩ := gd_ok hm
            refine ldM_20 cx ok hw g10 dX10_findRings_220 ?_
            obtain ⟨σ12, h11, hm⟩ := bp_ok hm
            refine clV_Mv (As := [.int (σ.1 20 x1.toNatClampNeg)]) (rest := []) cx hml hl.1 ok hw hA (cM_stop l E _ σ σ12 (σ.1 20 x1.toNatClampNeg) h11) (cwM_stop hA9 ⟨Nat.le_of_ble_eq_true rfl, Nat.le_of_ble_eq_true rfl⟩) rfl rfl (Nat.le_of_ble_eq_true rfl) dX10_findRings_221 (fun H locs hw => ?_)
            obtain ⟨x1_13, e14, hm⟩ := lt_ok hm
            refine lv_iinc (v := x1_13) (lv' := [(1, .int x1_13), (0, .ref (E.2.2 1000))]) hx hb dX10_findRings_224 hl (k := 1) rfl (by rw [e14]; rfl) (by decide) rfl (fun ls hl => ?_)
            refine lv_goto (tgt := 159) hx hb dX10_findRings_227 (by decide) ?_
            exact ih σ12 x1_13 H locs ls hw (lv_sub hl [1, 0] rfl) hm
          · have hm := if_f c9 hm
            refine lv_aload_n hx hb dX10_findRings_190 rfl (lv_at hl 0 rfl) ?_
            refine gtM_23 cx ok hw dX10_findRings_191 ?_
            refine lv_bipush (v := (26 : Int32)) hx hb dX10_findRings_194 (by decide) ?_
            refine lv_aload_n hx hb dX10_findRings_196 rfl (lv_at hl 0 rfl) ?_
            refine gtM_17 cx ok hw dX10_findRings_197 ?_
            refine lv_iload_n hx hb dX10_findRings_200 rfl (lv_at hl 1 rfl) ?_
            obtain ⟨g15, hm⟩ := gd_ok hm
            refine ldM_17 cx ok hw g15 dX10_findRings_201 ?_
            refine lv_imul hx hb dX10_findRings_202 ?_
            refine lv_aload_n hx hb dX10_findRings_203 rfl (lv_at hl 0 rfl) ?_
            refine gtM_16 cx ok hw dX10_findRings_204 ?_
            refine lv_iload_n hx hb dX10_findRings_207 rfl (lv_at hl 1 rfl) ?_
            obtain ⟨g16, hm⟩ := gd_ok hm
            refine ldM_16 cx ok hw g16 dX10_findRings_208 ?_
            refine lv_iadd hx hb dX10_findRings_209 ?_
            obtain ⟨g17, hm⟩ := gd_ok hm
            refine ldM_23 cx ok hw g17 dX10_findRings_210 ?_
            refine lv_if_eq (tgt := 224) hx hb dX10_findRings_211 (by decide) (fun c18 => ?_) (fun c18 => ?_)
            · have hm := if_t c18 hm
              obtain ⟨x1_19, e20, hm⟩ := lt_ok hm
              refine lv_iinc (v := x1_19) (lv' := [(1, .int x1_19), (0, .ref (E.2.2 1000))]) hx hb dX10_findRings_224 hl (k := 1) rfl (by rw [e20]; rfl) (by decide) rfl (fun ls hl => ?_)
              refine lv_goto (tgt := 159) hx hb dX10_findRings_227 (by decide) ?_
              exact ih σ x1_19 H locs ls hw (lv_sub hl [1, 0] rfl) hm
            · have hm := if_f c18 hm
              refine lv_aload_n hx hb dX10_findRings_214 rfl (lv_at hl 0 rfl) ?_
              refine lv_aload_n hx hb dX10_findRings_215 rfl (lv_at hl 0 rfl) ?_
              refine gtM_20 cx ok hw dX10_findRings_216 ?_
              refine lv_iload_n hx hb dX10_findRings_219 rfl (lv_at hl 1 rfl) ?_
              obtain ⟨g21, hm⟩ := gd_ok hm
              refine ldM_20 cx ok hw g21 dX10_findRings_220 ?_
              obtain ⟨σ23, h22, hm⟩ := bp_ok hm
              refine clV_Mv (As := [.int (σ.1 20 x1.toNatClampNeg)]) (rest := []) cx hml hl.1 ok hw hA (cM_stop l E _ σ σ23 (σ.1 20 x1.toNatClampNeg) h22) (cwM_stop hA9 ⟨Nat.le_of_ble_eq_true rfl, Nat.le_of_ble_eq_true rfl⟩) rfl rfl (Nat.le_of_ble_eq_true rfl) dX10_findRings_221 (fun H locs hw => ?_)
              obtain ⟨x1_24, e25, hm⟩ := lt_ok hm
              refine lv_iinc (v := x1_24) (lv' := [(1, .int x1_24), (0, .ref (E.2.2 1000))]) hx hb dX10_findRings_224 hl (k := 1) rfl (by rw [e25]; rfl) (by decide) rfl (fun ls hl => ?_)
              refine lv_goto (tgt := 159) hx hb dX10_findRings_227 (by decide) ?_
              exact ih σ23 x1_24 H locs ls hw (lv_sub hl [1, 0] rfl) hm
  have w_86 : ∀ (k70 : St → Int32 → Option St) (hk70 : ∀ (σ : St) (x1 : Int32) (H : Heap) (locs : List Loc) (ls : Array Slot), wsM E σ (va_A (wldM E σ0) sz) s H locs → lv_has ls 4 [(0, .ref (E.2.2 1000)), (1, .int x1)] → k70 σ x1 = some σ' → W p l e rmM_findRings s m args below meth c H locs 0 0 (MQ below (QvM E σ0 σ' sz) args s 0 0 (va_A (wldM E σ0) sz)) (F0 m 70 ls [])) (k78 : St → Int32 → Int32 → Option St) (hk78 : ∀ (σ : St) (x1 : Int32) (x2 : Int32) (H : Heap) (locs : List Loc) (ls : Array Slot), wsM E σ (va_A (wldM E σ0) sz) s H locs → lv_has ls 4 [(0, .ref (E.2.2 1000)), (1, .int x1), (2, .int x2)] → k78 σ x1 x2 = some σ' → W p l e rmM_findRings s m args below meth c H locs 0 0 (MQ below (QvM E σ0 σ' sz) args s 0 0 (va_A (wldM E σ0) sz)) (F0 m 78 ls [])), ∀ (f : Nat), ∀ (σ : St) (x1 : Int32) (x2 : Int32) (x3 : Int32) (H : Heap) (locs : List Loc) (ls : Array Slot), wsM E σ (va_A (wldM E σ0) sz) s H locs → lv_has ls 4 [(0, .ref (E.2.2 1000)), (1, .int x1), (2, .int x2), (3, .int x3)] → M_findRings_l86 n k70 k78 f σ x1 x2 x3 = some σ' → W p l e rmM_findRings s m args below meth c H locs 0 0 (MQ below (QvM E σ0 σ' sz) args s 0 0 (va_A (wldM E σ0) sz)) (F0 m 86 ls []) := by
    intro k70 hk70 k78 hk78
    intro f
    induction f with
    | zero =>
      intro σ x1 x2 x3 H locs ls hw hl hm
      rw [M_findRings_l86] at hm
      cases hm
    | succ f ih =>
      intro σ x1 x2 x3 H locs ls hw hl hm
      rw [M_findRings_l86] at hm
      refine lv_iload_n hx hb dX10_findRings_86 rfl (lv_at hl 3 rfl) ?_
      refine lv_bipush (v := (26 : Int32)) hx hb dX10_findRings_87 (by decide) ?_
      refine lv_icmp_ge (tgt := 145) hx hb dX10_findRings_89 (by decide) (fun c1 => ?_) (fun c1 => ?_)
      · have hm := if_t c1 hm
        obtain ⟨x2_2, e3, hm⟩ := lt_ok hm
        refine lv_iinc (v := x2_2) (lv' := [(2, .int x2_2), (0, .ref (E.2.2 1000)), (1, .int x1), (3, .int x3)]) hx hb dX10_findRings_145 hl (k := 2) rfl (by rw [e3]; rfl) (by decide) rfl (fun ls hl => ?_)
        refine lv_goto (tgt := 78) hx hb dX10_findRings_148 (by decide) ?_
        exact hk78 σ x1 x2_2 H locs ls hw (lv_sub hl [1, 2, 0] rfl) hm
      · have hm := if_f c1 hm
        refine lv_aload_n hx hb dX10_findRings_92 rfl (lv_at hl 0 rfl) ?_
        refine gtM_23 cx ok hw dX10_findRings_93 ?_
        refine lv_bipush (v := (26 : Int32)) hx hb dX10_findRings_96 (by decide) ?_
        refine lv_iload_n hx hb dX10_findRings_98 rfl (lv_at hl 2 rfl) ?_
        refine lv_imul hx hb dX10_findRings_99 ?_
        refine lv_iload_n hx hb dX10_findRings_100 rfl (lv_at hl 3 rfl) ?_
        refine lv_iadd hx hb dX10_findRings_101 ?_
        refine lv_dup2_11 hx hb dX10_findRings_102 rfl rfl ?_
        obtain ⟨g4, hm⟩ := gd_ok hm
        refine ldM_23 cx ok hw g4 dX10_findRings_103 ?_
        refine lv_aload_n hx hb dX10_findRings_104 rfl (lv_at hl 0 rfl) ?_
        refine gtM_23 cx ok hw dX10_findRings_105 ?_
        refine lv_bipush (v := (26 : Int32)) hx hb dX10_findRings_108 (by decide) ?_
        refine lv_iload_n hx hb dX10_findRings_110 rfl (lv_at hl 2 rfl) ?_
        refine lv_imul hx hb dX10_findRings_111 ?_
        refine lv_iload_n hx hb dX10_findRings_112 rfl (lv_at hl 1 rfl) ?_
        refine lv_iadd hx hb dX10_findRings_113 ?_
        obtain ⟨g5, hm⟩ := gd_ok hm
        refine ldM_23 cx ok hw g5 dX10_findRings_114 ?_
        refine lv_if_eq (tgt := 136) hx hb dX10_findRings_115 (by decide) (fun c6 => ?_) (fun c6 => ?_)
        · have hm := if_t c6 hm
          refine lv_iconst (v := (0 : Int32)) hx hb dX10_findRings_136 (by decide) ?_
          refine lv_ior hx hb dX10_findRings_137 ?_
          obtain ⟨g7, hm⟩ := gd_ok hm
          refine stM_23 cx ok hw g7 dX10_findRings_138 (fun H locs hw => ?_)
          obtain ⟨σ8, e9, hm⟩ := lt_ok hm
          have hw := wsM_eq e9 hw
          obtain ⟨x3_10, e11, hm⟩ := lt_ok hm
          refine lv_iinc (v := x3_10) (lv' := [(3, .int x3_10), (0, .ref (E.2.2 1000)), (1, .int x1), (2, .int x2)]) hx hb dX10_findRings_139 hl (k := 3) rfl (by rw [e11]; rfl) (by decide) rfl (fun ls hl => ?_)
          refine lv_goto (tgt := 86) hx hb dX10_findRings_142 (by decide) ?_
          exact ih σ8 x1 x2 x3_10 H locs ls hw (lv_sub hl [1, 2, 3, 0] rfl) hm
        · have hm := if_f c6 hm
          refine lv_aload_n hx hb dX10_findRings_118 rfl (lv_at hl 0 rfl) ?_
          refine gtM_23 cx ok hw dX10_findRings_119 ?_
          refine lv_bipush (v := (26 : Int32)) hx hb dX10_findRings_122 (by decide) ?_
          refine lv_iload_n hx hb dX10_findRings_124 rfl (lv_at hl 1 rfl) ?_
          refine lv_imul hx hb dX10_findRings_125 ?_
          refine lv_iload_n hx hb dX10_findRings_126 rfl (lv_at hl 3 rfl) ?_
          refine lv_iadd hx hb dX10_findRings_127 ?_
          obtain ⟨g12, hm⟩ := gd_ok hm
          refine ldM_23 cx ok hw g12 dX10_findRings_128 ?_
          refine lv_if_eq (tgt := 136) hx hb dX10_findRings_129 (by decide) (fun c13 => ?_) (fun c13 => ?_)
          · have hm := if_t c13 hm
            refine lv_iconst (v := (0 : Int32)) hx hb dX10_findRings_136 (by decide) ?_
            refine lv_ior hx hb dX10_findRings_137 ?_
            obtain ⟨g14, hm⟩ := gd_ok hm
            refine stM_23 cx ok hw g14 dX10_findRings_138 (fun H locs hw => ?_)
            obtain ⟨σ15, e16, hm⟩ := lt_ok hm
            have hw := wsM_eq e16 hw
            obtain ⟨x3_17, e18, hm⟩ := lt_ok hm
            refine lv_iinc (v := x3_17) (lv' := [(3, .int x3_17), (0, .ref (E.2.2 1000)), (1, .int x1), (2, .int x2)]) hx hb dX10_findRings_139 hl (k := 3) rfl (by rw [e18]; rfl) (by decide) rfl (fun ls hl => ?_)
            refine lv_goto (tgt := 86) hx hb dX10_findRings_142 (by decide) ?_
            exact ih σ15 x1 x2 x3_17 H locs ls hw (lv_sub hl [1, 2, 3, 0] rfl) hm
          · have hm := if_f c13 hm
            refine lv_iconst (v := (1 : Int32)) hx hb dX10_findRings_132 (by decide) ?_
            refine lv_goto (tgt := 137) hx hb dX10_findRings_133 (by decide) ?_
            refine lv_ior hx hb dX10_findRings_137 ?_
            obtain ⟨g19, hm⟩ := gd_ok hm
            refine stM_23 cx ok hw g19 dX10_findRings_138 (fun H locs hw => ?_)
            obtain ⟨σ20, e21, hm⟩ := lt_ok hm
            have hw := wsM_eq e21 hw
            obtain ⟨x3_22, e23, hm⟩ := lt_ok hm
            refine lv_iinc (v := x3_22) (lv' := [(3, .int x3_22), (0, .ref (E.2.2 1000)), (1, .int x1), (2, .int x2)]) hx hb dX10_findRings_139 hl (k := 3) rfl (by rw [e23]; rfl) (by decide) rfl (fun ls hl => ?_)
            refine lv_goto (tgt := 86) hx hb dX10_findRings_142 (by decide) ?_
            exact ih σ20 x1 x2 x3_22 H locs ls hw (lv_sub hl [1, 2, 3, 0] rfl) hm
  have w_78 : ∀ (k70 : St → Int32 → Option St) (hk70 : ∀ (σ : St) (x1 : Int32) (H : Heap) (locs : List Loc) (ls : Array Slot), wsM E σ (va_A (wldM E σ0) sz) s H locs → lv_has ls 4 [(0, .ref (E.2.2 1000)), (1, .int x1)] → k70 σ x1 = some σ' → W p l e rmM_findRings s m args below meth c H locs 0 0 (MQ below (QvM E σ0 σ' sz) args s 0 0 (va_A (wldM E σ0) sz)) (F0 m 70 ls [])), ∀ (f : Nat), ∀ (σ : St) (x1 : Int32) (x2 : Int32) (H : Heap) (locs : List Loc) (ls : Array Slot), wsM E σ (va_A (wldM E σ0) sz) s H locs → lv_has ls 4 [(0, .ref (E.2.2 1000)), (1, .int x1), (2, .int x2)] → M_findRings_l78 n k70 f σ x1 x2 = some σ' → W p l e rmM_findRings s m args below meth c H locs 0 0 (MQ below (QvM E σ0 σ' sz) args s 0 0 (va_A (wldM E σ0) sz)) (F0 m 78 ls []) := by
    intro k70 hk70
    intro f
    induction f with
    | zero =>
      intro σ x1 x2 H locs ls hw hl hm
      rw [M_findRings_l78] at hm
      cases hm
    | succ f ih =>
      intro σ x1 x2 H locs ls hw hl hm
      rw [M_findRings_l78] at hm
      refine lv_iload_n hx hb dX10_findRings_78 rfl (lv_at hl 2 rfl) ?_
      refine lv_bipush (v := (26 : Int32)) hx hb dX10_findRings_79 (by decide) ?_
      refine lv_icmp_ge (tgt := 151) hx hb dX10_findRings_81 (by decide) (fun c1 => ?_) (fun c1 => ?_)
      · have hm := if_t c1 hm
        obtain ⟨x1_2, e3, hm⟩ := lt_ok hm
        refine lv_iinc (v := x1_2) (lv' := [(1, .int x1_2), (0, .ref (E.2.2 1000)), (2, .int x2)]) hx hb dX10_findRings_151 hl (k := 1) rfl (by rw [e3]; rfl) (by decide) rfl (fun ls hl => ?_)
        refine lv_goto (tgt := 70) hx hb dX10_findRings_154 (by decide) ?_
        exact hk70 σ x1_2 H locs ls hw (lv_sub hl [1, 0] rfl) hm
      · have hm := if_f c1 hm
        refine lv_iconst (v := (0 : Int32)) hx hb dX10_findRings_84 (by decide) ?_
        refine lv_istore_n (lv' := [(3, .int (0 : Int32)), (0, .ref (E.2.2 1000)), (1, .int x1), (2, .int x2)]) hx hb dX10_findRings_85 rfl hl (by decide) rfl (fun ls hl => ?_)
        exact w_86 k70 hk70 (M_findRings_l78 n k70 f) ih n σ x1 x2 (0 : Int32) H locs ls hw (lv_sub hl [1, 2, 3, 0] rfl) hm
  have w_70 : ∀ (f : Nat), ∀ (σ : St) (x1 : Int32) (H : Heap) (locs : List Loc) (ls : Array Slot), wsM E σ (va_A (wldM E σ0) sz) s H locs → lv_has ls 4 [(0, .ref (E.2.2 1000)), (1, .int x1)] → M_findRings_l70 n f σ x1 = some σ' → W p l e rmM_findRings s m args below meth c H locs 0 0 (MQ below (QvM E σ0 σ' sz) args s 0 0 (va_A (wldM E σ0) sz)) (F0 m 70 ls []) := by
    intro f
    induction f with
    | zero =>
      intro σ x1 H locs ls hw hl hm
      rw [M_findRings_l70] at hm
      cases hm
    | succ f ih =>
      intro σ x1 H locs ls hw hl hm
      rw [M_findRings_l70] at hm
      refine lv_iload_n hx hb dX10_findRings_70 rfl (lv_at hl 1 rfl) ?_
      refine lv_bipush (v := (26 : Int32)) hx hb dX10_findRings_71 (by decide) ?_
      refine lv_icmp_ge (tgt := 157) hx hb dX10_findRings_73 (by decide) (fun c1 => ?_) (fun c1 => ?_)
      · have hm := if_t c1 hm
        refine lv_iconst (v := (0 : Int32)) hx hb dX10_findRings_157 (by decide) ?_
        refine lv_istore_n (lv' := [(1, .int (0 : Int32)), (0, .ref (E.2.2 1000))]) hx hb dX10_findRings_158 rfl hl (by decide) rfl (fun ls hl => ?_)
        exact w_159 n σ (0 : Int32) H locs ls hw (lv_sub hl [1, 0] rfl) hm
      · have hm := if_f c1 hm
        refine lv_iconst (v := (0 : Int32)) hx hb dX10_findRings_76 (by decide) ?_
        refine lv_istore_n (lv' := [(2, .int (0 : Int32)), (0, .ref (E.2.2 1000)), (1, .int x1)]) hx hb dX10_findRings_77 rfl hl (by decide) rfl (fun ls hl => ?_)
        exact w_78 (M_findRings_l70 n f) ih n σ x1 (0 : Int32) H locs ls hw (lv_sub hl [1, 2, 0] rfl) hm
  have w_24 : ∀ (f : Nat), ∀ (σ : St) (x1 : Int32) (H : Heap) (locs : List Loc) (ls : Array Slot), wsM E σ (va_A (wldM E σ0) sz) s H locs → lv_has ls 4 [(0, .ref (E.2.2 1000)), (1, .int x1)] → M_findRings_l24 n f σ x1 = some σ' → W p l e rmM_findRings s m args below meth c H locs 0 0 (MQ below (QvM E σ0 σ' sz) args s 0 0 (va_A (wldM E σ0) sz)) (F0 m 24 ls []) := by
    intro f
    induction f with
    | zero =>
      intro σ x1 H locs ls hw hl hm
      rw [M_findRings_l24] at hm
      cases hm
    | succ f ih =>
      intro σ x1 H locs ls hw hl hm
      rw [M_findRings_l24] at hm
      refine lv_iload_n hx hb dX10_findRings_24 rfl (lv_at hl 1 rfl) ?_
      refine lv_aload_n hx hb dX10_findRings_25 rfl (lv_at hl 0 rfl) ?_
      refine gtM_15 cx ok hw dX10_findRings_26 ?_
      refine lv_icmp_ge (tgt := 68) hx hb dX10_findRings_29 (by decide) (fun c1 => ?_) (fun c1 => ?_)
      · have hm := if_t c1 hm
        refine lv_iconst (v := (0 : Int32)) hx hb dX10_findRings_68 (by decide) ?_
        refine lv_istore_n (lv' := [(1, .int (0 : Int32)), (0, .ref (E.2.2 1000))]) hx hb dX10_findRings_69 rfl hl (by decide) rfl (fun ls hl => ?_)
        exact w_70 n σ (0 : Int32) H locs ls hw (lv_sub hl [1, 0] rfl) hm
      · have hm := if_f c1 hm
        refine lv_aload_n hx hb dX10_findRings_32 rfl (lv_at hl 0 rfl) ?_
        refine lv_iload_n hx hb dX10_findRings_33 rfl (lv_at hl 1 rfl) ?_
        obtain ⟨r3, h2, hm⟩ := bp_ok hm
        refine clV_Mi (As := [.int x1]) (rest := []) cx hml hl.1 ok hw hA (cM_isUnary l E _ σ x1 r3 h2) (cwM_isUnary hA9 ⟨Nat.le_of_ble_eq_true rfl, Nat.le_of_ble_eq_true rfl⟩) rfl rfl (Nat.le_of_ble_eq_true rfl) dX10_findRings_34 (fun H locs hw => ?_)
        refine lv_if_eq (tgt := 62) hx hb dX10_findRings_37 (by decide) (fun c4 => ?_) (fun c4 => ?_)
        · have hm := if_t c4 hm
          obtain ⟨x1_5, e6, hm⟩ := lt_ok hm
          refine lv_iinc (v := x1_5) (lv' := [(1, .int x1_5), (0, .ref (E.2.2 1000))]) hx hb dX10_findRings_62 hl (k := 1) rfl (by rw [e6]; rfl) (by decide) rfl (fun ls hl => ?_)
          refine lv_goto (tgt := 24) hx hb dX10_findRings_65 (by decide) ?_
          exact ih σ x1_5 H locs ls hw (lv_sub hl [1, 0] rfl) hm
        · have hm := if_f c4 hm
          refine lv_aload_n hx hb dX10_findRings_40 rfl (lv_at hl 0 rfl) ?_
          refine gtM_23 cx ok hw dX10_findRings_41 ?_
          refine lv_bipush (v := (26 : Int32)) hx hb dX10_findRings_44 (by decide) ?_
          refine lv_aload_n hx hb dX10_findRings_46 rfl (lv_at hl 0 rfl) ?_
          refine gtM_16 cx ok hw dX10_findRings_47 ?_
          refine lv_iload_n hx hb dX10_findRings_50 rfl (lv_at hl 1 rfl) ?_
          obtain ⟨g7, hm⟩ := gd_ok hm
          refine ldM_16 cx ok hw g7 dX10_findRings_51 ?_
          refine lv_imul hx hb dX10_findRings_52 ?_
          refine lv_aload_n hx hb dX10_findRings_53 rfl (lv_at hl 0 rfl) ?_
          refine gtM_17 cx ok hw dX10_findRings_54 ?_
          refine lv_iload_n hx hb dX10_findRings_57 rfl (lv_at hl 1 rfl) ?_
          obtain ⟨g8, hm⟩ := gd_ok hm
          refine ldM_17 cx ok hw g8 dX10_findRings_58 ?_
          refine lv_iadd hx hb dX10_findRings_59 ?_
          refine lv_iconst (v := (1 : Int32)) hx hb dX10_findRings_60 (by decide) ?_
          obtain ⟨g9, hm⟩ := gd_ok hm
          refine stM_23 cx ok hw g9 dX10_findRings_61 (fun H locs hw => ?_)
          obtain ⟨σ10, e11, hm⟩ := lt_ok hm
          have hw := wsM_eq e11 hw
          obtain ⟨x1_12, e13, hm⟩ := lt_ok hm
          refine lv_iinc (v := x1_12) (lv' := [(1, .int x1_12), (0, .ref (E.2.2 1000))]) hx hb dX10_findRings_62 hl (k := 1) rfl (by rw [e13]; rfl) (by decide) rfl (fun ls hl => ?_)
          refine lv_goto (tgt := 24) hx hb dX10_findRings_65 (by decide) ?_
          exact ih σ10 x1_12 H locs ls hw (lv_sub hl [1, 0] rfl) hm
  have w_2 : ∀ (f : Nat), ∀ (σ : St) (x1 : Int32) (H : Heap) (locs : List Loc) (ls : Array Slot), wsM E σ (va_A (wldM E σ0) sz) s H locs → lv_has ls 4 [(0, .ref (E.2.2 1000)), (1, .int x1)] → M_findRings_l2 n f σ x1 = some σ' → W p l e rmM_findRings s m args below meth c H locs 0 0 (MQ below (QvM E σ0 σ' sz) args s 0 0 (va_A (wldM E σ0) sz)) (F0 m 2 ls []) := by
    intro f
    induction f with
    | zero =>
      intro σ x1 H locs ls hw hl hm
      rw [M_findRings_l2] at hm
      cases hm
    | succ f ih =>
      intro σ x1 H locs ls hw hl hm
      rw [M_findRings_l2] at hm
      refine lv_iload_n hx hb dX10_findRings_2 rfl (lv_at hl 1 rfl) ?_
      refine lv_sipush (v := (676 : Int32)) hx hb dX10_findRings_3 (by decide) ?_
      refine lv_icmp_ge (tgt := 22) hx hb dX10_findRings_6 (by decide) (fun c1 => ?_) (fun c1 => ?_)
      · have hm := if_t c1 hm
        refine lv_iconst (v := (0 : Int32)) hx hb dX10_findRings_22 (by decide) ?_
        refine lv_istore_n (lv' := [(1, .int (0 : Int32)), (0, .ref (E.2.2 1000))]) hx hb dX10_findRings_23 rfl hl (by decide) rfl (fun ls hl => ?_)
        exact w_24 n σ (0 : Int32) H locs ls hw (lv_sub hl [1, 0] rfl) hm
      · have hm := if_f c1 hm
        refine lv_aload_n hx hb dX10_findRings_9 rfl (lv_at hl 0 rfl) ?_
        refine gtM_23 cx ok hw dX10_findRings_10 ?_
        refine lv_iload_n hx hb dX10_findRings_13 rfl (lv_at hl 1 rfl) ?_
        refine lv_iconst (v := (0 : Int32)) hx hb dX10_findRings_14 (by decide) ?_
        obtain ⟨g2, hm⟩ := gd_ok hm
        refine stM_23 cx ok hw g2 dX10_findRings_15 (fun H locs hw => ?_)
        obtain ⟨σ3, e4, hm⟩ := lt_ok hm
        have hw := wsM_eq e4 hw
        obtain ⟨x1_5, e6, hm⟩ := lt_ok hm
        refine lv_iinc (v := x1_5) (lv' := [(1, .int x1_5), (0, .ref (E.2.2 1000))]) hx hb dX10_findRings_16 hl (k := 1) rfl (by rw [e6]; rfl) (by decide) rfl (fun ls hl => ?_)
        refine lv_goto (tgt := 2) hx hb dX10_findRings_19 (by decide) ?_
        exact ih σ3 x1_5 H locs ls hw (lv_sub hl [1, 0] rfl) hm
  have hl : lv_has ls 4 [(0, .ref (E.2.2 1000))] := hl
  unfold M_findRings at hm
  have goal0 : ∀ (H : Heap) (locs : List Loc), wsM E σ0 (va_A (wldM E σ0) sz) s H locs → W p l e rmM_findRings s m args below meth c H locs 0 0 (MQ below (QvM E σ0 σ' sz) args s 0 0 (va_A (wldM E σ0) sz)) (F0 m 0 ls []) := by
    intro H locs hw
    refine lv_iconst (v := (0 : Int32)) hx hb dX10_findRings_0 (by decide) ?_
    refine lv_istore_n (lv' := [(1, .int (0 : Int32)), (0, .ref (E.2.2 1000))]) hx hb dX10_findRings_1 rfl hl (by decide) rfl (fun ls hl => ?_)
    exact w_2 n σ0 (0 : Int32) H locs ls hw (lv_sub hl [1, 0] rfl) hm
  exact goal0 _ _ hw
theorem cwM_findRings {R : Room} {s : State} {args : Array Value} (h : ∀ w ∈ wA, w.before args s = true) (hR : rmM_findRings.frames + 1 ≤ R.frames ∧ 8 + (4 + 11) + rmM_findRings.locals ≤ R.locals) : CallW R s args RX10 RX10 169 yX10_findRings cX10_findRings 4 none (wz yX10_findRings cX10_findRings 4 none) rmM_findRings 0 0 0 := cwV 0 h (gdV k_995 k_997 ks_55 k_11 k_998) rfl rfl rfl (by decide +kernel) hR

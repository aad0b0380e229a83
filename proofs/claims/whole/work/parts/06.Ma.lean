/-! public int thrown();: reads only -/
def M_thrown (σ0 : St) : Option Int32 :=
  some (σ0.1 0 0)
abbrev rmM_thrown : Room := { frames := 0, cells := 0, slots := 0, locals := 0 }
set_option maxHeartbeats 4000000 in
set_option maxRecDepth 100000 in
theorem cM_thrown (l : Launch) (E : Ev) (sz : Nat) (σ0 : St) (r : Int32) (hm : M_thrown σ0 = some r) : Met l yX10_thrown (wz yX10_thrown cX10_thrown 1 (some .int)) rmM_thrown (PwM E [.ref (E.2.2 1000)] σ0 sz) (QiM E σ0 σ0 sz r) 0 0 (va_A (wldM E σ0) sz) := by
  refine enM (by decide) rfl (Nat.le_of_ble_eq_true rfl) (fun p e s m args below meth c cx hr hlk hml hsz ok hw ls hl => ?_)
  have hx := cx.1
  have hb := cx.2.1
  have hA9 := cx.2.2.2
  have hA : ∀ q, s.heap.size ≤ q → (va_A (wldM E σ0) sz) q := fun q h => Or.inr (by rw [← hsz]; exact h)
  have hl : lv_has ls 1 [(0, .ref (E.2.2 1000))] := hl
  unfold M_thrown at hm
  have goal0 : ∀ (H : Heap) (locs : List Loc), wsM E σ0 (va_A (wldM E σ0) sz) s H locs → W p l e rmM_thrown s m args below meth c H locs 0 0 (MQ below (QiM E σ0 σ0 sz r) args s 0 0 (va_A (wldM E σ0) sz)) (F0 m 0 ls []) := by
    intro H locs hw
    refine lv_aload_n hx hb dX10_thrown_0 rfl (lv_at hl 0 rfl) ?_
    refine gtM_0 cx ok hw dX10_thrown_1 ?_
    exact rtM_i cx hr hlk hw (pr_some hm) dX10_thrown_4
  exact goal0 _ _ hw
/-! public boolean key(int, boolean);: writes -/
def M_key (σ0 : St) (x1 : Int32) (x2 : Int32) : Option (Int32 × St) :=
  lt (sI σ0 0 0 (0 : Int32)) fun σ1 =>
  if x1 < 0 then
    some ((0 : Int32), σ1)
  else
    if x1 ≤ (11 : Int32) then
      lt (sI σ1 1 0 x1) fun σ5 =>
      gb x2 <|
      lt (sI σ5 2 0 x2) fun σ8 =>
      some ((1 : Int32), σ8)
    else
      some ((0 : Int32), σ1)
abbrev rmM_key : Room := { frames := 0, cells := 0, slots := 0, locals := 0 }
set_option maxHeartbeats 4000000 in
set_option maxRecDepth 100000 in
theorem cM_key (l : Launch) (E : Ev) (sz : Nat) (σ0 σ' : St) (x1 : Int32) (x2 : Int32) (r : Int32) (hm : M_key σ0 x1 x2 = some (r, σ')) : Met l yX10_key (wz yX10_key cX10_key 3 (some .boolean)) rmM_key (PwM E [.ref (E.2.2 1000), .int x1, .int x2] σ0 sz) (QiM E σ0 σ' sz r) 0 0 (va_A (wldM E σ0) sz) := by
  refine enM (by decide) rfl (Nat.le_of_ble_eq_true rfl) (fun p e s m args below meth c cx hr hlk hml hsz ok hw ls hl => ?_)
  have hx := cx.1
  have hb := cx.2.1
  have hA9 := cx.2.2.2
  have hA : ∀ q, s.heap.size ≤ q → (va_A (wldM E σ0) sz) q := fun q h => Or.inr (by rw [← hsz]; exact h)
  have hl : lv_has ls 3 [(0, .ref (E.2.2 1000)), (1, .int x1), (2, .int x2)] := hl
  unfold M_key at hm
  have goal0 : ∀ (H : Heap) (locs : List Loc), wsM E σ0 (va_A (wldM E σ0) sz) s H locs → W p l e rmM_key s m args below meth c H locs 0 0 (MQ below (QiM E σ0 σ' sz r) args s 0 0 (va_A (wldM E σ0) sz)) (F0 m 0 ls []) := by
    intro H locs hw
    refine lv_aload_n hx hb dX10_key_0 rfl (lv_at hl 0 rfl) ?_
    refine lv_iconst (v := (0 : Int32)) hx hb dX10_key_1 (by decide) ?_
    refine ptM_0 cx ok hw dX10_key_2 (fun H locs hw => ?_)
    obtain ⟨σ1, e2, hm⟩ := lt_ok hm
    have hw := wsM_eq e2 hw
    refine lv_iload_n hx hb dX10_key_5 rfl (lv_at hl 1 rfl) ?_
    refine lv_if_lt (tgt := 15) hx hb dX10_key_6 (by decide) (fun c3 => ?_) (fun c3 => ?_)
    · have hm := if_t c3 hm
      refine lv_iconst (v := (0 : Int32)) hx hb dX10_key_15 (by decide) ?_
      exact rtM_z cx hr hlk hw (by decide) hm dX10_key_16
    · have hm := if_f c3 hm
      refine lv_iload_n hx hb dX10_key_9 rfl (lv_at hl 1 rfl) ?_
      refine lv_bipush (v := (11 : Int32)) hx hb dX10_key_10 (by decide) ?_
      refine lv_icmp_le (tgt := 17) hx hb dX10_key_12 (by decide) (fun c4 => ?_) (fun c4 => ?_)
      · have hm := if_t c4 hm
        refine lv_aload_n hx hb dX10_key_17 rfl (lv_at hl 0 rfl) ?_
        refine lv_iload_n hx hb dX10_key_18 rfl (lv_at hl 1 rfl) ?_
        refine ptM_1 cx ok hw dX10_key_19 (fun H locs hw => ?_)
        obtain ⟨σ5, e6, hm⟩ := lt_ok hm
        have hw := wsM_eq e6 hw
        refine lv_aload_n hx hb dX10_key_22 rfl (lv_at hl 0 rfl) ?_
        refine lv_iload_n hx hb dX10_key_23 rfl (lv_at hl 2 rfl) ?_
        obtain ⟨g7, hm⟩ := gb_ok hm
        refine ptM_2 cx ok hw g7 dX10_key_24 (fun H locs hw => ?_)
        obtain ⟨σ8, e9, hm⟩ := lt_ok hm
        have hw := wsM_eq e9 hw
        refine lv_iconst (v := (1 : Int32)) hx hb dX10_key_27 (by decide) ?_
        exact rtM_z cx hr hlk hw (by decide) hm dX10_key_28
      · have hm := if_f c4 hm
        refine lv_iconst (v := (0 : Int32)) hx hb dX10_key_15 (by decide) ?_
        exact rtM_z cx hr hlk hw (by decide) hm dX10_key_16
  exact goal0 _ _ hw
/-! public boolean cost(int, int);: writes -/
def M_cost (σ0 : St) (x1 : Int32) (x2 : Int32) : Option (Int32 × St) :=
  lt (sI σ0 0 0 (0 : Int32)) fun σ1 =>
  if x1 < 0 then
    some ((0 : Int32), σ1)
  else
    if (3 : Int32) < x1 then
      some ((0 : Int32), σ1)
    else
      if x2 < 0 then
        some ((0 : Int32), σ1)
      else
        if x2 ≤ (1000 : Int32) then
          gd x1 4 <|
          lt (sI σ1 3 x1.toNatClampNeg x2) fun σ8 =>
          some ((1 : Int32), σ8)
        else
          some ((0 : Int32), σ1)
abbrev rmM_cost : Room := { frames := 0, cells := 0, slots := 0, locals := 0 }
set_option maxHeartbeats 4000000 in
set_option maxRecDepth 100000 in
theorem cM_cost (l : Launch) (E : Ev) (sz : Nat) (σ0 σ' : St) (x1 : Int32) (x2 : Int32) (r : Int32) (hm : M_cost σ0 x1 x2 = some (r, σ')) : Met l yX10_cost (wz yX10_cost cX10_cost 3 (some .boolean)) rmM_cost (PwM E [.ref (E.2.2 1000), .int x1, .int x2] σ0 sz) (QiM E σ0 σ' sz r) 0 0 (va_A (wldM E σ0) sz) := by
  refine enM (by decide) rfl (Nat.le_of_ble_eq_true rfl) (fun p e s m args below meth c cx hr hlk hml hsz ok hw ls hl => ?_)
  have hx := cx.1
  have hb := cx.2.1
  have hA9 := cx.2.2.2
  have hA : ∀ q, s.heap.size ≤ q → (va_A (wldM E σ0) sz) q := fun q h => Or.inr (by rw [← hsz]; exact h)
  have hl : lv_has ls 3 [(0, .ref (E.2.2 1000)), (1, .int x1), (2, .int x2)] := hl
  unfold M_cost at hm
  have goal0 : ∀ (H : Heap) (locs : List Loc), wsM E σ0 (va_A (wldM E σ0) sz) s H locs → W p l e rmM_cost s m args below meth c H locs 0 0 (MQ below (QiM E σ0 σ' sz r) args s 0 0 (va_A (wldM E σ0) sz)) (F0 m 0 ls []) := by
    intro H locs hw
    refine lv_aload_n hx hb dX10_cost_0 rfl (lv_at hl 0 rfl) ?_
    refine lv_iconst (v := (0 : Int32)) hx hb dX10_cost_1 (by decide) ?_
    refine ptM_0 cx ok hw dX10_cost_2 (fun H locs hw => ?_)
    obtain ⟨σ1, e2, hm⟩ := lt_ok hm
    have hw := wsM_eq e2 hw
    refine lv_iload_n hx hb dX10_cost_5 rfl (lv_at hl 1 rfl) ?_
    refine lv_if_lt (tgt := 25) hx hb dX10_cost_6 (by decide) (fun c3 => ?_) (fun c3 => ?_)
    · have hm := if_t c3 hm
      refine lv_iconst (v := (0 : Int32)) hx hb dX10_cost_25 (by decide) ?_
      exact rtM_z cx hr hlk hw (by decide) hm dX10_cost_26
    · have hm := if_f c3 hm
      refine lv_iload_n hx hb dX10_cost_9 rfl (lv_at hl 1 rfl) ?_
      refine lv_iconst (v := (3 : Int32)) hx hb dX10_cost_10 (by decide) ?_
      refine lv_icmp_gt (tgt := 25) hx hb dX10_cost_11 (by decide) (fun c4 => ?_) (fun c4 => ?_)
      · have hm := if_t c4 hm
        refine lv_iconst (v := (0 : Int32)) hx hb dX10_cost_25 (by decide) ?_
        exact rtM_z cx hr hlk hw (by decide) hm dX10_cost_26
      · have hm := if_f c4 hm
        refine lv_iload_n hx hb dX10_cost_14 rfl (lv_at hl 2 rfl) ?_
        refine lv_if_lt (tgt := 25) hx hb dX10_cost_15 (by decide) (fun c5 => ?_) (fun c5 => ?_)
        · have hm := if_t c5 hm
          refine lv_iconst (v := (0 : Int32)) hx hb dX10_cost_25 (by decide) ?_
          exact rtM_z cx hr hlk hw (by decide) hm dX10_cost_26
        · have hm := if_f c5 hm
          refine lv_iload_n hx hb dX10_cost_18 rfl (lv_at hl 2 rfl) ?_
          refine lv_sipush (v := (1000 : Int32)) hx hb dX10_cost_19 (by decide) ?_
          refine lv_icmp_le (tgt := 27) hx hb dX10_cost_22 (by decide) (fun c6 => ?_) (fun c6 => ?_)
          · have hm := if_t c6 hm
            refine lv_aload_n hx hb dX10_cost_27 rfl (lv_at hl 0 rfl) ?_
            refine gtM_3 cx ok hw dX10_cost_28 ?_
            refine lv_iload_n hx hb dX10_cost_31 rfl (lv_at hl 1 rfl) ?_
            refine lv_iload_n hx hb dX10_cost_32 rfl (lv_at hl 2 rfl) ?_
            obtain ⟨g7, hm⟩ := gd_ok hm
            refine stM_3 cx ok hw g7 dX10_cost_33 (fun H locs hw => ?_)
            obtain ⟨σ8, e9, hm⟩ := lt_ok hm
            have hw := wsM_eq e9 hw
            refine lv_iconst (v := (1 : Int32)) hx hb dX10_cost_34 (by decide) ?_
            exact rtM_z cx hr hlk hw (by decide) hm dX10_cost_35
          · have hm := if_f c6 hm
            refine lv_iconst (v := (0 : Int32)) hx hb dX10_cost_25 (by decide) ?_
            exact rtM_z cx hr hlk hw (by decide) hm dX10_cost_26
  exact goal0 _ _ hw
/-! public int draft(int, long);: writes, loops -/
def M_draft_l33 (n : Nat) : Nat → St → Int32 → Int64 → Int32 → Option (Int32 × St)
  | 0, _, _, _, _ => none
  | f + 1, σ, x1, x2, x4 =>
    if x1 ≤ x4 then
      some ((σ.1 5 0), σ)
    else
      gd (σ.1 5 0) 800 <|
      lt (sI σ 4 (σ.1 5 0).toNatClampNeg (((x2 >>> (((8 : Int32) * x4).toInt64 &&& 63)) &&& (255 : Int64)).toInt32)) fun σ3 =>
      lt (sI σ3 5 0 ((σ3.1 5 0) + (1 : Int32))) fun σ5 =>
      lt (x4 + (1 : Int32)) fun x4_7 =>
      (M_draft_l33 n f) σ5 x1 x2 x4_7
def M_draft (n : Nat) (σ0 : St) (x1 : Int32) (x2 : Int64) : Option (Int32 × St) :=
  lt (sI σ0 0 0 (0 : Int32)) fun σ1 =>
  if x1 < (1 : Int32) then
    some ((-1 : Int32), σ1)
  else
    if (8 : Int32) < x1 then
      some ((-1 : Int32), σ1)
    else
      if ((σ1.1 5 0) + x1) ≤ (800 : Int32) then
        M_draft_l33 n n σ1 x1 x2 (0 : Int32)
      else
        some ((-1 : Int32), σ1)
abbrev rmM_draft : Room := { frames := 0, cells := 0, slots := 0, locals := 0 }
set_option maxHeartbeats 4000000 in
set_option maxRecDepth 100000 in
theorem cM_draft (l : Launch) (E : Ev) (n : Nat) (sz : Nat) (σ0 σ' : St) (x1 : Int32) (x2 : Int64) (r : Int32) (hm : M_draft n σ0 x1 x2 = some (r, σ')) : Met l yX10_draft (wz yX10_draft cX10_draft 5 (some .int)) rmM_draft (PwM E [.ref (E.2.2 1000), .int x1, .long x2] σ0 sz) (QiM E σ0 σ' sz r) 0 0 (va_A (wldM E σ0) sz) := by
  refine enM (by decide) rfl (Nat.le_of_ble_eq_true rfl) (fun p e s m args below meth c cx hr hlk hml hsz ok hw ls hl => ?_)
  have hx := cx.1
  have hb := cx.2.1
  have hA9 := cx.2.2.2
  have hA : ∀ q, s.heap.size ≤ q → (va_A (wldM E σ0) sz) q := fun q h => Or.inr (by rw [← hsz]; exact h)
  have w_33 : ∀ (f : Nat), ∀ (σ : St) (x1 : Int32) (x2 : Int64) (x4 : Int32) (H : Heap) (locs : List Loc) (ls : Array Slot), wsM E σ (va_A (wldM E σ0) sz) s H locs → lv_has ls 5 [(0, .ref (E.2.2 1000)), (1, .int x1), (2, .long x2), (4, .int x4)] → M_draft_l33 n f σ x1 x2 x4 = some (r, σ') → W p l e rmM_draft s m args below meth c H locs 0 0 (MQ below (QiM E σ0 σ' sz r) args s 0 0 (va_A (wldM E σ0) sz)) (F0 m 33 ls []) := by
    intro f
    induction f with
    | zero =>
      intro σ x1 x2 x4 H locs ls hw hl hm
      rw [M_draft_l33] at hm
      cases hm
    | succ f ih =>
      intro σ x1 x2 x4 H locs ls hw hl hm
      rw [M_draft_l33] at hm
      refine lv_iload hx hb dX10_draft_33 (lv_at hl 3 rfl) ?_
      refine lv_iload_n hx hb dX10_draft_35 rfl (lv_at hl 1 rfl) ?_
      refine lv_icmp_ge (tgt := 76) hx hb dX10_draft_36 (by decide) (fun c1 => ?_) (fun c1 => ?_)
      · have hm := if_t c1 hm
        refine lv_aload_n hx hb dX10_draft_76 rfl (lv_at hl 0 rfl) ?_
        refine gtM_5 cx ok hw dX10_draft_77 ?_
        exact rtM_i cx hr hlk hw hm dX10_draft_80
      · have hm := if_f c1 hm
        refine lv_aload_n hx hb dX10_draft_39 rfl (lv_at hl 0 rfl) ?_
        refine gtM_4 cx ok hw dX10_draft_40 ?_
        refine lv_aload_n hx hb dX10_draft_43 rfl (lv_at hl 0 rfl) ?_
        refine gtM_5 cx ok hw dX10_draft_44 ?_
        refine lv_lload_n hx hb dX10_draft_47 rfl (lv_at hl 2 rfl) ?_
        refine lv_bipush (v := (8 : Int32)) hx hb dX10_draft_48 (by decide) ?_
        refine lv_iload hx hb dX10_draft_50 (lv_at hl 3 rfl) ?_
        refine lv_imul hx hb dX10_draft_52 ?_
        refine lv_lshr hx hb dX10_draft_53 rfl ?_
        refine W.ldc2 (v := (255 : Int64)) hx hb cx.2.2.1 (hA9 _ k_953) rfl dX10_draft_54 ?_
        refine W.eq (g2 := F0 m 57 ls [.long (255 : Int64), .long (x2 >>> (((8 : Int32) * x4).toInt64 &&& 63)), .int (σ.1 5 0), .ref (E.2.2 4)]) rfl ?_
        refine lv_land hx hb dX10_draft_57 ?_
        refine lv_l2i hx hb dX10_draft_58 rfl ?_
        obtain ⟨g2, hm⟩ := gd_ok hm
        refine stM_4 cx ok hw g2 dX10_draft_59 (fun H locs hw => ?_)
        obtain ⟨σ3, e4, hm⟩ := lt_ok hm
        have hw := wsM_eq e4 hw
        refine lv_aload_n hx hb dX10_draft_60 rfl (lv_at hl 0 rfl) ?_
        refine lv_dup hx hb dX10_draft_61 rfl ?_
        refine gtM_5 cx ok hw dX10_draft_62 ?_
        refine lv_iconst (v := (1 : Int32)) hx hb dX10_draft_65 (by decide) ?_
        refine lv_iadd hx hb dX10_draft_66 ?_
        refine ptM_5 cx ok hw dX10_draft_67 (fun H locs hw => ?_)
        obtain ⟨σ5, e6, hm⟩ := lt_ok hm
        have hw := wsM_eq e6 hw
        obtain ⟨x4_7, e8, hm⟩ := lt_ok hm
        refine lv_iinc (v := x4_7) (lv' := [(4, .int x4_7), (0, .ref (E.2.2 1000)), (1, .int x1), (2, .long x2)]) hx hb dX10_draft_70 hl (k := 3) rfl (by rw [e8]; rfl) (by decide) rfl (fun ls hl => ?_)
        refine lv_goto (tgt := 33) hx hb dX10_draft_73 (by decide) ?_
        exact ih σ5 x1 x2 x4_7 H locs ls hw (lv_sub hl [1, 2, 3, 0] rfl) hm
  have hl : lv_has ls 5 [(0, .ref (E.2.2 1000)), (1, .int x1), (2, .long x2)] := hl
  unfold M_draft at hm
  have goal0 : ∀ (H : Heap) (locs : List Loc), wsM E σ0 (va_A (wldM E σ0) sz) s H locs → W p l e rmM_draft s m args below meth c H locs 0 0 (MQ below (QiM E σ0 σ' sz r) args s 0 0 (va_A (wldM E σ0) sz)) (F0 m 0 ls []) := by
    intro H locs hw
    refine lv_aload_n hx hb dX10_draft_0 rfl (lv_at hl 0 rfl) ?_
    refine lv_iconst (v := (0 : Int32)) hx hb dX10_draft_1 (by decide) ?_
    refine ptM_0 cx ok hw dX10_draft_2 (fun H locs hw => ?_)
    obtain ⟨σ1, e2, hm⟩ := lt_ok hm
    have hw := wsM_eq e2 hw
    refine lv_iload_n hx hb dX10_draft_5 rfl (lv_at hl 1 rfl) ?_
    refine lv_iconst (v := (1 : Int32)) hx hb dX10_draft_6 (by decide) ?_
    refine lv_icmp_lt (tgt := 28) hx hb dX10_draft_7 (by decide) (fun c3 => ?_) (fun c3 => ?_)
    · have hm := if_t c3 hm
      refine lv_iconst (v := (-1 : Int32)) hx hb dX10_draft_28 (by decide) ?_
      exact rtM_i cx hr hlk hw hm dX10_draft_29
    · have hm := if_f c3 hm
      refine lv_iload_n hx hb dX10_draft_10 rfl (lv_at hl 1 rfl) ?_
      refine lv_bipush (v := (8 : Int32)) hx hb dX10_draft_11 (by decide) ?_
      refine lv_icmp_gt (tgt := 28) hx hb dX10_draft_13 (by decide) (fun c4 => ?_) (fun c4 => ?_)
      · have hm := if_t c4 hm
        refine lv_iconst (v := (-1 : Int32)) hx hb dX10_draft_28 (by decide) ?_
        exact rtM_i cx hr hlk hw hm dX10_draft_29
      · have hm := if_f c4 hm
        refine lv_aload_n hx hb dX10_draft_16 rfl (lv_at hl 0 rfl) ?_
        refine gtM_5 cx ok hw dX10_draft_17 ?_
        refine lv_iload_n hx hb dX10_draft_20 rfl (lv_at hl 1 rfl) ?_
        refine lv_iadd hx hb dX10_draft_21 ?_
        refine lv_sipush (v := (800 : Int32)) hx hb dX10_draft_22 (by decide) ?_
        refine lv_icmp_le (tgt := 30) hx hb dX10_draft_25 (by decide) (fun c5 => ?_) (fun c5 => ?_)
        · have hm := if_t c5 hm
          refine lv_iconst (v := (0 : Int32)) hx hb dX10_draft_30 (by decide) ?_
          refine lv_istore (lv' := [(4, .int (0 : Int32)), (0, .ref (E.2.2 1000)), (1, .int x1), (2, .long x2)]) hx hb dX10_draft_31 hl (by decide) rfl (fun ls hl => ?_)
          exact w_33 n σ1 x1 x2 (0 : Int32) H locs ls hw (lv_sub hl [1, 2, 3, 0] rfl) hm
        · have hm := if_f c5 hm
          refine lv_iconst (v := (-1 : Int32)) hx hb dX10_draft_28 (by decide) ?_
          exact rtM_i cx hr hlk hw hm dX10_draft_29
  exact goal0 _ _ hw
/-! private int here();: reads only -/
def M_here (σ0 : St) : Option Int32 :=
  if (σ0.1 5 0) ≤ (σ0.1 21 0) then
    some (-1 : Int32)
  else
    gd (σ0.1 21 0) 800 <|
    some (σ0.1 4 (σ0.1 21 0).toNatClampNeg)
abbrev rmM_here : Room := { frames := 0, cells := 0, slots := 0, locals := 0 }
set_option maxHeartbeats 4000000 in
set_option maxRecDepth 100000 in
theorem cM_here (l : Launch) (E : Ev) (sz : Nat) (σ0 : St) (r : Int32) (hm : M_here σ0 = some r) : Met l yX10_here (wz yX10_here cX10_here 1 (some .int)) rmM_here (PwM E [.ref (E.2.2 1000)] σ0 sz) (QiM E σ0 σ0 sz r) 0 0 (va_A (wldM E σ0) sz) := by
  refine enM (by decide) rfl (Nat.le_of_ble_eq_true rfl) (fun p e s m args below meth c cx hr hlk hml hsz ok hw ls hl => ?_)
  have hx := cx.1
  have hb := cx.2.1
  have hA9 := cx.2.2.2
  have hA : ∀ q, s.heap.size ≤ q → (va_A (wldM E σ0) sz) q := fun q h => Or.inr (by rw [← hsz]; exact h)
  have hl : lv_has ls 1 [(0, .ref (E.2.2 1000))] := hl
  unfold M_here at hm
  have goal0 : ∀ (H : Heap) (locs : List Loc), wsM E σ0 (va_A (wldM E σ0) sz) s H locs → W p l e rmM_here s m args below meth c H locs 0 0 (MQ below (QiM E σ0 σ0 sz r) args s 0 0 (va_A (wldM E σ0) sz)) (F0 m 0 ls []) := by
    intro H locs hw
    refine lv_aload_n hx hb dX10_here_0 rfl (lv_at hl 0 rfl) ?_
    refine gtM_21 cx ok hw dX10_here_1 ?_
    refine lv_aload_n hx hb dX10_here_4 rfl (lv_at hl 0 rfl) ?_
    refine gtM_5 cx ok hw dX10_here_5 ?_
    refine lv_icmp_ge (tgt := 23) hx hb dX10_here_8 (by decide) (fun c1 => ?_) (fun c1 => ?_)
    · have hm := if_t c1 hm
      refine lv_iconst (v := (-1 : Int32)) hx hb dX10_here_23 (by decide) ?_
      exact rtM_i cx hr hlk hw (pr_some hm) dX10_here_24
    · have hm := if_f c1 hm
      refine lv_aload_n hx hb dX10_here_11 rfl (lv_at hl 0 rfl) ?_
      refine gtM_4 cx ok hw dX10_here_12 ?_
      refine lv_aload_n hx hb dX10_here_15 rfl (lv_at hl 0 rfl) ?_
      refine gtM_21 cx ok hw dX10_here_16 ?_
      obtain ⟨g2, hm⟩ := gd_ok hm
      refine ldM_4 cx ok hw g2 dX10_here_19 ?_
      refine lv_goto (tgt := 24) hx hb dX10_here_20 (by decide) ?_
      exact rtM_i cx hr hlk hw (pr_some hm) dX10_here_24
  exact goal0 _ _ hw
theorem cwM_here {R : Room} {s : State} {args : Array Value} (h : ∀ w ∈ wA, w.before args s = true) (hR : rmM_here.frames + 1 ≤ R.frames ∧ 8 + (1 + 11) + rmM_here.locals ≤ R.locals) : CallW R s args RX10 RX10 125 yX10_here cX10_here 1 (some .int) (wz yX10_here cX10_here 1 (some .int)) rmM_here 0 0 0 := cwV 0 h (gdV k_962 k_964 ks_49 k_11 k_965) rfl rfl rfl (by decide +kernel) hR
/-! private void blanks();: writes, loops -/
def M_blanks_l0 (n : Nat) : Nat → St → Option St
  | 0, _ => none
  | f + 1, σ =>
    bp (M_here σ) fun r2 =>
    if r2 = (32 : Int32) then
      lt (sI σ 21 0 ((σ.1 21 0) + (1 : Int32))) fun σ4 =>
      (M_blanks_l0 n f) σ4
    else
      some σ
def M_blanks (n : Nat) (σ0 : St) : Option St :=
  M_blanks_l0 n n σ0
abbrev rmM_blanks : Room := { frames := 1, cells := 0, slots := 0, locals := 20 }
set_option maxHeartbeats 4000000 in
set_option maxRecDepth 100000 in
theorem cM_blanks (l : Launch) (E : Ev) (n : Nat) (sz : Nat) (σ0 σ' : St) (hm : M_blanks n σ0 = some σ') : Met l yX10_blanks (wz yX10_blanks cX10_blanks 1 none) rmM_blanks (PwM E [.ref (E.2.2 1000)] σ0 sz) (QvM E σ0 σ' sz) 0 0 (va_A (wldM E σ0) sz) := by
  refine enM (by decide) rfl (Nat.le_of_ble_eq_true rfl) (fun p e s m args below meth c cx hr hlk hml hsz ok hw ls hl => ?_)
  have hx := cx.1
  have hb := cx.2.1
  have hA9 := cx.2.2.2
  have hA : ∀ q, s.heap.size ≤ q → (va_A (wldM E σ0) sz) q := fun q h => Or.inr (by rw [← hsz]; exact h)
  have w_0 : ∀ (f : Nat), ∀ (σ : St) (H : Heap) (locs : List Loc) (ls : Array Slot), wsM E σ (va_A (wldM E σ0) sz) s H locs → lv_has ls 1 [(0, .ref (E.2.2 1000))] → M_blanks_l0 n f σ = some σ' → W p l e rmM_blanks s m args below meth c H locs 0 0 (MQ below (QvM E σ0 σ' sz) args s 0 0 (va_A (wldM E σ0) sz)) (F0 m 0 ls []) := by
    intro f
    induction f with
    | zero =>
      intro σ H locs ls hw hl hm
      rw [M_blanks_l0] at hm
      cases hm
    | succ f ih =>
      intro σ H locs ls hw hl hm
      rw [M_blanks_l0] at hm
      refine lv_aload_n hx hb dX10_blanks_0 rfl (lv_at hl 0 rfl) ?_
      obtain ⟨r2, h1, hm⟩ := bp_ok hm
      refine clVMi (As := []) (rest := []) cx hml hl.1 ok hw hA (cM_here l E _ σ r2 h1) (cwM_here hA9 ⟨Nat.le_of_ble_eq_true rfl, Nat.le_of_ble_eq_true rfl⟩) rfl rfl (Nat.le_of_ble_eq_true rfl) dX10_blanks_1 (fun H locs hw => ?_)
      refine lv_bipush (v := (32 : Int32)) hx hb dX10_blanks_4 (by decide) ?_
      refine lv_icmp_ne (tgt := 22) hx hb dX10_blanks_6 (by decide) (fun c3 => ?_) (fun c3 => ?_)
      · have hm := if_f c3 hm
        exact rtM_v cx hr hlk hw hm dX10_blanks_22
      · have hm := if_t c3 hm
        refine lv_aload_n hx hb dX10_blanks_9 rfl (lv_at hl 0 rfl) ?_
        refine lv_dup hx hb dX10_blanks_10 rfl ?_
        refine gtM_21 cx ok hw dX10_blanks_11 ?_
        refine lv_iconst (v := (1 : Int32)) hx hb dX10_blanks_14 (by decide) ?_
        refine lv_iadd hx hb dX10_blanks_15 ?_
        refine ptM_21 cx ok hw dX10_blanks_16 (fun H locs hw => ?_)
        obtain ⟨σ4, e5, hm⟩ := lt_ok hm
        have hw := wsM_eq e5 hw
        refine lv_goto (tgt := 0) hx hb dX10_blanks_19 (by decide) ?_
        exact ih σ4 H locs ls hw (lv_sub hl [0] rfl) hm
  have hl : lv_has ls 1 [(0, .ref (E.2.2 1000))] := hl
  unfold M_blanks at hm
  have goal0 : ∀ (H : Heap) (locs : List Loc), wsM E σ0 (va_A (wldM E σ0) sz) s H locs → W p l e rmM_blanks s m args below meth c H locs 0 0 (MQ below (QvM E σ0 σ' sz) args s 0 0 (va_A (wldM E σ0) sz)) (F0 m 0 ls []) := by
    intro H locs hw
    exact w_0 n σ0 H locs ls hw (lv_sub hl [0] rfl) hm
  exact goal0 _ _ hw
theorem cwM_blanks {R : Room} {s : State} {args : Array Value} (h : ∀ w ∈ wA, w.before args s = true) (hR : rmM_blanks.frames + 1 ≤ R.frames ∧ 8 + (1 + 11) + rmM_blanks.locals ≤ R.locals) : CallW R s args RX10 RX10 150 yX10_blanks cX10_blanks 1 none (wz yX10_blanks cX10_blanks 1 none) rmM_blanks 0 0 0 := cwV 0 h (gdV k_958 k_960 ks_48 k_11 k_961) rfl rfl rfl (by decide +kernel) hR
/-! private void stop(int);: writes -/
def M_stop (σ0 : St) (x1 : Int32) : Option St :=
  if 0 ≤ (σ0.1 22 0) then
    lt (sI σ0 22 0 (σ0.1 22 0)) fun σ2 =>
    some σ2
  else
    lt (sI σ0 22 0 x1) fun σ4 =>
    some σ4
abbrev rmM_stop : Room := { frames := 0, cells := 0, slots := 0, locals := 0 }
set_option maxHeartbeats 4000000 in
set_option maxRecDepth 100000 in
theorem cM_stop (l : Launch) (E : Ev) (sz : Nat) (σ0 σ' : St) (x1 : Int32) (hm : M_stop σ0 x1 = some σ') : Met l yX10_stop (wz yX10_stop cX10_stop 2 none) rmM_stop (PwM E [.ref (E.2.2 1000), .int x1] σ0 sz) (QvM E σ0 σ' sz) 0 0 (va_A (wldM E σ0) sz) := by
  refine enM (by decide) rfl (Nat.le_of_ble_eq_true rfl) (fun p e s m args below meth c cx hr hlk hml hsz ok hw ls hl => ?_)
  have hx := cx.1
  have hb := cx.2.1
  have hA9 := cx.2.2.2
  have hA : ∀ q, s.heap.size ≤ q → (va_A (wldM E σ0) sz) q := fun q h => Or.inr (by rw [← hsz]; exact h)
  have hl : lv_has ls 2 [(0, .ref (E.2.2 1000)), (1, .int x1)] := hl
  unfold M_stop at hm
  have goal0 : ∀ (H : Heap) (locs : List Loc), wsM E σ0 (va_A (wldM E σ0) sz) s H locs → W p l e rmM_stop s m args below meth c H locs 0 0 (MQ below (QvM E σ0 σ' sz) args s 0 0 (va_A (wldM E σ0) sz)) (F0 m 0 ls []) := by
    intro H locs hw
    refine lv_aload_n hx hb dX10_stop_0 rfl (lv_at hl 0 rfl) ?_
    refine lv_aload_n hx hb dX10_stop_1 rfl (lv_at hl 0 rfl) ?_
    refine gtM_22 cx ok hw dX10_stop_2 ?_
    refine lv_if_ge (tgt := 12) hx hb dX10_stop_5 (by decide) (fun c1 => ?_) (fun c1 => ?_)
    · have hm := if_t c1 hm
      refine lv_aload_n hx hb dX10_stop_12 rfl (lv_at hl 0 rfl) ?_
      refine gtM_22 cx ok hw dX10_stop_13 ?_
      refine ptM_22 cx ok hw dX10_stop_16 (fun H locs hw => ?_)
      obtain ⟨σ2, e3, hm⟩ := lt_ok hm
      have hw := wsM_eq e3 hw
      exact rtM_v cx hr hlk hw hm dX10_stop_19
    · have hm := if_f c1 hm
      refine lv_iload_n hx hb dX10_stop_8 rfl (lv_at hl 1 rfl) ?_
      refine lv_goto (tgt := 16) hx hb dX10_stop_9 (by decide) ?_
      refine ptM_22 cx ok hw dX10_stop_16 (fun H locs hw => ?_)
      obtain ⟨σ4, e5, hm⟩ := lt_ok hm
      have hw := wsM_eq e5 hw
      exact rtM_v cx hr hlk hw hm dX10_stop_19
  exact goal0 _ _ hw
theorem cwM_stop {R : Room} {s : State} {args : Array Value} (h : ∀ w ∈ wA, w.before args s = true) (hR : rmM_stop.frames + 1 ≤ R.frames ∧ 8 + (2 + 11) + rmM_stop.locals ≤ R.locals) : CallW R s args RX10 RX10 143 yX10_stop cX10_stop 2 none (wz yX10_stop cX10_stop 2 none) rmM_stop 0 0 1 := cwV 1 h (gdV k_966 k_968 ks_50 k_11 k_969) rfl rfl rfl (by decide +kernel) hR
/-! private static boolean isName(int);: reads only -/
def M_isName (x0 : Int32) : Option Int32 :=
  if x0 < (65 : Int32) then
    some (0 : Int32)
  else
    if (90 : Int32) < x0 then
      some (0 : Int32)
    else
      some (1 : Int32)
abbrev rmM_isName : Room := { frames := 0, cells := 0, slots := 0, locals := 0 }
set_option maxHeartbeats 4000000 in
set_option maxRecDepth 100000 in
theorem cM_isName (l : Launch) (E : Ev) (sz : Nat) (σ0 : St) (x0 : Int32) (r : Int32) (hm : M_isName x0 = some r) : Met l yX10_isName (wz yX10_isName cX10_isName 1 (some .boolean)) rmM_isName (PwM E [.int x0] σ0 sz) (QiM E σ0 σ0 sz r) 0 0 (va_A (wldM E σ0) sz) := by
  refine enM (by decide) rfl (Nat.le_of_ble_eq_true rfl) (fun p e s m args below meth c cx hr hlk hml hsz ok hw ls hl => ?_)
  have hx := cx.1
  have hb := cx.2.1
  have hA9 := cx.2.2.2
  have hA : ∀ q, s.heap.size ≤ q → (va_A (wldM E σ0) sz) q := fun q h => Or.inr (by rw [← hsz]; exact h)
  have hl : lv_has ls 1 [(0, .int x0)] := hl
  unfold M_isName at hm
  have goal0 : ∀ (H : Heap) (locs : List Loc), wsM E σ0 (va_A (wldM E σ0) sz) s H locs → W p l e rmM_isName s m args below meth c H locs 0 0 (MQ below (QiM E σ0 σ0 sz r) args s 0 0 (va_A (wldM E σ0) sz)) (F0 m 0 ls []) := by
    intro H locs hw
    refine lv_iload_n hx hb dX10_isName_0 rfl (lv_at hl 0 rfl) ?_
    refine lv_bipush (v := (65 : Int32)) hx hb dX10_isName_1 (by decide) ?_
    refine lv_icmp_lt (tgt := 16) hx hb dX10_isName_3 (by decide) (fun c1 => ?_) (fun c1 => ?_)
    · have hm := if_t c1 hm
      refine lv_iconst (v := (0 : Int32)) hx hb dX10_isName_16 (by decide) ?_
      exact rtM_z cx hr hlk hw (by decide) (pr_some hm) dX10_isName_17
    · have hm := if_f c1 hm
      refine lv_iload_n hx hb dX10_isName_6 rfl (lv_at hl 0 rfl) ?_
      refine lv_bipush (v := (90 : Int32)) hx hb dX10_isName_7 (by decide) ?_
      refine lv_icmp_gt (tgt := 16) hx hb dX10_isName_9 (by decide) (fun c2 => ?_) (fun c2 => ?_)
      · have hm := if_t c2 hm
        refine lv_iconst (v := (0 : Int32)) hx hb dX10_isName_16 (by decide) ?_
        exact rtM_z cx hr hlk hw (by decide) (pr_some hm) dX10_isName_17
      · have hm := if_f c2 hm
        refine lv_iconst (v := (1 : Int32)) hx hb dX10_isName_12 (by decide) ?_
        refine lv_goto (tgt := 17) hx hb dX10_isName_13 (by decide) ?_
        exact rtM_z cx hr hlk hw (by decide) (pr_some hm) dX10_isName_17
  exact goal0 _ _ hw
theorem cwM_isName {R : Room} {s : State} {args : Array Value} (h : ∀ w ∈ wA, w.before args s = true) (hR : rmM_isName.frames + 1 ≤ R.frames ∧ 8 + (1 + 11) + rmM_isName.locals ≤ R.locals) : CallB R s args RX10 132 yX10_isName cX10_isName 1 (some .boolean) (wz yX10_isName cX10_isName 1 (some .boolean)) rmM_isName 0 0 1 ∧ (Cond.static yX10_isName).before args s = true := va_cwS 1 h (gdS k_974 k_975 k_11 k_976) rfl rfl rfl (by decide +kernel) hR

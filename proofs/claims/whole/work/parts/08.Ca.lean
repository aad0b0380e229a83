/-! ChordGrammars$Key.change: writes -/
def C_Key_change (σ0 : St) (x1 : Int32) (x2 : Int32) : Option (Int32 × St) :=
  if x1 < 0 then
    some ((0 : Int32), σ0)
  else
    if x1 < (12 : Int32) then
      lt (sI σ0 16 0 x1) fun σ3 =>
      gb x2 <|
      lt (sI σ3 17 0 x2) fun σ6 =>
      some ((1 : Int32), σ6)
    else
      some ((0 : Int32), σ0)
abbrev rmC_Key_change : Room := { frames := 0, cells := 0, slots := 0, locals := 0 }
set_option maxHeartbeats 4000000 in
set_option maxRecDepth 100000 in
theorem cC_Key_change (l : Launch) (E : Ev) (sz : Nat) (σ0 σ' : St) (x1 : Int32) (x2 : Int32) (r : Int32) (hm : C_Key_change σ0 x1 x2 = some (r, σ')) : Met l yX3_change (wz yX3_change cX3_change 3 (some .boolean)) rmC_Key_change (PwC E [.ref (E.2.2 1001), .int x1, .int x2] σ0 sz) (QiC E σ0 σ' sz r) 0 0 (va_A (wldC E σ0) sz) := by
  refine enC (own := RX3) (by decide) rfl (Nat.le_of_ble_eq_true rfl) (fun p e s m args below meth c cx hr hlk hml hsz ok hw ls hl => ?_)
  have hx := cx.1
  have hb := cx.2.1
  have hA9 := cx.2.2.2
  have hA : ∀ q, s.heap.size ≤ q → (va_A (wldC E σ0) sz) q := fun q h => Or.inr (by rw [← hsz]; exact h)
  have hl : lv_has ls 3 [(0, .ref (E.2.2 1001)), (1, .int x1), (2, .int x2)] := hl
  unfold C_Key_change at hm
  have goal0 : ∀ (H : Heap) (locs : List Loc), wsC E σ0 (va_A (wldC E σ0) sz) s H locs → W p l e rmC_Key_change s m args below meth c H locs 0 0 (MQ below (QiC E σ0 σ' sz r) args s 0 0 (va_A (wldC E σ0) sz)) (F0 m 0 ls []) := by
    intro H locs hw
    refine lv_iload_n hx hb dX3_change_0 rfl (lv_at hl 1 rfl) ?_
    refine lv_if_lt (tgt := 10) hx hb dX3_change_1 (by decide) (fun c1 => ?_) (fun c1 => ?_)
    · have hm := if_t c1 hm
      refine lv_iconst (v := (0 : Int32)) hx hb dX3_change_10 (by decide) ?_
      exact rtC_z cx hr hlk hw (by decide) hm dX3_change_11
    · have hm := if_f c1 hm
      refine lv_iload_n hx hb dX3_change_4 rfl (lv_at hl 1 rfl) ?_
      refine lv_bipush (v := (12 : Int32)) hx hb dX3_change_5 (by decide) ?_
      refine lv_icmp_lt (tgt := 12) hx hb dX3_change_7 (by decide) (fun c2 => ?_) (fun c2 => ?_)
      · have hm := if_t c2 hm
        refine lv_aload_n hx hb dX3_change_12 rfl (lv_at hl 0 rfl) ?_
        refine lv_iload_n hx hb dX3_change_13 rfl (lv_at hl 1 rfl) ?_
        refine ptC_X3_1_0 cx ok hw dX3_change_14 (fun H locs hw => ?_)
        obtain ⟨σ3, e4, hm⟩ := lt_ok hm
        have hw := wsC_eq e4 hw
        refine lv_aload_n hx hb dX3_change_17 rfl (lv_at hl 0 rfl) ?_
        refine lv_iload_n hx hb dX3_change_18 rfl (lv_at hl 2 rfl) ?_
        obtain ⟨g5, hm⟩ := gb_ok hm
        refine ptC_X3_1_1 cx ok hw g5 dX3_change_19 (fun H locs hw => ?_)
        obtain ⟨σ6, e7, hm⟩ := lt_ok hm
        have hw := wsC_eq e7 hw
        refine lv_iconst (v := (1 : Int32)) hx hb dX3_change_22 (by decide) ?_
        exact rtC_z cx hr hlk hw (by decide) hm dX3_change_23
      · have hm := if_f c2 hm
        refine lv_iconst (v := (0 : Int32)) hx hb dX3_change_10 (by decide) ?_
        exact rtC_z cx hr hlk hw (by decide) hm dX3_change_11
  exact goal0 _ _ hw
theorem cwC_X9_Key_change {R : Room} {s : State} {args : Array Value} {E : Ev} {A : Nat → Prop} (h : ∀ w ∈ wA, w.before args s = true) (ok : okC E A s) (hR : rmC_Key_change.frames + 1 ≤ R.frames ∧ 8 + (3 + 11) + rmC_Key_change.locals ≤ R.locals) : va_CN R s args RX9 65 yX3_change "ChordGrammars" cX3_change 3 (some .boolean) (wz yX3_change cX3_change 3 (some .boolean)) rmC_Key_change 0 0 2 ∧ (Cond.instanceMethod yX3_change).before args s = true ∧ (Cond.selects RX3 yX3_change yX3_change).before args s = true := ⟨va_cnB 2 h (gdC k_299) rfl rfl rfl (ok.2.1 _ kn_296) (h _ k_2) (by decide +kernel) hR, h _ k_298, h _ ks_0⟩
/-! ChordGrammars.key: writes -/
def C_CG_key (σ0 : St) (x1 : Int32) (x2 : Int32) : Option (Int32 × St) :=
  bd (C_Key_change σ0 x1 x2) fun r2 σ3 =>
  gb r2 <|
  some (r2, σ3)
abbrev rmC_CG_key : Room := { frames := 1, cells := 0, slots := 0, locals := 22 }
set_option maxHeartbeats 4000000 in
set_option maxRecDepth 100000 in
theorem cC_CG_key (l : Launch) (E : Ev) (sz : Nat) (σ0 σ' : St) (x1 : Int32) (x2 : Int32) (r : Int32) (hm : C_CG_key σ0 x1 x2 = some (r, σ')) : Met l yX9_key (wz yX9_key cX9_key 3 (some .boolean)) rmC_CG_key (PwC E [.ref (E.2.2 1000), .int x1, .int x2] σ0 sz) (QiC E σ0 σ' sz r) 0 0 (va_A (wldC E σ0) sz) := by
  refine enC (own := RX9) (by decide) rfl (Nat.le_of_ble_eq_true rfl) (fun p e s m args below meth c cx hr hlk hml hsz ok hw ls hl => ?_)
  have hx := cx.1
  have hb := cx.2.1
  have hA9 := cx.2.2.2
  have hA : ∀ q, s.heap.size ≤ q → (va_A (wldC E σ0) sz) q := fun q h => Or.inr (by rw [← hsz]; exact h)
  have hl : lv_has ls 3 [(0, .ref (E.2.2 1000)), (1, .int x1), (2, .int x2)] := hl
  unfold C_CG_key at hm
  have goal0 : ∀ (H : Heap) (locs : List Loc), wsC E σ0 (va_A (wldC E σ0) sz) s H locs → W p l e rmC_CG_key s m args below meth c H locs 0 0 (MQ below (QiC E σ0 σ' sz r) args s 0 0 (va_A (wldC E σ0) sz)) (F0 m 0 ls []) := by
    intro H locs hw
    refine lv_aload_n hx hb dX9_key_0 rfl (lv_at hl 0 rfl) ?_
    refine gtC_X9_0_0 cx ok hw dX9_key_1 ?_
    refine lv_iload_n hx hb dX9_key_4 rfl (lv_at hl 1 rfl) ?_
    refine lv_iload_n hx hb dX9_key_5 rfl (lv_at hl 2 rfl) ?_
    obtain ⟨r2, σ3, h1, hm⟩ := bd_ok hm
    refine clVN_Ci (As := [.int x1, .int x2]) (rest := []) cx hml hl.1 ok hw hA (rcC_1 ok hw) (cC_Key_change l E _ σ0 σ3 x1 x2 r2 h1) (cwC_X9_Key_change hA9 ok ⟨Nat.le_of_ble_eq_true rfl, Nat.le_of_ble_eq_true rfl⟩) rfl rfl (Nat.le_of_ble_eq_true rfl) dX9_key_6 (fun H locs hw => ?_)
    obtain ⟨g4, hm⟩ := gb_ok hm
    exact rtC_z cx hr hlk hw g4 hm dX9_key_9
  exact goal0 _ _ hw
/-! ChordGrammars$Tariff.change: writes -/
def C_Tariff_change (σ0 : St) (x1 : Int32) (x2 : Int32) : Option (Int32 × St) :=
  if x1 < 0 then
    some ((0 : Int32), σ0)
  else
    if (4 : Int32) ≤ x1 then
      some ((0 : Int32), σ0)
    else
      if x2 < 0 then
        some ((0 : Int32), σ0)
      else
        if x2 ≤ (1000 : Int32) then
          gd x1 4 <|
          lt (sI σ0 32 x1.toNatClampNeg x2) fun σ6 =>
          some ((1 : Int32), σ6)
        else
          some ((0 : Int32), σ0)
abbrev rmC_Tariff_change : Room := { frames := 0, cells := 0, slots := 0, locals := 0 }
set_option maxHeartbeats 4000000 in
set_option maxRecDepth 100000 in
theorem cC_Tariff_change (l : Launch) (E : Ev) (sz : Nat) (σ0 σ' : St) (x1 : Int32) (x2 : Int32) (r : Int32) (hm : C_Tariff_change σ0 x1 x2 = some (r, σ')) : Met l yX7_change (wz yX7_change cX7_change 3 (some .boolean)) rmC_Tariff_change (PwC E [.ref (E.2.2 1002), .int x1, .int x2] σ0 sz) (QiC E σ0 σ' sz r) 0 0 (va_A (wldC E σ0) sz) := by
  refine enC (own := RX7) (by decide) rfl (Nat.le_of_ble_eq_true rfl) (fun p e s m args below meth c cx hr hlk hml hsz ok hw ls hl => ?_)
  have hx := cx.1
  have hb := cx.2.1
  have hA9 := cx.2.2.2
  have hA : ∀ q, s.heap.size ≤ q → (va_A (wldC E σ0) sz) q := fun q h => Or.inr (by rw [← hsz]; exact h)
  have hl : lv_has ls 3 [(0, .ref (E.2.2 1002)), (1, .int x1), (2, .int x2)] := hl
  unfold C_Tariff_change at hm
  have goal0 : ∀ (H : Heap) (locs : List Loc), wsC E σ0 (va_A (wldC E σ0) sz) s H locs → W p l e rmC_Tariff_change s m args below meth c H locs 0 0 (MQ below (QiC E σ0 σ' sz r) args s 0 0 (va_A (wldC E σ0) sz)) (F0 m 0 ls []) := by
    intro H locs hw
    refine lv_iload_n hx hb dX7_change_0 rfl (lv_at hl 1 rfl) ?_
    refine lv_if_lt (tgt := 20) hx hb dX7_change_1 (by decide) (fun c1 => ?_) (fun c1 => ?_)
    · have hm := if_t c1 hm
      refine lv_iconst (v := (0 : Int32)) hx hb dX7_change_20 (by decide) ?_
      exact rtC_z cx hr hlk hw (by decide) hm dX7_change_21
    · have hm := if_f c1 hm
      refine lv_iload_n hx hb dX7_change_4 rfl (lv_at hl 1 rfl) ?_
      refine lv_iconst (v := (4 : Int32)) hx hb dX7_change_5 (by decide) ?_
      refine lv_icmp_ge (tgt := 20) hx hb dX7_change_6 (by decide) (fun c2 => ?_) (fun c2 => ?_)
      · have hm := if_t c2 hm
        refine lv_iconst (v := (0 : Int32)) hx hb dX7_change_20 (by decide) ?_
        exact rtC_z cx hr hlk hw (by decide) hm dX7_change_21
      · have hm := if_f c2 hm
        refine lv_iload_n hx hb dX7_change_9 rfl (lv_at hl 2 rfl) ?_
        refine lv_if_lt (tgt := 20) hx hb dX7_change_10 (by decide) (fun c3 => ?_) (fun c3 => ?_)
        · have hm := if_t c3 hm
          refine lv_iconst (v := (0 : Int32)) hx hb dX7_change_20 (by decide) ?_
          exact rtC_z cx hr hlk hw (by decide) hm dX7_change_21
        · have hm := if_f c3 hm
          refine lv_iload_n hx hb dX7_change_13 rfl (lv_at hl 2 rfl) ?_
          refine lv_sipush (v := (1000 : Int32)) hx hb dX7_change_14 (by decide) ?_
          refine lv_icmp_le (tgt := 22) hx hb dX7_change_17 (by decide) (fun c4 => ?_) (fun c4 => ?_)
          · have hm := if_t c4 hm
            refine lv_aload_n hx hb dX7_change_22 rfl (lv_at hl 0 rfl) ?_
            refine gtC_X7_2_0 cx ok hw dX7_change_23 ?_
            refine lv_iload_n hx hb dX7_change_26 rfl (lv_at hl 1 rfl) ?_
            refine lv_iload_n hx hb dX7_change_27 rfl (lv_at hl 2 rfl) ?_
            obtain ⟨g5, hm⟩ := gd_ok hm
            refine stC_32 cx ok hw g5 dX7_change_28 (fun H locs hw => ?_)
            obtain ⟨σ6, e7, hm⟩ := lt_ok hm
            have hw := wsC_eq e7 hw
            refine lv_iconst (v := (1 : Int32)) hx hb dX7_change_29 (by decide) ?_
            exact rtC_z cx hr hlk hw (by decide) hm dX7_change_30
          · have hm := if_f c4 hm
            refine lv_iconst (v := (0 : Int32)) hx hb dX7_change_20 (by decide) ?_
            exact rtC_z cx hr hlk hw (by decide) hm dX7_change_21
  exact goal0 _ _ hw
theorem cwC_X9_Tariff_change {R : Room} {s : State} {args : Array Value} {E : Ev} {A : Nat → Prop} (h : ∀ w ∈ wA, w.before args s = true) (ok : okC E A s) (hR : rmC_Tariff_change.frames + 1 ≤ R.frames ∧ 8 + (3 + 11) + rmC_Tariff_change.locals ≤ R.locals) : va_CN R s args RX9 69 yX7_change "ChordGrammars" cX7_change 3 (some .boolean) (wz yX7_change cX7_change 3 (some .boolean)) rmC_Tariff_change 0 0 2 ∧ (Cond.instanceMethod yX7_change).before args s = true ∧ (Cond.selects RX7 yX7_change yX7_change).before args s = true := ⟨va_cnB 2 h (gdC k_307) rfl rfl rfl (ok.2.1 _ kn_304) (h _ k_3) (by decide +kernel) hR, h _ k_306, h _ ks_1⟩
/-! ChordGrammars.cost: writes -/
def C_CG_cost (σ0 : St) (x1 : Int32) (x2 : Int32) : Option (Int32 × St) :=
  bd (C_Tariff_change σ0 x1 x2) fun r2 σ3 =>
  gb r2 <|
  some (r2, σ3)
abbrev rmC_CG_cost : Room := { frames := 1, cells := 0, slots := 0, locals := 22 }
set_option maxHeartbeats 4000000 in
set_option maxRecDepth 100000 in
theorem cC_CG_cost (l : Launch) (E : Ev) (sz : Nat) (σ0 σ' : St) (x1 : Int32) (x2 : Int32) (r : Int32) (hm : C_CG_cost σ0 x1 x2 = some (r, σ')) : Met l yX9_cost (wz yX9_cost cX9_cost 3 (some .boolean)) rmC_CG_cost (PwC E [.ref (E.2.2 1000), .int x1, .int x2] σ0 sz) (QiC E σ0 σ' sz r) 0 0 (va_A (wldC E σ0) sz) := by
  refine enC (own := RX9) (by decide) rfl (Nat.le_of_ble_eq_true rfl) (fun p e s m args below meth c cx hr hlk hml hsz ok hw ls hl => ?_)
  have hx := cx.1
  have hb := cx.2.1
  have hA9 := cx.2.2.2
  have hA : ∀ q, s.heap.size ≤ q → (va_A (wldC E σ0) sz) q := fun q h => Or.inr (by rw [← hsz]; exact h)
  have hl : lv_has ls 3 [(0, .ref (E.2.2 1000)), (1, .int x1), (2, .int x2)] := hl
  unfold C_CG_cost at hm
  have goal0 : ∀ (H : Heap) (locs : List Loc), wsC E σ0 (va_A (wldC E σ0) sz) s H locs → W p l e rmC_CG_cost s m args below meth c H locs 0 0 (MQ below (QiC E σ0 σ' sz r) args s 0 0 (va_A (wldC E σ0) sz)) (F0 m 0 ls []) := by
    intro H locs hw
    refine lv_aload_n hx hb dX9_cost_0 rfl (lv_at hl 0 rfl) ?_
    refine gtC_X9_0_1 cx ok hw dX9_cost_1 ?_
    refine lv_iload_n hx hb dX9_cost_4 rfl (lv_at hl 1 rfl) ?_
    refine lv_iload_n hx hb dX9_cost_5 rfl (lv_at hl 2 rfl) ?_
    obtain ⟨r2, σ3, h1, hm⟩ := bd_ok hm
    refine clVN_Ci (As := [.int x1, .int x2]) (rest := []) cx hml hl.1 ok hw hA (rcC_2 ok hw) (cC_Tariff_change l E _ σ0 σ3 x1 x2 r2 h1) (cwC_X9_Tariff_change hA9 ok ⟨Nat.le_of_ble_eq_true rfl, Nat.le_of_ble_eq_true rfl⟩) rfl rfl (Nat.le_of_ble_eq_true rfl) dX9_cost_6 (fun H locs hw => ?_)
    obtain ⟨g4, hm⟩ := gb_ok hm
    exact rtC_z cx hr hlk hw g4 hm dX9_cost_9
  exact goal0 _ _ hw
/-! ChordGrammars$Draft.extend: writes, loops -/
def C_Draft_extend_l28 (n : Nat) : Nat → St → Int32 → Int64 → Int32 → Option (Int32 × St)
  | 0, _, _, _, _ => none
  | f + 1, σ, x1, x2, x4 =>
    if x1 ≤ x4 then
      lt (sI σ 65 0 ((σ.1 65 0) + x1)) fun σ2 =>
      some ((σ2.1 65 0), σ2)
    else
      gd ((σ.1 65 0) + x4) 800 <|
      lt (sI σ 64 ((σ.1 65 0) + x4).toNatClampNeg (vp_nar .byte ((((x2.toUInt64 >>> (((8 : Int32) * x4).toInt64.toUInt64 &&& Int64.toUInt64 63)).toInt64).toInt32).toInt8.toInt32))) fun σ5 =>
      lt (x4 + (1 : Int32)) fun x4_7 =>
      (C_Draft_extend_l28 n f) σ5 x1 x2 x4_7
def C_Draft_extend (n : Nat) (σ0 : St) (x1 : Int32) (x2 : Int64) : Option (Int32 × St) :=
  if x1 < (1 : Int32) then
    some ((-1 : Int32), σ0)
  else
    if (8 : Int32) < x1 then
      some ((-1 : Int32), σ0)
    else
      if ((σ0.1 65 0) + x1) ≤ (800 : Int32) then
        C_Draft_extend_l28 n n σ0 x1 x2 (0 : Int32)
      else
        some ((-1 : Int32), σ0)
abbrev rmC_Draft_extend : Room := { frames := 0, cells := 0, slots := 0, locals := 0 }
set_option maxHeartbeats 4000000 in
set_option maxRecDepth 100000 in
theorem cC_Draft_extend (l : Launch) (E : Ev) (n : Nat) (sz : Nat) (σ0 σ' : St) (x1 : Int32) (x2 : Int64) (r : Int32) (hm : C_Draft_extend n σ0 x1 x2 = some (r, σ')) : Met l yX1_extend (wz yX1_extend cX1_extend 5 (some .int)) rmC_Draft_extend (PwC E [.ref (E.2.2 1004), .int x1, .long x2] σ0 sz) (QiC E σ0 σ' sz r) 0 0 (va_A (wldC E σ0) sz) := by
  refine enC (own := RX1) (by decide) rfl (Nat.le_of_ble_eq_true rfl) (fun p e s m args below meth c cx hr hlk hml hsz ok hw ls hl => ?_)
  have hx := cx.1
  have hb := cx.2.1
  have hA9 := cx.2.2.2
  have hA : ∀ q, s.heap.size ≤ q → (va_A (wldC E σ0) sz) q := fun q h => Or.inr (by rw [← hsz]; exact h)
  have w_28 : ∀ (f : Nat), ∀ (σ : St) (x1 : Int32) (x2 : Int64) (x4 : Int32) (H : Heap) (locs : List Loc) (ls : Array Slot), wsC E σ (va_A (wldC E σ0) sz) s H locs → lv_has ls 5 [(0, .ref (E.2.2 1004)), (1, .int x1), (2, .long x2), (4, .int x4)] → C_Draft_extend_l28 n f σ x1 x2 x4 = some (r, σ') → W p l e rmC_Draft_extend s m args below meth c H locs 0 0 (MQ below (QiC E σ0 σ' sz r) args s 0 0 (va_A (wldC E σ0) sz)) (F0 m 28 ls []) := by
    intro f
    induction f with
    | zero =>
      intro σ x1 x2 x4 H locs ls hw hl hm
      rw [C_Draft_extend_l28] at hm
      cases hm
    | succ f ih =>
      intro σ x1 x2 x4 H locs ls hw hl hm
      rw [C_Draft_extend_l28] at hm
      refine lv_iload hx hb dX1_extend_28 (lv_at hl 3 rfl) ?_
      refine lv_iload_n hx hb dX1_extend_30 rfl (lv_at hl 1 rfl) ?_
      refine lv_icmp_ge (tgt := 61) hx hb dX1_extend_31 (by decide) (fun c1 => ?_) (fun c1 => ?_)
      · have hm := if_t c1 hm
        refine lv_aload_n hx hb dX1_extend_61 rfl (lv_at hl 0 rfl) ?_
        refine lv_dup hx hb dX1_extend_62 rfl ?_
        refine gtC_X1_4_1 cx ok hw dX1_extend_63 ?_
        refine lv_iload_n hx hb dX1_extend_66 rfl (lv_at hl 1 rfl) ?_
        refine lv_iadd hx hb dX1_extend_67 ?_
        refine ptC_X1_4_1 cx ok hw dX1_extend_68 (fun H locs hw => ?_)
        obtain ⟨σ2, e3, hm⟩ := lt_ok hm
        have hw := wsC_eq e3 hw
        refine lv_aload_n hx hb dX1_extend_71 rfl (lv_at hl 0 rfl) ?_
        refine gtC_X1_4_1 cx ok hw dX1_extend_72 ?_
        exact rtC_i cx hr hlk hw hm dX1_extend_75
      · have hm := if_f c1 hm
        refine lv_aload_n hx hb dX1_extend_34 rfl (lv_at hl 0 rfl) ?_
        refine gtC_X1_4_0 cx ok hw dX1_extend_35 ?_
        refine lv_aload_n hx hb dX1_extend_38 rfl (lv_at hl 0 rfl) ?_
        refine gtC_X1_4_1 cx ok hw dX1_extend_39 ?_
        refine lv_iload hx hb dX1_extend_42 (lv_at hl 3 rfl) ?_
        refine lv_iadd hx hb dX1_extend_44 ?_
        refine lv_lload_n hx hb dX1_extend_45 rfl (lv_at hl 2 rfl) ?_
        refine lv_bipush (v := (8 : Int32)) hx hb dX1_extend_46 (by decide) ?_
        refine lv_iload hx hb dX1_extend_48 (lv_at hl 3 rfl) ?_
        refine lv_imul hx hb dX1_extend_50 ?_
        refine lv_lushr hx hb dX1_extend_51 rfl ?_
        refine lv_l2i hx hb dX1_extend_52 rfl ?_
        refine lv_i2b hx hb dX1_extend_53 rfl ?_
        obtain ⟨g4, hm⟩ := gd_ok hm
        refine stC_64 cx ok hw g4 dX1_extend_54 (fun H locs hw => ?_)
        obtain ⟨σ5, e6, hm⟩ := lt_ok hm
        have hw := wsC_eq e6 hw
        obtain ⟨x4_7, e8, hm⟩ := lt_ok hm
        refine lv_iinc (v := x4_7) (lv' := [(4, .int x4_7), (0, .ref (E.2.2 1004)), (1, .int x1), (2, .long x2)]) hx hb dX1_extend_55 hl (k := 3) rfl (by rw [e8]; rfl) (by decide) rfl (fun ls hl => ?_)
        refine lv_goto (tgt := 28) hx hb dX1_extend_58 (by decide) ?_
        exact ih σ5 x1 x2 x4_7 H locs ls hw (lv_sub hl [1, 2, 3, 0] rfl) hm
  have hl : lv_has ls 5 [(0, .ref (E.2.2 1004)), (1, .int x1), (2, .long x2)] := hl
  unfold C_Draft_extend at hm
  have goal0 : ∀ (H : Heap) (locs : List Loc), wsC E σ0 (va_A (wldC E σ0) sz) s H locs → W p l e rmC_Draft_extend s m args below meth c H locs 0 0 (MQ below (QiC E σ0 σ' sz r) args s 0 0 (va_A (wldC E σ0) sz)) (F0 m 0 ls []) := by
    intro H locs hw
    refine lv_iload_n hx hb dX1_extend_0 rfl (lv_at hl 1 rfl) ?_
    refine lv_iconst (v := (1 : Int32)) hx hb dX1_extend_1 (by decide) ?_
    refine lv_icmp_lt (tgt := 23) hx hb dX1_extend_2 (by decide) (fun c1 => ?_) (fun c1 => ?_)
    · have hm := if_t c1 hm
      refine lv_iconst (v := (-1 : Int32)) hx hb dX1_extend_23 (by decide) ?_
      exact rtC_i cx hr hlk hw hm dX1_extend_24
    · have hm := if_f c1 hm
      refine lv_iload_n hx hb dX1_extend_5 rfl (lv_at hl 1 rfl) ?_
      refine lv_bipush (v := (8 : Int32)) hx hb dX1_extend_6 (by decide) ?_
      refine lv_icmp_gt (tgt := 23) hx hb dX1_extend_8 (by decide) (fun c2 => ?_) (fun c2 => ?_)
      · have hm := if_t c2 hm
        refine lv_iconst (v := (-1 : Int32)) hx hb dX1_extend_23 (by decide) ?_
        exact rtC_i cx hr hlk hw hm dX1_extend_24
      · have hm := if_f c2 hm
        refine lv_aload_n hx hb dX1_extend_11 rfl (lv_at hl 0 rfl) ?_
        refine gtC_X1_4_1 cx ok hw dX1_extend_12 ?_
        refine lv_iload_n hx hb dX1_extend_15 rfl (lv_at hl 1 rfl) ?_
        refine lv_iadd hx hb dX1_extend_16 ?_
        refine lv_sipush (v := (800 : Int32)) hx hb dX1_extend_17 (by decide) ?_
        refine lv_icmp_le (tgt := 25) hx hb dX1_extend_20 (by decide) (fun c3 => ?_) (fun c3 => ?_)
        · have hm := if_t c3 hm
          refine lv_iconst (v := (0 : Int32)) hx hb dX1_extend_25 (by decide) ?_
          refine lv_istore (lv' := [(4, .int (0 : Int32)), (0, .ref (E.2.2 1004)), (1, .int x1), (2, .long x2)]) hx hb dX1_extend_26 hl (by decide) rfl (fun ls hl => ?_)
          exact w_28 n σ0 x1 x2 (0 : Int32) H locs ls hw (lv_sub hl [1, 2, 3, 0] rfl) hm
        · have hm := if_f c3 hm
          refine lv_iconst (v := (-1 : Int32)) hx hb dX1_extend_23 (by decide) ?_
          exact rtC_i cx hr hlk hw hm dX1_extend_24
  exact goal0 _ _ hw
theorem cwC_X9_Draft_extend {R : Room} {s : State} {args : Array Value} {E : Ev} {A : Nat → Prop} (h : ∀ w ∈ wA, w.before args s = true) (ok : okC E A s) (hR : rmC_Draft_extend.frames + 1 ≤ R.frames ∧ 8 + (5 + 11) + rmC_Draft_extend.locals ≤ R.locals) : va_CN R s args RX9 72 yX1_extend "ChordGrammars" cX1_extend 5 (some .int) (wz yX1_extend cX1_extend 5 (some .int)) rmC_Draft_extend 0 0 2 ∧ (Cond.instanceMethod yX1_extend).before args s = true ∧ (Cond.selects RX1 yX1_extend yX1_extend).before args s = true := ⟨va_cnB 2 h (gdC k_315) rfl rfl rfl (ok.2.1 _ kn_312) (h _ k_5) (by decide +kernel) hR, h _ k_314, h _ ks_2⟩
/-! ChordGrammars.draft: writes -/
def C_CG_draft (n : Nat) (σ0 : St) (x1 : Int32) (x2 : Int64) : Option (Int32 × St) :=
  bd (C_Draft_extend n σ0 x1 x2) fun r2 σ3 =>
  some (r2, σ3)
abbrev rmC_CG_draft : Room := { frames := 1, cells := 0, slots := 0, locals := 24 }
set_option maxHeartbeats 4000000 in
set_option maxRecDepth 100000 in
theorem cC_CG_draft (l : Launch) (E : Ev) (n : Nat) (sz : Nat) (σ0 σ' : St) (x1 : Int32) (x2 : Int64) (r : Int32) (hm : C_CG_draft n σ0 x1 x2 = some (r, σ')) : Met l yX9_draft (wz yX9_draft cX9_draft 4 (some .int)) rmC_CG_draft (PwC E [.ref (E.2.2 1000), .int x1, .long x2] σ0 sz) (QiC E σ0 σ' sz r) 0 0 (va_A (wldC E σ0) sz) := by
  refine enC (own := RX9) (by decide) rfl (Nat.le_of_ble_eq_true rfl) (fun p e s m args below meth c cx hr hlk hml hsz ok hw ls hl => ?_)
  have hx := cx.1
  have hb := cx.2.1
  have hA9 := cx.2.2.2
  have hA : ∀ q, s.heap.size ≤ q → (va_A (wldC E σ0) sz) q := fun q h => Or.inr (by rw [← hsz]; exact h)
  have hl : lv_has ls 4 [(0, .ref (E.2.2 1000)), (1, .int x1), (2, .long x2)] := hl
  unfold C_CG_draft at hm
  have goal0 : ∀ (H : Heap) (locs : List Loc), wsC E σ0 (va_A (wldC E σ0) sz) s H locs → W p l e rmC_CG_draft s m args below meth c H locs 0 0 (MQ below (QiC E σ0 σ' sz r) args s 0 0 (va_A (wldC E σ0) sz)) (F0 m 0 ls []) := by
    intro H locs hw
    refine lv_aload_n hx hb dX9_draft_0 rfl (lv_at hl 0 rfl) ?_
    refine gtC_X9_0_3 cx ok hw dX9_draft_1 ?_
    refine lv_iload_n hx hb dX9_draft_4 rfl (lv_at hl 1 rfl) ?_
    refine lv_lload_n hx hb dX9_draft_5 rfl (lv_at hl 2 rfl) ?_
    obtain ⟨r2, σ3, h1, hm⟩ := bd_ok hm
    refine clVN_Ci (As := [.int x1, .long x2]) (rest := []) cx hml hl.1 ok hw hA (rcC_4 ok hw) (cC_Draft_extend l E n _ σ0 σ3 x1 x2 r2 h1) (cwC_X9_Draft_extend hA9 ok ⟨Nat.le_of_ble_eq_true rfl, Nat.le_of_ble_eq_true rfl⟩) rfl rfl (Nat.le_of_ble_eq_true rfl) dX9_draft_6 (fun H locs hw => ?_)
    exact rtC_i cx hr hlk hw hm dX9_draft_9
  exact goal0 _ _ hw
/-! ChordGrammars$Draft.octetAt: reads only -/
def C_Draft_octetAt (σ0 : St) (x1 : Int32) : Option Int32 :=
  if x1 < 0 then
    some (-1 : Int32)
  else
    if (σ0.1 65 0) ≤ x1 then
      some (-1 : Int32)
    else
      gd x1 800 <|
      some ((σ0.1 64 x1.toNatClampNeg) &&& (255 : Int32))
abbrev rmC_Draft_octetAt : Room := { frames := 0, cells := 0, slots := 0, locals := 0 }
set_option maxHeartbeats 4000000 in
set_option maxRecDepth 100000 in
theorem cC_Draft_octetAt (l : Launch) (E : Ev) (sz : Nat) (σ0 : St) (x1 : Int32) (r : Int32) (hm : C_Draft_octetAt σ0 x1 = some r) : Met l yX1_octetAt (wz yX1_octetAt cX1_octetAt 2 (some .int)) rmC_Draft_octetAt (PwC E [.ref (E.2.2 1004), .int x1] σ0 sz) (QiC E σ0 σ0 sz r) 0 0 (va_A (wldC E σ0) sz) := by
  refine enC (own := RX1) (by decide) rfl (Nat.le_of_ble_eq_true rfl) (fun p e s m args below meth c cx hr hlk hml hsz ok hw ls hl => ?_)
  have hx := cx.1
  have hb := cx.2.1
  have hA9 := cx.2.2.2
  have hA : ∀ q, s.heap.size ≤ q → (va_A (wldC E σ0) sz) q := fun q h => Or.inr (by rw [← hsz]; exact h)
  have hl : lv_has ls 2 [(0, .ref (E.2.2 1004)), (1, .int x1)] := hl
  unfold C_Draft_octetAt at hm
  have goal0 : ∀ (H : Heap) (locs : List Loc), wsC E σ0 (va_A (wldC E σ0) sz) s H locs → W p l e rmC_Draft_octetAt s m args below meth c H locs 0 0 (MQ below (QiC E σ0 σ0 sz r) args s 0 0 (va_A (wldC E σ0) sz)) (F0 m 0 ls []) := by
    intro H locs hw
    refine lv_iload_n hx hb dX1_octetAt_0 rfl (lv_at hl 1 rfl) ?_
    refine lv_if_lt (tgt := 25) hx hb dX1_octetAt_1 (by decide) (fun c1 => ?_) (fun c1 => ?_)
    · have hm := if_t c1 hm
      refine lv_iconst (v := (-1 : Int32)) hx hb dX1_octetAt_25 (by decide) ?_
      exact rtC_i cx hr hlk hw (pr_some hm) dX1_octetAt_26
    · have hm := if_f c1 hm
      refine lv_iload_n hx hb dX1_octetAt_4 rfl (lv_at hl 1 rfl) ?_
      refine lv_aload_n hx hb dX1_octetAt_5 rfl (lv_at hl 0 rfl) ?_
      refine gtC_X1_4_1 cx ok hw dX1_octetAt_6 ?_
      refine lv_icmp_ge (tgt := 25) hx hb dX1_octetAt_9 (by decide) (fun c2 => ?_) (fun c2 => ?_)
      · have hm := if_t c2 hm
        refine lv_iconst (v := (-1 : Int32)) hx hb dX1_octetAt_25 (by decide) ?_
        exact rtC_i cx hr hlk hw (pr_some hm) dX1_octetAt_26
      · have hm := if_f c2 hm
        refine lv_aload_n hx hb dX1_octetAt_12 rfl (lv_at hl 0 rfl) ?_
        refine gtC_X1_4_0 cx ok hw dX1_octetAt_13 ?_
        refine lv_iload_n hx hb dX1_octetAt_16 rfl (lv_at hl 1 rfl) ?_
        obtain ⟨g3, hm⟩ := gd_ok hm
        refine ldC_64 cx ok hw g3 dX1_octetAt_17 ?_
        refine lv_sipush (v := (255 : Int32)) hx hb dX1_octetAt_18 (by decide) ?_
        refine lv_iand hx hb dX1_octetAt_21 ?_
        refine lv_goto (tgt := 26) hx hb dX1_octetAt_22 (by decide) ?_
        exact rtC_i cx hr hlk hw (pr_some hm) dX1_octetAt_26
  exact goal0 _ _ hw
theorem cwC_X4_Draft_octetAt {R : Room} {s : State} {args : Array Value} {E : Ev} {A : Nat → Prop} (h : ∀ w ∈ wA, w.before args s = true) (ok : okC E A s) (hR : rmC_Draft_octetAt.frames + 1 ≤ R.frames ∧ 8 + (2 + 11) + rmC_Draft_octetAt.locals ≤ R.locals) : va_CN R s args RX4 76 yX1_octetAt "ChordGrammars" cX1_octetAt 2 (some .int) (wz yX1_octetAt cX1_octetAt 2 (some .int)) rmC_Draft_octetAt 0 0 1 ∧ (Cond.instanceMethod yX1_octetAt).before args s = true ∧ (Cond.selects RX1 yX1_octetAt yX1_octetAt).before args s = true := ⟨va_cnB 1 h (gdC k_331) rfl rfl rfl (ok.2.1 _ kn_328) (h _ k_5) (by decide +kernel) hR, h _ k_330, h _ ks_5⟩
/-! ChordGrammars$Reader.nextOctet: writes, loops -/
def C_Reader_nextOctet_l0 (n : Nat) : Nat → St → Option (Int32 × St)
  | 0, _ => none
  | f + 1, σ =>
    if (σ.1 65 0) ≤ (σ.1 99 0) then
      bp (C_Draft_octetAt σ (σ.1 99 0)) fun r3 =>
      some (r3, σ)
    else
      bp (C_Draft_octetAt σ (σ.1 99 0)) fun r5 =>
      if r5 = (32 : Int32) then
        lt (sI σ 99 0 ((σ.1 99 0) + (1 : Int32))) fun σ9 =>
        (C_Reader_nextOctet_l0 n f) σ9
      else
        bp (C_Draft_octetAt σ (σ.1 99 0)) fun r8 =>
        some (r8, σ)
def C_Reader_nextOctet (n : Nat) (σ0 : St) : Option (Int32 × St) :=
  C_Reader_nextOctet_l0 n n σ0
abbrev rmC_Reader_nextOctet : Room := { frames := 1, cells := 0, slots := 0, locals := 21 }
set_option maxHeartbeats 4000000 in
set_option maxRecDepth 100000 in
theorem cC_Reader_nextOctet (l : Launch) (E : Ev) (n : Nat) (sz : Nat) (σ0 σ' : St) (r : Int32) (hm : C_Reader_nextOctet n σ0 = some (r, σ')) : Met l yX4_nextOctet (wz yX4_nextOctet cX4_nextOctet 2 (some .int)) rmC_Reader_nextOctet (PwC E [.ref (E.2.2 1006), .ref (E.2.2 1004)] σ0 sz) (QiC E σ0 σ' sz r) 0 0 (va_A (wldC E σ0) sz) := by
  refine enC (own := RX4) (by decide) rfl (Nat.le_of_ble_eq_true rfl) (fun p e s m args below meth c cx hr hlk hml hsz ok hw ls hl => ?_)
  have hx := cx.1
  have hb := cx.2.1
  have hA9 := cx.2.2.2
  have hA : ∀ q, s.heap.size ≤ q → (va_A (wldC E σ0) sz) q := fun q h => Or.inr (by rw [← hsz]; exact h)
  have w_0 : ∀ (f : Nat), ∀ (σ : St) (H : Heap) (locs : List Loc) (ls : Array Slot), wsC E σ (va_A (wldC E σ0) sz) s H locs → lv_has ls 2 [(0, .ref (E.2.2 1006)), (1, .ref (E.2.2 1004))] → C_Reader_nextOctet_l0 n f σ = some (r, σ') → W p l e rmC_Reader_nextOctet s m args below meth c H locs 0 0 (MQ below (QiC E σ0 σ' sz r) args s 0 0 (va_A (wldC E σ0) sz)) (F0 m 0 ls []) := by
    intro f
    induction f with
    | zero =>
      intro σ H locs ls hw hl hm
      rw [C_Reader_nextOctet_l0] at hm
      cases hm
    | succ f ih =>
      intro σ H locs ls hw hl hm
      rw [C_Reader_nextOctet_l0] at hm
      refine lv_aload_n hx hb dX4_nextOctet_0 rfl (lv_at hl 0 rfl) ?_
      refine gtC_X4_6_3 cx ok hw dX4_nextOctet_1 ?_
      refine lv_aload_n hx hb dX4_nextOctet_4 rfl (lv_at hl 1 rfl) ?_
      refine gtC_X4_4_1 cx ok hw dX4_nextOctet_5 ?_
      refine lv_icmp_ge (tgt := 37) hx hb dX4_nextOctet_8 (by decide) (fun c1 => ?_) (fun c1 => ?_)
      · have hm := if_t c1 hm
        refine lv_aload_n hx hb dX4_nextOctet_37 rfl (lv_at hl 1 rfl) ?_
        refine lv_aload_n hx hb dX4_nextOctet_38 rfl (lv_at hl 0 rfl) ?_
        refine gtC_X4_6_3 cx ok hw dX4_nextOctet_39 ?_
        obtain ⟨r3, h2, hm⟩ := bp_ok hm
        refine clVN_Ci (As := [.int (σ.1 99 0)]) (rest := []) cx hml hl.1 ok hw hA (rcC_4 ok hw) (cC_Draft_octetAt l E _ σ (σ.1 99 0) r3 h2) (cwC_X4_Draft_octetAt hA9 ok ⟨Nat.le_of_ble_eq_true rfl, Nat.le_of_ble_eq_true rfl⟩) rfl rfl (Nat.le_of_ble_eq_true rfl) dX4_nextOctet_42 (fun H locs hw => ?_)
        exact rtC_i cx hr hlk hw hm dX4_nextOctet_45
      · have hm := if_f c1 hm
        refine lv_aload_n hx hb dX4_nextOctet_11 rfl (lv_at hl 1 rfl) ?_
        refine lv_aload_n hx hb dX4_nextOctet_12 rfl (lv_at hl 0 rfl) ?_
        refine gtC_X4_6_3 cx ok hw dX4_nextOctet_13 ?_
        obtain ⟨r5, h4, hm⟩ := bp_ok hm
        refine clVN_Ci (As := [.int (σ.1 99 0)]) (rest := []) cx hml hl.1 ok hw hA (rcC_4 ok hw) (cC_Draft_octetAt l E _ σ (σ.1 99 0) r5 h4) (cwC_X4_Draft_octetAt hA9 ok ⟨Nat.le_of_ble_eq_true rfl, Nat.le_of_ble_eq_true rfl⟩) rfl rfl (Nat.le_of_ble_eq_true rfl) dX4_nextOctet_16 (fun H locs hw => ?_)
        refine lv_bipush (v := (32 : Int32)) hx hb dX4_nextOctet_19 (by decide) ?_
        refine lv_icmp_ne (tgt := 37) hx hb dX4_nextOctet_21 (by decide) (fun c6 => ?_) (fun c6 => ?_)
        · have hm := if_f c6 hm
          refine lv_aload_n hx hb dX4_nextOctet_37 rfl (lv_at hl 1 rfl) ?_
          refine lv_aload_n hx hb dX4_nextOctet_38 rfl (lv_at hl 0 rfl) ?_
          refine gtC_X4_6_3 cx ok hw dX4_nextOctet_39 ?_
          obtain ⟨r8, h7, hm⟩ := bp_ok hm
          refine clVN_Ci (As := [.int (σ.1 99 0)]) (rest := []) cx hml hl.1 ok hw hA (rcC_4 ok hw) (cC_Draft_octetAt l E _ σ (σ.1 99 0) r8 h7) (cwC_X4_Draft_octetAt hA9 ok ⟨Nat.le_of_ble_eq_true rfl, Nat.le_of_ble_eq_true rfl⟩) rfl rfl (Nat.le_of_ble_eq_true rfl) dX4_nextOctet_42 (fun H locs hw => ?_)
          exact rtC_i cx hr hlk hw hm dX4_nextOctet_45
        · have hm := if_t c6 hm
          refine lv_aload_n hx hb dX4_nextOctet_24 rfl (lv_at hl 0 rfl) ?_
          refine lv_dup hx hb dX4_nextOctet_25 rfl ?_
          refine gtC_X4_6_3 cx ok hw dX4_nextOctet_26 ?_
          refine lv_iconst (v := (1 : Int32)) hx hb dX4_nextOctet_29 (by decide) ?_
          refine lv_iadd hx hb dX4_nextOctet_30 ?_
          refine ptC_X4_6_3 cx ok hw dX4_nextOctet_31 (fun H locs hw => ?_)
          obtain ⟨σ9, e10, hm⟩ := lt_ok hm
          have hw := wsC_eq e10 hw
          refine lv_goto (tgt := 0) hx hb dX4_nextOctet_34 (by decide) ?_
          exact ih σ9 H locs ls hw (lv_sub hl [0, 1] rfl) hm
  have hl : lv_has ls 2 [(0, .ref (E.2.2 1006)), (1, .ref (E.2.2 1004))] := hl
  unfold C_Reader_nextOctet at hm
  have goal0 : ∀ (H : Heap) (locs : List Loc), wsC E σ0 (va_A (wldC E σ0) sz) s H locs → W p l e rmC_Reader_nextOctet s m args below meth c H locs 0 0 (MQ below (QiC E σ0 σ' sz r) args s 0 0 (va_A (wldC E σ0) sz)) (F0 m 0 ls []) := by
    intro H locs hw
    exact w_0 n σ0 H locs ls hw (lv_sub hl [0, 1] rfl) hm
  exact goal0 _ _ hw
theorem cwC_X4_Reader_nextOctet {R : Room} {s : State} {args : Array Value} (h : ∀ w ∈ wA, w.before args s = true) (hR : rmC_Reader_nextOctet.frames + 1 ≤ R.frames ∧ 8 + (2 + 11) + rmC_Reader_nextOctet.locals ≤ R.locals) : CallW R s args RX4 RX4 32 yX4_nextOctet cX4_nextOctet 2 (some .int) (wz yX4_nextOctet cX4_nextOctet 2 (some .int)) rmC_Reader_nextOctet 0 0 1 := cwV 1 h (gdV k_324 k_326 ks_4 k_7 k_327) rfl rfl rfl (by decide +kernel) hR
/-! ChordGrammars$Grammar.renames: reads only -/
def C_Grammar_renames (σ0 : St) (x1 : Int32) : Option Int32 :=
  gd x1 60 <|
  if (σ0.1 146 x1.toNatClampNeg) = (-1 : Int32) then
    gd x1 60 <|
    if (26 : Int32) ≤ (σ0.1 145 x1.toNatClampNeg) then
      some (0 : Int32)
    else
      some (1 : Int32)
  else
    some (0 : Int32)
abbrev rmC_Grammar_renames : Room := { frames := 0, cells := 0, slots := 0, locals := 0 }
set_option maxHeartbeats 4000000 in
set_option maxRecDepth 100000 in
theorem cC_Grammar_renames (l : Launch) (E : Ev) (sz : Nat) (σ0 : St) (x1 : Int32) (r : Int32) (hm : C_Grammar_renames σ0 x1 = some r) : Met l yX2_renames (wz yX2_renames cX2_renames 2 (some .boolean)) rmC_Grammar_renames (PwC E [.ref (E.2.2 1009), .int x1] σ0 sz) (QiC E σ0 σ0 sz r) 0 0 (va_A (wldC E σ0) sz) := by
  refine enC (own := RX2) (by decide) rfl (Nat.le_of_ble_eq_true rfl) (fun p e s m args below meth c cx hr hlk hml hsz ok hw ls hl => ?_)
  have hx := cx.1
  have hb := cx.2.1
  have hA9 := cx.2.2.2
  have hA : ∀ q, s.heap.size ≤ q → (va_A (wldC E σ0) sz) q := fun q h => Or.inr (by rw [← hsz]; exact h)
  have hl : lv_has ls 2 [(0, .ref (E.2.2 1009)), (1, .int x1)] := hl
  unfold C_Grammar_renames at hm
  have goal0 : ∀ (H : Heap) (locs : List Loc), wsC E σ0 (va_A (wldC E σ0) sz) s H locs → W p l e rmC_Grammar_renames s m args below meth c H locs 0 0 (MQ below (QiC E σ0 σ0 sz r) args s 0 0 (va_A (wldC E σ0) sz)) (F0 m 0 ls []) := by
    intro H locs hw
    refine lv_aload_n hx hb dX2_renames_0 rfl (lv_at hl 0 rfl) ?_
    refine gtC_X2_9_2 cx ok hw dX2_renames_1 ?_
    refine lv_iload_n hx hb dX2_renames_4 rfl (lv_at hl 1 rfl) ?_
    obtain ⟨g1, hm⟩ := gd_ok hm
    refine ldC_146 cx ok hw g1 dX2_renames_5 ?_
    refine lv_iconst (v := (-1 : Int32)) hx hb dX2_renames_6 (by decide) ?_
    refine lv_icmp_ne (tgt := 25) hx hb dX2_renames_7 (by decide) (fun c2 => ?_) (fun c2 => ?_)
    · have hm := if_f c2 hm
      refine lv_iconst (v := (0 : Int32)) hx hb dX2_renames_25 (by decide) ?_
      exact rtC_z cx hr hlk hw (by decide) (pr_some hm) dX2_renames_26
    · have hm := if_t c2 hm
      refine lv_aload_n hx hb dX2_renames_10 rfl (lv_at hl 0 rfl) ?_
      refine gtC_X2_9_1 cx ok hw dX2_renames_11 ?_
      refine lv_iload_n hx hb dX2_renames_14 rfl (lv_at hl 1 rfl) ?_
      obtain ⟨g3, hm⟩ := gd_ok hm
      refine ldC_145 cx ok hw g3 dX2_renames_15 ?_
      refine lv_bipush (v := (26 : Int32)) hx hb dX2_renames_16 (by decide) ?_
      refine lv_icmp_ge (tgt := 25) hx hb dX2_renames_18 (by decide) (fun c4 => ?_) (fun c4 => ?_)
      · have hm := if_t c4 hm
        refine lv_iconst (v := (0 : Int32)) hx hb dX2_renames_25 (by decide) ?_
        exact rtC_z cx hr hlk hw (by decide) (pr_some hm) dX2_renames_26
      · have hm := if_f c4 hm
        refine lv_iconst (v := (1 : Int32)) hx hb dX2_renames_21 (by decide) ?_
        refine lv_goto (tgt := 26) hx hb dX2_renames_22 (by decide) ?_
        exact rtC_z cx hr hlk hw (by decide) (pr_some hm) dX2_renames_26
  exact goal0 _ _ hw
theorem cwC_X4_Grammar_renames {R : Room} {s : State} {args : Array Value} {E : Ev} {A : Nat → Prop} (h : ∀ w ∈ wA, w.before args s = true) (ok : okC E A s) (hR : rmC_Grammar_renames.frames + 1 ≤ R.frames ∧ 8 + (2 + 11) + rmC_Grammar_renames.locals ≤ R.locals) : va_CN R s args RX4 98 yX2_renames "ChordGrammars" cX2_renames 2 (some .boolean) (wz yX2_renames cX2_renames 2 (some .boolean)) rmC_Grammar_renames 0 0 1 ∧ (Cond.instanceMethod yX2_renames).before args s = true ∧ (Cond.selects RX2 yX2_renames yX2_renames).before args s = true := ⟨va_cnB 1 h (gdC k_451) rfl rfl rfl (ok.2.1 _ kn_448) (h _ k_6) (by decide +kernel) hR, h _ k_450, h _ ks_11⟩
/-! ChordGrammars$Reader.reaches: reads only -/
def C_Reader_reaches (σ0 : St) (x1 : Int32) (x2 : Int32) : Option Int32 :=
  gd x1 26 <|
  if ((((σ0.1 98 x1.toNatClampNeg).toUInt32 >>> (x2.toUInt32 &&& Int32.toUInt32 31)).toInt32) &&& (1 : Int32)) = 0 then
    some (0 : Int32)
  else
    some (1 : Int32)
abbrev rmC_Reader_reaches : Room := { frames := 0, cells := 0, slots := 0, locals := 0 }
set_option maxHeartbeats 4000000 in
set_option maxRecDepth 100000 in
theorem cC_Reader_reaches (l : Launch) (E : Ev) (sz : Nat) (σ0 : St) (x1 : Int32) (x2 : Int32) (r : Int32) (hm : C_Reader_reaches σ0 x1 x2 = some r) : Met l yX4_reaches (wz yX4_reaches cX4_reaches 3 (some .boolean)) rmC_Reader_reaches (PwC E [.ref (E.2.2 1006), .int x1, .int x2] σ0 sz) (QiC E σ0 σ0 sz r) 0 0 (va_A (wldC E σ0) sz) := by
  refine enC (own := RX4) (by decide) rfl (Nat.le_of_ble_eq_true rfl) (fun p e s m args below meth c cx hr hlk hml hsz ok hw ls hl => ?_)
  have hx := cx.1
  have hb := cx.2.1
  have hA9 := cx.2.2.2
  have hA : ∀ q, s.heap.size ≤ q → (va_A (wldC E σ0) sz) q := fun q h => Or.inr (by rw [← hsz]; exact h)
  have hl : lv_has ls 3 [(0, .ref (E.2.2 1006)), (1, .int x1), (2, .int x2)] := hl
  unfold C_Reader_reaches at hm
  have goal0 : ∀ (H : Heap) (locs : List Loc), wsC E σ0 (va_A (wldC E σ0) sz) s H locs → W p l e rmC_Reader_reaches s m args below meth c H locs 0 0 (MQ below (QiC E σ0 σ0 sz r) args s 0 0 (va_A (wldC E σ0) sz)) (F0 m 0 ls []) := by
    intro H locs hw
    refine lv_aload_n hx hb dX4_reaches_0 rfl (lv_at hl 0 rfl) ?_
    refine gtC_X4_6_2 cx ok hw dX4_reaches_1 ?_
    refine lv_iload_n hx hb dX4_reaches_4 rfl (lv_at hl 1 rfl) ?_
    obtain ⟨g1, hm⟩ := gd_ok hm
    refine ldC_98 cx ok hw g1 dX4_reaches_5 ?_
    refine lv_iload_n hx hb dX4_reaches_6 rfl (lv_at hl 2 rfl) ?_
    refine lv_iushr hx hb dX4_reaches_7 rfl ?_
    refine lv_iconst (v := (1 : Int32)) hx hb dX4_reaches_8 (by decide) ?_
    refine lv_iand hx hb dX4_reaches_9 ?_
    refine lv_if_eq (tgt := 17) hx hb dX4_reaches_10 (by decide) (fun c2 => ?_) (fun c2 => ?_)
    · have hm := if_t c2 hm
      refine lv_iconst (v := (0 : Int32)) hx hb dX4_reaches_17 (by decide) ?_
      exact rtC_z cx hr hlk hw (by decide) (pr_some hm) dX4_reaches_18
    · have hm := if_f c2 hm
      refine lv_iconst (v := (1 : Int32)) hx hb dX4_reaches_13 (by decide) ?_
      refine lv_goto (tgt := 18) hx hb dX4_reaches_14 (by decide) ?_
      exact rtC_z cx hr hlk hw (by decide) (pr_some hm) dX4_reaches_18
  exact goal0 _ _ hw
theorem cwC_X4_Reader_reaches {R : Room} {s : State} {args : Array Value} (h : ∀ w ∈ wA, w.before args s = true) (hR : rmC_Reader_reaches.frames + 1 ≤ R.frames ∧ 8 + (3 + 11) + rmC_Reader_reaches.locals ≤ R.locals) : CallW R s args RX4 RX4 101 yX4_reaches cX4_reaches 3 (some .boolean) (wz yX4_reaches cX4_reaches 3 (some .boolean)) rmC_Reader_reaches 0 0 2 := cwV 2 h (gdV k_452 k_454 ks_12 k_7 k_455) rfl rfl rfl (by decide +kernel) hR
/-! ChordGrammars$Reader.findReach: writes, loops -/
def C_Reader_findReach_l89 (n : Nat) (k81 : St → Int32 → Option St) : Nat → St → Int32 → Int32 → Option St
  | 0, _, _, _ => none
  | f + 1, σ, x1, x2 =>
    if (26 : Int32) ≤ x2 then
      lt (x1 + (1 : Int32)) fun x1_2 =>
      k81 σ x1_2
    else
      bp (C_Reader_reaches σ x2 x1) fun r5 =>
      if r5 = 0 then
        lt (x2 + (1 : Int32)) fun x2_7 =>
        (C_Reader_findReach_l89 n k81 f) σ x1 x2_7
      else
        gd x2 26 <|
        gd x1 26 <|
        gd x2 26 <|
        lt (sI σ 98 x2.toNatClampNeg ((σ.1 98 x2.toNatClampNeg) ||| (σ.1 98 x1.toNatClampNeg))) fun σ12 =>
        lt (x2 + (1 : Int32)) fun x2_14 =>
        (C_Reader_findReach_l89 n k81 f) σ12 x1 x2_14
def C_Reader_findReach_l81 (n : Nat) : Nat → St → Int32 → Option St
  | 0, _, _ => none
  | f + 1, σ, x1 =>
    if (26 : Int32) ≤ x1 then
      some σ
    else
      C_Reader_findReach_l89 n (C_Reader_findReach_l81 n f) n σ x1 (0 : Int32)
def C_Reader_findReach_l23 (n : Nat) : Nat → St → Int32 → Option St
  | 0, _, _ => none
  | f + 1, σ, x1 =>
    if (σ.1 149 0) ≤ x1 then
      C_Reader_findReach_l81 n n σ (0 : Int32)
    else
      bp (C_Grammar_renames σ x1) fun r3 =>
      if r3 = 0 then
        lt (x1 + (1 : Int32)) fun x1_5 =>
        (C_Reader_findReach_l23 n f) σ x1_5
      else
        gd x1 60 <|
        gd (σ.1 144 x1.toNatClampNeg) 26 <|
        gd x1 60 <|
        gd (σ.1 144 x1.toNatClampNeg) 26 <|
        lt (sI σ 98 (σ.1 144 x1.toNatClampNeg).toNatClampNeg ((σ.1 98 (σ.1 144 x1.toNatClampNeg).toNatClampNeg) ||| ((1 : Int32) <<< ((σ.1 145 x1.toNatClampNeg) &&& 31)))) fun σ11 =>
        lt (x1 + (1 : Int32)) fun x1_13 =>
        (C_Reader_findReach_l23 n f) σ11 x1_13
def C_Reader_findReach_l2 (n : Nat) : Nat → St → Int32 → Option St
  | 0, _, _ => none
  | f + 1, σ, x1 =>
    if (26 : Int32) ≤ x1 then
      C_Reader_findReach_l23 n n σ (0 : Int32)
    else
      gd x1 26 <|
      lt (sI σ 98 x1.toNatClampNeg (0 : Int32)) fun σ3 =>
      lt (x1 + (1 : Int32)) fun x1_5 =>
      (C_Reader_findReach_l2 n f) σ3 x1_5
def C_Reader_findReach (n : Nat) (σ0 : St) : Option St :=
  C_Reader_findReach_l2 n n σ0 (0 : Int32)
abbrev rmC_Reader_findReach : Room := { frames := 1, cells := 0, slots := 0, locals := 22 }
set_option maxHeartbeats 4000000 in
set_option maxRecDepth 100000 in
theorem cC_Reader_findReach (l : Launch) (E : Ev) (n : Nat) (sz : Nat) (σ0 σ' : St) (hm : C_Reader_findReach n σ0 = some σ') : Met l yX4_findReach (wz yX4_findReach cX4_findReach 3 none) rmC_Reader_findReach (PwC E [.ref (E.2.2 1006)] σ0 sz) (QvC E σ0 σ' sz) 0 0 (va_A (wldC E σ0) sz) := by
  refine enC (own := RX4) (by decide) rfl (Nat.le_of_ble_eq_true rfl) (fun p e s m args below meth c cx hr hlk hml hsz ok hw ls hl => ?_)
  have hx := cx.1
  have hb := cx.2.1
  have hA9 := cx.2.2.2
  have hA : ∀ q, s.heap.size ≤ q → (va_A (wldC E σ0) sz) q := fun q h => Or.inr (by rw [← hsz]; exact h)
  have w_89 : ∀ (k81 : St → Int32 → Option St) (hk81 : ∀ (σ : St) (x1 : Int32) (H : Heap) (locs : List Loc) (ls : Array Slot), wsC E σ (va_A (wldC E σ0) sz) s H locs → lv_has ls 3 [(0, .ref (E.2.2 1006)), (1, .int x1)] → k81 σ x1 = some σ' → W p l e rmC_Reader_findReach s m args below meth c H locs 0 0 (MQ below (QvC E σ0 σ' sz) args s 0 0 (va_A (wldC E σ0) sz)) (F0 m 81 ls [])), ∀ (f : Nat), ∀ (σ : St) (x1 : Int32) (x2 : Int32) (H : Heap) (locs : List Loc) (ls : Array Slot), wsC E σ (va_A (wldC E σ0) sz) s H locs → lv_has ls 3 [(0, .ref (E.2.2 1006)), (1, .int x1), (2, .int x2)] → C_Reader_findReach_l89 n k81 f σ x1 x2 = some σ' → W p l e rmC_Reader_findReach s m args below meth c H locs 0 0 (MQ below (QvC E σ0 σ' sz) args s 0 0 (va_A (wldC E σ0) sz)) (F0 m 89 ls []) := by
    intro k81 hk81
    intro f
    induction f with
    | zero =>
      intro σ x1 x2 H locs ls hw hl hm
      rw [C_Reader_findReach_l89] at hm
      cases hm
    | succ f ih =>
      intro σ x1 x2 H locs ls hw hl hm
      rw [C_Reader_findReach_l89] at hm
      refine lv_iload_n hx hb dX4_findReach_89 rfl (lv_at hl 2 rfl) ?_
      refine lv_bipush (v := (26 : Int32)) hx hb dX4_findReach_90 (by decide) ?_
      refine lv_icmp_ge (tgt := 125) hx hb dX4_findReach_92 (by decide) (fun c1 => ?_) (fun c1 => ?_)
      · have hm := if_t c1 hm
        obtain ⟨x1_2, e3, hm⟩ := lt_ok hm
        refine lv_iinc (v := x1_2) (lv' := [(1, .int x1_2), (0, .ref (E.2.2 1006)), (2, .int x2)]) hx hb dX4_findReach_125 hl (k := 1) rfl (by rw [e3]; rfl) (by decide) rfl (fun ls hl => ?_)
        refine lv_goto (tgt := 81) hx hb dX4_findReach_128 (by decide) ?_
        exact hk81 σ x1_2 H locs ls hw (lv_sub hl [1, 0] rfl) hm
      · have hm := if_f c1 hm
        refine lv_aload_n hx hb dX4_findReach_95 rfl (lv_at hl 0 rfl) ?_
        refine lv_iload_n hx hb dX4_findReach_96 rfl (lv_at hl 2 rfl) ?_
        refine lv_iload_n hx hb dX4_findReach_97 rfl (lv_at hl 1 rfl) ?_
        obtain ⟨r5, h4, hm⟩ := bp_ok hm
        refine clV_Ci (As := [.int x2, .int x1]) (rest := []) cx hml hl.1 ok hw hA (rcC_6 ok hw) (cC_Reader_reaches l E _ σ x2 x1 r5 h4) (cwC_X4_Reader_reaches hA9 ⟨Nat.le_of_ble_eq_true rfl, Nat.le_of_ble_eq_true rfl⟩) rfl rfl (Nat.le_of_ble_eq_true rfl) dX4_findReach_98 (fun H locs hw => ?_)
        refine lv_if_eq (tgt := 119) hx hb dX4_findReach_101 (by decide) (fun c6 => ?_) (fun c6 => ?_)
        · have hm := if_t c6 hm
          obtain ⟨x2_7, e8, hm⟩ := lt_ok hm
          refine lv_iinc (v := x2_7) (lv' := [(2, .int x2_7), (0, .ref (E.2.2 1006)), (1, .int x1)]) hx hb dX4_findReach_119 hl (k := 2) rfl (by rw [e8]; rfl) (by decide) rfl (fun ls hl => ?_)
          refine lv_goto (tgt := 89) hx hb dX4_findReach_122 (by decide) ?_
          exact ih σ x1 x2_7 H locs ls hw (lv_sub hl [1, 2, 0] rfl) hm
        · have hm := if_f c6 hm
          refine lv_aload_n hx hb dX4_findReach_104 rfl (lv_at hl 0 rfl) ?_
          refine gtC_X4_6_2 cx ok hw dX4_findReach_105 ?_
          refine lv_iload_n hx hb dX4_findReach_108 rfl (lv_at hl 2 rfl) ?_
          refine lv_dup2_11 hx hb dX4_findReach_109 rfl rfl ?_
          obtain ⟨g9, hm⟩ := gd_ok hm
          refine ldC_98 cx ok hw g9 dX4_findReach_110 ?_
          refine lv_aload_n hx hb dX4_findReach_111 rfl (lv_at hl 0 rfl) ?_
          refine gtC_X4_6_2 cx ok hw dX4_findReach_112 ?_
          refine lv_iload_n hx hb dX4_findReach_115 rfl (lv_at hl 1 rfl) ?_
          obtain ⟨g10, hm⟩ := gd_ok hm
          refine ldC_98 cx ok hw g10 dX4_findReach_116 ?_
          refine lv_ior hx hb dX4_findReach_117 ?_
          obtain ⟨g11, hm⟩ := gd_ok hm
          refine stC_98 cx ok hw g11 dX4_findReach_118 (fun H locs hw => ?_)
          obtain ⟨σ12, e13, hm⟩ := lt_ok hm
          have hw := wsC_eq e13 hw
          obtain ⟨x2_14, e15, hm⟩ := lt_ok hm
          refine lv_iinc (v := x2_14) (lv' := [(2, .int x2_14), (0, .ref (E.2.2 1006)), (1, .int x1)]) hx hb dX4_findReach_119 hl (k := 2) rfl (by rw [e15]; rfl) (by decide) rfl (fun ls hl => ?_)
          refine lv_goto (tgt := 89) hx hb dX4_findReach_122 (by decide) ?_
          exact ih σ12 x1 x2_14 H locs ls hw (lv_sub hl [1, 2, 0] rfl) hm
  have w_81 : ∀ (f : Nat), ∀ (σ : St) (x1 : Int32) (H : Heap) (locs : List Loc) (ls : Array Slot), wsC E σ (va_A (wldC E σ0) sz) s H locs → lv_has ls 3 [(0, .ref (E.2.2 1006)), (1, .int x1)] → C_Reader_findReach_l81 n f σ x1 = some σ' → W p l e rmC_Reader_findReach s m args below meth c H locs 0 0 (MQ below (QvC E σ0 σ' sz) args s 0 0 (va_A (wldC E σ0) sz)) (F0 m 81 ls []) := by
    intro f
    induction f with
    | zero =>
      intro σ x1 H locs ls hw hl hm
      rw [C_Reader_findReach_l81] at hm
      cases hm
    | succ f ih =>
      intro σ x1 H locs ls hw hl hm
      rw [C_Reader_findReach_l81] at hm
      refine lv_iload_n hx hb dX4_findReach_81 rfl (lv_at hl 1 rfl) ?_
      refine lv_bipush (v := (26 : Int32)) hx hb dX4_findReach_82 (by decide) ?_
      refine lv_icmp_ge (tgt := 131) hx hb dX4_findReach_84 (by decide) (fun c1 => ?_) (fun c1 => ?_)
      · have hm := if_t c1 hm
        exact rtC_v cx hr hlk hw hm dX4_findReach_131
      · have hm := if_f c1 hm
        refine lv_iconst (v := (0 : Int32)) hx hb dX4_findReach_87 (by decide) ?_
        refine lv_istore_n (lv' := [(2, .int (0 : Int32)), (0, .ref (E.2.2 1006)), (1, .int x1)]) hx hb dX4_findReach_88 rfl hl (by decide) rfl (fun ls hl => ?_)
        exact w_89 (C_Reader_findReach_l81 n f) ih n σ x1 (0 : Int32) H locs ls hw (lv_sub hl [1, 2, 0] rfl) hm
  have w_23 : ∀ (f : Nat), ∀ (σ : St) (x1 : Int32) (H : Heap) (locs : List Loc) (ls : Array Slot), wsC E σ (va_A (wldC E σ0) sz) s H locs → lv_has ls 3 [(0, .ref (E.2.2 1006)), (1, .int x1)] → C_Reader_findReach_l23 n f σ x1 = some σ' → W p l e rmC_Reader_findReach s m args below meth c H locs 0 0 (MQ below (QvC E σ0 σ' sz) args s 0 0 (va_A (wldC E σ0) sz)) (F0 m 23 ls []) := by
    intro f
    induction f with
    | zero =>
      intro σ x1 H locs ls hw hl hm
      rw [C_Reader_findReach_l23] at hm
      cases hm
    | succ f ih =>
      intro σ x1 H locs ls hw hl hm
      rw [C_Reader_findReach_l23] at hm
      refine lv_iload_n hx hb dX4_findReach_23 rfl (lv_at hl 1 rfl) ?_
      refine lv_aload_n hx hb dX4_findReach_24 rfl (lv_at hl 0 rfl) ?_
      refine gtC_X4_6_0 cx ok hw dX4_findReach_25 ?_
      refine gtC_X4_9_5 cx ok hw dX4_findReach_28 ?_
      refine lv_icmp_ge (tgt := 79) hx hb dX4_findReach_31 (by decide) (fun c1 => ?_) (fun c1 => ?_)
      · have hm := if_t c1 hm
        refine lv_iconst (v := (0 : Int32)) hx hb dX4_findReach_79 (by decide) ?_
        refine lv_istore_n (lv' := [(1, .int (0 : Int32)), (0, .ref (E.2.2 1006))]) hx hb dX4_findReach_80 rfl hl (by decide) rfl (fun ls hl => ?_)
        exact w_81 n σ (0 : Int32) H locs ls hw (lv_sub hl [1, 0] rfl) hm
      · have hm := if_f c1 hm
        refine lv_aload_n hx hb dX4_findReach_34 rfl (lv_at hl 0 rfl) ?_
        refine gtC_X4_6_0 cx ok hw dX4_findReach_35 ?_
        refine lv_iload_n hx hb dX4_findReach_38 rfl (lv_at hl 1 rfl) ?_
        obtain ⟨r3, h2, hm⟩ := bp_ok hm
        refine clVN_Ci (As := [.int x1]) (rest := []) cx hml hl.1 ok hw hA (rcC_9 ok hw) (cC_Grammar_renames l E _ σ x1 r3 h2) (cwC_X4_Grammar_renames hA9 ok ⟨Nat.le_of_ble_eq_true rfl, Nat.le_of_ble_eq_true rfl⟩) rfl rfl (Nat.le_of_ble_eq_true rfl) dX4_findReach_39 (fun H locs hw => ?_)
        refine lv_if_eq (tgt := 73) hx hb dX4_findReach_42 (by decide) (fun c4 => ?_) (fun c4 => ?_)
        · have hm := if_t c4 hm
          obtain ⟨x1_5, e6, hm⟩ := lt_ok hm
          refine lv_iinc (v := x1_5) (lv' := [(1, .int x1_5), (0, .ref (E.2.2 1006))]) hx hb dX4_findReach_73 hl (k := 1) rfl (by rw [e6]; rfl) (by decide) rfl (fun ls hl => ?_)
          refine lv_goto (tgt := 23) hx hb dX4_findReach_76 (by decide) ?_
          exact ih σ x1_5 H locs ls hw (lv_sub hl [1, 0] rfl) hm
        · have hm := if_f c4 hm
          refine lv_aload_n hx hb dX4_findReach_45 rfl (lv_at hl 0 rfl) ?_
          refine gtC_X4_6_2 cx ok hw dX4_findReach_46 ?_
          refine lv_aload_n hx hb dX4_findReach_49 rfl (lv_at hl 0 rfl) ?_
          refine gtC_X4_6_0 cx ok hw dX4_findReach_50 ?_
          refine gtC_X4_9_0 cx ok hw dX4_findReach_53 ?_
          refine lv_iload_n hx hb dX4_findReach_56 rfl (lv_at hl 1 rfl) ?_
          obtain ⟨g7, hm⟩ := gd_ok hm
          refine ldC_144 cx ok hw g7 dX4_findReach_57 ?_
          refine lv_dup2_11 hx hb dX4_findReach_58 rfl rfl ?_
          obtain ⟨g8, hm⟩ := gd_ok hm
          refine ldC_98 cx ok hw g8 dX4_findReach_59 ?_
          refine lv_iconst (v := (1 : Int32)) hx hb dX4_findReach_60 (by decide) ?_
          refine lv_aload_n hx hb dX4_findReach_61 rfl (lv_at hl 0 rfl) ?_
          refine gtC_X4_6_0 cx ok hw dX4_findReach_62 ?_
          refine gtC_X4_9_1 cx ok hw dX4_findReach_65 ?_
          refine lv_iload_n hx hb dX4_findReach_68 rfl (lv_at hl 1 rfl) ?_
          obtain ⟨g9, hm⟩ := gd_ok hm
          refine ldC_145 cx ok hw g9 dX4_findReach_69 ?_
          refine lv_ishl hx hb dX4_findReach_70 ?_
          refine lv_ior hx hb dX4_findReach_71 ?_
          obtain ⟨g10, hm⟩ := gd_ok hm
          refine stC_98 cx ok hw g10 dX4_findReach_72 (fun H locs hw => ?_)
          obtain ⟨σ11, e12, hm⟩ := lt_ok hm
          have hw := wsC_eq e12 hw
          obtain ⟨x1_13, e14, hm⟩ := lt_ok hm
          refine lv_iinc (v := x1_13) (lv' := [(1, .int x1_13), (0, .ref (E.2.2 1006))]) hx hb dX4_findReach_73 hl (k := 1) rfl (by rw [e14]; rfl) (by decide) rfl (fun ls hl => ?_)
          refine lv_goto (tgt := 23) hx hb dX4_findReach_76 (by decide) ?_
          exact ih σ11 x1_13 H locs ls hw (lv_sub hl [1, 0] rfl) hm
  have w_2 : ∀ (f : Nat), ∀ (σ : St) (x1 : Int32) (H : Heap) (locs : List Loc) (ls : Array Slot), wsC E σ (va_A (wldC E σ0) sz) s H locs → lv_has ls 3 [(0, .ref (E.2.2 1006)), (1, .int x1)] → C_Reader_findReach_l2 n f σ x1 = some σ' → W p l e rmC_Reader_findReach s m args below meth c H locs 0 0 (MQ below (QvC E σ0 σ' sz) args s 0 0 (va_A (wldC E σ0) sz)) (F0 m 2 ls []) := by
    intro f
    induction f with
    | zero =>
      intro σ x1 H locs ls hw hl hm
      rw [C_Reader_findReach_l2] at hm
      cases hm
    | succ f ih =>
      intro σ x1 H locs ls hw hl hm
      rw [C_Reader_findReach_l2] at hm
      refine lv_iload_n hx hb dX4_findReach_2 rfl (lv_at hl 1 rfl) ?_
      refine lv_bipush (v := (26 : Int32)) hx hb dX4_findReach_3 (by decide) ?_
      refine lv_icmp_ge (tgt := 21) hx hb dX4_findReach_5 (by decide) (fun c1 => ?_) (fun c1 => ?_)
      · have hm := if_t c1 hm
        refine lv_iconst (v := (0 : Int32)) hx hb dX4_findReach_21 (by decide) ?_
        refine lv_istore_n (lv' := [(1, .int (0 : Int32)), (0, .ref (E.2.2 1006))]) hx hb dX4_findReach_22 rfl hl (by decide) rfl (fun ls hl => ?_)
        exact w_23 n σ (0 : Int32) H locs ls hw (lv_sub hl [1, 0] rfl) hm
      · have hm := if_f c1 hm
        refine lv_aload_n hx hb dX4_findReach_8 rfl (lv_at hl 0 rfl) ?_
        refine gtC_X4_6_2 cx ok hw dX4_findReach_9 ?_
        refine lv_iload_n hx hb dX4_findReach_12 rfl (lv_at hl 1 rfl) ?_
        refine lv_iconst (v := (0 : Int32)) hx hb dX4_findReach_13 (by decide) ?_
        obtain ⟨g2, hm⟩ := gd_ok hm
        refine stC_98 cx ok hw g2 dX4_findReach_14 (fun H locs hw => ?_)
        obtain ⟨σ3, e4, hm⟩ := lt_ok hm
        have hw := wsC_eq e4 hw
        obtain ⟨x1_5, e6, hm⟩ := lt_ok hm
        refine lv_iinc (v := x1_5) (lv' := [(1, .int x1_5), (0, .ref (E.2.2 1006))]) hx hb dX4_findReach_15 hl (k := 1) rfl (by rw [e6]; rfl) (by decide) rfl (fun ls hl => ?_)
        refine lv_goto (tgt := 2) hx hb dX4_findReach_18 (by decide) ?_
        exact ih σ3 x1_5 H locs ls hw (lv_sub hl [1, 0] rfl) hm
  have hl : lv_has ls 3 [(0, .ref (E.2.2 1006))] := hl
  unfold C_Reader_findReach at hm
  have goal0 : ∀ (H : Heap) (locs : List Loc), wsC E σ0 (va_A (wldC E σ0) sz) s H locs → W p l e rmC_Reader_findReach s m args below meth c H locs 0 0 (MQ below (QvC E σ0 σ' sz) args s 0 0 (va_A (wldC E σ0) sz)) (F0 m 0 ls []) := by
    intro H locs hw
    refine lv_iconst (v := (0 : Int32)) hx hb dX4_findReach_0 (by decide) ?_
    refine lv_istore_n (lv' := [(1, .int (0 : Int32)), (0, .ref (E.2.2 1006))]) hx hb dX4_findReach_1 rfl hl (by decide) rfl (fun ls hl => ?_)
    exact w_2 n σ0 (0 : Int32) H locs ls hw (lv_sub hl [1, 0] rfl) hm
  exact goal0 _ _ hw
theorem cwC_X4_Reader_findReach {R : Room} {s : State} {args : Array Value} (h : ∀ w ∈ wA, w.before args s = true) (hR : rmC_Reader_findReach.frames + 1 ≤ R.frames ∧ 8 + (3 + 11) + rmC_Reader_findReach.locals ≤ R.locals) : CallW R s args RX4 RX4 40 yX4_findReach cX4_findReach 3 none (wz yX4_findReach cX4_findReach 3 none) rmC_Reader_findReach 0 0 0 := cwV 0 h (gdV k_444 k_446 ks_10 k_7 k_447) rfl rfl rfl (by decide +kernel) hR
/-! ChordGrammars$Reader.ringPlace: reads only, loops -/
def C_Reader_ringPlace_l2 (n : Nat) (σ0 : St) : Nat → Int32 → Option Int32
  | 0, _ => none
  | f + 1, x1 =>
    if (σ0.1 149 0) ≤ x1 then
      some (-1 : Int32)
    else
      bp (C_Grammar_renames σ0 x1) fun r3 =>
      if r3 = 0 then
        lt (x1 + (1 : Int32)) fun x1_5 =>
        (C_Reader_ringPlace_l2 n σ0 f) x1_5
      else
        gd x1 60 <|
        gd x1 60 <|
        bp (C_Reader_reaches σ0 (σ0.1 145 x1.toNatClampNeg) (σ0.1 144 x1.toNatClampNeg)) fun r10 =>
        if r10 = 0 then
          lt (x1 + (1 : Int32)) fun x1_12 =>
          (C_Reader_ringPlace_l2 n σ0 f) x1_12
        else
          gd x1 60 <|
          some (σ0.1 97 x1.toNatClampNeg)
def C_Reader_ringPlace (n : Nat) (σ0 : St) : Option Int32 :=
  C_Reader_ringPlace_l2 n σ0 n (0 : Int32)
abbrev rmC_Reader_ringPlace : Room := { frames := 1, cells := 0, slots := 0, locals := 22 }
set_option maxHeartbeats 4000000 in
set_option maxRecDepth 100000 in
theorem cC_Reader_ringPlace (l : Launch) (E : Ev) (n : Nat) (sz : Nat) (σ0 : St) (r : Int32) (hm : C_Reader_ringPlace n σ0 = some r) : Met l yX4_ringPlace (wz yX4_ringPlace cX4_ringPlace 2 (some .int)) rmC_Reader_ringPlace (PwC E [.ref (E.2.2 1006)] σ0 sz) (QiC E σ0 σ0 sz r) 0 0 (va_A (wldC E σ0) sz) := by
  refine enC (own := RX4) (by decide) rfl (Nat.le_of_ble_eq_true rfl) (fun p e s m args below meth c cx hr hlk hml hsz ok hw ls hl => ?_)
  have hx := cx.1
  have hb := cx.2.1
  have hA9 := cx.2.2.2
  have hA : ∀ q, s.heap.size ≤ q → (va_A (wldC E σ0) sz) q := fun q h => Or.inr (by rw [← hsz]; exact h)
  have w_2 : ∀ (f : Nat), ∀ (x1 : Int32) (H : Heap) (locs : List Loc) (ls : Array Slot), wsC E σ0 (va_A (wldC E σ0) sz) s H locs → lv_has ls 2 [(0, .ref (E.2.2 1006)), (1, .int x1)] → C_Reader_ringPlace_l2 n σ0 f x1 = some r → W p l e rmC_Reader_ringPlace s m args below meth c H locs 0 0 (MQ below (QiC E σ0 σ0 sz r) args s 0 0 (va_A (wldC E σ0) sz)) (F0 m 2 ls []) := by
    intro f
    induction f with
    | zero =>
      intro x1 H locs ls hw hl hm
      rw [C_Reader_ringPlace_l2] at hm
      cases hm
    | succ f ih =>
      intro x1 H locs ls hw hl hm
      rw [C_Reader_ringPlace_l2] at hm
      refine lv_iload_n hx hb dX4_ringPlace_2 rfl (lv_at hl 1 rfl) ?_
      refine lv_aload_n hx hb dX4_ringPlace_3 rfl (lv_at hl 0 rfl) ?_
      refine gtC_X4_6_0 cx ok hw dX4_ringPlace_4 ?_
      refine gtC_X4_9_5 cx ok hw dX4_ringPlace_7 ?_
      refine lv_icmp_ge (tgt := 62) hx hb dX4_ringPlace_10 (by decide) (fun c1 => ?_) (fun c1 => ?_)
      · have hm := if_t c1 hm
        refine lv_iconst (v := (-1 : Int32)) hx hb dX4_ringPlace_62 (by decide) ?_
        exact rtC_i cx hr hlk hw (pr_some hm) dX4_ringPlace_63
      · have hm := if_f c1 hm
        refine lv_aload_n hx hb dX4_ringPlace_13 rfl (lv_at hl 0 rfl) ?_
        refine gtC_X4_6_0 cx ok hw dX4_ringPlace_14 ?_
        refine lv_iload_n hx hb dX4_ringPlace_17 rfl (lv_at hl 1 rfl) ?_
        obtain ⟨r3, h2, hm⟩ := bp_ok hm
        refine clVN_Ci (As := [.int x1]) (rest := []) cx hml hl.1 ok hw hA (rcC_9 ok hw) (cC_Grammar_renames l E _ σ0 x1 r3 h2) (cwC_X4_Grammar_renames hA9 ok ⟨Nat.le_of_ble_eq_true rfl, Nat.le_of_ble_eq_true rfl⟩) rfl rfl (Nat.le_of_ble_eq_true rfl) dX4_ringPlace_18 (fun H locs hw => ?_)
        refine lv_if_eq (tgt := 56) hx hb dX4_ringPlace_21 (by decide) (fun c4 => ?_) (fun c4 => ?_)
        · have hm := if_t c4 hm
          obtain ⟨x1_5, e6, hm⟩ := lt_ok hm
          refine lv_iinc (v := x1_5) (lv' := [(1, .int x1_5), (0, .ref (E.2.2 1006))]) hx hb dX4_ringPlace_56 hl (k := 1) rfl (by rw [e6]; rfl) (by decide) rfl (fun ls hl => ?_)
          refine lv_goto (tgt := 2) hx hb dX4_ringPlace_59 (by decide) ?_
          exact ih x1_5 H locs ls hw (lv_sub hl [1, 0] rfl) hm
        · have hm := if_f c4 hm
          refine lv_aload_n hx hb dX4_ringPlace_24 rfl (lv_at hl 0 rfl) ?_
          refine lv_aload_n hx hb dX4_ringPlace_25 rfl (lv_at hl 0 rfl) ?_
          refine gtC_X4_6_0 cx ok hw dX4_ringPlace_26 ?_
          refine gtC_X4_9_1 cx ok hw dX4_ringPlace_29 ?_
          refine lv_iload_n hx hb dX4_ringPlace_32 rfl (lv_at hl 1 rfl) ?_
          obtain ⟨g7, hm⟩ := gd_ok hm
          refine ldC_145 cx ok hw g7 dX4_ringPlace_33 ?_
          refine lv_aload_n hx hb dX4_ringPlace_34 rfl (lv_at hl 0 rfl) ?_
          refine gtC_X4_6_0 cx ok hw dX4_ringPlace_35 ?_
          refine gtC_X4_9_0 cx ok hw dX4_ringPlace_38 ?_
          refine lv_iload_n hx hb dX4_ringPlace_41 rfl (lv_at hl 1 rfl) ?_
          obtain ⟨g8, hm⟩ := gd_ok hm
          refine ldC_144 cx ok hw g8 dX4_ringPlace_42 ?_
          obtain ⟨r10, h9, hm⟩ := bp_ok hm
          refine clV_Ci (As := [.int (σ0.1 145 x1.toNatClampNeg), .int (σ0.1 144 x1.toNatClampNeg)]) (rest := []) cx hml hl.1 ok hw hA (rcC_6 ok hw) (cC_Reader_reaches l E _ σ0 (σ0.1 145 x1.toNatClampNeg) (σ0.1 144 x1.toNatClampNeg) r10 h9) (cwC_X4_Reader_reaches hA9 ⟨Nat.le_of_ble_eq_true rfl, Nat.le_of_ble_eq_true rfl⟩) rfl rfl (Nat.le_of_ble_eq_true rfl) dX4_ringPlace_43 (fun H locs hw => ?_)
          refine lv_if_eq (tgt := 56) hx hb dX4_ringPlace_46 (by decide) (fun c11 => ?_) (fun c11 => ?_)
          · have hm := if_t c11 hm
            obtain ⟨x1_12, e13, hm⟩ := lt_ok hm
            refine lv_iinc (v := x1_12) (lv' := [(1, .int x1_12), (0, .ref (E.2.2 1006))]) hx hb dX4_ringPlace_56 hl (k := 1) rfl (by rw [e13]; rfl) (by decide) rfl (fun ls hl => ?_)
            refine lv_goto (tgt := 2) hx hb dX4_ringPlace_59 (by decide) ?_
            exact ih x1_12 H locs ls hw (lv_sub hl [1, 0] rfl) hm
          · have hm := if_f c11 hm
            refine lv_aload_n hx hb dX4_ringPlace_49 rfl (lv_at hl 0 rfl) ?_
            refine gtC_X4_6_1 cx ok hw dX4_ringPlace_50 ?_
            refine lv_iload_n hx hb dX4_ringPlace_53 rfl (lv_at hl 1 rfl) ?_
            obtain ⟨g14, hm⟩ := gd_ok hm
            refine ldC_97 cx ok hw g14 dX4_ringPlace_54 ?_
            exact rtC_i cx hr hlk hw (pr_some hm) dX4_ringPlace_55
  have hl : lv_has ls 2 [(0, .ref (E.2.2 1006))] := hl
  unfold C_Reader_ringPlace at hm
  have goal0 : ∀ (H : Heap) (locs : List Loc), wsC E σ0 (va_A (wldC E σ0) sz) s H locs → W p l e rmC_Reader_ringPlace s m args below meth c H locs 0 0 (MQ below (QiC E σ0 σ0 sz r) args s 0 0 (va_A (wldC E σ0) sz)) (F0 m 0 ls []) := by
    intro H locs hw
    refine lv_iconst (v := (0 : Int32)) hx hb dX4_ringPlace_0 (by decide) ?_
    refine lv_istore_n (lv' := [(1, .int (0 : Int32)), (0, .ref (E.2.2 1006))]) hx hb dX4_ringPlace_1 rfl hl (by decide) rfl (fun ls hl => ?_)
    exact w_2 n (0 : Int32) H locs ls hw (lv_sub hl [1, 0] rfl) hm
  exact goal0 _ _ hw
theorem cwC_X4_Reader_ringPlace {R : Room} {s : State} {args : Array Value} (h : ∀ w ∈ wA, w.before args s = true) (hR : rmC_Reader_ringPlace.frames + 1 ≤ R.frames ∧ 8 + (2 + 11) + rmC_Reader_ringPlace.locals ≤ R.locals) : CallW R s args RX4 RX4 43 yX4_ringPlace cX4_ringPlace 2 (some .int) (wz yX4_ringPlace cX4_ringPlace 2 (some .int)) rmC_Reader_ringPlace 0 0 0 := cwV 0 h (gdV k_456 k_458 ks_13 k_7 k_459) rfl rfl rfl (by decide +kernel) hR
/-! java/lang/Integer.bitCount: reads only -/
def C_Integer_bitCount_0f7a4 (x0 : Int32) : Option Int32 :=
  lt ((x0 - (((x0.toUInt32 >>> ((1 : Int32).toUInt32 &&& Int32.toUInt32 31)).toInt32) &&& (1431655765 : Int32)))) fun x0_1 =>
  lt (((x0_1 &&& (858993459 : Int32)) + (((x0_1.toUInt32 >>> ((2 : Int32).toUInt32 &&& Int32.toUInt32 31)).toInt32) &&& (858993459 : Int32)))) fun x0_3 =>
  lt (((x0_3 + ((x0_3.toUInt32 >>> ((4 : Int32).toUInt32 &&& Int32.toUInt32 31)).toInt32)) &&& (252645135 : Int32))) fun x0_5 =>
  lt ((x0_5 + ((x0_5.toUInt32 >>> ((8 : Int32).toUInt32 &&& Int32.toUInt32 31)).toInt32))) fun x0_7 =>
  lt ((x0_7 + ((x0_7.toUInt32 >>> ((16 : Int32).toUInt32 &&& Int32.toUInt32 31)).toInt32))) fun x0_9 =>
  some (x0_9 &&& (63 : Int32))
abbrev rmC_Integer_bitCount_0f7a4 : Room := { frames := 0, cells := 0, slots := 0, locals := 0 }
set_option maxHeartbeats 4000000 in
set_option maxRecDepth 100000 in
theorem cC_Integer_bitCount_0f7a4 (l : Launch) (E : Ev) (sz : Nat) (σ0 : St) (x0 : Int32) (r : Int32) (hm : C_Integer_bitCount_0f7a4 x0 = some r) : Met l yJ6_bitCount_0f7a4 (wz yJ6_bitCount_0f7a4 cJ6_bitCount_0f7a4 1 (some .int)) rmC_Integer_bitCount_0f7a4 (PwC E [.int x0] σ0 sz) (QiC E σ0 σ0 sz r) 0 0 (va_A (wldC E σ0) sz) := by
  refine enC (own := RJ6) (by decide) rfl (Nat.le_of_ble_eq_true rfl) (fun p e s m args below meth c cx hr hlk hml hsz ok hw ls hl => ?_)
  have hx := cx.1
  have hb := cx.2.1
  have hA9 := cx.2.2.2
  have hA : ∀ q, s.heap.size ≤ q → (va_A (wldC E σ0) sz) q := fun q h => Or.inr (by rw [← hsz]; exact h)
  have hl : lv_has ls 1 [(0, .int x0)] := hl
  unfold C_Integer_bitCount_0f7a4 at hm
  have goal0 : ∀ (H : Heap) (locs : List Loc), wsC E σ0 (va_A (wldC E σ0) sz) s H locs → W p l e rmC_Integer_bitCount_0f7a4 s m args below meth c H locs 0 0 (MQ below (QiC E σ0 σ0 sz r) args s 0 0 (va_A (wldC E σ0) sz)) (F0 m 0 ls []) := by
    intro H locs hw
    refine lv_iload_n hx hb dJ6_bitCount_0f7a4_0 rfl (lv_at hl 0 rfl) ?_
    refine lv_iload_n hx hb dJ6_bitCount_0f7a4_1 rfl (lv_at hl 0 rfl) ?_
    refine lv_iconst (v := (1 : Int32)) hx hb dJ6_bitCount_0f7a4_2 (by decide) ?_
    refine lv_iushr hx hb dJ6_bitCount_0f7a4_3 rfl ?_
    refine lv_ldcw (v := (1431655765 : Int32)) hx hb cx.2.2.1 (hA9 _ k_467) dJ6_bitCount_0f7a4_4 ?_
    refine lv_iand hx hb dJ6_bitCount_0f7a4_7 ?_
    refine lv_isub hx hb dJ6_bitCount_0f7a4_8 ?_
    obtain ⟨x0_1, e2, hm⟩ := lt_ok hm
    refine ti_eq e2 ?_
    refine lv_istore_n (lv' := [(0, .int x0_1)]) hx hb dJ6_bitCount_0f7a4_9 rfl hl (by decide) rfl (fun ls hl => ?_)
    refine lv_iload_n hx hb dJ6_bitCount_0f7a4_10 rfl (lv_at hl 0 rfl) ?_
    refine lv_ldcw (v := (858993459 : Int32)) hx hb cx.2.2.1 (hA9 _ k_468) dJ6_bitCount_0f7a4_11 ?_
    refine lv_iand hx hb dJ6_bitCount_0f7a4_14 ?_
    refine lv_iload_n hx hb dJ6_bitCount_0f7a4_15 rfl (lv_at hl 0 rfl) ?_
    refine lv_iconst (v := (2 : Int32)) hx hb dJ6_bitCount_0f7a4_16 (by decide) ?_
    refine lv_iushr hx hb dJ6_bitCount_0f7a4_17 rfl ?_
    refine lv_ldcw (v := (858993459 : Int32)) hx hb cx.2.2.1 (hA9 _ k_468) dJ6_bitCount_0f7a4_18 ?_
    refine lv_iand hx hb dJ6_bitCount_0f7a4_21 ?_
    refine lv_iadd hx hb dJ6_bitCount_0f7a4_22 ?_
    obtain ⟨x0_3, e4, hm⟩ := lt_ok hm
    refine ti_eq e4 ?_
    refine lv_istore_n (lv' := [(0, .int x0_3)]) hx hb dJ6_bitCount_0f7a4_23 rfl hl (by decide) rfl (fun ls hl => ?_)
    refine lv_iload_n hx hb dJ6_bitCount_0f7a4_24 rfl (lv_at hl 0 rfl) ?_
    refine lv_iload_n hx hb dJ6_bitCount_0f7a4_25 rfl (lv_at hl 0 rfl) ?_
    refine lv_iconst (v := (4 : Int32)) hx hb dJ6_bitCount_0f7a4_26 (by decide) ?_
    refine lv_iushr hx hb dJ6_bitCount_0f7a4_27 rfl ?_
    refine lv_iadd hx hb dJ6_bitCount_0f7a4_28 ?_
    refine lv_ldcw (v := (252645135 : Int32)) hx hb cx.2.2.1 (hA9 _ k_469) dJ6_bitCount_0f7a4_29 ?_
    refine lv_iand hx hb dJ6_bitCount_0f7a4_32 ?_
    obtain ⟨x0_5, e6, hm⟩ := lt_ok hm
    refine ti_eq e6 ?_
    refine lv_istore_n (lv' := [(0, .int x0_5)]) hx hb dJ6_bitCount_0f7a4_33 rfl hl (by decide) rfl (fun ls hl => ?_)
    refine lv_iload_n hx hb dJ6_bitCount_0f7a4_34 rfl (lv_at hl 0 rfl) ?_
    refine lv_iload_n hx hb dJ6_bitCount_0f7a4_35 rfl (lv_at hl 0 rfl) ?_
    refine lv_bipush (v := (8 : Int32)) hx hb dJ6_bitCount_0f7a4_36 (by decide) ?_
    refine lv_iushr hx hb dJ6_bitCount_0f7a4_38 rfl ?_
    refine lv_iadd hx hb dJ6_bitCount_0f7a4_39 ?_
    obtain ⟨x0_7, e8, hm⟩ := lt_ok hm
    refine ti_eq e8 ?_
    refine lv_istore_n (lv' := [(0, .int x0_7)]) hx hb dJ6_bitCount_0f7a4_40 rfl hl (by decide) rfl (fun ls hl => ?_)
    refine lv_iload_n hx hb dJ6_bitCount_0f7a4_41 rfl (lv_at hl 0 rfl) ?_
    refine lv_iload_n hx hb dJ6_bitCount_0f7a4_42 rfl (lv_at hl 0 rfl) ?_
    refine lv_bipush (v := (16 : Int32)) hx hb dJ6_bitCount_0f7a4_43 (by decide) ?_
    refine lv_iushr hx hb dJ6_bitCount_0f7a4_45 rfl ?_
    refine lv_iadd hx hb dJ6_bitCount_0f7a4_46 ?_
    obtain ⟨x0_9, e10, hm⟩ := lt_ok hm
    refine ti_eq e10 ?_
    refine lv_istore_n (lv' := [(0, .int x0_9)]) hx hb dJ6_bitCount_0f7a4_47 rfl hl (by decide) rfl (fun ls hl => ?_)
    refine lv_iload_n hx hb dJ6_bitCount_0f7a4_48 rfl (lv_at hl 0 rfl) ?_
    refine lv_bipush (v := (63 : Int32)) hx hb dJ6_bitCount_0f7a4_49 (by decide) ?_
    refine lv_iand hx hb dJ6_bitCount_0f7a4_51 ?_
    exact rtC_i cx hr hlk hw (pr_some hm) dJ6_bitCount_0f7a4_52
  exact goal0 _ _ hw
theorem cwC_X4_Integer_bitCount_0f7a4 {R : Room} {s : State} {args : Array Value} (h : ∀ w ∈ wA, w.before args s = true) (hR : rmC_Integer_bitCount_0f7a4.frames + 1 ≤ R.frames ∧ 8 + (1 + 11) + rmC_Integer_bitCount_0f7a4.locals ≤ R.locals) : CallB R s args RX4 105 yJ6_bitCount_0f7a4 cJ6_bitCount_0f7a4 1 (some .int) (wz yJ6_bitCount_0f7a4 cJ6_bitCount_0f7a4 1 (some .int)) rmC_Integer_bitCount_0f7a4 0 0 1 ∧ (Cond.static yJ6_bitCount_0f7a4).before args s = true := va_cwS 1 h (gdS k_464 k_465 k_18 k_466) rfl rfl rfl (by decide +kernel) hR
theorem cwC_X7_Integer_bitCount_0f7a4 {R : Room} {s : State} {args : Array Value} (h : ∀ w ∈ wA, w.before args s = true) (hR : rmC_Integer_bitCount_0f7a4.frames + 1 ≤ R.frames ∧ 8 + (1 + 11) + rmC_Integer_bitCount_0f7a4.locals ≤ R.locals) : CallB R s args RX7 19 yJ6_bitCount_0f7a4 cJ6_bitCount_0f7a4 1 (some .int) (wz yJ6_bitCount_0f7a4 cJ6_bitCount_0f7a4 1 (some .int)) rmC_Integer_bitCount_0f7a4 0 0 1 ∧ (Cond.static yJ6_bitCount_0f7a4).before args s = true := va_cwS 1 h (gdS k_506 k_465 k_18 k_466) rfl rfl rfl (by decide +kernel) hR
/-! ChordGrammars$Reader.arrange: writes, loops -/
def C_Reader_arrange_l12 (n : Nat) (k4 : St → Int32 → Int32 → Option St) : Nat → St → Int32 → Int32 → Int32 → Option St
  | 0, _, _, _, _ => none
  | f + 1, σ, x1, x2, x3 =>
    if (σ.1 149 0) ≤ x3 then
      lt (x2 + (1 : Int32)) fun x2_2 =>
      k4 σ x1 x2_2
    else
      if (60 : Int32) ≤ x1 then
        lt (x3 + (1 : Int32)) fun x3_5 =>
        (C_Reader_arrange_l12 n k4 f) σ x1 x2 x3_5
      else
        gd x3 60 <|
        gd (σ.1 144 x3.toNatClampNeg) 26 <|
        bp (C_Integer_bitCount_0f7a4 (σ.1 98 (σ.1 144 x3.toNatClampNeg).toNatClampNeg)) fun r10 =>
        if r10 = x2 then
          gd x1 60 <|
          lt (sI σ 148 x1.toNatClampNeg x3) fun σ15 =>
          lt (x1 + (1 : Int32)) fun x1_17 =>
          lt (x3 + (1 : Int32)) fun x3_19 =>
          (C_Reader_arrange_l12 n k4 f) σ15 x1_17 x2 x3_19
        else
          lt (x3 + (1 : Int32)) fun x3_12 =>
          (C_Reader_arrange_l12 n k4 f) σ x1 x2 x3_12
def C_Reader_arrange_l4 (n : Nat) : Nat → St → Int32 → Int32 → Option St
  | 0, _, _, _ => none
  | f + 1, σ, x1, x2 =>
    if (26 : Int32) ≤ x2 then
      some σ
    else
      C_Reader_arrange_l12 n (C_Reader_arrange_l4 n f) n σ x1 x2 (0 : Int32)
def C_Reader_arrange (n : Nat) (σ0 : St) : Option St :=
  C_Reader_arrange_l4 n n σ0 (0 : Int32) (0 : Int32)
abbrev rmC_Reader_arrange : Room := { frames := 1, cells := 0, slots := 0, locals := 20 }
set_option maxHeartbeats 4000000 in
set_option maxRecDepth 100000 in
theorem cC_Reader_arrange (l : Launch) (E : Ev) (n : Nat) (sz : Nat) (σ0 σ' : St) (hm : C_Reader_arrange n σ0 = some σ') : Met l yX4_arrange (wz yX4_arrange cX4_arrange 4 none) rmC_Reader_arrange (PwC E [.ref (E.2.2 1006)] σ0 sz) (QvC E σ0 σ' sz) 0 0 (va_A (wldC E σ0) sz) := by
  refine enC (own := RX4) (by decide) rfl (Nat.le_of_ble_eq_true rfl) (fun p e s m args below meth c cx hr hlk hml hsz ok hw ls hl => ?_)
  have hx := cx.1
  have hb := cx.2.1
  have hA9 := cx.2.2.2
  have hA : ∀ q, s.heap.size ≤ q → (va_A (wldC E σ0) sz) q := fun q h => Or.inr (by rw [← hsz]; exact h)
  have w_12 : ∀ (k4 : St → Int32 → Int32 → Option St) (hk4 : ∀ (σ : St) (x1 : Int32) (x2 : Int32) (H : Heap) (locs : List Loc) (ls : Array Slot), wsC E σ (va_A (wldC E σ0) sz) s H locs → lv_has ls 4 [(0, .ref (E.2.2 1006)), (1, .int x1), (2, .int x2)] → k4 σ x1 x2 = some σ' → W p l e rmC_Reader_arrange s m args below meth c H locs 0 0 (MQ below (QvC E σ0 σ' sz) args s 0 0 (va_A (wldC E σ0) sz)) (F0 m 4 ls [])), ∀ (f : Nat), ∀ (σ : St) (x1 : Int32) (x2 : Int32) (x3 : Int32) (H : Heap) (locs : List Loc) (ls : Array Slot), wsC E σ (va_A (wldC E σ0) sz) s H locs → lv_has ls 4 [(0, .ref (E.2.2 1006)), (1, .int x1), (2, .int x2), (3, .int x3)] → C_Reader_arrange_l12 n k4 f σ x1 x2 x3 = some σ' → W p l e rmC_Reader_arrange s m args below meth c H locs 0 0 (MQ below (QvC E σ0 σ' sz) args s 0 0 (va_A (wldC E σ0) sz)) (F0 m 12 ls []) := by
    intro k4 hk4
    intro f
    induction f with
    | zero =>
      intro σ x1 x2 x3 H locs ls hw hl hm
      rw [C_Reader_arrange_l12] at hm
      cases hm
    | succ f ih =>
      intro σ x1 x2 x3 H locs ls hw hl hm
      rw [C_Reader_arrange_l12] at hm
      refine lv_iload_n hx hb dX4_arrange_12 rfl (lv_at hl 3 rfl) ?_
      refine lv_aload_n hx hb dX4_arrange_13 rfl (lv_at hl 0 rfl) ?_
      refine gtC_X4_6_0 cx ok hw dX4_arrange_14 ?_
      refine gtC_X4_9_5 cx ok hw dX4_arrange_17 ?_
      refine lv_icmp_ge (tgt := 69) hx hb dX4_arrange_20 (by decide) (fun c1 => ?_) (fun c1 => ?_)
      · have hm := if_t c1 hm
        obtain ⟨x2_2, e3, hm⟩ := lt_ok hm
        refine lv_iinc (v := x2_2) (lv' := [(2, .int x2_2), (0, .ref (E.2.2 1006)), (1, .int x1), (3, .int x3)]) hx hb dX4_arrange_69 hl (k := 2) rfl (by rw [e3]; rfl) (by decide) rfl (fun ls hl => ?_)
        refine lv_goto (tgt := 4) hx hb dX4_arrange_72 (by decide) ?_
        exact hk4 σ x1 x2_2 H locs ls hw (lv_sub hl [1, 2, 0] rfl) hm
      · have hm := if_f c1 hm
        refine lv_iload_n hx hb dX4_arrange_23 rfl (lv_at hl 1 rfl) ?_
        refine lv_bipush (v := (60 : Int32)) hx hb dX4_arrange_24 (by decide) ?_
        refine lv_icmp_ge (tgt := 63) hx hb dX4_arrange_26 (by decide) (fun c4 => ?_) (fun c4 => ?_)
        · have hm := if_t c4 hm
          obtain ⟨x3_5, e6, hm⟩ := lt_ok hm
          refine lv_iinc (v := x3_5) (lv' := [(3, .int x3_5), (0, .ref (E.2.2 1006)), (1, .int x1), (2, .int x2)]) hx hb dX4_arrange_63 hl (k := 3) rfl (by rw [e6]; rfl) (by decide) rfl (fun ls hl => ?_)
          refine lv_goto (tgt := 12) hx hb dX4_arrange_66 (by decide) ?_
          exact ih σ x1 x2 x3_5 H locs ls hw (lv_sub hl [1, 2, 3, 0] rfl) hm
        · have hm := if_f c4 hm
          refine lv_aload_n hx hb dX4_arrange_29 rfl (lv_at hl 0 rfl) ?_
          refine gtC_X4_6_2 cx ok hw dX4_arrange_30 ?_
          refine lv_aload_n hx hb dX4_arrange_33 rfl (lv_at hl 0 rfl) ?_
          refine gtC_X4_6_0 cx ok hw dX4_arrange_34 ?_
          refine gtC_X4_9_0 cx ok hw dX4_arrange_37 ?_
          refine lv_iload_n hx hb dX4_arrange_40 rfl (lv_at hl 3 rfl) ?_
          obtain ⟨g7, hm⟩ := gd_ok hm
          refine ldC_144 cx ok hw g7 dX4_arrange_41 ?_
          obtain ⟨g8, hm⟩ := gd_ok hm
          refine ldC_98 cx ok hw g8 dX4_arrange_42 ?_
          obtain ⟨r10, h9, hm⟩ := bp_ok hm
          refine clS_Ci (As := [.int (σ.1 98 (σ.1 144 x3.toNatClampNeg).toNatClampNeg)]) (rest := []) cx hml hl.1 ok hw hA (cC_Integer_bitCount_0f7a4 l E _ σ (σ.1 98 (σ.1 144 x3.toNatClampNeg).toNatClampNeg) r10 h9) (cwC_X4_Integer_bitCount_0f7a4 hA9 ⟨Nat.le_of_ble_eq_true rfl, Nat.le_of_ble_eq_true rfl⟩) rfl rfl (Nat.le_of_ble_eq_true rfl) dX4_arrange_43 (fun H locs hw => ?_)
          refine lv_iload_n hx hb dX4_arrange_46 rfl (lv_at hl 2 rfl) ?_
          refine lv_icmp_ne (tgt := 63) hx hb dX4_arrange_47 (by decide) (fun c11 => ?_) (fun c11 => ?_)
          · have hm := if_f c11 hm
            obtain ⟨x3_12, e13, hm⟩ := lt_ok hm
            refine lv_iinc (v := x3_12) (lv' := [(3, .int x3_12), (0, .ref (E.2.2 1006)), (1, .int x1), (2, .int x2)]) hx hb dX4_arrange_63 hl (k := 3) rfl (by rw [e13]; rfl) (by decide) rfl (fun ls hl => ?_)
            refine lv_goto (tgt := 12) hx hb dX4_arrange_66 (by decide) ?_
            exact ih σ x1 x2 x3_12 H locs ls hw (lv_sub hl [1, 2, 3, 0] rfl) hm
          · have hm := if_t c11 hm
            refine lv_aload_n hx hb dX4_arrange_50 rfl (lv_at hl 0 rfl) ?_
            refine gtC_X4_6_0 cx ok hw dX4_arrange_51 ?_
            refine gtC_X4_9_4 cx ok hw dX4_arrange_54 ?_
            refine lv_iload_n hx hb dX4_arrange_57 rfl (lv_at hl 1 rfl) ?_
            refine lv_iload_n hx hb dX4_arrange_58 rfl (lv_at hl 3 rfl) ?_
            obtain ⟨g14, hm⟩ := gd_ok hm
            refine stC_148 cx ok hw g14 dX4_arrange_59 (fun H locs hw => ?_)
            obtain ⟨σ15, e16, hm⟩ := lt_ok hm
            have hw := wsC_eq e16 hw
            obtain ⟨x1_17, e18, hm⟩ := lt_ok hm
            refine lv_iinc (v := x1_17) (lv' := [(1, .int x1_17), (0, .ref (E.2.2 1006)), (2, .int x2), (3, .int x3)]) hx hb dX4_arrange_60 hl (k := 1) rfl (by rw [e18]; rfl) (by decide) rfl (fun ls hl => ?_)
            obtain ⟨x3_19, e20, hm⟩ := lt_ok hm
            refine lv_iinc (v := x3_19) (lv' := [(3, .int x3_19), (1, .int x1_17), (0, .ref (E.2.2 1006)), (2, .int x2)]) hx hb dX4_arrange_63 hl (k := 3) rfl (by rw [e20]; rfl) (by decide) rfl (fun ls hl => ?_)
            refine lv_goto (tgt := 12) hx hb dX4_arrange_66 (by decide) ?_
            exact ih σ15 x1_17 x2 x3_19 H locs ls hw (lv_sub hl [2, 1, 3, 0] rfl) hm
  have w_4 : ∀ (f : Nat), ∀ (σ : St) (x1 : Int32) (x2 : Int32) (H : Heap) (locs : List Loc) (ls : Array Slot), wsC E σ (va_A (wldC E σ0) sz) s H locs → lv_has ls 4 [(0, .ref (E.2.2 1006)), (1, .int x1), (2, .int x2)] → C_Reader_arrange_l4 n f σ x1 x2 = some σ' → W p l e rmC_Reader_arrange s m args below meth c H locs 0 0 (MQ below (QvC E σ0 σ' sz) args s 0 0 (va_A (wldC E σ0) sz)) (F0 m 4 ls []) := by
    intro f
    induction f with
    | zero =>
      intro σ x1 x2 H locs ls hw hl hm
      rw [C_Reader_arrange_l4] at hm
      cases hm
    | succ f ih =>
      intro σ x1 x2 H locs ls hw hl hm
      rw [C_Reader_arrange_l4] at hm
      refine lv_iload_n hx hb dX4_arrange_4 rfl (lv_at hl 2 rfl) ?_
      refine lv_bipush (v := (26 : Int32)) hx hb dX4_arrange_5 (by decide) ?_
      refine lv_icmp_ge (tgt := 75) hx hb dX4_arrange_7 (by decide) (fun c1 => ?_) (fun c1 => ?_)
      · have hm := if_t c1 hm
        exact rtC_v cx hr hlk hw hm dX4_arrange_75
      · have hm := if_f c1 hm
        refine lv_iconst (v := (0 : Int32)) hx hb dX4_arrange_10 (by decide) ?_
        refine lv_istore_n (lv' := [(3, .int (0 : Int32)), (0, .ref (E.2.2 1006)), (1, .int x1), (2, .int x2)]) hx hb dX4_arrange_11 rfl hl (by decide) rfl (fun ls hl => ?_)
        exact w_12 (C_Reader_arrange_l4 n f) ih n σ x1 x2 (0 : Int32) H locs ls hw (lv_sub hl [1, 2, 3, 0] rfl) hm
  have hl : lv_has ls 4 [(0, .ref (E.2.2 1006))] := hl
  unfold C_Reader_arrange at hm
  have goal0 : ∀ (H : Heap) (locs : List Loc), wsC E σ0 (va_A (wldC E σ0) sz) s H locs → W p l e rmC_Reader_arrange s m args below meth c H locs 0 0 (MQ below (QvC E σ0 σ' sz) args s 0 0 (va_A (wldC E σ0) sz)) (F0 m 0 ls []) := by
    intro H locs hw
    refine lv_iconst (v := (0 : Int32)) hx hb dX4_arrange_0 (by decide) ?_
    refine lv_istore_n (lv' := [(1, .int (0 : Int32)), (0, .ref (E.2.2 1006))]) hx hb dX4_arrange_1 rfl hl (by decide) rfl (fun ls hl => ?_)
    refine lv_iconst (v := (0 : Int32)) hx hb dX4_arrange_2 (by decide) ?_
    refine lv_istore_n (lv' := [(2, .int (0 : Int32)), (1, .int (0 : Int32)), (0, .ref (E.2.2 1006))]) hx hb dX4_arrange_3 rfl hl (by decide) rfl (fun ls hl => ?_)
    exact w_4 n σ0 (0 : Int32) (0 : Int32) H locs ls hw (lv_sub hl [2, 1, 0] rfl) hm
  exact goal0 _ _ hw
theorem cwC_X4_Reader_arrange {R : Room} {s : State} {args : Array Value} (h : ∀ w ∈ wA, w.before args s = true) (hR : rmC_Reader_arrange.frames + 1 ≤ R.frames ∧ 8 + (4 + 11) + rmC_Reader_arrange.locals ≤ R.locals) : CallW R s args RX4 RX4 47 yX4_arrange cX4_arrange 4 none (wz yX4_arrange cX4_arrange 4 none) rmC_Reader_arrange 0 0 0 := cwV 0 h (gdV k_460 k_462 ks_14 k_7 k_463) rfl rfl rfl (by decide +kernel) hR
/-! ChordGrammars$Reader.isName: reads only -/
def C_Reader_isName (x0 : Int32) : Option Int32 :=
  if x0 < (65 : Int32) then
    some (0 : Int32)
  else
    if (90 : Int32) < x0 then
      some (0 : Int32)
    else
      some (1 : Int32)
abbrev rmC_Reader_isName : Room := { frames := 0, cells := 0, slots := 0, locals := 0 }
set_option maxHeartbeats 4000000 in
set_option maxRecDepth 100000 in
theorem cC_Reader_isName (l : Launch) (E : Ev) (sz : Nat) (σ0 : St) (x0 : Int32) (r : Int32) (hm : C_Reader_isName x0 = some r) : Met l yX4_isName (wz yX4_isName cX4_isName 1 (some .boolean)) rmC_Reader_isName (PwC E [.int x0] σ0 sz) (QiC E σ0 σ0 sz r) 0 0 (va_A (wldC E σ0) sz) := by
  refine enC (own := RX4) (by decide) rfl (Nat.le_of_ble_eq_true rfl) (fun p e s m args below meth c cx hr hlk hml hsz ok hw ls hl => ?_)
  have hx := cx.1
  have hb := cx.2.1
  have hA9 := cx.2.2.2
  have hA : ∀ q, s.heap.size ≤ q → (va_A (wldC E σ0) sz) q := fun q h => Or.inr (by rw [← hsz]; exact h)
  have hl : lv_has ls 1 [(0, .int x0)] := hl
  unfold C_Reader_isName at hm
  have goal0 : ∀ (H : Heap) (locs : List Loc), wsC E σ0 (va_A (wldC E σ0) sz) s H locs → W p l e rmC_Reader_isName s m args below meth c H locs 0 0 (MQ below (QiC E σ0 σ0 sz r) args s 0 0 (va_A (wldC E σ0) sz)) (F0 m 0 ls []) := by
    intro H locs hw
    refine lv_iload_n hx hb dX4_isName_0 rfl (lv_at hl 0 rfl) ?_
    refine lv_bipush (v := (65 : Int32)) hx hb dX4_isName_1 (by decide) ?_
    refine lv_icmp_lt (tgt := 16) hx hb dX4_isName_3 (by decide) (fun c1 => ?_) (fun c1 => ?_)
    · have hm := if_t c1 hm
      refine lv_iconst (v := (0 : Int32)) hx hb dX4_isName_16 (by decide) ?_
      exact rtC_z cx hr hlk hw (by decide) (pr_some hm) dX4_isName_17
    · have hm := if_f c1 hm
      refine lv_iload_n hx hb dX4_isName_6 rfl (lv_at hl 0 rfl) ?_
      refine lv_bipush (v := (90 : Int32)) hx hb dX4_isName_7 (by decide) ?_
      refine lv_icmp_gt (tgt := 16) hx hb dX4_isName_9 (by decide) (fun c2 => ?_) (fun c2 => ?_)
      · have hm := if_t c2 hm
        refine lv_iconst (v := (0 : Int32)) hx hb dX4_isName_16 (by decide) ?_
        exact rtC_z cx hr hlk hw (by decide) (pr_some hm) dX4_isName_17
      · have hm := if_f c2 hm
        refine lv_iconst (v := (1 : Int32)) hx hb dX4_isName_12 (by decide) ?_
        refine lv_goto (tgt := 17) hx hb dX4_isName_13 (by decide) ?_
        exact rtC_z cx hr hlk hw (by decide) (pr_some hm) dX4_isName_17
  exact goal0 _ _ hw
theorem cwC_X4_Reader_isName {R : Room} {s : State} {args : Array Value} (h : ∀ w ∈ wA, w.before args s = true) (hR : rmC_Reader_isName.frames + 1 ≤ R.frames ∧ 8 + (1 + 11) + rmC_Reader_isName.locals ≤ R.locals) : CallB R s args RX4 50 yX4_isName cX4_isName 1 (some .boolean) (wz yX4_isName cX4_isName 1 (some .boolean)) rmC_Reader_isName 0 0 1 ∧ (Cond.static yX4_isName).before args s = true := va_cwS 1 h (gdS k_336 k_337 k_7 k_338) rfl rfl rfl (by decide +kernel) hR
/-! ChordGrammars$Reader.takes: writes -/
def C_Reader_takes (n : Nat) (σ0 : St) (x2 : Int32) : Option (Int32 × St) :=
  bd (C_Reader_nextOctet n σ0) fun r2 σ3 =>
  if r2 = x2 then
    lt (sI σ3 99 0 ((σ3.1 99 0) + (1 : Int32))) fun σ5 =>
    some ((1 : Int32), σ5)
  else
    some ((0 : Int32), σ3)
abbrev rmC_Reader_takes : Room := { frames := 2, cells := 0, slots := 0, locals := 42 }
set_option maxHeartbeats 4000000 in
set_option maxRecDepth 100000 in
theorem cC_Reader_takes (l : Launch) (E : Ev) (n : Nat) (sz : Nat) (σ0 σ' : St) (x2 : Int32) (r : Int32) (hm : C_Reader_takes n σ0 x2 = some (r, σ')) : Met l yX4_takes (wz yX4_takes cX4_takes 4 (some .boolean)) rmC_Reader_takes (PwC E [.ref (E.2.2 1006), .ref (E.2.2 1004), .int x2] σ0 sz) (QiC E σ0 σ' sz r) 0 0 (va_A (wldC E σ0) sz) := by
  refine enC (own := RX4) (by decide) rfl (Nat.le_of_ble_eq_true rfl) (fun p e s m args below meth c cx hr hlk hml hsz ok hw ls hl => ?_)
  have hx := cx.1
  have hb := cx.2.1
  have hA9 := cx.2.2.2
  have hA : ∀ q, s.heap.size ≤ q → (va_A (wldC E σ0) sz) q := fun q h => Or.inr (by rw [← hsz]; exact h)
  have hl : lv_has ls 4 [(0, .ref (E.2.2 1006)), (1, .ref (E.2.2 1004)), (2, .int x2)] := hl
  unfold C_Reader_takes at hm
  have goal0 : ∀ (H : Heap) (locs : List Loc), wsC E σ0 (va_A (wldC E σ0) sz) s H locs → W p l e rmC_Reader_takes s m args below meth c H locs 0 0 (MQ below (QiC E σ0 σ' sz r) args s 0 0 (va_A (wldC E σ0) sz)) (F0 m 0 ls []) := by
    intro H locs hw
    refine lv_aload_n hx hb dX4_takes_0 rfl (lv_at hl 0 rfl) ?_
    refine lv_aload_n hx hb dX4_takes_1 rfl (lv_at hl 1 rfl) ?_
    obtain ⟨r2, σ3, h1, hm⟩ := bd_ok hm
    refine clV_Ci (As := [.ref (E.2.2 1004)]) (rest := []) cx hml hl.1 ok hw hA (rcC_6 ok hw) (cC_Reader_nextOctet l E n _ σ0 σ3 r2 h1) (cwC_X4_Reader_nextOctet hA9 ⟨Nat.le_of_ble_eq_true rfl, Nat.le_of_ble_eq_true rfl⟩) rfl rfl (Nat.le_of_ble_eq_true rfl) dX4_takes_2 (fun H locs hw => ?_)
    refine lv_iload_n hx hb dX4_takes_5 rfl (lv_at hl 2 rfl) ?_
    refine lv_icmp_ne (tgt := 13) hx hb dX4_takes_6 (by decide) (fun c4 => ?_) (fun c4 => ?_)
    · have hm := if_f c4 hm
      refine lv_iconst (v := (0 : Int32)) hx hb dX4_takes_13 (by decide) ?_
      refine lv_istore_n (lv' := [(3, .int (0 : Int32)), (0, .ref (E.2.2 1006)), (1, .ref (E.2.2 1004)), (2, .int x2)]) hx hb dX4_takes_14 rfl hl (by decide) rfl (fun ls hl => ?_)
      refine lv_iload_n hx hb dX4_takes_15 rfl (lv_at hl 0 rfl) ?_
      refine lv_if_eq (tgt := 29) hx hb dX4_takes_16 (by decide) (fun _ => ?_) (fun c => absurd c (by decide))
      refine lv_iload_n hx hb dX4_takes_29 rfl (lv_at hl 0 rfl) ?_
      exact rtC_z cx hr hlk hw (by decide) hm dX4_takes_30
    · have hm := if_t c4 hm
      refine lv_iconst (v := (1 : Int32)) hx hb dX4_takes_9 (by decide) ?_
      refine lv_goto (tgt := 14) hx hb dX4_takes_10 (by decide) ?_
      refine lv_istore_n (lv' := [(3, .int (1 : Int32)), (0, .ref (E.2.2 1006)), (1, .ref (E.2.2 1004)), (2, .int x2)]) hx hb dX4_takes_14 rfl hl (by decide) rfl (fun ls hl => ?_)
      refine lv_iload_n hx hb dX4_takes_15 rfl (lv_at hl 0 rfl) ?_
      refine lv_if_eq (tgt := 29) hx hb dX4_takes_16 (by decide) (fun c => absurd c (by decide)) (fun _ => ?_)
      refine lv_aload_n hx hb dX4_takes_19 rfl (lv_at hl 1 rfl) ?_
      refine lv_dup hx hb dX4_takes_20 rfl ?_
      refine gtC_X4_6_3 cx ok hw dX4_takes_21 ?_
      refine lv_iconst (v := (1 : Int32)) hx hb dX4_takes_24 (by decide) ?_
      refine lv_iadd hx hb dX4_takes_25 ?_
      refine ptC_X4_6_3 cx ok hw dX4_takes_26 (fun H locs hw => ?_)
      obtain ⟨σ5, e6, hm⟩ := lt_ok hm
      have hw := wsC_eq e6 hw
      refine lv_iload_n hx hb dX4_takes_29 rfl (lv_at hl 0 rfl) ?_
      exact rtC_z cx hr hlk hw (by decide) hm dX4_takes_30
  exact goal0 _ _ hw
theorem cwC_X4_Reader_takes {R : Room} {s : State} {args : Array Value} (h : ∀ w ∈ wA, w.before args s = true) (hR : rmC_Reader_takes.frames + 1 ≤ R.frames ∧ 8 + (4 + 11) + rmC_Reader_takes.locals ≤ R.locals) : CallW R s args RX4 RX4 54 yX4_takes cX4_takes 4 (some .boolean) (wz yX4_takes cX4_takes 4 (some .boolean)) rmC_Reader_takes 0 0 2 := cwV 2 h (gdV k_339 k_341 ks_7 k_7 k_342) rfl rfl rfl (by decide +kernel) hR
/-! java/lang/String.isLatin1: reads only -/
def C_String_isLatin1_aae02 : Option Int32 :=
  some (1 : Int32)
abbrev rmC_String_isLatin1_aae02 : Room := { frames := 0, cells := 0, slots := 0, locals := 0 }
set_option maxHeartbeats 4000000 in
set_option maxRecDepth 100000 in
theorem cC_String_isLatin1_aae02 (l : Launch) (E : Ev) (sz : Nat) (σ0 : St) (r : Int32) (hm : C_String_isLatin1_aae02 = some r) : Met l yJ0_isLatin1_aae02 (wz yJ0_isLatin1_aae02 cJ0_isLatin1_aae02 1 (some .boolean)) rmC_String_isLatin1_aae02 (PwC E [.ref (E.2.2 2010)] σ0 sz) (QiC E σ0 σ0 sz r) 0 0 (va_A (wldC E σ0) sz) := by
  refine enC (own := RJ0) (by decide) rfl (Nat.le_of_ble_eq_true rfl) (fun p e s m args below meth c cx hr hlk hml hsz ok hw ls hl => ?_)
  have hx := cx.1
  have hb := cx.2.1
  have hA9 := cx.2.2.2
  have hA : ∀ q, s.heap.size ≤ q → (va_A (wldC E σ0) sz) q := fun q h => Or.inr (by rw [← hsz]; exact h)
  have hl : lv_has ls 1 [(0, .ref (E.2.2 2010))] := hl
  unfold C_String_isLatin1_aae02 at hm
  have goal0 : ∀ (H : Heap) (locs : List Loc), wsC E σ0 (va_A (wldC E σ0) sz) s H locs → W p l e rmC_String_isLatin1_aae02 s m args below meth c H locs 0 0 (MQ below (QiC E σ0 σ0 sz r) args s 0 0 (va_A (wldC E σ0) sz)) (F0 m 0 ls []) := by
    intro H locs hw
    refine gsC_cs cx ok hw dJ0_isLatin1_aae02_0 ?_
    refine lv_if_eq (tgt := 17) hx hb dJ0_isLatin1_aae02_3 (by decide) (fun c => absurd c (by decide)) (fun _ => ?_)
    refine lv_aload_n hx hb dJ0_isLatin1_aae02_6 rfl (lv_at hl 0 rfl) ?_
    refine gtC_strc cx ok hw dJ0_isLatin1_aae02_7 ?_
    refine lv_if_ne (tgt := 17) hx hb dJ0_isLatin1_aae02_10 (by decide) (fun c => absurd c (by decide)) (fun _ => ?_)
    refine lv_iconst (v := (1 : Int32)) hx hb dJ0_isLatin1_aae02_13 (by decide) ?_
    refine lv_goto (tgt := 18) hx hb dJ0_isLatin1_aae02_14 (by decide) ?_
    exact rtC_z cx hr hlk hw (by decide) (pr_some hm) dJ0_isLatin1_aae02_18
  exact goal0 _ _ hw
theorem cwC_J0_String_isLatin1_aae02 {R : Room} {s : State} {args : Array Value} (h : ∀ w ∈ wA, w.before args s = true) (hR : rmC_String_isLatin1_aae02.frames + 1 ≤ R.frames ∧ 8 + (1 + 11) + rmC_String_isLatin1_aae02.locals ≤ R.locals) : CallW R s args RJ0 RJ0 492 yJ0_isLatin1_aae02 cJ0_isLatin1_aae02 1 (some .boolean) (wz yJ0_isLatin1_aae02 cJ0_isLatin1_aae02 1 (some .boolean)) rmC_String_isLatin1_aae02 0 0 0 := cwV 0 h (gdV k_359 k_360 k_361 k_12 k_362) rfl rfl rfl (by decide +kernel) hR
/-! java/lang/String.coder: reads only -/
def C_String_coder_7d493 : Option Int32 :=
  some (0 : Int32)
abbrev rmC_String_coder_7d493 : Room := { frames := 0, cells := 0, slots := 0, locals := 0 }
set_option maxHeartbeats 4000000 in
set_option maxRecDepth 100000 in
theorem cC_String_coder_7d493 (l : Launch) (E : Ev) (sz : Nat) (σ0 : St) (r : Int32) (hm : C_String_coder_7d493 = some r) : Met l yJ0_coder_7d493 (wz yJ0_coder_7d493 cJ0_coder_7d493 1 (some .byte)) rmC_String_coder_7d493 (PwC E [.ref (E.2.2 2010)] σ0 sz) (QiC E σ0 σ0 sz r) 0 0 (va_A (wldC E σ0) sz) := by
  refine enC (own := RJ0) (by decide) rfl (Nat.le_of_ble_eq_true rfl) (fun p e s m args below meth c cx hr hlk hml hsz ok hw ls hl => ?_)
  have hx := cx.1
  have hb := cx.2.1
  have hA9 := cx.2.2.2
  have hA : ∀ q, s.heap.size ≤ q → (va_A (wldC E σ0) sz) q := fun q h => Or.inr (by rw [← hsz]; exact h)
  have hl : lv_has ls 1 [(0, .ref (E.2.2 2010))] := hl
  unfold C_String_coder_7d493 at hm
  have goal0 : ∀ (H : Heap) (locs : List Loc), wsC E σ0 (va_A (wldC E σ0) sz) s H locs → W p l e rmC_String_coder_7d493 s m args below meth c H locs 0 0 (MQ below (QiC E σ0 σ0 sz r) args s 0 0 (va_A (wldC E σ0) sz)) (F0 m 0 ls []) := by
    intro H locs hw
    refine gsC_cs cx ok hw dJ0_coder_7d493_0 ?_
    refine lv_if_eq (tgt := 13) hx hb dJ0_coder_7d493_3 (by decide) (fun c => absurd c (by decide)) (fun _ => ?_)
    refine lv_aload_n hx hb dJ0_coder_7d493_6 rfl (lv_at hl 0 rfl) ?_
    refine gtC_strc cx ok hw dJ0_coder_7d493_7 ?_
    refine lv_goto (tgt := 14) hx hb dJ0_coder_7d493_10 (by decide) ?_
    exact rtC_b cx hr hlk hw (by decide) (pr_some hm) dJ0_coder_7d493_14
  exact goal0 _ _ hw
theorem cwC_J0_String_coder_7d493 {R : Room} {s : State} {args : Array Value} (h : ∀ w ∈ wA, w.before args s = true) (hR : rmC_String_coder_7d493.frames + 1 ≤ R.frames ∧ 8 + (1 + 11) + rmC_String_coder_7d493.locals ≤ R.locals) : CallW R s args RJ0 RJ0 335 yJ0_coder_7d493 cJ0_coder_7d493 1 (some .byte) (wz yJ0_coder_7d493 cJ0_coder_7d493 1 (some .byte)) rmC_String_coder_7d493 0 0 0 := cwV 0 h (gdV k_369 k_370 k_371 k_12 k_372) rfl rfl rfl (by decide +kernel) hR
/-! java/lang/String.length: reads only -/
def C_String_length_8abf5 : Option Int32 :=
  some ((9 : Int32) >>> ((0 : Int32) &&& 31))
abbrev rmC_String_length_8abf5 : Room := { frames := 1, cells := 0, slots := 0, locals := 20 }
set_option maxHeartbeats 4000000 in
set_option maxRecDepth 100000 in
theorem cC_String_length_8abf5 (l : Launch) (E : Ev) (sz : Nat) (σ0 : St) (r : Int32) (hm : C_String_length_8abf5 = some r) : Met l yJ0_length_8abf5 (wz yJ0_length_8abf5 cJ0_length_8abf5 1 (some .int)) rmC_String_length_8abf5 (PwC E [.ref (E.2.2 2010)] σ0 sz) (QiC E σ0 σ0 sz r) 0 0 (va_A (wldC E σ0) sz) := by
  refine enC (own := RJ0) (by decide) rfl (Nat.le_of_ble_eq_true rfl) (fun p e s m args below meth c cx hr hlk hml hsz ok hw ls hl => ?_)
  have hx := cx.1
  have hb := cx.2.1
  have hA9 := cx.2.2.2
  have hA : ∀ q, s.heap.size ≤ q → (va_A (wldC E σ0) sz) q := fun q h => Or.inr (by rw [← hsz]; exact h)
  have hl : lv_has ls 1 [(0, .ref (E.2.2 2010))] := hl
  unfold C_String_length_8abf5 at hm
  have goal0 : ∀ (H : Heap) (locs : List Loc), wsC E σ0 (va_A (wldC E σ0) sz) s H locs → W p l e rmC_String_length_8abf5 s m args below meth c H locs 0 0 (MQ below (QiC E σ0 σ0 sz r) args s 0 0 (va_A (wldC E σ0) sz)) (F0 m 0 ls []) := by
    intro H locs hw
    refine lv_aload_n hx hb dJ0_length_8abf5_0 rfl (lv_at hl 0 rfl) ?_
    refine gtC_strv cx ok hw dJ0_length_8abf5_1 ?_
    refine tnC_sv cx ok hw dJ0_length_8abf5_4 ?_
    refine lv_aload_n hx hb dJ0_length_8abf5_5 rfl (lv_at hl 0 rfl) ?_
    refine clV_Ci (As := []) (rest := [.int (9 : Int32)]) cx hml hl.1 ok hw hA (rcC_str ok hw) (cC_String_coder_7d493 l E _ σ0 (0 : Int32) rfl) (cwC_J0_String_coder_7d493 hA9 ⟨Nat.le_of_ble_eq_true rfl, Nat.le_of_ble_eq_true rfl⟩) rfl rfl (Nat.le_of_ble_eq_true rfl) dJ0_length_8abf5_6 (fun H locs hw => ?_)
    refine lv_ishr hx hb dJ0_length_8abf5_9 ?_
    exact rtC_i cx hr hlk hw (pr_some hm) dJ0_length_8abf5_10
  exact goal0 _ _ hw
theorem cwC_J0_String_length_8abf5 {R : Room} {s : State} {args : Array Value} (h : ∀ w ∈ wA, w.before args s = true) (hR : rmC_String_length_8abf5.frames + 1 ≤ R.frames ∧ 8 + (1 + 11) + rmC_String_length_8abf5.locals ≤ R.locals) : CallW R s args RJ0 RJ0 505 yJ0_length_8abf5 cJ0_length_8abf5 1 (some .int) (wz yJ0_length_8abf5 cJ0_length_8abf5 1 (some .int)) rmC_String_length_8abf5 0 0 0 := cwV 0 h (gdV k_365 k_366 k_367 k_12 k_368) rfl rfl rfl (by decide +kernel) hR
/-! java/lang/StringLatin1.canEncode: reads only -/
def C_StringLatin1_canEncode_9a6ad (x0 : Int32) : Option Int32 :=
  if x0 < 0 then
    some (0 : Int32)
  else
    if (255 : Int32) < x0 then
      some (0 : Int32)
    else
      some (1 : Int32)
abbrev rmC_StringLatin1_canEncode_9a6ad : Room := { frames := 0, cells := 0, slots := 0, locals := 0 }
set_option maxHeartbeats 4000000 in
set_option maxRecDepth 100000 in
theorem cC_StringLatin1_canEncode_9a6ad (l : Launch) (E : Ev) (sz : Nat) (σ0 : St) (x0 : Int32) (r : Int32) (hm : C_StringLatin1_canEncode_9a6ad x0 = some r) : Met l yJ1_canEncode_9a6ad (wz yJ1_canEncode_9a6ad cJ1_canEncode_9a6ad 1 (some .boolean)) rmC_StringLatin1_canEncode_9a6ad (PwC E [.int x0] σ0 sz) (QiC E σ0 σ0 sz r) 0 0 (va_A (wldC E σ0) sz) := by
  refine enC (own := RJ1) (by decide) rfl (Nat.le_of_ble_eq_true rfl) (fun p e s m args below meth c cx hr hlk hml hsz ok hw ls hl => ?_)
  have hx := cx.1
  have hb := cx.2.1
  have hA9 := cx.2.2.2
  have hA : ∀ q, s.heap.size ≤ q → (va_A (wldC E σ0) sz) q := fun q h => Or.inr (by rw [← hsz]; exact h)
  have hl : lv_has ls 1 [(0, .int x0)] := hl
  unfold C_StringLatin1_canEncode_9a6ad at hm
  have goal0 : ∀ (H : Heap) (locs : List Loc), wsC E σ0 (va_A (wldC E σ0) sz) s H locs → W p l e rmC_StringLatin1_canEncode_9a6ad s m args below meth c H locs 0 0 (MQ below (QiC E σ0 σ0 sz r) args s 0 0 (va_A (wldC E σ0) sz)) (F0 m 0 ls []) := by
    intro H locs hw
    refine lv_iload_n hx hb dJ1_canEncode_9a6ad_0 rfl (lv_at hl 0 rfl) ?_
    refine lv_if_lt (tgt := 15) hx hb dJ1_canEncode_9a6ad_1 (by decide) (fun c1 => ?_) (fun c1 => ?_)
    · have hm := if_t c1 hm
      refine lv_iconst (v := (0 : Int32)) hx hb dJ1_canEncode_9a6ad_15 (by decide) ?_
      exact rtC_z cx hr hlk hw (by decide) (pr_some hm) dJ1_canEncode_9a6ad_16
    · have hm := if_f c1 hm
      refine lv_iload_n hx hb dJ1_canEncode_9a6ad_4 rfl (lv_at hl 0 rfl) ?_
      refine lv_sipush (v := (255 : Int32)) hx hb dJ1_canEncode_9a6ad_5 (by decide) ?_
      refine lv_icmp_gt (tgt := 15) hx hb dJ1_canEncode_9a6ad_8 (by decide) (fun c2 => ?_) (fun c2 => ?_)
      · have hm := if_t c2 hm
        refine lv_iconst (v := (0 : Int32)) hx hb dJ1_canEncode_9a6ad_15 (by decide) ?_
        exact rtC_z cx hr hlk hw (by decide) (pr_some hm) dJ1_canEncode_9a6ad_16
      · have hm := if_f c2 hm
        refine lv_iconst (v := (1 : Int32)) hx hb dJ1_canEncode_9a6ad_11 (by decide) ?_
        refine lv_goto (tgt := 16) hx hb dJ1_canEncode_9a6ad_12 (by decide) ?_
        exact rtC_z cx hr hlk hw (by decide) (pr_some hm) dJ1_canEncode_9a6ad_16
  exact goal0 _ _ hw
theorem cwC_J1_StringLatin1_canEncode_9a6ad {R : Room} {s : State} {args : Array Value} (h : ∀ w ∈ wA, w.before args s = true) (hR : rmC_StringLatin1_canEncode_9a6ad.frames + 1 ≤ R.frames ∧ 8 + (1 + 11) + rmC_StringLatin1_canEncode_9a6ad.locals ≤ R.locals) : CallB R s args RJ1 88 yJ1_canEncode_9a6ad cJ1_canEncode_9a6ad 1 (some .boolean) (wz yJ1_canEncode_9a6ad cJ1_canEncode_9a6ad 1 (some .boolean)) rmC_StringLatin1_canEncode_9a6ad 0 0 1 ∧ (Cond.static yJ1_canEncode_9a6ad).before args s = true := va_cwS 1 h (gdS k_376 k_377 k_13 k_378) rfl rfl rfl (by decide +kernel) hR
/-! java/lang/StringLatin1.indexOfChar: reads only, loops -/
def C_StringLatin1_indexOfChar_4cfef_l7 (n : Nat) : Nat → Int32 → Int32 → Int32 → Option Int32
  | 0, _, _, _ => none
  | f + 1, x3, x4, x5 =>
    if x3 ≤ x5 then
      some (-1 : Int32)
    else
      gd x5 9 <|
      if (tKL x5.toNatClampNeg) = x4 then
        some x5
      else
        lt (x5 + (1 : Int32)) fun x5_4 =>
        (C_StringLatin1_indexOfChar_4cfef_l7 n f) x3 x4 x5_4
def C_StringLatin1_indexOfChar_4cfef (n : Nat) (x1 : Int32) (x2 : Int32) (x3 : Int32) : Option Int32 :=
  lt ((x1.toInt8.toInt32)) fun x4_1 =>
  C_StringLatin1_indexOfChar_4cfef_l7 n n x3 x4_1 x2
abbrev rmC_StringLatin1_indexOfChar_4cfef : Room := { frames := 0, cells := 0, slots := 0, locals := 0 }
set_option maxHeartbeats 4000000 in
set_option maxRecDepth 100000 in
theorem cC_StringLatin1_indexOfChar_4cfef (l : Launch) (E : Ev) (n : Nat) (sz : Nat) (σ0 : St) (x1 : Int32) (x2 : Int32) (x3 : Int32) (r : Int32) (hm : C_StringLatin1_indexOfChar_4cfef n x1 x2 x3 = some r) : Met l yJ1_indexOfChar_4cfef (wz yJ1_indexOfChar_4cfef cJ1_indexOfChar_4cfef 6 (some .int)) rmC_StringLatin1_indexOfChar_4cfef (PwC E [.ref (E.2.2 2011), .int x1, .int x2, .int x3] σ0 sz) (QiC E σ0 σ0 sz r) 0 0 (va_A (wldC E σ0) sz) := by
  refine enC (own := RJ1) (by decide) rfl (Nat.le_of_ble_eq_true rfl) (fun p e s m args below meth c cx hr hlk hml hsz ok hw ls hl => ?_)
  have hx := cx.1
  have hb := cx.2.1
  have hA9 := cx.2.2.2
  have hA : ∀ q, s.heap.size ≤ q → (va_A (wldC E σ0) sz) q := fun q h => Or.inr (by rw [← hsz]; exact h)
  have w_7 : ∀ (f : Nat), ∀ (x3 : Int32) (x4 : Int32) (x5 : Int32) (H : Heap) (locs : List Loc) (ls : Array Slot), wsC E σ0 (va_A (wldC E σ0) sz) s H locs → lv_has ls 6 [(0, .ref (E.2.2 2011)), (3, .int x3), (4, .int x4), (5, .int x5)] → C_StringLatin1_indexOfChar_4cfef_l7 n f x3 x4 x5 = some r → W p l e rmC_StringLatin1_indexOfChar_4cfef s m args below meth c H locs 0 0 (MQ below (QiC E σ0 σ0 sz r) args s 0 0 (va_A (wldC E σ0) sz)) (F0 m 7 ls []) := by
    intro f
    induction f with
    | zero =>
      intro x3 x4 x5 H locs ls hw hl hm
      rw [C_StringLatin1_indexOfChar_4cfef_l7] at hm
      cases hm
    | succ f ih =>
      intro x3 x4 x5 H locs ls hw hl hm
      rw [C_StringLatin1_indexOfChar_4cfef_l7] at hm
      refine lv_iload hx hb dJ1_indexOfChar_4cfef_7 (lv_at hl 3 rfl) ?_
      refine lv_iload_n hx hb dJ1_indexOfChar_4cfef_9 rfl (lv_at hl 1 rfl) ?_
      refine lv_icmp_ge (tgt := 31) hx hb dJ1_indexOfChar_4cfef_10 (by decide) (fun c1 => ?_) (fun c1 => ?_)
      · have hm := if_t c1 hm
        refine lv_iconst (v := (-1 : Int32)) hx hb dJ1_indexOfChar_4cfef_31 (by decide) ?_
        exact rtC_i cx hr hlk hw (pr_some hm) dJ1_indexOfChar_4cfef_32
      · have hm := if_f c1 hm
        refine lv_aload_n hx hb dJ1_indexOfChar_4cfef_13 rfl (lv_at hl 0 rfl) ?_
        refine lv_iload hx hb dJ1_indexOfChar_4cfef_14 (lv_at hl 3 rfl) ?_
        obtain ⟨g2, hm⟩ := gd_ok hm
        refine tlC_sv cx ok hw g2 dJ1_indexOfChar_4cfef_16 ?_
        refine lv_iload hx hb dJ1_indexOfChar_4cfef_17 (lv_at hl 2 rfl) ?_
        refine lv_icmp_ne (tgt := 25) hx hb dJ1_indexOfChar_4cfef_19 (by decide) (fun c3 => ?_) (fun c3 => ?_)
        · have hm := if_f c3 hm
          obtain ⟨x5_4, e5, hm⟩ := lt_ok hm
          refine lv_iinc (v := x5_4) (lv' := [(5, .int x5_4), (0, .ref (E.2.2 2011)), (3, .int x3), (4, .int x4)]) hx hb dJ1_indexOfChar_4cfef_25 hl (k := 3) rfl (by rw [e5]; rfl) (by decide) rfl (fun ls hl => ?_)
          refine lv_goto (tgt := 7) hx hb dJ1_indexOfChar_4cfef_28 (by decide) ?_
          exact ih x3 x4 x5_4 H locs ls hw (lv_sub hl [1, 2, 3, 0] rfl) hm
        · have hm := if_t c3 hm
          refine lv_iload hx hb dJ1_indexOfChar_4cfef_22 (lv_at hl 3 rfl) ?_
          exact rtC_i cx hr hlk hw (pr_some hm) dJ1_indexOfChar_4cfef_24
  have hl : lv_has ls 6 [(0, .ref (E.2.2 2011)), (1, .int x1), (2, .int x2), (3, .int x3)] := hl
  unfold C_StringLatin1_indexOfChar_4cfef at hm
  have goal0 : ∀ (H : Heap) (locs : List Loc), wsC E σ0 (va_A (wldC E σ0) sz) s H locs → W p l e rmC_StringLatin1_indexOfChar_4cfef s m args below meth c H locs 0 0 (MQ below (QiC E σ0 σ0 sz r) args s 0 0 (va_A (wldC E σ0) sz)) (F0 m 0 ls []) := by
    intro H locs hw
    refine lv_iload_n hx hb dJ1_indexOfChar_4cfef_0 rfl (lv_at hl 1 rfl) ?_
    refine lv_i2b hx hb dJ1_indexOfChar_4cfef_1 rfl ?_
    obtain ⟨x4_1, e2, hm⟩ := lt_ok hm
    refine ti_eq e2 ?_
    refine lv_istore (lv' := [(4, .int x4_1), (0, .ref (E.2.2 2011)), (1, .int x1), (2, .int x2), (3, .int x3)]) hx hb dJ1_indexOfChar_4cfef_2 hl (by decide) rfl (fun ls hl => ?_)
    refine lv_iload_n hx hb dJ1_indexOfChar_4cfef_4 rfl (lv_at hl 3 rfl) ?_
    refine lv_istore (lv' := [(5, .int x2), (4, .int x4_1), (0, .ref (E.2.2 2011)), (1, .int x1), (2, .int x2), (3, .int x3)]) hx hb dJ1_indexOfChar_4cfef_5 hl (by decide) rfl (fun ls hl => ?_)
    exact w_7 n x3 x4_1 x2 H locs ls hw (lv_sub hl [2, 5, 1, 0] rfl) hm
  exact goal0 _ _ hw
theorem cwC_J1_StringLatin1_indexOfChar_4cfef {R : Room} {s : State} {args : Array Value} (h : ∀ w ∈ wA, w.before args s = true) (hR : rmC_StringLatin1_indexOfChar_4cfef.frames + 1 ≤ R.frames ∧ 8 + (6 + 11) + rmC_StringLatin1_indexOfChar_4cfef.locals ≤ R.locals) : CallB R s args RJ1 95 yJ1_indexOfChar_4cfef cJ1_indexOfChar_4cfef 6 (some .int) (wz yJ1_indexOfChar_4cfef cJ1_indexOfChar_4cfef 6 (some .int)) rmC_StringLatin1_indexOfChar_4cfef 0 0 4 ∧ (Cond.static yJ1_indexOfChar_4cfef).before args s = true := va_cwS 4 h (gdS k_385 k_386 k_13 k_387) rfl rfl rfl (by decide +kernel) hR
/-! java/lang/StringLatin1.indexOf: reads only -/
def C_StringLatin1_indexOf_4cfef (n : Nat) (x1 : Int32) (x2 : Int32) (x3 : Int32) : Option Int32 :=
  bp (C_StringLatin1_canEncode_9a6ad x1) fun r2 =>
  if r2 = 0 then
    some (-1 : Int32)
  else
    lt ((if x2 < (0 : Int32) then (0 : Int32) else x2)) fun x2_4 =>
    lt ((if (9 : Int32) < x3 then (9 : Int32) else x3)) fun x3_6 =>
    if x2_4 < x3_6 then
      bp (C_StringLatin1_indexOfChar_4cfef n x1 x2_4 x3_6) fun r10 =>
      some r10
    else
      some (-1 : Int32)
abbrev rmC_StringLatin1_indexOf_4cfef : Room := { frames := 1, cells := 0, slots := 0, locals := 30 }
set_option maxHeartbeats 4000000 in
set_option maxRecDepth 100000 in
theorem cC_StringLatin1_indexOf_4cfef (l : Launch) (E : Ev) (n : Nat) (sz : Nat) (σ0 : St) (x1 : Int32) (x2 : Int32) (x3 : Int32) (r : Int32) (hm : C_StringLatin1_indexOf_4cfef n x1 x2 x3 = some r) : Met l yJ1_indexOf_4cfef (wz yJ1_indexOf_4cfef cJ1_indexOf_4cfef 4 (some .int)) rmC_StringLatin1_indexOf_4cfef (PwC E [.ref (E.2.2 2011), .int x1, .int x2, .int x3] σ0 sz) (QiC E σ0 σ0 sz r) 0 0 (va_A (wldC E σ0) sz) := by
  refine enC (own := RJ1) (by decide) rfl (Nat.le_of_ble_eq_true rfl) (fun p e s m args below meth c cx hr hlk hml hsz ok hw ls hl => ?_)
  have hx := cx.1
  have hb := cx.2.1
  have hA9 := cx.2.2.2
  have hA : ∀ q, s.heap.size ≤ q → (va_A (wldC E σ0) sz) q := fun q h => Or.inr (by rw [← hsz]; exact h)
  have hl : lv_has ls 4 [(0, .ref (E.2.2 2011)), (1, .int x1), (2, .int x2), (3, .int x3)] := hl
  unfold C_StringLatin1_indexOf_4cfef at hm
  have goal0 : ∀ (H : Heap) (locs : List Loc), wsC E σ0 (va_A (wldC E σ0) sz) s H locs → W p l e rmC_StringLatin1_indexOf_4cfef s m args below meth c H locs 0 0 (MQ below (QiC E σ0 σ0 sz r) args s 0 0 (va_A (wldC E σ0) sz)) (F0 m 0 ls []) := by
    intro H locs hw
    refine lv_iload_n hx hb dJ1_indexOf_4cfef_0 rfl (lv_at hl 1 rfl) ?_
    obtain ⟨r2, h1, hm⟩ := bp_ok hm
    refine clS_Ci (As := [.int x1]) (rest := []) cx hml hl.1 ok hw hA (cC_StringLatin1_canEncode_9a6ad l E _ σ0 x1 r2 h1) (cwC_J1_StringLatin1_canEncode_9a6ad hA9 ⟨Nat.le_of_ble_eq_true rfl, Nat.le_of_ble_eq_true rfl⟩) rfl rfl (Nat.le_of_ble_eq_true rfl) dJ1_indexOf_4cfef_1 (fun H locs hw => ?_)
    refine lv_if_ne (tgt := 9) hx hb dJ1_indexOf_4cfef_4 (by decide) (fun c3 => ?_) (fun c3 => ?_)
    · have hm := if_f c3 hm
      refine lv_iload_n hx hb dJ1_indexOf_4cfef_9 rfl (lv_at hl 2 rfl) ?_
      refine lv_iconst (v := (0 : Int32)) hx hb dJ1_indexOf_4cfef_10 (by decide) ?_
      refine va_mmax hx hb (by rw [hml]; exact hl.1.symm) cx.2.2.1 (hA9 _ k_379) (hA9 _ k_380) (hA9 _ k_14) (hA9 _ k_381) (Nat.le_of_ble_eq_true rfl) (rest := []) (Nat.le_of_ble_eq_true rfl) (Nat.zero_le _) (Nat.zero_le _) dJ1_indexOf_4cfef_11 ?_
      obtain ⟨x2_4, e5, hm⟩ := lt_ok hm
      refine ti_eq e5 ?_
      refine lv_istore_n (lv' := [(2, .int x2_4), (0, .ref (E.2.2 2011)), (1, .int x1), (3, .int x3)]) hx hb dJ1_indexOf_4cfef_14 rfl hl (by decide) rfl (fun ls hl => ?_)
      refine lv_iload_n hx hb dJ1_indexOf_4cfef_15 rfl (lv_at hl 3 rfl) ?_
      refine lv_aload_n hx hb dJ1_indexOf_4cfef_16 rfl (lv_at hl 1 rfl) ?_
      refine tnC_sv cx ok hw dJ1_indexOf_4cfef_17 ?_
      refine va_mmin hx hb (by rw [hml]; exact hl.1.symm) cx.2.2.1 (hA9 _ k_382) (hA9 _ k_383) (hA9 _ k_14) (hA9 _ k_384) (Nat.le_of_ble_eq_true rfl) (rest := []) (Nat.le_of_ble_eq_true rfl) (Nat.zero_le _) (Nat.zero_le _) dJ1_indexOf_4cfef_18 ?_
      obtain ⟨x3_6, e7, hm⟩ := lt_ok hm
      refine ti_eq e7 ?_
      refine lv_istore_n (lv' := [(3, .int x3_6), (2, .int x2_4), (0, .ref (E.2.2 2011)), (1, .int x1)]) hx hb dJ1_indexOf_4cfef_21 rfl hl (by decide) rfl (fun ls hl => ?_)
      refine lv_iload_n hx hb dJ1_indexOf_4cfef_22 rfl (lv_at hl 1 rfl) ?_
      refine lv_iload_n hx hb dJ1_indexOf_4cfef_23 rfl (lv_at hl 0 rfl) ?_
      refine lv_icmp_lt (tgt := 29) hx hb dJ1_indexOf_4cfef_24 (by decide) (fun c8 => ?_) (fun c8 => ?_)
      · have hm := if_t c8 hm
        refine lv_aload_n hx hb dJ1_indexOf_4cfef_29 rfl (lv_at hl 2 rfl) ?_
        refine lv_iload_n hx hb dJ1_indexOf_4cfef_30 rfl (lv_at hl 3 rfl) ?_
        refine lv_iload_n hx hb dJ1_indexOf_4cfef_31 rfl (lv_at hl 1 rfl) ?_
        refine lv_iload_n hx hb dJ1_indexOf_4cfef_32 rfl (lv_at hl 0 rfl) ?_
        obtain ⟨r10, h9, hm⟩ := bp_ok hm
        refine clS_Ci (As := [.ref (E.2.2 2011), .int x1, .int x2_4, .int x3_6]) (rest := []) cx hml hl.1 ok hw hA (cC_StringLatin1_indexOfChar_4cfef l E n _ σ0 x1 x2_4 x3_6 r10 h9) (cwC_J1_StringLatin1_indexOfChar_4cfef hA9 ⟨Nat.le_of_ble_eq_true rfl, Nat.le_of_ble_eq_true rfl⟩) rfl rfl (Nat.le_of_ble_eq_true rfl) dJ1_indexOf_4cfef_33 (fun H locs hw => ?_)
        exact rtC_i cx hr hlk hw (pr_some hm) dJ1_indexOf_4cfef_36
      · have hm := if_f c8 hm
        refine lv_iconst (v := (-1 : Int32)) hx hb dJ1_indexOf_4cfef_27 (by decide) ?_
        exact rtC_i cx hr hlk hw (pr_some hm) dJ1_indexOf_4cfef_28
    · have hm := if_t c3 hm
      refine lv_iconst (v := (-1 : Int32)) hx hb dJ1_indexOf_4cfef_7 (by decide) ?_
      exact rtC_i cx hr hlk hw (pr_some hm) dJ1_indexOf_4cfef_8
  exact goal0 _ _ hw
theorem cwC_J0_StringLatin1_indexOf_4cfef {R : Room} {s : State} {args : Array Value} (h : ∀ w ∈ wA, w.before args s = true) (hR : rmC_StringLatin1_indexOf_4cfef.frames + 1 ≤ R.frames ∧ 8 + (4 + 11) + rmC_StringLatin1_indexOf_4cfef.locals ≤ R.locals) : CallB R s args RJ0 637 yJ1_indexOf_4cfef cJ1_indexOf_4cfef 4 (some .int) (wz yJ1_indexOf_4cfef cJ1_indexOf_4cfef 4 (some .int)) rmC_StringLatin1_indexOf_4cfef 0 0 4 ∧ (Cond.static yJ1_indexOf_4cfef).before args s = true := va_cwS 4 h (gdS k_373 k_374 k_13 k_375) rfl rfl rfl (by decide +kernel) hR

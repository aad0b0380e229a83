/-! ChordGrammars.cadence: writes -/
def C_CG_cadence (n : Nat) (σ0 : St) (x1 : Int32) : Option (Int32 × St) :=
  bp (C_CG_isListed σ0 x1) fun r2 =>
  if r2 = 0 then
    some ((-1 : Int32), σ0)
  else
    bp (C_CG_treeOf n σ0 x1) fun σ5 =>
    bp (C_Tree_degreeAt σ5 ((σ5.1 118 0) - (2 : Int32))) fun r7 =>
    bp (C_Tree_degreeAt σ5 ((σ5.1 118 0) - (1 : Int32))) fun r9 =>
    bp (C_CG_ending r7 r9) fun r11 =>
    some (r11, σ5)
abbrev rmC_CG_cadence : Room := { frames := 5, cells := 0, slots := 0, locals := 123 }
set_option maxHeartbeats 4000000 in
set_option maxRecDepth 100000 in
theorem cC_CG_cadence (l : Launch) (E : Ev) (n : Nat) (sz : Nat) (σ0 σ' : St) (x1 : Int32) (r : Int32) (hm : C_CG_cadence n σ0 x1 = some (r, σ')) : Met l yX9_cadence (wz yX9_cadence cX9_cadence 2 (some .int)) rmC_CG_cadence (PwC E [.ref (E.2.2 1000), .int x1] σ0 sz) (QiC E σ0 σ' sz r) 0 0 (va_A (wldC E σ0) sz) := by
  refine enC (own := RX9) (by decide) rfl (Nat.le_of_ble_eq_true rfl) (fun p e s m args below meth c cx hr hlk hml hsz ok hw ls hl => ?_)
  have hx := cx.1
  have hb := cx.2.1
  have hA9 := cx.2.2.2
  have hA : ∀ q, s.heap.size ≤ q → (va_A (wldC E σ0) sz) q := fun q h => Or.inr (by rw [← hsz]; exact h)
  have hl : lv_has ls 2 [(0, .ref (E.2.2 1000)), (1, .int x1)] := hl
  unfold C_CG_cadence at hm
  have goal0 : ∀ (H : Heap) (locs : List Loc), wsC E σ0 (va_A (wldC E σ0) sz) s H locs → W p l e rmC_CG_cadence s m args below meth c H locs 0 0 (MQ below (QiC E σ0 σ' sz r) args s 0 0 (va_A (wldC E σ0) sz)) (F0 m 0 ls []) := by
    intro H locs hw
    refine lv_aload_n hx hb dX9_cadence_0 rfl (lv_at hl 0 rfl) ?_
    refine lv_iload_n hx hb dX9_cadence_1 rfl (lv_at hl 1 rfl) ?_
    obtain ⟨r2, h1, hm⟩ := bp_ok hm
    refine clV_Ci (As := [.int x1]) (rest := []) cx hml hl.1 ok hw hA (rcC_0 ok hw) (cC_CG_isListed l E _ σ0 x1 r2 h1) (cwC_X9_CG_isListed hA9 ⟨Nat.le_of_ble_eq_true rfl, Nat.le_of_ble_eq_true rfl⟩) rfl rfl (Nat.le_of_ble_eq_true rfl) dX9_cadence_2 (fun H locs hw => ?_)
    refine lv_if_ne (tgt := 10) hx hb dX9_cadence_5 (by decide) (fun c3 => ?_) (fun c3 => ?_)
    · have hm := if_f c3 hm
      refine lv_aload_n hx hb dX9_cadence_10 rfl (lv_at hl 0 rfl) ?_
      refine lv_iload_n hx hb dX9_cadence_11 rfl (lv_at hl 1 rfl) ?_
      obtain ⟨σ5, h4, hm⟩ := bp_ok hm
      refine clV_Cr (As := [.int x1]) (rest := []) cx hml hl.1 ok hw hA (rcC_0 ok hw) (cC_CG_treeOf l E n _ σ0 σ5 x1 h4) (cwC_X9_CG_treeOf hA9 ⟨Nat.le_of_ble_eq_true rfl, Nat.le_of_ble_eq_true rfl⟩) rfl rfl (Nat.le_of_ble_eq_true rfl) dX9_cadence_12 (fun H locs hw => ?_)
      refine lv_pop hx hb dX9_cadence_15 rfl ?_
      refine lv_aload_n hx hb dX9_cadence_16 rfl (lv_at hl 0 rfl) ?_
      refine gtC_X9_0_7 cx ok hw dX9_cadence_17 ?_
      refine lv_aload_n hx hb dX9_cadence_20 rfl (lv_at hl 0 rfl) ?_
      refine gtC_X9_0_6 cx ok hw dX9_cadence_21 ?_
      refine gtC_X9_7_6 cx ok hw dX9_cadence_24 ?_
      refine lv_iconst (v := (2 : Int32)) hx hb dX9_cadence_27 (by decide) ?_
      refine lv_isub hx hb dX9_cadence_28 ?_
      obtain ⟨r7, h6, hm⟩ := bp_ok hm
      refine clVN_Ci (As := [.int ((σ5.1 118 0) - (2 : Int32))]) (rest := []) cx hml hl.1 ok hw hA (rcC_8 ok hw) (cC_Tree_degreeAt l E _ σ5 ((σ5.1 118 0) - (2 : Int32)) r7 h6) (cwC_X9_Tree_degreeAt hA9 ok ⟨Nat.le_of_ble_eq_true rfl, Nat.le_of_ble_eq_true rfl⟩) rfl rfl (Nat.le_of_ble_eq_true rfl) dX9_cadence_29 (fun H locs hw => ?_)
      refine lv_aload_n hx hb dX9_cadence_32 rfl (lv_at hl 0 rfl) ?_
      refine gtC_X9_0_7 cx ok hw dX9_cadence_33 ?_
      refine lv_aload_n hx hb dX9_cadence_36 rfl (lv_at hl 0 rfl) ?_
      refine gtC_X9_0_6 cx ok hw dX9_cadence_37 ?_
      refine gtC_X9_7_6 cx ok hw dX9_cadence_40 ?_
      refine lv_iconst (v := (1 : Int32)) hx hb dX9_cadence_43 (by decide) ?_
      refine lv_isub hx hb dX9_cadence_44 ?_
      obtain ⟨r9, h8, hm⟩ := bp_ok hm
      refine clVN_Ci (As := [.int ((σ5.1 118 0) - (1 : Int32))]) (rest := [.int r7]) cx hml hl.1 ok hw hA (rcC_8 ok hw) (cC_Tree_degreeAt l E _ σ5 ((σ5.1 118 0) - (1 : Int32)) r9 h8) (cwC_X9_Tree_degreeAt hA9 ok ⟨Nat.le_of_ble_eq_true rfl, Nat.le_of_ble_eq_true rfl⟩) rfl rfl (Nat.le_of_ble_eq_true rfl) dX9_cadence_45 (fun H locs hw => ?_)
      obtain ⟨r11, h10, hm⟩ := bp_ok hm
      refine clS_Ci (As := [.int r7, .int r9]) (rest := []) cx hml hl.1 ok hw hA (cC_CG_ending l E _ σ5 r7 r9 r11 h10) (cwC_X9_CG_ending hA9 ⟨Nat.le_of_ble_eq_true rfl, Nat.le_of_ble_eq_true rfl⟩) rfl rfl (Nat.le_of_ble_eq_true rfl) dX9_cadence_48 (fun H locs hw => ?_)
      exact rtC_i cx hr hlk hw hm dX9_cadence_51
    · have hm := if_t c3 hm
      refine lv_iconst (v := (-1 : Int32)) hx hb dX9_cadence_8 (by decide) ?_
      exact rtC_i cx hr hlk hw hm dX9_cadence_9
  exact goal0 _ _ hw
/-! ChordGrammars$Chart.pitchAt: reads only -/
def C_Chart_pitchAt (σ0 : St) (x1 : Int32) : Option Int32 :=
  bp (C_Chart_hasSlot σ0 x1) fun r2 =>
  if r2 = 0 then
    some (-1 : Int32)
  else
    gd x1 24 <|
    some (σ0.1 114 x1.toNatClampNeg)
abbrev rmC_Chart_pitchAt : Room := { frames := 1, cells := 0, slots := 0, locals := 21 }
set_option maxHeartbeats 4000000 in
set_option maxRecDepth 100000 in
theorem cC_Chart_pitchAt (l : Launch) (E : Ev) (sz : Nat) (σ0 : St) (x1 : Int32) (r : Int32) (hm : C_Chart_pitchAt σ0 x1 = some r) : Met l yX0_pitchAt (wz yX0_pitchAt cX0_pitchAt 2 (some .int)) rmC_Chart_pitchAt (PwC E [.ref (E.2.2 1007), .int x1] σ0 sz) (QiC E σ0 σ0 sz r) 0 0 (va_A (wldC E σ0) sz) := by
  refine enC (own := RX0) (by decide) rfl (Nat.le_of_ble_eq_true rfl) (fun p e s m args below meth c cx hr hlk hml hsz ok hw ls hl => ?_)
  have hx := cx.1
  have hb := cx.2.1
  have hA9 := cx.2.2.2
  have hA : ∀ q, s.heap.size ≤ q → (va_A (wldC E σ0) sz) q := fun q h => Or.inr (by rw [← hsz]; exact h)
  have hl : lv_has ls 2 [(0, .ref (E.2.2 1007)), (1, .int x1)] := hl
  unfold C_Chart_pitchAt at hm
  have goal0 : ∀ (H : Heap) (locs : List Loc), wsC E σ0 (va_A (wldC E σ0) sz) s H locs → W p l e rmC_Chart_pitchAt s m args below meth c H locs 0 0 (MQ below (QiC E σ0 σ0 sz r) args s 0 0 (va_A (wldC E σ0) sz)) (F0 m 0 ls []) := by
    intro H locs hw
    refine lv_aload_n hx hb dX0_pitchAt_0 rfl (lv_at hl 0 rfl) ?_
    refine lv_iload_n hx hb dX0_pitchAt_1 rfl (lv_at hl 1 rfl) ?_
    obtain ⟨r2, h1, hm⟩ := bp_ok hm
    refine clV_Ci (As := [.int x1]) (rest := []) cx hml hl.1 ok hw hA (rcC_7 ok hw) (cC_Chart_hasSlot l E _ σ0 x1 r2 h1) (cwC_X0_Chart_hasSlot hA9 ⟨Nat.le_of_ble_eq_true rfl, Nat.le_of_ble_eq_true rfl⟩) rfl rfl (Nat.le_of_ble_eq_true rfl) dX0_pitchAt_2 (fun H locs hw => ?_)
    refine lv_if_eq (tgt := 17) hx hb dX0_pitchAt_5 (by decide) (fun c3 => ?_) (fun c3 => ?_)
    · have hm := if_t c3 hm
      refine lv_iconst (v := (-1 : Int32)) hx hb dX0_pitchAt_17 (by decide) ?_
      exact rtC_i cx hr hlk hw (pr_some hm) dX0_pitchAt_18
    · have hm := if_f c3 hm
      refine lv_aload_n hx hb dX0_pitchAt_8 rfl (lv_at hl 0 rfl) ?_
      refine gtC_X0_7_2 cx ok hw dX0_pitchAt_9 ?_
      refine lv_iload_n hx hb dX0_pitchAt_12 rfl (lv_at hl 1 rfl) ?_
      obtain ⟨g4, hm⟩ := gd_ok hm
      refine ldC_114 cx ok hw g4 dX0_pitchAt_13 ?_
      refine lv_goto (tgt := 18) hx hb dX0_pitchAt_14 (by decide) ?_
      exact rtC_i cx hr hlk hw (pr_some hm) dX0_pitchAt_18
  exact goal0 _ _ hw
theorem cwC_X9_Chart_pitchAt {R : Room} {s : State} {args : Array Value} {E : Ev} {A : Nat → Prop} (h : ∀ w ∈ wA, w.before args s = true) (ok : okC E A s) (hR : rmC_Chart_pitchAt.frames + 1 ≤ R.frames ∧ 8 + (2 + 11) + rmC_Chart_pitchAt.locals ≤ R.locals) : va_CN R s args RX9 172 yX0_pitchAt "ChordGrammars" cX0_pitchAt 2 (some .int) (wz yX0_pitchAt cX0_pitchAt 2 (some .int)) rmC_Chart_pitchAt 0 0 1 ∧ (Cond.instanceMethod yX0_pitchAt).before args s = true ∧ (Cond.selects RX0 yX0_pitchAt yX0_pitchAt).before args s = true := ⟨va_cnB 1 h (gdC k_688) rfl rfl rfl (ok.2.1 _ kn_685) (h _ k_8) (by decide +kernel) hR, h _ k_687, h _ ks_46⟩
/-! ChordGrammars.isLeap: reads only -/
def C_CG_isLeap (x0 : Int32) : Option Int32 :=
  if (2 : Int32) < x0 then
    some (1 : Int32)
  else
    if (-2 : Int32) ≤ x0 then
      some (0 : Int32)
    else
      some (1 : Int32)
abbrev rmC_CG_isLeap : Room := { frames := 0, cells := 0, slots := 0, locals := 0 }
set_option maxHeartbeats 4000000 in
set_option maxRecDepth 100000 in
theorem cC_CG_isLeap (l : Launch) (E : Ev) (sz : Nat) (σ0 : St) (x0 : Int32) (r : Int32) (hm : C_CG_isLeap x0 = some r) : Met l yX9_isLeap (wz yX9_isLeap cX9_isLeap 1 (some .boolean)) rmC_CG_isLeap (PwC E [.int x0] σ0 sz) (QiC E σ0 σ0 sz r) 0 0 (va_A (wldC E σ0) sz) := by
  refine enC (own := RX9) (by decide) rfl (Nat.le_of_ble_eq_true rfl) (fun p e s m args below meth c cx hr hlk hml hsz ok hw ls hl => ?_)
  have hx := cx.1
  have hb := cx.2.1
  have hA9 := cx.2.2.2
  have hA : ∀ q, s.heap.size ≤ q → (va_A (wldC E σ0) sz) q := fun q h => Or.inr (by rw [← hsz]; exact h)
  have hl : lv_has ls 1 [(0, .int x0)] := hl
  unfold C_CG_isLeap at hm
  have goal0 : ∀ (H : Heap) (locs : List Loc), wsC E σ0 (va_A (wldC E σ0) sz) s H locs → W p l e rmC_CG_isLeap s m args below meth c H locs 0 0 (MQ below (QiC E σ0 σ0 sz r) args s 0 0 (va_A (wldC E σ0) sz)) (F0 m 0 ls []) := by
    intro H locs hw
    refine lv_iload_n hx hb dX9_isLeap_0 rfl (lv_at hl 0 rfl) ?_
    refine lv_iconst (v := (2 : Int32)) hx hb dX9_isLeap_1 (by decide) ?_
    refine lv_icmp_gt (tgt := 11) hx hb dX9_isLeap_2 (by decide) (fun c1 => ?_) (fun c1 => ?_)
    · have hm := if_t c1 hm
      refine lv_iconst (v := (1 : Int32)) hx hb dX9_isLeap_11 (by decide) ?_
      refine lv_goto (tgt := 16) hx hb dX9_isLeap_12 (by decide) ?_
      exact rtC_z cx hr hlk hw (by decide) (pr_some hm) dX9_isLeap_16
    · have hm := if_f c1 hm
      refine lv_iload_n hx hb dX9_isLeap_5 rfl (lv_at hl 0 rfl) ?_
      refine lv_bipush (v := (-2 : Int32)) hx hb dX9_isLeap_6 (by decide) ?_
      refine lv_icmp_ge (tgt := 15) hx hb dX9_isLeap_8 (by decide) (fun c2 => ?_) (fun c2 => ?_)
      · have hm := if_t c2 hm
        refine lv_iconst (v := (0 : Int32)) hx hb dX9_isLeap_15 (by decide) ?_
        exact rtC_z cx hr hlk hw (by decide) (pr_some hm) dX9_isLeap_16
      · have hm := if_f c2 hm
        refine lv_iconst (v := (1 : Int32)) hx hb dX9_isLeap_11 (by decide) ?_
        refine lv_goto (tgt := 16) hx hb dX9_isLeap_12 (by decide) ?_
        exact rtC_z cx hr hlk hw (by decide) (pr_some hm) dX9_isLeap_16
  exact goal0 _ _ hw
theorem cwC_X9_CG_isLeap {R : Room} {s : State} {args : Array Value} (h : ∀ w ∈ wA, w.before args s = true) (hR : rmC_CG_isLeap.frames + 1 ≤ R.frames ∧ 8 + (1 + 11) + rmC_CG_isLeap.locals ≤ R.locals) : CallB R s args RX9 205 yX9_isLeap cX9_isLeap 1 (some .boolean) (wz yX9_isLeap cX9_isLeap 1 (some .boolean)) rmC_CG_isLeap 0 0 1 ∧ (Cond.static yX9_isLeap).before args s = true := va_cwS 1 h (gdS k_698 k_699 k_1 k_700) rfl rfl rfl (by decide +kernel) hR
/-! ChordGrammars.isStep: reads only -/
def C_CG_isStep (x0 : Int32) : Option Int32 :=
  if x0 = 0 then
    some (0 : Int32)
  else
    bp (C_CG_isLeap x0) fun r3 =>
    if r3 = 0 then
      some (1 : Int32)
    else
      some (0 : Int32)
abbrev rmC_CG_isStep : Room := { frames := 1, cells := 0, slots := 0, locals := 20 }
set_option maxHeartbeats 4000000 in
set_option maxRecDepth 100000 in
theorem cC_CG_isStep (l : Launch) (E : Ev) (sz : Nat) (σ0 : St) (x0 : Int32) (r : Int32) (hm : C_CG_isStep x0 = some r) : Met l yX9_isStep (wz yX9_isStep cX9_isStep 1 (some .boolean)) rmC_CG_isStep (PwC E [.int x0] σ0 sz) (QiC E σ0 σ0 sz r) 0 0 (va_A (wldC E σ0) sz) := by
  refine enC (own := RX9) (by decide) rfl (Nat.le_of_ble_eq_true rfl) (fun p e s m args below meth c cx hr hlk hml hsz ok hw ls hl => ?_)
  have hx := cx.1
  have hb := cx.2.1
  have hA9 := cx.2.2.2
  have hA : ∀ q, s.heap.size ≤ q → (va_A (wldC E σ0) sz) q := fun q h => Or.inr (by rw [← hsz]; exact h)
  have hl : lv_has ls 1 [(0, .int x0)] := hl
  unfold C_CG_isStep at hm
  have goal0 : ∀ (H : Heap) (locs : List Loc), wsC E σ0 (va_A (wldC E σ0) sz) s H locs → W p l e rmC_CG_isStep s m args below meth c H locs 0 0 (MQ below (QiC E σ0 σ0 sz r) args s 0 0 (va_A (wldC E σ0) sz)) (F0 m 0 ls []) := by
    intro H locs hw
    refine lv_iload_n hx hb dX9_isStep_0 rfl (lv_at hl 0 rfl) ?_
    refine lv_if_eq (tgt := 15) hx hb dX9_isStep_1 (by decide) (fun c1 => ?_) (fun c1 => ?_)
    · have hm := if_t c1 hm
      refine lv_iconst (v := (0 : Int32)) hx hb dX9_isStep_15 (by decide) ?_
      exact rtC_z cx hr hlk hw (by decide) (pr_some hm) dX9_isStep_16
    · have hm := if_f c1 hm
      refine lv_iload_n hx hb dX9_isStep_4 rfl (lv_at hl 0 rfl) ?_
      obtain ⟨r3, h2, hm⟩ := bp_ok hm
      refine clS_Ci (As := [.int x0]) (rest := []) cx hml hl.1 ok hw hA (cC_CG_isLeap l E _ σ0 x0 r3 h2) (cwC_X9_CG_isLeap hA9 ⟨Nat.le_of_ble_eq_true rfl, Nat.le_of_ble_eq_true rfl⟩) rfl rfl (Nat.le_of_ble_eq_true rfl) dX9_isStep_5 (fun H locs hw => ?_)
      refine lv_if_ne (tgt := 15) hx hb dX9_isStep_8 (by decide) (fun c4 => ?_) (fun c4 => ?_)
      · have hm := if_f c4 hm
        refine lv_iconst (v := (0 : Int32)) hx hb dX9_isStep_15 (by decide) ?_
        exact rtC_z cx hr hlk hw (by decide) (pr_some hm) dX9_isStep_16
      · have hm := if_t c4 hm
        refine lv_iconst (v := (1 : Int32)) hx hb dX9_isStep_11 (by decide) ?_
        refine lv_goto (tgt := 16) hx hb dX9_isStep_12 (by decide) ?_
        exact rtC_z cx hr hlk hw (by decide) (pr_some hm) dX9_isStep_16
  exact goal0 _ _ hw
theorem cwC_X9_CG_isStep {R : Room} {s : State} {args : Array Value} (h : ∀ w ∈ wA, w.before args s = true) (hR : rmC_CG_isStep.frames + 1 ≤ R.frames ∧ 8 + (1 + 11) + rmC_CG_isStep.locals ≤ R.locals) : CallB R s args RX9 202 yX9_isStep cX9_isStep 1 (some .boolean) (wz yX9_isStep cX9_isStep 1 (some .boolean)) rmC_CG_isStep 0 0 1 ∧ (Cond.static yX9_isStep).before args s = true := va_cwS 1 h (gdS k_695 k_696 k_1 k_697) rfl rfl rfl (by decide +kernel) hR
/-! ChordGrammars.strangerNote: reads only -/
def C_CG_strangerNote_b141 (x3 : Int32) (x4 : Int32) (x5 : Int32) : Option Int32 :=
  bp (C_CG_isStep x4) fun r2 =>
  if r2 = 0 then
    some (7 : Int32)
  else
    bp (C_CG_isLeap x3) fun r5 =>
    if r5 = 0 then
      some (7 : Int32)
    else
      if x5 = 0 then
        some (7 : Int32)
      else
        some (6 : Int32)
def C_CG_strangerNote_b113 (x3 : Int32) (x4 : Int32) (x5 : Int32) : Option Int32 :=
  if x3 = 0 then
    some (4 : Int32)
  else
    bp (C_CG_isLeap x4) fun r3 =>
    if r3 = 0 then
      C_CG_strangerNote_b141 x3 x4 x5
    else
      bp (C_CG_isStep x3) fun r6 =>
      if r6 = 0 then
        C_CG_strangerNote_b141 x3 x4 x5
      else
        if x5 = 0 then
          C_CG_strangerNote_b141 x3 x4 x5
        else
          some (5 : Int32)
def C_CG_strangerNote_b80 (x0 : Int32) (x2 : Int32) (x3 : Int32) (x4 : Int32) (x5 : Int32) : Option Int32 :=
  bp (C_CG_isStep x4) fun r2 =>
  if r2 = 0 then
    if x4 = 0 then
      bp (C_CG_isStep x3) fun r6 =>
      if r6 = 0 then
        C_CG_strangerNote_b113 x3 x4 x5
      else
        if 0 ≤ x3 then
          C_CG_strangerNote_b113 x3 x4 x5
        else
          some (3 : Int32)
    else
      C_CG_strangerNote_b113 x3 x4 x5
  else
    if x2 = x0 then
      some (2 : Int32)
    else
      if x4 = 0 then
        bp (C_CG_isStep x3) fun r12 =>
        if r12 = 0 then
          C_CG_strangerNote_b113 x3 x4 x5
        else
          if 0 ≤ x3 then
            C_CG_strangerNote_b113 x3 x4 x5
          else
            some (3 : Int32)
      else
        C_CG_strangerNote_b113 x3 x4 x5
def C_CG_strangerNote_b55 (x0 : Int32) (x2 : Int32) (x3 : Int32) (x4 : Int32) : Option Int32 :=
  bp (C_CG_isStep x4) fun r2 =>
  if r2 = 0 then
    C_CG_strangerNote_b80 x0 x2 x3 x4 (0 : Int32)
  else
    bp (C_CG_isStep x3) fun r5 =>
    if r5 = 0 then
      C_CG_strangerNote_b80 x0 x2 x3 x4 (0 : Int32)
    else
      some (1 : Int32)
def C_CG_strangerNote_b51 (x0 : Int32) (x2 : Int32) (x3 : Int32) (x4 : Int32) : Option Int32 :=
  bp (C_CG_isStep x4) fun r2 =>
  if r2 = 0 then
    C_CG_strangerNote_b80 x0 x2 x3 x4 (1 : Int32)
  else
    bp (C_CG_isStep x3) fun r5 =>
    if r5 = 0 then
      C_CG_strangerNote_b80 x0 x2 x3 x4 (1 : Int32)
    else
      C_CG_strangerNote_b80 x0 x2 x3 x4 (1 : Int32)
def C_CG_strangerNote (x0 : Int32) (x1 : Int32) (x2 : Int32) : Option Int32 :=
  if x2 = (-1 : Int32) then
    some (7 : Int32)
  else
    lt ((x2 - x1)) fun x3_2 =>
    if x0 = (-1 : Int32) then
      if x3_2 = 0 then
        some (4 : Int32)
      else
        some (7 : Int32)
    else
      lt ((x1 - x0)) fun x4_5 =>
      if x4_5 ≤ 0 then
        if 0 ≤ x4_5 then
          C_CG_strangerNote_b55 x0 x2 x3_2 x4_5
        else
          if x3_2 ≤ 0 then
            C_CG_strangerNote_b55 x0 x2 x3_2 x4_5
          else
            C_CG_strangerNote_b51 x0 x2 x3_2 x4_5
      else
        if x3_2 < 0 then
          C_CG_strangerNote_b51 x0 x2 x3_2 x4_5
        else
          if 0 ≤ x4_5 then
            C_CG_strangerNote_b55 x0 x2 x3_2 x4_5
          else
            if x3_2 ≤ 0 then
              C_CG_strangerNote_b55 x0 x2 x3_2 x4_5
            else
              C_CG_strangerNote_b51 x0 x2 x3_2 x4_5
abbrev rmC_CG_strangerNote : Room := { frames := 2, cells := 0, slots := 0, locals := 40 }
set_option maxHeartbeats 4000000 in
set_option maxRecDepth 100000 in
theorem cC_CG_strangerNote (l : Launch) (E : Ev) (sz : Nat) (σ0 : St) (x0 : Int32) (x1 : Int32) (x2 : Int32) (r : Int32) (hm : C_CG_strangerNote x0 x1 x2 = some r) : Met l yX9_strangerNote (wz yX9_strangerNote cX9_strangerNote 6 (some .int)) rmC_CG_strangerNote (PwC E [.int x0, .int x1, .int x2] σ0 sz) (QiC E σ0 σ0 sz r) 0 0 (va_A (wldC E σ0) sz) := by
  refine enC (own := RX9) (by decide) rfl (Nat.le_of_ble_eq_true rfl) (fun p e s m args below meth c cx hr hlk hml hsz ok hw ls hl => ?_)
  have hx := cx.1
  have hb := cx.2.1
  have hA9 := cx.2.2.2
  have hA : ∀ q, s.heap.size ≤ q → (va_A (wldC E σ0) sz) q := fun q h => Or.inr (by rw [← hsz]; exact h)
  have w_141 : ∀ (x3 : Int32) (x4 : Int32) (x5 : Int32) (H : Heap) (locs : List Loc) (ls : Array Slot), wsC E σ0 (va_A (wldC E σ0) sz) s H locs → lv_has ls 6 [(3, .int x3), (4, .int x4), (5, .int x5)] → C_CG_strangerNote_b141 x3 x4 x5 = some r → W p l e rmC_CG_strangerNote s m args below meth c H locs 0 0 (MQ below (QiC E σ0 σ0 sz r) args s 0 0 (va_A (wldC E σ0) sz)) (F0 m 141 ls []) := by
    intro x3 x4 x5 H locs ls hw hl hm
    unfold C_CG_strangerNote_b141 at hm
    refine lv_iload hx hb dX9_strangerNote_141 (lv_at hl 1 rfl) ?_
    obtain ⟨r2, h1, hm⟩ := bp_ok hm
    refine clS_Ci (As := [.int x4]) (rest := []) cx hml hl.1 ok hw hA (cC_CG_isStep l E _ σ0 x4 r2 h1) (cwC_X9_CG_isStep hA9 ⟨Nat.le_of_ble_eq_true rfl, Nat.le_of_ble_eq_true rfl⟩) rfl rfl (Nat.le_of_ble_eq_true rfl) dX9_strangerNote_143 (fun H locs hw => ?_)
    refine lv_if_eq (tgt := 166) hx hb dX9_strangerNote_146 (by decide) (fun c3 => ?_) (fun c3 => ?_)
    · have hm := if_t c3 hm
      refine lv_bipush (v := (7 : Int32)) hx hb dX9_strangerNote_166 (by decide) ?_
      exact rtC_i cx hr hlk hw (pr_some hm) dX9_strangerNote_168
    · have hm := if_f c3 hm
      refine lv_iload_n hx hb dX9_strangerNote_149 rfl (lv_at hl 0 rfl) ?_
      obtain ⟨r5, h4, hm⟩ := bp_ok hm
      refine clS_Ci (As := [.int x3]) (rest := []) cx hml hl.1 ok hw hA (cC_CG_isLeap l E _ σ0 x3 r5 h4) (cwC_X9_CG_isLeap hA9 ⟨Nat.le_of_ble_eq_true rfl, Nat.le_of_ble_eq_true rfl⟩) rfl rfl (Nat.le_of_ble_eq_true rfl) dX9_strangerNote_150 (fun H locs hw => ?_)
      refine lv_if_eq (tgt := 166) hx hb dX9_strangerNote_153 (by decide) (fun c6 => ?_) (fun c6 => ?_)
      · have hm := if_t c6 hm
        refine lv_bipush (v := (7 : Int32)) hx hb dX9_strangerNote_166 (by decide) ?_
        exact rtC_i cx hr hlk hw (pr_some hm) dX9_strangerNote_168
      · have hm := if_f c6 hm
        refine lv_iload hx hb dX9_strangerNote_156 (lv_at hl 2 rfl) ?_
        refine lv_if_eq (tgt := 166) hx hb dX9_strangerNote_158 (by decide) (fun c7 => ?_) (fun c7 => ?_)
        · have hm := if_t c7 hm
          refine lv_bipush (v := (7 : Int32)) hx hb dX9_strangerNote_166 (by decide) ?_
          exact rtC_i cx hr hlk hw (pr_some hm) dX9_strangerNote_168
        · have hm := if_f c7 hm
          refine lv_bipush (v := (6 : Int32)) hx hb dX9_strangerNote_161 (by decide) ?_
          refine lv_goto (tgt := 168) hx hb dX9_strangerNote_163 (by decide) ?_
          exact rtC_i cx hr hlk hw (pr_some hm) dX9_strangerNote_168
  have w_113 : ∀ (x3 : Int32) (x4 : Int32) (x5 : Int32) (H : Heap) (locs : List Loc) (ls : Array Slot), wsC E σ0 (va_A (wldC E σ0) sz) s H locs → lv_has ls 6 [(3, .int x3), (4, .int x4), (5, .int x5)] → C_CG_strangerNote_b113 x3 x4 x5 = some r → W p l e rmC_CG_strangerNote s m args below meth c H locs 0 0 (MQ below (QiC E σ0 σ0 sz r) args s 0 0 (va_A (wldC E σ0) sz)) (F0 m 113 ls []) := by
    intro x3 x4 x5 H locs ls hw hl hm
    unfold C_CG_strangerNote_b113 at hm
    refine lv_iload_n hx hb dX9_strangerNote_113 rfl (lv_at hl 0 rfl) ?_
    refine lv_if_ne (tgt := 119) hx hb dX9_strangerNote_114 (by decide) (fun c1 => ?_) (fun c1 => ?_)
    · have hm := if_f c1 hm
      refine lv_iload hx hb dX9_strangerNote_119 (lv_at hl 1 rfl) ?_
      obtain ⟨r3, h2, hm⟩ := bp_ok hm
      refine clS_Ci (As := [.int x4]) (rest := []) cx hml hl.1 ok hw hA (cC_CG_isLeap l E _ σ0 x4 r3 h2) (cwC_X9_CG_isLeap hA9 ⟨Nat.le_of_ble_eq_true rfl, Nat.le_of_ble_eq_true rfl⟩) rfl rfl (Nat.le_of_ble_eq_true rfl) dX9_strangerNote_121 (fun H locs hw => ?_)
      refine lv_if_eq (tgt := 141) hx hb dX9_strangerNote_124 (by decide) (fun c4 => ?_) (fun c4 => ?_)
      · have hm := if_t c4 hm
        exact w_141 x3 x4 x5 H locs ls hw (lv_sub hl [0, 1, 2] rfl) hm
      · have hm := if_f c4 hm
        refine lv_iload_n hx hb dX9_strangerNote_127 rfl (lv_at hl 0 rfl) ?_
        obtain ⟨r6, h5, hm⟩ := bp_ok hm
        refine clS_Ci (As := [.int x3]) (rest := []) cx hml hl.1 ok hw hA (cC_CG_isStep l E _ σ0 x3 r6 h5) (cwC_X9_CG_isStep hA9 ⟨Nat.le_of_ble_eq_true rfl, Nat.le_of_ble_eq_true rfl⟩) rfl rfl (Nat.le_of_ble_eq_true rfl) dX9_strangerNote_128 (fun H locs hw => ?_)
        refine lv_if_eq (tgt := 141) hx hb dX9_strangerNote_131 (by decide) (fun c7 => ?_) (fun c7 => ?_)
        · have hm := if_t c7 hm
          exact w_141 x3 x4 x5 H locs ls hw (lv_sub hl [0, 1, 2] rfl) hm
        · have hm := if_f c7 hm
          refine lv_iload hx hb dX9_strangerNote_134 (lv_at hl 2 rfl) ?_
          refine lv_if_eq (tgt := 141) hx hb dX9_strangerNote_136 (by decide) (fun c8 => ?_) (fun c8 => ?_)
          · have hm := if_t c8 hm
            exact w_141 x3 x4 x5 H locs ls hw (lv_sub hl [0, 1, 2] rfl) hm
          · have hm := if_f c8 hm
            refine lv_iconst (v := (5 : Int32)) hx hb dX9_strangerNote_139 (by decide) ?_
            exact rtC_i cx hr hlk hw (pr_some hm) dX9_strangerNote_140
    · have hm := if_t c1 hm
      refine lv_iconst (v := (4 : Int32)) hx hb dX9_strangerNote_117 (by decide) ?_
      exact rtC_i cx hr hlk hw (pr_some hm) dX9_strangerNote_118
  have w_80 : ∀ (x0 : Int32) (x2 : Int32) (x3 : Int32) (x4 : Int32) (x5 : Int32) (H : Heap) (locs : List Loc) (ls : Array Slot), wsC E σ0 (va_A (wldC E σ0) sz) s H locs → lv_has ls 6 [(0, .int x0), (2, .int x2), (3, .int x3), (4, .int x4), (5, .int x5)] → C_CG_strangerNote_b80 x0 x2 x3 x4 x5 = some r → W p l e rmC_CG_strangerNote s m args below meth c H locs 0 0 (MQ below (QiC E σ0 σ0 sz r) args s 0 0 (va_A (wldC E σ0) sz)) (F0 m 80 ls []) := by
    intro x0 x2 x3 x4 x5 H locs ls hw hl hm
    unfold C_CG_strangerNote_b80 at hm
    refine lv_iload hx hb dX9_strangerNote_80 (lv_at hl 3 rfl) ?_
    obtain ⟨r2, h1, hm⟩ := bp_ok hm
    refine clS_Ci (As := [.int x4]) (rest := []) cx hml hl.1 ok hw hA (cC_CG_isStep l E _ σ0 x4 r2 h1) (cwC_X9_CG_isStep hA9 ⟨Nat.le_of_ble_eq_true rfl, Nat.le_of_ble_eq_true rfl⟩) rfl rfl (Nat.le_of_ble_eq_true rfl) dX9_strangerNote_82 (fun H locs hw => ?_)
    refine lv_if_eq (tgt := 95) hx hb dX9_strangerNote_85 (by decide) (fun c3 => ?_) (fun c3 => ?_)
    · have hm := if_t c3 hm
      refine lv_iload hx hb dX9_strangerNote_95 (lv_at hl 3 rfl) ?_
      refine lv_if_ne (tgt := 113) hx hb dX9_strangerNote_97 (by decide) (fun c4 => ?_) (fun c4 => ?_)
      · have hm := if_f c4 hm
        exact w_113 x3 x4 x5 H locs ls hw (lv_sub hl [2, 3, 4] rfl) hm
      · have hm := if_t c4 hm
        refine lv_iload_n hx hb dX9_strangerNote_100 rfl (lv_at hl 2 rfl) ?_
        obtain ⟨r6, h5, hm⟩ := bp_ok hm
        refine clS_Ci (As := [.int x3]) (rest := []) cx hml hl.1 ok hw hA (cC_CG_isStep l E _ σ0 x3 r6 h5) (cwC_X9_CG_isStep hA9 ⟨Nat.le_of_ble_eq_true rfl, Nat.le_of_ble_eq_true rfl⟩) rfl rfl (Nat.le_of_ble_eq_true rfl) dX9_strangerNote_101 (fun H locs hw => ?_)
        refine lv_if_eq (tgt := 113) hx hb dX9_strangerNote_104 (by decide) (fun c7 => ?_) (fun c7 => ?_)
        · have hm := if_t c7 hm
          exact w_113 x3 x4 x5 H locs ls hw (lv_sub hl [2, 3, 4] rfl) hm
        · have hm := if_f c7 hm
          refine lv_iload_n hx hb dX9_strangerNote_107 rfl (lv_at hl 2 rfl) ?_
          refine lv_if_ge (tgt := 113) hx hb dX9_strangerNote_108 (by decide) (fun c8 => ?_) (fun c8 => ?_)
          · have hm := if_t c8 hm
            exact w_113 x3 x4 x5 H locs ls hw (lv_sub hl [2, 3, 4] rfl) hm
          · have hm := if_f c8 hm
            refine lv_iconst (v := (3 : Int32)) hx hb dX9_strangerNote_111 (by decide) ?_
            exact rtC_i cx hr hlk hw (pr_some hm) dX9_strangerNote_112
    · have hm := if_f c3 hm
      refine lv_iload_n hx hb dX9_strangerNote_88 rfl (lv_at hl 1 rfl) ?_
      refine lv_iload_n hx hb dX9_strangerNote_89 rfl (lv_at hl 0 rfl) ?_
      refine lv_icmp_ne (tgt := 95) hx hb dX9_strangerNote_90 (by decide) (fun c9 => ?_) (fun c9 => ?_)
      · have hm := if_f c9 hm
        refine lv_iload hx hb dX9_strangerNote_95 (lv_at hl 3 rfl) ?_
        refine lv_if_ne (tgt := 113) hx hb dX9_strangerNote_97 (by decide) (fun c10 => ?_) (fun c10 => ?_)
        · have hm := if_f c10 hm
          exact w_113 x3 x4 x5 H locs ls hw (lv_sub hl [2, 3, 4] rfl) hm
        · have hm := if_t c10 hm
          refine lv_iload_n hx hb dX9_strangerNote_100 rfl (lv_at hl 2 rfl) ?_
          obtain ⟨r12, h11, hm⟩ := bp_ok hm
          refine clS_Ci (As := [.int x3]) (rest := []) cx hml hl.1 ok hw hA (cC_CG_isStep l E _ σ0 x3 r12 h11) (cwC_X9_CG_isStep hA9 ⟨Nat.le_of_ble_eq_true rfl, Nat.le_of_ble_eq_true rfl⟩) rfl rfl (Nat.le_of_ble_eq_true rfl) dX9_strangerNote_101 (fun H locs hw => ?_)
          refine lv_if_eq (tgt := 113) hx hb dX9_strangerNote_104 (by decide) (fun c13 => ?_) (fun c13 => ?_)
          · have hm := if_t c13 hm
            exact w_113 x3 x4 x5 H locs ls hw (lv_sub hl [2, 3, 4] rfl) hm
          · have hm := if_f c13 hm
            refine lv_iload_n hx hb dX9_strangerNote_107 rfl (lv_at hl 2 rfl) ?_
            refine lv_if_ge (tgt := 113) hx hb dX9_strangerNote_108 (by decide) (fun c14 => ?_) (fun c14 => ?_)
            · have hm := if_t c14 hm
              exact w_113 x3 x4 x5 H locs ls hw (lv_sub hl [2, 3, 4] rfl) hm
            · have hm := if_f c14 hm
              refine lv_iconst (v := (3 : Int32)) hx hb dX9_strangerNote_111 (by decide) ?_
              exact rtC_i cx hr hlk hw (pr_some hm) dX9_strangerNote_112
      · have hm := if_t c9 hm
        refine lv_iconst (v := (2 : Int32)) hx hb dX9_strangerNote_93 (by decide) ?_
        exact rtC_i cx hr hlk hw (pr_some hm) dX9_strangerNote_94
  have w_55 : ∀ (x0 : Int32) (x2 : Int32) (x3 : Int32) (x4 : Int32) (H : Heap) (locs : List Loc) (ls : Array Slot), wsC E σ0 (va_A (wldC E σ0) sz) s H locs → lv_has ls 6 [(0, .int x0), (2, .int x2), (3, .int x3), (4, .int x4)] → C_CG_strangerNote_b55 x0 x2 x3 x4 = some r → W p l e rmC_CG_strangerNote s m args below meth c H locs 0 0 (MQ below (QiC E σ0 σ0 sz r) args s 0 0 (va_A (wldC E σ0) sz)) (F0 m 55 ls []) := by
    intro x0 x2 x3 x4 H locs ls hw hl hm
    unfold C_CG_strangerNote_b55 at hm
    refine lv_iconst (v := (0 : Int32)) hx hb dX9_strangerNote_55 (by decide) ?_
    refine lv_istore (lv' := [(5, .int (0 : Int32)), (0, .int x0), (2, .int x2), (3, .int x3), (4, .int x4)]) hx hb dX9_strangerNote_56 hl (by decide) rfl (fun ls hl => ?_)
    refine lv_iload hx hb dX9_strangerNote_58 (lv_at hl 4 rfl) ?_
    obtain ⟨r2, h1, hm⟩ := bp_ok hm
    refine clS_Ci (As := [.int x4]) (rest := []) cx hml hl.1 ok hw hA (cC_CG_isStep l E _ σ0 x4 r2 h1) (cwC_X9_CG_isStep hA9 ⟨Nat.le_of_ble_eq_true rfl, Nat.le_of_ble_eq_true rfl⟩) rfl rfl (Nat.le_of_ble_eq_true rfl) dX9_strangerNote_60 (fun H locs hw => ?_)
    refine lv_if_eq (tgt := 80) hx hb dX9_strangerNote_63 (by decide) (fun c3 => ?_) (fun c3 => ?_)
    · have hm := if_t c3 hm
      exact w_80 x0 x2 x3 x4 (0 : Int32) H locs ls hw (lv_sub hl [1, 2, 3, 4, 0] rfl) hm
    · have hm := if_f c3 hm
      refine lv_iload_n hx hb dX9_strangerNote_66 rfl (lv_at hl 3 rfl) ?_
      obtain ⟨r5, h4, hm⟩ := bp_ok hm
      refine clS_Ci (As := [.int x3]) (rest := []) cx hml hl.1 ok hw hA (cC_CG_isStep l E _ σ0 x3 r5 h4) (cwC_X9_CG_isStep hA9 ⟨Nat.le_of_ble_eq_true rfl, Nat.le_of_ble_eq_true rfl⟩) rfl rfl (Nat.le_of_ble_eq_true rfl) dX9_strangerNote_67 (fun H locs hw => ?_)
      refine lv_if_eq (tgt := 80) hx hb dX9_strangerNote_70 (by decide) (fun c6 => ?_) (fun c6 => ?_)
      · have hm := if_t c6 hm
        exact w_80 x0 x2 x3 x4 (0 : Int32) H locs ls hw (lv_sub hl [1, 2, 3, 4, 0] rfl) hm
      · have hm := if_f c6 hm
        refine lv_iload hx hb dX9_strangerNote_73 (lv_at hl 0 rfl) ?_
        refine lv_if_ne (tgt := 80) hx hb dX9_strangerNote_75 (by decide) (fun c => absurd c (by decide)) (fun _ => ?_)
        refine lv_iconst (v := (1 : Int32)) hx hb dX9_strangerNote_78 (by decide) ?_
        exact rtC_i cx hr hlk hw (pr_some hm) dX9_strangerNote_79
  have w_51 : ∀ (x0 : Int32) (x2 : Int32) (x3 : Int32) (x4 : Int32) (H : Heap) (locs : List Loc) (ls : Array Slot), wsC E σ0 (va_A (wldC E σ0) sz) s H locs → lv_has ls 6 [(0, .int x0), (2, .int x2), (3, .int x3), (4, .int x4)] → C_CG_strangerNote_b51 x0 x2 x3 x4 = some r → W p l e rmC_CG_strangerNote s m args below meth c H locs 0 0 (MQ below (QiC E σ0 σ0 sz r) args s 0 0 (va_A (wldC E σ0) sz)) (F0 m 51 ls []) := by
    intro x0 x2 x3 x4 H locs ls hw hl hm
    unfold C_CG_strangerNote_b51 at hm
    refine lv_iconst (v := (1 : Int32)) hx hb dX9_strangerNote_51 (by decide) ?_
    refine lv_goto (tgt := 56) hx hb dX9_strangerNote_52 (by decide) ?_
    refine lv_istore (lv' := [(5, .int (1 : Int32)), (0, .int x0), (2, .int x2), (3, .int x3), (4, .int x4)]) hx hb dX9_strangerNote_56 hl (by decide) rfl (fun ls hl => ?_)
    refine lv_iload hx hb dX9_strangerNote_58 (lv_at hl 4 rfl) ?_
    obtain ⟨r2, h1, hm⟩ := bp_ok hm
    refine clS_Ci (As := [.int x4]) (rest := []) cx hml hl.1 ok hw hA (cC_CG_isStep l E _ σ0 x4 r2 h1) (cwC_X9_CG_isStep hA9 ⟨Nat.le_of_ble_eq_true rfl, Nat.le_of_ble_eq_true rfl⟩) rfl rfl (Nat.le_of_ble_eq_true rfl) dX9_strangerNote_60 (fun H locs hw => ?_)
    refine lv_if_eq (tgt := 80) hx hb dX9_strangerNote_63 (by decide) (fun c3 => ?_) (fun c3 => ?_)
    · have hm := if_t c3 hm
      exact w_80 x0 x2 x3 x4 (1 : Int32) H locs ls hw (lv_sub hl [1, 2, 3, 4, 0] rfl) hm
    · have hm := if_f c3 hm
      refine lv_iload_n hx hb dX9_strangerNote_66 rfl (lv_at hl 3 rfl) ?_
      obtain ⟨r5, h4, hm⟩ := bp_ok hm
      refine clS_Ci (As := [.int x3]) (rest := []) cx hml hl.1 ok hw hA (cC_CG_isStep l E _ σ0 x3 r5 h4) (cwC_X9_CG_isStep hA9 ⟨Nat.le_of_ble_eq_true rfl, Nat.le_of_ble_eq_true rfl⟩) rfl rfl (Nat.le_of_ble_eq_true rfl) dX9_strangerNote_67 (fun H locs hw => ?_)
      refine lv_if_eq (tgt := 80) hx hb dX9_strangerNote_70 (by decide) (fun c6 => ?_) (fun c6 => ?_)
      · have hm := if_t c6 hm
        exact w_80 x0 x2 x3 x4 (1 : Int32) H locs ls hw (lv_sub hl [1, 2, 3, 4, 0] rfl) hm
      · have hm := if_f c6 hm
        refine lv_iload hx hb dX9_strangerNote_73 (lv_at hl 0 rfl) ?_
        refine lv_if_ne (tgt := 80) hx hb dX9_strangerNote_75 (by decide) (fun _ => ?_) (fun c => absurd c (by decide))
        exact w_80 x0 x2 x3 x4 (1 : Int32) H locs ls hw (lv_sub hl [1, 2, 3, 4, 0] rfl) hm
  have hl : lv_has ls 6 [(0, .int x0), (1, .int x1), (2, .int x2)] := hl
  unfold C_CG_strangerNote at hm
  have goal0 : ∀ (H : Heap) (locs : List Loc), wsC E σ0 (va_A (wldC E σ0) sz) s H locs → W p l e rmC_CG_strangerNote s m args below meth c H locs 0 0 (MQ below (QiC E σ0 σ0 sz r) args s 0 0 (va_A (wldC E σ0) sz)) (F0 m 0 ls []) := by
    intro H locs hw
    refine lv_iload_n hx hb dX9_strangerNote_0 rfl (lv_at hl 2 rfl) ?_
    refine lv_iconst (v := (-1 : Int32)) hx hb dX9_strangerNote_1 (by decide) ?_
    refine lv_icmp_ne (tgt := 8) hx hb dX9_strangerNote_2 (by decide) (fun c1 => ?_) (fun c1 => ?_)
    · have hm := if_f c1 hm
      refine lv_iload_n hx hb dX9_strangerNote_8 rfl (lv_at hl 2 rfl) ?_
      refine lv_iload_n hx hb dX9_strangerNote_9 rfl (lv_at hl 1 rfl) ?_
      refine lv_isub hx hb dX9_strangerNote_10 ?_
      obtain ⟨x3_2, e3, hm⟩ := lt_ok hm
      refine ti_eq e3 ?_
      refine lv_istore_n (lv' := [(3, .int x3_2), (0, .int x0), (1, .int x1), (2, .int x2)]) hx hb dX9_strangerNote_11 rfl hl (by decide) rfl (fun ls hl => ?_)
      refine lv_iload_n hx hb dX9_strangerNote_12 rfl (lv_at hl 1 rfl) ?_
      refine lv_iconst (v := (-1 : Int32)) hx hb dX9_strangerNote_13 (by decide) ?_
      refine lv_icmp_ne (tgt := 28) hx hb dX9_strangerNote_14 (by decide) (fun c4 => ?_) (fun c4 => ?_)
      · have hm := if_f c4 hm
        refine lv_iload_n hx hb dX9_strangerNote_28 rfl (lv_at hl 2 rfl) ?_
        refine lv_iload_n hx hb dX9_strangerNote_29 rfl (lv_at hl 1 rfl) ?_
        refine lv_isub hx hb dX9_strangerNote_30 ?_
        obtain ⟨x4_5, e6, hm⟩ := lt_ok hm
        refine ti_eq e6 ?_
        refine lv_istore (lv' := [(4, .int x4_5), (3, .int x3_2), (0, .int x0), (1, .int x1), (2, .int x2)]) hx hb dX9_strangerNote_31 hl (by decide) rfl (fun ls hl => ?_)
        refine lv_iload hx hb dX9_strangerNote_33 (lv_at hl 0 rfl) ?_
        refine lv_if_le (tgt := 42) hx hb dX9_strangerNote_35 (by decide) (fun c7 => ?_) (fun c7 => ?_)
        · have hm := if_t c7 hm
          refine lv_iload hx hb dX9_strangerNote_42 (lv_at hl 0 rfl) ?_
          refine lv_if_ge (tgt := 55) hx hb dX9_strangerNote_44 (by decide) (fun c8 => ?_) (fun c8 => ?_)
          · have hm := if_t c8 hm
            exact w_55 x0 x2 x3_2 x4_5 H locs ls hw (lv_sub hl [2, 4, 1, 0] rfl) hm
          · have hm := if_f c8 hm
            refine lv_iload_n hx hb dX9_strangerNote_47 rfl (lv_at hl 1 rfl) ?_
            refine lv_if_le (tgt := 55) hx hb dX9_strangerNote_48 (by decide) (fun c9 => ?_) (fun c9 => ?_)
            · have hm := if_t c9 hm
              exact w_55 x0 x2 x3_2 x4_5 H locs ls hw (lv_sub hl [2, 4, 1, 0] rfl) hm
            · have hm := if_f c9 hm
              exact w_51 x0 x2 x3_2 x4_5 H locs ls hw (lv_sub hl [2, 4, 1, 0] rfl) hm
        · have hm := if_f c7 hm
          refine lv_iload_n hx hb dX9_strangerNote_38 rfl (lv_at hl 1 rfl) ?_
          refine lv_if_lt (tgt := 51) hx hb dX9_strangerNote_39 (by decide) (fun c10 => ?_) (fun c10 => ?_)
          · have hm := if_t c10 hm
            exact w_51 x0 x2 x3_2 x4_5 H locs ls hw (lv_sub hl [2, 4, 1, 0] rfl) hm
          · have hm := if_f c10 hm
            refine lv_iload hx hb dX9_strangerNote_42 (lv_at hl 0 rfl) ?_
            refine lv_if_ge (tgt := 55) hx hb dX9_strangerNote_44 (by decide) (fun c11 => ?_) (fun c11 => ?_)
            · have hm := if_t c11 hm
              exact w_55 x0 x2 x3_2 x4_5 H locs ls hw (lv_sub hl [2, 4, 1, 0] rfl) hm
            · have hm := if_f c11 hm
              refine lv_iload_n hx hb dX9_strangerNote_47 rfl (lv_at hl 1 rfl) ?_
              refine lv_if_le (tgt := 55) hx hb dX9_strangerNote_48 (by decide) (fun c12 => ?_) (fun c12 => ?_)
              · have hm := if_t c12 hm
                exact w_55 x0 x2 x3_2 x4_5 H locs ls hw (lv_sub hl [2, 4, 1, 0] rfl) hm
              · have hm := if_f c12 hm
                exact w_51 x0 x2 x3_2 x4_5 H locs ls hw (lv_sub hl [2, 4, 1, 0] rfl) hm
      · have hm := if_t c4 hm
        refine lv_iload_n hx hb dX9_strangerNote_17 rfl (lv_at hl 0 rfl) ?_
        refine lv_if_ne (tgt := 25) hx hb dX9_strangerNote_18 (by decide) (fun c13 => ?_) (fun c13 => ?_)
        · have hm := if_f c13 hm
          refine lv_bipush (v := (7 : Int32)) hx hb dX9_strangerNote_25 (by decide) ?_
          exact rtC_i cx hr hlk hw (pr_some hm) dX9_strangerNote_27
        · have hm := if_t c13 hm
          refine lv_iconst (v := (4 : Int32)) hx hb dX9_strangerNote_21 (by decide) ?_
          refine lv_goto (tgt := 27) hx hb dX9_strangerNote_22 (by decide) ?_
          exact rtC_i cx hr hlk hw (pr_some hm) dX9_strangerNote_27
    · have hm := if_t c1 hm
      refine lv_bipush (v := (7 : Int32)) hx hb dX9_strangerNote_5 (by decide) ?_
      exact rtC_i cx hr hlk hw (pr_some hm) dX9_strangerNote_7
  exact goal0 _ _ hw
theorem cwC_X9_CG_strangerNote {R : Room} {s : State} {args : Array Value} (h : ∀ w ∈ wA, w.before args s = true) (hR : rmC_CG_strangerNote.frames + 1 ≤ R.frames ∧ 8 + (6 + 11) + rmC_CG_strangerNote.locals ≤ R.locals) : CallB R s args RX9 181 yX9_strangerNote cX9_strangerNote 6 (some .int) (wz yX9_strangerNote cX9_strangerNote 6 (some .int)) rmC_CG_strangerNote 0 0 3 ∧ (Cond.static yX9_strangerNote).before args s = true := va_cwS 3 h (gdS k_692 k_693 k_1 k_694) rfl rfl rfl (by decide +kernel) hR
/-! ChordGrammars.melody: writes -/
def C_CG_melody (n : Nat) (σ0 : St) (x1 : Int32) (x2 : Int32) : Option (Int32 × St) :=
  bp (C_CG_isListed σ0 x1) fun r2 =>
  if r2 = 0 then
    some ((-1 : Int32), σ0)
  else
    bp (C_Chart_pitchAt σ0 x2) fun r5 =>
    bd (C_CG_chord n σ0 x1 x2) fun r7 σ8 =>
    if r5 = (-1 : Int32) then
      some ((-1 : Int32), σ8)
    else
      if r7 = (-1 : Int32) then
        some ((-1 : Int32), σ8)
      else
        bp (C_CG_chordSet (r7 - r7 / (12 : Int32) * (12 : Int32)) (r7 / (12 : Int32))) fun r12 =>
        if (((r12.toUInt32 >>> ((r5 - r5 / (12 : Int32) * (12 : Int32)).toUInt32 &&& Int32.toUInt32 31)).toInt32) &&& (1 : Int32)) = 0 then
          bp (C_Chart_pitchAt σ8 (x2 - (1 : Int32))) fun r15 =>
          bp (C_Chart_pitchAt σ8 (x2 + (1 : Int32))) fun r17 =>
          bp (C_CG_strangerNote r15 r5 r17) fun r19 =>
          some (r19, σ8)
        else
          some ((0 : Int32), σ8)
abbrev rmC_CG_melody : Room := { frames := 6, cells := 0, slots := 0, locals := 145 }
set_option maxHeartbeats 4000000 in
set_option maxRecDepth 100000 in
theorem cC_CG_melody (l : Launch) (E : Ev) (n : Nat) (sz : Nat) (σ0 σ' : St) (x1 : Int32) (x2 : Int32) (r : Int32) (hm : C_CG_melody n σ0 x1 x2 = some (r, σ')) : Met l yX9_melody (wz yX9_melody cX9_melody 5 (some .int)) rmC_CG_melody (PwC E [.ref (E.2.2 1000), .int x1, .int x2] σ0 sz) (QiC E σ0 σ' sz r) 0 0 (va_A (wldC E σ0) sz) := by
  refine enC (own := RX9) (by decide) rfl (Nat.le_of_ble_eq_true rfl) (fun p e s m args below meth c cx hr hlk hml hsz ok hw ls hl => ?_)
  have hx := cx.1
  have hb := cx.2.1
  have hA9 := cx.2.2.2
  have hA : ∀ q, s.heap.size ≤ q → (va_A (wldC E σ0) sz) q := fun q h => Or.inr (by rw [← hsz]; exact h)
  have hl : lv_has ls 5 [(0, .ref (E.2.2 1000)), (1, .int x1), (2, .int x2)] := hl
  unfold C_CG_melody at hm
  have goal0 : ∀ (H : Heap) (locs : List Loc), wsC E σ0 (va_A (wldC E σ0) sz) s H locs → W p l e rmC_CG_melody s m args below meth c H locs 0 0 (MQ below (QiC E σ0 σ' sz r) args s 0 0 (va_A (wldC E σ0) sz)) (F0 m 0 ls []) := by
    intro H locs hw
    refine lv_aload_n hx hb dX9_melody_0 rfl (lv_at hl 0 rfl) ?_
    refine lv_iload_n hx hb dX9_melody_1 rfl (lv_at hl 1 rfl) ?_
    obtain ⟨r2, h1, hm⟩ := bp_ok hm
    refine clV_Ci (As := [.int x1]) (rest := []) cx hml hl.1 ok hw hA (rcC_0 ok hw) (cC_CG_isListed l E _ σ0 x1 r2 h1) (cwC_X9_CG_isListed hA9 ⟨Nat.le_of_ble_eq_true rfl, Nat.le_of_ble_eq_true rfl⟩) rfl rfl (Nat.le_of_ble_eq_true rfl) dX9_melody_2 (fun H locs hw => ?_)
    refine lv_if_ne (tgt := 10) hx hb dX9_melody_5 (by decide) (fun c3 => ?_) (fun c3 => ?_)
    · have hm := if_f c3 hm
      refine lv_aload_n hx hb dX9_melody_10 rfl (lv_at hl 0 rfl) ?_
      refine gtC_X9_0_6 cx ok hw dX9_melody_11 ?_
      refine lv_iload_n hx hb dX9_melody_14 rfl (lv_at hl 2 rfl) ?_
      obtain ⟨r5, h4, hm⟩ := bp_ok hm
      refine clVN_Ci (As := [.int x2]) (rest := []) cx hml hl.1 ok hw hA (rcC_7 ok hw) (cC_Chart_pitchAt l E _ σ0 x2 r5 h4) (cwC_X9_Chart_pitchAt hA9 ok ⟨Nat.le_of_ble_eq_true rfl, Nat.le_of_ble_eq_true rfl⟩) rfl rfl (Nat.le_of_ble_eq_true rfl) dX9_melody_15 (fun H locs hw => ?_)
      refine lv_istore_n (lv' := [(3, .int r5), (0, .ref (E.2.2 1000)), (1, .int x1), (2, .int x2)]) hx hb dX9_melody_18 rfl hl (by decide) rfl (fun ls hl => ?_)
      refine lv_aload_n hx hb dX9_melody_19 rfl (lv_at hl 1 rfl) ?_
      refine lv_iload_n hx hb dX9_melody_20 rfl (lv_at hl 2 rfl) ?_
      refine lv_iload_n hx hb dX9_melody_21 rfl (lv_at hl 3 rfl) ?_
      obtain ⟨r7, σ8, h6, hm⟩ := bd_ok hm
      refine clV_Ci (As := [.int x1, .int x2]) (rest := []) cx hml hl.1 ok hw hA (rcC_0 ok hw) (cC_CG_chord l E n _ σ0 σ8 x1 x2 r7 h6) (cwC_X9_CG_chord hA9 ⟨Nat.le_of_ble_eq_true rfl, Nat.le_of_ble_eq_true rfl⟩) rfl rfl (Nat.le_of_ble_eq_true rfl) dX9_melody_22 (fun H locs hw => ?_)
      refine lv_istore (lv' := [(4, .int r7), (3, .int r5), (0, .ref (E.2.2 1000)), (1, .int x1), (2, .int x2)]) hx hb dX9_melody_25 hl (by decide) rfl (fun ls hl => ?_)
      refine lv_iload_n hx hb dX9_melody_27 rfl (lv_at hl 1 rfl) ?_
      refine lv_iconst (v := (-1 : Int32)) hx hb dX9_melody_28 (by decide) ?_
      refine lv_icmp_eq (tgt := 38) hx hb dX9_melody_29 (by decide) (fun c9 => ?_) (fun c9 => ?_)
      · have hm := if_t c9 hm
        refine lv_iconst (v := (-1 : Int32)) hx hb dX9_melody_38 (by decide) ?_
        exact rtC_i cx hr hlk hw hm dX9_melody_39
      · have hm := if_f c9 hm
        refine lv_iload hx hb dX9_melody_32 (lv_at hl 0 rfl) ?_
        refine lv_iconst (v := (-1 : Int32)) hx hb dX9_melody_34 (by decide) ?_
        refine lv_icmp_ne (tgt := 40) hx hb dX9_melody_35 (by decide) (fun c10 => ?_) (fun c10 => ?_)
        · have hm := if_f c10 hm
          refine lv_iload hx hb dX9_melody_40 (lv_at hl 0 rfl) ?_
          refine lv_bipush (v := (12 : Int32)) hx hb dX9_melody_42 (by decide) ?_
          refine lv_irem hx hb dX9_melody_44 (by decide) ?_
          refine lv_iload hx hb dX9_melody_45 (lv_at hl 0 rfl) ?_
          refine lv_bipush (v := (12 : Int32)) hx hb dX9_melody_47 (by decide) ?_
          refine lv_idiv hx hb dX9_melody_49 (by decide) ?_
          obtain ⟨r12, h11, hm⟩ := bp_ok hm
          refine clS_Ci (As := [.int (r7 - r7 / (12 : Int32) * (12 : Int32)), .int (r7 / (12 : Int32))]) (rest := []) cx hml hl.1 ok hw hA (cC_CG_chordSet l E _ σ8 (r7 - r7 / (12 : Int32) * (12 : Int32)) (r7 / (12 : Int32)) r12 h11) (cwC_X9_CG_chordSet hA9 ⟨Nat.le_of_ble_eq_true rfl, Nat.le_of_ble_eq_true rfl⟩) rfl rfl (Nat.le_of_ble_eq_true rfl) dX9_melody_50 (fun H locs hw => ?_)
          refine lv_iload_n hx hb dX9_melody_53 rfl (lv_at hl 1 rfl) ?_
          refine lv_bipush (v := (12 : Int32)) hx hb dX9_melody_54 (by decide) ?_
          refine lv_irem hx hb dX9_melody_56 (by decide) ?_
          refine lv_iushr hx hb dX9_melody_57 rfl ?_
          refine lv_iconst (v := (1 : Int32)) hx hb dX9_melody_58 (by decide) ?_
          refine lv_iand hx hb dX9_melody_59 ?_
          refine lv_if_eq (tgt := 65) hx hb dX9_melody_60 (by decide) (fun c13 => ?_) (fun c13 => ?_)
          · have hm := if_t c13 hm
            refine lv_aload_n hx hb dX9_melody_65 rfl (lv_at hl 2 rfl) ?_
            refine gtC_X9_0_6 cx ok hw dX9_melody_66 ?_
            refine lv_iload_n hx hb dX9_melody_69 rfl (lv_at hl 4 rfl) ?_
            refine lv_iconst (v := (1 : Int32)) hx hb dX9_melody_70 (by decide) ?_
            refine lv_isub hx hb dX9_melody_71 ?_
            obtain ⟨r15, h14, hm⟩ := bp_ok hm
            refine clVN_Ci (As := [.int (x2 - (1 : Int32))]) (rest := []) cx hml hl.1 ok hw hA (rcC_7 ok hw) (cC_Chart_pitchAt l E _ σ8 (x2 - (1 : Int32)) r15 h14) (cwC_X9_Chart_pitchAt hA9 ok ⟨Nat.le_of_ble_eq_true rfl, Nat.le_of_ble_eq_true rfl⟩) rfl rfl (Nat.le_of_ble_eq_true rfl) dX9_melody_72 (fun H locs hw => ?_)
            refine lv_iload_n hx hb dX9_melody_75 rfl (lv_at hl 1 rfl) ?_
            refine lv_aload_n hx hb dX9_melody_76 rfl (lv_at hl 2 rfl) ?_
            refine gtC_X9_0_6 cx ok hw dX9_melody_77 ?_
            refine lv_iload_n hx hb dX9_melody_80 rfl (lv_at hl 4 rfl) ?_
            refine lv_iconst (v := (1 : Int32)) hx hb dX9_melody_81 (by decide) ?_
            refine lv_iadd hx hb dX9_melody_82 ?_
            obtain ⟨r17, h16, hm⟩ := bp_ok hm
            refine clVN_Ci (As := [.int (x2 + (1 : Int32))]) (rest := [.int r5, .int r15]) cx hml hl.1 ok hw hA (rcC_7 ok hw) (cC_Chart_pitchAt l E _ σ8 (x2 + (1 : Int32)) r17 h16) (cwC_X9_Chart_pitchAt hA9 ok ⟨Nat.le_of_ble_eq_true rfl, Nat.le_of_ble_eq_true rfl⟩) rfl rfl (Nat.le_of_ble_eq_true rfl) dX9_melody_83 (fun H locs hw => ?_)
            obtain ⟨r19, h18, hm⟩ := bp_ok hm
            refine clS_Ci (As := [.int r15, .int r5, .int r17]) (rest := []) cx hml hl.1 ok hw hA (cC_CG_strangerNote l E _ σ8 r15 r5 r17 r19 h18) (cwC_X9_CG_strangerNote hA9 ⟨Nat.le_of_ble_eq_true rfl, Nat.le_of_ble_eq_true rfl⟩) rfl rfl (Nat.le_of_ble_eq_true rfl) dX9_melody_86 (fun H locs hw => ?_)
            exact rtC_i cx hr hlk hw hm dX9_melody_89
          · have hm := if_f c13 hm
            refine lv_iconst (v := (0 : Int32)) hx hb dX9_melody_63 (by decide) ?_
            exact rtC_i cx hr hlk hw hm dX9_melody_64
        · have hm := if_t c10 hm
          refine lv_iconst (v := (-1 : Int32)) hx hb dX9_melody_38 (by decide) ?_
          exact rtC_i cx hr hlk hw hm dX9_melody_39
    · have hm := if_t c3 hm
      refine lv_iconst (v := (-1 : Int32)) hx hb dX9_melody_8 (by decide) ?_
      exact rtC_i cx hr hlk hw hm dX9_melody_9
  exact goal0 _ _ hw
/-! ChordGrammars.told: reads only -/
def C_CG_told (σ0 : St) (x1 : Int32) : Option Int32 :=
  if x1 = (0 : Int32) then
    some (σ0.1 51 0)
  else
  if x1 = (1 : Int32) then
    some (σ0.1 85 0)
  else
  if x1 = (2 : Int32) then
    some (σ0.1 65 0)
  else
  if x1 = (3 : Int32) then
    bp (C_Chart_listed σ0) fun r6 =>
    some r6
  else
  if x1 = (4 : Int32) then
    some (σ0.1 118 0)
  else
    some (-1 : Int32)
abbrev rmC_CG_told : Room := { frames := 3, cells := 0, slots := 0, locals := 62 }
set_option maxHeartbeats 4000000 in
set_option maxRecDepth 100000 in
theorem cC_CG_told (l : Launch) (E : Ev) (sz : Nat) (σ0 : St) (x1 : Int32) (r : Int32) (hm : C_CG_told σ0 x1 = some r) : Met l yX9_told (wz yX9_told cX9_told 2 (some .int)) rmC_CG_told (PwC E [.ref (E.2.2 1000), .int x1] σ0 sz) (QiC E σ0 σ0 sz r) 0 0 (va_A (wldC E σ0) sz) := by
  refine enC (own := RX9) (by decide) rfl (Nat.le_of_ble_eq_true rfl) (fun p e s m args below meth c cx hr hlk hml hsz ok hw ls hl => ?_)
  have hx := cx.1
  have hb := cx.2.1
  have hA9 := cx.2.2.2
  have hA : ∀ q, s.heap.size ≤ q → (va_A (wldC E σ0) sz) q := fun q h => Or.inr (by rw [← hsz]; exact h)
  have hl : lv_has ls 2 [(0, .ref (E.2.2 1000)), (1, .int x1)] := hl
  unfold C_CG_told at hm
  have goal0 : ∀ (H : Heap) (locs : List Loc), wsC E σ0 (va_A (wldC E σ0) sz) s H locs → W p l e rmC_CG_told s m args below meth c H locs 0 0 (MQ below (QiC E σ0 σ0 sz r) args s 0 0 (va_A (wldC E σ0) sz)) (F0 m 0 ls []) := by
    intro H locs hw
    refine lv_iload_n hx hb dX9_told_0 rfl (lv_at hl 1 rfl) ?_
    by_cases c1 : x1 = (0 : Int32)
    · refine lv_tableIn (tgt := 36) hx hb dX9_told_1 (by rw [c1]; decide) (by rw [c1]; decide) (by rw [c1]; rfl) (by decide) ?_
      have hm := if_t c1 hm
      refine lv_aload_n hx hb dX9_told_36 rfl (lv_at hl 0 rfl) ?_
      refine gtC_X9_0_2 cx ok hw dX9_told_37 ?_
      refine gtC_X9_3_3 cx ok hw dX9_told_40 ?_
      exact rtC_i cx hr hlk hw (pr_some hm) dX9_told_43
    have hm := if_f c1 hm
    by_cases c2 : x1 = (1 : Int32)
    · refine lv_tableIn (tgt := 44) hx hb dX9_told_1 (by rw [c2]; decide) (by rw [c2]; decide) (by rw [c2]; rfl) (by decide) ?_
      have hm := if_t c2 hm
      refine lv_aload_n hx hb dX9_told_44 rfl (lv_at hl 0 rfl) ?_
      refine gtC_X9_0_4 cx ok hw dX9_told_45 ?_
      refine gtC_X9_5_5 cx ok hw dX9_told_48 ?_
      exact rtC_i cx hr hlk hw (pr_some hm) dX9_told_51
    have hm := if_f c2 hm
    by_cases c3 : x1 = (2 : Int32)
    · refine lv_tableIn (tgt := 52) hx hb dX9_told_1 (by rw [c3]; decide) (by rw [c3]; decide) (by rw [c3]; rfl) (by decide) ?_
      have hm := if_t c3 hm
      refine lv_aload_n hx hb dX9_told_52 rfl (lv_at hl 0 rfl) ?_
      refine gtC_X9_0_3 cx ok hw dX9_told_53 ?_
      refine gtC_X9_4_1 cx ok hw dX9_told_56 ?_
      exact rtC_i cx hr hlk hw (pr_some hm) dX9_told_59
    have hm := if_f c3 hm
    by_cases c4 : x1 = (3 : Int32)
    · refine lv_tableIn (tgt := 60) hx hb dX9_told_1 (by rw [c4]; decide) (by rw [c4]; decide) (by rw [c4]; rfl) (by decide) ?_
      have hm := if_t c4 hm
      refine lv_aload_n hx hb dX9_told_60 rfl (lv_at hl 0 rfl) ?_
      refine gtC_X9_0_6 cx ok hw dX9_told_61 ?_
      obtain ⟨r6, h5, hm⟩ := bp_ok hm
      refine clVN_Ci (As := []) (rest := []) cx hml hl.1 ok hw hA (rcC_7 ok hw) (cC_Chart_listed l E _ σ0 r6 h5) (cwC_X9_Chart_listed hA9 ok ⟨Nat.le_of_ble_eq_true rfl, Nat.le_of_ble_eq_true rfl⟩) rfl rfl (Nat.le_of_ble_eq_true rfl) dX9_told_64 (fun H locs hw => ?_)
      exact rtC_i cx hr hlk hw (pr_some hm) dX9_told_67
    have hm := if_f c4 hm
    by_cases c7 : x1 = (4 : Int32)
    · refine lv_tableIn (tgt := 68) hx hb dX9_told_1 (by rw [c7]; decide) (by rw [c7]; decide) (by rw [c7]; rfl) (by decide) ?_
      have hm := if_t c7 hm
      refine lv_aload_n hx hb dX9_told_68 rfl (lv_at hl 0 rfl) ?_
      refine gtC_X9_0_6 cx ok hw dX9_told_69 ?_
      refine gtC_X9_7_6 cx ok hw dX9_told_72 ?_
      exact rtC_i cx hr hlk hw (pr_some hm) dX9_told_75
    have hm := if_f c7 hm
    have c1 := ne_ti c1
    rw [show ((0 : Int32)).toInt = 0 from by decide] at c1
    have c2 := ne_ti c2
    rw [show ((1 : Int32)).toInt = 1 from by decide] at c2
    have c3 := ne_ti c3
    rw [show ((2 : Int32)).toInt = 2 from by decide] at c3
    have c4 := ne_ti c4
    rw [show ((3 : Int32)).toInt = 3 from by decide] at c4
    have c7 := ne_ti c7
    rw [show ((4 : Int32)).toInt = 4 from by decide] at c7
    refine lv_tableOut (tgt := 76) hx hb dX9_told_1 (by omega) (by decide) ?_
    refine lv_iconst (v := (-1 : Int32)) hx hb dX9_told_76 (by decide) ?_
    exact rtC_i cx hr hlk hw (pr_some hm) dX9_told_77
  exact goal0 _ _ hw

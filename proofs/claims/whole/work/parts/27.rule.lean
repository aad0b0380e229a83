/-! one rule -/
noncomputable def cI {α : Type} (P : Prop) (a b : α) : α := @ite α P (Classical.propDecidable P) a b
theorem cI_t {α : Type} {P : Prop} {a b : α} (h : P) : cI P a b = a := if_pos h
theorem cI_f {α : Type} {P : Prop} {a b : α} (h : ¬ P) : cI P a b = b := if_neg h
abbrev rl : Type := Nat × Nat × Nat × Nat × Nat
section
variable (d : Nat) (oc : Nat → Nat)
abbrev at_ (q w : Nat) : Prop := q < d ∧ oc q = w
noncomputable def ru9 (p8 A X Y K L : Nat) : Nat ⊕ rl × Nat := cI (at_ d oc (skp d oc p8) 59) (.inr ((A, X, Y, K, L), skp d oc p8 + 1)) (.inl (skp d oc p8))
noncomputable def ru6 (p6 A X Y L : Nat) : Nat ⊕ rl × Nat :=
  cI (at_ d oc (skp d oc p6) 58) (cI (isF d oc (skp d oc (skp d oc p6 + 1))) (ru9 d oc (figP d oc 3 0 (skp d oc (skp d oc p6 + 1))).2 A X Y (figP d oc 3 0 (skp d oc (skp d oc p6 + 1))).1 L) (.inl (skp d oc (skp d oc p6 + 1)))) (ru9 d oc (skp d oc p6) A X Y 0 L)
noncomputable def ru4 (q4 A X L : Nat) : Nat ⊕ rl × Nat := cI (isN d oc q4 ∨ isD d oc q4) (ru6 d oc (itP d oc q4) A X (itN d oc q4) L) (ru6 d oc q4 A X 96 L)
noncomputable def ru2 (q2 A L : Nat) : Nat ⊕ rl × Nat := cI (isN d oc q2 ∨ isD d oc q2) (ru4 d oc (skp d oc (itP d oc q2)) A (itN d oc q2) L) (.inl q2)
noncomputable def ru1 (q1 A L : Nat) : Nat ⊕ rl × Nat := cI (at_ d oc q1 61) (ru2 d oc (skp d oc (q1 + 1)) A L) (.inl q1)
noncomputable def ruleP (p : Nat) : Nat ⊕ rl × Nat := cI (isN d oc (skp d oc p)) (ru1 d oc (skp d oc (skp d oc p + 1)) (oc (skp d oc p) - 65) (skp d oc p)) (.inl (skp d oc p))
/-- what a rule is worth -/
def okR (L0 : Nat) (o : Nat ⊕ rl × Nat) : Prop := match o with
  | .inl f => f ≤ d
  | .inr (t, p') => p' ≤ d ∧ L0 < p' ∧ t.1 < 26 ∧ t.2.1 < 96 ∧ t.2.2.1 ≤ 96 ∧ t.2.2.2.1 ≤ 999 ∧ t.2.2.2.2 < d
end
def oY (y : Nat) : Int32 := if y = 96 then -1 else nI y
section
variable {d : Nat} {oc : Nat → Nat}
theorem ru9_ok {p8 A X Y K L L0 : Nat} (hp : p8 ≤ d) (h0 : L0 ≤ p8) (h1 : A < 26) (h2 : X < 96) (h3 : Y ≤ 96) (h4 : K ≤ 999) (h5 : L < d) : okR d L0 (ru9 d oc p8 A X Y K L) := by
  unfold ru9
  have := skp_le d oc hp
  have := skp_ge d oc p8
  by_cases h : at_ d oc (skp d oc p8) 59
  · rw [cI_t h]
    have := h.1
    exact ⟨by omega, by omega, h1, h2, h3, h4, h5⟩
  · rw [cI_f h]; show skp d oc p8 ≤ d; omega
theorem ru6_ok {p6 A X Y L L0 : Nat} (hp : p6 ≤ d) (h0 : L0 ≤ p6) (h1 : A < 26) (h2 : X < 96) (h3 : Y ≤ 96) (h5 : L < d) : okR d L0 (ru6 d oc p6 A X Y L) := by
  unfold ru6
  have a1 := skp_le d oc hp
  have a2 := skp_ge d oc p6
  by_cases h : at_ d oc (skp d oc p6) 58
  · rw [cI_t h]
    have a3 := h.1
    have a4 := skp_le d oc (show skp d oc p6 + 1 ≤ d by omega)
    have a5 := skp_ge d oc (skp d oc p6 + 1)
    by_cases hf : isF d oc (skp d oc (skp d oc p6 + 1))
    · rw [cI_t hf]
      have b := figP_bd (d := d) (oc := oc) 3 0 (skp d oc (skp d oc p6 + 1)) a4
      exact ru9_ok b.2.1 (by omega) h1 h2 h3 (by omega) h5
    · rw [cI_f hf]; exact a4
  · rw [cI_f h]; exact ru9_ok a1 (by omega) h1 h2 h3 (by omega) h5
theorem ruleP_ok {p : Nat} (hp : p ≤ d) : okR d p (ruleP d oc p) := by
  unfold ruleP
  have a1 := skp_le d oc hp
  have a2 := skp_ge d oc p
  by_cases h : isN d oc (skp d oc p)
  · rw [cI_t h]
    have a3 := h.1
    have a4 := skp_le d oc (show skp d oc p + 1 ≤ d by omega)
    have a5 := skp_ge d oc (skp d oc p + 1)
    have hA : oc (skp d oc p) - 65 < 26 := by have := h.2; omega
    generalize skp d oc (skp d oc p + 1) = q1 at *
    unfold ru1
    by_cases h1 : at_ d oc q1 61
    · rw [cI_t h1]
      have b3 := h1.1
      have b4 := skp_le d oc (show q1 + 1 ≤ d by omega)
      have b5 := skp_ge d oc (q1 + 1)
      generalize skp d oc (q1 + 1) = q2 at *
      unfold ru2
      by_cases h2 : isN d oc q2 ∨ isD d oc q2
      · rw [cI_t h2]
        have c1 := itP_le h2
        have c2 := itN_lt h2
        have c4 := skp_le d oc c1.1
        have c5 := skp_ge d oc (itP d oc q2)
        generalize skp d oc (itP d oc q2) = q4 at *
        unfold ru4
        by_cases h4 : isN d oc q4 ∨ isD d oc q4
        · rw [cI_t h4]
          have d1 := itP_le h4
          have d2 := itN_lt h4
          exact ru6_ok d1.1 (by omega) hA c2 (by omega) a3
        · rw [cI_f h4]
          exact ru6_ok c4 (by omega) hA c2 (by omega) a3
      · rw [cI_f h2]; exact b4
    · rw [cI_f h1]; exact a4
  · rw [cI_f h]; exact a1
variable {σ : St}
theorem cost_C (hx : TX d oc (σ.1 64) (σ.1 65)) {p q : Nat} (hq : skp d oc p = q) (hp : p ≤ d) (e : σ.1 99 0 = nI p) :
    (¬ at_ d oc q 58 → C_Reader_readCost 2000 σ = some (nI 0, sI σ 99 0 (nI q))) ∧ (at_ d oc q 58 → (isF d oc (skp d oc (q + 1)) → C_Reader_readCost 2000 σ = some (nI (figP d oc 3 0 (skp d oc (q + 1))).1, sI σ 99 0 (nI (figP d oc 3 0 (skp d oc (q + 1))).2))) ∧ (¬ isF d oc (skp d oc (q + 1)) → C_Reader_readCost 2000 σ = some (-1, sI σ 99 0 (nI (skp d oc (q + 1)))))) := by
  have h256 : ∀ i, i < d → oc i < 256 := fun i hi => (hx.2.2 i hi).1
  have hqd : q ≤ d := by rw [← hq]; exact skp_le d oc hp
  have tk := take_C hx (w := 58) (by decide) hp e
  rw [hq] at tk
  have start : C_Reader_readCost 2000 σ = bd (C_Reader_takes 2000 σ (nI 58)) fun r2 σ3 => if r2 = 0 then some ((0 : Int32), σ3) else bd (C_Reader_nextOctet 2000 σ3) fun r6 σ7 => bp (C_Reader_isFigure r6) fun r9 => if r9 = 0 then some ((-1 : Int32), σ7) else C_Reader_readCost_l32 2000 2000 σ7 r6 (0 : Int32) (0 : Int32) := rfl
  rw [start, tk]
  constructor
  · intro h
    rw [if_neg h, bd_some, if_pos rfl]; rfl
  · intro h
    have hlt := h.1
    rw [if_pos h, bd_some, if_neg (by decide), next_C' (σ := sI σ 99 0 (nI (q + 1))) hx (p := q + 1) (by omega) rfl, bd_some, sI_sI]
    have a4 := skp_le d oc (show q + 1 ≤ d by omega)
    have rF : (¬ oct d oc (skp d oc (q + 1)) < (48 : Int32) ∧ ¬ (57 : Int32) < oct d oc (skp d oc (q + 1))) ↔ (skp d oc (q + 1) < d ∧ 48 ≤ oc (skp d oc (q + 1)) ∧ oc (skp d oc (q + 1)) ≤ 57) := oct_rng h256 48 57 (by decide) (by decide)
    constructor
    · intro hf
      have eF : C_Reader_isFigure (oct d oc (skp d oc (q + 1))) = some 1 := by
        unfold C_Reader_isFigure
        rw [if_neg (rF.mpr hf).1, if_neg (rF.mpr hf).2]
      rw [eF, bp_some, if_neg (by decide)]
      have := figs_C (d := d) (oc := oc) 3 2000 0 (skp d oc (q + 1)) (sI σ 99 0 (nI (skp d oc (q + 1)))) hx (by decide) (by decide) a4 rfl
      rw [sI_sI] at this
      exact this
    · intro hf
      have eF : C_Reader_isFigure (oct d oc (skp d oc (q + 1))) = some 0 := by
        unfold C_Reader_isFigure
        by_cases h1 : oct d oc (skp d oc (q + 1)) < (48 : Int32)
        · rw [if_pos h1]
        · rw [if_neg h1, if_pos (show (57 : Int32) < oct d oc (skp d oc (q + 1)) from Classical.byContradiction fun z => hf (rF.mp ⟨h1, z⟩))]
      rw [eF, bp_some, if_pos rfl]
/-- the state behind a rule that was read -/
def rsC (σ : St) (nr : Nat) (t : rl) (p' : Nat) : St := sI (sI (sI (sI (sI (sI (sI σ 99 0 (nI p')) 144 nr (nI t.1)) 145 nr (nI t.2.1)) 146 nr (oY t.2.2.1)) 147 nr (nI t.2.2.2.1)) 97 nr (nI t.2.2.2.2)) 149 0 (nI (nr + 1))
def outC (σ : St) (nr : Nat) (o : Nat ⊕ rl × Nat) : Option (Int32 × St) := match o with
  | .inl f => some (0, sI σ 99 0 (nI f))
  | .inr (t, p') => some (1, rsC σ nr t p')
theorem rule_C (hx : TX d oc (σ.1 64) (σ.1 65)) {p nr : Nat} (hp : p ≤ d) (e : σ.1 99 0 = nI p) (hr : σ.1 149 0 = nI nr) (hnr : nr < 60) : C_Reader_readRule 2000 σ = outC σ nr (ruleP d oc p) := by
  have h256 : ∀ i, i < d → oc i < 256 := fun i hi => (hx.2.2 i hi).1
  have hd := hx.1
  have a1 := skp_le d oc hp
  have rN : (¬ oct d oc (skp d oc p) < (65 : Int32) ∧ ¬ (90 : Int32) < oct d oc (skp d oc p)) ↔ (skp d oc p < d ∧ 65 ≤ oc (skp d oc p) ∧ oc (skp d oc p) ≤ 90) := oct_rng h256 65 90 (by decide) (by decide)
  unfold C_Reader_readRule ruleP
  rw [next_C' hx hp e, bd_some, lt_is, isName_C (P := isN d oc (skp d oc p)) rN.symm, bp_some]
  generalize hq0 : skp d oc p = q0 at *
  have s99 : ∀ v, (sI σ 99 0 v).1 99 0 = v := fun v => rfl
  have s149 : ∀ v, (sI σ 99 0 v).1 149 0 = nI nr := fun v => hr
  by_cases h : isN d oc q0
  · have hlt := h.1
    have ho : oct d oc q0 = nI (oc q0) := if_pos h.1
    rw [if_pos h, if_neg (by decide), s149, if_pos (show nI nr < (60 : Int32) from nlt nr (by omega) (by decide)), lt_is, s99, sI_sI, nI_1, cI_t h]
    have tk := take_C (σ := sI σ 99 0 (nI (q0 + 1))) hx (w := 61) (p := q0 + 1) (by decide) (by omega) rfl
    rw [sI_sI, sI_sI] at tk
    rw [show (61 : Int32) = nI 61 from rfl, tk]
    have a4 := skp_le d oc (show q0 + 1 ≤ d by omega)
    generalize hq1 : skp d oc (q0 + 1) = q1 at *
    unfold ru1
    by_cases h1 : at_ d oc q1 61
    · have hl1 := h1.1
      rw [if_pos h1, bd_some, if_neg (by decide), cI_t h1]
      have b4 := skp_le d oc (show q1 + 1 ≤ d by omega)
      have it1 := item_C (σ := sI σ 99 0 (nI (q1 + 1))) hx (p := q1 + 1) rfl (by omega) rfl
      rw [sI_sI, sI_sI] at it1
      generalize hq2 : skp d oc (q1 + 1) = q2 at *
      unfold ru2
      by_cases h2 : isN d oc q2 ∨ isD d oc q2
      · have c1 := itP_le h2
        have c2 := itN_lt h2
        rw [it1.1 h2, bd_some, if_neg (nI_nm1 (by omega)), cI_t h2]
        have c4 := skp_le d oc c1.1
        have it2 := item_C (σ := sI σ 99 0 (nI (itP d oc q2))) hx (p := itP d oc q2) rfl c1.1 rfl
        rw [sI_sI, sI_sI] at it2
        generalize hq4 : skp d oc (itP d oc q2) = q4 at *
        -- from the cost on
        have fin : ∀ (p6 Y : Nat), p6 ≤ d → Y ≤ 96 → (bd (C_Reader_readCost 2000 (sI σ 99 0 (nI p6))) fun r24 σ25 => if r24 = (-1 : Int32) then some ((0 : Int32), σ25) else bd (C_Reader_takes 2000 σ25 (59 : Int32)) fun r28 σ29 => if r28 = 0 then some ((0 : Int32), σ29) else lt ((σ29.1 149 0)) fun x7_31 => gd x7_31 60 <| lt (sI σ29 144 x7_31.toNatClampNeg (oct d oc q0 - (65 : Int32))) fun σ34 => gd x7_31 60 <| lt (sI σ34 145 x7_31.toNatClampNeg (nI (itN d oc q2))) fun σ37 => gd x7_31 60 <| lt (sI σ37 146 x7_31.toNatClampNeg (oY Y)) fun σ40 => gd x7_31 60 <| lt (sI σ40 147 x7_31.toNatClampNeg r24) fun σ43 => gd x7_31 60 <| lt (sI σ43 97 x7_31.toNatClampNeg (nI q0)) fun σ46 => lt (sI σ46 149 0 (x7_31 + (1 : Int32))) fun σ48 => some ((1 : Int32), σ48)) = outC σ nr (ru6 d oc p6 (oc q0 - 65) (itN d oc q2) Y q0) := by
          intro p6 Y hp6 hY
          have cc := cost_C (σ := sI σ 99 0 (nI p6)) hx (p := p6) rfl hp6 rfl
          simp only [sI_sI] at cc
          have e6 := skp_le d oc hp6
          have last : ∀ (p8 K : Nat), p8 ≤ d → K ≤ 999 → (bd (C_Reader_takes 2000 (sI σ 99 0 (nI p8)) (59 : Int32)) fun r28 σ29 => if r28 = 0 then some ((0 : Int32), σ29) else lt ((σ29.1 149 0)) fun x7_31 => gd x7_31 60 <| lt (sI σ29 144 x7_31.toNatClampNeg (oct d oc q0 - (65 : Int32))) fun σ34 => gd x7_31 60 <| lt (sI σ34 145 x7_31.toNatClampNeg (nI (itN d oc q2))) fun σ37 => gd x7_31 60 <| lt (sI σ37 146 x7_31.toNatClampNeg (oY Y)) fun σ40 => gd x7_31 60 <| lt (sI σ40 147 x7_31.toNatClampNeg (nI K)) fun σ43 => gd x7_31 60 <| lt (sI σ43 97 x7_31.toNatClampNeg (nI q0)) fun σ46 => lt (sI σ46 149 0 (x7_31 + (1 : Int32))) fun σ48 => some ((1 : Int32), σ48)) = outC σ nr (ru9 d oc p8 (oc q0 - 65) (itN d oc q2) Y K q0) := by
            intro p8 K hp8 hK
            have tk := take_C (σ := sI σ 99 0 (nI p8)) hx (w := 59) (p := p8) (by decide) hp8 rfl
            rw [sI_sI, sI_sI] at tk
            rw [show (59 : Int32) = nI 59 from rfl, tk]
            unfold ru9
            by_cases h9 : at_ d oc (skp d oc p8) 59
            · rw [if_pos h9, bd_some, if_neg (by decide), cI_t h9]
              simp only [lt_is, s149, gd_nI hnr (show 60 < 2 ^ 31 by decide), nI_clamp (show nr < 2 ^ 31 by omega), nI_1]
              rw [ho, show (65 : Int32) = nI 65 from rfl, pk_sub h.2.1]
              rfl
            · rw [if_neg h9, bd_some, if_pos rfl, cI_f h9]; rfl
          unfold ru6
          by_cases h6 : at_ d oc (skp d oc p6) 58
          · rw [cI_t h6]
            have hl6 := h6.1
            have a7 := skp_le d oc (show skp d oc p6 + 1 ≤ d by omega)
            by_cases hf : isF d oc (skp d oc (skp d oc p6 + 1))
            · have b := figP_bd (d := d) (oc := oc) 3 0 (skp d oc (skp d oc p6 + 1)) a7
              rw [(cc.2 h6).1 hf, bd_some, if_neg (nI_nm1 (by omega)), cI_t hf]
              exact last _ _ b.2.1 (by omega)
            · rw [(cc.2 h6).2 hf, bd_some, if_pos rfl, cI_f hf]; rfl
          · rw [cc.1 h6, bd_some, if_neg (nI_nm1 (by decide)), cI_f h6]
            exact last _ _ e6 (by decide)
        unfold ru4
        by_cases h4 : isN d oc q4 ∨ isD d oc q4
        · have d1 := itP_le h4
          have d2 := itN_lt h4
          rw [it2.1 h4, bd_some, cI_t h4]
          have := fin (itP d oc q4) (itN d oc q4) d1.1 (by omega)
          rw [show oY (itN d oc q4) = nI (itN d oc q4) from if_neg (by omega)] at this
          exact this
        · rw [it2.2 h4, bd_some, cI_f h4]
          exact fin q4 96 c4 (by decide)
      · rw [it1.2 h2, bd_some, if_pos rfl, cI_f h2]; rfl
    · rw [if_neg h1, bd_some, if_pos rfl, cI_f h1]; rfl
  · rw [if_neg h, if_pos rfl, cI_f h]; rfl
theorem rule_C60 (hx : TX d oc (σ.1 64) (σ.1 65)) {p : Nat} (hp : p ≤ d) (e : σ.1 99 0 = nI p) (hr : σ.1 149 0 = nI 60) : C_Reader_readRule 2000 σ = some (0, sI σ 99 0 (nI (skp d oc p))) := by
  have h256 : ∀ i, i < d → oc i < 256 := fun i hi => (hx.2.2 i hi).1
  have rN : (¬ oct d oc (skp d oc p) < (65 : Int32) ∧ ¬ (90 : Int32) < oct d oc (skp d oc p)) ↔ (skp d oc p < d ∧ 65 ≤ oc (skp d oc p) ∧ oc (skp d oc p) ≤ 90) := oct_rng h256 65 90 (by decide) (by decide)
  unfold C_Reader_readRule
  rw [next_C' hx hp e, bd_some, lt_is, isName_C (P := isN d oc (skp d oc p)) rN.symm, bp_some]
  have s149 : ∀ v, (sI σ 99 0 v).1 149 0 = nI 60 := fun v => hr
  by_cases h : isN d oc (skp d oc p)
  · rw [if_pos h, if_neg (by decide), s149, if_neg (by decide)]
  · rw [if_neg h, if_pos rfl]
end

/-! all rules -/
abbrev z0 : rl := (0, 0, 0, 0, 0)
noncomputable def allP (d : Nat) (oc : Nat → Nat) : Nat → Nat → List rl → Nat ⊕ List rl
  | 0, _, L => .inr L
  | f + 1, p, L => cI (¬ skp d oc p < d ∧ 0 < L.length) (.inr L) (cI (L.length = 60) (.inl (skp d oc p)) (match ruleP d oc p with
    | .inl q => .inl q
    | .inr (t, p') => allP d oc f p' (L ++ [t])))
/-- rules as the class and the reference hold them -/
def foC (L : List rl) (σ : St) : Prop := ∀ r, r < L.length → σ.1 144 r = nI (L.getD r z0).1 ∧ σ.1 145 r = nI (L.getD r z0).2.1 ∧ σ.1 146 r = oY (L.getD r z0).2.2.1 ∧ σ.1 147 r = nI (L.getD r z0).2.2.2.1 ∧ σ.1 97 r = nI (L.getD r z0).2.2.2.2
def foM (L : List rl) (τ : St) : Prop := ∀ r, r < L.length → τ.1 16 r = nI (L.getD r z0).1 ∧ τ.1 17 r = nI (itM (L.getD r z0).2.1) ∧ τ.1 18 r = oM (L.getD r z0).2.2.1 ∧ τ.1 19 r = nI (L.getD r z0).2.2.2.1 ∧ τ.1 20 r = nI (L.getD r z0).2.2.2.2
def okL (L : List rl) : Prop := L.length ≤ 60 ∧ ∀ r, r < L.length → (L.getD r z0).1 < 26 ∧ (L.getD r z0).2.1 < 96 ∧ (L.getD r z0).2.2.1 ≤ 96 ∧ (L.getD r z0).2.2.2.1 ≤ 999 ∧ (L.getD r z0).2.2.2.2 < 800
theorem getD_app_l {L : List rl} {t : rl} {r : Nat} (h : r < L.length) : (L ++ [t]).getD r z0 = L.getD r z0 := by
  rw [List.getD_eq_getElem?_getD, List.getD_eq_getElem?_getD, List.getElem?_append_left h]
theorem getD_app_r {L : List rl} {t : rl} : (L ++ [t]).getD L.length z0 = t := by
  rw [List.getD_eq_getElem?_getD, List.getElem?_append_right (Nat.le_refl _), Nat.sub_self]; rfl
theorem okL_app {d : Nat} {L : List rl} {t : rl} (hd : d ≤ 800) (h : okL L) (hl : L.length < 60) (ht : t.1 < 26 ∧ t.2.1 < 96 ∧ t.2.2.1 ≤ 96 ∧ t.2.2.2.1 ≤ 999 ∧ t.2.2.2.2 < d) : okL (L ++ [t]) := by
  refine ⟨by simp; omega, fun r hr => ?_⟩
  rw [List.length_append] at hr
  by_cases e : r < L.length
  · rw [getD_app_l e]; exact h.2 r e
  · have : r = L.length := by simp at hr; omega
    subst this
    rw [getD_app_r]
    exact ⟨ht.1, ht.2.1, ht.2.2.1, ht.2.2.2.1, by omega⟩
abbrev SR : List Nat := [97, 98, 99, 144, 145, 146, 147, 148, 149]
def finC (σ : St) : Option (Int32 × St) :=
  bp (C_Reader_findReach 2000 σ) fun σ3 =>
  bp (C_Reader_ringPlace 2000 σ3) fun r5 =>
  if r5 = (-1 : Int32) then
    bp (C_Reader_arrange 2000 σ3) fun σ8 =>
    some (r5, σ8)
  else
    some (r5, σ3)
section
variable {d : Nat} {oc : Nat → Nat}
theorem foC_rs {L : List rl} {σ : St} {t : rl} {p' : Nat} (h : foC L σ) : foC (L ++ [t]) (rsC σ L.length t p') := by
  intro r hr
  rw [List.length_append] at hr
  by_cases e : r < L.length
  · have := h r e
    rw [getD_app_l e]
    have ne : ¬ r = L.length := by omega
    unfold rsC
    simp only [sI_1]
    simpa [ne] using this
  · have : r = L.length := by simp at hr; omega
    subst this
    rw [getD_app_r]
    unfold rsC
    simp only [sI_1]
    simp
theorem all_C : ∀ (g f p : Nat) (L : List rl) (σ : St), TX d oc (σ.1 64) (σ.1 65) → okL L → p ≤ d → σ.1 99 0 = nI p → σ.1 149 0 = nI L.length → foC L σ → L.length + g = 61 → g + 1 ≤ f → ∃ σ', fr SR σ σ' ∧ match allP d oc g p L with
    | .inl q => C_Reader_readAll_l15 2000 f σ (nI L.length) = some (nI q, σ') ∧ q ≤ 800
    | .inr L' => C_Reader_readAll_l15 2000 f σ (nI L.length) = finC σ' ∧ foC L' σ' ∧ σ'.1 149 0 = nI L'.length ∧ okL L' ∧ 0 < L'.length := by
  intro g
  induction g with
  | zero =>
    intro f p L σ hx hok hp e1 e2 hfo hg hf
    have := hok.1
    omega
  | succ g ih =>
    intro f p L σ hx hok hp e1 e2 hfo hg hf
    obtain ⟨f, rfl⟩ : ∃ k, f = k + 1 := ⟨f - 1, by omega⟩
    have h256 : ∀ i, i < d → oc i < 256 := fun i hi => (hx.2.2 i hi).1
    have hd := hx.1
    have hL := hok.1
    have a1 := skp_le d oc hp
    unfold C_Reader_readAll_l15 allP
    rw [if_neg (show ¬ (60 : Int32) < nI L.length from nnlt 60 hL (by decide)), next_C' hx hp e1, bd_some]
    have hx1 : ∀ v, TX d oc ((sI σ 99 0 v).1 64) ((sI σ 99 0 v).1 65) := fun _ => hx
    -- reading one rule from here
    have go : ∀ (k : St → Int32 → Option (Int32 × St)), k = C_Reader_readAll_l15 2000 f → ∃ σ', fr SR σ σ' ∧ match (cI (L.length = 60) (.inl (skp d oc p)) (match ruleP d oc p with
        | .inl q => .inl q
        | .inr (t, p') => allP d oc g p' (L ++ [t])) : Nat ⊕ List rl) with
      | .inl q => (bd (C_Reader_readRule 2000 (sI σ 99 0 (nI (skp d oc p)))) fun r14 σ15 => if r14 = 0 then some ((σ15.1 99 0), σ15) else lt (nI L.length + (1 : Int32)) fun x2_17 => k σ15 x2_17) = some (nI q, σ') ∧ q ≤ 800
      | .inr L' => (bd (C_Reader_readRule 2000 (sI σ 99 0 (nI (skp d oc p)))) fun r14 σ15 => if r14 = 0 then some ((σ15.1 99 0), σ15) else lt (nI L.length + (1 : Int32)) fun x2_17 => k σ15 x2_17) = finC σ' ∧ foC L' σ' ∧ σ'.1 149 0 = nI L'.length ∧ okL L' ∧ 0 < L'.length := by
      intro k hk
      subst hk
      by_cases h60 : L.length = 60
      · rw [cI_t h60, rule_C60 (σ := sI σ 99 0 (nI (skp d oc p))) hx a1 rfl (by show σ.1 149 0 = _; rw [e2, h60]), bd_some, if_pos rfl, skp_skp, sI_sI]
        exact ⟨sI σ 99 0 (nI (skp d oc p)), fr.sI (by decide), rfl, by omega⟩
      · have hr := rule_C (σ := sI σ 99 0 (nI (skp d oc p))) hx (p := skp d oc p) (nr := L.length) a1 rfl e2 (by omega)
        have er : ruleP d oc (skp d oc p) = ruleP d oc p := by unfold ruleP; rw [skp_skp]
        rw [er] at hr
        have hrok := ruleP_ok (oc := oc) hp
        rw [cI_f h60, hr]
        cases ho : ruleP d oc p with
        | inl q =>
          rw [ho] at hrok
          refine ⟨sI σ 99 0 (nI q), fr.sI (by decide), ?_, by have : q ≤ d := hrok; omega⟩
          show bd (some (0, sI (sI σ 99 0 (nI (skp d oc p))) 99 0 (nI q))) _ = _
          rw [bd_some, if_pos rfl, sI_sI]; rfl
        | inr tp =>
          obtain ⟨t, p'⟩ := tp
          rw [ho] at hrok
          obtain ⟨k1, k2, k3⟩ := hrok
          have hst : rsC (sI σ 99 0 (nI (skp d oc p))) L.length t p' = rsC σ L.length t p' := by unfold rsC; rw [sI_sI]
          have := ih f p' (L ++ [t]) (rsC σ L.length t p') hx (okL_app hd hok (by omega) k3) k1 rfl (by rw [List.length_append]; rfl) (foC_rs hfo) (by rw [List.length_append]; simp; omega) (by omega)
          obtain ⟨σ', f1, f2⟩ := this
          have hfr : fr SR σ (rsC σ L.length t p') := ((((((fr.sI (by decide)).tr (fr.sI (by decide))).tr (fr.sI (by decide))).tr (fr.sI (by decide))).tr (fr.sI (by decide))).tr (fr.sI (by decide))).tr (fr.sI (by decide))
          refine ⟨σ', hfr.tr f1, ?_⟩
          have hlen : nI L.length + 1 = nI (L ++ [t]).length := by rw [nI_1, List.length_append]; rfl
          have heq : (bd (outC (sI σ 99 0 (nI (skp d oc p))) L.length (.inr (t, p'))) fun r14 σ15 => if r14 = 0 then some ((σ15.1 99 0), σ15) else lt (nI L.length + (1 : Int32)) fun x2_17 => C_Reader_readAll_l15 2000 f σ15 x2_17) = C_Reader_readAll_l15 2000 f (rsC σ L.length t p') (nI (L ++ [t]).length) := by
            show bd (some (1, rsC (sI σ 99 0 (nI (skp d oc p))) L.length t p')) _ = _
            rw [bd_some, if_neg (by decide), lt_is, hst, hlen]
          rw [heq]
          exact f2
    by_cases hend : skp d oc p < d
    · rw [if_neg (fun z => (oct_m1 h256).mp z hend), cI_f (fun z => z.1 hend)]
      exact go _ rfl
    · rw [if_pos ((oct_m1 h256).mpr hend)]
      by_cases hl : 0 < L.length
      · rw [if_neg (nI_nle hl (by omega)), cI_t ⟨hend, hl⟩]
        exact ⟨sI σ 99 0 (nI (skp d oc p)), fr.sI (by decide), rfl, hfo, e2, hok, hl⟩
      · rw [if_pos (by rw [show L.length = 0 by omega]; decide), cI_f (fun z => hl z.2)]
        exact go _ rfl
theorem foM_app {L : List rl} {τ τ' : St} {t : rl} {p' : Nat} (h : foM L τ) (ho : outM τ L.length (.inr (t, p')) τ') : foM (L ++ [t]) τ' := by
  obtain ⟨-, -, -, -, ha⟩ := ho
  intro r hr
  rw [List.length_append] at hr
  by_cases e : r < L.length
  · have h1 := h r e
    have h2 := ha r
    have ne : ¬ r = L.length := by omega
    simp only [if_neg ne] at h2
    rw [getD_app_l e, h2.1, h2.2.1, h2.2.2.1, h2.2.2.2.1, h2.2.2.2.2]
    exact h1
  · have : r = L.length := by simp at hr; omega
    subst this
    have h2 := ha L.length
    simp only [if_true] at h2
    rw [getD_app_r]
    exact h2
theorem all_M : ∀ (g f p : Nat) (L : List rl) (τ : St), TY d oc (τ.1 4) (τ.1 5) → okL L → p ≤ d → τ.1 21 0 = nI (skp d oc p) → τ.1 15 0 = nI L.length → τ.1 22 0 = -1 → foM L τ → L.length + g = 61 → g + 2 ≤ f → (skp d oc p < d ∨ 0 < L.length) → ∃ τ', fr SM τ τ' ∧ match allP d oc g p L with
    | .inl q => M_grammar_l43 2000 f τ = M_grammar_b103 2000 τ' ∧ τ'.1 22 0 = nI q
    | .inr L' => (M_grammar_l43 2000 f τ = bp (M_findRings 2000 τ') fun σ8 => M_grammar_b103 2000 σ8) ∧ foM L' τ' ∧ τ'.1 15 0 = nI L'.length ∧ τ'.1 22 0 = -1 := by
  intro g
  induction g with
  | zero =>
    intro f p L τ hx hok hp e1 e2 e3 hfo hg hf
    have := hok.1
    omega
  | succ g ih =>
    intro f p L τ hx hok hp e1 e2 e3 hfo hg hf hne
    obtain ⟨f, rfl⟩ : ∃ k, f = k + 2 := ⟨f - 2, by omega⟩
    have hd := hx.1
    have hL := hok.1
    have a1 := skp_le d oc hp
    -- a fault ends it
    have quit : ∀ (τ1 : St) (q : Nat), q ≤ 800 → τ1.1 22 0 = nI q → M_grammar_l43 2000 (f + 1) τ1 = M_grammar_b103 2000 τ1 := by
      intro τ1 q hq e
      unfold M_grammar_l43
      rw [e, if_pos (nI_pos' (by omega)), if_pos (nI_pos' (by omega))]
    unfold M_grammar_l43 allP
    rw [e3, if_neg (by decide), e1, hx.2.1]
    by_cases hend : skp d oc p < d
    · rw [if_neg (nI_ge hend (by omega)), cI_f (fun z => z.1 hend), e2]
      by_cases h60 : L.length = 60
      · rw [if_pos (by rw [h60]; rfl), cI_t h60, stop_M e3, bp_some]
        exact ⟨sI τ 22 0 (nI (skp d oc p)), fr.sI (by decide), quit _ (skp d oc p) (by omega) rfl, rfl⟩
      · rw [if_neg (show ¬ nI L.length = (60 : Int32) from neq 60 h60 (by omega) (by decide)), cI_f h60]
        obtain ⟨τ1, r1, r2⟩ := rule_M hx (p := skp d oc p) (nr := L.length) a1 (skp_skp d oc p) e1 e2 e3 (by omega)
        have er : ruleP d oc (skp d oc p) = ruleP d oc p := by unfold ruleP; rw [skp_skp]
        rw [er] at r2
        have hrok := ruleP_ok (oc := oc) hp
        have hx1 : TY d oc (τ1.1 4) (τ1.1 5) := by rw [r2.1.1 4 (by decide), r2.1.1 5 (by decide)]; exact hx
        rw [r1, bp_some]
        cases ho : ruleP d oc p with
        | inl q =>
          rw [ho] at hrok r2
          have hq : q ≤ d := hrok
          obtain ⟨f0, g1, pp, g2, g3⟩ := r2
          have hb : ∃ τ2, M_blanks 2000 τ1 = some τ2 ∧ fr SM τ1 τ2 ∧ τ2.1 22 0 = nI q := by
            by_cases hpp : pp ≤ d
            · exact ⟨sI τ1 21 0 (nI (skp d oc pp)), blanks_M (d := d) (oc := oc) (d - pp) pp 2000 τ1 hx1 rfl hpp (by omega) g3, fr.sI (by decide), g1⟩
            · refine ⟨τ1, ?_, fr.rf, g1⟩
              unfold M_blanks M_blanks_l0
              rw [here_M hx1 (by omega) g3, bp_some, show (32 : Int32) = nI 32 from rfl, if_neg (fun z => absurd ((oct_eq (fun i hi => (hx.2.2 i hi).1) (by decide)).mp z).1 (by omega))]
          obtain ⟨τ2, b1, b2, b3⟩ := hb
          rw [b1, bp_some]
          exact ⟨τ2, f0.tr b2, quit τ2 q (by omega) b3, b3⟩
        | inr tp =>
          obtain ⟨t, p'⟩ := tp
          rw [ho] at hrok r2
          obtain ⟨k1, k2, k3⟩ := hrok
          have r3 := r2
          obtain ⟨f0, g1, g2, g3, g4⟩ := r3
          have bl := blanks_M (d := d) (oc := oc) (d - p') p' 2000 τ1 hx1 rfl k1 (by omega) g2
          unfold M_blanks
          rw [bl, bp_some]
          have := ih (f + 1) p' (L ++ [t]) (sI τ1 21 0 (nI (skp d oc p'))) hx1 (okL_app hd hok (by omega) k3) k1 rfl (by show τ1.1 15 0 = _; rw [g3, List.length_append]; rfl) g1 (fun r hr => foM_app hfo r2 r hr) (by rw [List.length_append]; simp; omega) (by omega) (Or.inr (by rw [List.length_append]; simp))
          obtain ⟨τ', f1, f2⟩ := this
          exact ⟨τ', (f0.tr (fr.sI (by decide))).tr f1, f2⟩
    · have hl := hne.resolve_left hend
      rw [if_pos (nI_le (by omega) (by omega)), if_neg (by decide), cI_t ⟨hend, hl⟩]
      exact ⟨τ, fr.rf, rfl, hfo, e2, e3⟩
end

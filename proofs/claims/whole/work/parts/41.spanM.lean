/-! the reference fills its cells -/
def spM (i j : Nat) (τ τ' : St) : Prop := fr [33, 34, 35, 36] τ τ' ∧ ∀ a i' j' R, a < 26 → i' ≤ j' → j' < 24 → ¬ (i' = i ∧ j' = j) → rowM (τ.2 34) (τ.1 33) (τ.1 35) (τ.1 36) (clM a i' j') R → rowM (τ'.2 34) (τ'.1 33) (τ'.1 35) (τ'.1 36) (clM a i' j') R
theorem spM.rf {i j : Nat} {τ : St} : spM i j τ τ := ⟨fr.rf, fun _ _ _ _ _ _ _ _ h => h⟩
theorem spM.tr {i j : Nat} {σ σ1 σ2 : St} (h : spM i j σ σ1) (g : spM i j σ1 σ2) : spM i j σ σ2 := ⟨h.1.tr g.1, fun a i' j' R h1 h2 h4 h3 hr => g.2 a i' j' R h1 h2 h4 h3 (h.2 a i' j' R h1 h2 h4 h3 hr)⟩
theorem sameM.sp {a i j : Nat} {τ τ' : St} (hij : i ≤ j) (hj : j < 24) (h : sameM (clM a i j) τ τ') : spM i j τ τ' := ⟨h.1, fun a' i' j' R h1 h2 h4 h3 hr => rowM_keep h (fun z => h3 (clM_inj h4 hj h2 hij z).2) hr⟩
/-- turns: a rank of its own for each name -/
def tnO (L : List rl) (tn : Nat → Nat) : Prop := (∀ a, a < 26 → tn a < 26) ∧ (∀ a b, a < 26 → b < 26 → tn a = tn b → a = b) ∧ (∀ t, t < 26 → ∃ a, a < 26 ∧ tn a = t) ∧ ∀ r, r < L.length → isU (L.getD r z0) = true → tn (L.getD r z0).2.1 < tn (L.getD r z0).1
section
variable {L : List rl} {sC sP : SS} {n : Nat} {T : TT}
abbrev gvM (sC sP : SS) (L : List rl) (T : TT) (i j : Nat) : (Nat → Row) → Row → Nat → Row := fun U R r => conM sC sP L (TU T i j U) i j R r
theorem pr222 {w i a t : Nat} {D : Nat → Nat → Prop} {tn : Nat → Nat} (hok : okL L) (htn : tnO L tn) (ho : symO sC n) (ha : a < 26) (hj : i + w < n) (hn : n ≤ 24) (ht : t < 26) (hsub : ∀ cut, 1 ≤ cut → cut ≤ w → D i (i + cut - 1) ∧ D (i + cut) (i + w)) (k173 : St → Int32 → Option (Int32 × St)) (k183 : St → Int32 → Int32 → Option (Int32 × St)) (k195 : St → Int32 → Int32 → Int32 → Option (Int32 × St)) :
    ∀ (m r f : Nat) (τ : St) (U : Nat → Row), r + m = L.length → m + 1 ≤ f → envM L sC sP n τ → τ.1 25 0 = nI L.length → (∀ a i' j', a < 26 → i' ≤ j' → j' < n → D i' j' → rowM (τ.2 34) (τ.1 33) (τ.1 35) (τ.1 36) (clM a i' j') (T a i' j')) → (∀ a, a < 26 → rowM (τ.2 34) (τ.1 33) (τ.1 35) (τ.1 36) (clM a i (i + w)) (U a)) → keysLt (U a).2 (r * 32768) → ¬ D i (i + w) →
    ∃ τ', M_parse_l222 8000 k173 k183 k195 f τ (nI w) (nI i) (nI t) (nI a) (nI (clM a i (i + w))) (nI r) = k195 τ' (nI w) (nI i) (nI (t + 1)) ∧ spM i (i + w) τ τ' ∧ ∀ b, b < 26 → rowM (τ'.2 34) (τ'.1 33) (τ'.1 35) (τ'.1 36) (clM b i (i + w)) ((((List.range' r m).filter fun r => rlA L r == a).foldl (stepv (gvM sC sP L T i (i + w)) (rlA L)) U) b) := by
  have hL := hok.1
  intro m
  induction m with
  | zero =>
    intro r f τ U hr hf he e25 hT hU hkey hnD
    obtain ⟨f, rfl⟩ : ∃ g, f = g + 1 := ⟨f - 1, by omega⟩
    unfold M_parse_l222
    rw [e25, if_pos (nI_le (by omega) (by omega)), lt_is, nI_1]
    exact ⟨τ, rfl, spM.rf, hU⟩
  | succ m ih =>
    intro r f τ U hr hf he e25 hT hU hkey hnD
    obtain ⟨f, rfl⟩ : ∃ g, f = g + 1 := ⟨f - 1, by omega⟩
    obtain ⟨k1, k2, k3, -⟩ := hok.2 r (by omega)
    obtain ⟨g1, g2, g3, g4⟩ := he.1 r (by omega)
    rw [List.range'_succ, List.filter_cons]
    unfold M_parse_l222
    rw [e25, if_neg (nI_ge (by omega) (by omega)), gd_nI (by omega) (by decide), nI_clamp (show r < 2 ^ 31 by omega), g1]
    by_cases hA : rlA L r = a
    · have hA' : (L.getD r z0).1 = a := hA
      rw [if_pos (by rw [hA']), gd_nI (by omega) (by decide), g3, if_pos (beq_iff_eq.mpr hA), List.foldl_cons]
      have hUa := hU a ha
      have aft : ∀ (τ1 : St), sameM (clM a i (i + w)) τ τ1 → rowM (τ1.2 34) (τ1.1 33) (τ1.1 35) (τ1.1 36) (clM a i (i + w)) (conM sC sP L (TU T i (i + w) U) i (i + w) (U a) r) → keysLt (conM sC sP L (TU T i (i + w) U) i (i + w) (U a) r).2 ((r + 1) * 32768) →
          ∃ τ', M_parse_l222 8000 k173 k183 k195 f τ1 (nI w) (nI i) (nI t) (nI a) (nI (clM a i (i + w))) (nI (r + 1)) = k195 τ' (nI w) (nI i) (nI (t + 1)) ∧ spM i (i + w) τ τ' ∧ ∀ b, b < 26 → rowM (τ'.2 34) (τ'.1 33) (τ'.1 35) (τ'.1 36) (clM b i (i + w)) ((((List.range' (r + 1) m).filter fun r => rlA L r == a).foldl (stepv (gvM sC sP L T i (i + w)) (rlA L)) (stepv (gvM sC sP L T i (i + w)) (rlA L) U r)) b) := by
        intro τ1 hs hrow hk2
        have hsp := hs.sp (by omega) (by omega)
        obtain ⟨τ', e1, e2, e3⟩ := ih (r + 1) f τ1 (stepv (gvM sC sP L T i (i + w)) (rlA L) U r) (by omega) (by omega) (he.keep hs.1) (by rw [hs.1.1 25 (by decide)]; exact e25) (fun a i' j' h1 h2 h4 h3 => hsp.2 a i' j' _ h1 h2 (by omega) (fun z => hnD (by rw [z.1, z.2] at h3; exact h3)) (hT a i' j' h1 h2 h4 h3)) (fun b hb => by
            unfold stepv
            by_cases e : b = rlA L r
            · rw [if_pos e, e, hA]; exact hrow
            · rw [if_neg e]
              exact rowM_keep hs (fun z => e (by rw [hA]; exact (clM_inj (by omega) (by omega) (by omega) (by omega) z).1)) (hU b hb)) (by
            unfold stepv
            rw [if_pos hA.symm]
            exact hk2) hnD
        exact ⟨τ', e1, hsp.tr e2, e3⟩
      by_cases hY : (L.getD r z0).2.2.1 = 96
      · have hd : depM (TU T i (i + w) U) (L.getD r z0).2.1 i (i + w) τ := fun h => by rw [TU_in]; exact hU _ h
        have hon := one_M (T := TU T i (i + w) U) (R := U a) (i := i) (j := i + w) (r := r) hok ho (by omega) hY (by omega) hj hn (fun h z => by
          have := htn.2.2.2 r (by omega) ((isU_iff _).mpr ⟨hY, h⟩)
          rw [z] at this
          omega) he hd (fun h => (hd h).2.2.1) (by rw [hA']; exact hUa) hkey
        rw [hA'] at hon
        obtain ⟨τ1, f1, f2, f3, f4⟩ := hon
        rw [if_pos (show oM (L.getD r z0).2.2.1 = -1 from if_pos hY), nI_add, f1, bp_some, lt_is, nI_1]
        exact aft τ1 f2 f3 f4
      · rw [if_neg (show ¬ oM (L.getD r z0).2.2.1 = -1 by unfold oM; rw [if_neg hY]; exact nI_nm1 (by have := itM_lt (show (L.getD r z0).2.2.1 < 96 by omega); omega))]
        have hd : ∀ cut, 1 ≤ cut → cut ≤ i + w - i → depM (TU T i (i + w) U) (L.getD r z0).2.1 i (i + cut - 1) τ ∧ depM (TU T i (i + w) U) (L.getD r z0).2.2.1 (i + cut) (i + w) τ := fun cut h1 h2 => by
          obtain ⟨d1, d2⟩ := hsub cut h1 (by omega)
          exact ⟨fun h => by rw [TU_out _ (by omega)]; exact hT _ _ _ h (by omega) (by omega) d1, fun h => by rw [TU_out _ (by omega)]; exact hT _ _ _ h (by omega) hj d2⟩
        have htw := two_l3 (T := TU T i (i + w) U) (i := i) (j := i + w) (r := r) hok ho (by omega) hY (by omega) hj hn (fun cut h1 h2 h => ((hd cut h1 h2).1 h).2.2.1) (fun cut h1 h2 h => ((hd cut h1 h2).2 h).2.2.1) w 1 8000 τ (U a) (by omega) (by omega) (by omega) he hd (by rw [hA']; exact hUa) (hkey.mono (by unfold keyN; omega))
        rw [hA'] at htw
        obtain ⟨τ1, f1, f2, f3, f4⟩ := htw
        have ec : conM sC sP L (TU T i (i + w) U) i (i + w) (U a) r = cutM sC sP (TU T i (i + w) U) (nI (L.getD r z0).2.2.2.1) r (L.getD r z0).2.1 (L.getD r z0).2.2.1 i (i + w) w 1 (U a) := by
          unfold conM; rw [if_neg hY, show i + w - i = w by omega]
        unfold M_parse_b269
        rw [gd_nI (by omega) (by decide), nI_clamp (show r < 2 ^ 31 by omega), g1, if_pos (by rw [hA']), nI_add]
        unfold M_two
        rw [show (1 : Int32) = nI 1 from rfl, f1, bp_some, lt_is, nI_add]
        exact aft τ1 f2 (by rw [ec]; exact f3) (by rw [ec]; exact f4)
    · have hA' : ¬ (L.getD r z0).1 = a := hA
      rw [if_neg (neq a hA' (by omega) (by omega)), if_neg (fun z => hA (beq_iff_eq.mp z))]
      unfold M_parse_b269
      rw [gd_nI (by omega) (by decide), nI_clamp (show r < 2 ^ 31 by omega), g1, if_neg (neq a hA' (by omega) (by omega)), lt_is, nI_1]
      exact ih (r + 1) f τ U (by omega) (by omega) he e25 hT hU (hkey.mono (Nat.mul_le_mul_right _ (by omega))) hnD
theorem name_M {τ : St} {tn : Nat → Nat} {t a : Nat} (e37 : ∀ b, b < 26 → τ.1 37 b = nI (tn b)) (h26 : ∀ b, b < 26 → tn b < 26) (ha : a < 26) (hat : tn a = t) (huq : ∀ b, b < 26 → tn b = t → b = a) : ∀ (m x f : Nat), x + m = a → m + 1 ≤ f → M_nameAt_l2 8000 τ f (nI t) (nI x) = some (nI a) := by
  have ht := h26 a ha
  intro m
  induction m with
  | zero =>
    intro x f hx hf
    obtain ⟨f, rfl⟩ : ∃ g, f = g + 1 := ⟨f - 1, by omega⟩
    have : x = a := by omega
    subst this
    unfold M_nameAt_l2
    rw [gd_nI ha (by decide), nI_clamp (by omega), e37 x ha, hat, if_pos rfl]
  | succ m ih =>
    intro x f hx hf
    obtain ⟨f, rfl⟩ : ∃ g, f = g + 1 := ⟨f - 1, by omega⟩
    unfold M_nameAt_l2
    have hxl := h26 x (by omega)
    rw [gd_nI (by omega) (by decide), nI_clamp (by omega), e37 x (by omega), if_neg (neq t (fun z => by have := huq x (by omega) z; omega) (by omega) (by omega)), lt_is, nI_1]
    exact ih (x + 1) f (by omega) (by omega)
theorem pr195 {w i : Nat} {D : Nat → Nat → Prop} {tn : Nat → Nat} (hok : okL L) (htn : tnO L tn) (ho : symO sC n) (hj : i + w < n) (hn : n ≤ 24) (hsub : ∀ cut, 1 ≤ cut → cut ≤ w → D i (i + cut - 1) ∧ D (i + cut) (i + w)) (k173 : St → Int32 → Option (Int32 × St)) (k183 : St → Int32 → Int32 → Option (Int32 × St)) :
    ∀ (m t f : Nat) (τ : St) (U : Nat → Row), t + m = 26 → m + 1 ≤ f → envM L sC sP n τ → τ.1 25 0 = nI L.length → (∀ b, b < 26 → τ.1 37 b = nI (tn b)) → (∀ a i' j', a < 26 → i' ≤ j' → j' < n → D i' j' → rowM (τ.2 34) (τ.1 33) (τ.1 35) (τ.1 36) (clM a i' j') (T a i' j')) → (∀ a, a < 26 → rowM (τ.2 34) (τ.1 33) (τ.1 35) (τ.1 36) (clM a i (i + w)) (U a)) → (∀ a, a < 26 → t ≤ tn a → U a = (0, [])) → ¬ D i (i + w) →
    ∃ τ', M_parse_l195 8000 k173 k183 f τ (nI w) (nI i) (nI t) = k183 τ' (nI w) (nI (i + 1)) ∧ spM i (i + w) τ τ' ∧ ∀ b, b < 26 → rowM (τ'.2 34) (τ'.1 33) (τ'.1 35) (τ'.1 36) (clM b i (i + w)) ((((List.range' t m).flatMap fun q => (List.range' 0 L.length).filter fun r => tn (rlA L r) == q).foldl (stepv (gvM sC sP L T i (i + w)) (rlA L)) U) b) := by
  have hL := hok.1
  obtain ⟨t1, t2, t3, t4⟩ := htn
  intro m
  induction m with
  | zero =>
    intro t f τ U ht hf he e25 e37 hT hU hz hnD
    obtain ⟨f, rfl⟩ : ∃ g, f = g + 1 := ⟨f - 1, by omega⟩
    unfold M_parse_l195
    rw [if_pos (show (26 : Int32) ≤ nI t from nle 26 (by omega) (by omega)), lt_is, nI_1]
    exact ⟨τ, rfl, spM.rf, hU⟩
  | succ m ih =>
    intro t f τ U ht hf he e25 e37 hT hU hz hnD
    obtain ⟨f, rfl⟩ : ∃ g, f = g + 1 := ⟨f - 1, by omega⟩
    obtain ⟨a, ha, hat⟩ := t3 t (by omega)
    have hnm : M_nameAt 8000 τ (nI t) = some (nI a) := name_M e37 t1 ha hat (fun b hb hbt => t2 b a hb ha (hbt.trans hat.symm)) a 0 8000 (by omega) (by omega)
    have hfe : ((List.range' 0 L.length).filter fun r => tn (rlA L r) == t) = (List.range' 0 L.length).filter fun r => rlA L r == a := by
      apply List.filter_congr
      intro r hr
      have hrl := (List.mem_range'_1.mp hr).2
      have hA := (hok.2 r (by omega)).1
      by_cases e : rlA L r = a
      · rw [e, hat]; simp
      · have e2 : ¬ tn (rlA L r) = t := fun z => e (t2 _ _ hA ha (z.trans hat.symm))
        rw [beq_eq_false_iff_ne.mpr e, beq_eq_false_iff_ne.mpr e2]
    rw [List.range'_succ, List.flatMap_cons, List.foldl_append, hfe]
    unfold M_parse_l195
    rw [if_neg (show ¬ (26 : Int32) ≤ nI t from nge 26 (by omega) (by decide)), hnm, bp_some, nI_add, cellOf_M (by omega), bp_some]
    obtain ⟨τ1, f1, f2, f3⟩ := pr222 (T := T) (t := t) (D := D) hok ⟨t1, t2, t3, t4⟩ ho ha hj hn (by omega) hsub k173 k183 (M_parse_l195 8000 k173 k183 f) L.length 0 8000 τ U (by omega) (by omega) he e25 hT hU (by rw [hz a ha (by omega)]; intro k hk; cases hk) hnD
    rw [show (0 : Int32) = nI 0 from rfl, f1]
    -- names of other turns are as they were
    have hoth : ∀ (B : List Nat) (V : Nat → Row) (b : Nat), (∀ r, r ∈ B → rlA L r = a) → b ≠ a → (B.foldl (stepv (gvM sC sP L T i (i + w)) (rlA L)) V) b = V b := by
      intro B
      induction B with
      | nil => intro V b _ _; rfl
      | cons r B ihB =>
        intro V b hB hb
        rw [List.foldl_cons, ihB _ b (fun r' hr' => hB r' (List.mem_cons_of_mem _ hr')) hb]
        unfold stepv
        rw [if_neg (fun z => hb (z.trans (hB r List.mem_cons_self)))]
    obtain ⟨τ', e1, e2, e3⟩ := ih (t + 1) f τ1 _ (by omega) (by omega) (he.keep f2.1) (by rw [f2.1.1 25 (by decide)]; exact e25) (fun b hb => by rw [f2.1.1 37 (by decide)]; exact e37 b hb) (fun a i' j' h1 h2 h4 h3 => f2.2 a i' j' _ h1 h2 (by omega) (fun z => hnD (by rw [z.1, z.2] at h3; exact h3)) (hT a i' j' h1 h2 h4 h3)) f3 (fun b hb hbt => by
      rw [hoth _ U b (fun r hr => beq_iff_eq.mp (List.mem_filter.mp hr).2) (fun z => by rw [z, hat] at hbt; omega)]
      exact hz b hb (by omega)) hnD
    exact ⟨τ', e1, f2.tr e2, e3⟩
/-- spans done: narrower ones, and of this width those that start before -/
def Dm (w m i j : Nat) : Prop := j < i + w ∨ (j = i + w ∧ i < m)
theorem Dm_cl (w m : Nat) : clsd (Dm w m) := by
  intro i j cut h h1 h2
  unfold Dm at *
  omega
theorem pr183 {w : Nat} {tn : Nat → Nat} (hok : okL L) (htn : tnO L tn) (ho : symO sC n) (hw : w < n) (hn : n ≤ 24) (k173 : St → Int32 → Option (Int32 × St)) :
    ∀ (m i f : Nat) (τ : St) (T : TT), i + w + m = n → m + 1 ≤ f → envM L sC sP n τ → τ.1 25 0 = nI L.length → τ.1 24 0 = nI n → (∀ b, b < 26 → τ.1 37 b = nI (tn b)) → okT (conM sC sP L) L (fun i' j' => j' < n ∧ Dm w i i' j') T → (∀ a i' j', a < 26 → i' ≤ j' → j' < n → Dm w i i' j' → rowM (τ.2 34) (τ.1 33) (τ.1 35) (τ.1 36) (clM a i' j') (T a i' j')) → (∀ a i' j', a < 26 → i' ≤ j' → j' < n → ¬ Dm w i i' j' → rowM (τ.2 34) (τ.1 33) (τ.1 35) (τ.1 36) (clM a i' j') (0, [])) →
    ∃ (τ' : St) (T' : TT), M_parse_l183 8000 k173 f τ (nI w) (nI i) = k173 τ' (nI (w + 1)) ∧ fr [33, 34, 35, 36] τ τ' ∧ okT (conM sC sP L) L (fun i' j' => j' < n ∧ Dm (w + 1) 0 i' j') T' ∧ (∀ a i' j', a < 26 → i' ≤ j' → j' < n → Dm (w + 1) 0 i' j' → rowM (τ'.2 34) (τ'.1 33) (τ'.1 35) (τ'.1 36) (clM a i' j') (T' a i' j')) ∧ ∀ a i' j', a < 26 → i' ≤ j' → j' < n → ¬ Dm (w + 1) 0 i' j' → rowM (τ'.2 34) (τ'.1 33) (τ'.1 35) (τ'.1 36) (clM a i' j') (0, []) := by
  intro m
  induction m with
  | zero =>
    intro i f τ T hm hf he e25 e24 e37 hokT hT hZ
    obtain ⟨f, rfl⟩ : ∃ g, f = g + 1 := ⟨f - 1, by omega⟩
    unfold M_parse_l183
    rw [e24, nI_add, if_pos (nI_le (by omega) (by omega)), lt_is, nI_1]
    refine ⟨τ, T, rfl, fr.rf, fun a i' j' ha hij hd => hokT a i' j' ha hij ⟨hd.1, by have := hd.1; have := hd.2; unfold Dm at *; omega⟩, fun a i' j' ha hij hjn hd => hT a i' j' ha hij hjn (by unfold Dm at *; omega), fun a i' j' ha hij hjn hd => hZ a i' j' ha hij hjn (by unfold Dm at *; omega)⟩
  | succ m ih =>
    intro i f τ T hm hf he e25 e24 e37 hokT hT hZ
    obtain ⟨f, rfl⟩ : ∃ g, f = g + 1 := ⟨f - 1, by omega⟩
    have hnD : ¬ Dm w i i (i + w) := by unfold Dm; omega
    unfold M_parse_l183
    rw [e24, nI_add, if_neg (nI_ge (by omega) (by omega))]
    obtain ⟨τ1, f1, f2, f3⟩ := pr195 (T := T) (D := Dm w i) hok htn ho (show i + w < n by omega) hn (fun cut h1 h2 => by unfold Dm; omega) k173 (M_parse_l183 8000 k173 f) 26 0 8000 τ (fun _ => (0, [])) (by omega) (by decide) he e25 e37 hT (fun a ha => hZ a i (i + w) ha (by omega) (by omega) hnD) (fun _ _ _ => rfl) hnD
    rw [show (0 : Int32) = nI 0 from rfl, f1]
    have hfix : ∀ a, a < 26 → ((ordL L.length (rlA L) tn).foldl (stepv (gvM sC sP L T i (i + w)) (rlA L)) (fun _ => (0, []))) a = (rulesA L a).foldl (conM sC sP L (TU T i (i + w) ((ordL L.length (rlA L) tn).foldl (stepv (gvM sC sP L T i (i + w)) (rlA L)) (fun _ => (0, [])))) i (i + w)) (0, []) := fun a ha =>
      fixv (g := gvM sC sP L T i (i + w)) (A := rlA L) (rk := tn) (nr := L.length) (fun U V r hr hb R => conM_cg ⟨fun hY hX => by
        rw [TU_in, TU_in]
        exact hb _ (htn.2.2.2 r hr ((isU_iff _).mpr ⟨hY, hX⟩)), fun _ cut h1 h2 => ⟨fun _ => by rw [TU_out _ (by omega), TU_out _ (by omega)], fun _ => by rw [TU_out _ (by omega), TU_out _ (by omega)]⟩⟩ R) (fun _ => (0, [])) 26 0 (fun _ => (0, [])) (by omega) (fun a h => absurd h (Nat.not_lt_zero _)) (fun _ _ => rfl) a (htn.1 a ha)
    have f3' : ∀ b, b < 26 → rowM (τ1.2 34) (τ1.1 33) (τ1.1 35) (τ1.1 36) (clM b i (i + w)) (((ordL L.length (rlA L) tn).foldl (stepv (gvM sC sP L T i (i + w)) (rlA L)) (fun _ => (0, []))) b) := f3
    generalize (ordL L.length (rlA L) tn).foldl (stepv (gvM sC sP L T i (i + w)) (rlA L)) (fun _ => (0, [])) = U at *
    have hD' : ∀ i' j', Dm w (i + 1) i' j' → Dm w i i' j' ∨ (i' = i ∧ j' = i + w) := fun i' j' h => by unfold Dm at *; omega
    have hcl : clsd (fun i' j' => j' < n ∧ Dm w i i' j') := fun i' j' cut h h1 h2 => by
      obtain ⟨s1, s2⟩ := Dm_cl w i i' j' cut h.2 h1 h2
      have := h.1
      exact ⟨⟨by omega, s1⟩, this, s2⟩
    have hok' := okT_step (D' := fun i' j' => j' < n ∧ Dm w (i + 1) i' j') (fun T T' i j r h R => conM_cg h R) hokT hcl (show ¬ (i + w < n ∧ Dm w i i (i + w)) from fun z => hnD z.2) (fun i' j' h => (hD' i' j' h.2).imp (fun z => ⟨h.1, z⟩) id) hfix
    obtain ⟨τ', T', e1, e2, e3, e4, e5⟩ := ih (i + 1) f τ1 (TU T i (i + w) U) (by omega) (by omega) (he.keep f2.1) (by rw [f2.1.1 25 (by decide)]; exact e25) (by rw [f2.1.1 24 (by decide)]; exact e24) (fun b hb => by rw [f2.1.1 37 (by decide)]; exact e37 b hb) hok' (fun a i' j' ha hij hjn hd => by
      by_cases e : i' = i ∧ j' = i + w
      · obtain ⟨rfl, rfl⟩ := e
        rw [TU_in]
        exact f3' a ha
      · rw [TU_out _ e]
        exact f2.2 a i' j' _ ha hij (by omega) e (hT a i' j' ha hij hjn ((hD' i' j' hd).resolve_right e))) (fun a i' j' ha hij hjn hd => f2.2 a i' j' _ ha hij (by omega) (fun z => hd (by unfold Dm; omega)) (hZ a i' j' ha hij hjn (fun z => hd (by unfold Dm at *; omega))))
    exact ⟨τ', T', e1, f2.1.tr e2, e3, e4, e5⟩
theorem pr173 {tn : Nat → Nat} (hok : okL L) (htn : tnO L tn) (ho : symO sC n) (hn : n ≤ 24) :
    ∀ (m w f : Nat) (τ : St) (T : TT), w + m = n → m + 1 ≤ f → envM L sC sP n τ → τ.1 25 0 = nI L.length → τ.1 24 0 = nI n → (∀ b, b < 26 → τ.1 37 b = nI (tn b)) → okT (conM sC sP L) L (fun i' j' => j' < n ∧ Dm w 0 i' j') T → (∀ a i' j', a < 26 → i' ≤ j' → j' < n → Dm w 0 i' j' → rowM (τ.2 34) (τ.1 33) (τ.1 35) (τ.1 36) (clM a i' j') (T a i' j')) → (∀ a i' j', a < 26 → i' ≤ j' → j' < n → ¬ Dm w 0 i' j' → rowM (τ.2 34) (τ.1 33) (τ.1 35) (τ.1 36) (clM a i' j') (0, [])) →
    ∃ (τ' : St) (T' : TT), (M_parse_l173 8000 f τ (nI w) = bp (M_listed τ') fun r3 => some (r3, τ')) ∧ fr [33, 34, 35, 36] τ τ' ∧ okT (conM sC sP L) L (fun _ j' => j' < n) T' ∧ ∀ a i' j', a < 26 → i' ≤ j' → j' < n → rowM (τ'.2 34) (τ'.1 33) (τ'.1 35) (τ'.1 36) (clM a i' j') (T' a i' j') := by
  intro m
  induction m with
  | zero =>
    intro w f τ T hm hf he e25 e24 e37 hokT hT hZ
    obtain ⟨f, rfl⟩ : ∃ g, f = g + 1 := ⟨f - 1, by omega⟩
    unfold M_parse_l173
    rw [e24, if_pos (nI_le (by omega) (by omega))]
    exact ⟨τ, T, rfl, fr.rf, fun a i' j' ha hij hd => hokT a i' j' ha hij ⟨hd, by unfold Dm; omega⟩, fun a i' j' ha hij hjn => hT a i' j' ha hij hjn (by unfold Dm; omega)⟩
  | succ m ih =>
    intro w f τ T hm hf he e25 e24 e37 hokT hT hZ
    obtain ⟨f, rfl⟩ : ∃ g, f = g + 1 := ⟨f - 1, by omega⟩
    unfold M_parse_l173
    rw [e24, if_neg (nI_ge (by omega) (by omega))]
    obtain ⟨τ1, T1, f1, f2, f3, f4, f5⟩ := pr183 hok htn ho (show w < n by omega) hn (M_parse_l173 8000 f) (n - w) 0 8000 τ T (by omega) (by omega) he e25 e24 e37 hokT hT hZ
    rw [show (0 : Int32) = nI 0 from rfl, f1]
    obtain ⟨τ', T', e1, e2, e3, e4⟩ := ih (w + 1) f τ1 T1 (by omega) (by omega) (he.keep f2) (by rw [f2.1 25 (by decide)]; exact e25) (by rw [f2.1 24 (by decide)]; exact e24) (fun b hb => by rw [f2.1 37 (by decide)]; exact e37 b hb) f3 f4 f5
    exact ⟨τ', T', e1, f2.tr e2, e3, e4⟩
end

/-! one rule, the reference -/
theorem sI_comm (σ : St) {k k' : Nat} (i j : Nat) (a b : Int32) (h : k ≠ k') : sI (sI σ k i a) k' j b = sI (sI σ k' j b) k i a := by
  unfold sI
  congr 1
  funext c
  by_cases h1 : c = k
  · have h2 : ¬ c = k' := fun z => h (h1.symm.trans z)
    simp only [if_pos h1, if_neg h2]
  · by_cases h2 : c = k'
    · simp only [if_neg h1, if_pos h2]
    · simp only [if_neg h1, if_neg h2]
def itM (x : Nat) : Nat := if x < 26 then x else 100 + 10 * ((x - 26) / 10 + 1) + (if (x - 26) % 10 = 9 then 0 else (x - 26) % 10 + 1)
def oM (y : Nat) : Int32 := if y = 96 then -1 else nI (itM y)
theorem itM_lt {x : Nat} (h : x < 96) : itM x < 180 := by
  unfold itM
  repeat' split
  all_goals omega
def TY (d : Nat) (oc : Nat → Nat) (g4 g5 : Nat → Int32) : Prop := d ≤ 800 ∧ g5 0 = nI d ∧ ∀ i, i < d → oc i < 256 ∧ g4 i = nI (oc i)
section
variable {d : Nat} {oc : Nat → Nat} {τ : St}
theorem here_M (h : TY d oc (τ.1 4) (τ.1 5)) {p : Nat} (hp : p ≤ 2000) (e : τ.1 21 0 = nI p) : M_here τ = some (oct d oc p) := by
  obtain ⟨h1, h2, h3⟩ := h
  unfold M_here oct
  rw [h2, e]
  by_cases hd : p < d
  · rw [if_neg (nI_ge hd (by omega)), gd_nI (by omega) (by decide), nI_clamp (by omega), (h3 p hd).2, if_pos hd]
  · rw [if_pos (nI_le (by omega) (by omega)), if_neg hd]
theorem blanks_M : ∀ (m p f : Nat) (τ : St), TY d oc (τ.1 4) (τ.1 5) → d - p = m → p ≤ d → m + 1 ≤ f → τ.1 21 0 = nI p → M_blanks_l0 2000 f τ = some (sI τ 21 0 (nI (skp d oc p))) := by
  intro m
  induction m with
  | zero =>
    intro p f τ hx hm hp hf e
    obtain ⟨f, rfl⟩ : ∃ g, f = g + 1 := ⟨f - 1, by omega⟩
    have hd := hx.1
    have es : skp d oc p = p := by rw [skp_eq, if_neg (by omega)]
    unfold M_blanks_l0
    rw [here_M hx (by omega) e, bp_some, show (32 : Int32) = nI 32 from rfl, if_neg (fun z => absurd ((oct_eq (fun i hi => (hx.2.2 i hi).1) (by decide)).mp z).1 (by omega)), es, sI_same e]
  | succ m ih =>
    intro p f τ hx hm hp hf e
    obtain ⟨f, rfl⟩ : ∃ g, f = g + 1 := ⟨f - 1, by omega⟩
    have hd := hx.1
    unfold M_blanks_l0
    rw [here_M hx (by omega) e, bp_some, show (32 : Int32) = nI 32 from rfl]
    by_cases h32 : oc p = 32
    · rw [if_pos ((oct_eq (fun i hi => (hx.2.2 i hi).1) (by decide)).mpr ⟨by omega, h32⟩), lt_is, e, nI_1]
      rw [ih (p + 1) f (sI τ 21 0 (nI (p + 1))) hx (by omega) (by omega) (by omega) rfl, sI_sI, skp_eq d oc p, if_pos ⟨by omega, h32⟩]
    · have es : skp d oc p = p := by rw [skp_eq, if_neg (fun z => h32 z.2)]
      rw [if_neg (fun z => h32 ((oct_eq (fun i hi => (hx.2.2 i hi).1) (by decide)).mp z).2), es, sI_same e]
theorem blanks_R {R : St} (hx : TY d oc (R.1 4) (R.1 5)) {p : Nat} (hp : p ≤ d) : M_blanks 2000 (sI R 21 0 (nI p)) = some (sI R 21 0 (nI (skp d oc p))) := by
  have := blanks_M (d := d) (oc := oc) (d - p) p 2000 (sI R 21 0 (nI p)) hx rfl hp (by have := hx.1; omega) rfl
  rw [sI_sI] at this
  exact this
theorem here_R {R : St} (hx : TY d oc (R.1 4) (R.1 5)) {p : Nat} (hp : p ≤ 2000) : M_here (sI R 21 0 (nI p)) = some (oct d oc p) := here_M (τ := sI R 21 0 (nI p)) hx hp rfl
theorem stop_M {x : Int32} (e : τ.1 22 0 = -1) : M_stop τ x = some (sI τ 22 0 x) := by
  unfold M_stop
  rw [e, if_neg (by decide), lt_is]
theorem stop_M2 {x : Int32} {f : Nat} (hf : f < 2 ^ 31) (e : τ.1 22 0 = nI f) : M_stop τ x = some τ := by
  unfold M_stop
  rw [e, if_pos (nI_pos' hf), lt_is, sI_same e]
theorem isName_M {x : Int32} {P : Prop} (hP : P ↔ ¬ x < 65 ∧ ¬ 90 < x) : M_isName x = some (@ite _ P (Classical.propDecidable P) 1 0) := isName_C hP
theorem isDeg_M {x : Int32} {P : Prop} (hP : P ↔ ¬ x < 49 ∧ ¬ 55 < x) : M_isDegree x = some (@ite _ P (Classical.propDecidable P) 1 0) := by
  unfold M_isDegree
  by_cases h : P
  · rw [if_neg (hP.mp h).1, if_neg (hP.mp h).2, if_pos h]
  · rw [if_neg h]
    by_cases h1 : x < 49
    · rw [if_pos h1]
    · rw [if_neg h1, if_pos (Classical.byContradiction fun z => h (hP.mpr ⟨h1, z⟩))]
theorem isItem_M {R : St} (hx : TY d oc (R.1 4) (R.1 5)) {p : Nat} (hp : p ≤ 2000) : M_isItem (sI R 21 0 (nI p)) = some (@ite _ (isN d oc p ∨ isD d oc p) (Classical.propDecidable _) 1 0) := by
  have h256 : ∀ i, i < d → oc i < 256 := fun i hi => (hx.2.2 i hi).1
  have rN : (¬ oct d oc p < (65 : Int32) ∧ ¬ (90 : Int32) < oct d oc p) ↔ (p < d ∧ 65 ≤ oc p ∧ oc p ≤ 90) := oct_rng h256 65 90 (by decide) (by decide)
  have rD : (¬ oct d oc p < (49 : Int32) ∧ ¬ (55 : Int32) < oct d oc p) ↔ (p < d ∧ 49 ≤ oc p ∧ oc p ≤ 55) := oct_rng h256 49 55 (by decide) (by decide)
  unfold M_isItem
  rw [here_R hx hp, bp_some, isName_M (P := isN d oc p) rN.symm, bp_some]
  by_cases hN : isN d oc p
  · rw [if_pos hN, if_neg (by decide), if_pos (Or.inl hN)]
  · rw [if_neg hN, if_pos rfl, bp_some, isDeg_M (P := isD d oc p) rD.symm, bp_some]
    by_cases hD : isD d oc p
    · rw [if_pos hD, if_neg (by decide), if_pos (Or.inr hD)]
    · rw [if_neg hD, if_pos rfl, if_neg (fun z => z.elim hN hD)]
theorem item_M {R : St} (hx : TY d oc (R.1 4) (R.1 5)) {q : Nat} (h : isN d oc q ∨ isD d oc q) : M_item (sI R 21 0 (nI q)) = some (nI (itM (itN d oc q)), sI R 21 0 (nI (itP d oc q))) := by
  have h256 : ∀ i, i < d → oc i < 256 := fun i hi => (hx.2.2 i hi).1
  have hd := hx.1
  have hlt : q < d := h.elim (fun z => z.1) (fun z => z.1)
  have rN : (¬ oct d oc q < (65 : Int32) ∧ ¬ (90 : Int32) < oct d oc q) ↔ (q < d ∧ 65 ≤ oc q ∧ oc q ≤ 90) := oct_rng h256 65 90 (by decide) (by decide)
  have ho : oct d oc q = nI (oc q) := if_pos hlt
  have s21 : ∀ v, (sI R 21 0 v).1 21 0 = v := fun _ => rfl
  unfold M_item
  rw [here_R hx (by omega), bp_some, lt_is, s21, nI_1, sI_sI, isName_M (P := isN d oc q) rN.symm, bp_some]
  by_cases hN : isN d oc q
  · have h65 := hN.2.1
    have h90 := hN.2.2
    rw [if_pos hN, if_neg (by decide), ho, show (65 : Int32) = nI 65 from rfl, pk_sub h65]
    unfold itN itP itM
    rw [if_pos h65, if_pos h65, if_pos (by omega)]
  · have hD := h.resolve_left hN
    have h49 := hD.2.1
    have h55 := hD.2.2
    have hkd : M_kindOf (oct d oc (q + 1)) = some (if kdAt d oc (q + 1) = 9 then -1 else nI (kdAt d oc (q + 1))) := by
      unfold oct kdAt
      by_cases h1 : q + 1 < d
      · rw [if_pos h1, if_pos h1]; exact kd_M _ (h256 _ h1)
      · rw [if_neg h1, if_neg h1]; decide +kernel
    have kle := kdAt_le d oc (q + 1)
    rw [if_neg hN, if_pos rfl, here_R hx (by omega), bp_some, hkd, bp_some, ho, show (48 : Int32) = nI 48 from rfl, pk_sub (by omega), show (10 : Int32) = nI 10 from rfl, pk_mul, show (100 : Int32) = nI 100 from rfl, nI_add]
    have iN : itN d oc q = 26 + (oc q - 49) * 10 + kdAt d oc (q + 1) := by unfold itN; rw [if_neg (by omega)]
    have iM : itM (itN d oc q) = 100 + 10 * (oc q - 48) + (if kdAt d oc (q + 1) = 9 then 0 else kdAt d oc (q + 1) + 1) := by
      unfold itM
      rw [iN, if_neg (by omega)]
      have e1 : (26 + (oc q - 49) * 10 + kdAt d oc (q + 1) - 26) / 10 = oc q - 49 := by omega
      have e2 : (26 + (oc q - 49) * 10 + kdAt d oc (q + 1) - 26) % 10 = kdAt d oc (q + 1) := by omega
      rw [e1, e2]
      omega
    have iP : itP d oc q = if kdAt d oc (q + 1) = 9 then q + 1 else q + 2 := by unfold itP; rw [if_neg (by omega)]
    rw [iM, iP]
    by_cases k9 : kdAt d oc (q + 1) = 9
    · rw [if_pos k9, if_pos (by decide), lt_is, s21, sI_sI, if_pos k9, if_pos k9, show nI (q + 1) + 0 = nI (q + 1) from nI_add (q + 1) 0]
      rw [show nI (100 + 10 * (oc q - 48)) + -1 + 1 = nI (100 + 10 * (oc q - 48)) by grind]
      rw [show 100 + 10 * (oc q - 48) + 0 = 100 + 10 * (oc q - 48) from rfl]
    · rw [if_neg k9, if_neg (nI_pos (by omega)), lt_is, s21, sI_sI, if_neg k9, if_neg k9, nI_add, nI_1, nI_1]
      rfl
theorem figs_M : ∀ (m f v p : Nat) (R : St), TY d oc (R.1 4) (R.1 5) → R.1 22 0 = -1 → m ≤ 3 → m + 2 ≤ f → p ≤ d → M_figures_l4 2000 f (sI R 21 0 (nI p)) (nI v) (nI (3 - m)) = some (nI (figP d oc m v p).1, cI (isF d oc (figP d oc m v p).2) (sI (sI R 21 0 (nI (figP d oc m v p).2)) 22 0 (nI (figP d oc m v p).2)) (cI (m = 3 ∧ ¬ isF d oc p) (sI (sI R 21 0 (nI p)) 22 0 (nI p)) (sI R 21 0 (nI (figP d oc m v p).2)))) := by
  intro m
  induction m with
  | zero =>
    intro f v p R hx e22 h1 h2 hp
    obtain ⟨f, rfl⟩ : ∃ g, f = g + 2 := ⟨f - 2, by omega⟩
    have hd := hx.1
    have h256 : ∀ i, i < d → oc i < 256 := fun i hi => (hx.2.2 i hi).1
    have rF : (¬ oct d oc p < (48 : Int32) ∧ ¬ (57 : Int32) < oct d oc p) ↔ (p < d ∧ 48 ≤ oc p ∧ oc p ≤ 57) := oct_rng h256 48 57 (by decide) (by decide)
    have s22 : (sI R 21 0 (nI p)).1 22 0 = -1 := e22
    have s21 : (sI R 21 0 (nI p)).1 21 0 = nI p := rfl
    unfold M_figures_l4 figP
    rw [s22, if_neg (by decide), here_R hx (by omega), bp_some, bp_some]
    by_cases hf : isF d oc p
    · rw [if_neg (rF.mpr hf).1, if_neg (rF.mpr hf).2, if_pos (by decide), s21, stop_M s22, bp_some, cI_t hf]
      unfold M_figures_l4
      have : (sI (sI R 21 0 (nI p)) 22 0 (nI p)).1 22 0 = nI p := rfl
      rw [this, if_pos (nI_pos' (by omega)), if_neg (by decide)]
    · rw [cI_f hf, cI_f (by omega)]
      by_cases h3 : oct d oc p < (48 : Int32)
      · rw [if_pos h3, if_neg (by decide)]
      · rw [if_neg h3, if_pos (show (57 : Int32) < oct d oc p from Classical.byContradiction fun z => hf (rF.mp ⟨h3, z⟩)), if_neg (by decide)]
  | succ m ih =>
    intro f v p R hx e22 h1 h2 hp
    obtain ⟨f, rfl⟩ : ∃ g, f = g + 1 := ⟨f - 1, by omega⟩
    have hd := hx.1
    have h256 : ∀ i, i < d → oc i < 256 := fun i hi => (hx.2.2 i hi).1
    have rF : (¬ oct d oc p < (48 : Int32) ∧ ¬ (57 : Int32) < oct d oc p) ↔ (p < d ∧ 48 ≤ oc p ∧ oc p ≤ 57) := oct_rng h256 48 57 (by decide) (by decide)
    have s22 : (sI R 21 0 (nI p)).1 22 0 = -1 := e22
    have s21 : (sI R 21 0 (nI p)).1 21 0 = nI p := rfl
    unfold M_figures_l4
    rw [s22, if_neg (by decide), here_R hx (by omega), bp_some, bp_some, bp_some]
    by_cases hf : isF d oc p
    · have ho : oct d oc p = nI (oc p) := if_pos hf.1
      have hlt := hf.1
      have h48 := hf.2.1
      have efig : figP d oc (m + 1) v p = figP d oc m (10 * v + (oc p - 48)) (p + 1) := by
        show (if p < d ∧ 48 ≤ oc p ∧ oc p ≤ 57 then _ else _) = _
        exact if_pos hf
      rw [if_neg (rF.mpr hf).1, if_neg (rF.mpr hf).2, if_neg (show ¬ nI (3 - (m + 1)) = (3 : Int32) from neq 3 (by omega) (by omega) (by decide)), lt_is, lt_is, lt_is, s21, nI_1, nI_1, sI_sI, ho, show (10 : Int32) = nI 10 from rfl, pk_mul, nI_add, show (48 : Int32) = nI 48 from rfl, pk_sub (by omega), show 3 - (m + 1) + 1 = 3 - m by omega, show 10 * v + oc p - 48 = 10 * v + (oc p - 48) by omega, ih f (10 * v + (oc p - 48)) (p + 1) R hx e22 (by omega) (by omega) (by omega), efig]
      rw [cI_f (P := m = 3 ∧ ¬ isF d oc (p + 1)) (by omega), cI_f (P := m + 1 = 3 ∧ ¬ isF d oc p) (fun z => z.2 hf)]
    · have efig : figP d oc (m + 1) v p = (v, p) := by
        show (if p < d ∧ 48 ≤ oc p ∧ oc p ≤ 57 then _ else _) = _
        exact if_neg hf
      rw [efig, cI_f (P := isF d oc (v, p).2) hf]
      have out : (if nI (3 - (m + 1)) = 0 then bp (M_stop (sI R 21 0 (nI p)) ((sI R 21 0 (nI p)).1 21 0)) fun σ10 => some (nI v, σ10) else some (nI v, sI R 21 0 (nI p))) = some (nI v, cI (m + 1 = 3 ∧ ¬ isF d oc p) (sI (sI R 21 0 (nI p)) 22 0 (nI p)) (sI R 21 0 (nI p))) := by
        by_cases hm : m + 1 = 3
        · rw [if_pos (by rw [hm]; rfl), s21, stop_M s22, bp_some, cI_t ⟨hm, hf⟩]
        · rw [if_neg (show ¬ nI (3 - (m + 1)) = (0 : Int32) from neq 0 (by omega) (by omega) (by decide)), cI_f (fun z => hm z.1)]
      by_cases h3 : oct d oc p < (48 : Int32)
      · rw [if_pos h3]; exact out
      · rw [if_neg h3, if_pos (show (57 : Int32) < oct d oc p from Classical.byContradiction fun z => hf (rF.mp ⟨h3, z⟩))]
        exact out
abbrev SM : List Nat := [15, 16, 17, 18, 19, 20, 21, 22]
/-- the reference behind a rule -/
def outM (τ : St) (nr : Nat) (o : Nat ⊕ rl × Nat) (τ' : St) : Prop := fr SM τ τ' ∧ match o with
  | .inl f => τ'.1 22 0 = nI f ∧ ∃ pp, pp ≤ 801 ∧ τ'.1 21 0 = nI pp
  | .inr (t, p') => τ'.1 22 0 = -1 ∧ τ'.1 21 0 = nI p' ∧ τ'.1 15 0 = nI (nr + 1) ∧ ∀ r, τ'.1 16 r = (if r = nr then nI t.1 else τ.1 16 r) ∧ τ'.1 17 r = (if r = nr then nI (itM t.2.1) else τ.1 17 r) ∧ τ'.1 18 r = (if r = nr then oM t.2.2.1 else τ.1 18 r) ∧ τ'.1 19 r = (if r = nr then nI t.2.2.2.1 else τ.1 19 r) ∧ τ'.1 20 r = (if r = nr then nI t.2.2.2.2 else τ.1 20 r)
/-- the end of a rule -/
theorem end_M {R τ0 : St} (hx : TY d oc (R.1 4) (R.1 5)) {nr q9 : Nat} {t : rl} (hnr : nr < 60) (hq : q9 ≤ d) (hs : skp d oc q9 = q9) (e22 : R.1 22 0 = -1) (e15 : R.1 15 0 = nI nr) (hf : fr SM τ0 R)
    (ha : ∀ r, R.1 16 r = (if r = nr then nI t.1 else τ0.1 16 r) ∧ R.1 17 r = (if r = nr then nI (itM t.2.1) else τ0.1 17 r) ∧ R.1 18 r = (if r = nr then oM t.2.2.1 else τ0.1 18 r) ∧ R.1 19 r = (if r = nr then nI t.2.2.2.1 else τ0.1 19 r) ∧ R.1 20 r = (if r = nr then nI t.2.2.2.2 else τ0.1 20 r)) :
    ∃ τ', M_rule_b195 2000 (sI R 21 0 (nI q9)) = some τ' ∧ outM τ0 nr (ru9 d oc q9 t.1 t.2.1 t.2.2.1 t.2.2.2.1 t.2.2.2.2) τ' := by
  have h256 : ∀ i, i < d → oc i < 256 := fun i hi => (hx.2.2 i hi).1
  have hd := hx.1
  have s22 : (sI R 21 0 (nI q9)).1 22 0 = -1 := e22
  have s21 : (sI R 21 0 (nI q9)).1 21 0 = nI q9 := rfl
  unfold M_rule_b195 ru9
  rw [s22, if_neg (by decide), here_R hx (by omega), bp_some, hs, show (59 : Int32) = nI 59 from rfl]
  by_cases h : at_ d oc q9 59
  · rw [if_pos ((oct_eq h256 (by decide)).mpr h), lt_is, lt_is, s21, nI_1, sI_sI, cI_t h]
    have s15 : (sI R 21 0 (nI (q9 + 1))).1 15 0 = nI nr := e15
    rw [s15, nI_1]
    exact ⟨_, rfl, (hf.tr (fr.sI (by decide))).tr (fr.sI (by decide)), e22, rfl, rfl, ha⟩
  · rw [if_neg (fun z => h ((oct_eq h256 (by decide)).mp z)), s21, stop_M s22, bp_some, lt_is, lt_is, cI_f h]
    exact ⟨_, rfl, (((hf.tr (fr.sI (by decide))).tr (fr.sI (by decide))).tr (fr.sI (by decide))).tr (fr.sI (by decide)), rfl, q9 + 1, by omega, nI_1 q9⟩
/-- from the cost on -/
theorem six_M {R τ0 : St} (hx : TY d oc (R.1 4) (R.1 5)) {nr q6 A X Y L : Nat} (hnr : nr < 60) (hq : q6 ≤ d) (hs : skp d oc q6 = q6) (e22 : R.1 22 0 = -1) (e15 : R.1 15 0 = nI nr) (hf : fr SM τ0 R)
    (ha : ∀ r, R.1 16 r = (if r = nr then nI A else τ0.1 16 r) ∧ R.1 17 r = (if r = nr then nI (itM X) else τ0.1 17 r) ∧ R.1 18 r = (if r = nr then oM Y else τ0.1 18 r) ∧ R.1 19 r = (if r = nr then nI 0 else τ0.1 19 r) ∧ R.1 20 r = (if r = nr then nI L else τ0.1 20 r)) :
    ∃ τ', M_rule_b158 2000 (sI R 21 0 (nI q6)) (nI nr) = some τ' ∧ outM τ0 nr (ru6 d oc q6 A X Y L) τ' := by
  have h256 : ∀ i, i < d → oc i < 256 := fun i hi => (hx.2.2 i hi).1
  have hd := hx.1
  have s21 : (sI R 21 0 (nI q6)).1 21 0 = nI q6 := rfl
  unfold M_rule_b158 ru6
  rw [here_R hx (by omega), bp_some, hs, show (58 : Int32) = nI 58 from rfl]
  by_cases h : at_ d oc q6 58
  · have hlt := h.1
    rw [if_pos ((oct_eq h256 (by decide)).mpr h), lt_is, s21, nI_1, sI_sI, cI_t h, blanks_R hx (by omega), bp_some]
    have a7 := skp_le d oc (show q6 + 1 ≤ d by omega)
    generalize hq7 : skp d oc (q6 + 1) = q7 at *
    have fg := figs_M (d := d) (oc := oc) 3 2000 0 q7 R hx e22 (by decide) (by decide) a7
    have b := figP_bd (d := d) (oc := oc) 3 0 q7 a7
    unfold M_figures
    rw [show (0 : Int32) = nI (3 - 3) from rfl]
    rw [show M_figures_l4 2000 2000 (sI R 21 0 (nI q7)) (nI (3 - 3)) (nI (3 - 3)) = M_figures_l4 2000 2000 (sI R 21 0 (nI q7)) (nI 0) (nI (3 - 3)) from rfl, fg, bd_some, gd_nI (by omega) (by decide), lt_is, nI_clamp (by omega)]
    generalize hv : (figP d oc 3 0 q7).1 = v at *
    generalize hp8 : (figP d oc 3 0 q7).2 = p8 at *
    have w19 : ∀ r, (sI R 19 nr (nI v)).1 16 r = (if r = nr then nI A else τ0.1 16 r) ∧ (sI R 19 nr (nI v)).1 17 r = (if r = nr then nI (itM X) else τ0.1 17 r) ∧ (sI R 19 nr (nI v)).1 18 r = (if r = nr then oM Y else τ0.1 18 r) ∧ (sI R 19 nr (nI v)).1 19 r = (if r = nr then nI v else τ0.1 19 r) ∧ (sI R 19 nr (nI v)).1 20 r = (if r = nr then nI L else τ0.1 20 r) := by
      intro r
      have := ha r
      refine ⟨this.1, this.2.1, this.2.2.1, ?_, this.2.2.2.2⟩
      rw [sI_1, if_pos rfl]
      by_cases e : r = nr
      · rw [if_pos e, if_pos e]
      · rw [if_neg e, if_neg e, this.2.2.2.1, if_neg e]
    have bad : ∀ (R' : St) (p f : Nat), fr SM τ0 R' → TY d oc (R'.1 4) (R'.1 5) → R'.1 22 0 = nI f → f < 2 ^ 31 → p ≤ d → ∃ τ', (bp (M_blanks 2000 (sI R' 21 0 (nI p))) fun σ15 => M_rule_b195 2000 σ15) = some τ' ∧ fr SM τ0 τ' ∧ τ'.1 22 0 = nI f ∧ ∃ pp, pp ≤ 801 ∧ τ'.1 21 0 = nI pp := by
      intro R' p f h1 h2 h3 h4 h5
      have s22' : (sI R' 21 0 (nI (skp d oc p))).1 22 0 = nI f := h3
      rw [blanks_R h2 h5, bp_some]
      unfold M_rule_b195
      rw [s22', if_pos (nI_pos' h4), lt_is, lt_is]
      have := skp_le d oc h5
      exact ⟨_, rfl, ((h1.tr (fr.sI (by decide))).tr (fr.sI (by decide))).tr (fr.sI (by decide)), h3, skp d oc p + 1, by omega, nI_1 (skp d oc p)⟩
    by_cases hf7 : isF d oc q7
    · rw [cI_t hf7]
      by_cases hf8 : isF d oc p8
      · rw [cI_t hf8]
        have hs8 : skp d oc p8 = p8 := by rw [skp_eq, if_neg (by have := hf8.2; omega)]
        have hn9 : ¬ at_ d oc (skp d oc p8) 59 := by rw [hs8]; have := hf8.2; omega
        have e9 : ru9 d oc p8 A X Y v L = .inl p8 := by unfold ru9; rw [cI_f hn9, hs8]
        rw [e9, sI_comm _ _ _ _ _ (show (21 : Nat) ≠ 22 by decide), sI_comm _ _ _ _ _ (show (21 : Nat) ≠ 19 by decide)]
        exact bad (sI (sI R 22 0 (nI p8)) 19 nr (nI v)) p8 p8 ((hf.tr (fr.sI (by decide))).tr (fr.sI (by decide))) hx rfl (by omega) b.2.1
      · rw [cI_f hf8, cI_f (fun z => z.2 hf7), sI_comm _ _ _ _ _ (show (21 : Nat) ≠ 19 by decide), blanks_R (R := sI R 19 nr (nI v)) hx b.2.1, bp_some]
        have := end_M (R := sI R 19 nr (nI v)) (τ0 := τ0) hx (t := (A, X, Y, v, L)) hnr (skp_le d oc b.2.1) (skp_skp d oc p8) e22 e15 (hf.tr (fr.sI (by decide))) w19
        unfold ru9 at this ⊢
        rw [skp_skp] at this
        exact this
    · rw [cI_f hf7]
      have e8 : figP d oc 3 0 q7 = (0, q7) := by
        show (if q7 < d ∧ 48 ≤ oc q7 ∧ oc q7 ≤ 57 then _ else _) = _
        exact if_neg hf7
      have ep : p8 = q7 := by rw [← hp8, e8]
      rw [ep, cI_f hf7, cI_t ⟨rfl, hf7⟩, sI_comm _ _ _ _ _ (show (21 : Nat) ≠ 22 by decide), sI_comm _ _ _ _ _ (show (21 : Nat) ≠ 19 by decide)]
      exact bad (sI (sI R 22 0 (nI q7)) 19 nr (nI v)) q7 q7 ((hf.tr (fr.sI (by decide))).tr (fr.sI (by decide))) hx rfl (by omega) a7
  · rw [if_neg (fun z => h ((oct_eq h256 (by decide)).mp z)), cI_f h]
    exact end_M (R := R) (τ0 := τ0) hx (t := (A, X, Y, 0, L)) hnr hq hs e22 e15 hf ha
theorem rule_M (hx : TY d oc (τ.1 4) (τ.1 5)) {p nr : Nat} (hp : p ≤ d) (hs : skp d oc p = p) (e : τ.1 21 0 = nI p) (e15 : τ.1 15 0 = nI nr) (e22 : τ.1 22 0 = -1) (hnr : nr < 60) : ∃ τ', M_rule 2000 τ = some τ' ∧ outM τ nr (ruleP d oc p) τ' := by
  have h256 : ∀ i, i < d → oc i < 256 := fun i hi => (hx.2.2 i hi).1
  have hd := hx.1
  have rN : (¬ oct d oc p < (65 : Int32) ∧ ¬ (90 : Int32) < oct d oc p) ↔ (p < d ∧ 65 ≤ oc p ∧ oc p ≤ 90) := oct_rng h256 65 90 (by decide) (by decide)
  unfold M_rule ruleP
  rw [lt_is, here_M hx (by omega) e, bp_some, isName_M (P := isN d oc p) rN.symm, bp_some, e15, hs]
  by_cases h : isN d oc p
  · have hlt := h.1
    have ho : oct d oc p = nI (oc p) := if_pos h.1
    have h65 := h.2.1
    have here9 : M_here (sI τ 20 nr (nI p)) = some (oct d oc p) := here_M (τ := sI τ 20 nr (nI p)) hx (by omega) e
    rw [if_pos h, if_neg (by decide), cI_t h, gd_nI (by omega) (by decide), nI_clamp (by omega), lt_is, e, here9, bp_some, gd_nI (by omega) (by decide), lt_is, gd_nI (by omega) (by decide), lt_is, gd_nI (by omega) (by decide), lt_is, lt_is, ho, show (65 : Int32) = nI 65 from rfl, pk_sub h65]
    have e21 : (sI (sI (sI (sI τ 20 nr (nI p)) 16 nr (nI (oc p - 65))) 18 nr (-1)) 19 nr 0).1 21 0 = nI p := e
    rw [e21, nI_1]
    have hR1 : ∀ r, (sI (sI (sI (sI τ 20 nr (nI p)) 16 nr (nI (oc p - 65))) 18 nr (-1)) 19 nr 0).1 16 r = (if r = nr then nI (oc p - 65) else τ.1 16 r) ∧ (sI (sI (sI (sI τ 20 nr (nI p)) 16 nr (nI (oc p - 65))) 18 nr (-1)) 19 nr 0).1 17 r = τ.1 17 r ∧ (sI (sI (sI (sI τ 20 nr (nI p)) 16 nr (nI (oc p - 65))) 18 nr (-1)) 19 nr 0).1 18 r = (if r = nr then oM 96 else τ.1 18 r) ∧ (sI (sI (sI (sI τ 20 nr (nI p)) 16 nr (nI (oc p - 65))) 18 nr (-1)) 19 nr 0).1 19 r = (if r = nr then nI 0 else τ.1 19 r) ∧ (sI (sI (sI (sI τ 20 nr (nI p)) 16 nr (nI (oc p - 65))) 18 nr (-1)) 19 nr 0).1 20 r = (if r = nr then nI p else τ.1 20 r) := by
      intro r
      simp only [sI_1]
      exact ⟨rfl, rfl, rfl, rfl, rfl⟩
    have hfr1 : fr SM τ (sI (sI (sI (sI τ 20 nr (nI p)) 16 nr (nI (oc p - 65))) 18 nr (-1)) 19 nr 0) := (((fr.sI (by decide)).tr (fr.sI (by decide))).tr (fr.sI (by decide))).tr (fr.sI (by decide))
    have hx1 : TY d oc ((sI (sI (sI (sI τ 20 nr (nI p)) 16 nr (nI (oc p - 65))) 18 nr (-1)) 19 nr 0).1 4) ((sI (sI (sI (sI τ 20 nr (nI p)) 16 nr (nI (oc p - 65))) 18 nr (-1)) 19 nr 0).1 5) := hx
    have e221 : (sI (sI (sI (sI τ 20 nr (nI p)) 16 nr (nI (oc p - 65))) 18 nr (-1)) 19 nr 0).1 22 0 = -1 := e22
    have e151 : (sI (sI (sI (sI τ 20 nr (nI p)) 16 nr (nI (oc p - 65))) 18 nr (-1)) 19 nr 0).1 15 0 = nI nr := e15
    generalize (sI (sI (sI (sI τ 20 nr (nI p)) 16 nr (nI (oc p - 65))) 18 nr (-1)) 19 nr 0) = R1 at *
    rw [blanks_R hx1 (by omega), bp_some]
    have a4 := skp_le d oc (show p + 1 ≤ d by omega)
    generalize hq1 : skp d oc (p + 1) = q1 at *
    have s21 : ∀ (R : St) (v : Int32), (sI R 21 0 v).1 21 0 = v := fun _ _ => rfl
    rw [here_R hx1 (by omega), bp_some, show (61 : Int32) = nI 61 from rfl]
    unfold ru1
    by_cases h1 : at_ d oc q1 61
    · have hl1 := h1.1
      rw [if_pos ((oct_eq h256 (by decide)).mpr h1), cI_t h1, lt_is, s21, nI_1, sI_sI, blanks_R hx1 (by omega), bp_some]
      have b4 := skp_le d oc (show q1 + 1 ≤ d by omega)
      generalize hq2 : skp d oc (q1 + 1) = q2 at *
      rw [isItem_M hx1 (by omega), bp_some]
      unfold ru2
      by_cases h2 : isN d oc q2 ∨ isD d oc q2
      · have c1 := itP_le h2
        have c2 := itN_lt h2
        rw [if_pos h2, if_neg (by decide), cI_t h2, item_M hx1 h2, bd_some, gd_nI (by omega) (by decide), lt_is, sI_comm _ _ _ _ _ (show (21 : Nat) ≠ 17 by decide)]
        have hR2 : ∀ r, (sI R1 17 nr (nI (itM (itN d oc q2)))).1 16 r = (if r = nr then nI (oc p - 65) else τ.1 16 r) ∧ (sI R1 17 nr (nI (itM (itN d oc q2)))).1 17 r = (if r = nr then nI (itM (itN d oc q2)) else τ.1 17 r) ∧ (sI R1 17 nr (nI (itM (itN d oc q2)))).1 18 r = (if r = nr then oM 96 else τ.1 18 r) ∧ (sI R1 17 nr (nI (itM (itN d oc q2)))).1 19 r = (if r = nr then nI 0 else τ.1 19 r) ∧ (sI R1 17 nr (nI (itM (itN d oc q2)))).1 20 r = (if r = nr then nI p else τ.1 20 r) := by
          intro r
          have := hR1 r
          refine ⟨this.1, ?_, this.2.2⟩
          rw [sI_1, if_pos rfl, this.2.1]
        have hfr2 : fr SM τ (sI R1 17 nr (nI (itM (itN d oc q2)))) := hfr1.tr (fr.sI (by decide))
        have hx2 : TY d oc ((sI R1 17 nr (nI (itM (itN d oc q2)))).1 4) ((sI R1 17 nr (nI (itM (itN d oc q2)))).1 5) := hx1
        have e222 : (sI R1 17 nr (nI (itM (itN d oc q2)))).1 22 0 = -1 := e221
        have e152 : (sI R1 17 nr (nI (itM (itN d oc q2)))).1 15 0 = nI nr := e151
        generalize (sI R1 17 nr (nI (itM (itN d oc q2)))) = R2 at *
        rw [blanks_R hx2 c1.1, bp_some]
        have c4 := skp_le d oc c1.1
        have c5 := skp_skp d oc (itP d oc q2)
        generalize hq4 : skp d oc (itP d oc q2) = q4 at *
        rw [isItem_M hx2 (by omega), bp_some]
        unfold ru4
        by_cases h4 : isN d oc q4 ∨ isD d oc q4
        · have d1 := itP_le h4
          have d2 := itN_lt h4
          rw [if_pos h4, if_neg (by decide), cI_t h4, item_M hx2 h4, bd_some, gd_nI (by omega) (by decide), lt_is, sI_comm _ _ _ _ _ (show (21 : Nat) ≠ 18 by decide), blanks_R (R := sI R2 18 nr (nI (itM (itN d oc q4)))) hx2 d1.1, bp_some]
          have := six_M (R := sI R2 18 nr (nI (itM (itN d oc q4)))) (τ0 := τ) (A := oc p - 65) (X := itN d oc q2) (Y := itN d oc q4) (L := p) (nr := nr) hx2 hnr (skp_le d oc d1.1) (skp_skp d oc _) e222 e152 (hfr2.tr (fr.sI (by decide))) (fun r => by
            have := hR2 r
            refine ⟨this.1, this.2.1, ?_, this.2.2.2⟩
            rw [sI_1, if_pos rfl, show oM (itN d oc q4) = nI (itM (itN d oc q4)) from if_neg (by omega)]
            by_cases e : r = nr
            · rw [if_pos e, if_pos e]
            · rw [if_neg e, if_neg e, this.2.2.1, if_neg e])
          unfold ru6 at this ⊢
          rw [skp_skp] at this
          exact this
        · rw [if_neg h4, if_pos rfl, cI_f h4]
          exact six_M (R := R2) (τ0 := τ) (A := oc p - 65) (X := itN d oc q2) (Y := 96) (L := p) (nr := nr) hx2 hnr c4 c5 e222 e152 hfr2 hR2
      · have s22 : (sI R1 21 0 (nI q2)).1 22 0 = -1 := e221
        rw [if_neg h2, if_pos rfl, cI_f h2, s21, stop_M s22, bp_some]
        exact ⟨_, rfl, (hfr1.tr (fr.sI (by decide))).tr (fr.sI (by decide)), rfl, q2, by omega, rfl⟩
    · have s22 : (sI R1 21 0 (nI q1)).1 22 0 = -1 := e221
      rw [if_neg (fun z => h1 ((oct_eq h256 (by decide)).mp z)), cI_f h1, s21, stop_M s22, bp_some]
      exact ⟨_, rfl, (hfr1.tr (fr.sI (by decide))).tr (fr.sI (by decide)), rfl, q1, by omega, rfl⟩
  · rw [if_neg h, if_pos rfl, cI_f h, e, stop_M e22, bp_some]
    exact ⟨_, rfl, fr.sI (by decide), rfl, p, by omega, e⟩
end

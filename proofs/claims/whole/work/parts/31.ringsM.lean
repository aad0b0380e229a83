/-! rings, the reference -/
theorem unary_M {L : List rl} {τ : St} (hok : okL L) (h : foM L τ) {r : Nat} (hr : r < L.length) : M_isUnary τ (nI r) = some (if isU (L.getD r z0) then 1 else 0) := by
  have := hok.1
  obtain ⟨-, h1, h2, -⟩ := h r hr
  obtain ⟨k1, k2, k3, -⟩ := hok.2 r hr
  have hU := isU_iff (L.getD r z0)
  have hi := itM_lt k2
  unfold M_isUnary
  rw [gd_nI (by omega) (by decide), nI_clamp (by omega), h1, h2]
  unfold oM
  by_cases e : (L.getD r z0).2.2.1 = 96
  · rw [if_pos e, if_pos rfl, gd_nI (by omega) (by decide)]
    by_cases e2 : (L.getD r z0).2.1 < 26
    · have : itM (L.getD r z0).2.1 < 26 := by unfold itM; rw [if_pos e2]; exact e2
      rw [if_neg (show ¬ (100 : Int32) ≤ nI (itM (L.getD r z0).2.1) from nge 100 (by omega) (by decide)), if_pos (hU.mpr ⟨e, e2⟩)]
    · have : 100 ≤ itM (L.getD r z0).2.1 := by unfold itM; rw [if_neg e2]; omega
      rw [if_pos (show (100 : Int32) ≤ nI (itM (L.getD r z0).2.1) from nle 100 this (by omega)), if_neg (fun z => e2 (hU.mp z).2)]
  · have hy : itM (L.getD r z0).2.2.1 < 180 := itM_lt (by omega)
    rw [if_neg e, if_neg (nI_nm1 (by omega)), if_neg (fun z => e (hU.mp z).1)]
theorem itM_26 {x : Nat} (h : x < 26) : itM x = x := if_pos h
theorem fr2_M : ∀ (m i f : Nat) (τ : St), i + m = 676 → m + 1 ≤ f → ∃ τ', fr [23] τ τ' ∧ M_findRings_l2 2000 f τ (nI i) = M_findRings_l24 2000 2000 τ' 0 ∧ (∀ a, a < 676 → i ≤ a → τ'.1 23 a = 0) ∧ ∀ a, a < i → τ'.1 23 a = τ.1 23 a := by
  intro m
  induction m with
  | zero =>
    intro i f τ hi hf
    obtain ⟨f, rfl⟩ : ∃ k, f = k + 1 := ⟨f - 1, by omega⟩
    unfold M_findRings_l2
    rw [if_pos (show (676 : Int32) ≤ nI i from nle 676 (by omega) (by omega))]
    exact ⟨τ, fr.rf, rfl, fun a h1 h2 => by omega, fun _ _ => rfl⟩
  | succ m ih =>
    intro i f τ hi hf
    obtain ⟨f, rfl⟩ : ∃ k, f = k + 1 := ⟨f - 1, by omega⟩
    unfold M_findRings_l2
    rw [if_neg (show ¬ (676 : Int32) ≤ nI i from nge 676 (by omega) (by decide)), gd_nI (by omega) (by decide), lt_is, lt_is, nI_1, nI_clamp (by omega)]
    obtain ⟨τ', h1, h2, h3, h4⟩ := ih (i + 1) f (sI τ 23 i (vp_nar .boolean 0)) (by omega) (by omega)
    refine ⟨τ', (fr.sI (by decide)).tr h1, h2, fun a ha hia => ?_, fun a ha => ?_⟩
    · by_cases e : a = i
      · rw [h4 a (by omega), sI_1, if_pos rfl, if_pos e]; rfl
      · exact h3 a ha (by omega)
    · rw [h4 a (by omega), sI_1, if_pos rfl, if_neg (by omega)]
theorem mM_set {R R' : MX} {τ : St} {a b : Nat} {x : Int32} (h : mM R (τ.1 23)) (ha : a < 26) (hb : b < 26) (h1 : x = if R' a b then 1 else 0) (h2 : ∀ p q, ¬ (p = a ∧ q = b) → R' p q = R p q) : mM R' ((sI τ 23 (26 * a + b) x).1 23) := by
  intro p q hp hq
  by_cases e : p = a ∧ q = b
  · rw [sI_1, if_pos rfl, if_pos (by omega), e.1, e.2]; exact h1
  · rw [sI_1, if_pos rfl, if_neg (by omega), h2 p q e]; exact h p q hp hq
theorem mM_eq {R R' : MX} {f : Nat → Int32} (h : mM R f) (e : ∀ a b, a < 26 → b < 26 → R' a b = R a b) : mM R' f := fun a b ha hb => by
  rw [e a b ha hb]; exact h a b ha hb
theorem fr24_M {L : List rl} (hok : okL L) : ∀ (m r f : Nat) (τ : St), r + m = L.length → m + 1 ≤ f → foM L τ → τ.1 15 0 = nI L.length → mM (edg L r) (τ.1 23) → ∃ τ', fr [23] τ τ' ∧ M_findRings_l24 2000 f τ (nI r) = M_findRings_l70 2000 2000 τ' 0 ∧ mM (edg L L.length) (τ'.1 23) := by
  have hL := hok.1
  intro m
  induction m with
  | zero =>
    intro r f τ hr hf hfo e hm
    obtain ⟨f, rfl⟩ : ∃ k, f = k + 1 := ⟨f - 1, by omega⟩
    unfold M_findRings_l24
    rw [e, if_pos (nI_le (by omega) (by omega))]
    have : r = L.length := by omega
    subst this
    exact ⟨τ, fr.rf, rfl, hm⟩
  | succ m ih =>
    intro r f τ hr hf hfo e hm
    obtain ⟨f, rfl⟩ : ∃ k, f = k + 1 := ⟨f - 1, by omega⟩
    obtain ⟨k1, k2, -⟩ := hok.2 r (by omega)
    obtain ⟨h1, h2, -⟩ := hfo r (by omega)
    unfold M_findRings_l24
    rw [e, if_neg (nI_ge (by omega) (by omega)), unary_M hok hfo (by omega), bp_some]
    by_cases hu : isU (L.getD r z0) = true
    · have hx26 : (L.getD r z0).2.1 < 26 := ((isU_iff _).mp hu).2
      rw [hu, if_pos rfl, if_neg (by decide), gd_nI (by omega) (by decide), nI_clamp (show r < 2 ^ 31 by omega), h1, h2, gd_nI (by omega) (by decide), itM_26 hx26, show (26 : Int32) = nI 26 from rfl, pk_mul, nI_add, gd_nI (by omega) (by decide), lt_is, lt_is, nI_1, nI_clamp (show 26 * (L.getD r z0).1 + (L.getD r z0).2.1 < 2 ^ 31 by omega)]
      obtain ⟨τ', f1, f2, f3⟩ := ih (r + 1) f (sI τ 23 (26 * (L.getD r z0).1 + (L.getD r z0).2.1) (vp_nar .boolean 1)) (by omega) (by omega) hfo e (mM_set hm k1 hx26 (by
          show _ = if (edg L r _ _ || (isU (L.getD r z0) && _ == _ && _ == _)) = true then _ else _
          rw [hu]
          simp only [BEq.rfl, Bool.true_and, Bool.or_true, if_true]
          rfl) (fun p q hpq => by
          show (edg L r p q || (isU (L.getD r z0) && (L.getD r z0).1 == p && (L.getD r z0).2.1 == q)) = _
          have : ((L.getD r z0).1 == p && (L.getD r z0).2.1 == q) = false := by
            rw [Bool.and_eq_false_iff]
            by_cases e1 : (L.getD r z0).1 = p
            · right
              exact beq_eq_false_iff_ne.mpr (fun z => hpq ⟨e1.symm, z.symm⟩)
            · left
              exact beq_eq_false_iff_ne.mpr e1
          rw [Bool.and_assoc, this, Bool.and_false, Bool.or_false]))
      exact ⟨τ', (fr.sI (by decide)).tr f1, f2, f3⟩
    · have hu' : isU (L.getD r z0) = false := by simpa using hu
      rw [hu', if_pos (show (if false = true then (1 : Int32) else 0) = 0 from rfl), lt_is, nI_1]
      refine ih (r + 1) f τ (by omega) (by omega) hfo e ?_
      have : edg L (r + 1) = edg L r := by
        funext a b
        show (edg L r a b || (isU (L.getD r z0) && _ && _)) = _
        rw [hu', Bool.false_and, Bool.false_and, Bool.or_false]
      rw [this]; exact hm
def mid2 (R : MX) (k i j : Nat) : MX := fun x y => if x < i ∨ (x = i ∧ y < j) then wS R k x y else R x y
theorem bor (x y : Bool) : vp_nar .boolean ((if x then (1 : Int32) else 0) ||| (if y then 1 else 0)) = if (x || y) then 1 else 0 := by cases x <;> cases y <;> rfl
theorem fr86_M {R : MX} {k i : Nat} (hk : k < 26) (hi : i < 26) (k70 : St → Int32 → Option St) (k78 : St → Int32 → Int32 → Option St) : ∀ (m j f : Nat) (τ : St), j + m = 26 → m + 1 ≤ f → mM (mid2 R k i j) (τ.1 23) → ∃ τ', fr [23] τ τ' ∧ M_findRings_l86 2000 k70 k78 f τ (nI k) (nI i) (nI j) = k78 τ' (nI k) (nI (i + 1)) ∧ mM (mid2 R k (i + 1) 0) (τ'.1 23) := by
  intro m
  induction m with
  | zero =>
    intro j f τ hj hf hm
    obtain ⟨f, rfl⟩ : ∃ k, f = k + 1 := ⟨f - 1, by omega⟩
    unfold M_findRings_l86
    rw [if_pos (show (26 : Int32) ≤ nI j from nle 26 (by omega) (by omega)), lt_is, nI_1]
    refine ⟨τ, fr.rf, rfl, mM_eq hm (fun a b ha hb => ?_)⟩
    unfold mid2
    by_cases h : a < i + 1
    · rw [if_pos (by omega), if_pos (by omega)]
    · rw [if_neg (by omega), if_neg (by omega)]
  | succ m ih =>
    intro j f τ hj hf hm
    obtain ⟨f, rfl⟩ : ∃ k, f = k + 1 := ⟨f - 1, by omega⟩
    have vij := hm i j hi (by omega)
    have vik := hm i k hi hk
    have vkj := hm k j hk (by omega)
    have eij : mid2 R k i j i j = R i j := by unfold mid2; rw [if_neg (by omega)]
    have eik : mid2 R k i j i k = R i k := by
      unfold mid2
      by_cases h : k < j
      · rw [if_pos (by omega), wS_k2]
      · rw [if_neg (by omega)]
    have ekj : mid2 R k i j k j = R k j := by
      unfold mid2
      by_cases h : k < i
      · rw [if_pos (by omega), wS_k1]
      · rw [if_neg (by omega)]
    rw [eij] at vij
    rw [eik] at vik
    rw [ekj] at vkj
    have nx : ∀ p q, ¬ (p = i ∧ q = j) → mid2 R k i (j + 1) p q = mid2 R k i j p q := fun p q h => by
      unfold mid2
      by_cases h2 : p < i ∨ (p = i ∧ q < j)
      · rw [if_pos h2, if_pos (by omega)]
      · rw [if_neg h2, if_neg (by omega)]
    have nxx : mid2 R k i (j + 1) i j = wS R k i j := by unfold mid2; rw [if_pos (by omega)]
    have go : ∀ (y : Bool), y = (R i k && R k j) → ∃ τ', fr [23] τ τ' ∧ M_findRings_l86 2000 k70 k78 f (sI τ 23 (26 * i + j) (vp_nar .boolean ((if R i j then (1 : Int32) else 0) ||| (if y then 1 else 0)))) (nI k) (nI i) (nI (j + 1)) = k78 τ' (nI k) (nI (i + 1)) ∧ mM (mid2 R k (i + 1) 0) (τ'.1 23) := by
      intro y hy
      obtain ⟨τ', f1, f2, f3⟩ := ih (j + 1) f (sI τ 23 (26 * i + j) (vp_nar .boolean ((if R i j then (1 : Int32) else 0) ||| (if y then 1 else 0)))) (by omega) (by omega) (mM_set hm hi (by omega) (by rw [bor, nxx, hy]; rfl) nx)
      exact ⟨τ', (fr.sI (by decide)).tr f1, f2, f3⟩
    unfold M_findRings_l86
    rw [if_neg (show ¬ (26 : Int32) ≤ nI j from nge 26 (by omega) (by decide)), show (26 : Int32) = nI 26 from rfl, pk_mul, nI_add, nI_add, pk_mul, nI_add, gd_nI (show 26 * i + j < 676 by omega) (by decide), gd_nI (show 26 * i + k < 676 by omega) (by decide), gd_nI (show 26 * i + j < 676 by omega) (by decide), gd_nI (show 26 * k + j < 676 by omega) (by decide), gd_nI (show 26 * i + j < 676 by omega) (by decide), nI_clamp (show 26 * i + k < 2 ^ 31 by omega), nI_clamp (show 26 * i + j < 2 ^ 31 by omega), nI_clamp (show 26 * k + j < 2 ^ 31 by omega), vik, vkj, vij]
    simp only [lt_is, nI_1]
    by_cases h1 : R i k = true
    · by_cases h2 : R k j = true
      · rw [h1, h2]
        exact go true (by rw [h1, h2]; rfl)
      · have h2' : R k j = false := by simpa using h2
        rw [h1, h2']
        exact go false (by rw [h1, h2']; rfl)
    · have h1' : R i k = false := by simpa using h1
      rw [h1']
      exact go false (by rw [h1']; rfl)
theorem fr78_M {R : MX} {k : Nat} (hk : k < 26) (k70 : St → Int32 → Option St) : ∀ (m i f : Nat) (τ : St), i + m = 26 → m + 1 ≤ f → mM (mid2 R k i 0) (τ.1 23) → ∃ τ', fr [23] τ τ' ∧ M_findRings_l78 2000 k70 f τ (nI k) (nI i) = k70 τ' (nI (k + 1)) ∧ mM (wS R k) (τ'.1 23) := by
  intro m
  induction m with
  | zero =>
    intro i f τ hi hf hm
    obtain ⟨f, rfl⟩ : ∃ k, f = k + 1 := ⟨f - 1, by omega⟩
    unfold M_findRings_l78
    rw [if_pos (show (26 : Int32) ≤ nI i from nle 26 (by omega) (by omega)), lt_is, nI_1]
    exact ⟨τ, fr.rf, rfl, mM_eq hm (fun a b ha hb => by unfold mid2; rw [if_pos (by omega)])⟩
  | succ m ih =>
    intro i f τ hi hf hm
    obtain ⟨f, rfl⟩ : ∃ k, f = k + 1 := ⟨f - 1, by omega⟩
    unfold M_findRings_l78
    rw [if_neg (show ¬ (26 : Int32) ≤ nI i from nge 26 (by omega) (by decide))]
    obtain ⟨τ1, f1, f2, f3⟩ := fr86_M (R := R) hk (show i < 26 by omega) k70 (M_findRings_l78 2000 k70 f) 26 0 2000 τ (by omega) (by decide) hm
    obtain ⟨τ', g1, g2, g3⟩ := ih (i + 1) f τ1 (by omega) (by omega) f3
    refine ⟨τ', f1.tr g1, ?_, g3⟩
    rw [show (0 : Int32) = nI 0 from rfl, f2, g2]
theorem fr70_M {E : MX} : ∀ (m k f : Nat) (τ : St), k + m = 26 → m + 1 ≤ f → mM (wI k E) (τ.1 23) → ∃ τ', fr [23] τ τ' ∧ M_findRings_l70 2000 f τ (nI k) = M_findRings_l159 2000 2000 τ' 0 ∧ mM (wI 26 E) (τ'.1 23) := by
  intro m
  induction m with
  | zero =>
    intro k f τ hi hf hm
    obtain ⟨f, rfl⟩ : ∃ k, f = k + 1 := ⟨f - 1, by omega⟩
    unfold M_findRings_l70
    rw [if_pos (show (26 : Int32) ≤ nI k from nle 26 (by omega) (by omega))]
    have : k = 26 := by omega
    subst this
    exact ⟨τ, fr.rf, rfl, hm⟩
  | succ m ih =>
    intro k f τ hi hf hm
    obtain ⟨f, rfl⟩ : ∃ k, f = k + 1 := ⟨f - 1, by omega⟩
    unfold M_findRings_l70
    rw [if_neg (show ¬ (26 : Int32) ≤ nI k from nge 26 (by omega) (by decide))]
    obtain ⟨τ1, f1, f2, f3⟩ := fr78_M (R := wI k E) (k := k) (by omega) (M_findRings_l70 2000 f) 26 0 2000 τ (by omega) (by decide) (mM_eq hm (fun a b ha hb => by unfold mid2; rw [if_neg (by omega)]))
    obtain ⟨τ', g1, g2, g3⟩ := ih (k + 1) f τ1 (by omega) (by omega) f3
    refine ⟨τ', f1.tr g1, ?_, g3⟩
    rw [show (0 : Int32) = nI 0 from rfl, f2, g2]
    rfl
theorem edg_mem {L : List rl} {r n : Nat} (hr : r < n) (hu : isU (L.getD r z0) = true) : edg L n (L.getD r z0).1 (L.getD r z0).2.1 = true := by
  induction n with
  | zero => omega
  | succ n ih =>
    show (edg L n _ _ || (isU (L.getD n z0) && (L.getD n z0).1 == _ && (L.getD n z0).2.1 == _)) = true
    by_cases e : r = n
    · subst e
      rw [hu]
      simp only [BEq.rfl, Bool.true_and, Bool.or_true]
    · rw [ih (by omega), Bool.true_or]
theorem wI_ge {E : MX} {a b : Nat} (h : E a b = true) : ∀ K, wI K E a b = true := by
  intro K
  induction K with
  | zero => exact h
  | succ K ih =>
    show (wI K E a b || _) = true
    rw [ih, Bool.true_or]
/-- what is closed stays closed -/
theorem wI_tr {E : MX} : ∀ K k, k < K → ∀ i j, wI K E i k = true → wI K E k j = true → wI K E i j = true := by
  intro K
  induction K with
  | zero => intro k hk; omega
  | succ K ih =>
    intro k hk i j h1 h2
    have h1' : (wI K E i k || (wI K E i K && wI K E K k)) = true := h1
    have h2' : (wI K E k j || (wI K E k K && wI K E K j)) = true := h2
    show (wI K E i j || (wI K E i K && wI K E K j)) = true
    simp only [Bool.or_eq_true, Bool.and_eq_true] at *
    by_cases e : k = K
    · subst e
      right
      exact ⟨h1'.elim id (fun z => z.1), h2'.elim id (fun z => z.2)⟩
    · have hk' : k < K := by omega
      rcases h1' with a | ⟨a, b⟩
      · rcases h2' with c | ⟨c, dd⟩
        · exact Or.inl (ih k hk' i j a c)
        · exact Or.inr ⟨ih k hk' i K a c, dd⟩
      · rcases h2' with c | ⟨c, dd⟩
        · exact Or.inr ⟨a, ih k hk' K j b c⟩
        · exact Or.inr ⟨a, dd⟩
theorem ring_M {L : List rl} (hok : okL L) : ∀ (m r f : Nat) (τ : St) (o : Option Nat), r + m = L.length → m + 1 ≤ f → foM L τ → τ.1 15 0 = nI L.length → mM (wI 26 (edg L L.length)) (τ.1 23) → τ.1 22 0 = rgI o → (∀ q, o = some q → q < 800) → ∃ τ', fr [22] τ τ' ∧ M_findRings_l159 2000 f τ (nI r) = some τ' ∧ τ'.1 22 0 = rgI (o.or (rgF L (wI 26 (edg L L.length)) m r)) := by
  have hL := hok.1
  intro m
  induction m with
  | zero =>
    intro r f τ o hr hf hfo e hm e22 ho
    obtain ⟨f, rfl⟩ : ∃ k, f = k + 1 := ⟨f - 1, by omega⟩
    unfold M_findRings_l159
    rw [e, if_pos (nI_le (by omega) (by omega))]
    exact ⟨τ, fr.rf, rfl, by rw [e22]; cases o <;> rfl⟩
  | succ m ih =>
    intro r f τ o hr hf hfo e hm e22 ho
    obtain ⟨f, rfl⟩ : ∃ k, f = k + 1 := ⟨f - 1, by omega⟩
    obtain ⟨k1, k2, -, -, k5⟩ := hok.2 r (by omega)
    obtain ⟨h1, h2, -, -, h5⟩ := hfo r (by omega)
    unfold M_findRings_l159 rgF
    rw [e, if_neg (nI_ge (by omega) (by omega)), unary_M hok hfo (by omega), bp_some]
    -- a stop here
    have stp : ∃ τ1, M_stop τ (nI (L.getD r z0).2.2.2.2) = some τ1 ∧ fr [22] τ τ1 ∧ τ1.1 22 0 = rgI (o.or (some (L.getD r z0).2.2.2.2)) := by
      cases o with
      | none => exact ⟨_, stop_M e22, fr.sI (by decide), rfl⟩
      | some q => exact ⟨τ, stop_M2 (by have := ho q rfl; omega) e22, fr.rf, e22⟩
    have aft : ∀ (τ1 : St), fr [22] τ τ1 → τ1.1 22 0 = rgI (o.or (some (L.getD r z0).2.2.2.2)) → ∃ τ', fr [22] τ τ' ∧ M_findRings_l159 2000 f τ1 (nI (r + 1)) = some τ' ∧ τ'.1 22 0 = rgI (o.or (some (L.getD r z0).2.2.2.2)) := by
      intro τ1 hfr e1
      obtain ⟨τ', a1, a2, a3⟩ := ih (r + 1) f τ1 (o.or (some (L.getD r z0).2.2.2.2)) (by omega) (by omega) (fun x hx => by
        rw [hfr.1 16 (by decide), hfr.1 17 (by decide), hfr.1 18 (by decide), hfr.1 19 (by decide), hfr.1 20 (by decide)]
        exact hfo x hx) (by rw [hfr.1 15 (by decide)]; exact e) (by rw [hfr.1 23 (by decide)]; exact hm) e1 (fun q hq => by
        cases o with
        | none => cases hq; exact k5
        | some q2 => cases hq; exact ho _ rfl)
      refine ⟨τ', hfr.tr a1, a2, ?_⟩
      rw [a3]
      cases o <;> rfl
    by_cases hu : isU (L.getD r z0) = true
    · have hx26 : (L.getD r z0).2.1 < 26 := ((isU_iff _).mp hu).2
      rw [hu, if_pos rfl, if_neg (by decide), gd_nI (by omega) (by decide), gd_nI (by omega) (by decide), nI_clamp (show r < 2 ^ 31 by omega), h1, h2, itM_26 hx26, h5, Bool.true_and]
      by_cases hw : wI 26 (edg L L.length) (L.getD r z0).2.1 (L.getD r z0).1 = true
      · rw [if_pos hw]
        obtain ⟨τ1, s1, s2, s3⟩ := stp
        by_cases he : nI (L.getD r z0).2.1 = nI (L.getD r z0).1
        · rw [if_pos he, gd_nI (by omega) (by decide), s1, bp_some, lt_is, nI_1]
          exact aft τ1 s2 s3
        · have := hm _ _ hx26 k1
          rw [if_neg he, gd_nI (by omega) (by decide), gd_nI (by omega) (by decide), show (26 : Int32) = nI 26 from rfl, pk_mul, nI_add, gd_nI (by omega) (by decide), nI_clamp (by omega), this, if_pos hw, if_neg (by decide), gd_nI (by omega) (by decide), s1, bp_some, lt_is, nI_1]
          exact aft τ1 s2 s3
      · rw [if_neg hw]
        have he : ¬ nI (L.getD r z0).2.1 = nI (L.getD r z0).1 := fun z => hw (by
          have e2 := (nI_eq (by omega) (by omega)).mp z
          have := wI_ge (edg_mem (L := L) (show r < L.length by omega) hu) 26
          rw [← e2] at this ⊢
          exact this)
        have := hm _ _ hx26 k1
        rw [if_neg he, gd_nI (by omega) (by decide), gd_nI (by omega) (by decide), show (26 : Int32) = nI 26 from rfl, pk_mul, nI_add, gd_nI (by omega) (by decide), nI_clamp (by omega), this, if_neg hw, if_pos rfl, lt_is, nI_1]
        exact ih (r + 1) f τ o (by omega) (by omega) hfo e hm e22 ho
    · have hu' : isU (L.getD r z0) = false := by simpa using hu
      rw [hu', if_pos (show (if false = true then (1 : Int32) else 0) = 0 from rfl), Bool.false_and, if_neg (show ¬ false = true by decide), lt_is, nI_1]
      exact ih (r + 1) f τ o (by omega) (by omega) hfo e hm e22 ho
theorem rings_M {L : List rl} (hok : okL L) {τ : St} (hfo : foM L τ) (e : τ.1 15 0 = nI L.length) (e22 : τ.1 22 0 = -1) : ∃ τ', fr [22, 23] τ τ' ∧ M_findRings 2000 τ = some τ' ∧ τ'.1 22 0 = rgI (rgF L (wI 26 (edg L L.length)) L.length 0) := by
  have hL := hok.1
  obtain ⟨τ1, a1, a2, a3, -⟩ := fr2_M 676 0 2000 τ (by omega) (by decide)
  have fo1 : foM L τ1 := fun r hr => by
    rw [a1.1 16 (by decide), a1.1 17 (by decide), a1.1 18 (by decide), a1.1 19 (by decide), a1.1 20 (by decide)]
    exact hfo r hr
  have e1 : τ1.1 15 0 = nI L.length := by rw [a1.1 15 (by decide)]; exact e
  obtain ⟨τ2, b1, b2, b3⟩ := fr24_M hok L.length 0 2000 τ1 (by omega) (by omega) fo1 e1 (fun a b ha hb => by
    rw [a3 (26 * a + b) (by omega) (Nat.zero_le _)]; rfl)
  have f12 := a1.tr b1
  obtain ⟨τ3, c1, c2, c3⟩ := fr70_M (E := edg L L.length) 26 0 2000 τ2 (by omega) (by decide) b3
  have f13 := f12.tr c1
  have fo3 : foM L τ3 := fun r hr => by
    rw [f13.1 16 (by decide), f13.1 17 (by decide), f13.1 18 (by decide), f13.1 19 (by decide), f13.1 20 (by decide)]
    exact hfo r hr
  obtain ⟨τ4, g1, g2, g3⟩ := ring_M hok L.length 0 2000 τ3 none (by omega) (by omega) fo3 (by rw [f13.1 15 (by decide)]; exact e) c3 (by rw [f13.1 22 (by decide)]; exact e22) (fun q h => by cases h)
  refine ⟨τ4, (f13.wk (by decide)).tr (g1.wk (by decide)), ?_, by rw [g3]; rfl⟩
  unfold M_findRings
  rw [show (0 : Int32) = nI 0 from rfl, a2, show (0 : Int32) = nI 0 from rfl, b2, show (0 : Int32) = nI 0 from rfl, c2, show (0 : Int32) = nI 0 from rfl, g2]

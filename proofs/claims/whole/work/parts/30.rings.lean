/-! rings: the class's rows of bits, the reference's square -/
abbrev MX : Type := Nat → Nat → Bool
def isU (t : rl) : Bool := t.2.2.1 == 96 && decide (t.2.1 < 26)
theorem isU_iff (t : rl) : isU t = true ↔ t.2.2.1 = 96 ∧ t.2.1 < 26 := by simp [isU]
def edg (L : List rl) : Nat → MX
  | 0 => fun _ _ => false
  | m + 1 => fun a b => edg L m a b || (isU (L.getD m z0) && (L.getD m z0).1 == a && (L.getD m z0).2.1 == b)
def wS (R : MX) (k : Nat) : MX := fun i j => R i j || (R i k && R k j)
def wI : Nat → MX → MX
  | 0, R => R
  | K + 1, R => wS (wI K R) K
def mid (R : MX) (k m : Nat) : MX := fun i j => if i < m then wS R k i j else R i j
theorem wS_k1 (R : MX) (k j : Nat) : wS R k k j = R k j := by
  unfold wS
  cases R k j <;> cases R k k <;> rfl
theorem wS_k2 (R : MX) (k i : Nat) : wS R k i k = R i k := by
  unfold wS
  cases R i k <;> cases R k k <;> rfl
theorem nx_or (a b : Nat) : nI a ||| nI b = nI (a ||| b) := by
  apply Int32.toBitVec_inj.1
  show BitVec.ofNat 32 a ||| BitVec.ofNat 32 b = BitVec.ofNat 32 (a ||| b)
  apply BitVec.eq_of_getLsbD_eq
  intro i hi
  simp [hi]
def mC (R : MX) (f : Nat → Int32) : Prop := ∀ a, a < 26 → ∃ v, v < 2 ^ 26 ∧ f a = nI v ∧ ∀ b, b < 26 → v.testBit b = R a b
def mM (R : MX) (f : Nat → Int32) : Prop := ∀ a b, a < 26 → b < 26 → f (26 * a + b) = if R a b then 1 else 0
theorem reaches_C {R : MX} {σ : St} (h : mC R (σ.1 98)) {a b : Nat} (ha : a < 26) (hb : b < 26) : C_Reader_reaches σ (nI a) (nI b) = some (if R a b then 1 else 0) := by
  obtain ⟨v, hv, e, hbit⟩ := h a ha
  unfold C_Reader_reaches
  rw [gd_nI ha (by decide), nI_clamp (by omega), e, pk_ushrN (by omega) (nI b) b (s_u b (by omega))]
  have hlt : v / 2 ^ b < 2 ^ 32 := Nat.lt_of_le_of_lt (Nat.div_le_self _ _) (by omega)
  rw [show nI (v / 2 ^ b) &&& 1 = nI (v / 2 ^ b % 2) from pk_andN hlt 1 (by decide)]
  have := hbit b hb
  rw [Nat.testBit_eq_decide_div_mod_eq] at this
  rcases Nat.mod_two_eq_zero_or_one (v / 2 ^ b) with h0 | h0
  · rw [h0, if_pos (by rfl)]
    rw [h0] at this
    rw [← this]; rfl
  · rw [h0, if_neg (by decide)]
    rw [h0] at this
    rw [← this]; rfl
theorem ren_C {L : List rl} {σ : St} (hok : okL L) (h : foC L σ) {r : Nat} (hr : r < L.length) : C_Grammar_renames σ (nI r) = some (if isU (L.getD r z0) then 1 else 0) := by
  have := hok.1
  obtain ⟨-, h1, h2, -⟩ := h r hr
  obtain ⟨k1, k2, k3, -⟩ := hok.2 r hr
  unfold C_Grammar_renames
  rw [gd_nI (by omega) (by decide), nI_clamp (by omega), h1, h2]
  unfold oY
  have hU := isU_iff (L.getD r z0)
  by_cases e : (L.getD r z0).2.2.1 = 96
  · rw [if_pos e, if_pos rfl, gd_nI (by omega) (by decide)]
    by_cases e2 : (L.getD r z0).2.1 < 26
    · rw [if_neg (show ¬ (26 : Int32) ≤ nI (L.getD r z0).2.1 from nge 26 e2 (by decide)), if_pos (hU.mpr ⟨e, e2⟩)]
    · rw [if_pos (show (26 : Int32) ≤ nI (L.getD r z0).2.1 from nle 26 (by omega) (by omega)), if_neg (fun z => e2 (hU.mp z).2)]
  · rw [if_neg e, if_neg (nI_nm1 (by omega)), if_neg (fun z => e (hU.mp z).1)]
theorem fr2_C : ∀ (m i f : Nat) (σ : St), i + m = 26 → m + 1 ≤ f → ∃ σ', fr [98] σ σ' ∧ C_Reader_findReach_l2 2000 f σ (nI i) = C_Reader_findReach_l23 2000 2000 σ' 0 ∧ (∀ a, a < 26 → i ≤ a → σ'.1 98 a = nI 0) ∧ ∀ a, a < i → σ'.1 98 a = σ.1 98 a := by
  intro m
  induction m with
  | zero =>
    intro i f σ hi hf
    obtain ⟨f, rfl⟩ : ∃ k, f = k + 1 := ⟨f - 1, by omega⟩
    unfold C_Reader_findReach_l2
    rw [if_pos (show (26 : Int32) ≤ nI i from nle 26 (by omega) (by omega))]
    exact ⟨σ, fr.rf, rfl, fun a h1 h2 => by omega, fun _ _ => rfl⟩
  | succ m ih =>
    intro i f σ hi hf
    obtain ⟨f, rfl⟩ : ∃ k, f = k + 1 := ⟨f - 1, by omega⟩
    unfold C_Reader_findReach_l2
    rw [if_neg (show ¬ (26 : Int32) ≤ nI i from nge 26 (by omega) (by decide)), gd_nI (by omega) (by decide), lt_is, lt_is, nI_1, nI_clamp (by omega)]
    obtain ⟨σ', h1, h2, h3, h4⟩ := ih (i + 1) f (sI σ 98 i 0) (by omega) (by omega)
    refine ⟨σ', (fr.sI (by decide)).tr h1, h2, fun a ha hia => ?_, fun a ha => ?_⟩
    · by_cases e : a = i
      · rw [h4 a (by omega), sI_1, if_pos rfl, if_pos e]; rfl
      · exact h3 a ha (by omega)
    · rw [h4 a (by omega), sI_1, if_pos rfl, if_neg (by omega)]
theorem mC_set {R R' : MX} {σ : St} {a v : Nat} (h : mC R (σ.1 98)) (ha : a < 26) (hv : v < 2 ^ 26) (h1 : ∀ b, b < 26 → v.testBit b = R' a b) (h2 : ∀ x b, x ≠ a → R' x b = R x b) : mC R' ((sI σ 98 a (nI v)).1 98) := by
  intro x hx
  by_cases e : x = a
  · subst e
    exact ⟨v, hv, by rw [sI_1, if_pos rfl, if_pos rfl], h1⟩
  · obtain ⟨w, w1, w2, w3⟩ := h x hx
    exact ⟨w, w1, by rw [sI_1, if_pos rfl, if_neg e]; exact w2, fun b hb => by rw [h2 x b e]; exact w3 b hb⟩
theorem fr23_C {L : List rl} (hok : okL L) : ∀ (m r f : Nat) (σ : St), r + m = L.length → m + 1 ≤ f → foC L σ → σ.1 149 0 = nI L.length → mC (edg L r) (σ.1 98) → ∃ σ', fr [98] σ σ' ∧ C_Reader_findReach_l23 2000 f σ (nI r) = C_Reader_findReach_l81 2000 2000 σ' 0 ∧ mC (edg L L.length) (σ'.1 98) := by
  have hL := hok.1
  intro m
  induction m with
  | zero =>
    intro r f σ hr hf hfo e hm
    obtain ⟨f, rfl⟩ : ∃ k, f = k + 1 := ⟨f - 1, by omega⟩
    unfold C_Reader_findReach_l23
    rw [e, if_pos (nI_le (by omega) (by omega))]
    have : r = L.length := by omega
    subst this
    exact ⟨σ, fr.rf, rfl, hm⟩
  | succ m ih =>
    intro r f σ hr hf hfo e hm
    obtain ⟨f, rfl⟩ : ∃ k, f = k + 1 := ⟨f - 1, by omega⟩
    obtain ⟨k1, k2, -⟩ := hok.2 r (by omega)
    obtain ⟨h1, h2, -⟩ := hfo r (by omega)
    unfold C_Reader_findReach_l23
    rw [e, if_neg (nI_ge (by omega) (by omega)), ren_C hok hfo (by omega), bp_some]
    by_cases hu : isU (L.getD r z0) = true
    · have hx26 : (L.getD r z0).2.1 < 26 := ((isU_iff _).mp hu).2
      rw [hu, if_pos rfl, if_neg (by decide), gd_nI (by omega) (by decide), nI_clamp (show r < 2 ^ 31 by omega), h1, gd_nI k1 (by decide), gd_nI (by omega) (by decide), gd_nI k1 (by decide), lt_is, lt_is, nI_1, nI_clamp (show (L.getD r z0).1 < 2 ^ 31 by omega), h2]
      obtain ⟨v, v1, v2, v3⟩ := hm _ k1
      have hb : (2 : Nat) ^ (L.getD r z0).2.1 < 2 ^ 26 := Nat.pow_lt_pow_right (by decide) hx26
      have e1 : (1 : Int32) <<< (nI (L.getD r z0).2.1 &&& 31) = nI (2 ^ (L.getD r z0).2.1) := by
        have := pk_shlN (n := 1) (nI (L.getD r z0).2.1 &&& 31) (L.getD r z0).2.1 (s_l _ (by omega)) (by omega)
        rw [Nat.one_mul] at this
        exact this
      rw [v2, e1, nx_or]
      obtain ⟨σ', f1, f2, f3⟩ := ih (r + 1) f (sI σ 98 (L.getD r z0).1 (nI (v ||| 2 ^ (L.getD r z0).2.1))) (by omega) (by omega) hfo e (mC_set hm k1 (Nat.or_lt_two_pow v1 hb) (fun b hb => by
        rw [Nat.testBit_or, v3 b hb, Nat.testBit_two_pow]
        show _ = (edg L r (L.getD r z0).1 b || (isU (L.getD r z0) && (L.getD r z0).1 == (L.getD r z0).1 && (L.getD r z0).2.1 == b))
        rw [hu]
        simp only [BEq.rfl, Bool.true_and]
        congr 1) (fun x b hx => by
        show (edg L r x b || (isU (L.getD r z0) && (L.getD r z0).1 == x && (L.getD r z0).2.1 == b)) = _
        have : ((L.getD r z0).1 == x) = false := by simpa using fun z => hx z.symm
        rw [this]
        simp))
      exact ⟨σ', (fr.sI (by decide)).tr f1, f2, f3⟩
    · have hu' : isU (L.getD r z0) = false := by simpa using hu
      rw [hu', if_pos (show (if false = true then (1 : Int32) else 0) = 0 from rfl), lt_is, nI_1]
      refine ih (r + 1) f σ (by omega) (by omega) hfo e ?_
      have : edg L (r + 1) = edg L r := by
        funext a b
        show (edg L r a b || (isU (L.getD r z0) && _ && _)) = _
        rw [hu']
        simp
      rw [this]; exact hm
theorem mC_eq {R R' : MX} {f : Nat → Int32} (h : mC R f) (e : ∀ a b, a < 26 → b < 26 → R' a b = R a b) : mC R' f := fun a ha => by
  obtain ⟨v, h1, h2, h3⟩ := h a ha
  exact ⟨v, h1, h2, fun b hb => by rw [e a b ha hb]; exact h3 b hb⟩
theorem fr89_C {R : MX} {k : Nat} (hk : k < 26) (k81 : St → Int32 → Option St) : ∀ (m i f : Nat) (σ : St), i + m = 26 → m + 1 ≤ f → mC (mid R k i) (σ.1 98) → ∃ σ', fr [98] σ σ' ∧ C_Reader_findReach_l89 2000 k81 f σ (nI k) (nI i) = k81 σ' (nI (k + 1)) ∧ mC (wS R k) (σ'.1 98) := by
  intro m
  induction m with
  | zero =>
    intro i f σ hi hf hm
    obtain ⟨f, rfl⟩ : ∃ k, f = k + 1 := ⟨f - 1, by omega⟩
    unfold C_Reader_findReach_l89
    rw [if_pos (show (26 : Int32) ≤ nI i from nle 26 (by omega) (by omega)), lt_is, nI_1]
    exact ⟨σ, fr.rf, rfl, mC_eq hm (fun a b ha hb => by unfold mid; rw [if_pos (by omega)])⟩
  | succ m ih =>
    intro i f σ hi hf hm
    obtain ⟨f, rfl⟩ : ∃ k, f = k + 1 := ⟨f - 1, by omega⟩
    unfold C_Reader_findReach_l89
    rw [if_neg (show ¬ (26 : Int32) ≤ nI i from nge 26 (by omega) (by decide)), reaches_C hm (by omega) hk, bp_some]
    have eik : mid R k i i k = R i k := by unfold mid; rw [if_neg (by omega)]
    have ekj : ∀ j, mid R k i k j = R k j := fun j => by
      unfold mid
      by_cases h : k < i
      · rw [if_pos h, wS_k1]
      · rw [if_neg h]
    have eij : ∀ j, mid R k i i j = R i j := fun j => by unfold mid; rw [if_neg (by omega)]
    rw [eik]
    have nxt : ∀ x b, x ≠ i → mid R k (i + 1) x b = mid R k i x b := fun x b hx => by
      unfold mid
      by_cases h : x < i
      · rw [if_pos h, if_pos (by omega)]
      · rw [if_neg h, if_neg (by omega)]
    have nii : ∀ b, mid R k (i + 1) i b = wS R k i b := fun b => by unfold mid; rw [if_pos (by omega)]
    by_cases hr : R i k = true
    · rw [hr, if_pos rfl, if_neg (by decide), gd_nI (by omega) (by decide), gd_nI hk (by decide), gd_nI (by omega) (by decide), lt_is, lt_is, nI_1, nI_clamp (show i < 2 ^ 31 by omega), nI_clamp (show k < 2 ^ 31 by omega)]
      obtain ⟨v, v1, v2, v3⟩ := hm i (by omega)
      obtain ⟨w, w1, w2, w3⟩ := hm k hk
      rw [v2, w2, nx_or]
      obtain ⟨σ', f1, f2, f3⟩ := ih (i + 1) f (sI σ 98 i (nI (v ||| w))) (by omega) (by omega) (mC_set hm (by omega) (Nat.or_lt_two_pow v1 w1) (fun b hb => by
        rw [Nat.testBit_or, v3 b hb, w3 b hb, nii, eij, ekj]
        unfold wS
        rw [hr, Bool.true_and]) nxt)
      exact ⟨σ', (fr.sI (by decide)).tr f1, f2, f3⟩
    · have hr' : R i k = false := by simpa using hr
      rw [hr', if_pos (show (if false = true then (1 : Int32) else 0) = 0 from rfl), lt_is, nI_1]
      refine ih (i + 1) f σ (by omega) (by omega) (mC_eq hm (fun a b ha hb => ?_))
      by_cases e : a = i
      · subst e
        rw [nii, eij]
        unfold wS
        rw [hr', Bool.false_and, Bool.or_false]
      · exact nxt a b e
theorem fr81_C {E : MX} : ∀ (m k f : Nat) (σ : St), k + m = 26 → m + 1 ≤ f → mC (wI k E) (σ.1 98) → ∃ σ', fr [98] σ σ' ∧ C_Reader_findReach_l81 2000 f σ (nI k) = some σ' ∧ mC (wI 26 E) (σ'.1 98) := by
  intro m
  induction m with
  | zero =>
    intro k f σ hi hf hm
    obtain ⟨f, rfl⟩ : ∃ k, f = k + 1 := ⟨f - 1, by omega⟩
    unfold C_Reader_findReach_l81
    rw [if_pos (show (26 : Int32) ≤ nI k from nle 26 (by omega) (by omega))]
    have : k = 26 := by omega
    subst this
    exact ⟨σ, fr.rf, rfl, hm⟩
  | succ m ih =>
    intro k f σ hi hf hm
    obtain ⟨f, rfl⟩ : ∃ k, f = k + 1 := ⟨f - 1, by omega⟩
    unfold C_Reader_findReach_l81
    rw [if_neg (show ¬ (26 : Int32) ≤ nI k from nge 26 (by omega) (by decide))]
    obtain ⟨σ1, f1, f2, f3⟩ := fr89_C (R := wI k E) (k := k) (by omega) (C_Reader_findReach_l81 2000 f) 26 0 2000 σ (by omega) (by decide) (mC_eq hm (fun a b ha hb => by unfold mid; rw [if_neg (by omega)]))
    obtain ⟨σ', g1, g2, g3⟩ := ih (k + 1) f σ1 (by omega) (by omega) f3
    refine ⟨σ', f1.tr g1, ?_, g3⟩
    rw [show (0 : Int32) = nI 0 from rfl, f2, g2]
theorem reach_C {L : List rl} (hok : okL L) {σ : St} (hfo : foC L σ) (e : σ.1 149 0 = nI L.length) : ∃ σ', fr [98] σ σ' ∧ C_Reader_findReach 2000 σ = some σ' ∧ mC (wI 26 (edg L L.length)) (σ'.1 98) := by
  have hL := hok.1
  obtain ⟨σ1, a1, a2, a3, -⟩ := fr2_C 26 0 2000 σ (by omega) (by decide)
  have fo1 : foC L σ1 := fun r hr => by
    rw [a1.1 144 (by decide), a1.1 145 (by decide), a1.1 146 (by decide), a1.1 147 (by decide), a1.1 97 (by decide)]
    exact hfo r hr
  have e1 : σ1.1 149 0 = nI L.length := by rw [a1.1 149 (by decide)]; exact e
  obtain ⟨σ2, b1, b2, b3⟩ := fr23_C hok L.length 0 2000 σ1 (by omega) (by omega) fo1 e1 (fun a ha => ⟨0, by decide, a3 a ha (Nat.zero_le _), fun b hb => by simp [edg]⟩)
  obtain ⟨σ3, c1, c2, c3⟩ := fr81_C (E := edg L L.length) 26 0 2000 σ2 (by omega) (by decide) b3
  refine ⟨σ3, (a1.tr b1).tr c1, ?_, c3⟩
  unfold C_Reader_findReach
  rw [show (0 : Int32) = nI 0 from rfl, a2, show (0 : Int32) = nI 0 from rfl, b2, show (0 : Int32) = nI 0 from rfl, c2]
/-- the first rule in a ring -/
def rgF (L : List rl) (W : MX) : Nat → Nat → Option Nat
  | 0, _ => none
  | m + 1, r => if isU (L.getD r z0) && W (L.getD r z0).2.1 (L.getD r z0).1 then some (L.getD r z0).2.2.2.2 else rgF L W m (r + 1)
def rgI (o : Option Nat) : Int32 := match o with
  | none => -1
  | some q => nI q
theorem ring_C {L : List rl} {W : MX} (hok : okL L) {σ : St} (hfo : foC L σ) (e : σ.1 149 0 = nI L.length) (hm : mC W (σ.1 98)) : ∀ (m r f : Nat), r + m = L.length → m + 1 ≤ f → C_Reader_ringPlace_l2 2000 σ f (nI r) = some (rgI (rgF L W m r)) := by
  have hL := hok.1
  intro m
  induction m with
  | zero =>
    intro r f hr hf
    obtain ⟨f, rfl⟩ : ∃ k, f = k + 1 := ⟨f - 1, by omega⟩
    unfold C_Reader_ringPlace_l2
    rw [e, if_pos (nI_le (by omega) (by omega))]
    rfl
  | succ m ih =>
    intro r f hr hf
    obtain ⟨f, rfl⟩ : ∃ k, f = k + 1 := ⟨f - 1, by omega⟩
    obtain ⟨k1, k2, -⟩ := hok.2 r (by omega)
    obtain ⟨h1, h2, -, -, h5⟩ := hfo r (by omega)
    unfold C_Reader_ringPlace_l2 rgF
    rw [e, if_neg (nI_ge (by omega) (by omega)), ren_C hok hfo (by omega), bp_some]
    by_cases hu : isU (L.getD r z0) = true
    · have hx26 : (L.getD r z0).2.1 < 26 := ((isU_iff _).mp hu).2
      rw [hu, if_pos rfl, if_neg (by decide), gd_nI (by omega) (by decide), gd_nI (by omega) (by decide), nI_clamp (by omega), h1, h2, reaches_C hm hx26 k1, bp_some, Bool.true_and]
      by_cases hw : W (L.getD r z0).2.1 (L.getD r z0).1 = true
      · rw [hw, if_pos rfl, if_neg (by decide), if_pos rfl, gd_nI (by omega) (by decide), h5]; rfl
      · have hw' : W (L.getD r z0).2.1 (L.getD r z0).1 = false := by simpa using hw
        rw [hw', if_pos (show (if false = true then (1 : Int32) else 0) = 0 from rfl), if_neg (show ¬ false = true by decide), lt_is, nI_1]
        exact ih (r + 1) f (by omega) (by omega)
    · have hu' : isU (L.getD r z0) = false := by simpa using hu
      rw [hu', if_pos (show (if false = true then (1 : Int32) else 0) = 0 from rfl), Bool.false_and, if_neg (show ¬ false = true by decide), lt_is, nI_1]
      exact ih (r + 1) f (by omega) (by omega)

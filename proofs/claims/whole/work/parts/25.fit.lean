/-! fit, best -/
def csN (r k : Nat) : Nat := ((M_classes (nI r) (nI k)).getD 0).toNatClampNeg
theorem cs_ok : ∀ r, r < 12 → ∀ k, k < 9 → C_CG_chordSet (nI r) (nI k) = some (nI (csN r k)) ∧ M_classes (nI r) (nI k) = some (nI (csN r k)) ∧ csN r k < 4096 := by decide +kernel
def cst (f : Nat → Int32) (i : Nat) : Nat := (f i).toNatClampNeg
theorem cst_of {f g : Nat → Int32} (h : gCost f g) {i : Nat} (hi : i < 4) : f i = nI (cst f i) ∧ g i = nI (cst f i) ∧ cst f i ≤ 1000 ∧ cst g i = cst f i := by
  obtain ⟨e, v, hv, e2⟩ := h i hi
  have : cst f i = v := by unfold cst; rw [e2, nI_clamp (by omega)]
  have h2 : cst g i = v := by unfold cst; rw [← e, e2, nI_clamp (by omega)]
  rw [this, h2]
  exact ⟨e2, by rw [← e, e2], hv, rfl⟩
def basN (f : Nat → Int32) (s : Nat) (b : Int32) (r : Nat) : Nat := if b = -1 then 0 else if b = nI r then 0 else if s / 2 ^ b.toNatClampNeg % 2 = 0 then cst f 3 else cst f 2
def fitN (f : Nat → Int32) (s : Nat) (b : Int32) (r k : Nat) : Int32 :=
  if 2 ≤ pcf 32 (csN r k &&& s) then nI (((pcf 32 s - pcf 32 (csN r k &&& s)) * cst f 0 + (pcf 32 (csN r k) - pcf 32 (csN r k &&& s)) * cst f 1) + basN f (csN r k) b r) else -1
theorem fitN_eq {f g : Nat → Int32} (h : gCost f g) (s : Nat) (b : Int32) (r k : Nat) : fitN g s b r k = fitN f s b r k := by
  unfold fitN basN
  rw [(cst_of h (i := 0) (by decide)).2.2.2, (cst_of h (i := 1) (by decide)).2.2.2, (cst_of h (i := 2) (by decide)).2.2.2, (cst_of h (i := 3) (by decide)).2.2.2]
theorem fitN_of {f g : Nat → Int32} (h : gCost f g) (s : Nat) (b : Int32) (r k : Nat) : fitN f s b r k = -1 ∨ ∃ v, v ≤ 70000 ∧ fitN f s b r k = nI v := by
  unfold fitN
  by_cases h2 : 2 ≤ pcf 32 (csN r k &&& s)
  · rw [if_pos h2]
    refine Or.inr ⟨_, ?_, rfl⟩
    have a1 := pcf_le 32 s
    have a2 := pcf_le 32 (csN r k)
    have a3 := (cst_of h (i := 0) (by decide)).2.2.1
    have a4 := (cst_of h (i := 1) (by decide)).2.2.1
    have a5 := (cst_of h (i := 2) (by decide)).2.2.1
    have a6 := (cst_of h (i := 3) (by decide)).2.2.1
    have b1 : (pcf 32 s - pcf 32 (csN r k &&& s)) * cst f 0 ≤ 32 * 1000 := Nat.mul_le_mul (by omega) a3
    have b2 : (pcf 32 (csN r k) - pcf 32 (csN r k &&& s)) * cst f 1 ≤ 32 * 1000 := Nat.mul_le_mul (by omega) a4
    have b3 : basN f (csN r k) b r ≤ 1000 := by
      unfold basN
      repeat' split
      all_goals omega
    omega
  · rw [if_neg h2]; exact Or.inl rfl
theorem C_fit {σ : St} {g : Nat → Int32} (hc : gCost (σ.1 32) g) {s r k : Nat} {b : Int32} (hs : s < 4096) (hr : r < 12) (hk : k < 9) (hb : b = -1 ∨ ∃ q, q < 12 ∧ b = nI q) : C_Tariff_ofFit σ (nI s) b (nI r) (nI k) = some (fitN (σ.1 32) s b r k) := by
  obtain ⟨c1, -, c3⟩ := cs_ok r hr k hk
  have and_lt : csN r k &&& s < 2 ^ 32 := Nat.lt_of_le_of_lt Nat.and_le_right (by omega)
  have le1 : pcf 32 (csN r k &&& s) ≤ pcf 32 s := by
    have := pcf_and 32 s (csN r k)
    rw [Nat.and_comm s] at this
    omega
  have le2 : pcf 32 (csN r k &&& s) ≤ pcf 32 (csN r k) := by
    have := pcf_and 32 (csN r k) s
    omega
  have k0 := (cst_of hc (i := 0) (by decide)).1
  have k1 := (cst_of hc (i := 1) (by decide)).1
  have k2 := (cst_of hc (i := 2) (by decide)).1
  have k3 := (cst_of hc (i := 3) (by decide)).1
  have pl := pcf_le 32 (csN r k &&& s)
  unfold C_Tariff_ofFit fitN
  rw [c1, bp_some, nx_and, bitCount_n and_lt, bp_some, show (2 : Int32) = nI 2 from rfl]
  by_cases h2 : 2 ≤ pcf 32 (csN r k &&& s)
  · rw [if_pos (nI_le h2 (by omega)), if_pos h2, bitCount_n (by omega), bp_some, lt_is, bitCount_n (by omega), bp_some, lt_is, pk_sub le1, pk_sub le2]
    rw [show (0 : Int32) = nI 0 from rfl, show (1 : Int32) = nI 1 from rfl, gd_nI (by decide) (by decide), gd_nI (by decide) (by decide)]
    have eb : C_Tariff_ofBass σ b (nI r) (nI (csN r k)) = some (nI (basN (σ.1 32) (csN r k) b r)) := by
      unfold C_Tariff_ofBass basN
      by_cases e1 : b = -1
      · rw [if_pos e1, if_pos e1]; rfl
      · rw [if_neg e1, if_neg e1]
        by_cases e2 : b = nI r
        · rw [if_pos e2, if_pos e2]; rfl
        · rw [if_neg e2, if_neg e2]
          obtain ⟨q, hq, rfl⟩ := hb.resolve_left e1
          rw [sh_n (by omega) (by omega), nI_clamp (by omega)]
          rcases Nat.mod_two_eq_zero_or_one (csN r k / 2 ^ q) with e3 | e3
          · rw [e3, if_pos (by rfl), if_pos rfl, show (3 : Int32) = nI 3 from rfl, gd_nI (by decide) (by decide), nI_clamp (by decide), k3]
          · rw [e3, if_neg (by decide), if_neg (by decide), show (2 : Int32) = nI 2 from rfl, gd_nI (by decide) (by decide), nI_clamp (by decide), k2]
    rw [eb, bp_some, nI_clamp (by decide), nI_clamp (by decide), k0, k1, pk_mul, pk_mul, nI_add, nI_add]
  · rw [if_neg (nI_ge (by omega) (by omega)), if_neg h2]
theorem not_n (c : Nat) : nI c ^^^ (-1 : Int32) = nI (c ^^^ (2 ^ 32 - 1)) := by rw [← nx_xor]; rfl
theorem M_fit2 {τ : St} {f : Nat → Int32} (hc : gCost f (τ.1 3)) {n s r k x : Nat} {b : Int32} (hn : 33 ≤ n) (hs : s < 4096) (hr : r < 12) (hk : k < 9) (hb : b = -1 ∨ ∃ q, q < 12 ∧ b = nI q) (hx : x < 24) (e7 : τ.1 7 x = nI s) (e8 : τ.1 8 x = b) : M_fits n τ (nI x) (nI r) (nI k) = some (fitN f s b r k) := by
  obtain ⟨-, c1, c3⟩ := cs_ok r hr k hk
  have and_lt : csN r k &&& s < 2 ^ 31 := Nat.lt_of_le_of_lt Nat.and_le_right (by omega)
  have l1 : pcf 32 (s &&& (csN r k ^^^ (2 ^ 32 - 1))) = pcf 32 s - pcf 32 (csN r k &&& s) := by
    have := pcf_and 32 s (csN r k)
    rw [Nat.and_comm s (csN r k)] at this
    omega
  have l2 : pcf 32 (csN r k &&& (s ^^^ (2 ^ 32 - 1))) = pcf 32 (csN r k) - pcf 32 (csN r k &&& s) := by
    have := pcf_and 32 (csN r k) s
    omega
  have b1 : s &&& (csN r k ^^^ (2 ^ 32 - 1)) < 2 ^ 31 := Nat.lt_of_le_of_lt Nat.and_le_left (by omega)
  have b2 : csN r k &&& (s ^^^ (2 ^ 32 - 1)) < 2 ^ 31 := Nat.lt_of_le_of_lt Nat.and_le_left (by omega)
  have k0 := (cst_of hc (i := 0) (by decide)).2.1
  have k1 := (cst_of hc (i := 1) (by decide)).2.1
  have k2 := (cst_of hc (i := 2) (by decide)).2.1
  have k3 := (cst_of hc (i := 3) (by decide)).2.1
  have pl := pcf_le 32 (csN r k &&& s)
  have key : ∀ q, M_fits_b79 n τ (nI x) (nI (csN r k)) (nI q) = some (nI (((pcf 32 s - pcf 32 (csN r k &&& s)) * cst f 0 + (pcf 32 (csN r k) - pcf 32 (csN r k &&& s)) * cst f 1) + q)) := by
    intro q
    unfold M_fits_b79
    rw [nI_clamp (show x < 2 ^ 31 by omega), e7, not_n, not_n, show (0 : Int32) = nI 0 from rfl, show (1 : Int32) = nI 1 from rfl, gd_nI (by decide) (by decide), gd_nI hx (by decide), nx_and, many_n hn b1, bp_some, gd_nI (by decide) (by decide), gd_nI hx (by decide), nx_and, many_n hn b2, bp_some, nI_clamp (by decide), nI_clamp (by decide), k0, k1, l1, l2, pk_mul, pk_mul, nI_add, nI_add, Nat.mul_comm (cst f 0), Nat.mul_comm (cst f 1)]
  unfold M_fits fitN
  rw [c1, bp_some, gd_nI hx (by decide), nI_clamp (show x < 2 ^ 31 by omega), e7, nx_and, many_n hn and_lt, bp_some, show (2 : Int32) = nI 2 from rfl]
  by_cases h2 : 2 ≤ pcf 32 (csN r k &&& s)
  · rw [if_pos (nI_le h2 (by omega)), if_pos h2, gd_nI hx (by decide), lt_is, e8]
    unfold basN
    by_cases e1 : b = -1
    · rw [if_pos e1, if_pos e1]; exact key 0
    · rw [if_neg e1, if_neg e1]
      by_cases e2 : b = nI r
      · rw [if_pos e2, if_pos e2]; exact key 0
      · rw [if_neg e2, if_neg e2]
        obtain ⟨q, hq, rfl⟩ := hb.resolve_left e1
        rw [← sh_eq (by omega) (by omega), sh_n (by omega) (by omega), nI_clamp (show q < 2 ^ 31 by omega)]
        rcases Nat.mod_two_eq_zero_or_one (csN r k / 2 ^ q) with e3 | e3
        · rw [e3, if_neg (by decide), if_pos rfl, show (3 : Int32) = nI 3 from rfl, gd_nI (by decide) (by decide), nI_clamp (by decide), k3, key]
        · rw [e3, if_pos (by rfl), if_neg (by decide), gd_nI (by decide) (by decide), nI_clamp (by decide), k2, key]
  · rw [if_neg (nI_ge (by omega) (by omega)), if_neg h2]
theorem C_fit_out {σ : St} {s : Nat} {b x y : Int32} (h : x < 0 ∨ 12 ≤ x ∨ y < 0 ∨ ¬ y < 9) : C_Tariff_ofFit σ (nI s) b x y = some (-1) := by
  have e : C_CG_chordSet x y = some 0 := by
    unfold C_CG_chordSet
    repeat' split
    all_goals first | rfl | (exfalso; grind)
  unfold C_Tariff_ofFit
  rw [e, bp_some, show (0 : Int32) = nI 0 from rfl, nx_and, Nat.zero_and, bitCount_n (by decide), bp_some, if_neg (by decide)]
theorem k_fit {σ τ : St} {a b c : Int32} (hs : gSlots (σ.1 48) (σ.1 49) (σ.1 50) (σ.1 51) (τ.1 7) (τ.1 8) (τ.1 9) (τ.1 6)) (hc : gCost (σ.1 32) (τ.1 3)) : ∃ (n2 : Nat) (r : Int32) (τ' : St), C_CG_fit σ a b c = some r ∧ M_fit n2 τ a b c = some (r, τ') ∧ fr [0] τ τ' := by
  refine ⟨33, ?_⟩
  obtain ⟨k, hk, e1, e2, hsl⟩ := hs
  have e2' : (sI τ 0 0 0).1 6 0 = nI k := by rw [sI_1]; simp [e2]
  by_cases h0 : ¬ a < 0 ∧ a < nI k
  · obtain ⟨j, hj, rfl⟩ := ix_of (n := k) h0.1 (by grind [Int32.lt_iff_toInt_lt, Int32.le_iff_toInt_le, nI_toInt]) (by omega)
    obtain ⟨⟨s1, v, v1, v2, s2⟩, ⟨b1, b2⟩, -⟩ := hsl j hj
    have hC : C_CG_fit σ (nI j) b c = C_Tariff_ofFit σ (nI v) (σ.1 49 j) b c := by
      simp only [C_CG_fit, C_Slots_has, e1]
      rw [if_neg h0.1, if_neg (nI_ge hj (by omega)), bp_some, if_neg (by decide), gd_nI (by omega) (by decide), gd_nI (by omega) (by decide), nI_clamp (by omega), s2]
      cases C_Tariff_ofFit σ (nI v) (σ.1 49 j) b c <;> rfl
    by_cases hr : (¬ b < 0 ∧ b < 12) ∧ (¬ c < 0 ∧ c < 9)
    · obtain ⟨r, hr1, rfl⟩ := ix_of (n := 12) hr.1.1 (by grind [Int32.lt_iff_toInt_lt, Int32.le_iff_toInt_le, nI_toInt]) (by decide)
      obtain ⟨kd, hk1, rfl⟩ := ix_of (n := 9) hr.2.1 (by grind [Int32.lt_iff_toInt_lt, Int32.le_iff_toInt_le, nI_toInt]) (by decide)
      refine ⟨fitN (σ.1 32) v (σ.1 49 j) r kd, sI τ 0 0 0, ?_, ?_, fr.sI (by decide)⟩
      · rw [hC, C_fit hc v2 hr1 hk1 b2]
      · simp only [M_fit, lt_is, e2']
        rw [if_neg h0.1, if_neg (nI_ge hj (by omega)), if_neg hr.1.1, if_neg (by grind [Int32.lt_iff_toInt_lt, Int32.le_iff_toInt_le, nI_toInt]), if_neg hr.2.1, if_pos (by grind [Int32.lt_iff_toInt_lt, Int32.le_iff_toInt_le, nI_toInt]), M_fit2 (τ := sI τ 0 0 0) (f := σ.1 32) hc (by decide) v2 hr1 hk1 b2 (by omega) (by rw [sI_1]; simp [← s1, s2]) (by rw [sI_1]; simp [← b1]), bp_some]
    · refine ⟨-1, sI τ 0 0 0, ?_, ?_, fr.sI (by decide)⟩
      · rw [hC, C_fit_out (by grind)]
      · simp only [M_fit, lt_is, e2']
        repeat' split
        all_goals first | rfl | (exfalso; grind)
  · refine ⟨-1, sI τ 0 0 0, ?_, ?_, fr.sI (by decide)⟩
    · simp only [C_CG_fit, C_Slots_has, e1]
      by_cases h1 : a < 0
      · rw [if_pos h1]; rfl
      · rw [if_neg h1, if_pos (by grind)]; rfl
    · simp only [M_fit, lt_is, e2']
      by_cases h1 : a < 0
      · rw [if_pos h1]
      · rw [if_neg h1, if_pos (by grind)]
/-- the best of what F says, from x on -/
def bG (F : Nat → Int32) : Nat → Nat → Int32 → Int32 → Int32
  | 0, _, fd, _ => fd
  | m + 1, x, fd, ls => if F x = -1 then bG F m (x + 1) fd ls else if fd < 0 ∨ F x < ls then bG F m (x + 1) (nI x) (F x) else bG F m (x + 1) fd ls
theorem best_M {n : Nat} {τ : St} {F : Nat → Int32} {j k : Nat} (hjk : j < k) (hk : k ≤ 24) (e6 : τ.1 6 0 = nI k) (hF : ∀ x, x < 108 → M_fits n τ (nI j) (nI (x % 12)) (nI (x / 12)) = some (F x)) (hv : ∀ x, x < 108 → F x = -1 ∨ ∃ v, v ≤ 70000 ∧ F x = nI v) :
    ∀ (m x f : Nat) (fd ls : Int32), x + m = 108 → m + 1 ≤ f → M_best_l12 n f τ (nI j) ls fd (nI x) = some (bG F m x fd ls, τ) := by
  intro m
  induction m with
  | zero =>
    intro x f fd ls hx hf
    obtain ⟨f, rfl⟩ : ∃ g, f = g + 1 := ⟨f - 1, by omega⟩
    have : x = 108 := by omega
    subst this
    rfl
  | succ m ih =>
    intro x f fd ls hx hf
    obtain ⟨f, rfl⟩ : ∃ g, f = g + 1 := ⟨f - 1, by omega⟩
    unfold M_best_l12 bG
    rw [if_neg (show ¬ (108 : Int32) ≤ nI x from nge 108 (by omega) (by decide)), if_neg (nI_pos (by omega)), e6, if_neg (nI_ge hjk (by omega)), show (12 : Int32) = nI 12 from rfl, pk_rem (by omega) (by decide) (by decide), pk_div (by omega) (by decide) (by decide), hF x (by omega), bp_some]
    simp only [lt_is, nI_1]
    rcases hv x (by omega) with e | ⟨v, hv1, e⟩
    · rw [if_pos (by rw [e]; decide), if_pos e]
      exact ih (x + 1) f fd ls (by omega) (by omega)
    · have hp : ¬ nI v < 0 := nI_pos (by omega)
      have hne : ¬ nI v = -1 := by grind
      rw [e, if_neg hp, if_neg hne]
      by_cases h3 : fd < 0
      · rw [if_pos h3, if_pos (Or.inl h3)]
        exact ih (x + 1) f _ _ (by omega) (by omega)
      · rw [if_neg h3]
        by_cases h4 : ls ≤ nI v
        · rw [if_pos h4, if_neg (by grind)]
          exact ih (x + 1) f _ _ (by omega) (by omega)
        · rw [if_neg h4, if_pos (by grind)]
          exact ih (x + 1) f _ _ (by omega) (by omega)
def lsC (fd ls : Int32) : Int32 := if fd < 0 then 2147483647 else ls
theorem best_C1 {n : Nat} {σ : St} {F : Nat → Int32} {s b : Int32} {κ : Nat} (hκ : κ < 9) (hF : ∀ x, x < 108 → C_Tariff_ofFit σ s b (nI (x % 12)) (nI (x / 12)) = some (F x)) (hv : ∀ x, x < 108 → F x = -1 ∨ ∃ v, v ≤ 70000 ∧ F x = nI v)
    (k9 : Int32 → Int32 → Int32 → Int32 → Int32 → Option Int32) (hk9 : ∀ fd ls, k9 s b fd (lsC fd ls) (nI (κ + 1)) = some (bG F (108 - 12 * (κ + 1)) (12 * (κ + 1)) fd ls)) :
    ∀ (m q f : Nat) (fd ls : Int32), q + m = 12 → m + 1 ≤ f → C_Tariff_cheapest_l19 n σ k9 f s b fd (lsC fd ls) (nI κ) (nI q) = some (bG F (108 - 12 * κ - q) (12 * κ + q) fd ls) := by
  intro m
  induction m with
  | zero =>
    intro q f fd ls hq hf
    obtain ⟨f, rfl⟩ : ∃ g, f = g + 1 := ⟨f - 1, by omega⟩
    have : q = 12 := by omega
    subst this
    unfold C_Tariff_cheapest_l19
    rw [if_pos (by decide), lt_is, nI_1, hk9, show 108 - 12 * κ - 12 = 108 - 12 * (κ + 1) by omega, show 12 * κ + 12 = 12 * (κ + 1) by omega]
  | succ m ih =>
    intro q f fd ls hq hf
    obtain ⟨f, rfl⟩ : ∃ g, f = g + 1 := ⟨f - 1, by omega⟩
    unfold C_Tariff_cheapest_l19
    have hFx := hF (12 * κ + q) (by omega)
    rw [show (12 * κ + q) % 12 = q by omega, show (12 * κ + q) / 12 = κ by omega] at hFx
    have unf : bG F (108 - 12 * κ - q) (12 * κ + q) fd ls = if F (12 * κ + q) = -1 then bG F (108 - 12 * κ - (q + 1)) (12 * κ + (q + 1)) fd ls else if fd < 0 ∨ F (12 * κ + q) < ls then bG F (108 - 12 * κ - (q + 1)) (12 * κ + (q + 1)) (nI (12 * κ + q)) (F (12 * κ + q)) else bG F (108 - 12 * κ - (q + 1)) (12 * κ + (q + 1)) fd ls := by
      rw [show 108 - 12 * κ - q = (108 - 12 * κ - (q + 1)) + 1 by omega]; rfl
    rw [if_neg (show ¬ (12 : Int32) ≤ nI q from nge 12 (by omega) (by decide)), hFx, bp_some, unf]
    simp only [lt_is, nI_1]
    rcases hv (12 * κ + q) (by omega) with e | ⟨v, hv1, e⟩
    · rw [if_pos e, if_pos e]
      exact ih (q + 1) f fd ls (by omega) (by omega)
    · have hp : ¬ nI v < 0 := nI_pos (by omega)
      have hne : ¬ nI v = -1 := by grind
      have hxx : ¬ nI (12 * κ + q) < 0 := nI_pos (by omega)
      have hls : nI v = lsC (nI (12 * κ + q)) (nI v) := by unfold lsC; rw [if_neg hxx]
      rw [e, if_neg hne, if_neg hne]
      by_cases h3 : fd < 0
      · have : ¬ lsC fd ls ≤ nI v := by unfold lsC; rw [if_pos h3]; grind [Int32.lt_iff_toInt_lt, Int32.le_iff_toInt_le, nI_toInt]
        rw [if_neg this, if_pos (Or.inl h3), show (12 : Int32) * nI κ + nI q = nI (12 * κ + q) by rw [show (12 : Int32) = nI 12 from rfl, pk_mul, nI_add], hls]
        have := ih (q + 1) f (nI (12 * κ + q)) (nI v) (by omega) (by omega)
        rw [this, ← hls]
      · have hl : lsC fd ls = ls := by unfold lsC; rw [if_neg h3]
        by_cases h4 : ls ≤ nI v
        · have hi := ih (q + 1) f fd ls (by omega) (by omega)
          rw [hl] at hi
          rw [hl, if_pos h4, if_neg (by grind)]
          exact hi
        · rw [hl, if_neg h4, if_pos (by grind), show (12 : Int32) * nI κ + nI q = nI (12 * κ + q) by rw [show (12 : Int32) = nI 12 from rfl, pk_mul, nI_add], hls]
          have := ih (q + 1) f (nI (12 * κ + q)) (nI v) (by omega) (by omega)
          rw [this, ← hls]
theorem best_C {n : Nat} (hn : 13 ≤ n) {σ : St} {F : Nat → Int32} {s b : Int32} (hF : ∀ x, x < 108 → C_Tariff_ofFit σ s b (nI (x % 12)) (nI (x / 12)) = some (F x)) (hv : ∀ x, x < 108 → F x = -1 ∨ ∃ v, v ≤ 70000 ∧ F x = nI v) :
    ∀ (m κ f : Nat) (fd ls : Int32), κ + m = 9 → m + 1 ≤ f → C_Tariff_cheapest_l9 n σ f s b fd (lsC fd ls) (nI κ) = some (bG F (108 - 12 * κ) (12 * κ) fd ls) := by
  intro m
  induction m with
  | zero =>
    intro κ f fd ls hq hf
    obtain ⟨f, rfl⟩ : ∃ g, f = g + 1 := ⟨f - 1, by omega⟩
    have : κ = 9 := by omega
    subst this
    rfl
  | succ m ih =>
    intro κ f fd ls hq hf
    obtain ⟨f, rfl⟩ : ∃ g, f = g + 1 := ⟨f - 1, by omega⟩
    unfold C_Tariff_cheapest_l9
    rw [if_neg (show ¬ (9 : Int32) ≤ nI κ from nge 9 (by omega) (by decide))]
    exact best_C1 (by omega) hF hv _ (fun fd ls => ih (κ + 1) f fd ls (by omega) (by omega)) 12 0 n fd ls (by omega) (by omega)
theorem k_best {σ τ : St} {a : Int32} (hs : gSlots (σ.1 48) (σ.1 49) (σ.1 50) (σ.1 51) (τ.1 7) (τ.1 8) (τ.1 9) (τ.1 6)) (hc : gCost (σ.1 32) (τ.1 3)) : ∃ (n1 n2 : Nat) (r : Int32) (τ' : St), C_CG_best n1 σ a = some r ∧ M_best n2 τ a = some (r, τ') ∧ fr [0] τ τ' := by
  refine ⟨200, 200, ?_⟩
  obtain ⟨k, hk, e1, e2, hsl⟩ := hs
  have e2' : (sI τ 0 0 0).1 6 0 = nI k := by rw [sI_1]; simp [e2]
  by_cases h0 : ¬ a < 0 ∧ a < nI k
  · obtain ⟨j, hj, rfl⟩ := ix_of (n := k) h0.1 (by grind [Int32.lt_iff_toInt_lt, Int32.le_iff_toInt_le, nI_toInt]) (by omega)
    obtain ⟨⟨s1, v, v1, v2, s2⟩, ⟨b1, b2⟩, -⟩ := hsl j hj
    refine ⟨bG (fun x => fitN (σ.1 32) v (σ.1 49 j) (x % 12) (x / 12)) 108 0 (-1) (-1), sI τ 0 0 0, ?_, ?_, fr.sI (by decide)⟩
    · simp only [C_CG_best, C_Slots_has, e1]
      rw [if_neg h0.1, if_neg (nI_ge hj (by omega)), bp_some, if_neg (by decide), gd_nI (by omega) (by decide), gd_nI (by omega) (by decide), nI_clamp (by omega), s2]
      have := best_C (n := 200) (by decide) (σ := σ) (F := fun x => fitN (σ.1 32) v (σ.1 49 j) (x % 12) (x / 12)) (s := nI v) (b := σ.1 49 j) (fun x hx => C_fit hc v2 (by omega) (by omega) b2) (fun x hx => fitN_of hc _ _ _ _) 9 0 200 (-1) (-1) (by decide) (by decide)
      unfold C_Tariff_cheapest
      rw [show (2147483647 : Int32) = lsC (-1) (-1) from rfl, show (0 : Int32) = nI 0 from rfl, this]; rfl
    · simp only [M_best, lt_is]
      exact best_M (n := 200) (τ := sI τ 0 0 0) (F := fun x => fitN (σ.1 32) v (σ.1 49 j) (x % 12) (x / 12)) hj hk e2' (fun x hx => M_fit2 (τ := sI τ 0 0 0) (f := σ.1 32) hc (by decide) v2 (by omega) (by omega) b2 (by omega) (by rw [sI_1]; simp [← s1, s2]) (by rw [sI_1]; simp [← b1])) (fun x hx => fitN_of hc _ _ _ _) 108 0 200 (-1) (-1) (by decide) (by decide)
  · refine ⟨-1, sI τ 0 0 0, ?_, ?_, fr.sI (by decide)⟩
    · simp only [C_CG_best, C_Slots_has, e1]
      by_cases h1 : a < 0
      · rw [if_pos h1]; rfl
      · rw [if_neg h1, if_pos (by grind)]; rfl
    · simp only [M_best, lt_is]
      unfold M_best_l12
      rw [if_neg (by decide), e2']
      by_cases h1 : a < 0
      · rw [if_pos h1]
      · rw [if_neg h1, if_pos (by grind)]

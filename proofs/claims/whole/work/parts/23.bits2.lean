/-! how many bits: bitCount, many -/
def pcf : Nat → Nat → Nat
  | 0, _ => 0
  | k + 1, v => v % 2 + pcf k (v / 2)
theorem pcf_0 (k : Nat) : pcf k 0 = 0 := by
  induction k with
  | zero => rfl
  | succ k ih => simp [pcf, ih]
theorem pcf_le (k v : Nat) : pcf k v ≤ k := by
  induction k generalizing v with
  | zero => exact Nat.le_refl _
  | succ k ih => have := ih (v / 2); simp only [pcf]; omega
theorem pcf_app (k m v : Nat) : pcf (k + m) v = pcf k (v % 2 ^ k) + pcf m (v / 2 ^ k) := by
  induction k generalizing v with
  | zero => simp [pcf]
  | succ k ih =>
    rw [show k + 1 + m = k + m + 1 by omega]
    simp only [pcf]
    rw [ih (v / 2)]
    have h1 : v % 2 ^ (k + 1) % 2 = v % 2 := by rw [Nat.pow_succ, Nat.mul_comm]; exact Nat.mod_mul_right_mod v 2 (2 ^ k)
    have h2 : v % 2 ^ (k + 1) / 2 = v / 2 % 2 ^ k := by
      rw [Nat.pow_succ, Nat.mul_comm, Nat.mod_mul_right_div_self]
    have h3 : v / 2 / 2 ^ k = v / 2 ^ (k + 1) := by rw [Nat.div_div_eq_div_mul, Nat.pow_succ, Nat.mul_comm]
    rw [h1, h2, h3]
    omega
theorem pcf_small {k m v : Nat} (h : v < 2 ^ k) : pcf (k + m) v = pcf k v := by
  rw [pcf_app, Nat.mod_eq_of_lt h, Nat.div_eq_of_lt h, pcf_0]; rfl
/-- 'and' of numbers in two pieces -/
theorem and_cut (k a b c d : Nat) (ha : a < 2 ^ k) (hc : c < 2 ^ k) : (a + 2 ^ k * b) &&& (c + 2 ^ k * d) = (a &&& c) + 2 ^ k * (b &&& d) := by
  have hac : a &&& c < 2 ^ k := Nat.and_lt_two_pow a hc
  apply Nat.eq_of_testBit_eq
  intro i
  rw [Nat.testBit_and, Nat.add_comm a, Nat.add_comm c, Nat.add_comm (a &&& c), Nat.testBit_two_pow_mul_add _ ha, Nat.testBit_two_pow_mul_add _ hc, Nat.testBit_two_pow_mul_add _ hac]
  by_cases h : i < k
  · simp [h]
  · simp [h]
def b1 (w : Nat) : Nat := w - (w / 2 &&& 21845)
def b2 (w : Nat) : Nat := (w &&& 13107) + (w / 4 &&& 13107)
def b3 (w : Nat) : Nat := (w + w / 16) &&& 3855
theorem and_le (a b : Nat) : a &&& b ≤ b := Nat.and_le_right
theorem bc1 (lo hi : Nat) (h1 : lo < 65536) (h2 : hi < 65536) : (lo + 65536 * hi) - ((lo + 65536 * hi) / 2 &&& 1431655765) = b1 lo + 65536 * b1 hi := by
  have e : (lo + 65536 * hi) / 2 = (lo / 2 + 2 ^ 15 * (hi % 2)) + 2 ^ 16 * (hi / 2) := by omega
  have e2 : (lo / 2 + 2 ^ 15 * (hi % 2)) &&& (21845 + 2 ^ 15 * 0) = (lo / 2 &&& 21845) + 2 ^ 15 * (hi % 2 &&& 0) := and_cut 15 _ _ _ _ (by omega) (by decide)
  rw [e, show (1431655765 : Nat) = (21845 + 2 ^ 15 * 0) + 2 ^ 16 * 21845 from rfl, and_cut 16 _ _ _ _ (by omega) (by decide), e2, Nat.and_zero]
  have g1 : lo / 2 &&& 21845 ≤ lo / 2 := Nat.and_le_left
  have g2 : hi / 2 &&& 21845 ≤ hi / 2 := Nat.and_le_left
  unfold b1
  omega
theorem b1_lt (w : Nat) : b1 w ≤ w := Nat.sub_le _ _
theorem bc2 (p q : Nat) (h1 : p < 65536) (h2 : q < 65536) : ((p + 65536 * q) &&& 858993459) + ((p + 65536 * q) / 4 &&& 858993459) = b2 p + 65536 * b2 q := by
  have e : (p + 65536 * q) / 4 = (p / 4 + 2 ^ 14 * (q % 4)) + 2 ^ 16 * (q / 4) := by omega
  have e2 : (p / 4 + 2 ^ 14 * (q % 4)) &&& (13107 + 2 ^ 14 * 0) = (p / 4 &&& 13107) + 2 ^ 14 * (q % 4 &&& 0) := and_cut 14 _ _ _ _ (by omega) (by decide)
  have e3 : (p + 2 ^ 16 * q) &&& (13107 + 2 ^ 16 * 13107) = (p &&& 13107) + 2 ^ 16 * (q &&& 13107) := and_cut 16 _ _ _ _ (by omega) (by decide)
  have e4 : (p + 65536 * q) &&& 858993459 = (p &&& 13107) + 2 ^ 16 * (q &&& 13107) := e3
  rw [e4, e, show (858993459 : Nat) = (13107 + 2 ^ 14 * 0) + 2 ^ 16 * 13107 from rfl, and_cut 16 _ _ _ _ (by omega) (by decide), e2, Nat.and_zero]
  unfold b2
  omega
theorem b2_le (w : Nat) : b2 w ≤ 26214 := by
  have := and_le w 13107
  have := and_le (w / 4) 13107
  unfold b2
  omega
theorem bc3 (p q : Nat) (h1 : p ≤ 26214) (h2 : q ≤ 26214) (h3 : q % 16 ≤ 6) : ((p + 65536 * q) + (p + 65536 * q) / 16) &&& 252645135 = b3 p + 65536 * b3 q := by
  have e : (p + 65536 * q) + (p + 65536 * q) / 16 = ((p + p / 16) % 4096 + 2 ^ 12 * ((p + p / 16) / 4096 + q % 16)) + 2 ^ 16 * (q + q / 16) := by omega
  have e2 : ((p + p / 16) % 4096 + 2 ^ 12 * ((p + p / 16) / 4096 + q % 16)) &&& (3855 + 2 ^ 12 * 0) = ((p + p / 16) % 4096 &&& 3855) + 2 ^ 12 * (((p + p / 16) / 4096 + q % 16) &&& 0) := and_cut 12 _ _ _ _ (by omega) (by decide)
  have e3 : ((p + p / 16) % 4096 + 2 ^ 12 * ((p + p / 16) / 4096)) &&& (3855 + 2 ^ 12 * 0) = ((p + p / 16) % 4096 &&& 3855) + 2 ^ 12 * ((p + p / 16) / 4096 &&& 0) := and_cut 12 _ _ _ _ (by omega) (by decide)
  have e4 : b3 p = (p + p / 16) % 4096 &&& 3855 := by
    unfold b3
    have : (p + p / 16) % 4096 + 2 ^ 12 * ((p + p / 16) / 4096) = p + p / 16 := by omega
    rw [this, Nat.and_zero] at e3
    simpa using e3
  rw [e, show (252645135 : Nat) = (3855 + 2 ^ 12 * 0) + 2 ^ 16 * 3855 from rfl, and_cut 16 _ _ _ _ (by omega) (by decide), e2, e4, Nat.and_zero]
  unfold b3
  omega
set_option maxRecDepth 100000 in
theorem b2_mod : ∀ a, a < 256 → ∀ b, b < 256 → b2 (b1 (a + 256 * b)) % 16 ≤ 6 ∧ b3 (b2 (b1 (a + 256 * b))) = pcf 8 a + 256 * pcf 8 b := by decide +kernel
theorem b_16 {w : Nat} (h : w < 65536) : b2 (b1 w) % 16 ≤ 6 ∧ b3 (b2 (b1 w)) = pcf 8 (w % 256) + 256 * pcf 8 (w / 256) := by
  have := b2_mod (w % 256) (Nat.mod_lt _ (by decide)) (w / 256) (by omega)
  rw [show w % 256 + 256 * (w / 256) = w by omega] at this
  exact this
theorem many_l (n : Nat) : ∀ (k f v a : Nat), v < 2 ^ k → k ≤ 31 → k + 1 ≤ f → M_many_l4 n f (nI a) (nI v) = some (nI (a + pcf k v)) := by
  intro k
  induction k with
  | zero =>
    intro f v a hv _ hf
    obtain ⟨f, rfl⟩ : ∃ g, f = g + 1 := ⟨f - 1, by omega⟩
    have : v = 0 := by omega
    subst this
    simp [M_many_l4, pcf, nI_0]
  | succ k ih =>
    intro f v a hv hk hf
    obtain ⟨f, rfl⟩ : ∃ g, f = g + 1 := ⟨f - 1, by omega⟩
    have hv31 : v < 2 ^ 31 := Nat.lt_of_lt_of_le hv (Nat.pow_le_pow_right (by decide) hk)
    unfold M_many_l4
    by_cases h0 : v = 0
    · subst h0
      rw [if_pos (by decide), pcf_0]; rfl
    · rw [if_neg (nI_nle (by omega) hv31)]
      simp only [lt_is]
      rw [show nI v &&& 1 = nI (v % 2) from pk_andN (by omega) 1 (by decide), nI_add, show nI v >>> ((1 : Int32) &&& 31) = nI (v / 2) from pk_shrN hv31 _ 1 (by decide), ih f (v / 2) (a + v % 2) (by rw [Nat.pow_succ] at hv; omega) (by omega) (by omega)]
      simp only [pcf, Nat.add_assoc]
theorem many_n {n v : Nat} (hn : 33 ≤ n) (hv : v < 2 ^ 31) : M_many n (nI v) = some (nI (pcf 32 v)) := by
  have := many_l n 31 n v 0 hv (by decide) (by omega)
  rw [Nat.zero_add] at this
  rw [show (32 : Nat) = 31 + 1 from rfl, pcf_small hv]
  exact this
theorem pcf_and (k s c : Nat) : pcf k s = pcf k (s &&& c) + pcf k (s &&& (c ^^^ (2 ^ k - 1))) := by
  induction k generalizing s c with
  | zero => rfl
  | succ k ih =>
    simp only [pcf]
    rw [Nat.and_div_two, Nat.and_div_two, Nat.xor_div_two, ih (s / 2) (c / 2)]
    have h1 : (2 ^ (k + 1) - 1) / 2 = 2 ^ k - 1 := by rw [Nat.pow_succ]; omega
    have h2 : (2 ^ (k + 1) - 1) % 2 = 1 := by
      have : 0 < 2 ^ k := Nat.two_pow_pos k
      rw [Nat.pow_succ]; omega
    rw [h1]
    have e1 : (s &&& c) % 2 = (s % 2) &&& (c % 2) := Nat.and_mod_two_pow (n := 1)
    have e2 : (s &&& (c ^^^ (2 ^ (k + 1) - 1))) % 2 = (s % 2) &&& ((c % 2) ^^^ 1) := by
      have a1 : (s &&& (c ^^^ (2 ^ (k + 1) - 1))) % 2 = (s % 2) &&& ((c ^^^ (2 ^ (k + 1) - 1)) % 2) := Nat.and_mod_two_pow (n := 1)
      have a2 : (c ^^^ (2 ^ (k + 1) - 1)) % 2 = (c % 2) ^^^ ((2 ^ (k + 1) - 1) % 2) := Nat.xor_mod_two_pow (n := 1)
      rw [a1, a2, h2]
    rw [e1, e2]
    rcases Nat.mod_two_eq_zero_or_one s with hs | hs <;> rcases Nat.mod_two_eq_zero_or_one c with hc | hc <;> simp [hs, hc] <;> omega

/-! key, cost, slot, clear, draft -/
def gKey (f16 f17 g1 g2 : Nat → Int32) : Prop := f16 0 = g1 0 ∧ f17 0 = g2 0 ∧ (∃ t, t < 12 ∧ f16 0 = nI t) ∧ (f17 0 = 0 ∨ f17 0 = 1)
def gCost (f g : Nat → Int32) : Prop := ∀ i, i < 4 → f i = g i ∧ ∃ v, v ≤ 1000 ∧ f i = nI v
def gSlots (fs fb fp fc gs gb gp gc : Nat → Int32) : Prop := ∃ c, c ≤ 24 ∧ fc 0 = nI c ∧ gc 0 = nI c ∧ ∀ i, i < c → (fs i = gs i ∧ ∃ v, 1 ≤ v ∧ v < 4096 ∧ fs i = nI v) ∧ (fb i = gb i ∧ (fb i = -1 ∨ ∃ b, b < 12 ∧ fb i = nI b)) ∧ (fp i = gp i ∧ (fp i = -1 ∨ ∃ p, p < 128 ∧ fp i = nI p))
def gDraft (f64 f65 g4 g5 : Nat → Int32) : Prop := ∃ d, d ≤ 800 ∧ f65 0 = nI d ∧ g5 0 = nI d ∧ ∀ i, i < d → ∃ o, o < 256 ∧ f64 i &&& 255 = nI o ∧ g4 i = nI o
theorem k_key {σ τ : St} {a b : Int32} (hb : b = 0 ∨ b = 1) (h : gKey (σ.1 16) (σ.1 17) (τ.1 1) (τ.1 2)) : ∃ (r : Int32) (σ' τ' : St), C_CG_key σ a b = some (r, σ') ∧ M_key τ a b = some (r, τ') ∧ gKey (σ'.1 16) (σ'.1 17) (τ'.1 1) (τ'.1 2) ∧ fr [16, 17] σ σ' ∧ fr [0, 1, 2] τ τ' := by
  by_cases h1 : a < 0
  · refine ⟨0, σ, sI τ 0 0 0, ?_, ?_, h, fr.rf, fr.sI (by decide)⟩
    · simp [C_CG_key, C_Key_change, h1, bd, gb]
    · simp [M_key, lt, h1]
  · by_cases h2 : a < 12
    · obtain ⟨t, ht, rfl⟩ := ix_of (n := 12) h1 (by grind [Int32.lt_iff_toInt_lt, Int32.le_iff_toInt_le, nI_toInt]) (by decide)
      have h3 : nI t ≤ 11 := by grind [Int32.lt_iff_toInt_lt, Int32.le_iff_toInt_le, nI_toInt]
      refine ⟨1, sI (sI σ 16 0 (nI t)) 17 0 b, sI (sI (sI τ 0 0 0) 1 0 (nI t)) 2 0 b, ?_, ?_, ⟨rfl, rfl, ⟨t, ht, rfl⟩, hb⟩, (fr.sI (by decide)).tr (fr.sI (by decide)), ((fr.sI (by decide)).tr (fr.sI (by decide))).tr (fr.sI (by decide))⟩
      · simp [C_CG_key, C_Key_change, h1, h2, bd, gb, lt, hb]
      · simp [M_key, lt, h1, h3, gb, hb]
    · have h3 : ¬ a ≤ 11 := by grind [Int32.lt_iff_toInt_lt, Int32.le_iff_toInt_le, nI_toInt]
      refine ⟨0, σ, sI τ 0 0 0, ?_, ?_, h, fr.rf, fr.sI (by decide)⟩
      · simp [C_CG_key, C_Key_change, h1, h2, bd, gb]
      · simp [M_key, lt, h1, h3]
theorem k_cost {σ τ : St} {a b : Int32} (h : gCost (σ.1 32) (τ.1 3)) : ∃ (r : Int32) (σ' τ' : St), C_CG_cost σ a b = some (r, σ') ∧ M_cost τ a b = some (r, τ') ∧ gCost (σ'.1 32) (τ'.1 3) ∧ fr [32] σ σ' ∧ fr [0, 3] τ τ' := by
  by_cases hh : (¬ a < 0 ∧ a < 4) ∧ (¬ b < 0 ∧ b ≤ 1000)
  · obtain ⟨⟨h1, h2⟩, h3, h4⟩ := hh
    obtain ⟨t, ht, rfl⟩ := ix_of (n := 4) h1 (by grind [Int32.lt_iff_toInt_lt, Int32.le_iff_toInt_le, nI_toInt]) (by decide)
    obtain ⟨v, hv, rfl⟩ := ix_of (n := 1001) h3 (by grind [Int32.lt_iff_toInt_lt, Int32.le_iff_toInt_le, nI_toInt]) (by decide)
    have h5 : ¬ (4 : Int32) ≤ nI t := by grind [Int32.lt_iff_toInt_lt, Int32.le_iff_toInt_le, nI_toInt]
    have h6 : ¬ (3 : Int32) < nI t := by grind [Int32.lt_iff_toInt_lt, Int32.le_iff_toInt_le, nI_toInt]
    refine ⟨1, sI σ 32 t (nI v), sI (sI τ 0 0 0) 3 t (nI v), ?_, ?_, ?_, fr.sI (by decide), (fr.sI (by decide)).tr (fr.sI (by decide))⟩
    · simp [C_CG_cost, C_Tariff_change, h1, h5, h3, h4, bd, gb, lt, gd_nI ht, nI_clamp (show t < 2 ^ 31 by omega)]
    · simp [M_cost, lt, h1, h6, h3, h4, gd_nI ht, nI_clamp (show t < 2 ^ 31 by omega)]
    · intro i hi
      have := h i hi
      simp only [sI_1, if_true]
      by_cases e : i = t
      · simp only [if_pos e]
        exact ⟨trivial, v, by omega, rfl⟩
      · simp only [if_neg e]
        exact this
  · refine ⟨0, σ, sI τ 0 0 0, ?_, ?_, h, fr.rf, fr.sI (by decide)⟩
    · simp only [C_CG_cost, C_Tariff_change]
      repeat' split
      all_goals first | rfl | (exfalso; grind [Int32.lt_iff_toInt_lt, Int32.le_iff_toInt_le, nI_toInt])
    · simp only [M_cost, lt]
      repeat' split
      all_goals first | rfl | (exfalso; grind [Int32.lt_iff_toInt_lt, Int32.le_iff_toInt_le, nI_toInt])
theorem k_clear {σ τ : St} (h : gSlots (σ.1 48) (σ.1 49) (σ.1 50) (σ.1 51) (τ.1 7) (τ.1 8) (τ.1 9) (τ.1 6)) : ∃ (r : Int32) (σ' τ' : St), C_CG_clear σ = some (r, σ') ∧ M_clear τ = some (r, τ') ∧ gSlots (σ'.1 48) (σ'.1 49) (σ'.1 50) (σ'.1 51) (τ'.1 7) (τ'.1 8) (τ'.1 9) (τ'.1 6) ∧ fr [51] σ σ' ∧ fr [0, 6] τ τ' := by
  obtain ⟨c, hc, e1, e2, hs⟩ := h
  refine ⟨nI c, sI σ 51 0 0, sI (sI τ 0 0 0) 6 0 0, ?_, ?_, ⟨0, by decide, rfl, rfl, fun i hi => absurd hi (Nat.not_lt_zero i)⟩, fr.sI (by decide), (fr.sI (by decide)).tr (fr.sI (by decide))⟩
  · simp [C_CG_clear, lt, e1]
  · simp [M_clear, lt, sI_1, e2]
theorem oct_n {x : Int64} {n k : Nat} (hx : x = lN n) (hn : n < 2 ^ 64) (hk : k < 8) : ((((x.toUInt64 >>> (((8 : Int32) * nI k).toInt64.toUInt64 &&& Int64.toUInt64 63)).toInt64).toInt32).toInt8.toInt32) &&& 255 = nI (n / 2 ^ (8 * k) % 256) := by
  rw [bp_b, show (8 : Int32) * nI k = nI (8 * k) from pk_mul 8 k, hx, wb_shr hn (by omega), lN_i, pk_and _ 8 (by decide)]
  congr 1
  show (BitVec.ofNat 32 (n / 2 ^ (8 * k))).toNat % 2 ^ 8 = _
  rw [BitVec.toNat_ofNat]
  omega
theorem oct_m {x : Int64} {n k : Nat} (hx : x = lN n) (hn : n < 2 ^ 64) (hk : k < 8) : ((x >>> (((8 : Int32) * nI k).toInt64 &&& 63)) &&& (255 : Int64)).toInt32 = nI (n / 2 ^ (8 * k) % 256) := by
  have e : (x >>> (((8 : Int32) * nI k).toInt64 &&& 63)) &&& (255 : Int64) = ((x.toUInt64 >>> (((8 : Int32) * nI k).toInt64.toUInt64 &&& Int64.toUInt64 63)).toInt64) &&& (255 : Int64) := by
    rw [show (8 : Int32) * nI k = nI (8 * k) from pk_mul 8 k, wb_c _ (by omega), wb_cu _ (by omega)]
    apply Int64.toBitVec_inj.mp
    rw [Int64.toBitVec_and, Int64.toBitVec_and, Int64.toBitVec_shiftRight]
    apply BitVec.eq_of_getLsbD_eq
    intro i hi
    have hm : ∀ i < 64, 8 ≤ i → (255 : Int64).toBitVec.getLsbD i = false := by decide
    rw [BitVec.getLsbD_and, BitVec.getLsbD_and]
    rcases Nat.lt_or_ge i 8 with z | z
    · congr 1
      show (x.toBitVec.sshiftRight ((BitVec.ofNat 64 (8 * k)).smod 64).toNat).getLsbD i = (x.toUInt64 >>> UInt64.ofNat (8 * k)).toBitVec.getLsbD i
      rw [wb_sm _ (by omega), UInt64.toBitVec_shiftRight]
      show _ = (x.toBitVec >>> ((BitVec.ofNat 64 (8 * k)) % 64).toNat).getLsbD i
      rw [BitVec.getLsbD_sshiftRight, BitVec.getLsbD_ushiftRight]
      have h1 : (BitVec.ofNat 64 (8 * k)).toNat = 8 * k := by rw [BitVec.toNat_ofNat]; omega
      have h2 : ((BitVec.ofNat 64 (8 * k)) % 64).toNat = 8 * k := by
        rw [BitVec.toNat_umod, h1]
        show 8 * k % 64 = _
        omega
      rw [h1, h2]
      simp only [show 8 * k + i < 64 by omega, if_true, show ¬ 64 ≤ i by omega, decide_false, Bool.not_false, Bool.true_and]
    · rw [hm i hi z]; simp
  rw [e, show (8 : Int32) * nI k = nI (8 * k) from pk_mul 8 k, hx, wb_shr hn (by omega), show (255 : Int64) = lN (2 ^ 8 - 1) from rfl, wb_mask (Nat.lt_of_le_of_lt (Nat.div_le_self _ _) hn) (by decide), lN_i]
theorem d_C (n : Nat) (x2 : Int64) (m d : Nat) (hd : d + m ≤ 800) (hm : m ≤ 8) : ∀ (k f : Nat) (σ : St), k ≤ m → m + 1 ≤ f + k → σ.1 65 0 = nI d → ∃ σ', C_Draft_extend_l28 n f σ (nI m) x2 (nI k) = some (nI (d + m), σ') ∧ fr [64, 65] σ σ' ∧ σ'.1 65 0 = nI (d + m) ∧ ∀ i, σ'.1 64 i = if d + k ≤ i ∧ i < d + m then ((((x2.toUInt64 >>> (((8 : Int32) * nI (i - d)).toInt64.toUInt64 &&& Int64.toUInt64 63)).toInt64).toInt32).toInt8.toInt32) else σ.1 64 i := by
  intro k f
  induction f generalizing k with
  | zero => intro σ h1 h2; omega
  | succ f ih =>
    intro σ h1 h2 h3
    unfold C_Draft_extend_l28
    by_cases hk : m ≤ k
    · rw [if_pos (nI_le hk (by omega))]
      have : k = m := by omega
      subst this
      refine ⟨sI σ 65 0 (nI (d + k)), ?_, fr.sI (by decide), rfl, fun i => ?_⟩
      · simp [lt, h3, nI_add, sI_1]
      · rw [if_neg (by omega)]; rfl
    · rw [if_neg (nI_ge (by omega) (by omega)), h3, nI_add, gd_nI (by omega) (by decide)]
      simp only [lt_is, nI_clamp (show d + k < 2 ^ 31 by omega), nI_1, pk_vb]
      obtain ⟨σ', e1, e2, e3, e4⟩ := ih (k + 1) (sI σ 64 (d + k) ((((x2.toUInt64 >>> (((8 : Int32) * nI k).toInt64.toUInt64 &&& Int64.toUInt64 63)).toInt64).toInt32).toInt8.toInt32)) (by omega) (by omega) (by rw [sI_1]; simp [h3])
      refine ⟨σ', e1, (fr.sI (by decide)).tr e2, e3, fun i => ?_⟩
      rw [e4 i, sI_1]
      by_cases hi : i = d + k
      · subst hi
        simp only [if_true]
        rw [if_neg (by omega), if_pos (by omega), show d + k - d = k by omega]
      · simp only [if_true, if_neg hi]
        by_cases h5 : d + (k + 1) ≤ i ∧ i < d + m
        · rw [if_pos h5, if_pos (by omega)]
        · rw [if_neg h5, if_neg (by omega)]
theorem d_M (n : Nat) (x2 : Int64) (m d : Nat) (hd : d + m ≤ 800) (hm : m ≤ 8) : ∀ (k f : Nat) (σ : St), k ≤ m → m + 1 ≤ f + k → σ.1 5 0 = nI (d + k) → ∃ σ', M_draft_l33 n f σ (nI m) x2 (nI k) = some (nI (d + m), σ') ∧ fr [4, 5] σ σ' ∧ σ'.1 5 0 = nI (d + m) ∧ ∀ i, σ'.1 4 i = if d + k ≤ i ∧ i < d + m then (((x2 >>> (((8 : Int32) * nI (i - d)).toInt64 &&& 63)) &&& (255 : Int64)).toInt32) else σ.1 4 i := by
  intro k f
  induction f generalizing k with
  | zero => intro σ h1 h2; omega
  | succ f ih =>
    intro σ h1 h2 h3
    unfold M_draft_l33
    by_cases hk : m ≤ k
    · rw [if_pos (nI_le hk (by omega))]
      have : k = m := by omega
      subst this
      refine ⟨σ, ?_, fr.rf, h3, fun i => ?_⟩
      · rw [h3]
      · rw [if_neg (by omega)]
    · rw [if_neg (nI_ge (by omega) (by omega)), h3, gd_nI (by omega) (by decide)]
      simp only [lt_is, nI_clamp (show d + k < 2 ^ 31 by omega), nI_1]
      obtain ⟨σ', e1, e2, e3, e4⟩ := ih (k + 1) (sI (sI σ 4 (d + k) (((x2 >>> (((8 : Int32) * nI k).toInt64 &&& 63)) &&& (255 : Int64)).toInt32)) 5 0 ((sI σ 4 (d + k) (((x2 >>> (((8 : Int32) * nI k).toInt64 &&& 63)) &&& (255 : Int64)).toInt32)).1 5 0 + 1)) (by omega) (by omega) (by simp [sI_1, h3, nI_1]; rfl)
      refine ⟨σ', e1, ((fr.sI (by decide)).tr (fr.sI (by decide))).tr e2, e3, fun i => ?_⟩
      rw [e4 i, sI_1, if_neg (show ¬ 4 = 5 by decide), sI_1, if_pos rfl]
      by_cases hi : i = d + k
      · subst hi
        rw [if_neg (by omega), if_pos rfl, if_pos (by omega), show d + k - d = k by omega]
      · rw [if_neg hi]
        by_cases h5 : d + (k + 1) ≤ i ∧ i < d + m
        · rw [if_pos h5, if_pos (by omega)]
        · rw [if_neg h5, if_neg (by omega)]
theorem k_draft {σ τ : St} {a : Int32} {b : Int64} (h : gDraft (σ.1 64) (σ.1 65) (τ.1 4) (τ.1 5)) : ∃ (n1 n2 : Nat) (r : Int32) (σ' τ' : St), C_CG_draft n1 σ a b = some (r, σ') ∧ M_draft n2 τ a b = some (r, τ') ∧ gDraft (σ'.1 64) (σ'.1 65) (τ'.1 4) (τ'.1 5) ∧ fr [64, 65] σ σ' ∧ fr [0, 4, 5] τ τ' := by
  refine ⟨9, 9, ?_⟩
  obtain ⟨d, hd, e1, e2, ho⟩ := id h
  have e2' : (sI τ 0 0 0).1 5 0 = nI d := by rw [sI_1]; simp [e2]
  by_cases hh : (¬ a < 1 ∧ ¬ 8 < a) ∧ nI d + a ≤ 800
  · obtain ⟨⟨h1, h2⟩, h3⟩ := hh
    obtain ⟨m, hm, rfl⟩ := ix_of (n := 9) (x := a) (by grind [Int32.lt_iff_toInt_lt, Int32.le_iff_toInt_le, nI_toInt]) (by grind [Int32.lt_iff_toInt_lt, Int32.le_iff_toInt_le, nI_toInt]) (by decide)
    rw [nI_add] at h3
    have h3' : d + m ≤ 800 := by
      rw [show (800 : Int32) = nI 800 from rfl, nI_leI (by omega) (by omega)] at h3
      exact h3
    obtain ⟨q, hq, eb⟩ := wb_of b
    obtain ⟨σ', c1, c2, c3, c4⟩ := d_C 9 b m d h3' (by omega) 0 9 σ (by omega) (by omega) e1
    obtain ⟨τ', f1, f2, f3, f4⟩ := d_M 9 b m d h3' (by omega) 0 9 (sI τ 0 0 0) (by omega) (by omega) e2'
    refine ⟨nI (d + m), σ', τ', ?_, ?_, ⟨d + m, h3', c3, f3, fun i hi => ?_⟩, c2, (fr.sI (by decide)).tr (f2.wk (by decide))⟩
    · have h3c : σ.1 65 0 + nI m ≤ 800 := by rw [e1, nI_add]; exact h3
      simp only [C_CG_draft, C_Draft_extend, if_neg h1, if_neg h2, if_pos h3c]
      rw [show (0 : Int32) = nI 0 from rfl, c1]; rfl
    · have h3c : (sI τ 0 0 0).1 5 0 + nI m ≤ 800 := by rw [e2', nI_add]; exact h3
      simp only [M_draft, lt_is, if_neg h1, if_neg h2, if_pos h3c]
      exact f1
    · rw [c4 i, f4 i]
      by_cases h5 : d ≤ i
      · rw [if_pos (by omega), if_pos (by omega)]
        refine ⟨q / 2 ^ (8 * (i - d)) % 256, Nat.mod_lt _ (by decide), oct_n eb hq (by omega), oct_m eb hq (by omega)⟩
      · rw [if_neg (by omega), if_neg (by omega)]
        obtain ⟨o, o1, o2, o3⟩ := ho i (by omega)
        exact ⟨o, o1, o2, by rw [sI_1]; simp [o3]⟩
  · refine ⟨-1, σ, sI τ 0 0 0, ?_, ?_, h, fr.rf, fr.sI (by decide)⟩
    · simp only [C_CG_draft, C_Draft_extend, e1]
      repeat' split
      all_goals first | rfl | (exfalso; grind)
    · simp only [M_draft, lt_is, e2']
      repeat' split
      all_goals first | rfl | (exfalso; grind)

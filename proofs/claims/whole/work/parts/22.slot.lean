/-! slot; bits of a set -/
theorem sh_eq {v b : Nat} (hv : v < 65536) (hb : b < 32) : ((nI v).toUInt32 >>> ((nI b).toUInt32 &&& Int32.toUInt32 31)).toInt32 = nI v >>> (nI b &&& 31) := by
  rw [nx_ush hv hb, pk_shrN (by omega) _ b (s_l b hb), Nat.shiftRight_eq_div_pow]
theorem sh_n {v b : Nat} (hv : v < 65536) (hb : b < 32) : ((nI v).toUInt32 >>> ((nI b).toUInt32 &&& Int32.toUInt32 31)).toInt32 &&& 1 = nI (v / 2 ^ b % 2) := by
  rw [nx_ush hv hb, Nat.shiftRight_eq_div_pow, show (1 : Int32) = nI 1 from rfl, nx_and, Nat.and_one_is_mod]
theorem k_slot {σ τ : St} {a b c : Int32} (h : gSlots (σ.1 48) (σ.1 49) (σ.1 50) (σ.1 51) (τ.1 7) (τ.1 8) (τ.1 9) (τ.1 6)) : ∃ (r : Int32) (σ' τ' : St), C_CG_slot σ a b c = some (r, σ') ∧ M_slot τ a b c = some (r, τ') ∧ gSlots (σ'.1 48) (σ'.1 49) (σ'.1 50) (σ'.1 51) (τ'.1 7) (τ'.1 8) (τ'.1 9) (τ'.1 6) ∧ fr [48, 49, 50, 51] σ σ' ∧ fr [0, 6, 7, 8, 9] τ τ' := by
  obtain ⟨k, hk, e1, e2, hs⟩ := id h
  have e2' : (sI τ 0 0 0).1 6 0 = nI k := by rw [sI_1]; simp [e2]
  by_cases hh : (k < 24 ∧ ¬ a < 1 ∧ ¬ 4095 < a ∧ ¬ c < -1 ∧ c ≤ 127) ∧ (b = -1 ∨ (¬ b < 0 ∧ b < 12 ∧ ¬ ((a.toUInt32 >>> (b.toUInt32 &&& Int32.toUInt32 31)).toInt32 &&& (1 : Int32)) = 0))
  · obtain ⟨⟨h1, h2, h3, h4, h5⟩, h6⟩ := hh
    obtain ⟨v, hv, rfl⟩ := ix_of (n := 4096) (x := a) (by grind [Int32.lt_iff_toInt_lt, Int32.le_iff_toInt_le, nI_toInt]) (by grind [Int32.lt_iff_toInt_lt, Int32.le_iff_toInt_le, nI_toInt]) (by decide)
    have hv1 : 1 ≤ v := by
      rw [show (1 : Int32) = nI 1 from rfl, nI_ltI (by omega) (by omega)] at h2
      omega
    have g1 : ¬ (24 : Int32) ≤ nI k := by grind [Int32.lt_iff_toInt_lt, Int32.le_iff_toInt_le, nI_toInt]
    have g2 : ¬ nI k = 24 := by
      rw [show (24 : Int32) = nI 24 from rfl, nI_eq (by omega) (by omega)]; omega
    have hc : c = -1 ∨ ∃ p, p < 128 ∧ c = nI p := by
      by_cases hc0 : c < 0
      · left; grind
      · right
        exact ix_of (n := 128) hc0 (by grind [Int32.lt_iff_toInt_lt, Int32.le_iff_toInt_le, nI_toInt]) (by decide)
    refine ⟨nI k, sI (sI (sI (sI σ 48 k (nI v)) 49 k b) 50 k c) 51 0 (nI (k + 1)), sI (sI (sI (sI (sI τ 0 0 0) 7 k (nI v)) 8 k b) 9 k c) 6 0 (nI (k + 1)), ?_, ?_, ?_, (((fr.sI (by decide)).tr (fr.sI (by decide))).tr (fr.sI (by decide))).tr (fr.sI (by decide)), ((((fr.sI (by decide)).tr (fr.sI (by decide))).tr (fr.sI (by decide))).tr (fr.sI (by decide))).tr (fr.sI (by decide))⟩
    · have key : C_Slots_add_b59 σ (nI v) b c = some (nI k, sI (sI (sI (sI σ 48 k (nI v)) 49 k b) 50 k c) 51 0 (nI (k + 1))) := by
        simp [C_Slots_add_b59, lt, sI_1, e1, gd_nI h1, nI_clamp (show k < 2 ^ 31 by omega), nI_1, nI_pred]
      simp only [C_CG_slot, C_Slots_add, e1, if_neg g1, if_neg h2, if_neg h3, if_neg h4, if_pos h5]
      rcases h6 with h6 | ⟨h6, h7, h8⟩
      · rw [if_pos h6, key]; rfl
      · rw [if_neg (show ¬ b = -1 by grind), if_neg h6, if_neg (show ¬ (12 : Int32) ≤ b by grind), if_neg h8, key]; rfl
    · have key : M_slot_b49 (sI τ 0 0 0) (nI v) b c = some (nI k, sI (sI (sI (sI (sI τ 0 0 0) 7 k (nI v)) 8 k b) 9 k c) 6 0 (nI (k + 1))) := by
        simp [M_slot_b49, lt, sI_1, e2, h4, h5, gd_nI h1, nI_clamp (show k < 2 ^ 31 by omega), nI_1, nI_pred]
      simp only [M_slot, lt_is, e2', if_neg g2, if_neg h2, if_neg h3]
      rcases h6 with h6 | ⟨h6, h7, h8⟩
      · rw [if_pos h6, key]
      · obtain ⟨q, hq, rfl⟩ := ix_of (n := 12) (x := b) h6 (by grind [Int32.lt_iff_toInt_lt, Int32.le_iff_toInt_le, nI_toInt]) (by decide)
        rw [sh_eq (by omega) (by omega)] at h8
        rw [if_neg (show ¬ nI q = -1 by grind), if_neg h6, if_neg (show ¬ (11 : Int32) < nI q by grind), if_neg h8, key]
    · refine ⟨k + 1, by omega, rfl, rfl, fun i hi => ?_⟩
      by_cases e : i = k
      · subst e
        simp only [sI_1, if_true]
        simp
        refine ⟨⟨v, hv1, hv, rfl⟩, ?_, hc⟩
        rcases h6 with h6 | ⟨h6, h7, h8⟩
        · exact Or.inl h6
        · exact Or.inr (ix_of (n := 12) (x := b) h6 (by grind [Int32.lt_iff_toInt_lt, Int32.le_iff_toInt_le, nI_toInt]) (by decide))
      · have := hs i (by omega)
        simp only [sI_1]
        simpa [e] using this
  · refine ⟨-1, σ, sI τ 0 0 0, ?_, ?_, h, fr.rf, fr.sI (by decide)⟩
    · simp only [C_CG_slot, C_Slots_add, e1]
      have hk24 : ¬ (24 : Int32) ≤ nI k → k < 24 := fun z => by
        rw [show (24 : Int32) = nI 24 from rfl, nI_leI (by omega) (by omega)] at z
        omega
      repeat' split
      all_goals first | rfl | (exfalso; grind)
    · simp only [M_slot, M_slot_b49, lt_is, e2']
      have hk24 : ¬ nI k = 24 → k < 24 := fun z => by
        rw [show (24 : Int32) = nI 24 from rfl, nI_eq (by omega) (by omega)] at z
        omega
      have hbit : ¬ a < 1 → ¬ 4095 < a → ¬ b < 0 → ¬ 11 < b → (a.toUInt32 >>> (b.toUInt32 &&& Int32.toUInt32 31)).toInt32 &&& (1 : Int32) = (a >>> (b &&& 31)) &&& 1 := fun q1 q2 q3 q4 => by
        obtain ⟨v, hv, rfl⟩ := ix_of (n := 4096) (x := a) (by grind [Int32.lt_iff_toInt_lt, Int32.le_iff_toInt_le, nI_toInt]) (by grind [Int32.lt_iff_toInt_lt, Int32.le_iff_toInt_le, nI_toInt]) (by decide)
        obtain ⟨q, hq, rfl⟩ := ix_of (n := 12) (x := b) q3 (by grind [Int32.lt_iff_toInt_lt, Int32.le_iff_toInt_le, nI_toInt]) (by decide)
        rw [sh_eq (by omega) (by omega)]
      repeat' split
      all_goals first | rfl | (exfalso; grind)

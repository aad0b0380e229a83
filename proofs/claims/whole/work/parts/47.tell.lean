/-! readings, price, cell, told -/
theorem chO.s0 {n : Nat} {L : List rl} {rk : Nat → Nat} {sC sP : SS} {T : TT} {σ τ : St} {x : Int32} (h : chO n L rk sC sP T σ τ) : chO n L rk sC sP T σ (sI τ 0 0 x) := h.keep (fun _ _ => ⟨rfl, rfl⟩) (fun c hc => ⟨by rw [sI_c, if_neg (fun z => by subst z; revert hc; decide)], rfl⟩)
theorem gChart.s0 {σ τ : St} {x : Int32} (h : gChart σ τ) : gChart σ (sI τ 0 0 x) := h.keep (S := []) (S' := [0]) fr.rf (fr.sI (by decide)) (by decide) (by decide)
theorem gChart.n {σ τ : St} (h : gChart σ τ) : σ.1 118 0 = τ.1 24 0 := by
  rcases h with h | ⟨n, L, rk, sC, sP, T, h⟩
  · rw [h.1, h.2.1]
  · rw [h.2.2.1.1, h.2.2.1.2.1]
theorem lis {σ τ : St} (h : gChart σ τ) : ∃ m, C_Chart_listed σ = some (nI m) ∧ M_listed τ = some (nI m) ∧ m ≤ 30 := by
  rcases h with h | ⟨n, L, rk, sC, sP, T, h⟩
  · refine ⟨0, ?_, ?_, by omega⟩
    · unfold C_Chart_listed; rw [h.1]; rfl
    · unfold M_listed; rw [h.2.2]; rfl
  · obtain ⟨-, h1, -, h2⟩ := listed_C h
    exact ⟨_, h1, h2, (h.2.2.2.1 (top L) 0 (n - 1) (h.1.2.2.2.1.1.2 0 h.1.2.2.1).1 (Nat.zero_le _) (by have := h.1.1; omega)).1.2.2.1⟩
theorem lis_both {σ τ : St} (h : gChart σ τ) (x : Int32) : (C_CG_isListed σ x = some 0 ∧ M_noReading τ x = some 1) ∨ (C_CG_isListed σ x = some 1 ∧ M_noReading τ x = some 0 ∧ ∃ n L rk sC sP T k, chO n L rk sC sP T σ τ ∧ x = nI k ∧ k < (T (top L) 0 (n - 1)).2.length ∧ k < 30) := by
  unfold C_CG_isListed M_noReading
  by_cases c0 : x < 0
  · rw [if_pos c0, if_pos c0]; exact .inl ⟨rfl, rfl⟩
  · rw [if_neg c0, if_neg c0]
    obtain ⟨m, h1, h2, h3⟩ := lis h
    obtain ⟨k, hk, rfl⟩ := nI_of c0
    rw [h1, h2, bp_some, bp_some]
    by_cases c1 : m ≤ k
    · rw [if_pos (nI_le c1 hk), if_neg (nI_nlt c1 hk)]; exact .inl ⟨rfl, rfl⟩
    · rw [if_neg (nI_ge (by omega) (by omega)), if_pos (nI_lt (by omega) (by omega))]
      refine .inr ⟨rfl, rfl, ?_⟩
      rcases h with h | ⟨n, L, rk, sC, sP, T, h⟩
      · unfold C_Chart_listed at h1
        rw [h.1, if_pos rfl] at h1
        have : nI 0 = nI m := (Option.some.inj h1)
        have := (nI_eq (by omega) (by omega)).mp this
        omega
      · obtain ⟨-, q1, -, -⟩ := listed_C h
        rw [h1] at q1
        have q3 := (h.2.2.2.1 (top L) 0 (n - 1) (h.1.2.2.2.1.1.2 0 h.1.2.2.1).1 (Nat.zero_le _) (by have := h.1.1; omega)).1.2.2.1
        have := (nI_eq (by omega) (by omega)).mp (Option.some.inj q1)
        exact ⟨n, L, rk, sC, sP, T, k, h, rfl, by omega, by omega⟩
theorem k_readings {σ τ : St} (h : gChart σ τ) : ∃ (r : Int64), C_CG_readings σ = some r ∧ M_readings τ = some (r, sI τ 0 0 0) := by
  unfold C_CG_readings C_Chart_countOfAll M_readings
  have h0 := h.s0 (x := 0)
  rw [lt_is]
  rcases h0 with h0 | ⟨n, L, rk, sC, sP, T, h0⟩
  · rw [h0.1, h0.2.2]; exact ⟨0, rfl, rfl⟩
  · obtain ⟨w1, -, w2, -⟩ := listed_C h0
    obtain ⟨⟨n1, n2, n3, hg, ho⟩, ⟨he, hm⟩, ⟨e1, e2, e3⟩, hr, -⟩ := h0
    obtain ⟨r1, r2, -⟩ := hr (top L) 0 (n - 1) (hg.1.2 0 (by omega)).1 (Nat.zero_le _) (by omega)
    have hl : rwC (top L) 0 (n - 1) < 7800 := rwC_lt (hg.1.2 0 (by omega)).1 (Nat.zero_le (n - 1)) (by omega)
    have hl' : clM (top L) 0 (n - 1) < 7800 := clM_lt (hg.1.2 0 (by omega)).1 (Nat.zero_le (n - 1)) (by omega)
    rw [e1, e3, if_neg (nI_ne0 (by omega) (by omega)), if_neg (by decide), w1, w2, bp_some, bp_some, gd_nI hl (by decide), gd_nI hl' (by decide), nI_clamp (by omega), nI_clamp (by omega), r1.1, r2.1]
    exact ⟨_, rfl, rfl⟩
theorem k_price {σ τ : St} {a : Int32} (h : gChart σ τ) : ∃ (r : Int32), C_CG_price σ a = some r ∧ M_price τ a = some (r, sI τ 0 0 0) := by
  unfold C_CG_price M_price
  rw [lt_is]
  rcases lis_both (h.s0 (x := 0)) a with ⟨q1, q2⟩ | ⟨q1, q2, n, L, rk, sC, sP, T, k, h0, rfl, hk, hk30⟩
  · rw [q1, q2, bp_some, bp_some, if_pos rfl, if_neg (by decide)]; exact ⟨_, rfl, rfl⟩
  · rw [q1, q2, bp_some, bp_some, if_neg (by decide), if_pos rfl]
    obtain ⟨w1, -, w2, -⟩ := listed_C h0
    obtain ⟨⟨n1, n2, n3, hg, ho⟩, ⟨he, hm⟩, ⟨e1, e2, e3⟩, hr, -⟩ := h0
    have htop : top L < 26 := (hg.1.2 0 (by omega)).1
    obtain ⟨r1, r2, -⟩ := hr (top L) 0 (n - 1) htop (Nat.zero_le _) (by omega)
    have hl' : clM (top L) 0 (n - 1) < 7800 := clM_lt htop (Nat.zero_le (n - 1)) (by omega)
    have hpr : prA sP T (top L) 0 (n - 1) k = ((T (top L) 0 (n - 1)).2.getD k e0).1 := by unfold prA; rw [if_pos htop]
    have p1 := price_C (T := T) (k := k) he (show top L < 96 by omega) (Nat.zero_le (n - 1)) (by omega) n2 (fun _ => r1) (by unfold szA; rw [if_pos htop]; exact hk)
    have : C_Chart_priceOfWhole σ (nI k) = some (prA sP T (top L) 0 (n - 1) k) := by
      unfold C_Chart_priceOfWhole
      rw [show gd (0 : Int32) 60 = gd (nI 0) 60 from rfl, gd_nI (by decide) (by decide), show (0 : Int32).toNatClampNeg = 0 from rfl, (he.1 0 (by omega)).1, e1, nI_pred' (by omega), show (0 : Int32) = nI 0 from rfl, p1, bp_some]
    rw [this, bp_some, w2, bp_some, show (30 : Int32) * nI (clM (top L) 0 (n - 1)) + nI k = nI (30 * clM (top L) 0 (n - 1) + k) from by rw [show (30 : Int32) = nI 30 from rfl, nI_mul, nI_add], gd_nI (by omega) (by decide), nI_clamp (by omega), (r2.2.2.2 k hk).1, hpr]
    exact ⟨_, rfl, rfl⟩
theorem k_cell {σ τ : St} {a b c : Int32} (h : gChart σ τ) : ∃ (r : Int64) (x : Int32), M_cell τ a b c = some (r, sI τ 0 0 x) ∧ ((cTh σ a b c ∧ x = 1) ∨ (¬ cTh σ a b c ∧ x = 0 ∧ C_Chart_countOf σ c a b = some r)) := by
  have out : ∃ r, M_cell_b33 τ a b c 1 = some (r, sI τ 0 0 1) := by
    refine ⟨0, ?_⟩
    unfold M_cell_b33
    rw [lt_is, if_neg (by rw [sI_1, if_pos rfl, if_pos rfl]; decide)]
  unfold M_cell cTh
  rw [h.n]
  by_cases c1 : a < 0
  · rw [if_pos c1]; obtain ⟨r, hr⟩ := out; exact ⟨r, 1, hr, .inl ⟨.inl c1, rfl⟩⟩
  rw [if_neg c1]
  by_cases c2 : b < a
  · rw [if_pos c2]; obtain ⟨r, hr⟩ := out; exact ⟨r, 1, hr, .inl ⟨.inr (.inl c2), rfl⟩⟩
  rw [if_neg c2]
  by_cases c3 : τ.1 24 0 ≤ b
  · rw [if_pos c3]; obtain ⟨r, hr⟩ := out; exact ⟨r, 1, hr, .inl ⟨.inr (.inr (.inl c3)), rfl⟩⟩
  rw [if_neg c3]
  by_cases c4 : c < 0
  · rw [if_pos c4]; obtain ⟨r, hr⟩ := out; exact ⟨r, 1, hr, .inl ⟨.inr (.inr (.inr (.inl c4))), rfl⟩⟩
  rw [if_neg c4]
  by_cases c5 : c ≤ 25
  · rw [if_pos c5]
    have c6 : c < 26 := by
      rw [Int32.lt_iff_toInt_lt]; rw [Int32.le_iff_toInt_le] at c5
      have e1 : (25 : Int32).toInt = 25 := by decide
      have e2 : (26 : Int32).toInt = 26 := by decide
      omega
    obtain ⟨x, hx, rfl⟩ := ix_of (n := 26) c4 (by
      rw [Int32.lt_iff_toInt_lt] at c6
      have e2 : (26 : Int32).toInt = 26 := by decide
      omega) (by decide)
    rcases h with h | ⟨n, L, rk, sC, sP, T, h⟩
    · exfalso
      rw [h.2.1] at c3
      refine c3 ?_
      rw [Int32.lt_iff_toInt_lt] at c1 c2
      rw [Int32.le_iff_toInt_le]
      have e0 : (0 : Int32).toInt = 0 := by decide
      omega
    · obtain ⟨⟨n1, n2, n3, hg, ho⟩, ⟨he, hm⟩, ⟨e1, e2, e3⟩, hr, -⟩ := h
      have cb : ¬ b < 0 := by
        rw [Int32.lt_iff_toInt_lt] at c1 c2 ⊢
        have e0 : (0 : Int32).toInt = 0 := by decide
        omega
      obtain ⟨i, hi, rfl⟩ := nI_of c1
      obtain ⟨j, hj, rfl⟩ := nI_of cb
      rw [e2] at c3
      have hij : i ≤ j := by
        rcases Nat.lt_or_ge j i with z | z
        · exact absurd (nI_lt z hi) c2
        · exact z
      have hjn : j < n := by
        rcases Nat.lt_or_ge j n with z | z
        · exact z
        · exact absurd (nI_le z hj) c3
      obtain ⟨r1, r2, -⟩ := hr x i j hx hij hjn
      have hl' : clM x i j < 7800 := clM_lt hx hij (by omega)
      refine ⟨(T x i j).1, 0, ?_, .inr ⟨?_, rfl, ?_⟩⟩
      · unfold M_cell_b33
        rw [lt_is, if_pos (by rw [sI_1, if_pos rfl, if_pos rfl]; decide), cellOf_M (by omega), bp_some, gd_nI hl' (by decide), nI_clamp (by omega)]
        show some (τ.2 34 _, _) = _
        rw [r2.1]
      · rintro (z | z | z | z | z)
        · exact c1 z
        · exact c2 z
        · rw [e2] at z; exact c3 z
        · exact c4 z
        · exact z c6
      · rw [count_C (T := T) he (show x < 96 by omega) hij hjn n2 (fun _ => r1)]
        unfold ctA; rw [if_pos hx]
  · rw [if_neg c5]
    have c6 : ¬ c < 26 := by
      rw [Int32.lt_iff_toInt_lt]; rw [Int32.le_iff_toInt_le] at c5
      have e1 : (25 : Int32).toInt = 25 := by decide
      have e2 : (26 : Int32).toInt = 26 := by decide
      omega
    obtain ⟨r, hr⟩ := out
    exact ⟨r, 1, hr, .inl ⟨.inr (.inr (.inr (.inr c6))), rfl⟩⟩
theorem k_told {σ τ : St} {a : Int32} (h : gChart σ τ) (h1 : σ.1 51 0 = τ.1 6 0) (h2 : σ.1 85 0 = τ.1 10 0) (h3 : σ.1 65 0 = τ.1 5 0) : ∃ (r : Int32), C_CG_told σ a = some r ∧ M_told τ a = some (r, sI τ 0 0 0) := by
  obtain ⟨m, l1, l2, -⟩ := lis (h.s0 (x := 0))
  have hn := (h.s0 (x := 0)).n
  unfold C_CG_told M_told
  rw [lt_is, l1, l2, hn, bp_some, bp_some]
  have g1 : σ.1 51 0 = (sI τ 0 0 0).1 6 0 := h1
  have g2 : σ.1 85 0 = (sI τ 0 0 0).1 10 0 := h2
  have g3 : σ.1 65 0 = (sI τ 0 0 0).1 5 0 := h3
  rw [g1, g2, g3]
  by_cases c0 : a = 0
  · rw [if_pos c0, if_pos c0]; exact ⟨_, rfl, rfl⟩
  rw [if_neg c0, if_neg c0]
  by_cases c1 : a = 1
  · rw [if_pos c1, if_pos c1]; exact ⟨_, rfl, rfl⟩
  rw [if_neg c1, if_neg c1]
  by_cases c2 : a = 2
  · rw [if_pos c2, if_pos c2]; exact ⟨_, rfl, rfl⟩
  rw [if_neg c2, if_neg c2]
  by_cases c3 : a = 3
  · rw [if_pos c3, if_pos c3]; exact ⟨_, rfl, rfl⟩
  rw [if_neg c3, if_neg c3]
  by_cases c4 : a = 4
  · rw [if_pos c4, if_pos c4]; exact ⟨_, rfl, rfl⟩
  rw [if_neg c4, if_neg c4]; exact ⟨_, rfl, rfl⟩

/-! parse() -/
/-- the chart that both hold -/
def chO (n : Nat) (L : List rl) (rk : Nat → Nat) (sC sP : SS) (T : TT) (σ τ : St) : Prop := (1 ≤ n ∧ n ≤ 24 ∧ 1 ≤ L.length ∧ gL L rk ∧ symO sC n) ∧ (envC L sC sP n σ ∧ envM L sC sP n τ) ∧ (σ.1 118 0 = nI n ∧ τ.1 24 0 = nI n ∧ τ.1 38 0 = 1) ∧ (∀ a i j, a < 26 → i ≤ j → j < n → rowC (σ.2 115) (σ.2 117) (σ.1 116) (rwC a i j) (T a i j) ∧ rowM (τ.2 34) (τ.1 33) (τ.1 35) (τ.1 36) (clM a i j) (T a i j) ∧ good L sC T rk a i j (T a i j)) ∧ (∀ i, i < n → σ.1 114 i = τ.1 30 i ∧ (σ.1 114 i = -1 ∨ ∃ p, p < 128 ∧ σ.1 114 i = nI p)) ∧ σ.1 165 0 = nI L.length
def gChart (σ τ : St) : Prop := (σ.1 118 0 = 0 ∧ τ.1 24 0 = 0 ∧ τ.1 38 0 = 0) ∨ ∃ n L rk sC sP T, chO n L rk sC sP T σ τ
abbrev SCc : List Nat := [114, 115, 116, 117, 118, 160, 161, 162, 163, 164, 165, 176, 177]
abbrev SMc : List Nat := [24, 25, 26, 27, 28, 29, 30, 31, 32, 33, 34, 35, 36, 37, 38]
theorem chO.keep {n : Nat} {L : List rl} {rk : Nat → Nat} {sC sP : SS} {T : TT} {σ τ σ' τ' : St} (h : chO n L rk sC sP T σ τ) (h1 : ∀ c, c ∈ SCc → σ'.1 c = σ.1 c ∧ σ'.2 c = σ.2 c) (h2 : ∀ c, c ∈ SMc → τ'.1 c = τ.1 c ∧ τ'.2 c = τ.2 c) : chO n L rk sC sP T σ' τ' := by
  obtain ⟨a, ⟨b1, b2⟩, c, d, e, e5⟩ := h
  refine ⟨a, ⟨⟨?_, ?_⟩, ⟨?_, ?_⟩⟩, ?_, ?_, ?_, by rw [(h1 165 (by decide)).1]; exact e5⟩
  · rw [(h1 160 (by decide)).1, (h1 161 (by decide)).1, (h1 162 (by decide)).1, (h1 163 (by decide)).1]; exact b1.1
  · rw [(h1 176 (by decide)).1, (h1 177 (by decide)).1]; exact b1.2
  · rw [(h2 26 (by decide)).1, (h2 27 (by decide)).1, (h2 28 (by decide)).1, (h2 29 (by decide)).1]; exact b2.1
  · rw [(h2 31 (by decide)).1, (h2 32 (by decide)).1]; exact b2.2
  · rw [(h1 118 (by decide)).1, (h2 24 (by decide)).1, (h2 38 (by decide)).1]; exact c
  · rw [(h1 115 (by decide)).2, (h1 117 (by decide)).2, (h1 116 (by decide)).1, (h2 34 (by decide)).2, (h2 33 (by decide)).1, (h2 35 (by decide)).1, (h2 36 (by decide)).1]; exact d
  · rw [(h1 114 (by decide)).1, (h2 30 (by decide)).1]; exact e
theorem gChart.keep {σ τ σ' τ' : St} {S S' : List Nat} (h : gChart σ τ) (h1 : fr S σ σ') (h2 : fr S' τ τ') (d1 : ∀ c, c ∈ SCc → c ∉ S) (d2 : ∀ c, c ∈ SMc → c ∉ S') : gChart σ' τ' := by
  rcases h with h | ⟨n, L, rk, sC, sP, T, h⟩
  · exact .inl ⟨by rw [h1.1 118 (d1 _ (by decide))]; exact h.1, by rw [h2.1 24 (d2 _ (by decide))]; exact h.2.1, by rw [h2.1 38 (d2 _ (by decide))]; exact h.2.2⟩
  · exact .inr ⟨n, L, rk, sC, sP, T, h.keep (fun c hc => ⟨h1.1 c (d1 c hc), h1.2 c (d1 c hc)⟩) (fun c hc => ⟨h2.1 c (d2 c hc), h2.2 c (d2 c hc)⟩)⟩
/-- the name of the first rule -/
abbrev top (L : List rl) : Nat := (L.getD 0 z0).1
theorem listed_C {n : Nat} {L : List rl} {rk : Nat → Nat} {sC sP : SS} {T : TT} {σ τ : St} (h : chO n L rk sC sP T σ τ) : C_Chart_wholeRow σ = some (nI (rwC (top L) 0 (n - 1))) ∧ C_Chart_listed σ = some (nI (T (top L) 0 (n - 1)).2.length) ∧ M_topCell τ = some (nI (clM (top L) 0 (n - 1))) ∧ M_listed τ = some (nI (T (top L) 0 (n - 1)).2.length) := by
  obtain ⟨⟨n1, n2, n3, hg, ho⟩, ⟨he, hm⟩, ⟨e1, e2, e3⟩, hr, -⟩ := h
  obtain ⟨r1, r2, -⟩ := hr (top L) 0 (n - 1) (hg.1.2 0 (by omega)).1 (Nat.zero_le _) (by omega)
  have hl : rwC (top L) 0 (n - 1) < 7800 := rwC_lt (hg.1.2 0 (by omega)).1 (Nat.zero_le (n - 1)) (by omega)
  have hl' : clM (top L) 0 (n - 1) < 7800 := clM_lt (hg.1.2 0 (by omega)).1 (Nat.zero_le (n - 1)) (by omega)
  have w1 : C_Chart_wholeRow σ = some (nI (rwC (top L) 0 (n - 1))) := by
    unfold C_Chart_wholeRow
    rw [show gd (0 : Int32) 60 = gd (nI 0) 60 from rfl, gd_nI (by decide) (by decide), show (0 : Int32).toNatClampNeg = 0 from rfl, (he.1 0 (by omega)).1, e1, nI_pred' (by omega), show (0 : Int32) = nI 0 from rfl, rowOf_C (by omega), bp_some]
  have w2 : M_topCell τ = some (nI (clM (top L) 0 (n - 1))) := by
    unfold M_topCell
    rw [show gd (0 : Int32) 60 = gd (nI 0) 60 from rfl, gd_nI (by decide) (by decide), show (0 : Int32).toNatClampNeg = 0 from rfl, (hm.1 0 (by omega)).1, e2, nI_pred' (by omega), show (0 : Int32) = nI 0 from rfl, cellOf_M (by omega), bp_some]
  refine ⟨w1, ?_, w2, ?_⟩
  · unfold C_Chart_listed
    rw [e1, if_neg (nI_ne0 (by omega) (by omega)), w1, bp_some, gd_nI hl (by decide), nI_clamp (by omega), r1.2.1]
  · unfold M_listed
    rw [e3, if_neg (by decide), w2, bp_some, gd_nI hl' (by decide), nI_clamp (by omega), r2.2.1]
/-! the reference copies and clears -/
theorem pa44 {L : List rl} (hok : okL L) : ∀ (m i f : Nat) (τ : St), i + m = L.length → m + 1 ≤ f → gGm L (τ.1 10) (τ.1 11) (τ.1 12) (τ.1 13) (τ.1 14) → (∀ r, r < i → τ.1 26 r = nI (L.getD r z0).1 ∧ τ.1 27 r = nI (itM (L.getD r z0).2.1) ∧ τ.1 28 r = oM (L.getD r z0).2.2.1 ∧ τ.1 29 r = nI (L.getD r z0).2.2.2.1) →
    ∃ τ', M_parse_l44 8000 f τ (nI i) = M_parse_l108 8000 8000 τ' 0 ∧ fr [26, 27, 28, 29] τ τ' ∧ rlM L τ' := by
  have hL := hok.1
  intro m
  induction m with
  | zero =>
    intro i f τ hi hf hg hd
    obtain ⟨f, rfl⟩ : ∃ k, f = k + 1 := ⟨f - 1, by omega⟩
    unfold M_parse_l44
    rw [hg.1, if_pos (nI_le (by omega) (by omega))]
    exact ⟨τ, rfl, fr.rf, fun r hr => hd r (by omega)⟩
  | succ m ih =>
    intro i f τ hi hf hg hd
    obtain ⟨f, rfl⟩ : ∃ k, f = k + 1 := ⟨f - 1, by omega⟩
    obtain ⟨q1, q2, q3, q4⟩ := hg.2 i (by omega)
    unfold M_parse_l44
    rw [hg.1, if_neg (nI_ge (by omega) (by omega)), gd_nI (by omega) (by decide), gd_nI (by omega) (by decide), lt_is, gd_nI (by omega) (by decide), gd_nI (by omega) (by decide), lt_is, gd_nI (by omega) (by decide), gd_nI (by omega) (by decide), lt_is, gd_nI (by omega) (by decide), gd_nI (by omega) (by decide), lt_is, lt_is, nI_1, nI_clamp (by omega)]
    have := ih (i + 1) f (sI (sI (sI (sI τ 26 i (τ.1 11 i)) 27 i (τ.1 12 i)) 28 i (τ.1 13 i)) 29 i (τ.1 14 i)) (by omega) (by omega) hg (fun r hr => by
      by_cases q : r = i
      · subst q
        simp [sI_1, q1, q2, q3, q4]
      · have := hd r (by omega)
        simpa [sI_1, q] using this)
    obtain ⟨τ', f1, f2, f3⟩ := this
    exact ⟨τ', f1, ((((fr.sI (by decide)).tr (fr.sI (by decide))).tr (fr.sI (by decide))).tr (fr.sI (by decide))).tr f2, f3⟩
theorem pa108 {n : Nat} (hn : n ≤ 24) : ∀ (m i f : Nat) (τ : St), i + m = n → m + 1 ≤ f → τ.1 24 0 = nI n → (∀ k, k < i → τ.1 30 k = τ.1 9 k) →
    ∃ τ', (M_parse_l108 8000 f τ (nI i) = bp (M_readSymbols 8000 τ') fun σ3 => bp (M_order 8000 σ3) fun σ5 => M_parse_l144 8000 8000 σ5 (0 : Int32)) ∧ fr [30] τ τ' ∧ ∀ k, k < n → τ'.1 30 k = τ.1 9 k := by
  intro m
  induction m with
  | zero =>
    intro i f τ hi hf e24 hd
    obtain ⟨f, rfl⟩ : ∃ k, f = k + 1 := ⟨f - 1, by omega⟩
    unfold M_parse_l108
    rw [e24, if_pos (nI_le (by omega) (by omega))]
    exact ⟨τ, rfl, fr.rf, fun k hk => hd k (by omega)⟩
  | succ m ih =>
    intro i f τ hi hf e24 hd
    obtain ⟨f, rfl⟩ : ∃ k, f = k + 1 := ⟨f - 1, by omega⟩
    unfold M_parse_l108
    rw [e24, if_neg (nI_ge (by omega) (by omega)), gd_nI (by omega) (by decide), gd_nI (by omega) (by decide), lt_is, lt_is, nI_1, nI_clamp (by omega)]
    obtain ⟨τ', f1, f2, f3⟩ := ih (i + 1) f (sI τ 30 i (τ.1 9 i)) (by omega) (by omega) e24 (fun k hk => by
      by_cases q : k = i
      · subst q; simp [sI_1]
      · have := hd k (by omega)
        simpa [sI_1, q] using this)
    exact ⟨τ', f1, (fr.sI (by decide)).tr f2, f3⟩
theorem pa144 : ∀ (m i f : Nat) (τ : St), i + m = 7800 → m + 1 ≤ f → (∀ k, k < i → τ.1 33 k = 0 ∧ τ.2 34 k = 0) →
    ∃ τ', M_parse_l144 8000 f τ (nI i) = M_parse_l173 8000 8000 τ' 0 ∧ fr [33, 34] τ τ' ∧ ∀ k, k < 7800 → τ'.1 33 k = 0 ∧ τ'.2 34 k = 0 := by
  intro m
  induction m with
  | zero =>
    intro i f τ hi hf hd
    obtain ⟨f, rfl⟩ : ∃ k, f = k + 1 := ⟨f - 1, by omega⟩
    unfold M_parse_l144
    rw [if_pos (show (7800 : Int32) ≤ nI i from nle 7800 (by omega) (by omega))]
    exact ⟨τ, rfl, fr.rf, fun k hk => hd k (by omega)⟩
  | succ m ih =>
    intro i f τ hi hf hd
    obtain ⟨f, rfl⟩ : ∃ k, f = k + 1 := ⟨f - 1, by omega⟩
    unfold M_parse_l144
    rw [if_neg (show ¬ (7800 : Int32) ≤ nI i from nge 7800 (by omega) (by decide)), gd_nI (by omega) (by decide), lt_is, gd_nI (by omega) (by decide), lt_is, lt_is, nI_1, nI_clamp (by omega)]
    obtain ⟨τ', f1, f2, f3⟩ := ih (i + 1) f (sJ (sI τ 33 i 0) 34 i 0) (by omega) (by omega) (fun k hk => by
      by_cases q : k = i
      · subst q; simp [sI_1, sJ_1, sJ_2]
      · have := hd k (by omega)
        simpa [sI_1, sI_2, sJ_1, sJ_2, q] using this)
    exact ⟨τ', f1, ((fr.sI (by decide)).tr (fr.sJ (by decide))).tr f2, f3⟩
theorem bec10 (σ : St) : ∃ σ', C_Grammar_become_10 σ = some σ' ∧ fr [160, 161, 162, 163, 164, 165] σ σ' ∧ σ'.1 165 0 = σ.1 85 0 ∧ ∀ r, r < 60 → σ'.1 160 r = σ.1 80 r ∧ σ'.1 161 r = σ.1 81 r ∧ σ'.1 162 r = σ.1 82 r ∧ σ'.1 163 r = σ.1 83 r ∧ σ'.1 164 r = σ.1 84 r := by
  refine ⟨_, rfl, ((((((fr.sC (by decide)).tr (fr.sC (by decide))).tr (fr.sC (by decide))).tr (fr.sC (by decide))).tr (fr.sC (by decide))).tr (fr.sI (by decide))), rfl, fun r hr => ?_⟩
  have cp : ∀ (f g : Nat → Int32), va_cpy f g 0 0 60 r = f r := fun f g => by
    rw [pk_cpy_in (Nat.zero_le _) (by omega)]; congr 1; omega
  exact ⟨cp _ _, cp _ _, cp _ _, cp _ _, cp _ _⟩
theorem gSlots.of {σ τ σ' τ' : St} {S S' : List Nat} (hs : gSlots (σ.1 48) (σ.1 49) (σ.1 50) (σ.1 51) (τ.1 7) (τ.1 8) (τ.1 9) (τ.1 6)) (h1 : fr S σ σ') (h2 : fr S' τ τ') (d1 : 48 ∉ S ∧ 49 ∉ S ∧ 50 ∉ S ∧ 51 ∉ S) (d2 : 7 ∉ S' ∧ 8 ∉ S' ∧ 9 ∉ S' ∧ 6 ∉ S') : gSlots (σ'.1 48) (σ'.1 49) (σ'.1 50) (σ'.1 51) (τ'.1 7) (τ'.1 8) (τ'.1 9) (τ'.1 6) := by
  rw [h1.1 48 d1.1, h1.1 49 d1.2.1, h1.1 50 d1.2.2.1, h1.1 51 d1.2.2.2, h2.1 7 d2.1, h2.1 8 d2.2.1, h2.1 9 d2.2.2.1, h2.1 6 d2.2.2.2]; exact hs
theorem k_parse {σ τ : St} (hk : gKey (σ.1 16) (σ.1 17) (τ.1 1) (τ.1 2)) (hc : gCost (σ.1 32) (τ.1 3)) (hs : gSlots (σ.1 48) (σ.1 49) (σ.1 50) (σ.1 51) (τ.1 7) (τ.1 8) (τ.1 9) (τ.1 6)) (hgr : gGram (σ.1 80) (σ.1 81) (σ.1 82) (σ.1 83) (σ.1 84) (σ.1 85) (τ.1 10) (τ.1 11) (τ.1 12) (τ.1 13) (τ.1 14)) :
    ∃ (r : Int32) (σ' τ' : St), C_CG_parse 8000 σ = some (r, σ') ∧ M_parse 8000 τ = some (r, τ') ∧ ((σ' = σ ∧ fr [0] τ τ') ∨ (fr (128 :: SCc) σ σ' ∧ fr (0 :: SMc) τ τ' ∧ σ'.1 128 0 = -1 ∧ gChart σ' τ')) := by
  obtain ⟨L, rk, hg, ⟨c1, c2, c3⟩, hgm⟩ := hgr
  have hL := hg.1.1
  have hs0 := hs
  obtain ⟨n, hn, s1, s2, s3⟩ := hs0
  unfold C_CG_parse M_parse
  rw [lt_is]
  have t10 : (sI τ 0 0 0).1 10 0 = nI L.length := hgm.1
  have t6 : (sI τ 0 0 0).1 6 0 = nI n := s2
  rw [c1, s1, t10, t6]
  by_cases hL0 : L.length = 0
  · rw [hL0, if_pos (show nI 0 = 0 from rfl), if_pos (show nI 0 = 0 from rfl)]
    exact ⟨_, _, _, rfl, rfl, .inl ⟨rfl, fr.sI (by decide)⟩⟩
  have hLn : ¬ nI L.length = 0 := nI_ne0 (by omega) (by omega)
  rw [if_neg hLn, if_neg hLn]
  by_cases hn0 : n = 0
  · rw [hn0, if_pos (show nI 0 = 0 from rfl), if_pos (show nI 0 = 0 from rfl)]
    exact ⟨_, _, _, rfl, rfl, .inl ⟨rfl, fr.sI (by decide)⟩⟩
  have hnn : ¬ nI n = 0 := nI_ne0 (by omega) (by omega)
  rw [if_neg hnn, if_neg hnn]
  -- the reference: copies
  rw [lt_is, lt_is, lt_is]
  have hτ1 : fr [0, 38, 24, 25] τ (sI (sI (sI (sI τ 0 0 0) 38 0 1) 24 0 (nI n)) 25 0 (nI L.length)) := ((fr.sI (by decide)).tr (fr.sI (by decide))).tr ((fr.sI (by decide)).tr (fr.sI (by decide)))
  have e6 : (sI (sI τ 0 0 0) 38 0 1).1 6 0 = nI n := s2
  have e10 : (sI (sI (sI τ 0 0 0) 38 0 1) 24 0 (nI n)).1 10 0 = nI L.length := hgm.1
  rw [e6, e10]
  have v1 : (sI (sI (sI (sI τ 0 0 0) 38 0 1) 24 0 (nI n)) 25 0 (nI L.length)).1 24 0 = nI n := by simp [sI_1]
  have v2 : (sI (sI (sI (sI τ 0 0 0) 38 0 1) 24 0 (nI n)) 25 0 (nI L.length)).1 25 0 = nI L.length := by simp [sI_1]
  have v3 : (sI (sI (sI (sI τ 0 0 0) 38 0 1) 24 0 (nI n)) 25 0 (nI L.length)).1 38 0 = 1 := by simp [sI_1]
  generalize (sI (sI (sI (sI τ 0 0 0) 38 0 1) 24 0 (nI n)) 25 0 (nI L.length)) = τ1 at *
  obtain ⟨τ2, a1, a2, a3⟩ := pa44 hg.1 L.length 0 8000 τ1 (by omega) (by omega) (by rw [hτ1.1 10 (by decide), hτ1.1 11 (by decide), hτ1.1 12 (by decide), hτ1.1 13 (by decide), hτ1.1 14 (by decide)]; exact hgm) (fun r hr => by omega)
  obtain ⟨τ3, b1, b2, b3⟩ := pa108 hn n 0 8000 τ2 (by omega) (by omega) (by rw [a2.1 24 (by decide)]; exact v1) (fun k hk => by omega)
  -- the class: copies
  obtain ⟨σ2, d1, d2, d3, d4⟩ := bec10 σ
  have e51 : σ2.1 51 0 = nI n := by rw [d2.1 51 (by decide)]; exact s1
  obtain ⟨σ5, hσ5⟩ : ∃ σ5, σ5 = sC (sI σ2 118 0 (σ2.1 51 0)) 114 (va_cpy ((sI σ2 118 0 (σ2.1 51 0)).1 50) ((sI σ2 118 0 (σ2.1 51 0)).1 114) 0 0 24) := ⟨_, rfl⟩
  have g5 : fr [118, 114] σ2 σ5 := by rw [hσ5]; exact (fr.sI (by decide)).tr (fr.sC (by decide))
  have g118 : σ5.1 118 0 = nI n := by rw [hσ5, sC_c, if_neg (by decide), sI_1, if_pos rfl, if_pos rfl]; exact e51
  have g114 : ∀ k, k < 24 → σ5.1 114 k = σ.1 50 k := by
    intro k hk
    rw [hσ5, sC_c, if_pos rfl, pk_cpy_in (Nat.zero_le _) (by omega), show 0 + (k - 0) = k by omega, sI_c, if_neg (by decide), d2.1 50 (by decide)]
  have hf5 : fr [160, 161, 162, 163, 164, 165, 118, 114] σ σ5 := (d2.wk (by decide)).tr (g5.wk (by decide))
  have hf3 : fr [0, 38, 24, 25, 26, 27, 28, 29, 30] τ τ3 := ((hτ1.wk (by decide)).tr (a2.wk (by decide))).tr (b2.wk (by decide))
  obtain ⟨σ8, τ4, sC', sP', m1, m2, m3, m4, m5, m6, m7, m8⟩ := sym_both (σ := σ5) (τ := τ3) (n := n) (by rw [hf5.1 16 (by decide), hf5.1 17 (by decide), hf3.1 1 (by decide), hf3.1 2 (by decide)]; exact hk) (by rw [hf5.1 32 (by decide), hf3.1 3 (by decide)]; exact hc) (hs.of hf5 hf3 (by decide) (by decide)) (by rw [hf5.1 51 (by decide)]; exact s1) hn (by rw [b2.1 24 (by decide), a2.1 24 (by decide)]; exact v1)
  have hr3 : rlM L τ3 := a3.keep b2 (by decide) (by decide) (by decide) (by decide)
  have hr4 : rlM L τ4 := hr3.keep m4 (by decide) (by decide) (by decide) (by decide)
  have e25 : τ4.1 25 0 = nI L.length := by rw [m4.1 25 (by decide), b2.1 25 (by decide), a2.1 25 (by decide)]; exact v2
  have e24 : τ4.1 24 0 = nI n := by rw [m4.1 24 (by decide), b2.1 24 (by decide), a2.1 24 (by decide)]; exact v1
  have e38 : τ4.1 38 0 = 1 := by rw [m4.1 38 (by decide), b2.1 38 (by decide), a2.1 38 (by decide)]; exact v3
  obtain ⟨τ5, tn, o1, o2, o3, o4⟩ := order_M hg hr4 e25
  obtain ⟨τ6, p1, p2, p3⟩ := pa144 7800 0 8000 τ5 rfl (by omega) (fun k hk => by omega)
  have h46 : fr [37, 33, 34] τ4 τ6 := (o2.wk (by decide)).tr (p2.wk (by decide))
  have em4 : envM L sC' sP' n τ4 := ⟨hr4, m8⟩
  have em6 : envM L sC' sP' n τ6 := by
    refine ⟨hr4.keep h46 (by decide) (by decide) (by decide) (by decide), ?_⟩
    rw [h46.1 31 (by decide), h46.1 32 (by decide)]; exact m8
  obtain ⟨τ7, T', q1, q2, q3, q4⟩ := pr173 (sP := sP') hg.1 o3 m5 hn n 0 8000 τ6 (fun _ _ _ => (0, [])) (by omega) (by omega) em6 (by rw [h46.1 25 (by decide)]; exact e25) (by rw [h46.1 24 (by decide)]; exact e24) (fun b hb => by rw [p2.1 37 (by decide)]; exact o4 b hb) (fun a i j _ hij hd => by unfold Dm at hd; omega) (fun a i j _ hij _ hd => by unfold Dm at hd; omega) (fun a i j ha hij hj _ => by
    have h := p3 (clM a i j) (clM_lt ha hij (by omega))
    exact ⟨h.2, h.1, by show 0 ≤ 30; omega, fun k hk => by cases hk⟩)
  -- the class fills its chart
  have ec8 : envC L sC' sP' n σ8 := by
    refine ⟨fun r hr => ?_, m7⟩
    rw [m3.1 160 (by decide), m3.1 161 (by decide), m3.1 162 (by decide), m3.1 163 (by decide), g5.1 160 (by decide), g5.1 161 (by decide), g5.1 162 (by decide), g5.1 163 (by decide)]
    obtain ⟨z1, z2, z3, z4, -⟩ := d4 r (by omega)
    rw [z1, z2, z3, z4]
    exact c2 r hr
  have hor : orC (ordL L.length (rlA L) rk) (σ8.1 164) := by
    intro k hk
    have hk' : k < L.length := by
      have := ordL_len (n := L.length) (A := rlA L) (rk := rk) (fun r hr => hg.2.1 _ (hg.1.2 r hr).1)
      omega
    rw [m3.1 164 (by decide), g5.1 164 (by decide), (d4 k (by omega)).2.2.2.2]
    exact c3 k hk
  have e165 : σ8.1 165 0 = nI L.length := by rw [m3.1 165 (by decide), g5.1 165 (by decide), d3]; exact c1
  have e118 : σ8.1 118 0 = nI n := by rw [m3.1 118 (by decide)]; exact g118
  obtain ⟨σ9, T, w1, w2, w3, w4⟩ := la45 (sC := sC') (sP := sP') hg hn n 0 8000 σ8 (fun _ _ _ => (0, [])) (by omega) (by omega) ec8 hor e165 e118 (fun a i j _ hij hd => by unfold Dc at hd; omega) (fun a i j _ hij hd => by unfold Dc at hd; omega)
  have hu := fun a i j ha hij hj => uniq hg m6 hn w3 q3 (26 * (j - i) + rk a) a i j rfl ha hij hj
  have hch : chO n L rk sC' sP' T (sI σ9 128 0 (-1)) τ7 := by
    refine ⟨⟨by omega, hn, by omega, hg, m5⟩, ⟨?_, em6.keep q2⟩, ⟨?_, ?_, ?_⟩, fun a i j ha hij hj => ?_, fun i hi => ?_, by show σ9.1 165 0 = _; rw [w2.1 165 (by decide)]; exact e165⟩
    · have h := ec8.keep w2
      refine ⟨fun r hr => ?_, fun s y hs hy => ?_⟩
      · exact h.1 r hr
      · exact h.2 s y hs hy
    · show σ9.1 118 0 = nI n
      rw [w2.1 118 (by decide)]; exact e118
    · rw [q2.1 24 (by decide), h46.1 24 (by decide)]; exact e24
    · rw [q2.1 38 (by decide), h46.1 38 (by decide)]; exact e38
    · obtain ⟨x1, x2⟩ := hu a i j ha hij hj
      refine ⟨w4 a i j ha hij hj, ?_, x2⟩
      rw [x1]; exact q4 a i j ha hij hj
    · obtain ⟨-, -, y1, y2⟩ := s3 i hi
      have k1 : (sI σ9 128 0 (-1)).1 114 i = σ.1 50 i := by
        show σ9.1 114 i = _
        rw [w2.1 114 (by decide), m3.1 114 (by decide)]; exact g114 i (by omega)
      have k2 : τ7.1 30 i = τ.1 9 i := by
        rw [q2.1 30 (by decide), h46.1 30 (by decide), m4.1 30 (by decide), b3 i hi, a2.1 9 (by decide), hτ1.1 9 (by decide)]
      rw [k1, k2]
      exact ⟨y1, y2⟩
  obtain ⟨-, l1, -, l2⟩ := listed_C hch
  refine ⟨nI (T (top L) 0 (n - 1)).2.length, sI σ9 128 0 (-1), τ7, ?_, ?_, .inr ⟨?_, ?_, ?_, .inr ⟨n, L, rk, sC', sP', T, hch⟩⟩⟩
  · have : C_Chart_listAll 8000 σ = some σ9 := by
      unfold C_Chart_listAll
      rw [d1, bp_some, lt_is, lt_is, ← hσ5, m1, bp_some]
      exact w1
    rw [this, bp_some, lt_is, l1, bp_some]
  · rw [show (0 : Int32) = nI 0 from rfl, a1, show (0 : Int32) = nI 0 from rfl, b1, m2, bp_some, o1, bp_some, show (0 : Int32) = nI 0 from rfl, p1, show (0 : Int32) = nI 0 from rfl, q1, l2, bp_some]
  · exact ((hf5.wk (by decide)).tr (m3.wk (by decide))).tr ((w2.wk (by decide)).tr (fr.sI (by decide)))
  · exact ((hf3.wk (by decide)).tr (m4.wk (by decide))).tr ((h46.wk (by decide)).tr (q2.wk (by decide)))
  · simp [sI_1]

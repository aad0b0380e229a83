/-! class and reference answer alike, call by call -/
abbrev pKey (σ τ : St) : Prop := gKey (σ.1 16) (σ.1 17) (τ.1 1) (τ.1 2)
abbrev pCost (σ τ : St) : Prop := gCost (σ.1 32) (τ.1 3)
abbrev pSlots (σ τ : St) : Prop := gSlots (σ.1 48) (σ.1 49) (σ.1 50) (σ.1 51) (τ.1 7) (τ.1 8) (τ.1 9) (τ.1 6)
abbrev pDraft (σ τ : St) : Prop := gDraft (σ.1 64) (σ.1 65) (τ.1 4) (τ.1 5)
abbrev pGram (σ τ : St) : Prop := gGram (σ.1 80) (σ.1 81) (σ.1 82) (σ.1 83) (σ.1 84) (σ.1 85) (τ.1 10) (τ.1 11) (τ.1 12) (τ.1 13) (τ.1 14)
def Sim (σ τ : St) : Prop := pKey σ τ ∧ pCost σ τ ∧ pSlots σ τ ∧ pDraft σ τ ∧ pGram σ τ ∧ gCT σ τ
theorem keyK {σ τ σ' τ' : St} {S S' : List Nat} (h1 : fr S σ σ') (h2 : fr S' τ τ') (h : pKey σ τ) (d1 : ∀ c, c ∈ [16, 17] → c ∉ S) (d2 : ∀ c, c ∈ [1, 2] → c ∉ S') : pKey σ' τ' := by
  unfold pKey
  rw [h1.1 16 (d1 _ (by decide)), h1.1 17 (d1 _ (by decide)), h2.1 1 (d2 _ (by decide)), h2.1 2 (d2 _ (by decide))]; exact h
theorem costK {σ τ σ' τ' : St} {S S' : List Nat} (h1 : fr S σ σ') (h2 : fr S' τ τ') (h : pCost σ τ) (d1 : ∀ c, c ∈ [32] → c ∉ S) (d2 : ∀ c, c ∈ [3] → c ∉ S') : pCost σ' τ' := by
  unfold pCost
  rw [h1.1 32 (d1 _ (by decide)), h2.1 3 (d2 _ (by decide))]; exact h
theorem slotsK {σ τ σ' τ' : St} {S S' : List Nat} (h1 : fr S σ σ') (h2 : fr S' τ τ') (h : pSlots σ τ) (d1 : ∀ c, c ∈ [48, 49, 50, 51] → c ∉ S) (d2 : ∀ c, c ∈ [7, 8, 9, 6] → c ∉ S') : pSlots σ' τ' := by
  unfold pSlots
  rw [h1.1 48 (d1 _ (by decide)), h1.1 49 (d1 _ (by decide)), h1.1 50 (d1 _ (by decide)), h1.1 51 (d1 _ (by decide)), h2.1 7 (d2 _ (by decide)), h2.1 8 (d2 _ (by decide)), h2.1 9 (d2 _ (by decide)), h2.1 6 (d2 _ (by decide))]; exact h
theorem draftK {σ τ σ' τ' : St} {S S' : List Nat} (h1 : fr S σ σ') (h2 : fr S' τ τ') (h : pDraft σ τ) (d1 : ∀ c, c ∈ [64, 65] → c ∉ S) (d2 : ∀ c, c ∈ [4, 5] → c ∉ S') : pDraft σ' τ' := by
  unfold pDraft
  rw [h1.1 64 (d1 _ (by decide)), h1.1 65 (d1 _ (by decide)), h2.1 4 (d2 _ (by decide)), h2.1 5 (d2 _ (by decide))]; exact h
theorem gramK {σ τ σ' τ' : St} {S S' : List Nat} (h1 : fr S σ σ') (h2 : fr S' τ τ') (h : pGram σ τ) (d1 : ∀ c, c ∈ [80, 81, 82, 83, 84, 85] → c ∉ S) (d2 : ∀ c, c ∈ [10, 11, 12, 13, 14] → c ∉ S') : pGram σ' τ' := by
  unfold pGram
  rw [h1.1 80 (d1 _ (by decide)), h1.1 81 (d1 _ (by decide)), h1.1 82 (d1 _ (by decide)), h1.1 83 (d1 _ (by decide)), h1.1 84 (d1 _ (by decide)), h1.1 85 (d1 _ (by decide)), h2.1 10 (d2 _ (by decide)), h2.1 11 (d2 _ (by decide)), h2.1 12 (d2 _ (by decide)), h2.1 13 (d2 _ (by decide)), h2.1 14 (d2 _ (by decide))]; exact h
theorem Sim.of0 {σ τ τ' : St} (h : Sim σ τ) (h2 : fr [0] τ τ') : Sim σ τ' := by
  obtain ⟨a, b, c, d, e, f⟩ := h
  have h1 : fr [] σ σ := fr.rf
  exact ⟨keyK h1 h2 a (by decide) (by decide), costK h1 h2 b (by decide) (by decide), slotsK h1 h2 c (by decide) (by decide), draftK h1 h2 d (by decide) (by decide), gramK h1 h2 e (by decide) (by decide), f.keep h1 h2 (by decide) (by decide)⟩
theorem Sim.ofT {σ τ σ' τ' : St} (h : Sim σ τ) (h1 : fr STa σ σ') (h2 : fr SM0 τ τ') (f : gCT σ' τ') : Sim σ' τ' := by
  obtain ⟨a, b, c, d, e, -⟩ := h
  exact ⟨keyK h1 h2 a (by decide) (by decide), costK h1 h2 b (by decide) (by decide), slotsK h1 h2 c (by decide) (by decide), draftK h1 h2 d (by decide) (by decide), gramK h1 h2 e (by decide) (by decide), f⟩
theorem sim_ok : SimOk Sim := by
  refine ⟨?_, ?_, ?_, ?_, ?_, ?_, ?_, ?_, ?_, ?_, ?_, ?_, ?_, ?_, ?_, ?_, ?_, ?_⟩
  · intro σ τ x y h hb
    obtain ⟨a, b, c, d, e, f⟩ := h
    obtain ⟨r, σ', τ', p1, p2, p3, h1, h2⟩ := k_key (a := x) hb a
    exact ⟨r, σ', τ', p1, p2, p3, costK h1 h2 b (by decide) (by decide), slotsK h1 h2 c (by decide) (by decide), draftK h1 h2 d (by decide) (by decide), gramK h1 h2 e (by decide) (by decide), f.keep h1 h2 (by decide) (by decide)⟩
  · intro σ τ x y h
    obtain ⟨a, b, c, d, e, f⟩ := h
    obtain ⟨r, σ', τ', p1, p2, p3, h1, h2⟩ := k_cost (a := x) (b := y) b
    exact ⟨r, σ', τ', p1, p2, keyK h1 h2 a (by decide) (by decide), p3, slotsK h1 h2 c (by decide) (by decide), draftK h1 h2 d (by decide) (by decide), gramK h1 h2 e (by decide) (by decide), f.keep h1 h2 (by decide) (by decide)⟩
  · intro σ τ x y h
    obtain ⟨a, b, c, d, e, f⟩ := h
    obtain ⟨n1, n2, r, σ', τ', p1, p2, p3, h1, h2⟩ := k_draft (a := x) (b := y) d
    exact ⟨n1, n2, r, σ', τ', p1, p2, keyK h1 h2 a (by decide) (by decide), costK h1 h2 b (by decide) (by decide), slotsK h1 h2 c (by decide) (by decide), p3, gramK h1 h2 e (by decide) (by decide), f.keep h1 h2 (by decide) (by decide)⟩
  · intro σ τ h
    obtain ⟨a, b, c, d, e, f⟩ := h
    obtain ⟨n1, n2, r, σ', τ', p1, p2, p3, p4, h1, h2⟩ := k_grammar d e
    exact ⟨n1, n2, r, σ', τ', p1, p2, keyK h1 h2 a (by decide) (by decide), costK h1 h2 b (by decide) (by decide), slotsK h1 h2 c (by decide) (by decide), p3, p4, f.keep h1 h2 (by decide) (by decide)⟩
  · intro σ τ x y z h
    obtain ⟨a, b, c, d, e, f⟩ := h
    obtain ⟨r, σ', τ', p1, p2, p3, h1, h2⟩ := k_slot (a := x) (b := y) (c := z) c
    exact ⟨r, σ', τ', p1, p2, keyK h1 h2 a (by decide) (by decide), costK h1 h2 b (by decide) (by decide), p3, draftK h1 h2 d (by decide) (by decide), gramK h1 h2 e (by decide) (by decide), f.keep h1 h2 (by decide) (by decide)⟩
  · intro σ τ h
    obtain ⟨a, b, c, d, e, f⟩ := h
    obtain ⟨r, σ', τ', p1, p2, p3, h1, h2⟩ := k_clear c
    exact ⟨r, σ', τ', p1, p2, keyK h1 h2 a (by decide) (by decide), costK h1 h2 b (by decide) (by decide), p3, draftK h1 h2 d (by decide) (by decide), gramK h1 h2 e (by decide) (by decide), f.keep h1 h2 (by decide) (by decide)⟩
  · intro σ τ x y z h
    obtain ⟨n2, r, τ', p1, p2, h2⟩ := k_fit (a := x) (b := y) (c := z) h.2.2.1 h.2.1
    exact ⟨n2, r, τ', p1, p2, h.of0 h2⟩
  · intro σ τ x h
    obtain ⟨n1, n2, r, τ', p1, p2, h2⟩ := k_best (a := x) h.2.2.1 h.2.1
    exact ⟨n1, n2, r, τ', p1, p2, h.of0 h2⟩
  · intro σ τ h
    obtain ⟨r, σ', τ', p1, p2, p3⟩ := k_parse h.1 h.2.1 h.2.2.1 h.2.2.2.2.1
    refine ⟨8000, 8000, r, σ', τ', p1, p2, ?_⟩
    rcases p3 with ⟨p3, p4⟩ | ⟨h1, h2, p5, p6⟩
    · rw [p3]; exact h.of0 p4
    · obtain ⟨a, b, c, d, e, -⟩ := h
      exact ⟨keyK h1 h2 a (by decide) (by decide), costK h1 h2 b (by decide) (by decide), slotsK h1 h2 c (by decide) (by decide), draftK h1 h2 d (by decide) (by decide), gramK h1 h2 e (by decide) (by decide), gCT.of p6 p5⟩
  · intro σ τ h
    obtain ⟨r, p1, p2⟩ := k_readings h.2.2.2.2.2.ch
    exact ⟨r, _, p1, p2, h.of0 (fr.sI (by decide))⟩
  · intro σ τ x h
    obtain ⟨r, p1, p2⟩ := k_price (a := x) h.2.2.2.2.2.ch
    exact ⟨r, _, p1, p2, h.of0 (fr.sI (by decide))⟩
  · intro σ τ x y z h
    obtain ⟨r, σ', τ', p1, p2, h1, h2, p3⟩ := k_node (a := x) (b := y) (c := z) h.2.2.2.2.2
    exact ⟨8000, 8000, r, σ', τ', p1, p2, h.ofT h1 h2 p3⟩
  · intro σ τ x h
    obtain ⟨r, σ', τ', p1, p2, h1, h2, p3⟩ := k_nodes (a := x) h.2.2.2.2.2
    exact ⟨8000, 8000, r, σ', τ', p1, p2, h.ofT h1 h2 p3⟩
  · intro σ τ x y h
    obtain ⟨r, σ', τ', p1, p2, h1, h2, p3⟩ := k_chord (a := x) (b := y) h.2.2.2.2.2
    exact ⟨8000, 8000, r, σ', τ', p1, p2, h.ofT h1 h2 p3⟩
  · intro σ τ x h
    obtain ⟨r, σ', τ', p1, p2, h1, h2, p3⟩ := k_cadence (a := x) h.2.2.2.2.2
    exact ⟨8000, 8000, r, σ', τ', p1, p2, h.ofT h1 h2 p3⟩
  · intro σ τ x y h
    obtain ⟨r, σ', τ', p1, p2, h1, h2, p3⟩ := k_melody (a := x) (b := y) h.2.2.2.2.2
    exact ⟨8000, 8000, r, σ', τ', p1, p2, h.ofT h1 h2 p3⟩
  · intro σ τ x h
    obtain ⟨c, -, s1, s2, -⟩ := h.2.2.1
    obtain ⟨d, -, d1, d2, -⟩ := h.2.2.2.1
    obtain ⟨L, rk, -, g1, g2⟩ := h.2.2.2.2.1
    obtain ⟨r, p1, p2⟩ := k_told (a := x) h.2.2.2.2.2.ch (by rw [s1, s2]) (by rw [g1.1, g2.1]) (by rw [d1, d2])
    exact ⟨r, _, p1, p2, h.of0 (fr.sI (by decide))⟩
  · intro σ τ x y z h
    obtain ⟨r, v, p1, p2⟩ := k_cell (a := x) (b := y) (c := z) h.2.2.2.2.2.ch
    have e : (sI τ 0 0 v).1 0 0 = v := by simp [sI_1]
    refine ⟨r, _, p1, h.of0 (fr.sI (by decide)), ?_⟩
    rw [e]; exact p2
theorem sim_0 : Sim σC0 σM0 := by
  refine ⟨⟨rfl, rfl, ⟨0, by decide, rfl⟩, .inl rfl⟩, ?_, ⟨0, by decide, rfl, rfl, fun i hi => absurd hi (Nat.not_lt_zero _)⟩, ⟨0, by decide, rfl, rfl, fun i hi => absurd hi (Nat.not_lt_zero _)⟩, ?_, .inl ⟨⟨rfl, rfl, rfl⟩, rfl⟩⟩
  · have w : ∀ i, i < 4 → (σC0.1 32) i = (σM0.1 3) i ∧ (∃ v, v < 6 ∧ (σC0.1 32) i = nI v) := by decide +kernel
    intro i hi
    obtain ⟨w1, v, hv, w2⟩ := w i hi
    exact ⟨w1, v, by omega, w2⟩
  · refine ⟨[], fun _ => 0, ⟨⟨by decide, fun r hr => absurd hr (Nat.not_lt_zero _)⟩, fun a _ => by show 0 < 26; omega, fun r hr => absurd hr (Nat.not_lt_zero _)⟩, ⟨rfl, fun r hr => absurd hr (Nat.not_lt_zero _), ?_⟩, ⟨rfl, fun r hr => absurd hr (Nat.not_lt_zero _)⟩⟩
    intro k hk
    have : (ordL 0 (fun r => (([] : List rl).getD r z0).1) (fun _ => 0)).length = 0 := by decide
    exact absurd hk (by show ¬ k < (ordL 0 (fun r => (([] : List rl).getD r z0).1) (fun _ => 0)).length; omega)

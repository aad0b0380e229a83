/-! melody -/
abbrev okp (x : Int32) : Prop := x = -1 ∨ ∃ p, p < 128 ∧ x = nI p
theorem okp.neg {x : Int32} (h : okp x) : x < 0 ↔ x = -1 := by
  rcases h with h | ⟨p, hp, h⟩
  · subst h; decide
  · subst h
    exact ⟨fun z => absurd z (nI_pos (by omega)), fun z => absurd z (nI_nm1 (by omega))⟩
def nxt (n : Nat) (f : Nat → Int32) (q : Nat) : Int32 := if q + 1 < n then f (q + 1) else -1
def prv (f : Nat → Int32) (q : Nat) : Int32 := if q = 0 then -1 else f (q - 1)
theorem b216_0 {N : Nat} {τ : St} {x6 x7 x8 : Int32} : M_melody_b216 N τ x6 x7 x8 0 = some (if x6 = 0 then 7 else if x8 = 0 then 4 else 7, τ) := by
  unfold M_melody_b216 M_melody_b274 M_melody_b311 M_melody_b344
  simp only [if_true]
  by_cases h : x6 = 0
  · simp only [h, if_true]
  · simp only [h, if_false]
    split <;> rfl
theorem b115_is {n : Nat} {τ : St} {N : Nat} (h24 : τ.1 24 0 = nI n) (hn : n ≤ 24) (hp : ∀ i, i < n → okp (τ.1 30 i)) {q : Nat} (hq : q < n) {y : Int32} {s0 : Int32} (hs : s0 = if prv (τ.1 30) q = -1 then 0 else 1) : ∃ r, C_CG_strangerNote (prv (τ.1 30) q) y (nxt n (τ.1 30) q) = some r ∧ M_melody_b115 N τ (nI q) y s0 = some (r, τ) := by
  have n1 : ¬ (1 : Int32) = 0 := by decide
  have e1 : M_melody_b115 N τ (nI q) y s0 = M_melody_b157 N τ (nI q) y s0 (if nxt n (τ.1 30) q = -1 then 0 else 1) := by
    unfold M_melody_b115 nxt
    rw [h24, nI_1]
    by_cases c : q + 1 < n
    · have hk := (hp (q + 1) c).neg
      have hc : ¬ nI n ≤ nI (q + 1) := nI_ge c (by omega)
      rw [if_neg hc, if_neg hc, gd_nI (by omega) (by decide), nI_clamp (by omega), if_pos c]
      by_cases d : τ.1 30 (q + 1) = -1
      · rw [if_pos (hk.mpr d), if_pos d]
      · rw [if_neg (fun z => d (hk.mp z)), if_neg d]
    · rw [if_pos (nI_le (by omega) (by omega)), if_neg c, if_pos rfl]
  rw [e1]
  by_cases hN : nxt n (τ.1 30) q = -1
  · refine ⟨7, ?_, ?_⟩
    · unfold C_CG_strangerNote; rw [if_pos hN]
    · rw [if_pos hN]
      have go : ∀ z, M_melody_b178 N τ (nI q) y s0 0 z = some (7, τ) := by
        intro z
        unfold M_melody_b178
        rw [if_pos rfl, b216_0, if_pos rfl, if_pos rfl]
        split <;> rfl
      unfold M_melody_b157
      rw [go, go]
      by_cases hP : prv (τ.1 30) q = -1
      · rw [hs, if_pos hP, if_pos rfl]
      · have hq0 : ¬ q = 0 := fun z => hP (by unfold prv; rw [if_pos z])
        rw [hs, if_neg hP, if_neg n1, nI_pred' (by omega), gd_nI (by omega) (by decide)]
  · rw [if_neg hN]
    have hq1 : q + 1 < n := Decidable.byContradiction fun z => hN (by unfold nxt; rw [if_neg z])
    have hNx : nxt n (τ.1 30) q = τ.1 30 (q + 1) := by unfold nxt; rw [if_pos hq1]
    have e2 : ∀ z, M_melody_b178 N τ (nI q) y s0 1 z = if s0 = 0 then M_melody_b216 N τ 1 z (nxt n (τ.1 30) q - y) 0 else M_melody_b216 N τ 1 z (nxt n (τ.1 30) q - y) 1 := by
      intro z
      unfold M_melody_b178
      rw [if_neg n1, nI_1, gd_nI (by omega) (by decide), lt_is, nI_clamp (by omega), hNx]
      simp only [if_neg n1]
    unfold M_melody_b157
    rw [e2, e2]
    by_cases hP : prv (τ.1 30) q = -1
    · have hs0 : s0 = 0 := by rw [hs, if_pos hP]
      rw [if_pos hs0, if_pos hs0, b216_0, if_neg n1]
      unfold C_CG_strangerNote
      rw [if_neg hN, lt_is, if_pos hP]
      refine ⟨_, ?_, rfl⟩
      split <;> rfl
    · have hs0 : ¬ s0 = 0 := by rw [hs, if_neg hP]; exact n1
      have hq0 : ¬ q = 0 := fun z => hP (by unfold prv; rw [if_pos z])
      have hPx : prv (τ.1 30) q = τ.1 30 (q - 1) := by unfold prv; rw [if_neg hq0]
      rw [if_neg hs0, nI_pred' (by omega), gd_nI (by omega) (by decide), nI_clamp (by omega), if_neg hs0, mel_M, mel_C hP hN, hPx]
      exact ⟨_, rfl, rfl⟩
theorem pitch_C {n : Nat} {σ : St} (h18 : σ.1 118 0 = nI n) (hn : n ≤ 24) {q : Nat} (hq : q < n) : C_Chart_pitchAt σ (nI q) = some (σ.1 114 q) := by
  unfold C_Chart_pitchAt C_Chart_hasSlot
  rw [h18, if_neg (nI_pos (by omega)), if_neg (nI_ge (by omega) (by omega)), bp_some, if_neg (by decide), gd_nI (by omega) (by decide), nI_clamp (by omega)]
theorem pitch_o {n : Nat} {σ : St} (h18 : σ.1 118 0 = nI n) {x : Int32} (h : x < 0 ∨ nI n ≤ x) : C_Chart_pitchAt σ x = some (-1) := by
  unfold C_Chart_pitchAt C_Chart_hasSlot
  rw [h18]
  by_cases c : x < 0
  · rw [if_pos c, bp_some, if_pos rfl]
  · rw [if_neg c, if_pos (h.resolve_left c), bp_some, if_pos rfl]
theorem mbit {S m : Nat} (hS : S < 4096) (hm : m < 12) : (((nI S).toUInt32 >>> ((nI m).toUInt32 &&& Int32.toUInt32 31)).toInt32 &&& 1) = nI (S / 2 ^ m % 2) ∧ ((nI S >>> (nI m &&& 31)) &&& 1) = nI (S / 2 ^ m % 2) := by
  have hd : S / 2 ^ m ≤ S := Nat.div_le_self _ _
  constructor
  · rw [pk_ushrN (by omega) (nI m) m (s_u m (by omega)), pk_andN (by omega) 1 (by decide)]
  · rw [pk_shrN (by omega) (nI m &&& 31) m (s_l m (by omega)), pk_andN (by omega) 1 (by decide)]
theorem k_melody {σ τ : St} {a b : Int32} (h : gCT σ τ) : ∃ (r : Int32) (σ' τ' : St), C_CG_melody 8000 σ a b = some (r, σ') ∧ M_melody 8000 τ a b = some (r, τ') ∧ fr STa σ σ' ∧ fr SM0 τ τ' ∧ gCT σ' τ' := by
  unfold C_CG_melody M_melody
  rw [lt_is]
  have f0 : fr SM0 τ (sI τ 0 0 0) := fr.sI (by decide)
  rcases h.ask a with ⟨q1, q2⟩ | ⟨q1, q2, n, L, rk, sC, sP, T, k, hch, ht, rfl, hk, hk3⟩
  · rw [q1, q2, bp_some, bp_some, if_pos rfl, if_neg (by decide)]
    exact ⟨_, σ, _, rfl, rfl, fr.rf, f0, h.s0⟩
  rw [q1, q2, bp_some, bp_some, if_neg (by decide), if_pos rfl]
  have n1 := hch.1.1
  have n2 := hch.1.2.1
  have h18 := hch.2.2.1.1
  have h24 := hch.2.2.1.2.1
  have h0 : b < 0 ∨ nI n ≤ b → C_CG_chord 8000 σ (nI k) b = some (-1, σ) := by
    intro w
    unfold C_CG_chord C_Chart_hasSlot
    rw [q1, bp_some, if_neg (by decide), h18]
    by_cases c : b < 0
    · rw [if_pos c, bp_some, if_pos rfl]
    · rw [if_neg c, if_pos (w.resolve_left c), bp_some, if_pos rfl]
  rw [h24]
  by_cases b0 : b < 0
  · rw [if_pos b0, pitch_o h18 (.inl b0), bp_some, h0 (.inl b0), bd_some, if_pos rfl]
    exact ⟨_, σ, _, rfl, rfl, fr.rf, f0, h.s0⟩
  rw [if_neg b0]
  by_cases b1 : nI n ≤ b
  · rw [if_pos b1, pitch_o h18 (.inr b1), bp_some, h0 (.inr b1), bd_some, if_pos rfl]
    exact ⟨_, σ, _, rfl, rfl, fr.rf, f0, h.s0⟩
  rw [if_neg b1]
  obtain ⟨q, hq, rfl⟩ := nI_of b0
  have hqn : q < n := by
    rcases Nat.lt_or_ge q n with z | z
    · exact z
    · exact absurd (nI_le z hq) b1
  obtain ⟨σ', p1, p2, p3, p4⟩ := tree_C hch ht hk hk3
  obtain ⟨d, d1, d2, d3, d4, d5, d6⟩ := p4.2.2 q hqn
  have hc0 : C_CG_chord 8000 σ (nI k) (nI q) = some (sC q (d.1 - 26), σ') := by
    unfold C_CG_chord C_Chart_hasSlot
    rw [q1, bp_some, if_neg (by decide), h18, if_neg b0, if_neg b1, bp_some, if_neg (by decide), p1, bp_some, gd_nI (by omega) (by decide), nI_clamp hq, d5]
  obtain ⟨hpe, hpo⟩ := hch.2.2.2.2.1 q hqn
  rw [pitch_C h18 n2 hqn, bp_some, hc0, bd_some, gd_nI (by omega) (by decide), nI_clamp hq, ← hpe]
  have g0 : gCT σ' (sI τ 0 0 0) := gCT.now hch p2 fr.rf hk3 p3 p4
  rcases hpo with hpo | ⟨p, hp, hpo⟩
  · rw [hpo, if_pos rfl, if_neg (by decide)]
    exact ⟨_, σ', _, rfl, rfl, p2, f0, g0⟩
  rw [hpo, if_neg (nI_nm1 (by omega)), if_pos (show (0 : Int32) ≤ nI p from nI_pos' (by omega)), if_neg d4, gd_nI (by omega) (by decide), lt_is]
  obtain ⟨τ2, s1, s2⟩ := symbolAt_M hch hk hqn d1
  have hch2 := hch.kM (s2.wk (by decide))
  have hh := itM_hi (show ¬ d.1 < 26 by omega) d3
  have hv := (hch2.2.1.2.2 q (d.1 - 26) hqn (by omega)).1
  rw [show 26 + (d.1 - 26) = d.1 by omega] at hv
  rw [s1, bd_some, show (24 : Int32) = nI 24 from rfl, nI_mul, nI_add, gd_nI (by omega) (by decide), nI_clamp (by omega), hv, lt_is]
  obtain ⟨c, hc, hcs⟩ := (hch.1.2.2.2.2 q (d.1 - 26) hqn (by omega)).resolve_left d4
  obtain ⟨w1, w2, w3⟩ := cs_ok (c % 12) (by omega) (c / 12) (by omega)
  rw [hcs, show (12 : Int32) = nI 12 from rfl, pk_rem (by omega) (by decide) (by decide), pk_div (by omega) (by decide) (by decide), w1, w2, bp_some, bp_some, pk_rem (by omega) (by decide) (by decide), (mbit w3 (show p % 12 < 12 by omega)).1, (mbit w3 (show p % 12 < 12 by omega)).2]
  have f2 : fr SM0 (sI τ 0 0 0) τ2 := s2.wk (by decide)
  have gE : gCT σ' τ2 := gCT.now hch p2 f2 hk3 p3 p4
  have hbit : csN (c % 12) (c / 12) / 2 ^ (p % 12) % 2 = 0 ∨ csN (c % 12) (c / 12) / 2 ^ (p % 12) % 2 = 1 := by omega
  rcases hbit with hb | hb
  · rw [hb, if_pos (show nI 0 = 0 from rfl), if_neg (show ¬ nI 0 = 1 by decide)]
    have hpc : ∀ i, i < n → okp (τ2.1 30 i) := fun i hi => by
      have := hch2.2.2.2.2.1 i hi
      rw [← this.1]; exact this.2
    have hch3 := hch.kC p2
    have h18' := hch3.2.2.1.1
    have e30 : ∀ i, i < n → σ'.1 114 i = τ2.1 30 i := fun i hi => ((hch2.kC p2).2.2.2.2.1 i hi).1
    have hprev : C_Chart_pitchAt σ' (nI q - 1) = some (prv (τ2.1 30) q) := by
      unfold prv
      by_cases c0 : q = 0
      · rw [c0, if_pos rfl, pitch_o h18' (.inl (by decide))]
      · rw [if_neg c0, nI_pred' (by omega), pitch_C h18' n2 (by omega), e30 _ (by omega)]
    have hnext : C_Chart_pitchAt σ' (nI q + 1) = some (nxt n (τ2.1 30) q) := by
      unfold nxt
      rw [nI_1]
      by_cases c0 : q + 1 < n
      · rw [if_pos c0, pitch_C h18' n2 c0, e30 _ c0]
      · rw [if_neg c0, pitch_o h18' (.inr (nI_le (by omega) (by omega)))]
    obtain ⟨r, r1, r2⟩ := b115_is (N := 8000) (τ := τ2) hch2.2.2.1.2.1 n2 hpc hqn (y := nI p) rfl
    rw [hprev, bp_some, hnext, bp_some, r1, bp_some]
    refine ⟨r, σ', τ2, rfl, ?_, p2, f0.tr f2, gE⟩
    rw [← r2]
    by_cases c0 : q = 0
    · rw [c0, if_pos (show nI 0 ≤ 0 by decide)]
      rfl
    · have hP : prv (τ2.1 30) q = τ2.1 30 (q - 1) := by unfold prv; rw [if_neg c0]
      have hpn := (hpc (q - 1) (by omega)).neg
      rw [if_neg (show ¬ nI q ≤ 0 from nI_nle (by omega) (by omega)), if_neg (show ¬ nI q ≤ 0 from nI_nle (by omega) (by omega)), nI_pred' (by omega), gd_nI (by omega) (by decide), nI_clamp (by omega), hP]
      by_cases c1 : τ2.1 30 (q - 1) = -1
      · rw [if_pos (hpn.mpr c1), if_pos c1]
      · rw [if_neg (fun z => c1 (hpn.mp z)), if_neg c1]
  · rw [hb, if_neg (show ¬ nI 1 = 0 by decide), if_pos (show nI 1 = 1 from rfl)]
    exact ⟨_, σ', τ2, rfl, rfl, p2, f0.tr f2, gE⟩

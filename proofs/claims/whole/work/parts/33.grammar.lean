/-! grammar() -/
def gGr (L : List rl) (rk : Nat → Nat) (f80 f81 f82 f83 f84 f85 : Nat → Int32) : Prop := f85 0 = nI L.length ∧ (∀ r, r < L.length → f80 r = nI (L.getD r z0).1 ∧ f81 r = nI (L.getD r z0).2.1 ∧ f82 r = oY (L.getD r z0).2.2.1 ∧ f83 r = nI (L.getD r z0).2.2.2.1) ∧ orC (ordL L.length (fun r => (L.getD r z0).1) rk) f84
def gGm (L : List rl) (g10 g11 g12 g13 g14 : Nat → Int32) : Prop := g10 0 = nI L.length ∧ ∀ r, r < L.length → g11 r = nI (L.getD r z0).1 ∧ g12 r = nI (itM (L.getD r z0).2.1) ∧ g13 r = oM (L.getD r z0).2.2.1 ∧ g14 r = nI (L.getD r z0).2.2.2.1
def gGram (f80 f81 f82 f83 f84 f85 g10 g11 g12 g13 g14 : Nat → Int32) : Prop := ∃ L rk, gL L rk ∧ gGr L rk f80 f81 f82 f83 f84 f85 ∧ gGm L g10 g11 g12 g13 g14
theorem copy_M {L : List rl} (hok : okL L) : ∀ (m i f : Nat) (τ : St), i + m = L.length → m + 1 ≤ f → foM L τ → τ.1 10 0 = nI L.length → (∀ r, r < i → τ.1 11 r = nI (L.getD r z0).1 ∧ τ.1 12 r = nI (itM (L.getD r z0).2.1) ∧ τ.1 13 r = oM (L.getD r z0).2.2.1 ∧ τ.1 14 r = nI (L.getD r z0).2.2.2.1) →
    ∃ τ', fr [11, 12, 13, 14] τ τ' ∧ M_grammar_l133 2000 f τ (nI i) = some (nI L.length, τ') ∧ ∀ r, r < L.length → τ'.1 11 r = nI (L.getD r z0).1 ∧ τ'.1 12 r = nI (itM (L.getD r z0).2.1) ∧ τ'.1 13 r = oM (L.getD r z0).2.2.1 ∧ τ'.1 14 r = nI (L.getD r z0).2.2.2.1 := by
  have hL := hok.1
  intro m
  induction m with
  | zero =>
    intro i f τ hi hf hfo e hd
    obtain ⟨f, rfl⟩ : ∃ k, f = k + 1 := ⟨f - 1, by omega⟩
    unfold M_grammar_l133
    rw [e, if_pos (nI_le (by omega) (by omega))]
    exact ⟨τ, fr.rf, rfl, fun r hr => hd r (by omega)⟩
  | succ m ih =>
    intro i f τ hi hf hfo e hd
    obtain ⟨f, rfl⟩ : ∃ k, f = k + 1 := ⟨f - 1, by omega⟩
    obtain ⟨h1, h2, h3, h4, h5⟩ := hfo i (by omega)
    unfold M_grammar_l133
    rw [e, if_neg (nI_ge (by omega) (by omega))]
    simp only [gd_nI (show i < 61 by omega) (show 61 < 2 ^ 31 by decide), gd_nI (show i < 60 by omega) (show 60 < 2 ^ 31 by decide), lt_is, nI_clamp (show i < 2 ^ 31 by omega), nI_1]
    have := ih (i + 1) f (sI (sI (sI (sI τ 11 i (τ.1 16 i)) 12 i (τ.1 17 i)) 13 i (τ.1 18 i)) 14 i (τ.1 19 i)) (by omega) (by omega) hfo e (fun r hr => by
      simp only [sI_1]
      by_cases q : r = i
      · subst q
        simpa using ⟨h1, h2, h3, h4⟩
      · simpa [q] using hd r (by omega))
    obtain ⟨τ', f1, f2, f3⟩ := this
    exact ⟨τ', ((((fr.sI (by decide)).tr (fr.sI (by decide))).tr (fr.sI (by decide))).tr (fr.sI (by decide))).tr f1, f2, f3⟩
theorem bec5 (σ : St) : ∃ σ', C_Grammar_become_5 σ = some σ' ∧ fr [80, 81, 82, 83, 84, 85] σ σ' ∧ σ'.1 85 0 = σ.1 149 0 ∧ ∀ r, r < 60 → σ'.1 80 r = σ.1 144 r ∧ σ'.1 81 r = σ.1 145 r ∧ σ'.1 82 r = σ.1 146 r ∧ σ'.1 83 r = σ.1 147 r ∧ σ'.1 84 r = σ.1 148 r := by
  refine ⟨_, rfl, ((((((fr.sC (by decide)).tr (fr.sC (by decide))).tr (fr.sC (by decide))).tr (fr.sC (by decide))).tr (fr.sC (by decide))).tr (fr.sI (by decide))), rfl, fun r hr => ?_⟩
  have cp : ∀ (f g : Nat → Int32), va_cpy f g 0 0 60 r = f r := fun f g => by
    rw [pk_cpy_in (Nat.zero_le _) (by omega)]; congr 1; omega
  exact ⟨cp _ _, cp _ _, cp _ _, cp _ _, cp _ _⟩
abbrev SCg : List Nat := [65, 80, 81, 82, 83, 84, 85, 97, 98, 99, 144, 145, 146, 147, 148, 149]
abbrev S1g : List Nat := [65, 97, 98, 99, 144, 145, 146, 147, 148, 149]
abbrev S2g : List Nat := [0, 5, 15, 16, 17, 18, 19, 20, 21, 22, 23]
abbrev SMg : List Nat := [0, 5, 10, 11, 12, 13, 14, 15, 16, 17, 18, 19, 20, 21, 22, 23]
theorem gr_out {τ : St} {q : Nat} (hq : q ≤ 800) (e : τ.1 22 0 = nI q) : M_grammar_b103 2000 τ = some (-2 - nI q, sI τ 5 0 0) := by
  unfold M_grammar_b103
  have : (sI τ 5 0 0).1 22 0 = nI q := e
  rw [lt_is, this, if_neg (nI_pos (by omega))]
theorem rgF_lt {L : List rl} {W : MX} (hok : okL L) : ∀ m r q, r + m ≤ L.length → rgF L W m r = some q → q < 800 := by
  intro m
  induction m with
  | zero => intro r q _ h; cases h
  | succ m ih =>
    intro r q hr h
    unfold rgF at h
    by_cases hc : (isU (L.getD r z0) && W (L.getD r z0).2.1 (L.getD r z0).1) = true
    · rw [if_pos hc] at h; cases h; exact (hok.2 r (by omega)).2.2.2.2
    · rw [if_neg hc] at h; exact ih (r + 1) q (by omega) h
set_option maxHeartbeats 4000000 in
theorem k_grammar {σ τ : St} (hd : gDraft (σ.1 64) (σ.1 65) (τ.1 4) (τ.1 5)) (hg : gGram (σ.1 80) (σ.1 81) (σ.1 82) (σ.1 83) (σ.1 84) (σ.1 85) (τ.1 10) (τ.1 11) (τ.1 12) (τ.1 13) (τ.1 14)) : ∃ (n1 n2 : Nat) (r : Int32) (σ' τ' : St), C_CG_grammar n1 σ = some (r, σ') ∧ M_grammar n2 τ = some (r, τ') ∧ gDraft (σ'.1 64) (σ'.1 65) (τ'.1 4) (τ'.1 5) ∧ gGram (σ'.1 80) (σ'.1 81) (σ'.1 82) (σ'.1 83) (σ'.1 84) (σ'.1 85) (τ'.1 10) (τ'.1 11) (τ'.1 12) (τ'.1 13) (τ'.1 14) ∧ fr SCg σ σ' ∧ fr SMg τ τ' := by
  refine ⟨2000, 2000, ?_⟩
  obtain ⟨d, hd8, d1, d2, d3⟩ := hd
  obtain ⟨oc, hoc⟩ : ∃ oc : Nat → Nat, ∀ i, i < d → oc i < 256 ∧ σ.1 64 i &&& 255 = nI (oc i) ∧ τ.1 4 i = nI (oc i) := by
    refine ⟨fun i => (τ.1 4 i).toNatClampNeg, fun i hi => ?_⟩
    obtain ⟨o, o1, o2, o3⟩ := d3 i hi
    have : (τ.1 4 i).toNatClampNeg = o := by rw [o3, nI_clamp (by omega)]
    show (τ.1 4 i).toNatClampNeg < 256 ∧ σ.1 64 i &&& 255 = nI (τ.1 4 i).toNatClampNeg ∧ τ.1 4 i = nI (τ.1 4 i).toNatClampNeg
    rw [this]
    exact ⟨o1, o2, o3⟩
  have tx : TX d oc (σ.1 64) (σ.1 65) := ⟨hd8, d1, fun i hi => ⟨(hoc i hi).1, (hoc i hi).2.1⟩⟩
  have ty : TY d oc (τ.1 4) (τ.1 5) := ⟨hd8, d2, fun i hi => ⟨(hoc i hi).1, (hoc i hi).2.2⟩⟩
  have ok0 : okL [] := ⟨by decide, fun r hr => by cases hr⟩
  -- the class reads
  obtain ⟨σ1, hf1, hc⟩ := all_C (d := d) (oc := oc) 61 2000 0 [] (sI (sI σ 99 0 0) 149 0 0) tx ok0 (Nat.zero_le _) rfl rfl (fun r hr => by cases hr) rfl (by decide)
  have hfr1 : fr S1g σ σ1 := (((fr.sI (by decide)).tr (fr.sI (by decide))).tr hf1).wk (by decide)
  -- the reference reads
  have τ7f : fr S2g τ (sI (sI (sI (sI τ 0 0 0) 21 0 0) 22 0 (-1)) 15 0 0) := (((fr.sI (by decide)).tr (fr.sI (by decide))).tr (fr.sI (by decide))).tr (fr.sI (by decide))
  have hmr : ∃ τ1, fr S2g τ τ1 ∧ match allP d oc 61 0 [] with
      | .inl q => M_grammar 2000 τ = M_grammar_b103 2000 τ1 ∧ τ1.1 22 0 = nI q
      | .inr L' => (M_grammar 2000 τ = bp (M_findRings 2000 τ1) fun σ8 => M_grammar_b103 2000 σ8) ∧ foM L' τ1 ∧ τ1.1 15 0 = nI L'.length ∧ τ1.1 22 0 = -1 := by
    have bl := blanks_M (d := d) (oc := oc) (d - 0) 0 2000 (sI (sI (sI (sI τ 0 0 0) 21 0 0) 22 0 (-1)) 15 0 0) ty rfl (Nat.zero_le _) (by omega) rfl
    have hs := skp_le d oc (Nat.zero_le d)
    unfold M_grammar
    rw [lt_is, lt_is, lt_is, lt_is]
    unfold M_blanks
    rw [bl, bp_some]
    have e21 : (sI (sI (sI (sI (sI τ 0 0 0) 21 0 0) 22 0 (-1)) 15 0 0) 21 0 (nI (skp d oc 0))).1 21 0 = nI (skp d oc 0) := rfl
    have e5 : (sI (sI (sI (sI (sI τ 0 0 0) 21 0 0) 22 0 (-1)) 15 0 0) 21 0 (nI (skp d oc 0))).1 5 0 = nI d := d2
    have e22 : (sI (sI (sI (sI (sI τ 0 0 0) 21 0 0) 22 0 (-1)) 15 0 0) 21 0 (nI (skp d oc 0))).1 22 0 = -1 := rfl
    rw [e21, e5]
    by_cases hend : skp d oc 0 < d
    · rw [if_neg (neq d (by omega) (by omega) (by omega))]
      obtain ⟨τ1, a1, a2⟩ := all_M (d := d) (oc := oc) 61 2000 0 [] (sI (sI (sI (sI (sI τ 0 0 0) 21 0 0) 22 0 (-1)) 15 0 0) 21 0 (nI (skp d oc 0))) ty ok0 (Nat.zero_le _) rfl rfl rfl (fun r hr => by cases hr) rfl (by decide) (Or.inl hend)
      exact ⟨τ1, (τ7f.tr (fr.sI (by decide))).tr (a1.wk (by decide)), a2⟩
    · have ea : allP d oc 61 0 [] = .inl (skp d oc 0) := by
        have er : ruleP d oc 0 = .inl (skp d oc 0) := by unfold ruleP; rw [cI_f (fun z => hend z.1)]
        show cI (¬ skp d oc 0 < d ∧ 0 < ([] : List rl).length) _ (cI (([] : List rl).length = 60) _ (match ruleP d oc 0 with
          | .inl q => Sum.inl q
          | .inr (t, p') => allP d oc 60 p' ([] ++ [t]))) = _
        rw [cI_f (fun z => absurd z.2 (by decide)), cI_f (by decide), er]
      rw [ea, if_pos (by congr 1; omega), stop_M e22, bp_some]
      refine ⟨sI (sI (sI (sI (sI (sI τ 0 0 0) 21 0 0) 22 0 (-1)) 15 0 0) 21 0 (nI (skp d oc 0))) 22 0 (nI (skp d oc 0)), (τ7f.tr (fr.sI (by decide))).tr (fr.sI (by decide)), ?_, rfl⟩
      unfold M_grammar_l43
      have : (sI (sI (sI (sI (sI (sI τ 0 0 0) 21 0 0) 22 0 (-1)) 15 0 0) 21 0 (nI (skp d oc 0))) 22 0 (nI (skp d oc 0))).1 22 0 = nI (skp d oc 0) := rfl
      rw [this, if_pos (nI_pos' (by omega)), if_pos (nI_pos' (by omega))]
  obtain ⟨τ1, gm1, gm2⟩ := hmr
  have keepG : ∀ σ' τ', fr S1g σ σ' → fr S2g τ τ' → gGram (σ'.1 80) (σ'.1 81) (σ'.1 82) (σ'.1 83) (σ'.1 84) (σ'.1 85) (τ'.1 10) (τ'.1 11) (τ'.1 12) (τ'.1 13) (τ'.1 14) := by
    intro σ' τ' h1 h2
    rw [h1.1 80 (by decide), h1.1 81 (by decide), h1.1 82 (by decide), h1.1 83 (by decide), h1.1 84 (by decide), h1.1 85 (by decide), h2.1 10 (by decide), h2.1 11 (by decide), h2.1 12 (by decide), h2.1 13 (by decide), h2.1 14 (by decide)]
    exact hg
  have rd : C_Reader_readAll 2000 σ = C_Reader_readAll_l15 2000 2000 (sI (sI σ 99 0 0) 149 0 0) (nI ([] : List rl).length) := rfl
  -- a fault
  have bad : ∀ (q : Nat) (σ2 τ2 : St), q ≤ 800 → fr S1g σ σ2 → fr S2g τ τ2 → C_Reader_readAll 2000 σ = some (nI q, σ2) → M_grammar 2000 τ = M_grammar_b103 2000 τ2 → τ2.1 22 0 = nI q → ∃ (r : Int32) (σ' τ' : St), C_CG_grammar 2000 σ = some (r, σ') ∧ M_grammar 2000 τ = some (r, τ') ∧ gDraft (σ'.1 64) (σ'.1 65) (τ'.1 4) (τ'.1 5) ∧ gGram (σ'.1 80) (σ'.1 81) (σ'.1 82) (σ'.1 83) (σ'.1 84) (σ'.1 85) (τ'.1 10) (τ'.1 11) (τ'.1 12) (τ'.1 13) (τ'.1 14) ∧ fr SCg σ σ' ∧ fr SMg τ τ' := by
    intro q σ2 τ2 hq h1 h2 c1 m1 m2
    refine ⟨-2 - nI q, sI σ2 65 0 0, sI τ2 5 0 0, ?_, ?_, ⟨0, by decide, rfl, rfl, fun i hi => absurd hi (Nat.not_lt_zero i)⟩, keepG _ _ (h1.tr (fr.sI (by decide))) (h2.tr (fr.sI (by decide))), (h1.tr (fr.sI (by decide))).wk (by decide), (h2.tr (fr.sI (by decide))).wk (by decide)⟩
    · unfold C_CG_grammar
      rw [c1, bd_some, lt_is, if_neg (nI_nm1 (by omega))]
    · rw [m1, gr_out hq m2]
  cases hA : allP d oc 61 0 [] with
  | inl q =>
    rw [hA] at hc gm2
    exact bad q σ1 τ1 hc.2 hfr1 gm1 (rd.trans hc.1) gm2.1 gm2.2
  | inr L =>
    rw [hA] at hc gm2
    obtain ⟨c1, c2, c3, hok, hpos⟩ := hc
    obtain ⟨m1, m2, m3, m4⟩ := gm2
    have hL := hok.1
    obtain ⟨σ2, r1, r2, r3⟩ := reach_C hok c2 c3
    have fo2 : foC L σ2 := fun r hr => by
      rw [r1.1 144 (by decide), r1.1 145 (by decide), r1.1 146 (by decide), r1.1 147 (by decide), r1.1 97 (by decide)]
      exact c2 r hr
    have e2 : σ2.1 149 0 = nI L.length := by rw [r1.1 149 (by decide)]; exact c3
    have rp := ring_C hok fo2 e2 r3 L.length 0 2000 (by omega) (by omega)
    obtain ⟨τ2, s1, s2, s3⟩ := rings_M hok m2 m3 m4
    have m1' : M_grammar 2000 τ = M_grammar_b103 2000 τ2 := by rw [m1, s2, bp_some]
    have hf2 : fr S1g σ σ2 := hfr1.tr (r1.wk (by decide))
    have hg2 : fr S2g τ τ2 := gm1.tr (s1.wk (by decide))
    have rp' : C_Reader_ringPlace 2000 σ2 = some (rgI (rgF L (wI 26 (edg L L.length)) L.length 0)) := rp
    cases hR : rgF L (wI 26 (edg L L.length)) L.length 0 with
    | some q =>
      rw [hR] at rp' s3
      have hq := rgF_lt hok L.length 0 q (by omega) hR
      refine bad q σ2 τ2 (by omega) hf2 hg2 ?_ m1' s3
      rw [rd, c1]
      unfold finC
      rw [r2, bp_some, rp', bp_some]
      show (if nI q = -1 then _ else _) = _
      rw [if_neg (nI_nm1 (by omega))]; rfl
    | none =>
      rw [hR] at rp' s3
      have hgl := rank_ok hok hR
      obtain ⟨σ3, t1, t2, t3⟩ := arr_C hok hgl fo2 e2 r3
      have hf3 : fr S1g σ σ3 := hf2.tr (t1.wk (by decide))
      obtain ⟨σ4, u1, u2, u3, u4⟩ := bec5 (sI σ3 65 0 0)
      have fo3 : foC L σ3 := fun r hr => by
        rw [t1.1 144 (by decide), t1.1 145 (by decide), t1.1 146 (by decide), t1.1 147 (by decide), t1.1 97 (by decide)]
        exact fo2 r hr
      have e3 : (sI σ3 65 0 0).1 149 0 = nI L.length := by show σ3.1 149 0 = _; rw [t1.1 149 (by decide)]; exact e2
      have foM2 : foM L (sI (sI τ2 5 0 0) 10 0 (nI L.length)) := fun r hr => by
        show τ2.1 16 r = _ ∧ τ2.1 17 r = _ ∧ τ2.1 18 r = _ ∧ τ2.1 19 r = _ ∧ τ2.1 20 r = _
        rw [s1.1 16 (by decide), s1.1 17 (by decide), s1.1 18 (by decide), s1.1 19 (by decide), s1.1 20 (by decide)]
        exact m2 r hr
      obtain ⟨τ3, v1, v2, v3⟩ := copy_M hok L.length 0 2000 (sI (sI τ2 5 0 0) 10 0 (nI L.length)) (by omega) (by omega) foM2 rfl (fun r hr => absurd hr (Nat.not_lt_zero r))
      have hlen : (ordL L.length (fun r => (L.getD r z0).1) (rkW (wI 26 (edg L L.length)))).length = L.length := ordL_len (fun r hr => hgl.2.1 _ (hok.2 r hr).1)
      refine ⟨nI L.length, σ4, τ3, ?_, ?_, ?_, ?_, ((hf3.tr (fr.sI (by decide))).wk (by decide)).tr (u2.wk (by decide)), (((hg2.tr (fr.sI (by decide))).wk (S' := SMg) (by decide)).tr (fr.sI (by decide))).tr (v1.wk (by decide))⟩
      · unfold C_CG_grammar
        rw [rd, c1]
        unfold finC
        rw [r2, bp_some, rp', bp_some]
        show bd (if (-1 : Int32) = -1 then _ else _) _ = _
        rw [if_pos rfl, t2, bp_some, bd_some, lt_is]
        show (if (-1 : Int32) = -1 then _ else _) = _
        rw [if_pos rfl, u1, bp_some, u3, e3]
      · rw [m1']
        unfold M_grammar_b103
        have e22 : (sI τ2 5 0 0).1 22 0 = -1 := s3
        have e15 : (sI τ2 5 0 0).1 15 0 = nI L.length := by show τ2.1 15 0 = _; rw [s1.1 15 (by decide)]; exact m3
        rw [lt_is, e22, if_pos (by decide), lt_is, e15]
        exact v2
      · have a1 : σ4.1 65 0 = 0 := by rw [u2.1 65 (by decide)]; rfl
        have a2 : τ3.1 5 0 = 0 := by rw [v1.1 5 (by decide)]; rfl
        exact ⟨0, by decide, a1, a2, fun i hi => absurd hi (Nat.not_lt_zero i)⟩
      · refine ⟨L, rkW (wI 26 (edg L L.length)), hgl, ⟨by rw [u3, e3], fun r hr => ?_, fun k hk => ?_⟩, by rw [v1.1 10 (by decide)]; rfl, v3⟩
        · obtain ⟨w1, w2, w3, w4, -⟩ := u4 r (by omega)
          obtain ⟨x1, x2, x3, x4, -⟩ := fo3 r hr
          rw [w1, w2, w3, w4]
          exact ⟨x1, x2, x3, x4⟩
        · have hk' := hk
          rw [hlen] at hk'
          obtain ⟨-, -, -, -, w5⟩ := u4 k (by omega)
          rw [w5]
          exact t3 k hk

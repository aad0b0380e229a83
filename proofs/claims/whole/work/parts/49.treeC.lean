/-! the class walks a tree -/
abbrev ndR (T : TT) (e : IT) : Int32 := if e.1 < 26 then nI (kK T e / 32768) else -1
abbrev ndC (sC : SS) (e : IT) : Int32 := if e.1 < 26 then -1 else sC e.2.1 (e.1 - 26)
abbrev stC (σ : St) (s : List IT) : Prop := stk (σ.1 136) (σ.1 137) (σ.1 138) (σ.1 139) (fun x => x) s
abbrev STk : List Nat := [136, 137, 138, 139, 140]
theorem push_C {σ : St} {s : List IT} (h : stC σ s) (h0 : σ.1 140 0 = nI s.length) (hs : s.length < 24) (x i j k : Nat) : ∃ σ', C_Tree_push σ (nI x) (nI i) (nI j) (nI k) = some σ' ∧ fr STk σ σ' ∧ σ'.1 140 0 = nI (s.length + 1) ∧ stC σ' ((x, i, j, k) :: s) := by
  unfold C_Tree_push
  rw [h0, if_neg (show ¬ (24 : Int32) ≤ nI s.length from nge 24 hs (by decide)), gd_nI hs (by decide), lt_is, nI_clamp (by omega)]
  have e1 : (sI σ 136 s.length (nI x)).1 140 0 = nI s.length := h0
  rw [e1, gd_nI hs (by decide), lt_is, nI_clamp (by omega)]
  have e2 : (sI (sI σ 136 s.length (nI x)) 137 s.length (nI i)).1 140 0 = nI s.length := h0
  rw [e2, gd_nI hs (by decide), lt_is, nI_clamp (by omega)]
  have e3 : (sI (sI (sI σ 136 s.length (nI x)) 137 s.length (nI i)) 138 s.length (nI j)).1 140 0 = nI s.length := h0
  rw [e3, gd_nI hs (by decide), lt_is, nI_clamp (by omega)]
  have e4 : (sI (sI (sI (sI σ 136 s.length (nI x)) 137 s.length (nI i)) 138 s.length (nI j)) 139 s.length (nI k)).1 140 0 = nI s.length := h0
  rw [e4, lt_is, nI_1]
  refine ⟨_, rfl, ((((fr.sI (by decide)).tr (fr.sI (by decide))).tr (fr.sI (by decide))).tr (fr.sI (by decide))).tr (fr.sI (by decide)), by simp [sI_1], ?_⟩
  exact stk.put h x i j k
theorem kf15 {r cut p q : Nat} (h1 : r < 60) (h2 : cut < 32) (h3 : p < 32) (h4 : q < 32) : keyN r cut p q / 2 ^ 15 % 2 ^ 6 = r := by unfold keyN; omega
theorem kf10 {r cut p q : Nat} (h2 : cut < 32) (h3 : p < 32) (h4 : q < 32) : keyN r cut p q / 2 ^ 10 % 2 ^ 5 = cut := by unfold keyN; omega
theorem kf5 {r cut p q : Nat} (h3 : p < 32) (h4 : q < 32) : keyN r cut p q / 2 ^ 5 % 2 ^ 5 = p := by unfold keyN; omega
theorem kf0 {r cut p q : Nat} (h4 : q < 32) : keyN r cut p q % 32 = q := by unfold keyN; omega
theorem flds (e : En) {r cut p q : Nat} (h : e.2 = keyN r cut p q) (h1 : r < 60) (h2 : cut < 32) (h3 : p < 32) (h4 : q < 32) : C_Chart_ruleOf (ent e) = some (nI r) ∧ C_Chart_partOf (ent e) = some (nI cut) ∧ C_Chart_rankOneOf (ent e) = some (nI p) ∧ C_Chart_rankTwoOf (ent e) = some (nI q) := by
  have hl : e.2 < 2097152 := by rw [h]; exact keyN_lt h1 h2 h3 h4
  refine ⟨?_, ?_, ?_, ?_⟩
  · unfold C_Chart_ruleOf
    rw [ent_field e hl 15 6 63 (by omega) (by decide) 15 rfl, h, kf15 h1 h2 h3 h4]
  · unfold C_Chart_partOf
    rw [ent_field e hl 10 5 31 (by omega) (by decide) 10 rfl, h, kf10 h2 h3 h4]
  · unfold C_Chart_rankOneOf
    rw [ent_field e hl 5 5 31 (by omega) (by decide) 5 rfl, h, kf5 h3 h4]
  · unfold C_Chart_rankTwoOf
    rw [ent_low e hl, h, kf0 h4]
theorem pushParts_C {n : Nat} {L : List rl} {rk : Nat → Nat} {sC sP : SS} {T : TT} {σ τ : St} (h : chO n L rk sC sP T σ τ) {e : IT} (ho : okIt n sC T e) (he : e.1 < 26) {s : List IT} {i : Nat} (hc : cov n (e :: s) i) (hs : stC σ s) (h0 : σ.1 140 0 = nI s.length) :
    ∃ σ', C_Tree_pushParts σ (ent ((T e.1 e.2.1 e.2.2.1).2.getD e.2.2.2 e0)) (nI e.2.1) (nI e.2.2.1) = some σ' ∧ fr STk σ σ' ∧ σ'.1 140 0 = nI (kid L T e ++ s).length ∧ stC σ' (kid L T e ++ s) := by
  have hP := h.P
  have hn := h.1.2.1
  have hL := h.1.2.2.2.1.1.1
  have hcv := cov_len ((kid_step hP ho hc).2.2.1 he)
  obtain ⟨r, cut, p, q, hK, hr, l2, l3, l4, hA, hd⟩ := kid_ok hP ho he
  obtain ⟨f1, f2, f3, f4⟩ := flds ((T e.1 e.2.1 e.2.2.1).2.getD e.2.2.2 e0) hK (by omega) l2 l3 l4
  obtain ⟨-, v161, v162, -⟩ := h.2.1.1.1 r hr
  have hi := ho.2.1
  have hj := ho.2.2.1
  unfold C_Tree_pushParts
  rw [f1, bp_some, h.2.2.2.2.2, if_pos (nI_lt hr (by omega)), f2, bp_some, nI_add, lt_is, gd_nI (by omega) (by decide), nI_clamp (by omega), v161, v162]
  rcases hd with ⟨c1, c2, c3, c4⟩ | ⟨c1, c2, c3, c4, c5, c6⟩
  · rw [c3] at hcv ⊢
    rw [if_pos (show oY (L.getD r z0).2.2.1 = -1 by unfold oY; rw [if_pos c1]), gd_nI (by omega) (by decide), f3, bp_some]
    obtain ⟨σ', p1, p2, p3, p4⟩ := push_C hs h0 (by have : s.length + 1 + i ≤ n := hcv; omega) (L.getD r z0).2.1 e.2.1 e.2.2.1 p
    rw [p1, bp_some]
    exact ⟨σ', rfl, p2, p3, p4⟩
  · rw [c4] at hcv ⊢
    have hcv : s.length + 1 + 1 + i ≤ n := hcv
    have hY := c6.1
    have hY : (L.getD r z0).2.2.1 < 96 := hY
    have ho1 : oY (L.getD r z0).2.2.1 = nI (L.getD r z0).2.2.1 := by unfold oY; rw [if_neg c1]
    rw [ho1, if_neg (nI_nm1 (by omega)), if_neg (nI_ge (by omega) (by omega)), if_neg (nI_nlt (by omega) (by omega)), gd_nI (by omega) (by decide), f4, bp_some]
    obtain ⟨σ1, p1, p2, p3, p4⟩ := push_C hs h0 (by omega) (L.getD r z0).2.2.1 (e.2.1 + cut) e.2.2.1 q
    rw [p1, bp_some, gd_nI (by omega) (by decide), f3, bp_some, p2.1 161 (by decide), v161, nI_pred' (by omega)]
    obtain ⟨σ2, q1, q2, q3, q4⟩ := push_C p4 p3 (by show s.length + 1 < 24; omega) (L.getD r z0).2.1 e.2.1 (e.2.1 + cut - 1) p
    rw [q1, bp_some]
    exact ⟨σ2, rfl, p2.tr q2, q3, q4⟩
abbrev STv : List Nat := [130, 131, 132, 133, 134, 135, 136, 137, 138, 139, 140]
abbrev STa : List Nat := [128, 129, 130, 131, 132, 133, 134, 135, 136, 137, 138, 139, 140]
theorem chO.kC {n : Nat} {L : List rl} {rk : Nat → Nat} {sC sP : SS} {T : TT} {σ σ' τ : St} (h : chO n L rk sC sP T σ τ) (hf : fr STa σ σ') : chO n L rk sC sP T σ' τ :=
  h.keep (fun c hc => ⟨hf.1 c (by revert c; decide), hf.2 c (by revert c; decide)⟩) (fun _ _ => ⟨rfl, rfl⟩)
/-- a node that is written, and the others that stay -/
def ndO (sC : SS) (T : TT) (σ : St) (v : Nat) (e : IT) : Prop := σ.1 130 v = ndR T e ∧ σ.1 131 v = nI e.2.1 ∧ σ.1 132 v = nI e.2.2.1 ∧ σ.1 133 v = ndC sC e
def ndS (σ σ' : St) (v : Nat) : Prop := ∀ t, t ≠ v → σ'.1 130 t = σ.1 130 t ∧ σ'.1 131 t = σ.1 131 t ∧ σ'.1 132 t = σ.1 132 t ∧ σ'.1 133 t = σ.1 133 t
theorem visit_C {n : Nat} {L : List rl} {rk : Nat → Nat} {sC sP : SS} {T : TT} {σ τ : St} (h : chO n L rk sC sP T σ τ) {e : IT} (ho : okIt n sC T e) {s : List IT} {i : Nat} (hc : cov n (e :: s) i) (hs : stC σ (e :: s)) (h0 : σ.1 140 0 = nI s.length) {v : Nat} (hv : v < 1246) :
    ∃ σ', C_Tree_visit σ (nI v) (nI s.length) = some σ' ∧ fr STv σ σ' ∧ σ'.1 140 0 = nI (kid L T e ++ s).length ∧ stC σ' (kid L T e ++ s) ∧ ndO sC T σ' v e ∧ ndS σ σ' v ∧ (e.1 < 26 → σ'.1 134 = σ.1 134 ∧ σ'.1 135 = σ.1 135) ∧ (¬ e.1 < 26 → σ'.1 134 = upd (σ.1 134) i (sC i (e.1 - 26)) ∧ σ'.1 135 = upd (σ.1 135) i (nI ((e.1 - 26) / 10 + 1))) := by
  have hn := h.1.2.1
  have hcl : s.length + 1 + i ≤ n := cov_len hc
  obtain ⟨⟨s1, s2, s3, s4⟩, hs'⟩ := hs
  have s1 : σ.1 136 s.length = nI e.1 := s1
  have hi := ho.2.1
  have hj := ho.2.2.1
  unfold C_Tree_visit
  rw [gd_nI (by omega) (by decide), nI_clamp (by omega), s1, lt_is, gd_nI (by omega) (by decide), s2, lt_is, gd_nI (by omega) (by decide), s3, lt_is, gd_nI hv (by decide), lt_is, gd_nI hv (by decide), lt_is, gd_nI hv (by decide), lt_is, gd_nI hv (by decide), lt_is, nI_clamp (by omega)]
  obtain ⟨σ1, hσ1⟩ : ∃ σ1, σ1 = sI (sI (sI (sI σ 131 v (nI e.2.1)) 132 v (nI e.2.2.1)) 130 v (-1)) 133 v (-1) := ⟨_, rfl⟩
  rw [← hσ1]
  have g1 : fr [130, 131, 132, 133] σ σ1 := by rw [hσ1]; exact (((fr.sI (by decide)).tr (fr.sI (by decide))).tr (fr.sI (by decide))).tr (fr.sI (by decide))
  have g2 : ndS σ σ1 v := fun t ht => by rw [hσ1]; simp [sI_1, ht]
  have g3 : σ1.1 130 v = -1 ∧ σ1.1 131 v = nI e.2.1 ∧ σ1.1 132 v = nI e.2.2.1 ∧ σ1.1 133 v = -1 := by rw [hσ1]; simp [sI_1]
  have hch : chO n L rk sC sP T σ1 τ := h.kC (g1.wk (by decide))
  have k139 : σ1.1 139 s.length = nI e.2.2.2 := by rw [g1.1 139 (by decide)]; exact s4
  by_cases he : e.1 < 26
  · rw [if_pos (show nI e.1 < (26 : Int32) from nI_lt he (by decide)), gd_nI (by omega) (by decide), size_C (T := T) hch.2.1.1 ho.1 hi hj hn (fun hx => (hch.2.2.2.1 e.1 e.2.1 e.2.2.1 hx hi hj).1), bp_some, k139]
    have hsz := szB h.P (x := e.1) hi hj
    have hk := ho.2.2.2
    have hrw : rwC e.1 e.2.1 e.2.2.1 < 7800 := rwC_lt he hi (by omega)
    have hk' : e.2.2.2 < (T e.1 e.2.1 e.2.2.1).2.length := by unfold szA at hk; rw [if_pos he] at hk; exact hk
    have hen : C_Chart_entryAt σ1 (nI e.1) (nI e.2.1) (nI e.2.2.1) (nI e.2.2.2) = some (ent ((T e.1 e.2.1 e.2.2.1).2.getD e.2.2.2 e0)) := by
      unfold C_Chart_entryAt
      rw [rowOf_C (by omega), bp_some, show (30 : Int32) = nI 30 from rfl, nI_mul, nI_add, gd_nI (by omega) (by decide), nI_clamp (by omega), Nat.mul_comm (rwC e.1 e.2.1 e.2.2.1) 30, ((hch.2.2.2.1 e.1 e.2.1 e.2.2.1 he hi hj).1.2.2.2 e.2.2.2 hk').1]
    obtain ⟨r, cut, p, q, hK, hr, l2, l3, l4, -, -⟩ := kid_ok h.P ho he
    have hL := h.1.2.2.2.1.1.1
    obtain ⟨f1, -, -, -⟩ := flds ((T e.1 e.2.1 e.2.2.1).2.getD e.2.2.2 e0) hK (by omega) l2 l3 l4
    rw [if_neg (nI_ge (by omega) (by omega)), gd_nI (by omega) (by decide), hen, bp_some, f1, bp_some, gd_nI hv (by decide), lt_is]
    have g4 : fr [130] σ1 (sI σ1 130 v (nI r)) := fr.sI (by decide)
    obtain ⟨σ2, p1, p2, p3, p4⟩ := pushParts_C (hch.kC (g4.wk (by decide))) ho he hc (hs'.of (fun t _ => by
      rw [g4.1 136 (by decide), g4.1 137 (by decide), g4.1 138 (by decide), g4.1 139 (by decide), g1.1 136 (by decide), g1.1 137 (by decide), g1.1 138 (by decide), g1.1 139 (by decide)]; exact ⟨rfl, rfl, rfl, rfl⟩)) (by rw [g4.1 140 (by decide), g1.1 140 (by decide)]; exact h0)
    rw [p1, bp_some]
    have hkr : kK T e / 32768 = r := by rw [hK]; unfold keyN; omega
    refine ⟨σ2, rfl, ((g1.wk (by decide)).tr (g4.wk (by decide))).tr (p2.wk (by decide)), p3, p4, ?_, fun t ht => ?_, fun _ => ⟨?_, ?_⟩, fun z => absurd he z⟩
    · unfold ndO
      rw [p2.1 130 (by decide), p2.1 131 (by decide), p2.1 132 (by decide), p2.1 133 (by decide), g4.1 131 (by decide), g4.1 132 (by decide), g4.1 133 (by decide)]
      refine ⟨?_, g3.2.1, g3.2.2.1, ?_⟩
      · rw [sI_1, if_pos rfl, if_pos rfl]; unfold ndR; rw [if_pos he, hkr]
      · rw [g3.2.2.2]; unfold ndC; rw [if_pos he]
    · rw [p2.1 130 (by decide), p2.1 131 (by decide), p2.1 132 (by decide), p2.1 133 (by decide), g4.1 131 (by decide), g4.1 132 (by decide), g4.1 133 (by decide)]
      have := g2 t ht
      refine ⟨?_, this.2⟩
      rw [sI_1, if_pos rfl, if_neg ht]; exact this.1
    · rw [p2.1 134 (by decide), g4.1 134 (by decide), g1.1 134 (by decide)]
    · rw [p2.1 135 (by decide), g4.1 135 (by decide), g1.1 135 (by decide)]
  · rw [if_neg (show ¬ nI e.1 < (26 : Int32) from nI_nlt (a := e.1) (b := 26) (by omega) (by have := ho.1; omega))]
    obtain ⟨hkd, hci, hcj, hcv⟩ := (kid_step h.P ho hc).2.2.2 he
    have h96 := ho.1
    have hco : C_Chart_chordOf σ1 (nI e.1) (nI e.2.1) = some (sC e.2.1 (e.1 - 26)) := by
      unfold C_Chart_chordOf
      rw [show (70 : Int32) = nI 70 from rfl, nI_mul, nI_add, show (26 : Int32) = nI 26 from rfl, pk_sub (by omega), gd_nI (by omega) (by decide), nI_clamp (by omega), show e.2.1 * 70 + e.1 - 26 = 70 * e.2.1 + (e.1 - 26) by omega, (hch.2.1.1.2 e.2.1 (e.1 - 26) (by omega) (by omega)).1]
    rw [hco, bp_some, gd_nI hv (by decide), lt_is, gd_nI hv (by decide), gd_nI (by omega) (by decide), lt_is, gd_nI (by omega) (by decide), lt_is, nI_clamp (show e.2.1 < 2 ^ 31 by omega), show (26 : Int32) = nI 26 from rfl, pk_sub (by omega), show (10 : Int32) = nI 10 from rfl, pk_div (by omega) (by decide) (by decide), nI_1, hkd]
    have k133 : (sI σ1 133 v (sC e.2.1 (e.1 - 26))).1 133 v = sC e.2.1 (e.1 - 26) := by rw [sI_1, if_pos rfl, if_pos rfl]
    rw [k133]
    have g5 : fr [133, 134, 135] σ1 (sI (sI (sI σ1 133 v (sC e.2.1 (e.1 - 26))) 134 e.2.1 (sC e.2.1 (e.1 - 26))) 135 e.2.1 (nI ((e.1 - 26) / 10 + 1))) := ((fr.sI (by decide)).tr (fr.sI (by decide))).tr (fr.sI (by decide))
    refine ⟨_, rfl, (g1.wk (by decide)).tr (g5.wk (by decide)), ?_, ?_, ?_, fun t ht => ?_, fun z => absurd z he, fun _ => ⟨?_, ?_⟩⟩
    · rw [g5.1 140 (by decide), g1.1 140 (by decide)]; exact h0
    · exact hs'.of (fun t _ => by
        rw [g5.1 136 (by decide), g5.1 137 (by decide), g5.1 138 (by decide), g5.1 139 (by decide), g1.1 136 (by decide), g1.1 137 (by decide), g1.1 138 (by decide), g1.1 139 (by decide)]; exact ⟨rfl, rfl, rfl, rfl⟩)
    · unfold ndO
      rw [g5.1 130 (by decide), g5.1 131 (by decide), g5.1 132 (by decide), g3.1, g3.2.1, g3.2.2.1]
      refine ⟨?_, rfl, rfl, ?_⟩
      · unfold ndR; rw [if_neg he]
      · unfold ndC; rw [if_neg he]; simp [sI_1]
    · rw [g5.1 130 (by decide), g5.1 131 (by decide), g5.1 132 (by decide)]
      have := g2 t ht
      refine ⟨this.1, this.2.1, this.2.2.1, ?_⟩
      rw [← this.2.2.2]
      simp [sI_1, ht]
    · have : (sI (sI (sI σ1 133 v (sC e.2.1 (e.1 - 26))) 134 e.2.1 (sC e.2.1 (e.1 - 26))) 135 e.2.1 (nI ((e.1 - 26) / 10 + 1))).1 134 = upd (σ1.1 134) e.2.1 (sC e.2.1 (e.1 - 26)) := rfl
      rw [this, g1.1 134 (by decide), hci]
    · have : (sI (sI (sI σ1 133 v (sC e.2.1 (e.1 - 26))) 134 e.2.1 (sC e.2.1 (e.1 - 26))) 135 e.2.1 (nI ((e.1 - 26) / 10 + 1))).1 135 = upd (σ1.1 135) e.2.1 (nI ((e.1 - 26) / 10 + 1)) := rfl
      rw [this, g1.1 135 (by decide), hci]

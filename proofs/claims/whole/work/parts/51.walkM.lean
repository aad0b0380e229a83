/-! the reference walks a tree -/
abbrev stM (τ : St) (s : List IT) : Prop := stk (τ.1 39) (τ.1 40) (τ.1 41) (τ.1 42) itM s
abbrev SMs : List Nat := [39, 40, 41, 42, 43]
abbrev SMw : List Nat := [39, 40, 41, 42, 43, 44, 45, 46, 47]
theorem later_M {τ : St} {s : List IT} (h : stM τ s) (h0 : τ.1 43 0 = nI s.length) (hs : s.length < 24) (x i j k : Nat) : ∃ τ', M_later τ (nI (itM x)) (nI i) (nI j) (nI k) = some τ' ∧ fr SMs τ τ' ∧ τ'.1 43 0 = nI (s.length + 1) ∧ stM τ' ((x, i, j, k) :: s) := by
  unfold M_later
  have hs' : s.length < 64 := by omega
  rw [h0, gd_nI hs' (by decide), lt_is, nI_clamp (by omega)]
  have e1 : (sI τ 39 s.length (nI (itM x))).1 43 0 = nI s.length := h0
  rw [e1, gd_nI hs' (by decide), lt_is, nI_clamp (by omega)]
  have e2 : (sI (sI τ 39 s.length (nI (itM x))) 40 s.length (nI i)).1 43 0 = nI s.length := h0
  rw [e2, gd_nI hs' (by decide), lt_is, nI_clamp (by omega)]
  have e3 : (sI (sI (sI τ 39 s.length (nI (itM x))) 40 s.length (nI i)) 41 s.length (nI j)).1 43 0 = nI s.length := h0
  rw [e3, gd_nI hs' (by decide), lt_is, nI_clamp (by omega)]
  have e4 : (sI (sI (sI (sI τ 39 s.length (nI (itM x))) 40 s.length (nI i)) 41 s.length (nI j)) 42 s.length (nI k)).1 43 0 = nI s.length := h0
  rw [e4, lt_is, nI_1]
  refine ⟨_, rfl, ((((fr.sI (by decide)).tr (fr.sI (by decide))).tr (fr.sI (by decide))).tr (fr.sI (by decide))).tr (fr.sI (by decide)), by simp [sI_1], ?_⟩
  exact stk.put h x i j k
theorem itM_lo {x : Nat} (h : x < 26) : itM x = x := by unfold itM; rw [if_pos h]
theorem itM_hi {x : Nat} (h : ¬ x < 26) (h9 : x < 96) : 110 ≤ itM x ∧ itM x < 180 ∧ (itM x - 100) / 10 = (x - 26) / 10 + 1 := by
  unfold itM
  rw [if_neg h]
  split <;> omega
theorem chO.kM {n : Nat} {L : List rl} {rk : Nat → Nat} {sC sP : SS} {T : TT} {σ τ τ' : St} (h : chO n L rk sC sP T σ τ) (hf : fr (0 :: SMw) τ τ') : chO n L rk sC sP T σ τ' :=
  h.keep (fun _ _ => ⟨rfl, rfl⟩) (fun c hc => ⟨hf.1 c (by revert c; decide), hf.2 c (by revert c; decide)⟩)
theorem next_M {n : Nat} {L : List rl} {rk : Nat → Nat} {sC sP : SS} {T : TT} {σ τ : St} (h : chO n L rk sC sP T σ τ) {e : IT} (ho : okIt n sC T e) {s : List IT} {i : Nat} (hc : cov n (e :: s) i) (hs : stM τ (e :: s)) (h0 : τ.1 43 0 = nI (s.length + 1)) :
    ∃ τ', M_next τ = some (1, τ') ∧ fr SMw τ τ' ∧ τ'.1 43 0 = nI (kid L T e ++ s).length ∧ stM τ' (kid L T e ++ s) ∧ τ'.1 44 0 = nI (itM e.1) ∧ τ'.1 45 0 = nI e.2.1 ∧ τ'.1 46 0 = nI e.2.2.1 ∧ τ'.1 47 0 = ndR T e := by
  have hn := h.1.2.1
  have hcl : s.length + 1 + i ≤ n := cov_len hc
  have hsl : s.length < 64 := by omega
  obtain ⟨⟨s1, s2, s3, s4⟩, hs'⟩ := hs
  have hi := ho.2.1
  have hj := ho.2.2.1
  unfold M_next
  rw [h0, if_neg (nI_ne0 (by omega) (by omega)), nI_pred, lt_is]
  have e1 : (sI τ 43 0 (nI s.length)).1 43 0 = nI s.length := by simp [sI_1]
  have e1' : (sI τ 43 0 (nI s.length)).1 39 s.length = nI (itM e.1) := s1
  rw [e1, gd_nI hsl (by decide), lt_is, nI_clamp (by omega), e1']
  have e2 : (sI (sI τ 43 0 (nI s.length)) 44 0 (nI (itM e.1))).1 43 0 = nI s.length := by simp [sI_1]
  have e2' : (sI (sI τ 43 0 (nI s.length)) 44 0 (nI (itM e.1))).1 40 s.length = nI e.2.1 := s2
  rw [e2, gd_nI hsl (by decide), lt_is, nI_clamp (by omega), e2']
  have e3 : (sI (sI (sI τ 43 0 (nI s.length)) 44 0 (nI (itM e.1))) 45 0 (nI e.2.1)).1 43 0 = nI s.length := by simp [sI_1]
  have e3' : (sI (sI (sI τ 43 0 (nI s.length)) 44 0 (nI (itM e.1))) 45 0 (nI e.2.1)).1 41 s.length = nI e.2.2.1 := s3
  rw [e3, gd_nI hsl (by decide), lt_is, nI_clamp (by omega), e3', lt_is]
  obtain ⟨τ1, hτ1⟩ : ∃ τ1, τ1 = sI (sI (sI (sI (sI τ 43 0 (nI s.length)) 44 0 (nI (itM e.1))) 45 0 (nI e.2.1)) 46 0 (nI e.2.2.1)) 47 0 (-1) := ⟨_, rfl⟩
  rw [← hτ1]
  have g1 : fr [43, 44, 45, 46, 47] τ τ1 := by rw [hτ1]; exact ((((fr.sI (by decide)).tr (fr.sI (by decide))).tr (fr.sI (by decide))).tr (fr.sI (by decide))).tr (fr.sI (by decide))
  have g2 : τ1.1 43 0 = nI s.length ∧ τ1.1 44 0 = nI (itM e.1) ∧ τ1.1 45 0 = nI e.2.1 ∧ τ1.1 46 0 = nI e.2.2.1 ∧ τ1.1 47 0 = -1 := by rw [hτ1]; simp [sI_1]
  obtain ⟨t43, t44, t45, t46, t47⟩ := g2
  have k42 : τ1.1 42 s.length = nI e.2.2.2 := by rw [g1.1 42 (by decide)]; exact s4
  have hs1 : stM τ1 s := hs'.of (fun t _ => by
    rw [g1.1 39 (by decide), g1.1 40 (by decide), g1.1 41 (by decide), g1.1 42 (by decide)]; exact ⟨rfl, rfl, rfl, rfl⟩)
  rw [t44]
  by_cases he : e.1 < 26
  · have hi1 := itM_lo he
    have hcl2 := cov_len ((kid_step h.P ho hc).2.2.1 he)
    have hch : chO n L rk sC sP T σ τ1 := h.kM (g1.wk (by decide))
    have hL := h.1.2.2.2.1.1.1
    obtain ⟨r, cut, p, q, hK, hr, l2, l3, l4, hA, hd⟩ := kid_ok h.P ho he
    have hrw : clM e.1 e.2.1 e.2.2.1 < 7800 := clM_lt he hi (by omega)
    have hk := ho.2.2.2
    have hsz := szB h.P (x := e.1) hi hj
    have hk' : e.2.2.2 < (T e.1 e.2.1 e.2.2.1).2.length := by unfold szA at hk; rw [if_pos he] at hk; exact hk
    have hkl : keyN r cut p q < 2097152 := keyN_lt (by omega) l2 l3 l4
    have hcell : τ1.1 36 (30 * clM e.1 e.2.1 e.2.2.1 + e.2.2.2) = nI (keyN r cut p q) := by
      rw [((hch.2.2.2.1 e.1 e.2.1 e.2.2.1 he hi hj).2.1.2.2.2 e.2.2.2 hk').2.1, ← hK]
    have hkr : kK T e / 32768 = r := by rw [hK]; unfold keyN; omega
    rw [if_neg (show ¬ (100 : Int32) ≤ nI (itM e.1) from nge 100 (by omega) (by decide)), hi1, t45, t46, cellOf_M (by omega), bp_some, t43, gd_nI hsl (by decide), nI_clamp (show s.length < 2 ^ 31 by omega), k42, show (30 : Int32) = nI 30 from rfl, nI_mul, nI_add, gd_nI (by omega) (by decide), nI_clamp (by omega), hcell, lt_is, lt_is, lt_is, lt_is, lt_is, pk_shrN (by omega) ((15 : Int32) &&& 31) 15 (by decide), pk_shrN (by omega) ((10 : Int32) &&& 31) 10 (by decide), pk_shrN (by omega) ((5 : Int32) &&& 31) 5 (by decide), pk_andN (by omega) 5 (by decide), pk_andN (by omega) 5 (by decide), pk_andN (by omega) 5 (by decide), kf10 l2 l3 l4, kf5 l3 l4, show keyN r cut p q % 2 ^ 5 = q from kf0 l4, show keyN r cut p q / 2 ^ 15 = r by unfold keyN; omega, lt_is]
    have g4 : fr [47] τ1 (sI τ1 47 0 (nI r)) := fr.sI (by decide)
    have v47 : (sI τ1 47 0 (nI r)).1 47 0 = nI r := by simp [sI_1]
    obtain ⟨v26, v27, v28, -⟩ := hch.2.1.2.1 r hr
    have hnd : nI r = ndR T e := by unfold ndR; rw [if_pos he, hkr]
    generalize (sI τ1 47 0 (nI r)) = τ2 at g4 v47 ⊢
    have hs2 : stM τ2 s := hs1.of (fun t _ => by
      rw [g4.1 39 (by decide), g4.1 40 (by decide), g4.1 41 (by decide), g4.1 42 (by decide)]; exact ⟨rfl, rfl, rfl, rfl⟩)
    have u43 : τ2.1 43 0 = nI s.length := by rw [g4.1 43 (by decide)]; exact t43
    have u44 : τ2.1 44 0 = nI (itM e.1) := by rw [g4.1 44 (by decide)]; exact t44
    have u45 : τ2.1 45 0 = nI e.2.1 := by rw [g4.1 45 (by decide)]; exact t45
    have u46 : τ2.1 46 0 = nI e.2.2.1 := by rw [g4.1 46 (by decide)]; exact t46
    rcases hd with ⟨c1, c2, c3, c4⟩ | ⟨c1, c2, c3, c4, c5, c6⟩
    · rw [c3] at hcl2 ⊢
      have hcl2 : s.length + 1 + i ≤ n := hcl2
      rw [c2, if_pos (show nI 0 = 0 from rfl), gd_nI (by omega) (by decide), nI_clamp (by omega), g4.1 27 (by decide), v27, u45, u46]
      obtain ⟨τ3, p1, p2, p3, p4⟩ := later_M hs2 u43 (by omega) (L.getD r z0).2.1 e.2.1 e.2.2.1 p
      rw [p1, bp_some]
      refine ⟨τ3, rfl, ((g1.wk (by decide)).tr (g4.wk (by decide))).tr (p2.wk (by decide)), p3, p4, ?_, ?_, ?_, ?_⟩
      · rw [p2.1 44 (by decide), u44, hi1]
      · rw [p2.1 45 (by decide)]; exact u45
      · rw [p2.1 46 (by decide)]; exact u46
      · rw [p2.1 47 (by decide), v47]; exact hnd
    · rw [c4] at hcl2 ⊢
      have hcl2 : s.length + 1 + 1 + i ≤ n := hcl2
      have ho1 : oM (L.getD r z0).2.2.1 = nI (itM (L.getD r z0).2.2.1) := by unfold oM; rw [if_neg c1]
      rw [if_neg (nI_ne0 (by omega) (by omega)), gd_nI (by omega) (by decide), nI_clamp (by omega), g4.1 28 (by decide), v28, ho1, u45, u46, nI_add]
      obtain ⟨τ3, p1, p2, p3, p4⟩ := later_M hs2 u43 (by omega) (L.getD r z0).2.2.1 (e.2.1 + cut) e.2.2.1 q
      rw [p1, bp_some, gd_nI (by omega) (by decide), p2.1 27 (by decide), g4.1 27 (by decide), v27, p2.1 45 (by decide), u45, nI_add, nI_pred' (by omega)]
      obtain ⟨τ4, q1, q2, q3, q4⟩ := later_M p4 p3 (by show s.length + 1 < 24; omega) (L.getD r z0).2.1 e.2.1 (e.2.1 + cut - 1) p
      rw [q1, bp_some]
      refine ⟨τ4, rfl, (((g1.wk (by decide)).tr (g4.wk (by decide))).tr (p2.wk (by decide))).tr (q2.wk (by decide)), q3, q4, ?_, ?_, ?_, ?_⟩
      · rw [q2.1 44 (by decide), p2.1 44 (by decide), u44, hi1]
      · rw [q2.1 45 (by decide), p2.1 45 (by decide)]; exact u45
      · rw [q2.1 46 (by decide), p2.1 46 (by decide)]; exact u46
      · rw [q2.1 47 (by decide), p2.1 47 (by decide), v47]; exact hnd
  · have hh := itM_hi he ho.1
    rw [if_pos (show (100 : Int32) ≤ nI (itM e.1) from nle 100 (by omega) (by omega)), kid_sym he]
    refine ⟨τ1, rfl, g1.wk (by decide), t43, hs1, t44, t45, t46, ?_⟩
    rw [t47]; unfold ndR; rw [if_neg he]
theorem begin_M {n : Nat} {L : List rl} {rk : Nat → Nat} {sC sP : SS} {T : TT} {σ τ : St} (h : chO n L rk sC sP T σ τ) (k : Nat) : ∃ τ', M_begin τ (nI k) = some τ' ∧ fr SMw τ τ' ∧ τ'.1 43 0 = nI 1 ∧ stM τ' [root n L k] := by
  unfold M_begin
  rw [lt_is]
  have g1 : fr SMw τ (sI τ 43 0 0) := fr.sI (by decide)
  have e1 : (sI τ 43 0 0).1 43 0 = nI 0 := by simp [sI_1]; rfl
  generalize (sI τ 43 0 0) = τ1 at g1 e1 ⊢
  have hch : chO n L rk sC sP T σ τ1 := h.kM (g1.wk (by decide))
  have htop : top L < 26 := (h.1.2.2.2.1.1.2 0 (by have := h.1.2.2.1; omega)).1
  rw [show gd (0 : Int32) 60 = gd (nI 0) 60 from rfl, gd_nI (by decide) (by decide), show (0 : Int32).toNatClampNeg = 0 from rfl, (hch.2.1.2.1 0 (by have := h.1.2.2.1; omega)).1, hch.2.2.1.2.1, nI_pred' h.1.1, show (0 : Int32) = nI 0 from rfl, show nI (L.getD 0 z0).1 = nI (itM (top L)) by rw [itM_lo htop]]
  obtain ⟨τ2, p1, p2, p3, p4⟩ := later_M (τ := τ1) (s := []) trivial e1 (by decide) (top L) 0 (n - 1) k
  rw [p1, bp_some]
  exact ⟨τ2, rfl, g1.tr (p2.wk (by decide)), p3, p4⟩
/-! what a walk of the reference finds -/
theorem nodes22 {n : Nat} {L : List rl} {rk : Nat → Nat} {sC sP : SS} {T : TT} {σ : St} {N : Nat} : ∀ (g f v i : Nat) (s : List IT) (τ : St), wt rk s ≤ g → g + 1 ≤ f → chO n L rk sC sP T σ τ → (∀ e, e ∈ s → okIt n sC T e) → cov n s i → stM τ s → τ.1 43 0 = nI s.length →
    ∃ τ', M_nodes_l22 N f τ (nI v) = some (nI (v + (wk L T g s).length), τ') ∧ fr SMw τ τ' := by
  have nil : ∀ (g f v : Nat) (τ : St), 1 ≤ f → wk L T g [] = [] → τ.1 43 0 = nI 0 → ∃ τ', M_nodes_l22 N f τ (nI v) = some (nI (v + (wk L T g []).length), τ') ∧ fr SMw τ τ' := by
    intro g f v τ hf hw h0
    obtain ⟨f, rfl⟩ : ∃ k, f = k + 1 := ⟨f - 1, by omega⟩
    unfold M_nodes_l22 M_next
    rw [h0, if_pos (show nI 0 = 0 from rfl), bd_some, if_pos rfl, hw]
    exact ⟨τ, rfl, fr.rf⟩
  intro g
  induction g with
  | zero =>
    intro f v i s τ hg hf hch hok hc hs h0
    cases s with
    | nil => exact nil 0 f v τ hf rfl h0
    | cons e s => have := wt_pos (rk := rk) (e := e) (s := s); omega
  | succ g ih =>
    intro f v i s τ hg hf hch hok hc hs h0
    cases s with
    | nil => exact nil (g + 1) f v τ (by omega) rfl h0
    | cons e s =>
      obtain ⟨f, rfl⟩ : ∃ k, f = k + 1 := ⟨f - 1, by omega⟩
      have heo := hok e (List.mem_cons_self ..)
      obtain ⟨ks1, ks2, ks3, ks4⟩ := kid_step hch.P heo hc
      obtain ⟨τ1, p1, p2, p3, p4, -⟩ := next_M hch heo hc hs h0
      unfold M_nodes_l22
      rw [p1, bd_some, if_neg (by decide), lt_is, nI_1]
      have hok2 : ∀ e', e' ∈ kid L T e ++ s → okIt n sC T e' := fun e' h' => by
        rcases List.mem_append.mp h' with z | z
        · exact ks1 e' z
        · exact hok e' (List.mem_cons_of_mem _ z)
      have hcv : ∃ i', cov n (kid L T e ++ s) i' := by
        by_cases he : e.1 < 26
        · exact ⟨i, ks3 he⟩
        · obtain ⟨kd, -, -, k3⟩ := ks4 he
          exact ⟨i + 1, by rw [kd]; exact k3⟩
      obtain ⟨i', hc'⟩ := hcv
      obtain ⟨τ2, q1, q2⟩ := ih f (v + 1) i' (kid L T e ++ s) τ1 (by omega) (by omega) (hch.kM (p2.wk (by decide))) hok2 hc' p4 p3
      refine ⟨τ2, ?_, p2.tr q2⟩
      rw [q1]
      show some (nI (v + 1 + (wk L T g (kid L T e ++ s)).length), τ2) = some (nI (v + ((wk L T g (kid L T e ++ s)).length + 1)), τ2)
      rw [show v + 1 + (wk L T g (kid L T e ++ s)).length = v + ((wk L T g (kid L T e ++ s)).length + 1) by omega]
theorem sym5 {n : Nat} {L : List rl} {rk : Nat → Nat} {sC sP : SS} {T : TT} {σ : St} {N q : Nat} (hq : q < 2 ^ 31) : ∀ (g f i : Nat) (s : List IT) (τ : St) (d : IT), wt rk s ≤ g → g + 1 ≤ f → chO n L rk sC sP T σ τ → (∀ e, e ∈ s → okIt n sC T e) → cov n s i → stM τ s → τ.1 43 0 = nI s.length → (wk L T g s).find? (isAt q) = some d →
    ∃ τ', M_symbolAt_l5 N f τ (nI q) = some (nI (itM d.1 - 100), τ') ∧ fr SMw τ τ' := by
  intro g
  induction g with
  | zero => intro f i s τ d hg hf hch hok hc hs h0 hd; cases hd
  | succ g ih =>
    intro f i s τ d hg hf hch hok hc hs h0 hd
    cases s with
    | nil => cases hd
    | cons e s =>
      obtain ⟨f, rfl⟩ : ∃ k, f = k + 1 := ⟨f - 1, by omega⟩
      have heo := hok e (List.mem_cons_self ..)
      have hcl : s.length + 1 + i ≤ n := cov_len hc
      have hn := hch.1.2.1
      obtain ⟨ks1, ks2, ks3, ks4⟩ := kid_step hch.P heo hc
      obtain ⟨τ1, p1, p2, p3, p4, p5, p6, p7, p8⟩ := next_M hch heo hc hs h0
      have hok2 : ∀ e', e' ∈ kid L T e ++ s → okIt n sC T e' := fun e' h' => by
        rcases List.mem_append.mp h' with z | z
        · exact ks1 e' z
        · exact hok e' (List.mem_cons_of_mem _ z)
      have hw : wk L T (g + 1) (e :: s) = e :: wk L T g (kid L T e ++ s) := rfl
      unfold M_symbolAt_l5
      rw [p1, bd_some, if_neg (by decide), p5, p6]
      by_cases he : e.1 < 26
      · rw [if_pos (show nI (itM e.1) < (100 : Int32) from nI_lt (b := 100) (by rw [itM_lo he]; omega) (by decide))]
        rw [hw, List.find?_cons_of_neg (by rw [isAt_f (.inl he)]; decide)] at hd
        obtain ⟨τ2, q1, q2⟩ := ih f i (kid L T e ++ s) τ1 d (by omega) (by omega) (hch.kM (p2.wk (by decide))) hok2 (ks3 he) p4 p3 hd
        exact ⟨τ2, q1, p2.tr q2⟩
      · have hh := itM_hi he heo.1
        rw [if_neg (show ¬ nI (itM e.1) < (100 : Int32) from nI_nlt (b := 100) (by omega) (by omega))]
        obtain ⟨kd, k1, k2, k3⟩ := ks4 he
        by_cases heq : e.2.1 = q
        · rw [if_pos (by rw [heq]), show (100 : Int32) = nI 100 from rfl, pk_sub (by omega)]
          rw [hw, List.find?_cons_of_pos (isAt_t he heq)] at hd
          cases hd
          exact ⟨τ1, rfl, p2⟩
        · rw [if_neg (fun z => heq ((nI_eq (by omega) hq).mp z))]
          rw [hw, List.find?_cons_of_neg (by rw [isAt_f (.inr heq)]; decide)] at hd
          obtain ⟨τ2, q1, q2⟩ := ih f (i + 1) (kid L T e ++ s) τ1 d (by omega) (by omega) (hch.kM (p2.wk (by decide))) hok2 (by rw [kd]; exact k3) p4 p3 hd
          exact ⟨τ2, q1, p2.tr q2⟩
theorem symbolAt_M {n : Nat} {L : List rl} {rk : Nat → Nat} {sC sP : SS} {T : TT} {σ τ : St} (h : chO n L rk sC sP T σ τ) {k : Nat} (hk : k < (T (top L) 0 (n - 1)).2.length) {q : Nat} {d : IT} (hq : q < n) (hd : (wkr n L T k).find? (isAt q) = some d) : ∃ τ', M_symbolAt 8000 τ (nI k) (nI q) = some (nI (itM d.1 - 100), τ') ∧ fr SMw τ τ' := by
  obtain ⟨k1, k2, k3⟩ := root_ok h.P hk
  have hn := h.1.2.1
  unfold M_symbolAt
  obtain ⟨τ1, p1, p2, p3, p4⟩ := begin_M h k
  rw [p1, bp_some]
  obtain ⟨τ2, q1, q2⟩ := sym5 (N := 8000) (show q < 2 ^ 31 by omega) 1246 8000 0 [root n L k] τ1 d k3 (by omega) (h.kM (p2.wk (by decide))) k1 k2 p4 p3 hd
  exact ⟨τ2, q1, p2.tr q2⟩

/-! the class walks a whole tree -/
abbrev i0 : IT := (0, 0, 0, 0)
def isAt (q : Nat) (e : IT) : Bool := decide (26 ≤ e.1) && decide (e.2.1 = q)
theorem isAt_f {q : Nat} {e : IT} (h : e.1 < 26 ∨ e.2.1 ≠ q) : isAt q e = false := by
  unfold isAt
  rcases h with h | h
  · rw [decide_eq_false (by omega)]; rfl
  · rw [decide_eq_false h, Bool.and_false]
theorem isAt_t {q : Nat} {e : IT} (h : ¬ e.1 < 26) (h2 : e.2.1 = q) : isAt q e = true := by
  unfold isAt
  rw [decide_eq_true h2, decide_eq_true (by omega)]; rfl
def lfO (n : Nat) (sC : SS) (σ : St) (V : List IT) (q : Nat) : Prop := ∃ e, V.find? (isAt q) = some e ∧ 26 ≤ e.1 ∧ e.1 < 96 ∧ sC q (e.1 - 26) ≠ -1 ∧ σ.1 134 q = sC q (e.1 - 26) ∧ σ.1 135 q = nI ((e.1 - 26) / 10 + 1)
abbrev STw : List Nat := 129 :: STv
theorem wt_pos {rk : Nat → Nat} {e : IT} {s : List IT} : 1 ≤ wt rk (e :: s) := by
  show 1 ≤ 53 * (e.2.2.1 - e.2.1) + (if e.1 < 26 then rk e.1 + 2 else 1) + wt rk s
  split <;> omega
theorem wl38 {n : Nat} {L : List rl} {rk : Nat → Nat} {sC sP : SS} {T : TT} {τ : St} {N : Nat} : ∀ (g f v i : Nat) (s : List IT) (σ : St), wt rk s ≤ g → g + 1 ≤ f → v + wt rk s ≤ 1246 → chO n L rk sC sP T σ τ → (∀ e, e ∈ s → okIt n sC T e) → cov n s i → stC σ s → σ.1 140 0 = nI s.length → σ.1 129 0 = nI v →
    ∃ σ', C_Tree_walk_l38 N f σ (nI v) = some σ' ∧ fr STw σ σ' ∧ σ'.1 129 0 = nI (v + (wk L T g s).length) ∧ (∀ t, t < (wk L T g s).length → ndO sC T σ' (v + t) ((wk L T g s).getD t i0)) ∧ (∀ t, t < v → σ'.1 130 t = σ.1 130 t ∧ σ'.1 131 t = σ.1 131 t ∧ σ'.1 132 t = σ.1 132 t ∧ σ'.1 133 t = σ.1 133 t) ∧ (∀ q, i ≤ q → q < n → lfO n sC σ' (wk L T g s) q) ∧ ∀ q, q < i → σ'.1 134 q = σ.1 134 q ∧ σ'.1 135 q = σ.1 135 q := by
  have nil : ∀ (g f v i : Nat) (σ : St), 1 ≤ f → wk L T g [] = [] → cov n [] i → σ.1 140 0 = nI 0 → σ.1 129 0 = nI v → ∃ σ', C_Tree_walk_l38 N f σ (nI v) = some σ' ∧ fr STw σ σ' ∧ σ'.1 129 0 = nI (v + (wk L T g []).length) ∧ (∀ t, t < (wk L T g []).length → ndO sC T σ' (v + t) ((wk L T g []).getD t i0)) ∧ (∀ t, t < v → σ'.1 130 t = σ.1 130 t ∧ σ'.1 131 t = σ.1 131 t ∧ σ'.1 132 t = σ.1 132 t ∧ σ'.1 133 t = σ.1 133 t) ∧ (∀ q, i ≤ q → q < n → lfO n sC σ' (wk L T g []) q) ∧ ∀ q, q < i → σ'.1 134 q = σ.1 134 q ∧ σ'.1 135 q = σ.1 135 q := by
    intro g f v i σ hf hw hc h0 h1
    obtain ⟨f, rfl⟩ : ∃ k, f = k + 1 := ⟨f - 1, by omega⟩
    refine ⟨σ, ?_, fr.rf, by rw [hw]; exact h1, (by rw [hw]; intro t ht; cases ht), fun t _ => ⟨rfl, rfl, rfl, rfl⟩, fun q hq hq2 => ?_, fun q _ => ⟨rfl, rfl⟩⟩
    · unfold C_Tree_walk_l38
      rw [h0]
      by_cases c : (1246 : Int32) ≤ nI v
      · rw [if_pos c]
      · rw [if_neg c, if_pos (by decide)]
    · have : i = n := hc; omega
  intro g
  induction g with
  | zero =>
    intro f v i s σ hg hf hv hch hok hc hs h0 h1
    cases s with
    | nil => exact nil 0 f v i σ hf rfl hc h0 h1
    | cons e s => have := wt_pos (rk := rk) (e := e) (s := s); omega
  | succ g ih =>
    intro f v i s σ hg hf hv hch hok hc hs h0 h1
    cases s with
    | nil => exact nil (g + 1) f v i σ (by omega) rfl hc h0 h1
    | cons e s =>
      have hw1 := wt_pos (rk := rk) (e := e) (s := s)
      obtain ⟨f, rfl⟩ : ∃ k, f = k + 1 := ⟨f - 1, by omega⟩
      have hlen : s.length + 1 + i ≤ n := cov_len hc
      have hn := hch.1.2.1
      have h0 : σ.1 140 0 = nI (s.length + 1) := h0
      have heo := hok e (List.mem_cons_self ..)
      obtain ⟨ks1, ks2, ks3, ks4⟩ := kid_step hch.P heo hc
      unfold C_Tree_walk_l38
      rw [if_neg (show ¬ (1246 : Int32) ≤ nI v from nge 1246 (by omega) (by decide)), h0, if_neg (show ¬ nI (s.length + 1) ≤ 0 from nI_nle (by omega) (by omega)), nI_pred, lt_is, nI_1, lt_is]
      have g1 : fr [129, 140] σ (sI (sI σ 140 0 (nI s.length)) 129 0 (nI (v + 1))) := (fr.sI (by decide)).tr (fr.sI (by decide))
      have e1 : (sI (sI σ 140 0 (nI s.length)) 129 0 (nI (v + 1))).1 140 0 = nI s.length := by simp [sI_1]
      have e2 : (sI (sI σ 140 0 (nI s.length)) 129 0 (nI (v + 1))).1 129 0 = nI (v + 1) := by simp [sI_1]
      generalize (sI (sI σ 140 0 (nI s.length)) 129 0 (nI (v + 1))) = σ1 at g1 e1 e2 ⊢
      rw [e1]
      obtain ⟨σ2, p1, p2, p3, p4, p5, p6, p7, p8⟩ := visit_C (hch.kC (g1.wk (by decide))) heo hc (hs.of (fun t _ => by
        rw [g1.1 136 (by decide), g1.1 137 (by decide), g1.1 138 (by decide), g1.1 139 (by decide)]; exact ⟨rfl, rfl, rfl, rfl⟩)) e1 (show v < 1246 by omega)
      rw [p1, bp_some, lt_is]
      have hch2 : chO n L rk sC sP T σ2 τ := (hch.kC (g1.wk (by decide))).kC (p2.wk (by decide))
      have hok2 : ∀ e', e' ∈ kid L T e ++ s → okIt n sC T e' := fun e' h' => by
        rcases List.mem_append.mp h' with z | z
        · exact ks1 e' z
        · exact hok e' (List.mem_cons_of_mem _ z)
      have hfr : fr STw σ σ2 := (g1.wk (by decide)).tr (p2.wk (by decide))
      have e3 : σ2.1 129 0 = nI (v + 1) := by rw [p2.1 129 (by decide)]; exact e2
      have hlw : (wk L T (g + 1) (e :: s)).length = (wk L T g (kid L T e ++ s)).length + 1 := rfl
      have hw : wk L T (g + 1) (e :: s) = e :: wk L T g (kid L T e ++ s) := rfl
      have nodes : ∀ σ' : St, (∀ t, t < (wk L T g (kid L T e ++ s)).length → ndO sC T σ' (v + 1 + t) ((wk L T g (kid L T e ++ s)).getD t i0)) → (∀ t, t < v + 1 → σ'.1 130 t = σ2.1 130 t ∧ σ'.1 131 t = σ2.1 131 t ∧ σ'.1 132 t = σ2.1 132 t ∧ σ'.1 133 t = σ2.1 133 t) → (∀ t, t < (wk L T (g + 1) (e :: s)).length → ndO sC T σ' (v + t) ((wk L T (g + 1) (e :: s)).getD t i0)) ∧ (∀ t, t < v → σ'.1 130 t = σ.1 130 t ∧ σ'.1 131 t = σ.1 131 t ∧ σ'.1 132 t = σ.1 132 t ∧ σ'.1 133 t = σ.1 133 t) := by
        intro σ' q1 q2
        refine ⟨fun t ht => ?_, fun t ht => ?_⟩
        · cases t with
          | zero =>
            show ndO sC T σ' v e
            obtain ⟨z1, z2, z3, z4⟩ := q2 v (by omega)
            unfold ndO
            rw [z1, z2, z3, z4]
            exact p5
          | succ t =>
            have := q1 t (by rw [hlw] at ht; omega)
            rw [show v + 1 + t = v + (t + 1) by omega] at this
            exact this
        · obtain ⟨z1, z2, z3, z4⟩ := q2 t (by omega)
          obtain ⟨y1, y2, y3, y4⟩ := p6 t (by omega)
          rw [z1, z2, z3, z4, y1, y2, y3, y4, g1.1 130 (by decide), g1.1 131 (by decide), g1.1 132 (by decide), g1.1 133 (by decide)]
          exact ⟨rfl, rfl, rfl, rfl⟩
      by_cases he : e.1 < 26
      · obtain ⟨σ3, r1, r2, r3, r4, r5, r6, r7⟩ := ih f (v + 1) i (kid L T e ++ s) σ2 (by omega) (by omega) (by omega) hch2 hok2 (ks3 he) p4 p3 e3
        obtain ⟨n1, n2⟩ := nodes σ3 r4 r5
        refine ⟨σ3, r1, hfr.tr r2, by rw [r3, hlw]; congr 1; omega, n1, n2, fun q hq hq2 => ?_, fun q hq => ?_⟩
        · obtain ⟨e', w1, w2⟩ := r6 q hq hq2
          refine ⟨e', ?_, w2⟩
          rw [hw, List.find?_cons_of_neg (by rw [isAt_f (.inl he)]; decide)]
          exact w1
        · rw [(r7 q hq).1, (r7 q hq).2, (p7 he).1, (p7 he).2, g1.1 134 (by decide), g1.1 135 (by decide)]
          exact ⟨rfl, rfl⟩
      · obtain ⟨kd, k1, k2, k3⟩ := ks4 he
        obtain ⟨σ3, r1, r2, r3, r4, r5, r6, r7⟩ := ih f (v + 1) (i + 1) (kid L T e ++ s) σ2 (by omega) (by omega) (by omega) hch2 hok2 (by rw [kd]; exact k3) p4 p3 e3
        obtain ⟨n1, n2⟩ := nodes σ3 r4 r5
        refine ⟨σ3, r1, hfr.tr r2, by rw [r3, hlw]; congr 1; omega, n1, n2, fun q hq hq2 => ?_, fun q hq => ?_⟩
        · by_cases hqi : q = i
          · subst hqi
            refine ⟨e, ?_, by omega, heo.1, ?_, ?_, ?_⟩
            · rw [hw, List.find?_cons_of_pos (isAt_t he k1)]
            · have := (szA_sym he heo.2.2.2).2.2
              rw [k1] at this; exact this
            · rw [(r7 q (by omega)).1, (p8 he).1, pk_us]
            · rw [(r7 q (by omega)).2, (p8 he).2, pk_us]
          · obtain ⟨e', w1, w2⟩ := r6 q (by omega) hq2
            refine ⟨e', ?_, w2⟩
            rw [hw, List.find?_cons_of_neg (by rw [isAt_f (.inr (by omega))]; decide)]
            exact w1
        · rw [(r7 q (by omega)).1, (r7 q (by omega)).2, (p8 he).1, (p8 he).2, pk_un (by omega), pk_un (by omega), g1.1 134 (by decide), g1.1 135 (by decide)]
          exact ⟨rfl, rfl⟩
abbrev root (n : Nat) (L : List rl) (k : Nat) : IT := (top L, 0, n - 1, k)
abbrev wkr (n : Nat) (L : List rl) (T : TT) (k : Nat) : List IT := wk L T 1246 [root n L k]
theorem root_ok {n : Nat} {L : List rl} {rk : Nat → Nat} {sC : SS} {T : TT} (h : chP n L rk sC T) {k : Nat} (hk : k < (T (top L) 0 (n - 1)).2.length) : (∀ e, e ∈ [root n L k] → okIt n sC T e) ∧ cov n [root n L k] 0 ∧ wt rk [root n L k] ≤ 1246 := by
  have h1 := h.1.1
  have h2 := h.1.2.1
  have h3 : top L < 26 := (h.1.2.2.2.1.1.2 0 (by have := h.1.2.2.1; omega)).1
  have h4 := h.1.2.2.2.1.2.1 _ h3
  refine ⟨fun e he => ?_, ⟨rfl, Nat.zero_le _, by show n - 1 + 1 = n; omega⟩, ?_⟩
  · rw [List.mem_singleton.mp he]
    exact ⟨by show top L < 96; omega, Nat.zero_le _, by show n - 1 < n; omega, by unfold szA; rw [if_pos h3]; exact hk⟩
  · show 53 * (n - 1 - 0) + (if top L < 26 then rk (top L) + 2 else 1) + 0 ≤ 1246
    rw [if_pos h3]; omega
/-- the tree that the class holds -/
def trO (n : Nat) (L : List rl) (sC : SS) (T : TT) (k : Nat) (σ : St) : Prop := σ.1 129 0 = nI (wkr n L T k).length ∧ (∀ t, t < (wkr n L T k).length → ndO sC T σ t ((wkr n L T k).getD t i0)) ∧ ∀ q, q < n → lfO n sC σ (wkr n L T k) q
theorem walk_C {n : Nat} {L : List rl} {rk : Nat → Nat} {sC sP : SS} {T : TT} {σ τ : St} (h : chO n L rk sC sP T σ τ) {k : Nat} (hk : k < (T (top L) 0 (n - 1)).2.length) : ∃ σ', C_Tree_walk 8000 σ (nI k) = some σ' ∧ fr STa σ σ' ∧ σ'.1 128 0 = nI k ∧ trO n L sC T k σ' := by
  obtain ⟨k1, k2, k3⟩ := root_ok h.P hk
  have hn := h.1.1
  unfold C_Tree_walk
  rw [lt_is, lt_is, lt_is]
  have g1 : fr [128, 129, 140] σ (sI (sI (sI σ 128 0 (nI k)) 129 0 0) 140 0 0) := ((fr.sI (by decide)).tr (fr.sI (by decide))).tr (fr.sI (by decide))
  have e1 : (sI (sI (sI σ 128 0 (nI k)) 129 0 0) 140 0 0).1 128 0 = nI k := by simp [sI_1]
  have e2 : (sI (sI (sI σ 128 0 (nI k)) 129 0 0) 140 0 0).1 129 0 = nI 0 := by simp [sI_1]; rfl
  have e3 : (sI (sI (sI σ 128 0 (nI k)) 129 0 0) 140 0 0).1 140 0 = nI 0 := by simp [sI_1]; rfl
  generalize (sI (sI (sI σ 128 0 (nI k)) 129 0 0) 140 0 0) = σ1 at g1 e1 e2 e3 ⊢
  have hc1 : chO n L rk sC sP T σ1 τ := h.kC (g1.wk (by decide))
  rw [show gd (0 : Int32) 60 = gd (nI 0) 60 from rfl, gd_nI (by decide) (by decide), show (0 : Int32).toNatClampNeg = 0 from rfl, (hc1.2.1.1.1 0 (by have := h.1.2.2.1; omega)).1, hc1.2.2.1.1, nI_pred' hn, show (0 : Int32) = nI 0 from rfl]
  obtain ⟨σ2, p1, p2, p3, p4⟩ := push_C (σ := σ1) (s := []) trivial e3 (by decide) (top L) 0 (n - 1) k
  rw [p1, bp_some]
  obtain ⟨σ3, r1, r2, r3, r4, r5, r6, r7⟩ := wl38 (N := 8000) 1246 8000 0 0 [root n L k] σ2 k3 (by omega) (by omega) (hc1.kC (p2.wk (by decide))) k1 k2 p4 p3 (by rw [p2.1 129 (by decide)]; exact e2)
  refine ⟨σ3, r1, ((g1.wk (by decide)).tr (p2.wk (by decide))).tr (r2.wk (by decide)), ?_, ?_, fun t ht => ?_, fun q hq => r6 q (Nat.zero_le _) hq⟩
  · rw [r2.1 128 (by decide), p2.1 128 (by decide)]; exact e1
  · rw [r3, Nat.zero_add]
  · have := r4 t ht
    rw [Nat.zero_add] at this
    exact this
theorem tree_C {n : Nat} {L : List rl} {rk : Nat → Nat} {sC sP : SS} {T : TT} {σ τ : St} (h : chO n L rk sC sP T σ τ) (ht : σ.1 128 0 = -1 ∨ ∃ k, k < 30 ∧ σ.1 128 0 = nI k ∧ trO n L sC T k σ) {k : Nat} (hk : k < (T (top L) 0 (n - 1)).2.length) (hk3 : k < 30) : ∃ σ', C_CG_treeOf 8000 σ (nI k) = some σ' ∧ fr STa σ σ' ∧ σ'.1 128 0 = nI k ∧ trO n L sC T k σ' := by
  unfold C_CG_treeOf
  have go : ¬ σ.1 128 0 = nI k → ∃ σ', (if σ.1 128 0 = nI k then some σ else bp (C_Tree_walk 8000 σ (nI k)) fun σ3 => some σ3) = some σ' ∧ fr STa σ σ' ∧ σ'.1 128 0 = nI k ∧ trO n L sC T k σ' := by
    intro hne
    obtain ⟨σ', p1, p2⟩ := walk_C h hk
    rw [if_neg hne, p1, bp_some]
    exact ⟨σ', rfl, p2⟩
  rcases ht with ht | ⟨k', hk', e', ht⟩
  · exact go (by rw [ht]; exact fun z => nI_nm1 (show k < 2 ^ 31 by omega) z.symm)
  · by_cases hkk : k' = k
    · subst hkk
      rw [if_pos e']
      exact ⟨σ, rfl, fr.rf, e', ht⟩
    · exact go (by rw [e']; exact fun z => hkk ((nI_eq (by omega) (by omega)).mp z))

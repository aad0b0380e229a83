/-! node, nodes, chord, cadence -/
def fdv (sC : SS) (T : TT) (c : Nat) (e : IT) : Int32 := if c = 0 then ndR T e else if c = 1 then nI e.2.1 else if c = 2 then nI e.2.2.1 else ndC sC e
def cur (T : TT) (τ : St) (e : IT) : Prop := τ.1 44 0 = nI (itM e.1) ∧ τ.1 45 0 = nI e.2.1 ∧ τ.1 46 0 = nI e.2.2.1 ∧ τ.1 47 0 = ndR T e
theorem b65_0 {N : Nat} {τ : St} {x : Int32} : M_node_b65 N τ x 0 = some (-1, τ) := by unfold M_node_b65; rw [if_pos rfl]
theorem b65_1 {n : Nat} {L : List rl} {rk : Nat → Nat} {sC sP : SS} {T : TT} {σ τ : St} (h : chO n L rk sC sP T σ τ) {e : IT} (ho : okIt n sC T e) (hc : cur T τ e) {N c : Nat} (c3 : c ≤ 3) : M_node_b65 N τ (nI c) 1 = some (fdv sC T c e, τ) := by
  obtain ⟨h4, h5, h6, h7⟩ := hc
  have hn := h.1.2.1
  have hi := ho.2.1
  have hj := ho.2.2.1
  unfold M_node_b65 fdv
  rw [if_neg (by decide)]
  by_cases d0 : c = 0
  · rw [d0, if_pos (show nI 0 = 0 from rfl), if_pos rfl, h7]
  rw [if_neg (show ¬ nI c = 0 from nI_ne0 (by omega) (by omega)), if_neg d0]
  by_cases d1 : c = 1
  · rw [d1, if_pos (show nI 1 = 1 from rfl), if_pos rfl, h5]
  rw [if_neg (show ¬ nI c = 1 from neq 1 d1 (by omega) (by decide)), if_neg d1]
  by_cases d2 : c = 2
  · rw [d2, if_pos (show nI 2 = 2 from rfl), if_pos rfl, h6]
  rw [if_neg (show ¬ nI c = 2 from neq 2 d2 (by omega) (by decide)), if_neg d2]
  unfold M_nodeChord ndC
  rw [h4, h5]
  by_cases he : e.1 < 26
  · rw [if_neg (show ¬ (100 : Int32) ≤ nI (itM e.1) from nge 100 (by rw [itM_lo he]; omega) (by decide)), bp_some, if_pos he]
  · have hh := itM_hi he ho.1
    have h96 := ho.1
    have := (h.2.1.2.2 e.2.1 (e.1 - 26) (by omega) (by omega)).1
    rw [show 26 + (e.1 - 26) = e.1 by omega] at this
    rw [if_pos (show (100 : Int32) ≤ nI (itM e.1) from nle 100 (by omega) (by omega)), show (100 : Int32) = nI 100 from rfl, pk_sub (by omega), show (24 : Int32) = nI 24 from rfl, nI_mul, nI_add, gd_nI (by omega) (by decide), nI_clamp (by omega), this, bp_some, if_neg he]
theorem node42 {n : Nat} {L : List rl} {rk : Nat → Nat} {sC sP : SS} {T : TT} {σ : St} {N c : Nat} (c3 : c ≤ 3) : ∀ (g f v m i : Nat) (s : List IT) (τ : St) (e : IT), v + m < 2 ^ 31 → wt rk s ≤ g → g + 2 ≤ f → chO n L rk sC sP T σ τ → okIt n sC T e → (∀ e, e ∈ s → okIt n sC T e) → cov n s i → stM τ s → τ.1 43 0 = nI s.length → cur T τ e →
    ∃ τ', M_node_l42 N f τ (nI (v + m)) (nI c) 1 (nI v) = some (if m < (e :: wk L T g s).length then fdv sC T c ((e :: wk L T g s).getD m i0) else -1, τ') ∧ fr SMw τ τ' := by
  have one : ∀ (g f v m : Nat) (s : List IT) (τ : St) (e : IT), m = 0 → v + m < 2 ^ 31 → 1 ≤ f → chO n L rk sC sP T σ τ → okIt n sC T e → cur T τ e → ∃ τ', M_node_l42 N f τ (nI (v + m)) (nI c) 1 (nI v) = some (if m < (e :: wk L T g s).length then fdv sC T c ((e :: wk L T g s).getD m i0) else -1, τ') ∧ fr SMw τ τ' := by
    intro g f v m s τ e hm hv hf hch hoe hcu
    obtain ⟨f, rfl⟩ : ∃ k, f = k + 1 := ⟨f - 1, by omega⟩
    subst hm
    unfold M_node_l42
    rw [if_pos (show nI (v + 0) ≤ nI v from nI_le (by omega) (by omega)), b65_1 hch hoe hcu c3, if_pos (show 0 < (e :: wk L T g s).length from Nat.zero_lt_succ _)]
    exact ⟨τ, rfl, fr.rf⟩
  have nil : ∀ (g f v m : Nat) (τ : St) (e : IT), wk L T g [] = [] → m ≠ 0 → v + m < 2 ^ 31 → 2 ≤ f → τ.1 43 0 = nI 0 → ∃ τ', M_node_l42 N f τ (nI (v + m)) (nI c) 1 (nI v) = some (if m < (e :: wk L T g []).length then fdv sC T c ((e :: wk L T g []).getD m i0) else -1, τ') ∧ fr SMw τ τ' := by
    intro g f v m τ e hw hm hv hf h0
    obtain ⟨f, rfl⟩ : ∃ k, f = k + 1 + 1 := ⟨f - 2, by omega⟩
    unfold M_node_l42
    rw [if_neg (nI_ge (by omega) (by omega)), if_neg (by decide)]
    have : M_next τ = some (0, τ) := by unfold M_next; rw [h0, if_pos (show nI 0 = 0 from rfl)]
    rw [this, bd_some, lt_is, hw, if_neg (show ¬ m < [e].length by show ¬ m < 1; omega)]
    refine ⟨τ, ?_, fr.rf⟩
    unfold M_node_l42
    rw [b65_0, if_pos rfl]
    split <;> rfl
  intro g
  induction g with
  | zero =>
    intro f v m i s τ e hv hg hf hch hoe hok hc hs h0 hcu
    by_cases hm : m = 0
    · exact one 0 f v m s τ e hm hv (by omega) hch hoe hcu
    cases s with
    | nil => exact nil 0 f v m τ e rfl hm hv (by omega) h0
    | cons e s => have := wt_pos (rk := rk) (e := e) (s := s); omega
  | succ g ih =>
    intro f v m i s τ e hv hg hf hch hoe hok hc hs h0 hcu
    by_cases hm : m = 0
    · exact one (g + 1) f v m s τ e hm hv (by omega) hch hoe hcu
    cases s with
    | nil => exact nil (g + 1) f v m τ e rfl hm hv (by omega) h0
    | cons e' s =>
      obtain ⟨f, rfl⟩ : ∃ k, f = k + 1 := ⟨f - 1, by omega⟩
      have heo := hok e' (List.mem_cons_self ..)
      obtain ⟨ks1, ks2, ks3, ks4⟩ := kid_step hch.P heo hc
      obtain ⟨τ1, p1, p2, p3, p4, p5, p6, p7, p8⟩ := next_M hch heo hc hs h0
      have hok2 : ∀ d, d ∈ kid L T e' ++ s → okIt n sC T d := fun d h' => by
        rcases List.mem_append.mp h' with z | z
        · exact ks1 d z
        · exact hok d (List.mem_cons_of_mem _ z)
      have hcv : ∃ i', cov n (kid L T e' ++ s) i' := by
        by_cases he : e'.1 < 26
        · exact ⟨i, ks3 he⟩
        · obtain ⟨kd, -, -, k3⟩ := ks4 he
          exact ⟨i + 1, by rw [kd]; exact k3⟩
      obtain ⟨i', hc'⟩ := hcv
      unfold M_node_l42
      rw [if_neg (nI_ge (by omega) (by omega)), if_neg (by decide), p1, bd_some, lt_is, nI_1]
      obtain ⟨m, rfl⟩ : ∃ k, m = k + 1 := ⟨m - 1, by omega⟩
      obtain ⟨τ2, q1, q2⟩ := ih f (v + 1) m i' (kid L T e' ++ s) τ1 e' (by omega) (by omega) (by omega) (hch.kM (p2.wk (by decide))) heo hok2 hc' p4 p3 ⟨p5, p6, p7, p8⟩
      refine ⟨τ2, ?_, p2.tr q2⟩
      rw [show v + (m + 1) = v + 1 + m by omega, q1]
      have hw : wk L T (g + 1) (e' :: s) = e' :: wk L T g (kid L T e' ++ s) := rfl
      rw [hw]
      by_cases z : m < (e' :: wk L T g (kid L T e' ++ s)).length
      · rw [if_pos z, if_pos (show m + 1 < (e :: e' :: wk L T g (kid L T e' ++ s)).length from Nat.succ_lt_succ z)]; rfl
      · rw [if_neg z, if_neg (show ¬ m + 1 < (e :: e' :: wk L T g (kid L T e' ++ s)).length from fun y => z (Nat.lt_of_succ_lt_succ y))]
/-- is it listed: both say the same -/
theorem lis2 {n : Nat} {L : List rl} {rk : Nat → Nat} {sC sP : SS} {T : TT} {σ τ : St} (h : chO n L rk sC sP T σ τ) (x : Int32) : (C_CG_isListed σ x = some 0 ∧ M_noReading τ x = some 1) ∨ (C_CG_isListed σ x = some 1 ∧ M_noReading τ x = some 0 ∧ ∃ k, x = nI k ∧ k < (T (top L) 0 (n - 1)).2.length ∧ k < 30) := by
  unfold C_CG_isListed M_noReading
  by_cases c0 : x < 0
  · rw [if_pos c0, if_pos c0]; exact .inl ⟨rfl, rfl⟩
  · rw [if_neg c0, if_neg c0]
    obtain ⟨-, h1, -, h2⟩ := listed_C h
    have h3 := (h.2.2.2.1 (top L) 0 (n - 1) (h.1.2.2.2.1.1.2 0 h.1.2.2.1).1 (Nat.zero_le _) (by have := h.1.1; omega)).1.2.2.1
    obtain ⟨k, hk, rfl⟩ := nI_of c0
    rw [h1, h2, bp_some, bp_some]
    by_cases c1 : (T (top L) 0 (n - 1)).2.length ≤ k
    · rw [if_pos (nI_le c1 hk), if_neg (nI_nlt c1 hk)]; exact .inl ⟨rfl, rfl⟩
    · rw [if_neg (nI_ge (by omega) (by omega)), if_pos (nI_lt (by omega) (by omega))]
      exact .inr ⟨rfl, rfl, k, rfl, by omega, by omega⟩
/-- chart and tree -/
def gCT (σ τ : St) : Prop := ((σ.1 118 0 = 0 ∧ τ.1 24 0 = 0 ∧ τ.1 38 0 = 0) ∧ σ.1 128 0 = -1) ∨ ∃ n L rk sC sP T, chO n L rk sC sP T σ τ ∧ (σ.1 128 0 = -1 ∨ ∃ k, k < 30 ∧ σ.1 128 0 = nI k ∧ trO n L sC T k σ)
theorem gCT.ch {σ τ : St} (h : gCT σ τ) : gChart σ τ := by
  rcases h with h | ⟨n, L, rk, sC, sP, T, h, -⟩
  · exact .inl h.1
  · exact .inr ⟨n, L, rk, sC, sP, T, h⟩
theorem gCT.of {σ τ : St} (h : gChart σ τ) (h1 : σ.1 128 0 = -1) : gCT σ τ := by
  rcases h with h | ⟨n, L, rk, sC, sP, T, h⟩
  · exact .inl ⟨h, h1⟩
  · exact .inr ⟨n, L, rk, sC, sP, T, h, .inl h1⟩
theorem trO.keep {n : Nat} {L : List rl} {sC : SS} {T : TT} {k : Nat} {σ σ' : St} (h : trO n L sC T k σ) (hf : ∀ c, c ∈ STa → σ'.1 c = σ.1 c) : trO n L sC T k σ' := by
  unfold trO lfO ndO at *
  rw [hf 129 (by decide), hf 130 (by decide), hf 131 (by decide), hf 132 (by decide), hf 133 (by decide), hf 134 (by decide), hf 135 (by decide)]
  exact h
theorem gCT.keep {σ τ σ' τ' : St} {S S' : List Nat} (h : gCT σ τ) (h1 : fr S σ σ') (h2 : fr S' τ τ') (d1 : ∀ c, c ∈ SCc ++ STa → c ∉ S) (d2 : ∀ c, c ∈ SMc → c ∉ S') : gCT σ' τ' := by
  have d3 : ∀ c, c ∈ SCc → c ∉ S := fun c hc => d1 c (List.mem_append_left _ hc)
  have d4 : ∀ c, c ∈ STa → c ∉ S := fun c hc => d1 c (List.mem_append_right _ hc)
  rcases h with h | ⟨n, L, rk, sC, sP, T, h, ht⟩
  · exact .inl ⟨⟨by rw [h1.1 118 (d3 _ (by decide))]; exact h.1.1, by rw [h2.1 24 (d2 _ (by decide))]; exact h.1.2.1, by rw [h2.1 38 (d2 _ (by decide))]; exact h.1.2.2⟩, by rw [h1.1 128 (d4 _ (by decide))]; exact h.2⟩
  · refine .inr ⟨n, L, rk, sC, sP, T, h.keep (fun c hc => ⟨h1.1 c (d3 c hc), h1.2 c (d3 c hc)⟩) (fun c hc => ⟨h2.1 c (d2 c hc), h2.2 c (d2 c hc)⟩), ?_⟩
    rw [h1.1 128 (d4 _ (by decide))]
    rcases ht with ht | ⟨k, hk, e, ht⟩
    · exact .inl ht
    · exact .inr ⟨k, hk, e, ht.keep (fun c hc => h1.1 c (d4 c hc))⟩
abbrev SM0 : List Nat := 0 :: SMw
/-- the class's tree after a question, and the reference after its walk -/
theorem gCT.now {n : Nat} {L : List rl} {rk : Nat → Nat} {sC sP : SS} {T : TT} {σ τ σ' τ' : St} (h : chO n L rk sC sP T σ τ) (h1 : fr STa σ σ') (h2 : fr SM0 τ τ') {k : Nat} (hk : k < 30) (e : σ'.1 128 0 = nI k) (ht : trO n L sC T k σ') : gCT σ' τ' := .inr ⟨n, L, rk, sC, sP, T, (h.kC h1).kM h2, .inr ⟨k, hk, e, ht⟩⟩
theorem gCT.s0 {σ τ : St} {x : Int32} (h : gCT σ τ) : gCT σ (sI τ 0 0 x) := h.keep (S := []) (S' := [0]) fr.rf (fr.sI (by decide)) (by decide) (by decide)
/-- the two ways of a question for a reading -/
theorem gCT.ask {σ τ : St} (h : gCT σ τ) (x : Int32) : (C_CG_isListed σ x = some 0 ∧ M_noReading (sI τ 0 0 0) x = some 1) ∨ (C_CG_isListed σ x = some 1 ∧ M_noReading (sI τ 0 0 0) x = some 0 ∧ ∃ n L rk sC sP T k, chO n L rk sC sP T σ (sI τ 0 0 0) ∧ (σ.1 128 0 = -1 ∨ ∃ k, k < 30 ∧ σ.1 128 0 = nI k ∧ trO n L sC T k σ) ∧ x = nI k ∧ k < (T (top L) 0 (n - 1)).2.length ∧ k < 30) := by
  have h0 := h.s0 (x := 0)
  rcases h0 with h0 | ⟨n, L, rk, sC, sP, T, h0, ht⟩
  · rcases lis_both (.inl h0.1) x with q | ⟨q1, -⟩
    · exact .inl q
    · exfalso
      unfold C_CG_isListed at q1
      by_cases c0 : x < 0
      · rw [if_pos c0] at q1; exact absurd q1 (by decide)
      · rw [if_neg c0] at q1
        unfold C_Chart_listed at q1
        rw [h0.1.1, if_pos rfl, bp_some, if_pos (by rw [Int32.lt_iff_toInt_lt] at c0; rw [Int32.le_iff_toInt_le]; omega)] at q1
        exact absurd q1 (by decide)
  · rcases lis2 h0 x with q | ⟨q1, q2, k, q3, q4, q5⟩
    · exact .inl q
    · exact .inr ⟨q1, q2, n, L, rk, sC, sP, T, k, h0, ht, q3, q4, q5⟩
theorem k_nodes {σ τ : St} {a : Int32} (h : gCT σ τ) : ∃ (r : Int32) (σ' τ' : St), C_CG_nodes 8000 σ a = some (r, σ') ∧ M_nodes 8000 τ a = some (r, τ') ∧ fr STa σ σ' ∧ fr SM0 τ τ' ∧ gCT σ' τ' := by
  unfold C_CG_nodes M_nodes
  rw [lt_is]
  have f0 : fr SM0 τ (sI τ 0 0 0) := fr.sI (by decide)
  rcases h.ask a with ⟨q1, q2⟩ | ⟨q1, q2, n, L, rk, sC, sP, T, k, hch, ht, rfl, hk, hk3⟩
  · rw [q1, q2, bp_some, bp_some, if_pos rfl, if_neg (by decide)]
    exact ⟨_, σ, _, rfl, rfl, fr.rf, f0, h.s0⟩
  · rw [q1, q2, bp_some, bp_some, if_neg (by decide), if_pos rfl]
    obtain ⟨σ', p1, p2, p3, p4⟩ := tree_C hch ht hk hk3
    obtain ⟨k1, k2, k3⟩ := root_ok hch.P hk
    obtain ⟨τ1, b1, b2, b3, b4⟩ := begin_M hch k
    obtain ⟨τ2, c1, c2⟩ := nodes22 (N := 8000) 1246 8000 0 0 [root n L k] τ1 k3 (by omega) (hch.kM (b2.wk (by decide))) k1 k2 b4 b3
    rw [p1, bp_some, p4.1, b1, bp_some, show (0 : Int32) = nI 0 from rfl, c1, Nat.zero_add]
    have f2 : fr SM0 (sI τ 0 0 0) τ2 := (b2.wk (by decide)).tr (c2.wk (by decide))
    exact ⟨_, σ', τ2, rfl, rfl, p2, f0.tr f2, gCT.now hch p2 f2 hk3 p3 p4⟩
theorem k_node {σ τ : St} {a b c : Int32} (h : gCT σ τ) : ∃ (r : Int32) (σ' τ' : St), C_CG_node 8000 σ a b c = some (r, σ') ∧ M_node 8000 τ a b c = some (r, τ') ∧ fr STa σ σ' ∧ fr SM0 τ τ' ∧ gCT σ' τ' := by
  unfold C_CG_node M_node
  rw [lt_is]
  have f0 : fr SM0 τ (sI τ 0 0 0) := fr.sI (by decide)
  rcases h.ask a with ⟨q1, q2⟩ | ⟨q1, q2, n, L, rk, sC, sP, T, k, hch, ht, rfl, hk, hk3⟩
  · rw [q1, q2, bp_some, bp_some, if_pos rfl, if_neg (by decide)]
    exact ⟨_, σ, _, rfl, rfl, fr.rf, f0, h.s0⟩
  rw [q1, q2, bp_some, bp_some, if_neg (by decide), if_pos rfl]
  obtain ⟨σ', p1, p2, p3, p4⟩ := tree_C hch ht hk hk3
  rw [p1, bp_some]
  have g0 : gCT σ' (sI τ 0 0 0) := gCT.now hch p2 fr.rf hk3 p3 p4
  by_cases b0 : b < 0
  · rw [if_pos b0, if_pos b0]
    exact ⟨_, σ', _, rfl, rfl, p2, f0, g0⟩
  rw [if_neg b0, if_neg b0, p4.1]
  obtain ⟨m, hm, rfl⟩ := nI_of b0
  have hlen : (wkr n L T k).length ≤ 1246 := wk_len _ _
  by_cases c9 : c < 0 ∨ ¬ c ≤ 3
  · have hl : (if nI m < nI (wkr n L T k).length then
        if c = (0 : Int32) then
          gd (nI m) 1246 <|
          some ((σ'.1 130 (nI m).toNatClampNeg), σ')
        else
        if c = (1 : Int32) then
          gd (nI m) 1246 <|
          some ((σ'.1 131 (nI m).toNatClampNeg), σ')
        else
        if c = (2 : Int32) then
          gd (nI m) 1246 <|
          some ((σ'.1 132 (nI m).toNatClampNeg), σ')
        else
        if c = (3 : Int32) then
          gd (nI m) 1246 <|
          some ((σ'.1 133 (nI m).toNatClampNeg), σ')
        else
          some ((-1 : Int32), σ')
      else
        some ((-1 : Int32), σ')) = some (-1, σ') := by
      have nc : ∀ z : Int32, 0 ≤ z → z ≤ 3 → ¬ c = z := by
        intro z z0 z3 e
        subst e
        rcases c9 with y | y
        · rw [Int32.lt_iff_toInt_lt] at y; rw [Int32.le_iff_toInt_le] at z0; omega
        · exact y z3
      rw [if_neg (nc 0 (by decide) (by decide)), if_neg (nc 1 (by decide) (by decide)), if_neg (nc 2 (by decide) (by decide)), if_neg (nc 3 (by decide) (by decide))]
      split <;> rfl
    refine ⟨-1, σ', sI τ 0 0 0, hl, ?_, p2, f0, g0⟩
    rcases c9 with y | y
    · rw [if_pos y]
    · rw [if_neg y]; split <;> rfl
  · have c1 : ¬ c < 0 := fun z => c9 (.inl z)
    have c2 : c ≤ 3 := Decidable.byContradiction fun z => c9 (.inr z)
    rw [if_neg c1, if_pos c2]
    obtain ⟨cc, hcc, rfl⟩ := nI_of2 (M := 3) (n := 3) (by decide) c1 c2
    obtain ⟨k1, k2, k3⟩ := root_ok hch.P hk
    obtain ⟨τ1, b1, b2, b3, b4⟩ := begin_M hch k
    have hroot := k1 (root n L k) (List.mem_singleton.mpr rfl)
    obtain ⟨ks1, ks2, ks3, ks4⟩ := kid_step hch.P hroot k2
    obtain ⟨τ2, n1, n2, n3, n4, n5, n6, n7, n8⟩ := next_M (hch.kM (b2.wk (by decide))) hroot k2 b4 b3
    have htop : (root n L k).1 < 26 := (hch.1.2.2.2.1.1.2 0 (by have := hch.1.2.2.1; omega)).1
    obtain ⟨τ3, m1, m2⟩ := node42 (N := 8000) hcc 1245 8000 0 m 0 (kid L T (root n L k) ++ []) τ2 (root n L k) (by omega) (by omega) (by omega) ((hch.kM (b2.wk (by decide))).kM (n2.wk (by decide))) hroot (fun d hd => ks1 d (by rw [List.append_nil] at hd; exact hd)) (ks3 htop) n4 n3 ⟨n5, n6, n7, n8⟩
    have hw : root n L k :: wk L T 1245 (kid L T (root n L k) ++ []) = wkr n L T k := rfl
    rw [hw] at m1
    rw [b1, bp_some, n1, bd_some, show (0 : Int32) = nI 0 from rfl]
    rw [Nat.zero_add] at m1
    have f2 : fr SM0 (sI τ 0 0 0) τ3 := ((b2.wk (by decide)).tr (n2.wk (by decide))).tr (m2.wk (by decide))
    refine ⟨_, σ', τ3, ?_, m1, p2, f0.tr f2, gCT.now hch p2 f2 hk3 p3 p4⟩
    by_cases hmv : m < (wkr n L T k).length
    · obtain ⟨w1, w2, w3, w4⟩ := p4.2.1 m hmv
      rw [if_pos (nI_lt hmv (by omega)), if_pos hmv, nI_clamp hm, w1, w2, w3, w4]
      unfold fdv
      by_cases d0 : cc = 0
      · rw [d0, if_pos rfl, if_pos rfl, gd_nI (by omega) (by decide)]
      rw [if_neg (show ¬ nI cc = nI 0 from neq 0 d0 (by omega) (by decide)), if_neg d0]
      by_cases d1 : cc = 1
      · rw [d1, if_pos (show nI 1 = 1 from rfl), if_pos rfl, gd_nI (by omega) (by decide)]
      rw [if_neg (show ¬ nI cc = 1 from neq 1 d1 (by omega) (by decide)), if_neg d1]
      by_cases d2 : cc = 2
      · rw [d2, if_pos (show nI 2 = 2 from rfl), if_pos rfl, gd_nI (by omega) (by decide)]
      have d3 : cc = 3 := by omega
      rw [if_neg (show ¬ nI cc = 2 from neq 2 d2 (by omega) (by decide)), if_neg d2, if_pos (show nI cc = 3 by rw [d3]; rfl), gd_nI (by omega) (by decide)]
    · rw [if_neg (nI_nlt (by omega) (by omega)), if_neg hmv]
theorem k_chord {σ τ : St} {a b : Int32} (h : gCT σ τ) : ∃ (r : Int32) (σ' τ' : St), C_CG_chord 8000 σ a b = some (r, σ') ∧ M_chord 8000 τ a b = some (r, τ') ∧ fr STa σ σ' ∧ fr SM0 τ τ' ∧ gCT σ' τ' := by
  unfold C_CG_chord M_chord
  rw [lt_is]
  have f0 : fr SM0 τ (sI τ 0 0 0) := fr.sI (by decide)
  rcases h.ask a with ⟨q1, q2⟩ | ⟨q1, q2, n, L, rk, sC, sP, T, k, hch, ht, rfl, hk, hk3⟩
  · rw [q1, q2, bp_some, bp_some, if_pos rfl, if_neg (by decide)]
    exact ⟨_, σ, _, rfl, rfl, fr.rf, f0, h.s0⟩
  rw [q1, q2, bp_some, bp_some, if_neg (by decide), if_pos rfl]
  unfold C_Chart_hasSlot
  rw [hch.2.2.1.1, hch.2.2.1.2.1]
  have hn := hch.1.2.1
  by_cases b0 : b < 0
  · rw [if_pos b0, if_pos b0, bp_some, if_pos rfl]
    exact ⟨_, σ, _, rfl, rfl, fr.rf, f0, h.s0⟩
  rw [if_neg b0, if_neg b0]
  obtain ⟨q, hq, rfl⟩ := nI_of b0
  by_cases c1 : n ≤ q
  · rw [if_pos (nI_le c1 hq), if_neg (nI_nlt c1 hq), bp_some, if_pos rfl]
    exact ⟨_, σ, _, rfl, rfl, fr.rf, f0, h.s0⟩
  rw [if_neg (nI_ge (by omega) (by omega)), if_pos (nI_lt (by omega) (by omega)), bp_some, if_neg (by decide)]
  obtain ⟨σ', p1, p2, p3, p4⟩ := tree_C hch ht hk hk3
  obtain ⟨d, d1, d2, d3, d4, d5, d6⟩ := p4.2.2 q (by omega)
  obtain ⟨τ2, s1, s2⟩ := symbolAt_M hch hk (show q < n by omega) d1
  have hh := itM_hi (show ¬ d.1 < 26 by omega) d3
  have hv := ((hch.kM (s2.wk (by decide))).2.1.2.2 q (d.1 - 26) (by omega) (by omega)).1
  rw [show 26 + (d.1 - 26) = d.1 by omega] at hv
  rw [p1, bp_some, gd_nI (by omega) (by decide), nI_clamp (by omega), d5, s1, bd_some, show (24 : Int32) = nI 24 from rfl, nI_mul, nI_add, gd_nI (by omega) (by decide), nI_clamp (by omega), hv]
  have f2 : fr SM0 (sI τ 0 0 0) τ2 := s2.wk (by decide)
  exact ⟨_, σ', τ2, rfl, rfl, p2, f0.tr f2, gCT.now hch p2 f2 hk3 p3 p4⟩

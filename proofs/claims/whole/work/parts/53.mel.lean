/-! cadence -/
theorem cad_both {N : Nat} {τ : St} {x s : Int32} : ∃ r, C_CG_ending s x = some r ∧ M_cadence_b56 N τ x s = some (r, τ) := by
  unfold C_CG_ending M_cadence_b56 C_CG_ending_b24 M_cadence_b85
  by_cases a1 : x = 1
  · by_cases a2 : s = 5
    · simp only [a1, a2, if_true]; exact ⟨_, rfl, rfl⟩
    · by_cases a3 : s = 4
      · simp only [a1, a2, a3, if_true, if_false]; exact ⟨_, rfl, rfl⟩
      · simp only [a1, a2, a3, if_true, if_false]; exact ⟨_, rfl, rfl⟩
  · by_cases a4 : x = 5
    · simp only [a1, a4, if_true, if_false]; exact ⟨_, rfl, rfl⟩
    · by_cases a5 : x = 6
      · by_cases a2 : s = 5
        · simp only [a1, a4, a5, a2, if_true, if_false]; exact ⟨_, rfl, rfl⟩
        · simp only [a1, a4, a5, a2, if_true, if_false]; exact ⟨_, rfl, rfl⟩
      · simp only [a1, a4, a5, if_false]; exact ⟨_, rfl, rfl⟩
theorem end_m1 (x : Int32) : C_CG_ending (-1) x = C_CG_ending 0 x := by
  unfold C_CG_ending C_CG_ending_b24
  have h1 : ¬ (-1 : Int32) = 5 := by decide
  have h2 : ¬ (-1 : Int32) = 4 := by decide
  have h3 : ¬ (0 : Int32) = 5 := by decide
  have h4 : ¬ (0 : Int32) = 4 := by decide
  simp only [h1, h2, h3, h4, if_false]
theorem deg_at {n : Nat} {L : List rl} {sC : SS} {T : TT} {k : Nat} {σ : St} (ht : trO n L sC T k σ) {q : Nat} (hq : q < n) (hn : n ≤ 24) : ∃ d, (wkr n L T k).find? (isAt q) = some d ∧ 26 ≤ d.1 ∧ d.1 < 96 ∧ C_Tree_degreeAt σ (nI q) = some (nI ((d.1 - 26) / 10 + 1)) ∧ nI (itM d.1 - 100) / 10 = nI ((d.1 - 26) / 10 + 1) := by
  obtain ⟨d, d1, d2, d3, d4, d5, d6⟩ := ht.2.2 q hq
  have hh := itM_hi (show ¬ d.1 < 26 by omega) d3
  refine ⟨d, d1, d2, d3, ?_, ?_⟩
  · unfold C_Tree_degreeAt
    rw [if_neg (nI_pos (by omega)), if_neg (show ¬ (24 : Int32) ≤ nI q from nge 24 (by omega) (by decide)), gd_nI (by omega) (by decide), nI_clamp (by omega), d6]
  · rw [show (10 : Int32) = nI 10 from rfl, pk_div (by omega) (by decide) (by decide), hh.2.2]
theorem k_cadence {σ τ : St} {a : Int32} (h : gCT σ τ) : ∃ (r : Int32) (σ' τ' : St), C_CG_cadence 8000 σ a = some (r, σ') ∧ M_cadence 8000 τ a = some (r, τ') ∧ fr STa σ σ' ∧ fr SM0 τ τ' ∧ gCT σ' τ' := by
  unfold C_CG_cadence M_cadence
  rw [lt_is]
  have f0 : fr SM0 τ (sI τ 0 0 0) := fr.sI (by decide)
  rcases h.ask a with ⟨q1, q2⟩ | ⟨q1, q2, n, L, rk, sC, sP, T, k, hch, ht, rfl, hk, hk3⟩
  · rw [q1, q2, bp_some, bp_some, if_pos rfl, if_neg (by decide)]
    exact ⟨_, σ, _, rfl, rfl, fr.rf, f0, h.s0⟩
  rw [q1, q2, bp_some, bp_some, if_neg (by decide), if_pos rfl]
  have n1 := hch.1.1
  have n2 := hch.1.2.1
  obtain ⟨σ', p1, p2, p3, p4⟩ := tree_C hch ht hk hk3
  obtain ⟨d, d1, d2, d3, d4, d5⟩ := deg_at p4 (show n - 1 < n by omega) n2
  obtain ⟨τ2, s1, s2⟩ := symbolAt_M hch hk (show n - 1 < n by omega) d1
  have hch2 := hch.kM (s2.wk (by decide))
  have f2 : fr SM0 (sI τ 0 0 0) τ2 := s2.wk (by decide)
  rw [p1, bp_some, (hch.kC p2).2.2.1.1, hch.2.2.1.2.1, nI_pred' n1, d4, s1, bd_some, d5, lt_is, hch2.2.2.1.2.1]
  by_cases hn : 2 ≤ n
  · obtain ⟨e, e1, e2, e3, e4, e5⟩ := deg_at p4 (show n - 2 < n by omega) n2
    obtain ⟨τ3, t1, t2⟩ := symbolAt_M hch2 hk (show n - 2 < n by omega) e1
    rw [if_pos (show (2 : Int32) ≤ nI n from nle 2 hn (by omega)), show (2 : Int32) = nI 2 from rfl, pk_sub hn, e4, t1, bd_some, e5, bp_some, bp_some]
    obtain ⟨r, c1, c2⟩ := cad_both (N := 8000) (τ := τ3) (x := nI ((d.1 - 26) / 10 + 1)) (s := nI ((e.1 - 26) / 10 + 1))
    rw [c1, c2, bp_some]
    have f3 : fr SM0 (sI τ 0 0 0) τ3 := f2.tr (t2.wk (by decide))
    exact ⟨r, σ', τ3, rfl, rfl, p2, f0.tr f3, gCT.now hch p2 f3 hk3 p3 p4⟩
  · have hn1 : n = 1 := by omega
    have hm : C_Tree_degreeAt σ' (nI n - 2) = some (-1) := by
      rw [hn1]
      unfold C_Tree_degreeAt
      rw [if_pos (by decide)]
    rw [if_neg (show ¬ (2 : Int32) ≤ nI n from nge 2 (by omega) (by decide)), hm, bp_some, bp_some, end_m1]
    obtain ⟨r, c1, c2⟩ := cad_both (N := 8000) (τ := τ2) (x := nI ((d.1 - 26) / 10 + 1)) (s := 0)
    rw [c1, c2, bp_some]
    exact ⟨r, σ', τ2, rfl, rfl, p2, f0.tr f2, gCT.now hch p2 f2 hk3 p3 p4⟩
/-! melody: what a note is -/
abbrev stB (x : Int32) : Prop := x = 1 ∨ x = 2 ∨ x = -1 ∨ x = -2
abbrev lpB (x : Int32) : Prop := 2 < x ∨ ¬ -2 ≤ x
abbrev tuB (x y : Int32) : Prop := (0 < x ∧ y < 0) ∨ (x < 0 ∧ 0 < y)
theorem stC_is (x : Int32) : C_CG_isStep x = some (if stB x then 1 else 0) := by
  unfold C_CG_isStep C_CG_isLeap
  have k1 : (1 : Int32).toInt = 1 := by decide
  have k2 : (2 : Int32).toInt = 2 := by decide
  have k3 : (-1 : Int32).toInt = -1 := by decide
  have k4 : (-2 : Int32).toInt = -2 := by decide
  have k5 : (0 : Int32).toInt = 0 := by decide
  have hs : stB x ↔ (x.toInt = 1 ∨ x.toInt = 2 ∨ x.toInt = -1 ∨ x.toInt = -2) := by
    unfold stB
    rw [← Int32.toInt_inj, ← Int32.toInt_inj, ← Int32.toInt_inj, ← Int32.toInt_inj, k1, k2, k3, k4]
  by_cases c0 : x = 0
  · rw [if_pos c0, if_neg (by rw [hs, c0, k5]; omega)]
  · have c0' : ¬ x.toInt = 0 := fun z => c0 (Int32.toInt_inj.mp (by rw [z, k5]))
    rw [if_neg c0]
    by_cases c1 : (2 : Int32) < x
    · rw [if_pos c1, bp_some, if_neg (by decide), if_neg (by rw [hs]; rw [Int32.lt_iff_toInt_lt, k2] at c1; omega)]
    · rw [if_neg c1]
      by_cases c2 : (-2 : Int32) ≤ x
      · rw [if_pos c2, bp_some, if_pos rfl, if_pos (by rw [hs]; rw [Int32.lt_iff_toInt_lt, k2] at c1; rw [Int32.le_iff_toInt_le, k4] at c2; omega)]
      · rw [if_neg c2, bp_some, if_neg (by decide), if_neg (by rw [hs]; rw [Int32.le_iff_toInt_le, k4] at c2; omega)]
theorem stM_is (x : Int32) : M_isStep x = some (if stB x then 1 else 0) := by
  unfold M_isStep
  by_cases h1 : x = 1
  · rw [if_pos h1, if_pos (Or.inl h1)]
  by_cases h2 : x = 2
  · rw [if_neg h1, if_pos h2, if_pos (Or.inr (Or.inl h2))]
  by_cases h3 : x = -1
  · rw [if_neg h1, if_neg h2, if_pos h3, if_pos (Or.inr (Or.inr (Or.inl h3)))]
  by_cases h4 : x = -2
  · rw [if_neg h1, if_neg h2, if_neg h3, if_pos h4, if_pos (Or.inr (Or.inr (Or.inr h4)))]
  rw [if_neg h1, if_neg h2, if_neg h3, if_neg h4, if_neg (by rintro (z | z | z | z) <;> contradiction)]
theorem lpC_is (x : Int32) : C_CG_isLeap x = some (if lpB x then 1 else 0) := by
  unfold C_CG_isLeap
  by_cases c1 : (2 : Int32) < x
  · rw [if_pos c1, if_pos (Or.inl c1)]
  · by_cases c2 : (-2 : Int32) ≤ x
    · rw [if_neg c1, if_pos c2, if_neg (by rintro (z | z) <;> contradiction)]
    · rw [if_neg c1, if_neg c2, if_pos (Or.inr c2)]
theorem lpM_is (x : Int32) : M_isMore x = some (if lpB x then 1 else 0) := lpC_is x
theorem i_nlt0 {x : Int32} : ¬ x < 0 ↔ 0 ≤ x := by
  rw [Int32.lt_iff_toInt_lt, Int32.le_iff_toInt_le]; omega
theorem i_nle0 {x : Int32} : ¬ x ≤ 0 ↔ 0 < x := by
  rw [Int32.lt_iff_toInt_lt, Int32.le_iff_toInt_le]; omega
theorem i_nge0 {x : Int32} : ¬ 0 ≤ x ↔ x < 0 := by
  rw [Int32.lt_iff_toInt_lt, Int32.le_iff_toInt_le]; omega
theorem tuM_is (x y : Int32) : M_isTurned x y = some (if tuB x y then 1 else 0) := by
  unfold M_isTurned
  have k5 : (0 : Int32).toInt = 0 := by decide
  by_cases a1 : x ≤ 0
  · rw [if_pos a1]
    by_cases a2 : 0 ≤ x
    · rw [if_pos a2, if_neg (by rintro (⟨z, -⟩ | ⟨z, -⟩)
                                · exact i_nle0.mpr z a1
                                · exact i_nlt0.mpr a2 z)]
    · rw [if_neg a2]
      by_cases a3 : y ≤ 0
      · rw [if_pos a3, if_neg (by rintro (⟨z, -⟩ | ⟨-, z⟩)
                                  · exact i_nle0.mpr z a1
                                  · exact i_nle0.mpr z a3)]
      · rw [if_neg a3, if_pos (Or.inr ⟨i_nge0.mp a2, i_nle0.mp a3⟩)]
  · rw [if_neg a1]
    have a1' := i_nle0.mp a1
    have a2 : 0 ≤ x := by rw [Int32.lt_iff_toInt_lt] at a1'; rw [Int32.le_iff_toInt_le]; omega
    by_cases a3 : y < 0
    · rw [if_pos a3, if_pos (Or.inl ⟨a1', a3⟩)]
    · rw [if_neg a3, if_pos a2, if_neg (by rintro (⟨-, z⟩ | ⟨z, -⟩)
                                           · exact a3 z
                                           · exact i_nlt0.mpr a2 z)]
def st_ (x : Int32) : Bool := decide (stB x)
def lp_ (x : Int32) : Bool := decide (lpB x)
def tu_ (x y : Int32) : Bool := decide (tuB x y)
def oI (b : Bool) : Int32 := if b then 1 else 0
theorem oI_d (p : Prop) [Decidable p] : (if p then (1 : Int32) else 0) = oI (decide p) := by
  unfold oI
  by_cases h : p
  · rw [if_pos h, if_pos (decide_eq_true h)]
  · rw [if_neg h, if_neg (by rw [decide_eq_true_iff]; exact h)]
theorem stC_o (x : Int32) : C_CG_isStep x = some (oI (st_ x)) := by rw [stC_is, oI_d]; rfl
theorem stM_o (x : Int32) : M_isStep x = some (oI (st_ x)) := by rw [stM_is, oI_d]; rfl
theorem lpC_o (x : Int32) : C_CG_isLeap x = some (oI (lp_ x)) := by rw [lpC_is, oI_d]; rfl
theorem lpM_o (x : Int32) : M_isMore x = some (oI (lp_ x)) := by rw [lpM_is, oI_d]; rfl
theorem tuM_o (x y : Int32) : M_isTurned x y = some (oI (tu_ x y)) := by rw [tuM_is, oI_d]; rfl
theorem oI_t : ¬ oI true = 0 := by decide
theorem oI_f : oI false = 0 := rfl
theorem st_0 {x : Int32} (h : st_ x = true) : ¬ x = 0 := fun z => by subst z; revert h; decide
theorem st_n (x : Int32) : (x = -1 ∨ x = -2) ↔ (st_ x = true ∧ ¬ 0 ≤ x) := by
  unfold st_
  rw [decide_eq_true_iff]
  constructor
  · rintro (z | z) <;> subst z <;> decide
  · rintro ⟨z | z | z | z, h⟩
    · subst z; exact absurd (by decide) h
    · subst z; exact absurd (by decide) h
    · exact .inl z
    · exact .inr z
def melV (P Q A B U b0 eq a0 bn : Bool) : Int32 := if P && (Q && !U) then 1 else if P && eq then 2 else if a0 && bn then 3 else if b0 then 4 else if A && (Q && U) then 5 else if P && (B && U) then 6 else 7
abbrev melW (a b : Int32) : Int32 := melV (st_ a) (st_ b) (lp_ a) (lp_ b) (tu_ a b) (decide (b = 0)) (decide (b = -a)) (decide (a = 0)) (decide (b = -1 ∨ b = -2))
theorem ite_c {α : Type} (p : Prop) [Decidable p] (x y : α) : (if p then x else y) = cond (decide p) x y := by
  by_cases h : p
  · rw [if_pos h, decide_eq_true h]; rfl
  · rw [if_neg h, decide_eq_false h]; rfl
theorem oI_c (b : Bool) : decide (oI b = 0) = !b := by cases b <;> decide
theorem mel_M {N : Nat} {τ : St} (a b : Int32) : M_melody_b216 N τ 1 a b 1 = some (melW a b, τ) := by
  unfold M_melody_b216 M_melody_b274 M_melody_b311 M_melody_b344 melW
  have n1 : decide ((1 : Int32) = 0) = false := by decide
  have hd : decide (b = -1 ∨ b = -2) = (decide (b = -1) || decide (b = -2)) := by simp
  simp only [stM_o, lpM_o, tuM_o, bp_some, ite_c, oI_c, n1, hd, cond_false]
  generalize st_ a = P
  generalize st_ b = Q
  generalize lp_ a = A
  generalize lp_ b = B
  generalize tu_ a b = U
  generalize decide (b = 0) = b0
  generalize decide (b = -a) = eq
  generalize decide (a = 0) = a0
  generalize decide (b = -1) = b1
  generalize decide (b = -2) = b2
  cases P <;> cases Q <;> cases A <;> cases B <;> cases U <;> cases b0 <;> cases eq <;> cases a0 <;> cases b1 <;> cases b2 <;> rfl
theorem i_eqn (x y z : Int32) : (z = x) ↔ (z - y = -(y - x)) := by
  constructor
  · rintro rfl; rw [Int32.neg_sub]
  · intro h
    rw [Int32.neg_sub] at h
    have := congrArg (· + y) h
    simpa using this
theorem mel_C {x y z : Int32} (hx : ¬ x = -1) (hz : ¬ z = -1) : C_CG_strangerNote x y z = some (melW (y - x) (z - y)) := by
  unfold C_CG_strangerNote
  rw [if_neg hz, lt_is, if_neg hx, lt_is]
  have he : decide (z = x) = decide (z - y = -(y - x)) := decide_eq_decide.mpr (i_eqn x y z)
  generalize y - x = a at *
  generalize z - y = b at *
  have h80 : ∀ U : Bool, (tu_ a b = U) → (U = false → (st_ a && st_ b) = false) → C_CG_strangerNote_b80 x z b a (oI U) = some (melW a b) := by
    intro U hU hUf
    unfold C_CG_strangerNote_b80 C_CG_strangerNote_b113 C_CG_strangerNote_b141 melW
    have h1 := st_0 (x := a)
    have h2 := st_n b
    have h3 : decide (b = -1 ∨ b = -2) = (st_ b && !decide (0 ≤ b)) := by
      rw [Bool.eq_iff_iff, decide_eq_true_iff, h2, Bool.and_eq_true, Bool.not_eq_true', decide_eq_false_iff_not]
    have h4 : st_ a = true → decide (a = 0) = false := fun w => decide_eq_false (h1 w)
    simp only [stC_o, lpC_o, bp_some, ite_c, oI_c, he, hU, h3]
    generalize st_ a = P at *
    generalize st_ b = Q at *
    generalize lp_ a = A at *
    generalize lp_ b = B at *
    generalize decide (b = 0) = b0 at *
    generalize decide (b = -a) = eq at *
    generalize decide (a = 0) = a0 at *
    generalize decide (0 ≤ b) = bn at *
    cases P <;> cases a0 <;> first | (exact absurd (h4 rfl) (by decide)) | (cases Q <;> cases U <;> first | (exact absurd (hUf rfl) (by decide)) | (cases A <;> cases B <;> cases b0 <;> cases eq <;> cases bn <;> rfl))
  have h51 : tu_ a b = true → C_CG_strangerNote_b51 x z b a = some (melW a b) := by
    intro hU
    have := h80 true hU (fun w => by cases w)
    unfold C_CG_strangerNote_b51
    simp only [stC_o, bp_some]
    rw [show (1 : Int32) = oI true from rfl, this]
    split
    · rfl
    · split <;> rfl
  have h55 : tu_ a b = false → C_CG_strangerNote_b55 x z b a = some (melW a b) := by
    intro hU
    unfold C_CG_strangerNote_b55
    simp only [stC_o, bp_some]
    have h8 := h80 false hU
    rw [show (0 : Int32) = oI false from rfl]
    cases hP : st_ a
    · rw [if_pos rfl]; exact h8 (fun _ => by rw [hP]; rfl)
    · rw [if_neg (by decide)]
      cases hQ : st_ b
      · rw [if_pos rfl]; exact h8 (fun _ => by rw [hP, hQ]; rfl)
      · rw [if_neg (by decide)]
        unfold melW melV
        rw [hP, hQ, hU]; rfl
  have k5 : (0 : Int32).toInt = 0 := by decide
  have tt : tuB a b → tu_ a b = true := fun w => decide_eq_true w
  have tf : ¬ tuB a b → tu_ a b = false := fun w => decide_eq_false w
  by_cases a1 : a ≤ 0
  · rw [if_pos a1]
    by_cases a2 : 0 ≤ a
    · rw [if_pos a2]
      exact h55 (tf (by rintro (⟨w, -⟩ | ⟨w, -⟩)
                        · exact i_nle0.mpr w a1
                        · exact i_nlt0.mpr a2 w))
    · rw [if_neg a2]
      by_cases a3 : b ≤ 0
      · rw [if_pos a3]
        exact h55 (tf (by rintro (⟨w, -⟩ | ⟨-, w⟩)
                          · exact i_nle0.mpr w a1
                          · exact i_nle0.mpr w a3))
      · rw [if_neg a3]
        exact h51 (tt (Or.inr ⟨i_nge0.mp a2, i_nle0.mp a3⟩))
  · rw [if_neg a1]
    have a1' := i_nle0.mp a1
    have a2 : 0 ≤ a := by rw [Int32.lt_iff_toInt_lt] at a1'; rw [Int32.le_iff_toInt_le]; omega
    by_cases a3 : b < 0
    · rw [if_pos a3]; exact h51 (tt (Or.inl ⟨a1', a3⟩))
    · rw [if_neg a3, if_pos a2]
      exact h55 (tf (by rintro (⟨-, w⟩ | ⟨w, -⟩)
                        · exact a3 w
                        · exact i_nlt0.mpr a2 w))

/-! rows of one span, and of all: what each must be -/
def dpd (L : List rl) (T T' : TT) (i j r : Nat) : Prop := ((L.getD r z0).2.2.1 = 96 → (L.getD r z0).2.1 < 26 → T (L.getD r z0).2.1 i j = T' (L.getD r z0).2.1 i j) ∧ ((L.getD r z0).2.2.1 ≠ 96 → ∀ cut, 1 ≤ cut → cut ≤ j - i → ((L.getD r z0).2.1 < 26 → T (L.getD r z0).2.1 i (i + cut - 1) = T' (L.getD r z0).2.1 i (i + cut - 1)) ∧ ((L.getD r z0).2.2.1 < 26 → T (L.getD r z0).2.2.1 (i + cut) j = T' (L.getD r z0).2.2.1 (i + cut) j))
section
variable {L : List rl} {sC sP : SS}
theorem szA_cg {T T' : TT} {x i j : Nat} (h : x < 26 → T x i j = T' x i j) : szA sC T x i j = szA sC T' x i j := by
  unfold szA
  by_cases hx : x < 26
  · rw [if_pos hx, if_pos hx, h hx]
  · rw [if_neg hx, if_neg hx]
theorem ctA_cg {T T' : TT} {x i j : Nat} (h : x < 26 → T x i j = T' x i j) : ctA sC T x i j = ctA sC T' x i j := by
  unfold ctA
  rw [szA_cg h]
  by_cases hx : x < 26
  · rw [if_pos hx, if_pos hx, h hx]
  · rw [if_neg hx, if_neg hx]
theorem prA_cg {T T' : TT} {x i j : Nat} (h : x < 26 → T x i j = T' x i j) (k : Nat) : prA sP T x i j k = prA sP T' x i j k := by
  unfold prA
  by_cases hx : x < 26
  · rw [if_pos hx, if_pos hx, h hx]
  · rw [if_neg hx, if_neg hx]
theorem gU_cg {T T' : TT} {K : Int32} {r x i j : Nat} (h : x < 26 → T x i j = T' x i j) : gU sP T K r x i j = gU sP T' K r x i j := by
  funext k
  unfold gU
  rw [prA_cg h]
theorem gB_cg {T T' : TT} {K : Int32} {r x y i j cut : Nat} (h : x < 26 → T x i (i + cut - 1) = T' x i (i + cut - 1)) (h2 : y < 26 → T y (i + cut) j = T' y (i + cut) j) : gB sP T K r x y i j cut = gB sP T' K r x y i j cut := by
  funext p q
  unfold gB
  rw [prA_cg h, prA_cg h2]
theorem cutM_cg {T T' : TT} {K : Int32} {r x y i j : Nat} : ∀ m cut R, cut + m ≤ j - i + 1 → 1 ≤ cut → (∀ c, 1 ≤ c → c ≤ j - i → (x < 26 → T x i (i + c - 1) = T' x i (i + c - 1)) ∧ (y < 26 → T y (i + c) j = T' y (i + c) j)) → cutM sC sP T K r x y i j m cut R = cutM sC sP T' K r x y i j m cut R := by
  intro m
  induction m with
  | zero => intro _ _ _ _ _; rfl
  | succ m ih =>
    intro cut R h1 h2 h
    obtain ⟨a, b⟩ := h cut h2 (by omega)
    unfold cutM
    rw [ctA_cg a, ctA_cg b, szA_cg a, szA_cg b, gB_cg a b]
    exact ih _ _ (by omega) (by omega) h
theorem cutC_cg {T T' : TT} {K : Int32} {r x y i j : Nat} : ∀ m cut R, cut + m ≤ j - i + 1 → 1 ≤ cut → (∀ c, 1 ≤ c → c ≤ j - i → (x < 26 → T x i (i + c - 1) = T' x i (i + c - 1)) ∧ (y < 26 → T y (i + c) j = T' y (i + c) j)) → cutC sC sP T K r x y i j m cut R = cutC sC sP T' K r x y i j m cut R := by
  intro m
  induction m with
  | zero => intro _ _ _ _ _; rfl
  | succ m ih =>
    intro cut R h1 h2 h
    obtain ⟨a, b⟩ := h cut h2 (by omega)
    unfold cutC
    rw [ctA_cg a, ctA_cg b, szA_cg a, szA_cg b, gB_cg a b]
    exact ih _ _ (by omega) (by omega) h
theorem conM_cg {T T' : TT} {i j r : Nat} (h : dpd L T T' i j r) (R : Row) : conM sC sP L T i j R r = conM sC sP L T' i j R r := by
  unfold conM
  by_cases hY : (L.getD r z0).2.2.1 = 96
  · have a := h.1 hY
    rw [if_pos hY, if_pos hY, ctA_cg a, szA_cg a, gU_cg a]
  · rw [if_neg hY, if_neg hY]
    exact cutM_cg _ _ _ (by omega) (by omega) (h.2 hY)
theorem conC_cg {T T' : TT} {i j r : Nat} (h : dpd L T T' i j r) (R : Row) : conC sC sP L T i j R r = conC sC sP L T' i j R r := by
  unfold conC
  by_cases hY : (L.getD r z0).2.2.1 = 96
  · have a := h.1 hY
    rw [if_pos hY, if_pos hY, ctA_cg a, szA_cg a, gU_cg a]
  · rw [if_neg hY, if_neg hY]
    exact cutC_cg _ _ _ (by omega) (by omega) (h.2 hY)
end
/-- one span's rows in place of those of a table -/
def TU (T : TT) (i j : Nat) (U : Nat → Row) : TT := fun a i' j' => if i' = i ∧ j' = j then U a else T a i' j'
theorem TU_in (T : TT) (i j : Nat) (U : Nat → Row) (a : Nat) : TU T i j U a i j = U a := if_pos ⟨rfl, rfl⟩
theorem TU_out {T : TT} {i j i' j' : Nat} {U : Nat → Row} (a : Nat) (h : ¬ (i' = i ∧ j' = j)) : TU T i j U a i' j' = T a i' j' := if_neg h
abbrev rlA (L : List rl) (r : Nat) : Nat := (L.getD r z0).1
def rulesA (L : List rl) (a : Nat) : List Nat := (List.range' 0 L.length).filter fun r => rlA L r == a
def stepv (g : (Nat → Row) → Row → Nat → Row) (A : Nat → Nat) (U : Nat → Row) (r : Nat) : Nat → Row := fun a => if a = A r then g U (U a) r else U a
theorem fold_cg {α : Type} {f f' : α → Nat → α} : ∀ (B : List Nat) (R : α), (∀ r, r ∈ B → ∀ R, f R r = f' R r) → B.foldl f R = B.foldl f' R := by
  intro B
  induction B with
  | nil => intro _ _; rfl
  | cons r B ih =>
    intro R h
    rw [List.foldl_cons, List.foldl_cons, h r List.mem_cons_self R]
    exact ih _ (fun r' hr' => h r' (List.mem_cons_of_mem _ hr'))
theorem blk {g : (Nat → Row) → Row → Nat → Row} {A rk : Nat → Nat} {nr q : Nat} (hdep : ∀ U V r, r < nr → (∀ b, rk b < rk (A r) → U b = V b) → ∀ R, g U R r = g V R r) : ∀ (B : List Nat) (U : Nat → Row), (∀ r, r ∈ B → r < nr ∧ rk (A r) = q) → B.foldl (stepv g A) U = fun a => (B.filter fun r => A r == a).foldl (g U) (U a) := by
  intro B
  induction B with
  | nil => intro U _; rfl
  | cons r B ih =>
    intro U h
    obtain ⟨h1, h2⟩ := h r List.mem_cons_self
    rw [List.foldl_cons, ih (stepv g A U r) (fun r' hr' => h r' (List.mem_cons_of_mem _ hr'))]
    funext a
    have hcg : (B.filter fun r => A r == a).foldl (g (stepv g A U r)) (stepv g A U r a) = (B.filter fun r => A r == a).foldl (g U) (stepv g A U r a) := by
      refine fold_cg _ _ (fun r' hr' R => ?_)
      obtain ⟨k1, k2⟩ := h r' (List.mem_cons_of_mem _ (List.mem_filter.mp hr').1)
      refine hdep _ _ r' k1 (fun b hb => ?_) R
      unfold stepv
      rw [if_neg (fun z => by rw [z, h2, k2] at hb; omega)]
    rw [hcg, List.filter_cons]
    by_cases e : A r = a
    · rw [if_pos (beq_iff_eq.mpr e), List.foldl_cons]
      unfold stepv
      rw [if_pos e.symm]
    · rw [if_neg (fun z => e (beq_iff_eq.mp z))]
      unfold stepv
      rw [if_neg (fun z => e z.symm)]
theorem fixv {g : (Nat → Row) → Row → Nat → Row} {A rk : Nat → Nat} {nr : Nat} (hdep : ∀ U V r, r < nr → (∀ b, rk b < rk (A r) → U b = V b) → ∀ R, g U R r = g V R r) (U0 : Nat → Row) :
    ∀ (m q : Nat) (U : Nat → Row), q + m = 26 → (∀ a, rk a < q → U a = ((List.range' 0 nr).filter fun r => A r == a).foldl (g U) (U0 a)) → (∀ a, q ≤ rk a → U a = U0 a) →
    ∀ a, rk a < 26 → (((List.range' q m).flatMap fun q => (List.range' 0 nr).filter fun r => rk (A r) == q).foldl (stepv g A) U) a = ((List.range' 0 nr).filter fun r => A r == a).foldl (g (((List.range' q m).flatMap fun q => (List.range' 0 nr).filter fun r => rk (A r) == q).foldl (stepv g A) U)) (U0 a) := by
  intro m
  induction m with
  | zero =>
    intro q U hq h1 _ a ha
    exact h1 a (by omega)
  | succ m ih =>
    intro q U hq h1 h2 a ha
    rw [List.range'_succ, List.flatMap_cons, List.foldl_append]
    have hB : ∀ r, r ∈ ((List.range' 0 nr).filter fun r => rk (A r) == q) → r < nr ∧ rk (A r) = q := fun r hr => by
      obtain ⟨k1, k2⟩ := List.mem_filter.mp hr
      have := (List.mem_range'_1.mp k1).2
      exact ⟨by omega, beq_iff_eq.mp k2⟩
    have hW := blk hdep ((List.range' 0 nr).filter fun r => rk (A r) == q) U hB
    generalize hWe : ((List.range' 0 nr).filter fun r => rk (A r) == q).foldl (stepv g A) U = W at *
    have hff : ∀ a, (((List.range' 0 nr).filter fun r => rk (A r) == q).filter fun r => A r == a) = if rk a = q then ((List.range' 0 nr).filter fun r => A r == a) else [] := by
      intro a
      rw [List.filter_filter]
      by_cases e : rk a = q
      · rw [if_pos e]
        apply List.filter_congr
        intro r _
        by_cases e2 : A r = a
        · rw [e2, e]; simp
        · have : (A r == a) = false := beq_eq_false_iff_ne.mpr e2
          rw [this, Bool.false_and]
      · rw [if_neg e]
        apply List.filter_eq_nil_iff.mpr
        intro r _ hz
        rw [Bool.and_eq_true] at hz
        have z1 := beq_iff_eq.mp hz.1
        have z2 := beq_iff_eq.mp hz.2
        rw [z1] at z2
        exact e z2
    have hWlt : ∀ b, rk b ≠ q → W b = U b := fun b hb => by
      rw [hW]
      show (((List.range' 0 nr).filter fun r => rk (A r) == q).filter fun r => A r == b).foldl (g U) (U b) = _
      rw [hff b, if_neg hb]; rfl
    refine ih (q + 1) W (by omega) (fun b hb => ?_) (fun b hb => ?_) a ha
    · have hcg : ((List.range' 0 nr).filter fun r => A r == b).foldl (g W) (U0 b) = ((List.range' 0 nr).filter fun r => A r == b).foldl (g U) (U0 b) := by
        refine fold_cg _ _ (fun r hr R => ?_)
        obtain ⟨k1, k2⟩ := List.mem_filter.mp hr
        have k3 := (List.mem_range'_1.mp k1).2
        refine hdep _ _ r (by omega) (fun c hc => hWlt c ?_) R
        rw [beq_iff_eq.mp k2] at hc
        omega
      rw [hcg]
      by_cases e : rk b = q
      · have : W b = ((List.range' 0 nr).filter fun r => A r == b).foldl (g U) (U b) := by
          rw [hW]
          show (((List.range' 0 nr).filter fun r => rk (A r) == q).filter fun r => A r == b).foldl (g U) (U b) = _
          rw [hff b, if_pos e]
        rw [this, h2 b (by omega)]
      · rw [hWlt b e]
        exact h1 b (by omega)
    · rw [hWlt b (by omega)]
      exact h2 b (by omega)
/-- all rows of a set of spans are what they must be -/
def okT (con : TT → Nat → Nat → Row → Nat → Row) (L : List rl) (D : Nat → Nat → Prop) (T : TT) : Prop := ∀ a i j, a < 26 → i ≤ j → D i j → T a i j = (rulesA L a).foldl (con T i j) (0, [])
def clsd (D : Nat → Nat → Prop) : Prop := ∀ i j cut, D i j → 1 ≤ cut → cut ≤ j - i → D i (i + cut - 1) ∧ D (i + cut) j
theorem mem_rules {L : List rl} {a r : Nat} (h : r ∈ rulesA L a) : r < L.length ∧ rlA L r = a := by
  obtain ⟨k1, k2⟩ := List.mem_filter.mp h
  have := (List.mem_range'_1.mp k1).2
  exact ⟨by omega, beq_iff_eq.mp k2⟩
theorem okT_step {con : TT → Nat → Nat → Row → Nat → Row} {L : List rl} {D D' : Nat → Nat → Prop} {T : TT} {i j : Nat} {U : Nat → Row} (hcg : ∀ T T' i j r, dpd L T T' i j r → ∀ R, con T i j R r = con T' i j R r) (h : okT con L D T) (hc : clsd D) (hn : ¬ D i j) (hD' : ∀ i' j', D' i' j' → D i' j' ∨ (i' = i ∧ j' = j))
    (hU : ∀ a, a < 26 → U a = (rulesA L a).foldl (con (TU T i j U) i j) (0, [])) : okT con L D' (TU T i j U) := by
  intro a i' j' ha hij hd
  by_cases e : i' = i ∧ j' = j
  · obtain ⟨rfl, rfl⟩ := e
    rw [TU_in]
    exact hU a ha
  · have hd1 := (hD' i' j' hd).resolve_right e
    rw [TU_out a e, h a i' j' ha hij hd1]
    refine fold_cg _ _ (fun r hr R => ?_)
    refine hcg _ _ _ _ r ⟨fun _ _ => (TU_out _ e).symm, fun _ cut h1 h2 => ?_⟩ R
    obtain ⟨s1, s2⟩ := hc i' j' cut hd1 h1 h2
    exact ⟨fun _ => (TU_out _ (fun z => hn (by rw [← z.1, ← z.2]; exact s1))).symm, fun _ => (TU_out _ (fun z => hn (by rw [← z.1, ← z.2]; exact s2))).symm⟩
/-- rules of one name come in their order -/
def gpw (A : Nat → Nat) (B : List Nat) : Prop := B.Pairwise fun r r' => A r = A r' → r < r'
theorem ordL_pw (n : Nat) (A rk : Nat → Nat) : gpw A (ordL n A rk) := by
  unfold gpw ordL
  rw [List.flatMap_def, List.pairwise_flatten]
  constructor
  · intro l hl
    obtain ⟨q, -, rfl⟩ := List.mem_map.mp hl
    have : (List.range' 0 n).Pairwise (· < ·) := List.pairwise_lt_range'
    exact List.Pairwise.imp (fun {a b} (h : a < b) => (fun _ => h : A a = A b → a < b)) (this.filter _)
  · rw [List.pairwise_map]
    have : (List.range' 0 26).Pairwise (· < ·) := List.pairwise_lt_range'
    refine this.imp (fun {q q'} h r hr r' hr' e => ?_)
    have e1 := beq_iff_eq.mp (List.mem_filter.mp hr).2
    have e2 := beq_iff_eq.mp (List.mem_filter.mp hr').2
    rw [e, e2] at e1
    omega

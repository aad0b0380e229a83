/-! both tables are the same: rows are sorted, costs are small, entries speak of what is there -/
def pv (Q : En → Prop) (E : List En) : Prop := E.length ≤ 30 ∧ (∀ k, k < E.length → Q (E.getD k e0)) ∧ ∀ k k', k < k' → k' < E.length → (E.getD k e0).1.toInt ≤ (E.getD k' e0).1.toInt
theorem ps_hi (E : List En) (c : Int32) : ∀ m k, ps E c m ≤ k → k < m → c < (E.getD k e0).1 := by
  intro m
  induction m with
  | zero => intro k _ h; omega
  | succ m ih =>
    intro k h1 h2
    unfold ps at h1
    by_cases h : c < (E.getD m e0).1
    · rw [if_pos h] at h1
      by_cases e : k = m
      · rw [e]; exact h
      · exact ih k h1 (by omega)
    · rw [if_neg h] at h1; omega
theorem ps_lo (E : List En) (c : Int32) : ∀ m, ps E c m ≠ 0 → ¬ c < (E.getD (ps E c m - 1) e0).1 := by
  intro m
  induction m with
  | zero => intro h; exact absurd rfl h
  | succ m ih =>
    intro h
    unfold ps at h ⊢
    by_cases h1 : c < (E.getD m e0).1
    · rw [if_pos h1] at h ⊢; exact ih h
    · rw [if_neg h1]; exact h1
theorem ps_sort {E : List En} {c : Int32} {m : Nat} (hm : m ≤ E.length) (hs : ∀ k k', k < k' → k' < E.length → (E.getD k e0).1.toInt ≤ (E.getD k' e0).1.toInt) {k : Nat} (hk : k < ps E c m) : (E.getD k e0).1.toInt ≤ c.toInt := by
  have h1 := ps_lo E c m (by omega)
  have h2 := ps_le E c m
  rw [Int32.lt_iff_toInt_lt] at h1
  by_cases e : k = ps E c m - 1
  · rw [e]; omega
  · have := hs k (ps E c m - 1) (by omega) (by omega)
    omega
theorem ins_pv {Q : En → Prop} {E : List En} {x : En} {p : Nat} (hp : p ≤ E.length) (hq : ∀ k, k < E.length → Q (E.getD k e0)) (hx : Q x) (hs : ∀ k k', k < k' → k' < E.length → (E.getD k e0).1.toInt ≤ (E.getD k' e0).1.toInt) (h1 : ∀ k, k < p → (E.getD k e0).1.toInt ≤ x.1.toInt) (h2 : ∀ k, p ≤ k → k < E.length → x.1.toInt ≤ (E.getD k e0).1.toInt) : (∀ k, k < (insA E p x).length → Q ((insA E p x).getD k e0)) ∧ ∀ k k', k < k' → k' < (insA E p x).length → ((insA E p x).getD k e0).1.toInt ≤ ((insA E p x).getD k' e0).1.toInt := by
  rw [insA_len hp]
  constructor
  · intro k hk
    rw [insA_get hp]
    split
    · exact hq k (by omega)
    · split
      · exact hx
      · exact hq _ (by omega)
  · intro k k' hkk hk'
    rw [insA_get hp, insA_get hp]
    by_cases c1 : k < p
    · rw [if_pos c1]
      by_cases c2 : k' < p
      · rw [if_pos c2]; exact hs k k' hkk (by omega)
      · rw [if_neg c2]
        by_cases c3 : k' = p
        · rw [if_pos c3]; exact h1 k c1
        · rw [if_neg c3]; exact Int.le_trans (h1 k c1) (h2 _ (by omega) (by omega))
    · rw [if_neg c1, if_neg (show ¬ k' < p by omega), if_neg (show ¬ k' = p by omega)]
      by_cases c3 : k = p
      · rw [if_pos c3]; exact h2 _ (by omega) (by omega)
      · rw [if_neg c3]; exact hs _ _ (by omega) (by omega)
theorem off_pv {Q : En → Prop} {E : List En} {x : En} (h : pv Q E) (hx : Q x) : pv Q (offL E x).1 ∧ 1 ≤ (offL E x).1.length := by
  obtain ⟨h1, h2, h3⟩ := h
  unfold offL
  by_cases c1 : E.length < 30
  · rw [if_pos c1]
    have hp := ps_le E x.1 E.length
    obtain ⟨a, b⟩ := ins_pv hp h2 hx h3 (fun k hk => ps_sort (Nat.le_refl _) h3 hk) (fun k hk1 hk2 => by
      have := ps_hi E x.1 E.length k hk1 hk2
      rw [Int32.lt_iff_toInt_lt] at this; omega)
    exact ⟨⟨by show (insA E _ x).length ≤ 30; rw [insA_len hp]; omega, a, b⟩, by show 1 ≤ (insA E _ x).length; rw [insA_len hp]; omega⟩
  · rw [if_neg c1]
    by_cases c2 : x.1 < (E.getD 29 e0).1
    · rw [if_pos c2]
      have hp := ps_le E x.1 29
      have ht : (E.take 29).length = 29 := by rw [List.length_take]; omega
      obtain ⟨a, b⟩ := ins_pv (E := E.take 29) (p := ps E x.1 29) (by omega) (fun k hk => by rw [take_get (by omega)]; exact h2 k (by omega)) hx (fun k k' hk hk' => by rw [take_get (by omega), take_get (by omega)]; exact h3 k k' hk (by omega)) (fun k hk => by rw [take_get (by omega)]; exact ps_sort (by omega) h3 hk) (fun k hk1 hk2 => by
        have := ps_hi E x.1 29 k hk1 (by omega)
        rw [take_get (by omega)]
        rw [Int32.lt_iff_toInt_lt] at this; omega)
      exact ⟨⟨by show (insA (E.take 29) _ x).length ≤ 30; rw [insA_len (by omega)]; omega, a, b⟩, by show 1 ≤ (insA (E.take 29) _ x).length; rw [insA_len (by omega)]; omega⟩
    · rw [if_neg c2]
      exact ⟨⟨h1, h2, h3⟩, by show 1 ≤ E.length; omega⟩
theorem unM_pv {Q : En → Prop} {g : Nat → En} : ∀ m k E, pv Q E → (∀ k', k ≤ k' → k' < k + m → Q (g k')) → pv Q (unM g m k E) ∧ (1 ≤ m ∨ 1 ≤ E.length → 1 ≤ (unM g m k E).length) := by
  intro m
  induction m with
  | zero => intro k E h _; exact ⟨h, fun h => h.resolve_left (by omega)⟩
  | succ m ih =>
    intro k E h hg
    obtain ⟨a, b⟩ := off_pv h (hg k (by omega) (by omega))
    obtain ⟨c, d⟩ := ih (k + 1) _ a (fun k' h1 h2 => hg k' (by omega) (by omega))
    exact ⟨c, fun _ => d (.inr b)⟩
theorem unC_pv {Q : En → Prop} {g : Nat → En} : ∀ m k E, pv Q E → (∀ k', k ≤ k' → k' < k + m → Q (g k')) → pv Q (unC g m k E) ∧ (1 ≤ m ∨ 1 ≤ E.length → 1 ≤ (unC g m k E).length) := by
  intro m
  induction m with
  | zero => intro k E h _; exact ⟨h, fun h => h.resolve_left (by omega)⟩
  | succ m ih =>
    intro k E h hg
    obtain ⟨a, b⟩ := off_pv h (hg k (by omega) (by omega))
    obtain ⟨c, d⟩ := ih (k + 1) _ a (fun k' h1 h2 => hg k' (by omega) (by omega))
    unfold unC
    by_cases e : (offL E (g k)).2 = true
    · rw [if_pos e]; exact ⟨c, fun _ => d (.inr b)⟩
    · rw [if_neg e]; exact ⟨a, fun _ => b⟩
theorem ouX_pv {Q : En → Prop} {G : Nat → Nat → En} {b : Nat} : ∀ m x E, x + m ≤ 30 → pv Q E → (∀ x' y', x ≤ x' → x' < x + m → y' < b → Q (G x' y')) → pv Q (ouX G b m x E) ∧ ((1 ≤ m ∧ 1 ≤ b) ∨ 1 ≤ E.length → 1 ≤ (ouX G b m x E).length) := by
  intro m
  induction m with
  | zero => intro x E _ h _; exact ⟨h, fun h => h.resolve_left (by omega)⟩
  | succ m ih =>
    intro x E hx h hg
    obtain ⟨a, a2⟩ := unC_pv (g := G x) (min b (30 / (x + 1))) 0 E h (fun k' _ h2 => hg x k' (by omega) (by omega) (by omega))
    have h30 : 1 ≤ 30 / (x + 1) := by
      rw [Nat.le_div_iff_mul_le (by omega)]; omega
    have a3 : (1 ≤ m + 1 ∧ 1 ≤ b) ∨ 1 ≤ E.length → 1 ≤ (unC (G x) (min b (30 / (x + 1))) 0 E).length := fun h => a2 (h.imp (fun z => by omega) id)
    obtain ⟨c, d⟩ := ih (x + 1) _ (by omega) a (fun x' y' h1 h2 h3 => hg x' y' (by omega) (by omega) h3)
    unfold ouX
    by_cases e : (offL E (G x 0)).2 = true
    · rw [if_pos e]; exact ⟨c, fun h => d (.inr (a3 h))⟩
    · rw [if_neg e]; exact ⟨a, a3⟩
/-- a refused offer: those behind it are refused too -/
theorem unM_ref {g : Nat → En} : ∀ m k E, ¬ E.length < 30 → (∀ k', k ≤ k' → k' < k + m → ¬ (g k').1 < (E.getD 29 e0).1) → unM g m k E = E := by
  intro m
  induction m with
  | zero => intro _ _ _ _; rfl
  | succ m ih =>
    intro k E h h2
    unfold unM
    have : (offL E (g k)).1 = E := by
      unfold offL
      rw [if_neg h, if_neg (h2 k (by omega) (by omega))]
    rw [this]
    exact ih (k + 1) E h (fun k' h3 h4 => h2 k' (by omega) (by omega))
theorem unC_unM {g : Nat → En} : ∀ m k E, (∀ k1 k2, k ≤ k1 → k1 < k2 → k2 < k + m → (g k1).1.toInt ≤ (g k2).1.toInt) → unC g m k E = unM g m k E := by
  intro m
  induction m with
  | zero => intro _ _ _; rfl
  | succ m ih =>
    intro k E h
    unfold unC unM
    by_cases e : (offL E (g k)).2 = true
    · rw [if_pos e]
      exact ih (k + 1) _ (fun k1 k2 h1 h2 h3 => h k1 k2 (by omega) h2 (by omega))
    · rw [if_neg e]
      have hr : ¬ E.length < 30 ∧ ¬ (g k).1 < (E.getD 29 e0).1 := by
        unfold offL at e
        by_cases c1 : E.length < 30
        · rw [if_pos c1] at e; exact absurd rfl e
        · rw [if_neg c1] at e
          by_cases c2 : (g k).1 < (E.getD 29 e0).1
          · rw [if_pos c2] at e; exact absurd rfl e
          · exact ⟨c1, c2⟩
      have hE : (offL E (g k)).1 = E := by
        unfold offL
        rw [if_neg hr.1, if_neg hr.2]
      rw [hE]
      refine (unM_ref m (k + 1) E hr.1 (fun k' h1 h2 => ?_)).symm
      have h3 := h k k' (by omega) (by omega) (by omega)
      have h4 := hr.2
      rw [Int32.lt_iff_toInt_lt] at h4 ⊢
      omega
/-- the most that a reading can cost -/
def bnd (w q : Nat) : Nat := 200000 * (2 * w + 1) + 1000 * (q + 1)
theorem bnd_le {w q : Nat} (h : q < 26) : bnd w q ≤ 200000 * (2 * w + 1) + 26000 := by unfold bnd; omega
def okE (L : List rl) (sC : SS) (T : TT) (B a i j : Nat) (e : En) : Prop := (∃ v, v ≤ B ∧ e.1 = nI v) ∧ ∃ r cut x y, r < L.length ∧ rlA L r = a ∧ e.2 = keyN r cut x y ∧ (((L.getD r z0).2.2.1 = 96 ∧ cut = 0 ∧ y = 0 ∧ x < szA sC T (L.getD r z0).2.1 i j) ∨ ((L.getD r z0).2.2.1 ≠ 96 ∧ 1 ≤ cut ∧ cut ≤ j - i ∧ x < szA sC T (L.getD r z0).2.1 i (i + cut - 1) ∧ y < szA sC T (L.getD r z0).2.2.1 (i + cut) j))
def good (L : List rl) (sC : SS) (T : TT) (rk : Nat → Nat) (a i j : Nat) (R : Row) : Prop := pv (okE L sC T (bnd (j - i) (rk a)) a i j) R.2 ∧ (R.2.length = 0 → R.1 = 0)
section
variable {L : List rl} {sC sP : SS} {n : Nat} {rk : Nat → Nat}
abbrev hPr (sC sP : SS) (n : Nat) : Prop := ∀ s y, s < n → y < 70 → sC s y ≠ -1 → ∃ v, v ≤ 70000 ∧ sP s y = nI v
/-- an item's size, count and prices, when its rows are good -/
theorem it_ok {T : TT} {x i j : Nat} (hP : hPr sC sP n) (hx : x < 96) (hj : j < n) (hij : i ≤ j) (hg : x < 26 → good L sC T rk x i j (T x i j)) : szA sC T x i j ≤ 30 ∧ (szA sC T x i j = 0 → ctA sC T x i j = 0) ∧ (∀ k, k < szA sC T x i j → ∃ v, v ≤ (if x < 26 then bnd (j - i) (rk x) else 70000) ∧ prA sP T x i j k = nI v) ∧ (∀ k k', k < k' → k' < szA sC T x i j → (prA sP T x i j k).toInt ≤ (prA sP T x i j k').toInt) := by
  unfold szA ctA prA
  by_cases hx26 : x < 26
  · obtain ⟨⟨h1, h2, h3⟩, h4⟩ := hg hx26
    simp only [if_pos hx26]
    exact ⟨h1, h4, fun k hk => (h2 k hk).1, h3⟩
  · simp only [if_neg hx26]
    unfold szA
    rw [if_neg hx26]
    by_cases c : i = j ∧ sC i (x - 26) ≠ -1
    · rw [if_pos c]
      exact ⟨by omega, fun h => by omega, fun k _ => hP i (x - 26) (by omega) (by omega) c.2, fun k k' h1 h2 => by omega⟩
    · rw [if_neg c]
      exact ⟨by omega, fun _ => rfl, fun k h => by omega, fun k k' h1 h2 => by omega⟩
theorem toInt_add {a b : Nat} (h : a + b < 2 ^ 31) : (nI a + nI b).toInt = (a : Int) + b := by
  rw [nI_add, nI_toInt h]; omega
theorem cut_eq {T : TT} {K : Int32} {r x y i j : Nat} : ∀ m cut R, 1 ≤ cut → cut + m ≤ j - i + 1 → (∀ c, 1 ≤ c → c ≤ j - i → (szA sC T x i (i + c - 1) = 0 → ctA sC T x i (i + c - 1) = 0) ∧ (szA sC T y (i + c) j = 0 → ctA sC T y (i + c) j = 0)) → cutC sC sP T K r x y i j m cut R = cutM sC sP T K r x y i j m cut R := by
  intro m
  induction m with
  | zero => intro _ _ _ _ _; rfl
  | succ m ih =>
    intro cut R h1 h2 h
    unfold cutC cutM
    obtain ⟨a, b⟩ := h cut h1 (by omega)
    have : (if szA sC T x i (i + cut - 1) = 0 ∨ szA sC T y (i + cut) j = 0 then R else (R.1 + ctA sC T x i (i + cut - 1) * ctA sC T y (i + cut) j, ouX (gB sP T K r x y i j cut) (szA sC T y (i + cut) j) (szA sC T x i (i + cut - 1)) 0 R.2)) = (R.1 + ctA sC T x i (i + cut - 1) * ctA sC T y (i + cut) j, ouX (gB sP T K r x y i j cut) (szA sC T y (i + cut) j) (szA sC T x i (i + cut - 1)) 0 R.2) := by
      by_cases c : szA sC T x i (i + cut - 1) = 0 ∨ szA sC T y (i + cut) j = 0
      · rw [if_pos c]
        by_cases c1 : szA sC T x i (i + cut - 1) = 0
        · rw [c1, a c1, Int64.zero_mul, Int64.add_zero]; rfl
        · have c2 := c.resolve_left c1
          rw [c2, b c2, Int64.mul_zero, Int64.add_zero, ouX_b0]
      · rw [if_neg c]
    rw [this]
    exact ih _ _ (by omega) (by omega) h
/-- the rows that a rule reads are good -/
def dgood (L : List rl) (sC : SS) (T : TT) (rk : Nat → Nat) (i j r : Nat) : Prop := ((L.getD r z0).2.2.1 = 96 → (L.getD r z0).2.1 < 26 → good L sC T rk (L.getD r z0).2.1 i j (T (L.getD r z0).2.1 i j)) ∧ ((L.getD r z0).2.2.1 ≠ 96 → ∀ c, 1 ≤ c → c ≤ j - i → ((L.getD r z0).2.1 < 26 → good L sC T rk (L.getD r z0).2.1 i (i + c - 1) (T (L.getD r z0).2.1 i (i + c - 1))) ∧ ((L.getD r z0).2.2.1 < 26 → good L sC T rk (L.getD r z0).2.2.1 (i + c) j (T (L.getD r z0).2.2.1 (i + c) j)))
theorem con_eq {T : TT} {i j r : Nat} (hg : gL L rk) (hP : hPr sC sP n) (hn : n ≤ 24) (hr : r < L.length) (hij : i ≤ j) (hj : j < n) (hd : dgood L sC T rk i j r) (R : Row) : conC sC sP L T i j R r = conM sC sP L T i j R r := by
  obtain ⟨k1, k2, k3, k4, -⟩ := hg.1.2 r hr
  unfold conC conM
  by_cases hY : (L.getD r z0).2.2.1 = 96
  · rw [if_pos hY, if_pos hY]
    obtain ⟨q1, q2, q3, q4⟩ := it_ok hP k2 hj hij (hd.1 hY)
    by_cases h0 : szA sC T (L.getD r z0).2.1 i j = 0
    · rw [if_pos h0, h0, q2 h0, Int64.add_zero]; rfl
    · rw [if_neg h0, unC_unM]
      intro k1' k2' _ h2 h3
      obtain ⟨v1, w1, e1⟩ := q3 k1' (by omega)
      obtain ⟨v2, w2, e2⟩ := q3 k2' (by omega)
      have h5 := q4 k1' k2' h2 (by omega)
      have hb : (if (L.getD r z0).2.1 < 26 then bnd (j - i) (rk (L.getD r z0).2.1) else 70000) ≤ 10000000 := by
        split
        · rename_i hX
          have := hg.2.1 _ hX
          unfold bnd; omega
        · omega
      unfold gU
      show (nI (L.getD r z0).2.2.2.1 + prA sP T (L.getD r z0).2.1 i j k1').toInt ≤ (nI (L.getD r z0).2.2.2.1 + prA sP T (L.getD r z0).2.1 i j k2').toInt
      rw [e1, e2, nI_toInt (by omega), nI_toInt (by omega)] at h5
      rw [e1, e2, toInt_add (by omega), toInt_add (by omega)]
      omega
  · rw [if_neg hY, if_neg hY]
    refine cut_eq _ _ _ (by omega) (by omega) (fun c h1 h2 => ?_)
    obtain ⟨a, b⟩ := hd.2 hY c h1 h2
    exact ⟨(it_ok hP k2 (by omega) (by omega) a).2.1, (it_ok hP (by omega) hj (by omega) b).2.1⟩
theorem cut_good {T : TT} {K B : Nat} {r x y i j a : Nat} (hr : r < L.length) (hA : rlA L r = a) (hX : (L.getD r z0).2.1 = x) (hY : (L.getD r z0).2.2.1 = y) (hY96 : y ≠ 96) : ∀ m cut R, 1 ≤ cut → cut + m ≤ j - i + 1 → pv (okE L sC T B a i j) R.2 → (R.2.length = 0 → R.1 = 0) → (∀ c, 1 ≤ c → c ≤ j - i → szA sC T x i (i + c - 1) ≤ 30 ∧ (szA sC T x i (i + c - 1) = 0 → ctA sC T x i (i + c - 1) = 0) ∧ (szA sC T y (i + c) j = 0 → ctA sC T y (i + c) j = 0) ∧ ∀ p q, p < szA sC T x i (i + c - 1) → q < szA sC T y (i + c) j → ∃ v, v ≤ B ∧ (nI K + prA sP T x i (i + c - 1) p) + prA sP T y (i + c) j q = nI v) →
    pv (okE L sC T B a i j) (cutM sC sP T (nI K) r x y i j m cut R).2 ∧ ((cutM sC sP T (nI K) r x y i j m cut R).2.length = 0 → (cutM sC sP T (nI K) r x y i j m cut R).1 = 0) := by
  intro m
  induction m with
  | zero => intro _ R _ _ h1 h2 _; exact ⟨h1, h2⟩
  | succ m ih =>
    intro cut R h1 h2 h3 h4 h
    unfold cutM
    obtain ⟨s1, s2, s3, s4⟩ := h cut h1 (by omega)
    obtain ⟨a1, a2⟩ := ouX_pv (Q := okE L sC T B a i j) (G := gB sP T (nI K) r x y i j cut) (b := szA sC T y (i + cut) j) (szA sC T x i (i + cut - 1)) 0 R.2 (by omega) h3 (fun p q _ hp hq => ⟨s4 p q (by omega) hq, r, cut, p, q, hr, hA, rfl, .inr ⟨by rw [hY]; exact hY96, h1, by omega, by rw [hX]; omega, by rw [hY]; exact hq⟩⟩)
    refine ih _ _ (by omega) (by omega) a1 (fun hl => ?_) h
    show R.1 + ctA sC T x i (i + cut - 1) * ctA sC T y (i + cut) j = 0
    have hl' : (ouX (gB sP T (nI K) r x y i j cut) (szA sC T y (i + cut) j) (szA sC T x i (i + cut - 1)) 0 R.2).length = 0 := hl
    have hR : R.2.length = 0 := by
      rcases Nat.eq_zero_or_pos R.2.length with z | z
      · exact z
      · have := a2 (.inr z); omega
    rw [h4 hR]
    by_cases c1 : szA sC T x i (i + cut - 1) = 0
    · rw [s2 c1, Int64.zero_mul, Int64.add_zero]
    · by_cases c2 : szA sC T y (i + cut) j = 0
      · rw [s3 c2, Int64.mul_zero, Int64.add_zero]
      · have := a2 (.inl ⟨by omega, by omega⟩); omega
theorem con_good {T : TT} {i j r a : Nat} (hg : gL L rk) (hP : hPr sC sP n) (hn : n ≤ 24) (hr : r < L.length) (hA : rlA L r = a) (hij : i ≤ j) (hj : j < n) (hd : dgood L sC T rk i j r) {R : Row} (hR : good L sC T rk a i j R) : good L sC T rk a i j (conM sC sP L T i j R r) := by
  obtain ⟨k1, k2, k3, k4, -⟩ := hg.1.2 r hr
  unfold conM
  by_cases hY : (L.getD r z0).2.2.1 = 96
  · rw [if_pos hY]
    obtain ⟨q1, q2, q3, q4⟩ := it_ok hP k2 hj hij (hd.1 hY)
    obtain ⟨a1, a2⟩ := unM_pv (Q := okE L sC T (bnd (j - i) (rk a)) a i j) (g := gU sP T (nI (L.getD r z0).2.2.2.1) r (L.getD r z0).2.1 i j) (szA sC T (L.getD r z0).2.1 i j) 0 R.2 hR.1 (fun k _ hk => by
      refine ⟨?_, r, 0, k, 0, hr, hA, rfl, .inl ⟨hY, rfl, rfl, by omega⟩⟩
      obtain ⟨v, w1, e1⟩ := q3 k (by omega)
      refine ⟨(L.getD r z0).2.2.2.1 + v, ?_, by show nI _ + prA sP T _ i j k = _; rw [e1, nI_add]⟩
      by_cases hX : (L.getD r z0).2.1 < 26
      · rw [if_pos hX] at w1
        have := hg.2.2 r hr ((isU_iff _).mpr ⟨hY, hX⟩)
        rw [show (L.getD r z0).1 = a from hA] at this
        unfold bnd at w1 ⊢; omega
      · rw [if_neg hX] at w1
        unfold bnd; omega)
    refine ⟨a1, fun hl => ?_⟩
    show R.1 + ctA sC T (L.getD r z0).2.1 i j = 0
    have hl' : (unM (gU sP T (nI (L.getD r z0).2.2.2.1) r (L.getD r z0).2.1 i j) (szA sC T (L.getD r z0).2.1 i j) 0 R.2).length = 0 := hl
    have h0 : szA sC T (L.getD r z0).2.1 i j = 0 := by
      rcases Nat.eq_zero_or_pos (szA sC T (L.getD r z0).2.1 i j) with z | z
      · exact z
      · have := a2 (.inl z); omega
    have hR0 : R.2.length = 0 := by
      rcases Nat.eq_zero_or_pos R.2.length with z | z
      · exact z
      · have := a2 (.inr z); omega
    rw [hR.2 hR0, q2 h0]; rfl
  · rw [if_neg hY]
    refine cut_good hr hA rfl rfl hY _ _ _ (by omega) (by omega) hR.1 hR.2 (fun c h1 h2 => ?_)
    obtain ⟨d1, d2⟩ := hd.2 hY c h1 h2
    obtain ⟨p1, p2, p3, -⟩ := it_ok hP k2 (show i + c - 1 < n by omega) (by omega) d1
    obtain ⟨-, q2, q3, -⟩ := it_ok hP (show (L.getD r z0).2.2.1 < 96 by omega) hj (by omega) d2
    refine ⟨p1, p2, q2, fun p q hp hq => ?_⟩
    obtain ⟨v1, w1, e1⟩ := p3 p hp
    obtain ⟨v2, w2, e2⟩ := q3 q hq
    refine ⟨(L.getD r z0).2.2.2.1 + v1 + v2, ?_, by rw [e1, e2, nI_add, nI_add]⟩
    have b1 : v1 ≤ 200000 * (2 * (c - 1) + 1) + 26000 := by
      split at w1
      · rename_i hX
        rw [show i + c - 1 - i = c - 1 by omega] at w1
        exact Nat.le_trans w1 (bnd_le (hg.2.1 _ hX))
      · omega
    have b2 : v2 ≤ 200000 * (2 * (j - (i + c)) + 1) + 26000 := by
      split at w2
      · rename_i hX
        exact Nat.le_trans w2 (bnd_le (hg.2.1 _ hX))
      · omega
    unfold bnd
    omega
/-- what the class and the reference hold is one table -/
theorem uniq {T T' : TT} (hg : gL L rk) (hP : hPr sC sP n) (hn : n ≤ 24) (h : okT (conC sC sP L) L (fun _ j => j < n) T) (h' : okT (conM sC sP L) L (fun _ j => j < n) T') :
    ∀ m a i j, 26 * (j - i) + rk a = m → a < 26 → i ≤ j → j < n → T a i j = T' a i j ∧ good L sC T rk a i j (T a i j) := by
  intro m
  induction m using Nat.strongRecOn with
  | ind m ih =>
    intro a i j hm ha hij hj
    have dep : ∀ r, r ∈ rulesA L a → r < L.length ∧ rlA L r = a ∧ dgood L sC T rk i j r ∧ dpd L T T' i j r := by
      intro r hr
      obtain ⟨r1, r2⟩ := mem_rules hr
      have r2' : (L.getD r z0).1 = a := r2
      have u1 : (L.getD r z0).2.2.1 = 96 → (L.getD r z0).2.1 < 26 → T (L.getD r z0).2.1 i j = T' (L.getD r z0).2.1 i j ∧ good L sC T rk (L.getD r z0).2.1 i j (T (L.getD r z0).2.1 i j) := fun hY hX => by
        have := hg.2.2 r r1 ((isU_iff _).mpr ⟨hY, hX⟩)
        rw [r2'] at this
        exact ih _ (by omega) _ i j rfl hX hij hj
      have u2 : ∀ c, 1 ≤ c → c ≤ j - i → ((L.getD r z0).2.1 < 26 → T (L.getD r z0).2.1 i (i + c - 1) = T' (L.getD r z0).2.1 i (i + c - 1) ∧ good L sC T rk (L.getD r z0).2.1 i (i + c - 1) (T (L.getD r z0).2.1 i (i + c - 1))) ∧ ((L.getD r z0).2.2.1 < 26 → T (L.getD r z0).2.2.1 (i + c) j = T' (L.getD r z0).2.2.1 (i + c) j ∧ good L sC T rk (L.getD r z0).2.2.1 (i + c) j (T (L.getD r z0).2.2.1 (i + c) j)) := fun c h1 h2 =>
        ⟨fun hX => by have := hg.2.1 _ hX; exact ih _ (by omega) _ i (i + c - 1) rfl hX (by omega) (by omega), fun hX => by have := hg.2.1 _ hX; exact ih _ (by omega) _ (i + c) j rfl hX (by omega) hj⟩
      exact ⟨r1, r2, ⟨fun hY hX => (u1 hY hX).2, fun _ c h1 h2 => ⟨fun hX => ((u2 c h1 h2).1 hX).2, fun hX => ((u2 c h1 h2).2 hX).2⟩⟩, ⟨fun hY hX => (u1 hY hX).1, fun _ c h1 h2 => ⟨fun hX => ((u2 c h1 h2).1 hX).1, fun hX => ((u2 c h1 h2).2 hX).1⟩⟩⟩
    have e1 : T a i j = (rulesA L a).foldl (conM sC sP L T i j) (0, []) := by
      rw [h a i j ha hij hj]
      exact fold_cg _ _ (fun r hr R => con_eq hg hP hn (dep r hr).1 hij hj (dep r hr).2.2.1 R)
    constructor
    · rw [e1, h' a i j ha hij hj]
      exact fold_cg _ _ (fun r hr R => conM_cg (dep r hr).2.2.2 R)
    · rw [e1]
      have : ∀ (B : List Nat) (R : Row), (∀ r, r ∈ B → r ∈ rulesA L a) → good L sC T rk a i j R → good L sC T rk a i j (B.foldl (conM sC sP L T i j) R) := by
        intro B
        induction B with
        | nil => intro R _ h; exact h
        | cons r B ihB =>
          intro R hB hR
          rw [List.foldl_cons]
          have hr := dep r (hB r List.mem_cons_self)
          exact ihB _ (fun r' hr' => hB r' (List.mem_cons_of_mem _ hr')) (con_good hg hP hn hr.1 hr.2.1 hij hj hr.2.2.1 hR)
      exact this _ _ (fun _ h => h) ⟨⟨by show 0 ≤ 30; omega, fun k hk => absurd hk (by show ¬ k < 0; omega), fun k k' _ hk => absurd hk (by show ¬ k' < 0; omega)⟩, fun _ => rfl⟩
end

/-! what a rule adds to a row -/
abbrev TT : Type := Nat → Nat → Nat → Row
abbrev SS : Type := Nat → Nat → Int32
def szA (sC : SS) (T : TT) (x i j : Nat) : Nat := if x < 26 then (T x i j).2.length else if i = j ∧ sC i (x - 26) ≠ -1 then 1 else 0
def ctA (sC : SS) (T : TT) (x i j : Nat) : Int64 := if x < 26 then (T x i j).1 else lN (szA sC T x i j)
def prA (sP : SS) (T : TT) (x i j k : Nat) : Int32 := if x < 26 then ((T x i j).2.getD k e0).1 else sP i (x - 26)
/-- offers one behind the other: all; till one is refused -/
def unM (g : Nat → En) : Nat → Nat → List En → List En
  | 0, _, E => E
  | m + 1, k, E => unM g m (k + 1) (offL E (g k)).1
def unC (g : Nat → En) : Nat → Nat → List En → List En
  | 0, _, E => E
  | m + 1, k, E => if (offL E (g k)).2 then unC g m (k + 1) (offL E (g k)).1 else (offL E (g k)).1
def ouX (G : Nat → Nat → En) (b : Nat) : Nat → Nat → List En → List En
  | 0, _, E => E
  | m + 1, x, E => if (offL E (G x 0)).2 then ouX G b m (x + 1) (unC (G x) (min b (30 / (x + 1))) 0 E) else unC (G x) (min b (30 / (x + 1))) 0 E
def gU (sP : SS) (T : TT) (K : Int32) (r x i j k : Nat) : En := (K + prA sP T x i j k, keyN r 0 k 0)
def gB (sP : SS) (T : TT) (K : Int32) (r x y i j cut p q : Nat) : En := ((K + prA sP T x i (i + cut - 1) p) + prA sP T y (i + cut) j q, keyN r cut p q)
def cutM (sC sP : SS) (T : TT) (K : Int32) (r x y i j : Nat) : Nat → Nat → Row → Row
  | 0, _, R => R
  | m + 1, cut, R => cutM sC sP T K r x y i j m (cut + 1) (R.1 + ctA sC T x i (i + cut - 1) * ctA sC T y (i + cut) j, ouX (gB sP T K r x y i j cut) (szA sC T y (i + cut) j) (szA sC T x i (i + cut - 1)) 0 R.2)
def cutC (sC sP : SS) (T : TT) (K : Int32) (r x y i j : Nat) : Nat → Nat → Row → Row
  | 0, _, R => R
  | m + 1, cut, R => cutC sC sP T K r x y i j m (cut + 1) (if szA sC T x i (i + cut - 1) = 0 ∨ szA sC T y (i + cut) j = 0 then R else (R.1 + ctA sC T x i (i + cut - 1) * ctA sC T y (i + cut) j, ouX (gB sP T K r x y i j cut) (szA sC T y (i + cut) j) (szA sC T x i (i + cut - 1)) 0 R.2))
def conM (sC sP : SS) (L : List rl) (T : TT) (i j : Nat) (R : Row) (r : Nat) : Row :=
  if (L.getD r z0).2.2.1 = 96 then (R.1 + ctA sC T (L.getD r z0).2.1 i j, unM (gU sP T (nI (L.getD r z0).2.2.2.1) r (L.getD r z0).2.1 i j) (szA sC T (L.getD r z0).2.1 i j) 0 R.2)
  else cutM sC sP T (nI (L.getD r z0).2.2.2.1) r (L.getD r z0).2.1 (L.getD r z0).2.2.1 i j (j - i) 1 R
def conC (sC sP : SS) (L : List rl) (T : TT) (i j : Nat) (R : Row) (r : Nat) : Row :=
  if (L.getD r z0).2.2.1 = 96 then (if szA sC T (L.getD r z0).2.1 i j = 0 then R else (R.1 + ctA sC T (L.getD r z0).2.1 i j, unC (gU sP T (nI (L.getD r z0).2.2.2.1) r (L.getD r z0).2.1 i j) (szA sC T (L.getD r z0).2.1 i j) 0 R.2))
  else cutC sC sP T (nI (L.getD r z0).2.2.2.1) r (L.getD r z0).2.1 (L.getD r z0).2.2.1 i j (j - i) 1 R
/-! keys stay below -/
theorem keysLt.mono {E : List En} {a b : Nat} (h : keysLt E a) (hab : a ≤ b) : keysLt E b := fun k hk => Nat.lt_of_lt_of_le (h k hk) hab
theorem off_keys {E : List En} {x : En} (h : keysLt E x.2) : keysLt (offL E x).1 (x.2 + 1) := by
  unfold offL
  by_cases h1 : E.length < 30
  · rw [if_pos h1]
    have hp := ps_le E x.1 E.length
    intro k hk
    have hk2 : k < (insA E (ps E x.1 E.length) x).length := hk
    rw [insA_len hp] at hk2
    show ((insA E (ps E x.1 E.length) x).getD k e0).2 < x.2 + 1
    rw [insA_get hp]
    by_cases c1 : k < ps E x.1 E.length
    · rw [if_pos c1]; have := h k (by omega); omega
    · rw [if_neg c1]
      by_cases c2 : k = ps E x.1 E.length
      · rw [if_pos c2]; omega
      · rw [if_neg c2]; have := h (k - 1) (by omega); omega
  · rw [if_neg h1]
    by_cases h2 : x.1 < (E.getD 29 e0).1
    · rw [if_pos h2]
      have hp := ps_le E x.1 29
      have ht : (E.take 29).length = 29 := by rw [List.length_take]; omega
      intro k hk
      have hk2 : k < (insA (E.take 29) (ps E x.1 29) x).length := hk
      rw [insA_len (by omega), ht] at hk2
      show ((insA (E.take 29) (ps E x.1 29) x).getD k e0).2 < x.2 + 1
      rw [insA_get (by omega)]
      by_cases c1 : k < ps E x.1 29
      · rw [if_pos c1, take_get (by omega)]; have := h k (by omega); omega
      · rw [if_neg c1]
        by_cases c2 : k = ps E x.1 29
        · rw [if_pos c2]; omega
        · rw [if_neg c2, take_get (by omega)]; have := h (k - 1) (by omega); omega
    · rw [if_neg h2]; exact h.mono (by omega)
/-- the grammar and the symbols as the class's chart, and the reference's, hold them -/
def envC (L : List rl) (sC sP : SS) (n : Nat) (σ : St) : Prop := (∀ r, r < L.length → σ.1 160 r = nI (L.getD r z0).1 ∧ σ.1 161 r = nI (L.getD r z0).2.1 ∧ σ.1 162 r = oY (L.getD r z0).2.2.1 ∧ σ.1 163 r = nI (L.getD r z0).2.2.2.1) ∧ ∀ s y, s < n → y < 70 → σ.1 176 (70 * s + y) = sC s y ∧ σ.1 177 (70 * s + y) = sP s y
def envM (L : List rl) (sC sP : SS) (n : Nat) (τ : St) : Prop := (∀ r, r < L.length → τ.1 26 r = nI (L.getD r z0).1 ∧ τ.1 27 r = nI (itM (L.getD r z0).2.1) ∧ τ.1 28 r = oM (L.getD r z0).2.2.1 ∧ τ.1 29 r = nI (L.getD r z0).2.2.2.1) ∧ ∀ s y, s < n → y < 70 → τ.1 31 (24 * (itM (26 + y) - 100) + s) = sC s y ∧ (sC s y ≠ -1 → τ.1 32 (24 * (itM (26 + y) - 100) + s) = sP s y)
def symO (sC : SS) (n : Nat) : Prop := ∀ s y, s < n → y < 70 → sC s y = -1 ∨ ∃ c, c < 108 ∧ sC s y = nI c
theorem envC.keep {L : List rl} {sC sP : SS} {n : Nat} {σ σ' : St} (h : envC L sC sP n σ) (hf : fr [115, 116, 117] σ σ') : envC L sC sP n σ' := by
  refine ⟨fun r hr => ?_, fun s y hs hy => ?_⟩
  · rw [hf.1 160 (by decide), hf.1 161 (by decide), hf.1 162 (by decide), hf.1 163 (by decide)]; exact h.1 r hr
  · rw [hf.1 176 (by decide), hf.1 177 (by decide)]; exact h.2 s y hs hy
theorem envM.keep {L : List rl} {sC sP : SS} {n : Nat} {σ σ' : St} (h : envM L sC sP n σ) (hf : fr [33, 34, 35, 36] σ σ') : envM L sC sP n σ' := by
  refine ⟨fun r hr => ?_, fun s y hs hy => ?_⟩
  · rw [hf.1 26 (by decide), hf.1 27 (by decide), hf.1 28 (by decide), hf.1 29 (by decide)]; exact h.1 r hr
  · rw [hf.1 31 (by decide), hf.1 32 (by decide)]; exact h.2 s y hs hy
/-- the row that an item reads, if it is a name -/
def depC (T : TT) (x i j : Nat) (σ : St) : Prop := x < 26 → rowC (σ.2 115) (σ.2 117) (σ.1 116) (rwC x i j) (T x i j)
def depM (T : TT) (x i j : Nat) (τ : St) : Prop := x < 26 → rowM (τ.2 34) (τ.1 33) (τ.1 35) (τ.1 36) (clM x i j) (T x i j)
section
variable {L : List rl} {sC sP : SS} {n : Nat} {T : TT} {σ τ : St}
theorem depC.keep {x i j ρ : Nat} {σ' : St} (h : depC T x i j σ) (hne : x < 26 → rwC x i j ≠ ρ) (hs : sameC ρ σ σ') : depC T x i j σ' := fun hx => rowC_keep hs (hne hx) (h hx)
theorem depM.keep {x i j ρ : Nat} {σ' : St} (h : depM T x i j σ) (hne : x < 26 → clM x i j ≠ ρ) (hs : sameM ρ σ σ') : depM T x i j σ' := fun hx => rowM_keep hs (hne hx) (h hx)
theorem size_C (he : envC L sC sP n σ) {x i j : Nat} (hx : x < 96) (hij : i ≤ j) (hj : j < n) (hn : n ≤ 24) (hd : depC T x i j σ) : C_Chart_sizeOf σ (nI x) (nI i) (nI j) = some (nI (szA sC T x i j)) := by
  unfold C_Chart_sizeOf szA
  by_cases h26 : x < 26
  · obtain ⟨-, r2, -⟩ := hd h26
    have hr := rwC_lt h26 hij (by omega)
    rw [if_neg (show ¬ (26 : Int32) ≤ nI x from nge 26 h26 (by decide)), rowOf_C (by omega), bp_some, gd_nI hr (by decide), nI_clamp (by omega), r2, if_pos h26]
  · rw [if_pos (show (26 : Int32) ≤ nI x from nle 26 (by omega) (by omega)), if_neg h26]
    by_cases hij2 : i = j
    · have hs := (he.2 i (x - 26) (by omega) (by omega)).1
      rw [if_pos (by rw [hij2])]
      unfold C_Chart_chordOf
      rw [show (70 : Int32) = nI 70 from rfl, pk_mul, nI_add, show (26 : Int32) = nI 26 from rfl, pk_sub (by omega), gd_nI (by omega) (by decide), nI_clamp (by omega), show i * 70 + x - 26 = 70 * i + (x - 26) by omega, hs, bp_some]
      by_cases hc : sC i (x - 26) = -1
      · rw [if_pos hc, if_neg (fun z => z.2 hc)]; rfl
      · rw [if_neg hc, if_pos ⟨hij2, hc⟩]; rfl
    · rw [if_neg (neq j hij2 (by omega) (by omega)), if_neg (fun z => hij2 z.1)]; rfl
theorem szA_le {x i j : Nat} (hl : x < 26 → (T x i j).2.length ≤ 30) : szA sC T x i j ≤ 30 := by
  unfold szA
  by_cases h26 : x < 26
  · rw [if_pos h26]; exact hl h26
  · rw [if_neg h26]; split <;> omega
theorem count_C (he : envC L sC sP n σ) {x i j : Nat} (hx : x < 96) (hij : i ≤ j) (hj : j < n) (hn : n ≤ 24) (hd : depC T x i j σ) : C_Chart_countOf σ (nI x) (nI i) (nI j) = some (ctA sC T x i j) := by
  unfold C_Chart_countOf ctA
  by_cases h26 : x < 26
  · obtain ⟨r1, -⟩ := hd h26
    have hr := rwC_lt h26 hij (by omega)
    rw [if_neg (show ¬ (26 : Int32) ≤ nI x from nge 26 h26 (by decide)), rowOf_C (by omega), bp_some, gd_nI hr (by decide), nI_clamp (by omega), r1, if_pos h26]
  · rw [if_pos (show (26 : Int32) ≤ nI x from nle 26 (by omega) (by omega)), if_neg h26, size_C he hx hij hj hn hd, bp_some, nI_l (by
      unfold szA
      rw [if_neg h26]
      split <;> omega)]
theorem price_C (he : envC L sC sP n σ) {x i j k : Nat} (hx : x < 96) (hij : i ≤ j) (hj : j < n) (hn : n ≤ 24) (hd : depC T x i j σ) (hk : k < szA sC T x i j) : C_Chart_priceOf σ (nI x) (nI i) (nI j) (nI k) = some (prA sP T x i j k) := by
  unfold C_Chart_priceOf prA
  unfold szA at hk
  by_cases h26 : x < 26
  · rw [if_pos h26] at hk
    obtain ⟨-, -, r3, r4⟩ := hd h26
    obtain ⟨q1, q2⟩ := r4 k hk
    have hr := rwC_lt h26 hij (by omega)
    rw [if_neg (show ¬ (26 : Int32) ≤ nI x from nge 26 h26 (by decide)), if_pos h26]
    unfold C_Chart_entryAt
    rw [rowOf_C (by omega), bp_some, show (30 : Int32) = nI 30 from rfl, pk_mul, nI_add, gd_nI (by omega) (by decide), nI_clamp (by omega), show rwC x i j * 30 + k = 30 * rwC x i j + k by omega, q1, bp_some, ent_price _ q2]
  · have hs := (he.2 i (x - 26) (by omega) (by omega)).2
    rw [if_pos (show (26 : Int32) ≤ nI x from nle 26 (by omega) (by omega)), if_neg h26, show (70 : Int32) = nI 70 from rfl, pk_mul, nI_add, show (26 : Int32) = nI 26 from rfl, pk_sub (by omega), gd_nI (by omega) (by decide), nI_clamp (by omega), show i * 70 + x - 26 = 70 * i + (x - 26) by omega, hs]
theorem itM_big {x : Nat} (h26 : ¬ x < 26) (hx : x < 96) : 110 ≤ itM x ∧ itM x < 180 := by
  unfold itM
  rw [if_neg h26]
  split <;> omega
theorem size_M (he : envM L sC sP n τ) (ho : symO sC n) {x i j : Nat} (hx : x < 96) (hij : i ≤ j) (hj : j < n) (hn : n ≤ 24) (hd : depM T x i j τ) : M_itemSize τ (nI (itM x)) (nI i) (nI j) = some (nI (szA sC T x i j)) := by
  unfold M_itemSize szA
  by_cases h26 : x < 26
  · obtain ⟨-, r2, -⟩ := hd h26
    have hr := clM_lt h26 hij (show j < 24 by omega)
    rw [itM_26 h26, if_neg (show ¬ (100 : Int32) ≤ nI x from nge 100 (by omega) (by decide)), cellOf_M (by omega), bp_some, gd_nI hr (by decide), nI_clamp (by omega), r2, if_pos h26]
  · obtain ⟨b1, b2⟩ := itM_big h26 hx
    rw [if_pos (show (100 : Int32) ≤ nI (itM x) from nle 100 (by omega) (by omega)), if_neg h26]
    by_cases hij2 : i = j
    · have hs := (he.2 i (x - 26) (by omega) (by omega)).1
      rw [show 26 + (x - 26) = x by omega] at hs
      rw [if_pos (by rw [hij2]), show (100 : Int32) = nI 100 from rfl, pk_sub (by omega), show (24 : Int32) = nI 24 from rfl, pk_mul, nI_add, gd_nI (by omega) (by decide), nI_clamp (by omega), hs]
      rcases ho i (x - 26) (by omega) (by omega) with e | ⟨c, c1, c2⟩
      · rw [if_pos (by rw [e]; decide), if_neg (fun z => z.2 e)]; rfl
      · rw [if_neg (by rw [c2]; exact nI_pos (by omega)), if_pos ⟨hij2, by rw [c2]; exact nI_nm1 (by omega)⟩]; rfl
    · rw [if_neg (neq j hij2 (by omega) (by omega)), if_neg (fun z => hij2 z.1)]; rfl
theorem count_M (he : envM L sC sP n τ) (ho : symO sC n) {x i j : Nat} (hx : x < 96) (hij : i ≤ j) (hj : j < n) (hn : n ≤ 24) (hd : depM T x i j τ) : M_itemCount τ (nI (itM x)) (nI i) (nI j) = some (ctA sC T x i j) := by
  have hsz := size_M he ho hx hij hj hn hd
  unfold M_itemCount ctA
  by_cases h26 : x < 26
  · obtain ⟨r1, -⟩ := hd h26
    have hr := clM_lt h26 hij (show j < 24 by omega)
    rw [itM_26 h26, if_neg (show ¬ (100 : Int32) ≤ nI x from nge 100 (by omega) (by decide)), cellOf_M (by omega), bp_some, gd_nI hr (by decide), nI_clamp (by omega), r1, if_pos h26]
  · obtain ⟨b1, b2⟩ := itM_big h26 hx
    rw [if_pos (show (100 : Int32) ≤ nI (itM x) from nle 100 (by omega) (by omega)), if_neg h26, hsz, bp_some, nI_l (by
      unfold szA
      rw [if_neg h26]
      split <;> omega)]
theorem price_M (he : envM L sC sP n τ) {x i j k : Nat} (hx : x < 96) (hij : i ≤ j) (hj : j < n) (hn : n ≤ 24) (hd : depM T x i j τ) (hk : k < szA sC T x i j) : M_itemCost τ (nI (itM x)) (nI i) (nI j) (nI k) = some (prA sP T x i j k) := by
  unfold M_itemCost prA
  unfold szA at hk
  by_cases h26 : x < 26
  · rw [if_pos h26] at hk
    obtain ⟨-, -, r3, r4⟩ := hd h26
    obtain ⟨q1, -⟩ := r4 k hk
    have hr := clM_lt h26 hij (show j < 24 by omega)
    rw [itM_26 h26, if_neg (show ¬ (100 : Int32) ≤ nI x from nge 100 (by omega) (by decide)), if_pos h26, cellOf_M (by omega), bp_some, show (30 : Int32) = nI 30 from rfl, pk_mul, nI_add, gd_nI (by omega) (by decide), nI_clamp (by omega), q1]
  · obtain ⟨b1, b2⟩ := itM_big h26 hx
    rw [if_neg h26] at hk
    have hc : i = j ∧ sC i (x - 26) ≠ -1 := Classical.byContradiction fun z => by rw [if_neg z] at hk; omega
    have hs := (he.2 i (x - 26) (by omega) (by omega)).2 hc.2
    rw [show 26 + (x - 26) = x by omega] at hs
    rw [if_pos (show (100 : Int32) ≤ nI (itM x) from nle 100 (by omega) (by omega)), if_neg h26, show (100 : Int32) = nI 100 from rfl, pk_sub (by omega), show (24 : Int32) = nI 24 from rfl, pk_mul, nI_add, gd_nI (by omega) (by decide), nI_clamp (by omega), hs]
end

/-! reading a grammar: the text, and the class's reader -/
theorem nI_nm1 {n : Nat} (h : n < 2 ^ 31) : ¬ nI n = -1 := fun z => by
  have h1 : (nI n).toInt = (-1 : Int32).toInt := by rw [z]
  rw [nI_toInt h] at h1
  have e : (-1 : Int32).toInt = -1 := by decide
  omega
theorem sI_sI (σ : St) (k i : Nat) (a b : Int32) : sI (sI σ k i a) k i b = sI σ k i b := by
  unfold sI
  congr 1
  funext c
  by_cases h : c = k
  · simp only [if_pos h]
    funext j
    unfold upd
    by_cases e : j = i <;> simp [e]
  · simp only [if_neg h]
theorem sI_self (σ : St) (k i : Nat) : sI σ k i (σ.1 k i) = σ := by
  unfold sI
  have : (fun c => if c = k then upd (σ.1 c) i (σ.1 k i) else σ.1 c) = σ.1 := by
    funext c
    by_cases h : c = k
    · subst h
      simp only [if_true]
      funext j
      unfold upd
      by_cases e : j = i <;> simp [e]
    · simp only [if_neg h]
  rw [this]
theorem sI_same {σ : St} {k i : Nat} {x : Int32} (h : σ.1 k i = x) : sI σ k i x = σ := by rw [← h]; exact sI_self σ k i
section
variable (d : Nat) (oc : Nat → Nat)
def oct (p : Nat) : Int32 := if p < d then nI (oc p) else -1
def sk : Nat → Nat → Nat
  | 0, p => p
  | m + 1, p => if p < d ∧ oc p = 32 then sk m (p + 1) else p
def skp (p : Nat) : Nat := sk d oc (d - p) p
theorem skp_eq (p : Nat) : skp d oc p = if p < d ∧ oc p = 32 then skp d oc (p + 1) else p := by
  unfold skp
  by_cases h : p < d
  · rw [show d - p = (d - (p + 1)) + 1 by omega]; rfl
  · rw [if_neg (fun z => h z.1), show d - p = 0 by omega]; rfl
theorem skp_ge (p : Nat) : p ≤ skp d oc p := by
  have key : ∀ m p, p ≤ sk d oc m p := by
    intro m
    induction m with
    | zero => intro p; exact Nat.le_refl _
    | succ m ih =>
      intro p
      unfold sk
      split
      · exact Nat.le_trans (Nat.le_succ _) (ih _)
      · exact Nat.le_refl _
  exact key _ _
theorem skp_le {p : Nat} (h : p ≤ d) : skp d oc p ≤ d := by
  have key : ∀ m p, p ≤ d → sk d oc m p ≤ d := by
    intro m
    induction m with
    | zero => intro p h; exact h
    | succ m ih =>
      intro p h
      unfold sk
      split
      · exact ih _ (by omega)
      · exact h
  exact key _ _ h
theorem skp_skp (p : Nat) : skp d oc (skp d oc p) = skp d oc p := by
  have key : ∀ m p, d - p = m → skp d oc (skp d oc p) = skp d oc p := by
    intro m
    induction m with
    | zero =>
      intro p hp
      have e : skp d oc p = p := by rw [skp_eq, if_neg (by omega)]
      rw [e, e]
    | succ m ih =>
      intro p hp
      by_cases h : p < d ∧ oc p = 32
      · rw [skp_eq d oc p, if_pos h]
        exact ih (p + 1) (by omega)
      · have e : skp d oc p = p := by rw [skp_eq, if_neg h]
        rw [e, e]
  exact key _ p rfl
def isN (p : Nat) : Prop := p < d ∧ 65 ≤ oc p ∧ oc p ≤ 90
def isD (p : Nat) : Prop := p < d ∧ 49 ≤ oc p ∧ oc p ≤ 55
def isF (p : Nat) : Prop := p < d ∧ 48 ≤ oc p ∧ oc p ≤ 57
def kd (o : Nat) : Nat := if o = 77 then 0 else if o = 109 then 1 else if o = 100 then 2 else if o = 97 then 3 else if o = 115 then 4 else if o = 106 then 5 else if o = 110 then 6 else if o = 104 then 7 else if o = 111 then 8 else 9
def kdAt (p : Nat) : Nat := if p < d then kd (oc p) else 9
/-- the item at p, where there is one: its number, the place behind it -/
def itN (p : Nat) : Nat := if 65 ≤ oc p then oc p - 65 else 26 + (oc p - 49) * 10 + kdAt d oc (p + 1)
def itP (p : Nat) : Nat := if 65 ≤ oc p then p + 1 else if kdAt d oc (p + 1) = 9 then p + 1 else p + 2
def figP : Nat → Nat → Nat → Nat × Nat
  | 0, v, p => (v, p)
  | m + 1, v, p => if p < d ∧ 48 ≤ oc p ∧ oc p ≤ 57 then figP m (10 * v + (oc p - 48)) (p + 1) else (v, p)
end
theorem kd_le (o : Nat) : kd o ≤ 9 := by
  unfold kd
  repeat' split
  all_goals omega
theorem kdAt_le (d : Nat) (oc : Nat → Nat) (p : Nat) : kdAt d oc p ≤ 9 := by
  unfold kdAt
  split
  · exact kd_le _
  · exact Nat.le_refl _
theorem kd_C : ∀ o, o < 256 → C_Reader_kindOf 2000 (nI o) = some (if kd o = 9 then -1 else nI (kd o)) := by decide +kernel
theorem kd_M : ∀ o, o < 256 → M_kindOf (nI o) = some (if kd o = 9 then -1 else nI (kd o)) := by decide +kernel
def TX (d : Nat) (oc : Nat → Nat) (f64 f65 : Nat → Int32) : Prop := d ≤ 800 ∧ f65 0 = nI d ∧ ∀ i, i < d → oc i < 256 ∧ f64 i &&& 255 = nI (oc i)
section
variable {d : Nat} {oc : Nat → Nat} {σ : St}
theorem oct_C (h : TX d oc (σ.1 64) (σ.1 65)) {p : Nat} (hp : p ≤ 2000) : C_Draft_octetAt σ (nI p) = some (oct d oc p) := by
  obtain ⟨h1, h2, h3⟩ := h
  unfold C_Draft_octetAt oct
  rw [if_neg (nI_pos (by omega)), h2]
  by_cases hd : p < d
  · rw [if_neg (nI_ge hd (by omega)), gd_nI (by omega) (by decide), nI_clamp (by omega), (h3 p hd).2, if_pos hd]
  · rw [if_pos (nI_le (by omega) (by omega)), if_neg hd]
theorem oct_eq {p w : Nat} (h : ∀ i, i < d → oc i < 256) (hw : w < 256) : oct d oc p = nI w ↔ p < d ∧ oc p = w := by
  unfold oct
  by_cases hd : p < d
  · rw [if_pos hd, nI_eq (by have := h p hd; omega) (by omega)]
    exact ⟨fun z => ⟨hd, z⟩, fun z => z.2⟩
  · rw [if_neg hd]
    constructor
    · intro z
      have : (-1 : Int32).toInt = (nI w).toInt := by rw [z]
      rw [nI_toInt (by omega)] at this
      have e : (-1 : Int32).toInt = -1 := by decide
      omega
    · intro z; exact absurd z.1 hd
theorem oct_m1 {p : Nat} (h : ∀ i, i < d → oc i < 256) : oct d oc p = -1 ↔ ¬ p < d := by
  unfold oct
  by_cases hd : p < d
  · rw [if_pos hd]
    constructor
    · intro z
      have : (-1 : Int32).toInt = (nI (oc p)).toInt := by rw [z]
      rw [nI_toInt (by have := h p hd; omega)] at this
      have e : (-1 : Int32).toInt = -1 := by decide
      omega
    · intro z; exact absurd hd z
  · rw [if_neg hd]; exact ⟨fun _ => hd, fun _ => rfl⟩
theorem next_C (hx : TX d oc (σ.1 64) (σ.1 65)) : ∀ (m p f : Nat) (σ : St), TX d oc (σ.1 64) (σ.1 65) → d - p = m → p ≤ d → m + 1 ≤ f → σ.1 99 0 = nI p → C_Reader_nextOctet_l0 2000 f σ = some (oct d oc (skp d oc p), sI σ 99 0 (nI (skp d oc p))) := by
  intro m
  induction m with
  | zero =>
    intro p f σ hx hm hp hf e
    obtain ⟨f, rfl⟩ : ∃ g, f = g + 1 := ⟨f - 1, by omega⟩
    have ed : p = d := by omega
    have es : skp d oc p = p := by rw [skp_eq, if_neg (by omega)]
    have hd := hx.1
    unfold C_Reader_nextOctet_l0
    rw [hx.2.1, e, if_pos (nI_le (by omega) (by omega)), oct_C hx (by omega), bp_some, es, sI_same e]
  | succ m ih =>
    intro p f σ hx hm hp hf e
    obtain ⟨f, rfl⟩ : ∃ g, f = g + 1 := ⟨f - 1, by omega⟩
    have hd := hx.1
    unfold C_Reader_nextOctet_l0
    rw [hx.2.1, e, if_neg (nI_ge (by omega) (by omega)), oct_C hx (by omega), bp_some, show (32 : Int32) = nI 32 from rfl]
    by_cases h32 : oc p = 32
    · rw [if_pos ((oct_eq (fun i hi => (hx.2.2 i hi).1) (by decide)).mpr ⟨by omega, h32⟩), lt_is, nI_1]
      rw [ih (p + 1) f (sI σ 99 0 (nI (p + 1))) hx (by omega) (by omega) (by omega) rfl, sI_sI, skp_eq d oc p, if_pos ⟨by omega, h32⟩]
    · have es : skp d oc p = p := by rw [skp_eq, if_neg (fun z => h32 z.2)]
      rw [if_neg (fun z => h32 ((oct_eq (fun i hi => (hx.2.2 i hi).1) (by decide)).mp z).2), bp_some, es, sI_same e]
theorem next_C' (hx : TX d oc (σ.1 64) (σ.1 65)) {p : Nat} (hp : p ≤ d) (e : σ.1 99 0 = nI p) : C_Reader_nextOctet 2000 σ = some (oct d oc (skp d oc p), sI σ 99 0 (nI (skp d oc p))) := next_C hx (d - p) p 2000 σ hx rfl hp (by have := hx.1; omega) e
theorem take_C (hx : TX d oc (σ.1 64) (σ.1 65)) {p w : Nat} (hw : w < 256) (hp : p ≤ d) (e : σ.1 99 0 = nI p) : C_Reader_takes 2000 σ (nI w) = some (if skp d oc p < d ∧ oc (skp d oc p) = w then (1, sI σ 99 0 (nI (skp d oc p + 1))) else (0, sI σ 99 0 (nI (skp d oc p)))) := by
  unfold C_Reader_takes
  rw [next_C' hx hp e, bd_some]
  by_cases h : skp d oc p < d ∧ oc (skp d oc p) = w
  · rw [if_pos ((oct_eq (fun i hi => (hx.2.2 i hi).1) hw).mpr h), if_pos h, lt_is, sI_sI]
    have : (sI σ 99 0 (nI (skp d oc p))).1 99 0 = nI (skp d oc p) := rfl
    rw [this, nI_1]
  · rw [if_neg (fun z => h ((oct_eq (fun i hi => (hx.2.2 i hi).1) hw).mp z)), if_neg h]
theorem isName_C {x : Int32} {P : Prop} (hP : P ↔ ¬ x < 65 ∧ ¬ 90 < x) : C_Reader_isName x = some (@ite _ P (Classical.propDecidable P) 1 0) := by
  unfold C_Reader_isName
  by_cases h : P
  · rw [if_neg (hP.mp h).1, if_neg (hP.mp h).2, if_pos h]
  · rw [if_neg h]
    by_cases h1 : x < 65
    · rw [if_pos h1]
    · rw [if_neg h1, if_pos (Classical.byContradiction fun z => h (hP.mpr ⟨h1, z⟩))]
theorem oct_rng {p : Nat} (h : ∀ i, i < d → oc i < 256) (a b : Nat) (ha : a < 256) (hb : b < 256) : (¬ oct d oc p < nI a ∧ ¬ nI b < oct d oc p) ↔ (p < d ∧ a ≤ oc p ∧ oc p ≤ b) := by
  unfold oct
  by_cases hd : p < d
  · have := h p hd
    rw [if_pos hd, nI_ltI (by omega) (by omega), nI_ltI (by omega) (by omega)]
    omega
  · rw [if_neg hd]
    constructor
    · intro z
      have := z.1
      exfalso
      apply this
      rw [Int32.lt_iff_toInt_lt, nI_toInt (by omega)]
      have e : (-1 : Int32).toInt = -1 := by decide
      omega
    · intro z; exact absurd z.1 hd
/-- an item, with the blanks before it -/
theorem item_C (hx : TX d oc (σ.1 64) (σ.1 65)) {p q : Nat} (hq : skp d oc p = q) (hp : p ≤ d) (e : σ.1 99 0 = nI p) :
    ((isN d oc q ∨ isD d oc q) → C_Reader_readItem 2000 σ = some (nI (itN d oc q), sI σ 99 0 (nI (itP d oc q)))) ∧ (¬ (isN d oc q ∨ isD d oc q) → C_Reader_readItem 2000 σ = some (-1, sI σ 99 0 (nI q))) := by
  have h256 : ∀ i, i < d → oc i < 256 := fun i hi => (hx.2.2 i hi).1
  have hd := hx.1
  have hqd : q ≤ d := by rw [← hq]; exact skp_le d oc hp
  have rN : (¬ oct d oc q < (65 : Int32) ∧ ¬ (90 : Int32) < oct d oc q) ↔ (q < d ∧ 65 ≤ oc q ∧ oc q ≤ 90) := oct_rng (p := q) h256 65 90 (by decide) (by decide)
  have rD : (¬ oct d oc q < (49 : Int32) ∧ ¬ (55 : Int32) < oct d oc q) ↔ (q < d ∧ 49 ≤ oc q ∧ oc q ≤ 55) := oct_rng (p := q) h256 49 55 (by decide) (by decide)
  have start : C_Reader_readItem 2000 σ = bp (C_Reader_isName (oct d oc q)) fun r5 => if r5 = 0 then (if oct d oc q < (49 : Int32) then some ((-1 : Int32), sI σ 99 0 (nI q)) else if oct d oc q ≤ (55 : Int32) then lt (sI (sI σ 99 0 (nI q)) 99 0 (((sI σ 99 0 (nI q)).1 99 0) + (1 : Int32))) fun σ9 => bp (C_Draft_octetAt σ9 (σ9.1 99 0)) fun r12 => bp (C_Reader_kindOf 2000 r12) fun r14 => if r14 = (-1 : Int32) then some ((((26 : Int32) + ((oct d oc q - (49 : Int32)) * (10 : Int32))) + (9 : Int32)), σ9) else lt (sI σ9 99 0 ((σ9.1 99 0) + (1 : Int32))) fun σ16 => some ((((26 : Int32) + ((oct d oc q - (49 : Int32)) * (10 : Int32))) + r14), σ16) else some ((-1 : Int32), sI σ 99 0 (nI q))) else lt (sI (sI σ 99 0 (nI q)) 99 0 (((sI σ 99 0 (nI q)).1 99 0) + (1 : Int32))) fun σ18 => some ((oct d oc q - (65 : Int32)), σ18) := by
    unfold C_Reader_readItem
    rw [next_C' hx hp e, bd_some, hq]
  have s99 : (sI σ 99 0 (nI q)).1 99 0 = nI q := rfl
  rw [start, isName_C (P := isN d oc q) rN.symm, bp_some]
  constructor
  · intro h
    by_cases hN : isN d oc q
    · rw [if_pos hN, if_neg (by decide), lt_is, sI_sI, s99, nI_1]
      have ho : oct d oc q = nI (oc q) := if_pos hN.1
      have h65 := hN.2.1
      rw [ho, show (65 : Int32) = nI 65 from rfl, pk_sub h65]
      unfold itN itP
      rw [if_pos h65, if_pos h65]
    · have hD := h.resolve_left hN
      have ho : oct d oc q = nI (oc q) := if_pos hD.1
      have h55 := hD.2.2
      have h49 := hD.2.1
      rw [if_neg hN, if_pos rfl, if_neg (rD.mpr hD).1, if_pos (by have := (rD.mpr hD).2; grind), lt_is, sI_sI, s99, nI_1]
      have s99b : (sI σ 99 0 (nI (q + 1))).1 99 0 = nI (q + 1) := rfl
      rw [s99b, oct_C (σ := sI σ 99 0 (nI (q + 1))) hx (by omega), bp_some]
      have hkd : C_Reader_kindOf 2000 (oct d oc (q + 1)) = some (if kdAt d oc (q + 1) = 9 then -1 else nI (kdAt d oc (q + 1))) := by
        unfold oct kdAt
        by_cases h1 : q + 1 < d
        · rw [if_pos h1, if_pos h1]; exact kd_C _ (h256 _ h1)
        · rw [if_neg h1, if_neg h1]; decide +kernel
      have kle := kdAt_le d oc (q + 1)
      rw [hkd, bp_some, ho, show (49 : Int32) = nI 49 from rfl, pk_sub h49, show (10 : Int32) = nI 10 from rfl, pk_mul, show (26 : Int32) = nI 26 from rfl, nI_add]
      unfold itN itP
      rw [if_neg (show ¬ 65 ≤ oc q by omega), if_neg (show ¬ 65 ≤ oc q by omega)]
      by_cases k9 : kdAt d oc (q + 1) = 9
      · rw [if_pos k9, if_pos rfl, if_pos k9, show (9 : Int32) = nI 9 from rfl, nI_add, k9]
      · rw [if_neg k9, if_neg (nI_nm1 (by omega)), if_neg k9, lt_is, sI_sI, nI_1, nI_add]
  · intro h
    have hN : ¬ isN d oc q := fun z => h (Or.inl z)
    have hD : ¬ (¬ oct d oc q < (49 : Int32) ∧ ¬ (55 : Int32) < oct d oc q) := fun z => h (Or.inr (rD.mp z))
    rw [if_neg hN, if_pos rfl]
    by_cases h1 : oct d oc q < (49 : Int32)
    · rw [if_pos h1]
    · rw [if_neg h1, if_neg (by grind)]
theorem itN_lt {q : Nat} (h : isN d oc q ∨ isD d oc q) : itN d oc q < 96 := by
  have := kdAt_le d oc (q + 1)
  unfold itN
  rcases h with h | h
  · have := h.2; split <;> omega
  · have := h.2; split <;> omega
theorem itP_le {q : Nat} (h : isN d oc q ∨ isD d oc q) : itP d oc q ≤ d ∧ q < itP d oc q := by
  have hq : q < d := h.elim (fun z => z.1) (fun z => z.1)
  have hk : ¬ kdAt d oc (q + 1) = 9 → q + 1 < d := fun z => by
    unfold kdAt at z
    by_cases h1 : q + 1 < d
    · exact h1
    · rw [if_neg h1] at z; exact absurd rfl z
  unfold itP
  repeat' split
  all_goals omega
theorem figP_bd : ∀ (m v p : Nat), p ≤ d → (figP d oc m v p).1 + 1 ≤ (v + 1) * 10 ^ m ∧ (figP d oc m v p).2 ≤ d ∧ p ≤ (figP d oc m v p).2 ∧ (figP d oc m v p).2 ≤ p + m := by
  intro m
  induction m with
  | zero => intro v p h; simp [figP, h]
  | succ m ih =>
    intro v p h
    unfold figP
    by_cases hf : p < d ∧ 48 ≤ oc p ∧ oc p ≤ 57
    · rw [if_pos hf]
      have := ih (10 * v + (oc p - 48)) (p + 1) (by omega)
      refine ⟨Nat.le_trans this.1 ?_, this.2.1, by omega, by omega⟩
      rw [Nat.pow_succ, ← Nat.mul_assoc, Nat.mul_right_comm]
      exact Nat.mul_le_mul_right _ (by omega)
    · rw [if_neg hf]
      refine ⟨?_, h, Nat.le_refl _, by omega⟩
      have : 1 ≤ 10 ^ (m + 1) := Nat.one_le_pow _ _ (by decide)
      calc v + 1 = (v + 1) * 1 := (Nat.mul_one _).symm
        _ ≤ (v + 1) * 10 ^ (m + 1) := Nat.mul_le_mul_left _ this
theorem figs_C : ∀ (m f v p : Nat) (σ : St), TX d oc (σ.1 64) (σ.1 65) → m ≤ 3 → m + 1 ≤ f → p ≤ d → σ.1 99 0 = nI p → C_Reader_readCost_l32 2000 f σ (oct d oc p) (nI v) (nI (3 - m)) = some (nI (figP d oc m v p).1, sI σ 99 0 (nI (figP d oc m v p).2)) := by
  intro m
  induction m with
  | zero =>
    intro f v p σ hx h1 h2 hp e
    obtain ⟨f, rfl⟩ : ∃ g, f = g + 1 := ⟨f - 1, by omega⟩
    unfold C_Reader_readCost_l32 figP
    rw [if_pos (by decide), sI_same e]
  | succ m ih =>
    intro f v p σ hx h1 h2 hp e
    obtain ⟨f, rfl⟩ : ∃ g, f = g + 1 := ⟨f - 1, by omega⟩
    have h256 : ∀ i, i < d → oc i < 256 := fun i hi => (hx.2.2 i hi).1
    have hd := hx.1
    have rF : (¬ oct d oc p < (48 : Int32) ∧ ¬ (57 : Int32) < oct d oc p) ↔ (p < d ∧ 48 ≤ oc p ∧ oc p ≤ 57) := oct_rng (p := p) h256 48 57 (by decide) (by decide)
    unfold C_Reader_readCost_l32 figP
    rw [if_neg (show ¬ (3 : Int32) ≤ nI (3 - (m + 1)) from nge 3 (by omega) (by decide))]
    by_cases hf : p < d ∧ 48 ≤ oc p ∧ oc p ≤ 57
    · have eF : C_Reader_isFigure (oct d oc p) = some 1 := by
        unfold C_Reader_isFigure
        rw [if_neg (rF.mpr hf).1, if_neg (rF.mpr hf).2]
      have ho : oct d oc p = nI (oc p) := if_pos hf.1
      rw [eF, bp_some, if_neg (by decide), lt_is, lt_is, e, nI_1]
      have s99b : (sI σ 99 0 (nI (p + 1))).1 99 0 = nI (p + 1) := rfl
      rw [s99b, oct_C (σ := sI σ 99 0 (nI (p + 1))) hx (by omega), bp_some, lt_is, ho, show (10 : Int32) = nI 10 from rfl, pk_mul, nI_add, show (48 : Int32) = nI 48 from rfl, pk_sub (by omega), nI_1, if_pos hf, show 3 - (m + 1) + 1 = 3 - m by omega, show v * 10 + oc p - 48 = 10 * v + (oc p - 48) by omega]
      rw [ih f (10 * v + (oc p - 48)) (p + 1) (sI σ 99 0 (nI (p + 1))) hx (by omega) (by omega) (by omega) rfl, sI_sI]
    · have eF : C_Reader_isFigure (oct d oc p) = some 0 := by
        unfold C_Reader_isFigure
        by_cases h1 : oct d oc p < (48 : Int32)
        · rw [if_pos h1]
        · rw [if_neg h1, if_pos (show (57 : Int32) < oct d oc p from Classical.byContradiction fun z => hf (rF.mp ⟨h1, z⟩))]
      rw [eF, bp_some, if_pos rfl, if_neg hf, sI_same e]
end

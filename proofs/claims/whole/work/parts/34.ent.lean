/-! entries, their order; the places of rows -/
abbrev En : Type := Int32 × Nat
abbrev Row : Type := Int64 × List En
abbrev e0 : En := (0, 0)
def ent (e : En) : Int64 := (e.1.toInt64 <<< ((21 : Int32).toInt64 &&& 63)) ||| lN e.2
def hiN (x : Int32) : Nat := (x.toInt % 8796093022208).toNat
theorem lN_nat {n : Nat} (h : n < 2 ^ 64) : (lN n).toBitVec.toNat = n := wb_tn h
theorem lN_ti {m : Nat} (h : m < 2 ^ 64) : (lN m).toInt = if m < 2 ^ 63 then (m : Int) else (m : Int) - 2 ^ 64 := by
  show (lN m).toBitVec.toInt = _
  rw [BitVec.toInt_eq_toNat_cond, lN_nat h]
  by_cases h2 : m < 2 ^ 63
  · rw [if_pos h2, if_pos (by omega)]
  · rw [if_neg h2, if_neg (by omega)]; rfl
theorem x64 (x : Int32) : x.toInt64 = lN (x.toInt % 18446744073709551616).toNat := by
  apply Int64.toInt_inj.mp
  have h1 := x.minValue_le_toInt
  have h2 := x.toInt_lt
  have h3 := x.le_toInt
  rw [Int32.toInt_toInt64, lN_ti (by omega)]
  by_cases h : (x.toInt % 18446744073709551616).toNat < 2 ^ 63
  · rw [if_pos h]; omega
  · rw [if_neg h]; omega
theorem ent_n (e : En) (h : e.2 < 2097152) : ent e = lN (hiN e.1 * 2097152 + e.2) ∧ hiN e.1 < 8796093022208 := by
  have hh : hiN e.1 < 8796093022208 := by unfold hiN; omega
  refine ⟨?_, hh⟩
  unfold ent
  rw [x64, show ((21 : Int32).toInt64 &&& 63) = ((nI 21).toInt64 &&& 63) from rfl, wb_shl _ (by decide), wb_mod]
  have e1 : (e.1.toInt % 18446744073709551616).toNat * 2 ^ 21 % 2 ^ 64 = hiN e.1 * 2097152 := by
    unfold hiN
    have h1 := e.1.toInt_lt
    have h2 := e.1.le_toInt
    omega
  rw [e1, g_or (k := 21) (p := 2097152) (by decide) h (by omega)]
theorem ent_i (e : En) (h : e.2 < 2097152) : (ent e).toInt = e.1.toInt * 2097152 + e.2 := by
  obtain ⟨h1, h2⟩ := ent_n e h
  have a1 := e.1.toInt_lt
  have a2 := e.1.le_toInt
  rw [h1, lN_ti (by omega)]
  by_cases hc : hiN e.1 * 2097152 + e.2 < 2 ^ 63
  · rw [if_pos hc]; unfold hiN at *; omega
  · rw [if_neg hc]; unfold hiN at *; omega
/-- an entry of a later key comes behind all of no greater cost -/
theorem ent_lt {e e' : En} (h : e.2 < 2097152) (h' : e'.2 < 2097152) (hk : e'.2 < e.2) : ent e < ent e' ↔ e.1 < e'.1 := by
  rw [Int64.lt_iff_toInt_lt, ent_i e h, ent_i e' h', Int32.lt_iff_toInt_lt]
  omega
theorem cmp1 {e e' : En} (h : e.2 < 2097152) (h' : e'.2 < 2097152) (hk : e'.2 < e.2) : lg_cmp (ent e') (ent e) ≤ 0 ↔ ¬ e.1 < e'.1 := by
  have := ent_lt h h' hk
  have hne : ¬ ent e' = ent e := fun z => by
    have e1 := ent_i e h
    have e2 := ent_i e' h'
    rw [z, e1] at e2
    omega
  unfold lg_cmp
  by_cases hc : ent e' > ent e
  · rw [if_pos hc]
    exact ⟨fun z => absurd z (by decide), fun z => absurd (this.mp hc) z⟩
  · rw [if_neg hc, if_neg hne]
    exact ⟨fun _ z => hc (this.mpr z), fun _ => by decide⟩
theorem cmp2 {e e' : En} (h : e.2 < 2097152) (h' : e'.2 < 2097152) (hk : e'.2 < e.2) : lg_cmp (ent e) (ent e') < 0 ↔ e.1 < e'.1 := by
  have := ent_lt h h' hk
  have hne : ¬ ent e = ent e' := fun z => by
    have e1 := ent_i e h
    have e2 := ent_i e' h'
    rw [← z, e1] at e2
    omega
  unfold lg_cmp
  by_cases hc : ent e < ent e'
  · rw [if_neg (fun z => by have z2 : ent e' < ent e := z; exact absurd (Int64.lt_trans hc z2) (Int64.lt_irrefl)), if_neg hne]
    exact ⟨fun _ => this.mp hc, fun _ => by decide⟩
  · have : ent e > ent e' := by
      show ent e' < ent e
      rw [Int64.lt_iff_toInt_lt] at hc ⊢
      have hn2 : ¬ (ent e).toInt = (ent e').toInt := fun z => hne (Int64.toInt_inj.mp z)
      omega
    rw [if_pos this]
    exact ⟨fun z => absurd z (by decide), fun z => absurd ((ent_lt h h' hk).mpr z) hc⟩
theorem ent_price (e : En) (h : e.2 < 2097152) : (((ent e).toUInt64 >>> ((21 : Int32).toInt64.toUInt64 &&& Int64.toUInt64 63)).toInt64).toInt32 = e.1 := by
  obtain ⟨h1, h2⟩ := ent_n e h
  have a1 := e.1.toInt_lt
  have a2 := e.1.le_toInt
  rw [h1, show (21 : Int32) = nI 21 from rfl, wb_shr (by omega) (by decide), lN_i, show (hiN e.1 * 2097152 + e.2) / 2 ^ 21 = hiN e.1 by omega]
  apply Int32.toBitVec_inj.mp
  apply BitVec.eq_of_toNat_eq
  show (BitVec.ofNat 32 (hiN e.1)).toNat = e.1.toBitVec.toNat
  rw [BitVec.toNat_ofNat]
  have : e.1.toInt = e.1.toBitVec.toInt := rfl
  rw [BitVec.toInt_eq_toNat_cond] at this
  have hlt := e.1.toBitVec.isLt
  unfold hiN
  split at this <;> omega
theorem ent_field (e : En) (h : e.2 < 2097152) (k m : Nat) (M : Int32) (hk : k + m ≤ 21) (hM : M.toBitVec.toNat = 2 ^ m - 1) (s : Int32) (hs : s = nI k) : (((ent e).toUInt64 >>> (s.toInt64.toUInt64 &&& Int64.toUInt64 63)).toInt64).toInt32 &&& M = nI (e.2 / 2 ^ k % 2 ^ m) := by
  obtain ⟨h1, h2⟩ := ent_n e h
  rw [h1, hs, wb_shr (by omega) (by omega), lN_i, pk_and _ m hM]
  congr 1
  show (BitVec.ofNat 32 ((hiN e.1 * 2097152 + e.2) / 2 ^ k)).toNat % 2 ^ m = _
  rw [BitVec.toNat_ofNat]
  have hp : (2 : Nat) ^ 32 = 2 ^ m * 2 ^ (32 - m) := by rw [← Nat.pow_add]; congr 1; omega
  rw [hp, Nat.mod_mul_right_mod]
  have hq : hiN e.1 * 2097152 = 2 ^ k * (2 ^ m * (2 ^ (21 - k - m) * hiN e.1)) := by
    rw [← Nat.mul_assoc, ← Nat.mul_assoc, ← Nat.pow_add, ← Nat.pow_add, show k + m + (21 - k - m) = 21 by omega, Nat.mul_comm]
  rw [hq, Nat.mul_add_div (Nat.two_pow_pos k), Nat.mul_add_mod]
theorem ent_low (e : En) (h : e.2 < 2097152) : (ent e).toInt32 &&& (31 : Int32) = nI (e.2 % 32) := by
  obtain ⟨h1, h2⟩ := ent_n e h
  rw [h1, lN_i, pk_and _ 5 (by decide)]
  congr 1
  show (BitVec.ofNat 32 (hiN e.1 * 2097152 + e.2)).toNat % 2 ^ 5 = _
  rw [BitVec.toNat_ofNat]
  omega
/-! keys -/
def keyN (r cut x y : Nat) : Nat := r * 32768 + cut * 1024 + x * 32 + y
theorem keyN_lt {r cut x y : Nat} (h1 : r < 60) (h2 : cut < 32) (h3 : x < 32) (h4 : y < 32) : keyN r cut x y < 2097152 := by unfold keyN; omega
theorem or_add (k a b : Nat) (h : b < 2 ^ k) : a * 2 ^ k ||| b = a * 2 ^ k + b := by
  rw [Nat.mul_comm, Nat.two_pow_add_eq_or_of_lt h]
theorem entryOf_C {r cut x y : Nat} (h1 : r < 60) (h2 : cut < 32) (h3 : x < 32) (h4 : y < 32) (p : Int32) : C_Chart_entryOf p (nI r) (nI cut) (nI x) (nI y) = some (ent (p, keyN r cut x y)) := by
  unfold C_Chart_entryOf
  rw [lt_is, pk_shlN ((15 : Int32) &&& 31) 15 (by decide) (by omega), pk_shlN ((10 : Int32) &&& 31) 10 (by decide) (by omega), pk_shlN ((5 : Int32) &&& 31) 5 (by decide) (by omega), nx_or, nx_or, nx_or]
  have e : r * 2 ^ 15 ||| cut * 2 ^ 10 ||| x * 2 ^ 5 ||| y = keyN r cut x y := by
    have a1 : r * 2 ^ 15 ||| cut * 2 ^ 10 = (r * 32 + cut) * 2 ^ 10 := by rw [or_add 15 r (cut * 2 ^ 10) (by omega)]; omega
    have a2 : (r * 32 + cut) * 2 ^ 10 ||| x * 2 ^ 5 = ((r * 32 + cut) * 32 + x) * 2 ^ 5 := by rw [or_add 10 _ (x * 2 ^ 5) (by omega)]; omega
    rw [a1, a2, or_add 5 _ y (by omega)]
    unfold keyN
    omega
  have hk := keyN_lt h1 h2 h3 h4
  rw [e, nI_l (by omega)]
  rfl
theorem key_M {r cut x y : Nat} (h1 : r < 60) (h2 : cut < 32) (h3 : x < 32) (h4 : y < 32) : (((nI r <<< ((15 : Int32) &&& 31)) + (nI cut <<< ((10 : Int32) &&& 31))) + (nI x <<< ((5 : Int32) &&& 31))) + nI y = nI (keyN r cut x y) := by
  rw [pk_shlN ((15 : Int32) &&& 31) 15 (by decide) (by omega), pk_shlN ((10 : Int32) &&& 31) 10 (by decide) (by omega), pk_shlN ((5 : Int32) &&& 31) 5 (by decide) (by omega), nI_add, nI_add, nI_add]
  rfl
theorem key_M1 {r x : Nat} (h1 : r < 60) (h3 : x < 32) : (nI r <<< ((15 : Int32) &&& 31)) + (nI x <<< ((5 : Int32) &&& 31)) = nI (keyN r 0 x 0) := by
  rw [pk_shlN ((15 : Int32) &&& 31) 15 (by decide) (by omega), pk_shlN ((5 : Int32) &&& 31) 5 (by decide) (by omega), nI_add, show r * 2 ^ 15 + x * 2 ^ 5 = keyN r 0 x 0 by unfold keyN; omega]
/-! places -/
def tri (j : Nat) : Nat := j * (j + 1) / 2
theorem tri_s (j : Nat) : tri (j + 1) = tri j + (j + 1) := by
  unfold tri
  have : (j + 1) * (j + 1 + 1) = j * (j + 1) + 2 * (j + 1) := by rw [Nat.mul_comm (j + 1), ← Nat.add_mul]
  rw [this]
  omega
theorem tri_mono {j j' : Nat} (h : j < j') : tri j + j < tri j' := by
  induction j' with
  | zero => omega
  | succ j' ih =>
    rw [tri_s]
    by_cases e : j = j'
    · subst e; omega
    · have := ih (by omega); omega
theorem tri_inj {i j i' j' : Nat} (h : i ≤ j) (h' : i' ≤ j') (e : tri j + i = tri j' + i') : i = i' ∧ j = j' := by
  rcases Nat.lt_trichotomy j j' with z | z | z
  · have := tri_mono z; omega
  · subst z; omega
  · have := tri_mono z; omega
theorem tri_lt {i j : Nat} (h : i ≤ j) (hj : j < 24) : tri j + i < 300 := by
  have : tri 24 = 300 := by decide
  have := tri_mono hj
  omega
def rwC (a i j : Nat) : Nat := (tri j + i) * 26 + a
def clM (a i j : Nat) : Nat := 300 * a + tri j + i
theorem rwC_lt {a i j : Nat} (ha : a < 26) (h : i ≤ j) (hj : j < 24) : rwC a i j < 7800 := by
  have := tri_lt h hj
  unfold rwC; omega
theorem clM_lt {a i j : Nat} (ha : a < 26) (h : i ≤ j) (hj : j < 24) : clM a i j < 7800 := by
  have := tri_lt h hj
  unfold clM; omega
theorem rwC_inj {a i j a' i' j' : Nat} (ha : a < 26) (ha' : a' < 26) (h : i ≤ j) (h' : i' ≤ j') (e : rwC a i j = rwC a' i' j') : a = a' ∧ i = i' ∧ j = j' := by
  unfold rwC at e
  have := tri_inj h h' (by omega)
  exact ⟨by omega, this.1, this.2⟩
theorem clM_inj {a i j a' i' j' : Nat} (hj : j < 24) (hj' : j' < 24) (h : i ≤ j) (h' : i' ≤ j') (e : clM a i j = clM a' i' j') : a = a' ∧ i = i' ∧ j = j' := by
  have b1 := tri_lt h hj
  have b2 := tri_lt h' hj'
  unfold clM at e
  have := tri_inj h h' (by omega)
  exact ⟨by omega, this.1, this.2⟩
theorem rowOf_C {a i j : Nat} (hj : j < 24) : C_Chart_rowOf (nI a) (nI i) (nI j) = some (nI (rwC a i j)) := by
  unfold C_Chart_rowOf rwC tri
  have h2 : j * (j + 1) < 2 ^ 31 := by
    have : j * (j + 1) ≤ 23 * 24 := Nat.mul_le_mul (by omega) (by omega)
    omega
  rw [nI_1, pk_mul, show (2 : Int32) = nI 2 from rfl, pk_div h2 (by decide) (by decide), nI_add, show (26 : Int32) = nI 26 from rfl, pk_mul, nI_add]
theorem cellOf_M {a i j : Nat} (hj : j < 24) : M_cellOf (nI a) (nI i) (nI j) = some (nI (clM a i j)) := by
  unfold M_cellOf clM tri
  have h2 : j * (j + 1) < 2 ^ 31 := by
    have : j * (j + 1) ≤ 23 * 24 := Nat.mul_le_mul (by omega) (by omega)
    omega
  rw [nI_1, pk_mul, show (2 : Int32) = nI 2 from rfl, pk_div h2 (by decide) (by decide), show (300 : Int32) = nI 300 from rfl, pk_mul, nI_add, nI_add]

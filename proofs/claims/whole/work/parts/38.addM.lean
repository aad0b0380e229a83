/-! what a rule adds to a row: the reference -/
section
variable {L : List rl} {sC sP : SS} {n : Nat} {T : TT}
theorem one40 {r x i j ρ M K : Nat} {c : Int64} (hr : r < L.length) (hL : L.length ≤ 60) (hx : x < 96) (hXr : (L.getD r z0).2.1 = x) (hij : i ≤ j) (hj : j < n) (hn : n ≤ 24) (hρ : ρ < 7800) (hne : x < 26 → clM x i j ≠ ρ) (hM : szA sC T x i j = M) (hM30 : M ≤ 30) (hK : (L.getD r z0).2.2.2.1 = K) :
    ∀ (m k f : Nat) (τ : St) (E : List En), k + m = M → m + 1 ≤ f → envM L sC sP n τ → depM T x i j τ → rowM (τ.2 34) (τ.1 33) (τ.1 35) (τ.1 36) ρ (c, E) → keysLt E (keyN r 0 k 0) →
    ∃ τ', M_one_l40 8000 f τ (nI ρ) (nI r) (nI i) (nI j) (nI M) (nI k) = some τ' ∧ sameM ρ τ τ' ∧ rowM (τ'.2 34) (τ'.1 33) (τ'.1 35) (τ'.1 36) ρ (c, unM (gU sP T (nI K) r x i j) m k E) ∧ keysLt (unM (gU sP T (nI K) r x i j) m k E) ((r + 1) * 32768) := by
  intro m
  induction m with
  | zero =>
    intro k f τ E hk hf he hd hrow hkey
    obtain ⟨f, rfl⟩ : ∃ g, f = g + 1 := ⟨f - 1, by omega⟩
    unfold M_one_l40
    rw [if_pos (nI_le (by omega) (by omega))]
    exact ⟨τ, rfl, sameM.rf, hrow, hkey.mono (by unfold keyN; omega)⟩
  | succ m ih =>
    intro k f τ E hk hf he hd hrow hkey
    obtain ⟨f, rfl⟩ : ∃ g, f = g + 1 := ⟨f - 1, by omega⟩
    unfold M_one_l40
    rw [if_neg (nI_ge (by omega) (by omega)), gd_nI (by omega) (by decide), gd_nI (by omega) (by decide), nI_clamp (by omega), (he.1 r hr).2.1, (he.1 r hr).2.2.2, hXr, price_M he hx hij hj hn hd (by omega), bp_some, hK, key_M1 (by omega) (by omega)]
    have hkl := keyN_lt (r := r) (cut := 0) (x := k) (y := 0) (by omega) (by decide) (by omega) (by decide)
    obtain ⟨τ1, o1, o2, o3⟩ := comes_M hρ (x := (nI K + prA sP T x i j k, keyN r 0 k 0)) hkl hrow hkey
    have hk1 := off_keys (x := (nI K + prA sP T x i j k, keyN r 0 k 0)) hkey
    rw [o1, bd_some, lt_is, nI_1]
    obtain ⟨τ', f1, f2, f3, f4⟩ := ih (k + 1) f τ1 _ (by omega) (by omega) (he.keep o2.1) (hd.keep hne o2) o3 (hk1.mono (by show keyN r 0 k 0 + 1 ≤ keyN r 0 (k + 1) 0; unfold keyN; omega))
    exact ⟨τ', f1, o2.tr f2, f3, f4⟩
theorem cnt34 {ρ : Nat} {c v : Int64} {E : List En} {τ : St} (h : rowM (τ.2 34) (τ.1 33) (τ.1 35) (τ.1 36) ρ (c, E)) : sameM ρ τ (sJ τ 34 ρ v) ∧ rowM ((sJ τ 34 ρ v).2 34) ((sJ τ 34 ρ v).1 33) ((sJ τ 34 ρ v).1 35) ((sJ τ 34 ρ v).1 36) ρ (v, E) := by
  refine ⟨⟨fr.sJ (by decide), fun q hq => ⟨by rw [sJ_2, if_pos rfl, if_neg hq], rfl, fun k hk => ⟨rfl, rfl⟩⟩⟩, ?_, h.2.1, h.2.2.1, h.2.2.2⟩
  show (sJ τ 34 ρ v).2 34 ρ = v
  rw [sJ_2, if_pos rfl, if_pos rfl]
theorem one_M {r i j : Nat} {R : Row} {τ : St} (hok : okL L) (ho : symO sC n) (hr : r < L.length) (hY : (L.getD r z0).2.2.1 = 96) (hij : i ≤ j) (hj : j < n) (hn : n ≤ 24) (hne : (L.getD r z0).2.1 < 26 → (L.getD r z0).2.1 ≠ (L.getD r z0).1) (he : envM L sC sP n τ) (hd : depM T (L.getD r z0).2.1 i j τ) (hlen : (L.getD r z0).2.1 < 26 → (T (L.getD r z0).2.1 i j).2.length ≤ 30)
    (hrow : rowM (τ.2 34) (τ.1 33) (τ.1 35) (τ.1 36) (clM (L.getD r z0).1 i j) R) (hkey : keysLt R.2 (r * 32768)) :
    ∃ τ', M_one 8000 τ (nI (clM (L.getD r z0).1 i j)) (nI r) (nI i) (nI j) = some τ' ∧ sameM (clM (L.getD r z0).1 i j) τ τ' ∧ rowM (τ'.2 34) (τ'.1 33) (τ'.1 35) (τ'.1 36) (clM (L.getD r z0).1 i j) (conM sC sP L T i j R r) ∧ keysLt (conM sC sP L T i j R r).2 ((r + 1) * 32768) := by
  have hL := hok.1
  obtain ⟨k1, k2, -⟩ := hok.2 r hr
  have hρ := clM_lt k1 hij (show j < 24 by omega)
  have hne' : (L.getD r z0).2.1 < 26 → clM (L.getD r z0).2.1 i j ≠ clM (L.getD r z0).1 i j := fun h z => hne h (clM_inj (by omega) (by omega) hij hij z).1
  obtain ⟨g1, g2, g3, g4⟩ := he.1 r hr
  unfold M_one conM
  rw [gd_nI (by omega) (by decide), nI_clamp (show r < 2 ^ 31 by omega), g2, size_M he ho k2 hij hj hn hd, bp_some, gd_nI hρ (by decide), gd_nI (by omega) (by decide), count_M he ho k2 hij hj hn hd, bp_some, gd_nI hρ (by decide), lt_is, nI_clamp (by omega), if_pos hY]
  have hM30 : szA sC T (L.getD r z0).2.1 i j ≤ 30 := szA_le hlen
  have hr1 : τ.2 34 (clM (L.getD r z0).1 i j) = R.1 := hrow.1
  rw [hr1]
  obtain ⟨c1, c2⟩ := cnt34 (v := R.1 + ctA sC T (L.getD r z0).2.1 i j) (c := R.1) (E := R.2) hrow
  obtain ⟨τ', f1, f2, f3, f4⟩ := one40 (T := T) (c := R.1 + ctA sC T (L.getD r z0).2.1 i j) hr hL k2 rfl hij hj hn hρ hne' rfl hM30 rfl (szA sC T (L.getD r z0).2.1 i j) 0 8000 _ R.2 (by omega) (by omega) (he.keep c1.1) (hd.keep hne' c1) c2 (hkey.mono (by unfold keyN; omega))
  exact ⟨τ', f1, c1.tr f2, f3, f4⟩
theorem tw116 {r x y i j ρ K cut a b p most : Nat} {c : Int64} (hr : r < L.length) (hL : L.length ≤ 60) (hx : x < 96) (hy : y < 96) (hXr : (L.getD r z0).2.1 = x) (hYr : (L.getD r z0).2.2.1 = y) (hcut : 1 ≤ cut) (hcj : cut ≤ j - i) (hij : i ≤ j) (hj : j < n) (hn : n ≤ 24) (hρ : ρ < 7800) (hnex : x < 26 → clM x i (i + cut - 1) ≠ ρ) (hney : y < 26 → clM y (i + cut) j ≠ ρ) (ha : szA sC T x i (i + cut - 1) = a) (hb : szA sC T y (i + cut) j = b) (ha30 : a ≤ 30) (hb30 : b ≤ 30) (hp : p < a) (hmost : most = min b (30 / (p + 1))) (hK : (L.getD r z0).2.2.2.1 = K)
    (k3 : St → Int32 → Int32 → Int32 → Int32 → Int32 → Option St) (k98 : St → Int32 → Int32 → Int32 → Int32 → Int32 → Int32 → Int32 → Int32 → Int32 → Option St) :
    ∀ (m q f : Nat) (τ : St) (E : List En), q + m = most → m + 2 ≤ f → envM L sC sP n τ → depM T x i (i + cut - 1) τ → depM T y (i + cut) j τ → rowM (τ.2 34) (τ.1 33) (τ.1 35) (τ.1 36) ρ (c, E) → keysLt E (keyN r cut p q) →
    ∃ (τ' : St) (kp : Int32), kp = (if q = 0 then (if m = 0 then 1 else if (offL E (gB sP T (nI K) r x y i j cut p 0)).2 then 1 else 0) else 1) ∧ M_two_l116 8000 k3 k98 f τ (nI ρ) (nI r) (nI i) (nI j) (nI cut) (nI a) (nI b) 1 (nI p) 1 (nI q) = k98 τ' (nI ρ) (nI r) (nI i) (nI j) (nI cut) (nI a) (nI b) kp (nI (p + 1)) ∧ sameM ρ τ τ' ∧ rowM (τ'.2 34) (τ'.1 33) (τ'.1 35) (τ'.1 36) ρ (c, unC (gB sP T (nI K) r x y i j cut p) m q E) ∧ keysLt (unC (gB sP T (nI K) r x y i j cut p) m q E) (keyN r cut (p + 1) 0) := by
  have hdl : 30 / (p + 1) ≤ 30 := Nat.div_le_self _ _
  have hml : most ≤ b := by rw [hmost]; exact Nat.min_le_left _ _
  intro m
  induction m with
  | zero =>
    intro q f τ E hq hf he hdx hdy hrow hkey
    obtain ⟨f, rfl⟩ : ∃ g, f = g + 1 := ⟨f - 1, by omega⟩
    have hk2 : keysLt E (keyN r cut (p + 1) 0) := hkey.mono (by unfold keyN; omega)
    have hkp : (1 : Int32) = (if q = 0 then (if 0 = 0 then 1 else if (offL E (gB sP T (nI K) r x y i j cut p 0)).2 then 1 else 0) else 1) := by
      by_cases h0 : q = 0
      · rw [if_pos h0, if_pos rfl]
      · rw [if_neg h0]
    unfold M_two_l116
    by_cases hqb : b ≤ q
    · rw [if_pos (show nI b ≤ nI q from nI_le hqb (by omega)), lt_is, nI_1]
      exact ⟨τ, 1, hkp, rfl, sameM.rf, hrow, hk2⟩
    · have hq30 : 30 / (p + 1) ≤ q := by
        have : most = 30 / (p + 1) := by rw [hmost]; exact Nat.min_eq_right (by rw [hmost] at hq; omega)
        omega
      have hgt : 30 < (p + 1) * (q + 1) := by
        have := (Nat.div_lt_iff_lt_mul (show 0 < p + 1 by omega)).mp (show 30 / (p + 1) < q + 1 by omega)
        rw [Nat.mul_comm]; exact this
      have hml2 : (p + 1) * (q + 1) ≤ 31 * 31 := Nat.mul_le_mul (by omega) (by omega)
      rw [if_neg (show ¬ nI b ≤ nI q from nI_ge (by omega) (by omega)), if_neg (show ¬ (1 : Int32) = 0 by decide), nI_1, nI_1, pk_mul, if_pos (show (30 : Int32) < nI ((p + 1) * (q + 1)) from nlt 30 hgt (by omega)), lt_is]
      exact ⟨τ, 1, hkp, rfl, sameM.rf, hrow, hk2⟩
  | succ m ih =>
    intro q f τ E hq hf he hdx hdy hrow hkey
    obtain ⟨f, rfl⟩ : ∃ g, f = g + 1 := ⟨f - 1, by omega⟩
    have hqb : q < b := by omega
    have hq30 : q + 1 ≤ 30 / (p + 1) := by
      have : most ≤ 30 / (p + 1) := by rw [hmost]; exact Nat.min_le_right _ _
      omega
    have hle : (p + 1) * (q + 1) ≤ 30 := by
      have := (Nat.le_div_iff_mul_le (show 0 < p + 1 by omega)).mp hq30
      rw [Nat.mul_comm]; exact this
    unfold M_two_l116
    rw [if_neg (show ¬ nI b ≤ nI q from nI_ge hqb (by omega)), if_neg (show ¬ (1 : Int32) = 0 by decide), nI_1, nI_1, pk_mul, if_neg (show ¬ (30 : Int32) < nI ((p + 1) * (q + 1)) from nnlt 30 hle (by decide)), gd_nI (by omega) (by decide), gd_nI (by omega) (by decide), nI_clamp (by omega), (he.1 r hr).2.1, (he.1 r hr).2.2.1, (he.1 r hr).2.2.2, hXr, hYr, nI_add, nI_pred' (by omega), price_M he hx (by omega) (by omega) hn hdx (by omega), bp_some, gd_nI (by omega) (by decide), show oM y = nI (itM y) from if_neg (by omega), price_M he hy (by omega) hj hn hdy (by omega), bp_some, lt_is, hK, key_M (by omega) (by omega) (by omega) (by omega)]
    have hkl := keyN_lt (r := r) (cut := cut) (x := p) (y := q) (by omega) (by omega) (by omega) (by omega)
    obtain ⟨τ1, o1, o2, o3⟩ := comes_M hρ (x := (nI K + prA sP T x i (i + cut - 1) p + prA sP T y (i + cut) j q, keyN r cut p q)) hkl hrow hkey
    have hk1 := off_keys (x := (nI K + prA sP T x i (i + cut - 1) p + prA sP T y (i + cut) j q, keyN r cut p q)) hkey
    rw [o1, bd_some]
    simp only [lt_is]
    unfold unC
    have hg : gB sP T (nI K) r x y i j cut p q = (nI K + prA sP T x i (i + cut - 1) p + prA sP T y (i + cut) j q, keyN r cut p q) := rfl
    rw [hg]
    by_cases hbk : (offL E (nI K + prA sP T x i (i + cut - 1) p + prA sP T y (i + cut) j q, keyN r cut p q)).2 = true
    · rw [if_pos hbk, if_neg (show ¬ (1 : Int32) = 0 by decide), if_pos hbk]
      obtain ⟨τ', kp, f0, f1, f2, f3, f4⟩ := ih (q + 1) f τ1 _ (by omega) (by omega) (he.keep o2.1) (hdx.keep hnex o2) (hdy.keep hney o2) o3 (hk1.mono (by show keyN r cut p q + 1 ≤ keyN r cut p (q + 1); unfold keyN; omega))
      refine ⟨τ', kp, ?_, f1, o2.tr f2, f3, f4⟩
      rw [f0, if_neg (by omega)]
      by_cases h0 : q = 0
      · subst h0
        rw [if_pos rfl, if_neg (by omega), hg, if_pos hbk]
      · rw [if_neg h0]
    · rw [if_neg hbk, if_pos rfl, if_neg hbk]
      have hk2 : keysLt (offL E (nI K + prA sP T x i (i + cut - 1) p + prA sP T y (i + cut) j q, keyN r cut p q)).1 (keyN r cut (p + 1) 0) := hk1.mono (by show keyN r cut p q + 1 ≤ _; unfold keyN; omega)
      obtain ⟨f, rfl⟩ : ∃ g, f = g + 1 := ⟨f - 1, by omega⟩
      have ex : ∀ v : Int32, M_two_l116 8000 k3 k98 (f + 1) τ1 (nI ρ) (nI r) (nI i) (nI j) (nI cut) (nI a) (nI b) v (nI p) 0 (nI (q + 1)) = k98 τ1 (nI ρ) (nI r) (nI i) (nI j) (nI cut) (nI a) (nI b) v (nI (p + 1)) := by
        intro v
        unfold M_two_l116
        by_cases hz : nI b ≤ nI (q + 1)
        · rw [if_pos hz, lt_is, nI_1]
        · rw [if_neg hz, if_pos rfl, lt_is, nI_1]
      by_cases h0 : q = 0
      · subst h0
        rw [if_pos (show nI 0 ≤ (0 : Int32) by decide), ex]
        exact ⟨τ1, 0, by rw [if_pos rfl, if_neg (by omega), hg, if_neg hbk], rfl, o2, o3, hk2⟩
      · rw [if_neg (show ¬ nI q ≤ (0 : Int32) from nI_nle (by omega) (by omega)), ex]
        exact ⟨τ1, 1, by rw [if_neg h0], rfl, o2, o3, hk2⟩
theorem unC_0 (g : Nat → En) (k : Nat) (E : List En) : unC g 0 k E = E := rfl
theorem ouX_b0 (G : Nat → Nat → En) : ∀ m x E, ouX G 0 m x E = E := by
  intro m
  induction m with
  | zero => intro x E; rfl
  | succ m ih =>
    intro x E
    unfold ouX
    rw [Nat.zero_min, unC_0, ih]
    split <;> rfl
theorem tw98 {r x y i j ρ K cut a b : Nat} {c : Int64} (hr : r < L.length) (hL : L.length ≤ 60) (hx : x < 96) (hy : y < 96) (hXr : (L.getD r z0).2.1 = x) (hYr : (L.getD r z0).2.2.1 = y) (hcut : 1 ≤ cut) (hcj : cut ≤ j - i) (hij : i ≤ j) (hj : j < n) (hn : n ≤ 24) (hρ : ρ < 7800) (hnex : x < 26 → clM x i (i + cut - 1) ≠ ρ) (hney : y < 26 → clM y (i + cut) j ≠ ρ) (ha : szA sC T x i (i + cut - 1) = a) (hb : szA sC T y (i + cut) j = b) (ha30 : a ≤ 30) (hb30 : b ≤ 30) (hK : (L.getD r z0).2.2.2.1 = K)
    (k3 : St → Int32 → Int32 → Int32 → Int32 → Int32 → Option St) :
    ∀ (m p f : Nat) (τ : St) (E : List En), p + m = a → m + 1 ≤ f → envM L sC sP n τ → depM T x i (i + cut - 1) τ → depM T y (i + cut) j τ → rowM (τ.2 34) (τ.1 33) (τ.1 35) (τ.1 36) ρ (c, E) → keysLt E (keyN r cut p 0) →
    ∃ τ', M_two_l98 8000 k3 f τ (nI ρ) (nI r) (nI i) (nI j) (nI cut) (nI a) (nI b) 1 (nI p) = k3 τ' (nI ρ) (nI r) (nI i) (nI j) (nI (cut + 1)) ∧ sameM ρ τ τ' ∧ rowM (τ'.2 34) (τ'.1 33) (τ'.1 35) (τ'.1 36) ρ (c, ouX (gB sP T (nI K) r x y i j cut) b m p E) ∧ keysLt (ouX (gB sP T (nI K) r x y i j cut) b m p E) (keyN r (cut + 1) 0 0) := by
  intro m
  induction m with
  | zero =>
    intro p f τ E hp hf he hdx hdy hrow hkey
    obtain ⟨f, rfl⟩ : ∃ g, f = g + 1 := ⟨f - 1, by omega⟩
    unfold M_two_l98
    rw [if_pos (nI_le (by omega) (by omega)), lt_is, nI_1]
    exact ⟨τ, rfl, sameM.rf, hrow, hkey.mono (by unfold keyN; omega)⟩
  | succ m ih =>
    intro p f τ E hp hf he hdx hdy hrow hkey
    obtain ⟨f, rfl⟩ : ∃ g, f = g + 1 := ⟨f - 1, by omega⟩
    have hdl : 30 / (p + 1) ≤ 30 := Nat.div_le_self _ _
    unfold M_two_l98
    rw [if_neg (nI_ge (by omega) (by omega)), if_neg (show ¬ (1 : Int32) = 0 by decide)]
    have hmost : min b (30 / (p + 1)) ≤ b := Nat.min_le_left _ _
    obtain ⟨τ1, kp, f0, f1, f2, f3, f4⟩ := tw116 (T := T) (c := c) hr hL hx hy hXr hYr hcut hcj hij hj hn hρ hnex hney ha hb ha30 hb30 (show p < a by omega) rfl hK k3 (M_two_l98 8000 k3 f) (min b (30 / (p + 1))) 0 8000 τ E (by omega) (by omega) he hdx hdy hrow hkey
    rw [show (0 : Int32) = nI 0 from rfl, f1]
    rw [if_pos rfl] at f0
    unfold ouX
    by_cases hb0 : min b (30 / (p + 1)) = 0
    · -- nothing on the other side
      have hbz : b = 0 := by
        have hmul : 1 ≤ 30 / (p + 1) := (Nat.le_div_iff_mul_le (by omega)).mpr (by omega)
        by_cases hle : b ≤ 30 / (p + 1)
        · rw [Nat.min_eq_left hle] at hb0; exact hb0
        · rw [Nat.min_eq_right (by omega)] at hb0; omega
      rw [if_pos hb0] at f0
      rw [f0]
      rw [hb0, unC_0] at f3 f4
      obtain ⟨τ', g1, g2, g3, g4⟩ := ih (p + 1) f τ1 E (by omega) (by omega) (he.keep f2.1) (hdx.keep hnex f2) (hdy.keep hney f2) f3 f4
      refine ⟨τ', g1, f2.tr g2, ?_, ?_⟩
      · rw [hbz, ouX_b0] at g3
        rw [hb0, unC_0, hbz, ouX_b0]
        split <;> exact g3
      · rw [hbz, ouX_b0] at g4
        rw [hb0, unC_0, hbz, ouX_b0]
        split <;> exact g4
    · rw [if_neg hb0] at f0
      by_cases hbk : (offL E (gB sP T (nI K) r x y i j cut p 0)).2 = true
      · rw [if_pos hbk] at f0 ⊢
        rw [f0]
        obtain ⟨τ', g1, g2, g3, g4⟩ := ih (p + 1) f τ1 _ (by omega) (by omega) (he.keep f2.1) (hdx.keep hnex f2) (hdy.keep hney f2) f3 f4
        exact ⟨τ', g1, f2.tr g2, g3, g4⟩
      · rw [if_neg hbk] at f0 ⊢
        rw [f0]
        obtain ⟨f, rfl⟩ : ∃ g, f = g + 1 := ⟨f - 1, by omega⟩
        have : M_two_l98 8000 k3 (f + 1) τ1 (nI ρ) (nI r) (nI i) (nI j) (nI cut) (nI a) (nI b) 0 (nI (p + 1)) = k3 τ1 (nI ρ) (nI r) (nI i) (nI j) (nI (cut + 1)) := by
          unfold M_two_l98
          by_cases hq : nI a ≤ nI (p + 1)
          · rw [if_pos hq, lt_is, nI_1]
          · rw [if_neg hq, if_pos rfl, lt_is, nI_1]
        rw [this]
        exact ⟨τ1, rfl, f2, f3, f4.mono (by unfold keyN; omega)⟩
theorem two_l3 {r i j : Nat} (hok : okL L) (ho : symO sC n) (hr : r < L.length) (hY : (L.getD r z0).2.2.1 ≠ 96) (hij : i ≤ j) (hj : j < n) (hn : n ≤ 24)
    (hlx : ∀ cut, 1 ≤ cut → cut ≤ j - i → (L.getD r z0).2.1 < 26 → (T (L.getD r z0).2.1 i (i + cut - 1)).2.length ≤ 30) (hly : ∀ cut, 1 ≤ cut → cut ≤ j - i → (L.getD r z0).2.2.1 < 26 → (T (L.getD r z0).2.2.1 (i + cut) j).2.length ≤ 30) :
    ∀ (m cut f : Nat) (τ : St) (R : Row), 1 ≤ cut → cut + m = j - i + 1 → m + 1 ≤ f → envM L sC sP n τ → (∀ cut, 1 ≤ cut → cut ≤ j - i → depM T (L.getD r z0).2.1 i (i + cut - 1) τ ∧ depM T (L.getD r z0).2.2.1 (i + cut) j τ) → rowM (τ.2 34) (τ.1 33) (τ.1 35) (τ.1 36) (clM (L.getD r z0).1 i j) R → keysLt R.2 (keyN r cut 0 0) →
    ∃ τ', M_two_l3 8000 f τ (nI (clM (L.getD r z0).1 i j)) (nI r) (nI i) (nI j) (nI cut) = some τ' ∧ sameM (clM (L.getD r z0).1 i j) τ τ' ∧ rowM (τ'.2 34) (τ'.1 33) (τ'.1 35) (τ'.1 36) (clM (L.getD r z0).1 i j) (cutM sC sP T (nI (L.getD r z0).2.2.2.1) r (L.getD r z0).2.1 (L.getD r z0).2.2.1 i j m cut R) ∧ keysLt (cutM sC sP T (nI (L.getD r z0).2.2.2.1) r (L.getD r z0).2.1 (L.getD r z0).2.2.1 i j m cut R).2 ((r + 1) * 32768) := by
  have hL := hok.1
  obtain ⟨k1, k2, k3, -⟩ := hok.2 r hr
  have hy : (L.getD r z0).2.2.1 < 96 := by omega
  have hρ := clM_lt k1 hij (show j < 24 by omega)
  intro m
  induction m with
  | zero =>
    intro cut f τ R h1 h2 hf he hd hrow hkey
    obtain ⟨f, rfl⟩ : ∃ g, f = g + 1 := ⟨f - 1, by omega⟩
    unfold M_two_l3
    rw [pk_sub hij, if_pos (nI_lt (by omega) (by omega))]
    exact ⟨τ, rfl, sameM.rf, hrow, hkey.mono (by unfold keyN; omega)⟩
  | succ m ih =>
    intro cut f τ R h1 h2 hf he hd hrow hkey
    obtain ⟨f, rfl⟩ : ∃ g, f = g + 1 := ⟨f - 1, by omega⟩
    obtain ⟨hdx, hdy⟩ := hd cut h1 (by omega)
    have hnex : (L.getD r z0).2.1 < 26 → clM (L.getD r z0).2.1 i (i + cut - 1) ≠ clM (L.getD r z0).1 i j := fun h z => by have := (clM_inj (by omega) (by omega) (by omega) hij z).2.2; omega
    have hney : (L.getD r z0).2.2.1 < 26 → clM (L.getD r z0).2.2.1 (i + cut) j ≠ clM (L.getD r z0).1 i j := fun h z => by have := (clM_inj (by omega) (by omega) (by omega) hij z).2.1; omega
    obtain ⟨g1, g2, g3, g4⟩ := he.1 r hr
    have hYo : oM (L.getD r z0).2.2.1 = nI (itM (L.getD r z0).2.2.1) := if_neg hY
    unfold M_two_l3
    rw [pk_sub hij, if_neg (nI_nlt (by omega) (by omega)), gd_nI (by omega) (by decide), nI_clamp (show r < 2 ^ 31 by omega), g2, g3, hYo, nI_add, nI_pred' (by omega), size_M he ho k2 (by omega) (by omega) hn hdx, bp_some, gd_nI (by omega) (by decide), size_M he ho hy (by omega) hj hn hdy, bp_some, gd_nI hρ (by decide), gd_nI (by omega) (by decide), count_M he ho k2 (by omega) (by omega) hn hdx, bp_some, gd_nI (by omega) (by decide), count_M he ho hy (by omega) hj hn hdy, bp_some, gd_nI hρ (by decide), lt_is, nI_clamp (show clM (L.getD r z0).1 i j < 2 ^ 31 by omega)]
    have hr1 : τ.2 34 (clM (L.getD r z0).1 i j) = R.1 := hrow.1
    rw [hr1]
    obtain ⟨c1, c2⟩ := cnt34 (v := R.1 + ctA sC T (L.getD r z0).2.1 i (i + cut - 1) * ctA sC T (L.getD r z0).2.2.1 (i + cut) j) (c := R.1) (E := R.2) hrow
    obtain ⟨τ1, f1, f2, f3, f4⟩ := tw98 (T := T) (c := R.1 + ctA sC T (L.getD r z0).2.1 i (i + cut - 1) * ctA sC T (L.getD r z0).2.2.1 (i + cut) j) hr hL k2 hy rfl rfl h1 (by omega) hij hj hn hρ hnex hney rfl rfl (szA_le (hlx cut h1 (by omega))) (szA_le (hly cut h1 (by omega))) rfl (M_two_l3 8000 f) (szA sC T (L.getD r z0).2.1 i (i + cut - 1)) 0 8000 _ R.2 (by omega) (by have := szA_le (sC := sC) (T := T) (hlx cut h1 (by omega)); omega) (he.keep c1.1) (hdx.keep hnex c1) (hdy.keep hney c1) c2 hkey
    have hs := c1.tr f2
    obtain ⟨τ', e1, e2, e3, e4⟩ := ih (cut + 1) f τ1 (R.1 + ctA sC T (L.getD r z0).2.1 i (i + cut - 1) * ctA sC T (L.getD r z0).2.2.1 (i + cut) j, ouX (gB sP T (nI (L.getD r z0).2.2.2.1) r (L.getD r z0).2.1 (L.getD r z0).2.2.1 i j cut) (szA sC T (L.getD r z0).2.2.1 (i + cut) j) (szA sC T (L.getD r z0).2.1 i (i + cut - 1)) 0 R.2) (by omega) (by omega) (by omega) (he.keep hs.1) (fun cc h3 h4 => by
      obtain ⟨w1, w2⟩ := hd cc h3 h4
      exact ⟨w1.keep (fun h z => by have := (clM_inj (by omega) (by omega) (by omega) hij z).2.2; omega) hs, w2.keep (fun h z => by have := (clM_inj (by omega) (by omega) (by omega) hij z).2.1; omega) hs⟩) f3 f4
    refine ⟨τ', ?_, hs.tr e2, e3, e4⟩
    rw [show (0 : Int32) = nI 0 from rfl, f1, e1]
end

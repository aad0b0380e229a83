/-! what a rule adds to a row: the class -/
theorem nI_pred' {k : Nat} (h : 1 ≤ k) : nI k - 1 = nI (k - 1) := by
  have := nI_pred (k - 1)
  rw [show k - 1 + 1 = k by omega] at this
  exact this
section
variable {L : List rl} {sC sP : SS} {n : Nat} {T : TT}
theorem aw67 {r x i j ρ M K : Nat} {c : Int64} (hr : r < L.length) (hL : L.length ≤ 60) (hx : x < 96) (hij : i ≤ j) (hj : j < n) (hn : n ≤ 24) (hρ : ρ < 7800) (hne : x < 26 → rwC x i j ≠ ρ) (hM : szA sC T x i j = M) (hM30 : M ≤ 30) (hK : (L.getD r z0).2.2.2.1 = K) :
    ∀ (m k f : Nat) (σ : St) (E : List En), k + m = M → m + 1 ≤ f → envC L sC sP n σ → depC T x i j σ → rowC (σ.2 115) (σ.2 117) (σ.1 116) ρ (c, E) → keysLt E (keyN r 0 k 0) →
    ∃ σ', C_Chart_addWhole_l67 8000 f σ (nI r) (nI i) (nI j) (nI ρ) (nI x) (nI M) 1 (nI k) = some σ' ∧ sameC ρ σ σ' ∧ rowC (σ'.2 115) (σ'.2 117) (σ'.1 116) ρ (c, unC (gU sP T (nI K) r x i j) m k E) ∧ keysLt (unC (gU sP T (nI K) r x i j) m k E) ((r + 1) * 32768) := by
  intro m
  induction m with
  | zero =>
    intro k f σ E hk hf he hd hrow hkey
    obtain ⟨f, rfl⟩ : ∃ g, f = g + 1 := ⟨f - 1, by omega⟩
    unfold C_Chart_addWhole_l67
    rw [if_pos (nI_le (by omega) (by omega))]
    exact ⟨σ, rfl, sameC.rf, hrow, hkey.mono (by unfold keyN; omega)⟩
  | succ m ih =>
    intro k f σ E hk hf he hd hrow hkey
    obtain ⟨f, rfl⟩ : ∃ g, f = g + 1 := ⟨f - 1, by omega⟩
    unfold C_Chart_addWhole_l67
    rw [if_neg (nI_ge (by omega) (by omega)), if_neg (show ¬ (1 : Int32) = 0 by decide), gd_nI (by omega) (by decide), price_C he hx hij hj hn hd (by omega), bp_some, lt_is, nI_clamp (by omega), (he.1 r hr).2.2.2, hK, show (0 : Int32) = nI 0 from rfl, entryOf_C (by omega) (by decide) (by omega) (by decide), bp_some]
    have hkl := keyN_lt (r := r) (cut := 0) (x := k) (y := 0) (by omega) (by decide) (by omega) (by decide)
    obtain ⟨σ1, o1, o2, o3⟩ := offer_C hρ (x := (nI K + prA sP T x i j k, keyN r 0 k 0)) hkl hrow hkey
    have hk1 := off_keys (x := (nI K + prA sP T x i j k, keyN r 0 k 0)) hkey
    rw [o1, bd_some, lt_is, nI_1]
    unfold unC
    have hg : gU sP T (nI K) r x i j k = (nI K + prA sP T x i j k, keyN r 0 k 0) := rfl
    rw [hg]
    by_cases hb : (offL E (nI K + prA sP T x i j k, keyN r 0 k 0)).2 = true
    · rw [if_pos hb, if_pos hb]
      obtain ⟨σ', f1, f2, f3, f4⟩ := ih (k + 1) f σ1 _ (by omega) (by omega) (he.keep o2.1) (hd.keep hne o2) o3 (hk1.mono (by show keyN r 0 k 0 + 1 ≤ keyN r 0 (k + 1) 0; unfold keyN; omega))
      exact ⟨σ', f1, o2.tr f2, f3, f4⟩
    · rw [if_neg hb, if_neg hb]
      obtain ⟨f, rfl⟩ : ∃ g, f = g + 1 := ⟨f - 1, by omega⟩
      have : C_Chart_addWhole_l67 8000 (f + 1) σ1 (nI r) (nI i) (nI j) (nI ρ) (nI x) (nI M) 0 (nI (k + 1)) = some σ1 := by
        unfold C_Chart_addWhole_l67
        by_cases hq : nI M ≤ nI (k + 1)
        · rw [if_pos hq]
        · rw [if_neg hq, if_pos rfl]
      rw [this]
      exact ⟨σ1, rfl, o2, o3, hk1.mono (by show keyN r 0 k 0 + 1 ≤ _; unfold keyN; omega)⟩
theorem cnt115 {ρ : Nat} {c v : Int64} {E : List En} {σ : St} (h : rowC (σ.2 115) (σ.2 117) (σ.1 116) ρ (c, E)) : sameC ρ σ (sJ σ 115 ρ v) ∧ rowC ((sJ σ 115 ρ v).2 115) ((sJ σ 115 ρ v).2 117) ((sJ σ 115 ρ v).1 116) ρ (v, E) := by
  refine ⟨⟨fr.sJ (by decide), fun q hq => ⟨by rw [sJ_2, if_pos rfl, if_neg hq], rfl, fun k hk => rfl⟩⟩, ?_, h.2.1, h.2.2.1, h.2.2.2⟩
  show (sJ σ 115 ρ v).2 115 ρ = v
  rw [sJ_2, if_pos rfl, if_pos rfl]
theorem addW_C {r i j : Nat} {R : Row} {σ : St} (hok : okL L) (hr : r < L.length) (hY : (L.getD r z0).2.2.1 = 96) (hij : i ≤ j) (hj : j < n) (hn : n ≤ 24) (hne : (L.getD r z0).2.1 < 26 → (L.getD r z0).2.1 ≠ (L.getD r z0).1) (he : envC L sC sP n σ) (hd : depC T (L.getD r z0).2.1 i j σ) (hlen : (L.getD r z0).2.1 < 26 → (T (L.getD r z0).2.1 i j).2.length ≤ 30)
    (hrow : rowC (σ.2 115) (σ.2 117) (σ.1 116) (rwC (L.getD r z0).1 i j) R) (hkey : keysLt R.2 (r * 32768)) :
    ∃ σ', C_Chart_addWhole 8000 σ (nI r) (nI i) (nI j) = some σ' ∧ sameC (rwC (L.getD r z0).1 i j) σ σ' ∧ rowC (σ'.2 115) (σ'.2 117) (σ'.1 116) (rwC (L.getD r z0).1 i j) (conC sC sP L T i j R r) ∧ keysLt (conC sC sP L T i j R r).2 ((r + 1) * 32768) := by
  have hL := hok.1
  obtain ⟨k1, k2, -⟩ := hok.2 r hr
  have hρ := rwC_lt k1 hij (show j < 24 by omega)
  have hne' : (L.getD r z0).2.1 < 26 → rwC (L.getD r z0).2.1 i j ≠ rwC (L.getD r z0).1 i j := fun h z => hne h (rwC_inj h k1 hij hij z).1
  obtain ⟨g1, g2, g3, g4⟩ := he.1 r hr
  unfold C_Chart_addWhole conC
  rw [gd_nI (by omega) (by decide), nI_clamp (by omega), g1, g2, rowOf_C (by omega), bp_some, gd_nI (by omega) (by decide), lt_is, size_C he k2 hij hj hn hd, bp_some, if_pos hY]
  have hM30 : szA sC T (L.getD r z0).2.1 i j ≤ 30 := szA_le hlen
  by_cases h0 : szA sC T (L.getD r z0).2.1 i j = 0
  · rw [if_pos (by rw [h0]; rfl), if_pos h0]
    exact ⟨σ, rfl, sameC.rf, hrow, hkey.mono (by omega)⟩
  · rw [if_neg (nI_ne0 (by omega) (by omega)), if_neg h0, gd_nI hρ (by decide), count_C he k2 hij hj hn hd, bp_some, gd_nI hρ (by decide), lt_is, nI_clamp (by omega)]
    have hr1 : σ.2 115 (rwC (L.getD r z0).1 i j) = R.1 := hrow.1
    rw [hr1]
    obtain ⟨c1, c2⟩ := cnt115 (v := R.1 + ctA sC T (L.getD r z0).2.1 i j) (c := R.1) (E := R.2) hrow
    obtain ⟨σ', f1, f2, f3, f4⟩ := aw67 (T := T) (c := R.1 + ctA sC T (L.getD r z0).2.1 i j) hr hL k2 hij hj hn hρ hne' rfl hM30 rfl (szA sC T (L.getD r z0).2.1 i j) 0 8000 _ R.2 (by omega) (by omega) (he.keep c1.1) (hd.keep hne' c1) c2 (hkey.mono (by unfold keyN; omega))
    exact ⟨σ', f1, c1.tr f2, f3, f4⟩
theorem ap174 {r x y i j ρ K cut p most : Nat} {c : Int64} {mid : Nat} (hr : r < L.length) (hL : L.length ≤ 60) (hy : y < 96) (hcut : 1 ≤ cut) (hcj : cut ≤ j - i) (hij : i ≤ j) (hj : j < n) (hn : n ≤ 24) (hρ : ρ < 7800) (hney : y < 26 → rwC y (i + cut) j ≠ ρ) (hp : p < 30) (hmost : most ≤ szA sC T y (i + cut) j) (hm30 : most ≤ 30) (sz1 sz2 v5 v6 : Int32) (hv5 : mid = i + cut)
    (k120 : St → Int32 → Int32 → Int32 → Int32 → Int32 → Int32 → Int32 → Int32 → Int32 → Int32 → Int32 → Int32 → Option St) :
    ∀ (m q f : Nat) (σ : St) (E : List En), q + m = most → m + 1 ≤ f → envC L sC sP n σ → depC T y (i + cut) j σ → rowC (σ.2 115) (σ.2 117) (σ.1 116) ρ (c, E) → keysLt E (keyN r cut p q) →
    ∃ (σ' : St) (kp : Int32), kp = (if q = 0 then (if m = 0 then 0 else if (offL E (gB sP T (nI K) r x y i j cut p 0)).2 then 1 else 0) else 1) ∧ C_Chart_addParts_l174 8000 k120 f σ (nI r) (nI i) (nI j) (nI cut) (nI mid) v6 (nI y) sz1 sz2 (nI ρ) (nI p) (nI K + prA sP T x i (i + cut - 1) p) (nI most) (nI q) = k120 σ' (nI r) (nI i) (nI j) (nI cut) (nI mid) v6 (nI y) sz1 sz2 (nI ρ) kp (nI (p + 1)) ∧ sameC ρ σ σ' ∧ rowC (σ'.2 115) (σ'.2 117) (σ'.1 116) ρ (c, unC (gB sP T (nI K) r x y i j cut p) m q E) ∧ keysLt (unC (gB sP T (nI K) r x y i j cut p) m q E) (keyN r cut (p + 1) 0) := by
  subst hv5
  intro m
  induction m with
  | zero =>
    intro q f σ E hq hf he hd hrow hkey
    obtain ⟨f, rfl⟩ : ∃ g, f = g + 1 := ⟨f - 1, by omega⟩
    unfold C_Chart_addParts_l174
    rw [if_pos (nI_le (by omega) (by omega))]
    have hk2 : keysLt E (keyN r cut (p + 1) 0) := hkey.mono (by unfold keyN; omega)
    by_cases h0 : q = 0
    · subst h0
      rw [if_pos (show nI 0 ≤ (0 : Int32) by decide), lt_is, nI_1]
      exact ⟨σ, 0, rfl, rfl, sameC.rf, hrow, hk2⟩
    · rw [if_neg (show ¬ nI q ≤ (0 : Int32) from nI_nle (by omega) (by omega)), lt_is, nI_1]
      exact ⟨σ, 1, by rw [if_neg h0], rfl, sameC.rf, hrow, hk2⟩
  | succ m ih =>
    intro q f σ E hq hf he hd hrow hkey
    obtain ⟨f, rfl⟩ : ∃ g, f = g + 1 := ⟨f - 1, by omega⟩
    unfold C_Chart_addParts_l174
    rw [if_neg (nI_ge (by omega) (by omega)), price_C he hy (by omega) hj hn hd (by omega), bp_some, entryOf_C (by omega) (by omega) (by omega) (by omega), bp_some]
    have hkl := keyN_lt (r := r) (cut := cut) (x := p) (y := q) (by omega) (by omega) (by omega) (by omega)
    obtain ⟨σ1, o1, o2, o3⟩ := offer_C hρ (x := (nI K + prA sP T x i (i + cut - 1) p + prA sP T y (i + cut) j q, keyN r cut p q)) hkl hrow hkey
    have hk1 := off_keys (x := (nI K + prA sP T x i (i + cut - 1) p + prA sP T y (i + cut) j q, keyN r cut p q)) hkey
    rw [o1, bd_some]
    simp only [lt_is, nI_1]
    unfold unC
    have hg : gB sP T (nI K) r x y i j cut p q = (nI K + prA sP T x i (i + cut - 1) p + prA sP T y (i + cut) j q, keyN r cut p q) := rfl
    rw [hg]
    by_cases hb : (offL E (nI K + prA sP T x i (i + cut - 1) p + prA sP T y (i + cut) j q, keyN r cut p q)).2 = true
    · rw [if_pos hb, if_neg (show ¬ (1 : Int32) = 0 by decide), if_pos hb]
      obtain ⟨σ', kp, f0, f1, f2, f3, f4⟩ := ih (q + 1) f σ1 _ (by omega) (by omega) (he.keep o2.1) (hd.keep hney o2) o3 (hk1.mono (by show keyN r cut p q + 1 ≤ keyN r cut p (q + 1); unfold keyN; omega))
      refine ⟨σ', kp, ?_, f1, o2.tr f2, f3, f4⟩
      rw [f0, if_neg (by omega)]
      by_cases h0 : q = 0
      · subst h0
        rw [if_pos rfl, if_neg (by omega), hg, if_pos hb]
      · rw [if_neg h0]
    · rw [if_neg hb, if_pos rfl, if_neg hb]
      have hk2 : keysLt (offL E (nI K + prA sP T x i (i + cut - 1) p + prA sP T y (i + cut) j q, keyN r cut p q)).1 (keyN r cut (p + 1) 0) := hk1.mono (by show keyN r cut p q + 1 ≤ _; unfold keyN; omega)
      by_cases h0 : q = 0
      · subst h0
        rw [if_pos (show nI 0 ≤ (0 : Int32) by decide)]
        exact ⟨σ1, 0, by rw [if_pos rfl, if_neg (by omega), hg, if_neg hb], rfl, o2, o3, hk2⟩
      · rw [if_neg (show ¬ nI q ≤ (0 : Int32) from nI_nle (by omega) (by omega))]
        exact ⟨σ1, 1, by rw [if_neg h0], rfl, o2, o3, hk2⟩
theorem ap120 {r x y i j ρ K cut a b : Nat} {c : Int64} (hr : r < L.length) (hL : L.length ≤ 60) (hx : x < 96) (hy : y < 96) (hcut : 1 ≤ cut) (hcj : cut ≤ j - i) (hij : i ≤ j) (hj : j < n) (hn : n ≤ 24) (hρ : ρ < 7800) (hnex : x < 26 → rwC x i (i + cut - 1) ≠ ρ) (hney : y < 26 → rwC y (i + cut) j ≠ ρ) (ha : szA sC T x i (i + cut - 1) = a) (hb : szA sC T y (i + cut) j = b) (ha30 : a ≤ 30) (hb30 : b ≤ 30) (hb1 : 1 ≤ b) (hK : (L.getD r z0).2.2.2.1 = K) :
    ∀ (m p f : Nat) (σ : St) (E : List En), p + m = a → m + 1 ≤ f → envC L sC sP n σ → depC T x i (i + cut - 1) σ → depC T y (i + cut) j σ → rowC (σ.2 115) (σ.2 117) (σ.1 116) ρ (c, E) → keysLt E (keyN r cut p 0) →
    ∃ σ', C_Chart_addParts_l120 8000 f σ (nI r) (nI i) (nI j) (nI cut) (nI (i + cut)) (nI x) (nI y) (nI a) (nI b) (nI ρ) 1 (nI p) = some σ' ∧ sameC ρ σ σ' ∧ rowC (σ'.2 115) (σ'.2 117) (σ'.1 116) ρ (c, ouX (gB sP T (nI K) r x y i j cut) b m p E) ∧ keysLt (ouX (gB sP T (nI K) r x y i j cut) b m p E) (keyN r (cut + 1) 0 0) := by
  intro m
  induction m with
  | zero =>
    intro p f σ E hp hf he hdx hdy hrow hkey
    obtain ⟨f, rfl⟩ : ∃ g, f = g + 1 := ⟨f - 1, by omega⟩
    unfold C_Chart_addParts_l120
    rw [if_pos (nI_le (by omega) (by omega))]
    exact ⟨σ, rfl, sameC.rf, hrow, hkey.mono (by unfold keyN; omega)⟩
  | succ m ih =>
    intro p f σ E hp hf he hdx hdy hrow hkey
    obtain ⟨f, rfl⟩ : ∃ g, f = g + 1 := ⟨f - 1, by omega⟩
    have hmul : 1 ≤ 30 / (p + 1) := (Nat.le_div_iff_mul_le (by omega)).mpr (by omega)
    have hdl : 30 / (p + 1) ≤ 30 := Nat.div_le_self _ _
    unfold C_Chart_addParts_l120
    rw [if_neg (nI_ge (by omega) (by omega)), if_neg (show ¬ (1 : Int32) = 0 by decide), gd_nI (by omega) (by decide), nI_pred' (by omega), price_C he hx (by omega) (by omega) hn hdx (by omega), bp_some, lt_is, nI_clamp (by omega), (he.1 r hr).2.2.2, hK, nI_1]
    have hgz : ∀ (z : Option St), gz (nI (p + 1)) z = z := fun z => if_neg (nI_ne0 (by omega) (by omega))
    rw [hgz, lt_is, show (30 : Int32) = nI 30 from rfl, pk_div (by decide) (by omega) (by omega)]
    have hmin : (if nI (30 / (p + 1)) < nI b then nI (30 / (p + 1)) else nI b) = nI (min b (30 / (p + 1))) := by
      by_cases z : 30 / (p + 1) < b
      · rw [if_pos (nI_lt z (by omega)), Nat.min_eq_right (by omega)]
      · rw [if_neg (nI_nlt (by omega) (by omega)), Nat.min_eq_left (by omega)]
    rw [hmin]
    have hmost : min b (30 / (p + 1)) ≤ b := Nat.min_le_left _ _
    have hm1 : 1 ≤ min b (30 / (p + 1)) := Nat.le_min.mpr ⟨hb1, hmul⟩
    obtain ⟨σ1, kp, f0, f1, f2, f3, f4⟩ := ap174 (T := T) (x := x) (K := K) (c := c) hr hL hy hcut hcj hij hj hn hρ hney (show p < 30 by omega) (most := min b (30 / (p + 1))) (by omega) (by omega) (nI a) (nI b) (nI i) (nI x) rfl (C_Chart_addParts_l120 8000 f) (min b (30 / (p + 1))) 0 8000 σ E (by omega) (by omega) he hdy hrow hkey
    rw [show (0 : Int32) = nI 0 from rfl, f1]
    rw [if_pos rfl, if_neg (by omega)] at f0
    unfold ouX
    by_cases hbk : (offL E (gB sP T (nI K) r x y i j cut p 0)).2 = true
    · rw [if_pos hbk] at f0 ⊢
      rw [f0]
      obtain ⟨σ', g1, g2, g3, g4⟩ := ih (p + 1) f σ1 _ (by omega) (by omega) (he.keep f2.1) (hdx.keep hnex f2) (hdy.keep hney f2) f3 f4
      exact ⟨σ', g1, f2.tr g2, g3, g4⟩
    · rw [if_neg hbk] at f0 ⊢
      rw [f0]
      obtain ⟨f, rfl⟩ : ∃ g, f = g + 1 := ⟨f - 1, by omega⟩
      have : C_Chart_addParts_l120 8000 (f + 1) σ1 (nI r) (nI i) (nI j) (nI cut) (nI (i + cut)) (nI x) (nI y) (nI a) (nI b) (nI ρ) 0 (nI (p + 1)) = some σ1 := by
        unfold C_Chart_addParts_l120
        by_cases hq : nI a ≤ nI (p + 1)
        · rw [if_pos hq]
        · rw [if_neg hq, if_pos rfl]
      rw [this]
      exact ⟨σ1, rfl, f2, f3, f4.mono (by unfold keyN; omega)⟩
theorem addP_C {r i j cut : Nat} {R : Row} {σ : St} (hok : okL L) (hr : r < L.length) (hY : (L.getD r z0).2.2.1 ≠ 96) (hcut : 1 ≤ cut) (hcj : cut ≤ j - i) (hij : i ≤ j) (hj : j < n) (hn : n ≤ 24) (he : envC L sC sP n σ) (hdx : depC T (L.getD r z0).2.1 i (i + cut - 1) σ) (hdy : depC T (L.getD r z0).2.2.1 (i + cut) j σ)
    (hlx : (L.getD r z0).2.1 < 26 → (T (L.getD r z0).2.1 i (i + cut - 1)).2.length ≤ 30) (hly : (L.getD r z0).2.2.1 < 26 → (T (L.getD r z0).2.2.1 (i + cut) j).2.length ≤ 30)
    (hrow : rowC (σ.2 115) (σ.2 117) (σ.1 116) (rwC (L.getD r z0).1 i j) R) (hkey : keysLt R.2 (keyN r cut 0 0)) :
    ∃ σ', C_Chart_addParts 8000 σ (nI r) (nI i) (nI j) (nI cut) = some σ' ∧ sameC (rwC (L.getD r z0).1 i j) σ σ' ∧ rowC (σ'.2 115) (σ'.2 117) (σ'.1 116) (rwC (L.getD r z0).1 i j) (if szA sC T (L.getD r z0).2.1 i (i + cut - 1) = 0 ∨ szA sC T (L.getD r z0).2.2.1 (i + cut) j = 0 then R else (R.1 + ctA sC T (L.getD r z0).2.1 i (i + cut - 1) * ctA sC T (L.getD r z0).2.2.1 (i + cut) j, ouX (gB sP T (nI (L.getD r z0).2.2.2.1) r (L.getD r z0).2.1 (L.getD r z0).2.2.1 i j cut) (szA sC T (L.getD r z0).2.2.1 (i + cut) j) (szA sC T (L.getD r z0).2.1 i (i + cut - 1)) 0 R.2)) ∧ keysLt (if szA sC T (L.getD r z0).2.1 i (i + cut - 1) = 0 ∨ szA sC T (L.getD r z0).2.2.1 (i + cut) j = 0 then R else (R.1 + ctA sC T (L.getD r z0).2.1 i (i + cut - 1) * ctA sC T (L.getD r z0).2.2.1 (i + cut) j, ouX (gB sP T (nI (L.getD r z0).2.2.2.1) r (L.getD r z0).2.1 (L.getD r z0).2.2.1 i j cut) (szA sC T (L.getD r z0).2.2.1 (i + cut) j) (szA sC T (L.getD r z0).2.1 i (i + cut - 1)) 0 R.2)).2 (keyN r (cut + 1) 0 0) := by
  have hL := hok.1
  obtain ⟨k1, k2, k3, -⟩ := hok.2 r hr
  have hy : (L.getD r z0).2.2.1 < 96 := by omega
  have hρ := rwC_lt k1 hij (show j < 24 by omega)
  have hnex : (L.getD r z0).2.1 < 26 → rwC (L.getD r z0).2.1 i (i + cut - 1) ≠ rwC (L.getD r z0).1 i j := fun h z => by have := (rwC_inj h k1 (by omega) hij z).2.2; omega
  have hney : (L.getD r z0).2.2.1 < 26 → rwC (L.getD r z0).2.2.1 (i + cut) j ≠ rwC (L.getD r z0).1 i j := fun h z => by have := (rwC_inj h k1 (by omega) hij z).2.1; omega
  obtain ⟨g1, g2, g3, g4⟩ := he.1 r hr
  have hYo : oY (L.getD r z0).2.2.1 = nI (L.getD r z0).2.2.1 := if_neg hY
  unfold C_Chart_addParts
  rw [lt_is, nI_add, gd_nI (by omega) (by decide), nI_clamp (by omega), g2, lt_is, gd_nI (by omega) (by decide), lt_is, g3, hYo, nI_pred' (by omega), size_C he k2 (by omega) (by omega) hn hdx, bp_some]
  have ha30 : szA sC T (L.getD r z0).2.1 i (i + cut - 1) ≤ 30 := szA_le hlx
  have hb30 : szA sC T (L.getD r z0).2.2.1 (i + cut) j ≤ 30 := szA_le hly
  have hk0 : keysLt R.2 (keyN r (cut + 1) 0 0) := hkey.mono (by unfold keyN; omega)
  by_cases h1 : szA sC T (L.getD r z0).2.1 i (i + cut - 1) = 0
  · rw [if_pos (by rw [h1]; rfl), if_pos (Or.inl h1)]
    unfold C_Chart_addParts_b59
    rw [if_pos rfl]
    exact ⟨σ, rfl, sameC.rf, hrow, hk0⟩
  · rw [if_neg (nI_ne0 (by omega) (by omega)), size_C he hy (by omega) hj hn hdy, bp_some]
    unfold C_Chart_addParts_b59
    by_cases h2 : szA sC T (L.getD r z0).2.2.1 (i + cut) j = 0
    · rw [if_pos (by rw [h2]; rfl), if_pos (Or.inr h2)]
      exact ⟨σ, rfl, sameC.rf, hrow, hk0⟩
    · rw [if_neg (nI_ne0 (by omega) (by omega)), if_neg (fun z => z.elim h1 h2), gd_nI (by omega) (by decide), nI_clamp (by omega), g1, rowOf_C (by omega), bp_some, gd_nI hρ (by decide), nI_pred' (by omega), count_C he k2 (by omega) (by omega) hn hdx, bp_some, count_C he hy (by omega) hj hn hdy, bp_some, gd_nI hρ (by decide), lt_is, nI_clamp (by omega)]
      have hr1 : σ.2 115 (rwC (L.getD r z0).1 i j) = R.1 := hrow.1
      rw [hr1]
      obtain ⟨c1, c2⟩ := cnt115 (v := R.1 + ctA sC T (L.getD r z0).2.1 i (i + cut - 1) * ctA sC T (L.getD r z0).2.2.1 (i + cut) j) (c := R.1) (E := R.2) hrow
      obtain ⟨σ', f1, f2, f3, f4⟩ := ap120 (T := T) (c := R.1 + ctA sC T (L.getD r z0).2.1 i (i + cut - 1) * ctA sC T (L.getD r z0).2.2.1 (i + cut) j) hr hL k2 hy hcut hcj hij hj hn hρ hnex hney rfl rfl ha30 hb30 (by omega) rfl (szA sC T (L.getD r z0).2.1 i (i + cut - 1)) 0 8000 _ R.2 (by omega) (by omega) (he.keep c1.1) (hdx.keep hnex c1) (hdy.keep hney c1) c2 hkey
      exact ⟨σ', f1, c1.tr f2, f3, f4⟩
end

/-! a row takes an entry: offer, comes -/
def ps (E : List En) (c : Int32) : Nat → Nat
  | 0 => 0
  | m + 1 => if c < (E.getD m e0).1 then ps E c m else m + 1
theorem ps_le (E : List En) (c : Int32) : ∀ m, ps E c m ≤ m := by
  intro m
  induction m with
  | zero => exact Nat.le_refl _
  | succ m ih => unfold ps; split <;> omega
def insA (E : List En) (p : Nat) (x : En) : List En := E.take p ++ x :: E.drop p
theorem insA_len {E : List En} {p : Nat} {x : En} (h : p ≤ E.length) : (insA E p x).length = E.length + 1 := by
  unfold insA
  rw [List.length_append, List.length_cons, List.length_take, List.length_drop]
  omega
theorem insA_get {E : List En} {p : Nat} {x : En} (h : p ≤ E.length) (j : Nat) : (insA E p x).getD j e0 = if j < p then E.getD j e0 else if j = p then x else E.getD (j - 1) e0 := by
  unfold insA
  have ht : (E.take p).length = p := by rw [List.length_take]; omega
  simp only [List.getD_eq_getElem?_getD]
  by_cases h1 : j < p
  · rw [if_pos h1, List.getElem?_append_left (by omega), List.getElem?_take_of_lt h1]
  · rw [if_neg h1, List.getElem?_append_right (by omega), ht]
    by_cases h2 : j = p
    · rw [if_pos h2, h2, Nat.sub_self]; rfl
    · rw [if_neg h2, show j - p = (j - p - 1) + 1 by omega, List.getElem?_cons_succ, List.getElem?_drop, show p + (j - p - 1) = j - 1 by omega]
def offL (E : List En) (x : En) : List En × Bool :=
  if E.length < 30 then (insA E (ps E x.1 E.length) x, true) else if x.1 < (E.getD 29 e0).1 then (insA (E.take 29) (ps E x.1 29) x, true) else (E, false)
theorem take_get {E : List En} {j m : Nat} (h : j < m) : (E.take m).getD j e0 = E.getD j e0 := by
  simp only [List.getD_eq_getElem?_getD]
  rw [List.getElem?_take_of_lt h]
def keysLt (E : List En) (kk : Nat) : Prop := ∀ k, k < E.length → (E.getD k e0).2 < kk
def rowC (f115 f117 : Nat → Int64) (f116 : Nat → Int32) (ρ : Nat) (R : Row) : Prop := f115 ρ = R.1 ∧ f116 ρ = nI R.2.length ∧ R.2.length ≤ 30 ∧ ∀ k, k < R.2.length → f117 (30 * ρ + k) = ent (R.2.getD k e0) ∧ (R.2.getD k e0).2 < 2097152
def rowM (g34 : Nat → Int64) (g33 g35 g36 : Nat → Int32) (ρ : Nat) (R : Row) : Prop := g34 ρ = R.1 ∧ g33 ρ = nI R.2.length ∧ R.2.length ≤ 30 ∧ ∀ k, k < R.2.length → g35 (30 * ρ + k) = (R.2.getD k e0).1 ∧ g36 (30 * ρ + k) = nI (R.2.getD k e0).2 ∧ (R.2.getD k e0).2 < 2097152
/-- but for one row nothing has changed -/
def sameC (ρ : Nat) (σ σ' : St) : Prop := fr [115, 116, 117] σ σ' ∧ ∀ q, q ≠ ρ → σ'.2 115 q = σ.2 115 q ∧ σ'.1 116 q = σ.1 116 q ∧ ∀ k, k < 30 → σ'.2 117 (30 * q + k) = σ.2 117 (30 * q + k)
def sameM (ρ : Nat) (τ τ' : St) : Prop := fr [33, 34, 35, 36] τ τ' ∧ ∀ q, q ≠ ρ → τ'.2 34 q = τ.2 34 q ∧ τ'.1 33 q = τ.1 33 q ∧ ∀ k, k < 30 → τ'.1 35 (30 * q + k) = τ.1 35 (30 * q + k) ∧ τ'.1 36 (30 * q + k) = τ.1 36 (30 * q + k)
theorem sameC.rf {ρ : Nat} {σ : St} : sameC ρ σ σ := ⟨fr.rf, fun _ _ => ⟨rfl, rfl, fun _ _ => rfl⟩⟩
theorem sameC.tr {ρ : Nat} {σ σ1 σ2 : St} (h : sameC ρ σ σ1) (g : sameC ρ σ1 σ2) : sameC ρ σ σ2 := ⟨h.1.tr g.1, fun q hq => ⟨(g.2 q hq).1.trans (h.2 q hq).1, (g.2 q hq).2.1.trans (h.2 q hq).2.1, fun k hk => ((g.2 q hq).2.2 k hk).trans ((h.2 q hq).2.2 k hk)⟩⟩
theorem sameM.rf {ρ : Nat} {τ : St} : sameM ρ τ τ := ⟨fr.rf, fun _ _ => ⟨rfl, rfl, fun _ _ => ⟨rfl, rfl⟩⟩⟩
theorem sameM.tr {ρ : Nat} {σ σ1 σ2 : St} (h : sameM ρ σ σ1) (g : sameM ρ σ1 σ2) : sameM ρ σ σ2 := ⟨h.1.tr g.1, fun q hq => ⟨(g.2 q hq).1.trans (h.2 q hq).1, (g.2 q hq).2.1.trans (h.2 q hq).2.1, fun k hk => ⟨((g.2 q hq).2.2 k hk).1.trans ((h.2 q hq).2.2 k hk).1, ((g.2 q hq).2.2 k hk).2.trans ((h.2 q hq).2.2 k hk).2⟩⟩⟩
theorem rowC_keep {ρ q : Nat} {σ σ' : St} {R : Row} (h : sameC ρ σ σ') (hq : q ≠ ρ) (hr : rowC (σ.2 115) (σ.2 117) (σ.1 116) q R) : rowC (σ'.2 115) (σ'.2 117) (σ'.1 116) q R := by
  obtain ⟨a1, a2, a3⟩ := h.2 q hq
  obtain ⟨b1, b2, b3, b4⟩ := hr
  exact ⟨a1.trans b1, a2.trans b2, b3, fun k hk => ⟨(a3 k (by omega)).trans (b4 k hk).1, (b4 k hk).2⟩⟩
theorem rowM_keep {ρ q : Nat} {σ σ' : St} {R : Row} (h : sameM ρ σ σ') (hq : q ≠ ρ) (hr : rowM (σ.2 34) (σ.1 33) (σ.1 35) (σ.1 36) q R) : rowM (σ'.2 34) (σ'.1 33) (σ'.1 35) (σ'.1 36) q R := by
  obtain ⟨a1, a2, a3⟩ := h.2 q hq
  obtain ⟨b1, b2, b3, b4⟩ := hr
  exact ⟨a1.trans b1, a2.trans b2, b3, fun k hk => ⟨(a3 k (by omega)).1.trans (b4 k hk).1, (a3 k (by omega)).2.trans (b4 k hk).2.1, (b4 k hk).2.2⟩⟩
theorem off55 {ρ : Nat} (hρ : ρ < 7800) {E : List En} {x : En} (hx : x.2 < 2097152) : ∀ (h f : Nat) (σ : St), h ≤ 29 → h ≤ E.length → h + 1 ≤ f → (∀ k, k < h → σ.2 117 (30 * ρ + k) = ent (E.getD k e0) ∧ (E.getD k e0).2 < x.2) →
    ∃ σ', C_Chart_offer_l55 8000 f σ (ent x) (nI (30 * ρ)) (nI h) = some (1, σ') ∧ fr [117] σ σ' ∧ (∀ k, k ≤ h → σ'.2 117 (30 * ρ + k) = if k < ps E x.1 h then ent (E.getD k e0) else if k = ps E x.1 h then ent x else ent (E.getD (k - 1) e0)) ∧ ∀ q, (q < 30 * ρ ∨ 30 * ρ + h < q) → σ'.2 117 q = σ.2 117 q := by
  intro h
  induction h with
  | zero =>
    intro f σ _ _ hf _
    obtain ⟨f, rfl⟩ : ∃ k, f = k + 1 := ⟨f - 1, by omega⟩
    unfold C_Chart_offer_l55
    rw [if_pos (by decide), nI_add, gd_nI (by omega) (by decide), lt_is, nI_clamp (by omega)]
    refine ⟨_, rfl, fr.sJ (by decide), fun k hk => ?_, fun q hq => ?_⟩
    · have : k = 0 := by omega
      subst this
      rw [sJ_2, if_pos rfl, if_pos rfl, if_neg (show ¬ 0 < ps E x.1 0 from Nat.lt_irrefl 0), if_pos (show 0 = ps E x.1 0 from rfl)]
    · rw [sJ_2, if_pos rfl, if_neg (by omega)]
  | succ h ih =>
    intro f σ h1 h2 hf hE
    obtain ⟨f, rfl⟩ : ∃ k, f = k + 1 := ⟨f - 1, by omega⟩
    obtain ⟨g1, g2⟩ := hE h (by omega)
    unfold C_Chart_offer_l55 ps
    rw [if_neg (nI_nle (by omega) (by omega)), nI_add, show nI (30 * ρ + (h + 1)) - 1 = nI (30 * ρ + h) from nI_pred (30 * ρ + h), gd_nI (by omega) (by decide), nI_clamp (show 30 * ρ + h < 2 ^ 31 by omega), g1]
    by_cases hc : x.1 < (E.getD h e0).1
    · rw [if_neg (fun z => ((cmp1 hx (by omega) g2).mp z) hc), gd_nI (by omega) (by decide), gd_nI (by omega) (by decide), lt_is, nI_clamp (show 30 * ρ + (h + 1) < 2 ^ 31 by omega), lt_is, if_pos hc, show nI (h + 1) + -1 = nI h from pk_m1 h]
      obtain ⟨σ', e1, e2, e3, e4⟩ := ih f (sJ σ 117 (30 * ρ + (h + 1)) (ent (E.getD h e0))) (by omega) (by omega) (by omega) (fun k hk => by
        rw [sJ_2, if_pos rfl, if_neg (by omega)]
        exact hE k (by omega))
      have hp := ps_le E x.1 h
      refine ⟨σ', e1, (fr.sJ (by decide)).tr e2, fun k hk => ?_, fun q hq => ?_⟩
      · by_cases ek : k = h + 1
        · subst ek
          rw [e4 _ (by omega), sJ_2, if_pos rfl, if_pos rfl, if_neg (by omega), if_neg (by omega), show h + 1 - 1 = h by omega]
        · exact e3 k (by omega)
      · rw [e4 q (by omega), sJ_2, if_pos rfl, if_neg (by omega)]
    · rw [if_pos ((cmp1 hx (by omega) g2).mpr hc), gd_nI (by omega) (by decide), lt_is, nI_clamp (show 30 * ρ + (h + 1) < 2 ^ 31 by omega), if_neg hc]
      refine ⟨_, rfl, fr.sJ (by decide), fun k hk => ?_, fun q hq => ?_⟩
      · rw [sJ_2, if_pos rfl]
        by_cases ek : k = h + 1
        · rw [if_pos (by omega), if_neg (by omega), if_pos ek]
        · rw [if_neg (by omega), if_pos (by omega)]
          exact (hE k (by omega)).1
      · rw [sJ_2, if_pos rfl, if_neg (by omega)]
theorem offer_C {ρ : Nat} (hρ : ρ < 7800) {c : Int64} {E : List En} {x : En} (hx : x.2 < 2097152) {σ : St} (hr : rowC (σ.2 115) (σ.2 117) (σ.1 116) ρ (c, E)) (hk : keysLt E x.2) :
    ∃ σ', C_Chart_offer 8000 σ (nI ρ) (ent x) = some (if (offL E x).2 then 1 else 0, σ') ∧ sameC ρ σ σ' ∧ rowC (σ'.2 115) (σ'.2 117) (σ'.1 116) ρ (c, (offL E x).1) := by
  obtain ⟨r1, r2, r3, r4⟩ := hr
  have r2' : σ.1 116 ρ = nI E.length := r2
  have r3' : E.length ≤ 30 := r3
  unfold C_Chart_offer
  rw [lt_is, gd_nI hρ (by decide), lt_is, nI_clamp (by omega), r2', show (30 : Int32) = nI 30 from rfl, pk_mul, show ρ * 30 = 30 * ρ by omega]
  unfold offL
  by_cases h30 : E.length < 30
  · rw [if_neg (nI_ge h30 (by omega)), gd_nI hρ (by decide), lt_is, nI_1, if_pos h30]
    obtain ⟨σ', e1, e2, e3, e4⟩ := off55 hρ (E := E) (x := x) hx E.length 8000 (sI σ 116 ρ (nI (E.length + 1))) (by omega) (Nat.le_refl _) (by omega) (fun k hk2 => ⟨(r4 k hk2).1, hk k hk2⟩)
    have hp := ps_le E x.1 E.length
    refine ⟨σ', e1, ⟨(fr.sI (by decide)).tr (e2.wk (by decide)), fun q hq => ⟨?_, ?_, fun k hk2 => ?_⟩⟩, ?_, ?_, ?_, fun k hk2 => ?_⟩
    · rw [e2.2 115 (by decide)]; rfl
    · rw [e2.1 116 (by decide), sI_1, if_pos rfl, if_neg hq]
    · rw [e4 _ (by omega)]; rfl
    · rw [e2.2 115 (by decide)]; exact r1
    · rw [e2.1 116 (by decide), sI_1, if_pos rfl, if_pos rfl]
      show _ = nI (insA E (ps E x.1 E.length) x).length
      rw [insA_len hp]
    · show (insA E (ps E x.1 E.length) x).length ≤ 30
      rw [insA_len hp]; omega
    · have hk3 : k < (insA E (ps E x.1 E.length) x).length := hk2
      rw [insA_len hp] at hk3
      show _ = ent ((insA E (ps E x.1 E.length) x).getD k e0) ∧ ((insA E (ps E x.1 E.length) x).getD k e0).2 < _
      rw [e3 k (by omega), insA_get hp]
      by_cases c1 : k < ps E x.1 E.length
      · rw [if_pos c1, if_pos c1]; exact ⟨rfl, (r4 k (by show k < E.length; omega)).2⟩
      · rw [if_neg c1, if_neg c1]
        by_cases c2 : k = ps E x.1 E.length
        · rw [if_pos c2, if_pos c2]; exact ⟨rfl, hx⟩
        · rw [if_neg c2, if_neg c2]; exact ⟨rfl, (r4 (k - 1) (by show k - 1 < E.length; omega)).2⟩
  · have hlen : E.length = 30 := by omega
    have hl29 := (r4 29 (by show 29 < E.length; omega))
    have hk29 := hk 29 (by omega)
    rw [if_pos (nI_le (by omega) (by omega)), show (29 : Int32) = nI 29 from rfl, nI_add, gd_nI (by omega) (by decide), nI_clamp (show 30 * ρ + 29 < 2 ^ 31 by omega), hl29.1, if_neg h30]
    by_cases hc : x.1 < (E.getD 29 e0).1
    · rw [if_pos ((cmp2 hx hl29.2 hk29).mpr hc), if_pos hc]
      obtain ⟨σ', e1, e2, e3, e4⟩ := off55 hρ (E := E) (x := x) hx 29 8000 σ (by omega) (by omega) (by omega) (fun k hk2 => ⟨(r4 k (by show k < E.length; omega)).1, hk k (by omega)⟩)
      have hp := ps_le E x.1 29
      have ht : (E.take 29).length = 29 := by rw [List.length_take]; omega
      refine ⟨σ', e1, ⟨e2.wk (by decide), fun q hq => ⟨?_, ?_, fun k hk2 => ?_⟩⟩, ?_, ?_, ?_, fun k hk2 => ?_⟩
      · rw [e2.2 115 (by decide)]
      · rw [e2.1 116 (by decide)]
      · rw [e4 _ (by omega)]
      · rw [e2.2 115 (by decide)]; exact r1
      · rw [e2.1 116 (by decide), r2']
        show _ = nI (insA (E.take 29) (ps E x.1 29) x).length
        rw [insA_len (by omega), ht, hlen]
      · show (insA (E.take 29) (ps E x.1 29) x).length ≤ 30
        rw [insA_len (by omega), ht]; omega
      · have hk3 : k < (insA (E.take 29) (ps E x.1 29) x).length := hk2
        rw [insA_len (by omega), ht] at hk3
        show _ = ent ((insA (E.take 29) (ps E x.1 29) x).getD k e0) ∧ ((insA (E.take 29) (ps E x.1 29) x).getD k e0).2 < _
        rw [e3 k (by omega), insA_get (by omega)]
        by_cases c1 : k < ps E x.1 29
        · rw [if_pos c1, if_pos c1, take_get (by omega)]; exact ⟨rfl, (r4 k (by show k < E.length; omega)).2⟩
        · rw [if_neg c1, if_neg c1]
          by_cases c2 : k = ps E x.1 29
          · rw [if_pos c2, if_pos c2]; exact ⟨rfl, hx⟩
          · rw [if_neg c2, if_neg c2, take_get (by omega)]; exact ⟨rfl, (r4 (k - 1) (by show k - 1 < E.length; omega)).2⟩
    · rw [if_neg (fun z => hc ((cmp2 hx hl29.2 hk29).mp z)), if_neg hc]
      exact ⟨σ, rfl, sameC.rf, r1, r2, r3, r4⟩
theorem com89 {ρ : Nat} (hρ : ρ < 7800) {E : List En} {x : En} (hx : x.2 < 2097152) (m : Nat) (hm : m ≤ 30) : ∀ (h f : Nat) (τ : St), h ≤ 29 → h ≤ E.length → h + 1 ≤ f → (∀ k, k < h → τ.1 35 (30 * ρ + k) = (E.getD k e0).1 ∧ τ.1 36 (30 * ρ + k) = nI (E.getD k e0).2 ∧ (E.getD k e0).2 < x.2) →
    ∃ τ', M_comes_l89 8000 f τ (nI ρ) x.1 (nI x.2) (nI m) (nI (30 * ρ)) (nI h) = some (1, τ') ∧ fr [33, 35, 36] τ τ' ∧ τ'.1 33 ρ = nI (if m = 30 then m else m + 1) ∧ (∀ q, q ≠ ρ → τ'.1 33 q = τ.1 33 q) ∧ (∀ k, k ≤ h → τ'.1 35 (30 * ρ + k) = (if k < ps E x.1 h then (E.getD k e0) else if k = ps E x.1 h then x else (E.getD (k - 1) e0)).1 ∧ τ'.1 36 (30 * ρ + k) = nI (if k < ps E x.1 h then (E.getD k e0) else if k = ps E x.1 h then x else (E.getD (k - 1) e0)).2) ∧ ∀ q, (q < 30 * ρ ∨ 30 * ρ + h < q) → τ'.1 35 q = τ.1 35 q ∧ τ'.1 36 q = τ.1 36 q := by
  -- the end of the loop, at the place p
  have fin : ∀ (p : Nat) (τ : St), p ≤ 29 → M_comes_b192 8000 τ (nI ρ) x.1 (nI x.2) (nI m) (nI (30 * ρ)) (nI p) = some (1, sI (sI (sI τ 35 (30 * ρ + p) x.1) 36 (30 * ρ + p) (nI x.2)) 33 ρ (nI (if m = 30 then m else m + 1))) := by
    intro p τ hp
    unfold M_comes_b192
    rw [nI_add, gd_nI (by omega) (by decide), lt_is, gd_nI (by omega) (by decide), lt_is, nI_clamp (show 30 * ρ + p < 2 ^ 31 by omega), show (30 : Int32) = nI 30 from rfl]
    by_cases e : m = 30
    · rw [if_pos (by rw [e]), gd_nI hρ (by decide), lt_is, nI_clamp (by omega), if_pos e]
    · rw [if_neg (neq 30 e (by omega) (by decide)), gd_nI hρ (by decide), lt_is, nI_clamp (by omega), nI_1, if_neg e]
  intro h
  induction h with
  | zero =>
    intro f τ _ _ hf _
    obtain ⟨f, rfl⟩ : ∃ k, f = k + 1 := ⟨f - 1, by omega⟩
    unfold M_comes_l89
    rw [if_pos (by decide), fin 0 τ (by omega)]
    refine ⟨_, rfl, ((fr.sI (by decide)).tr (fr.sI (by decide))).tr (fr.sI (by decide)), ?_, fun q hq => ?_, fun k hk => ?_, fun q hq => ?_⟩
    · rw [sI_1, if_pos rfl, if_pos rfl]
    · rw [sI_1, if_pos rfl, if_neg hq]; rfl
    · have : k = 0 := by omega
      subst this
      rw [show ps E x.1 0 = 0 from rfl, if_neg (show ¬ 0 < 0 by omega), if_pos (show 0 = 0 from rfl)]
      simp [sI_1]
    · have hne : ¬ q = 30 * ρ := by omega
      simp [sI_1, hne]
  | succ h ih =>
    intro f τ h1 h2 hf hE
    obtain ⟨f, rfl⟩ : ∃ k, f = k + 1 := ⟨f - 1, by omega⟩
    obtain ⟨g1, g2, g3⟩ := hE h (by omega)
    have hp := ps_le E x.1 h
    unfold M_comes_l89 ps
    rw [if_neg (nI_nle (by omega) (by omega)), nI_add, show nI (30 * ρ + (h + 1)) - 1 = nI (30 * ρ + h) from nI_pred (30 * ρ + h), gd_nI (by omega) (by decide), nI_clamp (show 30 * ρ + h < 2 ^ 31 by omega), g1, g2]
    have stop : ¬ x.1 < (E.getD h e0).1 → ∃ τ', M_comes_b192 8000 τ (nI ρ) x.1 (nI x.2) (nI m) (nI (30 * ρ)) (nI (h + 1)) = some (1, τ') ∧ fr [33, 35, 36] τ τ' ∧ τ'.1 33 ρ = nI (if m = 30 then m else m + 1) ∧ (∀ q, q ≠ ρ → τ'.1 33 q = τ.1 33 q) ∧ (∀ k, k ≤ h + 1 → τ'.1 35 (30 * ρ + k) = (if k < h + 1 then (E.getD k e0) else if k = h + 1 then x else (E.getD (k - 1) e0)).1 ∧ τ'.1 36 (30 * ρ + k) = nI (if k < h + 1 then (E.getD k e0) else if k = h + 1 then x else (E.getD (k - 1) e0)).2) ∧ ∀ q, (q < 30 * ρ ∨ 30 * ρ + (h + 1) < q) → τ'.1 35 q = τ.1 35 q ∧ τ'.1 36 q = τ.1 36 q := by
      intro _
      rw [fin (h + 1) τ (by omega)]
      refine ⟨_, rfl, ((fr.sI (by decide)).tr (fr.sI (by decide))).tr (fr.sI (by decide)), ?_, fun q hq => ?_, fun k hk => ?_, fun q hq => ?_⟩
      · rw [sI_1, if_pos rfl, if_pos rfl]
      · rw [sI_1, if_pos rfl, if_neg hq]; rfl
      · by_cases ek : k = h + 1
        · subst ek
          rw [if_neg (show ¬ h + 1 < h + 1 by omega), if_pos (show h + 1 = h + 1 from rfl)]
          simp [sI_1]
        · rw [if_pos (show k < h + 1 by omega)]
          have hne : ¬ 30 * ρ + k = 30 * ρ + (h + 1) := by omega
          obtain ⟨w1, w2, -⟩ := hE k (by omega)
          simp only [sI_1]
          simp only [hne]
          exact ⟨w1, w2⟩
      · have hne : ¬ q = 30 * ρ + (h + 1) := by omega
        simp [sI_1, hne]
    by_cases hc : x.1 < (E.getD h e0).1
    · rw [if_pos hc, if_pos hc]
      unfold M_comes_b142
      rw [nI_add, show nI (30 * ρ + (h + 1)) - 1 = nI (30 * ρ + h) from nI_pred (30 * ρ + h), gd_nI (by omega) (by decide), gd_nI (by omega) (by decide), lt_is, nI_clamp (show 30 * ρ + h < 2 ^ 31 by omega), nI_clamp (show 30 * ρ + (h + 1) < 2 ^ 31 by omega), gd_nI (by omega) (by decide), gd_nI (by omega) (by decide), lt_is, lt_is, show nI (h + 1) + -1 = nI h from pk_m1 h]
      have e36 : (sI τ 35 (30 * ρ + (h + 1)) (τ.1 35 (30 * ρ + h))).1 36 (30 * ρ + h) = nI (E.getD h e0).2 := g2
      rw [e36, g1]
      obtain ⟨τ', e1, e2, e3, e4, e5, e6⟩ := ih f (sI (sI τ 35 (30 * ρ + (h + 1)) (E.getD h e0).1) 36 (30 * ρ + (h + 1)) (nI (E.getD h e0).2)) (by omega) (by omega) (by omega) (fun k hk => by
        have hne : ¬ 30 * ρ + k = 30 * ρ + (h + 1) := by omega
        obtain ⟨w1, w2, w3⟩ := hE k (by omega)
        simp only [sI_1]
        simp only [hne]
        exact ⟨w1, w2, w3⟩)
      refine ⟨τ', e1, ((fr.sI (by decide)).tr (fr.sI (by decide))).tr e2, e3, fun q hq => ?_, fun k hk => ?_, fun q hq => ?_⟩
      · rw [e4 q hq]; rfl
      · by_cases ek : k = h + 1
        · subst ek
          obtain ⟨w1, w2⟩ := e6 (30 * ρ + (h + 1)) (by omega)
          rw [w1, w2, if_neg (show ¬ h + 1 < ps E x.1 h by omega), if_neg (show ¬ h + 1 = ps E x.1 h by omega), show h + 1 - 1 = h by omega]
          simp [sI_1]
        · exact e5 k (by omega)
      · obtain ⟨w1, w2⟩ := e6 q (by omega)
        have hne : ¬ q = 30 * ρ + (h + 1) := by omega
        rw [w1, w2]
        simp [sI_1, hne]
    · rw [if_neg hc, if_neg hc, gd_nI (by omega) (by decide)]
      by_cases he : (E.getD h e0).1 = x.1
      · rw [if_pos he, gd_nI (by omega) (by decide), if_pos (nI_le (by omega) (by omega))]
        exact stop hc
      · rw [if_neg he]
        exact stop hc
theorem comes_M {ρ : Nat} (hρ : ρ < 7800) {c : Int64} {E : List En} {x : En} (hx : x.2 < 2097152) {τ : St} (hr : rowM (τ.2 34) (τ.1 33) (τ.1 35) (τ.1 36) ρ (c, E)) (hk : keysLt E x.2) :
    ∃ τ', M_comes 8000 τ (nI ρ) x.1 (nI x.2) = some (if (offL E x).2 then 1 else 0, τ') ∧ sameM ρ τ τ' ∧ rowM (τ'.2 34) (τ'.1 33) (τ'.1 35) (τ'.1 36) ρ (c, (offL E x).1) := by
  obtain ⟨r1, r2, r3, r4⟩ := hr
  have r2' : τ.1 33 ρ = nI E.length := r2
  have r3' : E.length ≤ 30 := r3
  unfold M_comes
  rw [gd_nI hρ (by decide), lt_is, lt_is, nI_clamp (by omega), r2', show (30 : Int32) = nI 30 from rfl, pk_mul]
  unfold offL
  by_cases h30 : E.length < 30
  · rw [if_neg (neq 30 (by omega) (by omega) (by decide)), if_neg (neq 30 (by omega) (by omega) (by decide)), if_pos h30]
    obtain ⟨τ', e1, e2, e3, e4, e5, e6⟩ := com89 hρ (E := E) (x := x) hx E.length r3' E.length 8000 τ (by omega) (Nat.le_refl _) (by omega) (fun k hk2 => ⟨(r4 k hk2).1, (r4 k hk2).2.1, hk k hk2⟩)
    have hp := ps_le E x.1 E.length
    rw [if_neg (by omega)] at e3
    refine ⟨τ', e1, ⟨e2.wk (by decide), fun q hq => ⟨?_, e4 q hq, fun k hk2 => e6 _ (by omega)⟩⟩, ?_, ?_, ?_, fun k hk2 => ?_⟩
    · rw [e2.2 34 (by decide)]
    · rw [e2.2 34 (by decide)]; exact r1
    · rw [e3]
      show _ = nI (insA E (ps E x.1 E.length) x).length
      rw [insA_len hp]
    · show (insA E (ps E x.1 E.length) x).length ≤ 30
      rw [insA_len hp]; omega
    · have hk3 : k < (insA E (ps E x.1 E.length) x).length := hk2
      rw [insA_len hp] at hk3
      obtain ⟨w1, w2⟩ := e5 k (by omega)
      show _ = ((insA E (ps E x.1 E.length) x).getD k e0).1 ∧ _ = nI ((insA E (ps E x.1 E.length) x).getD k e0).2 ∧ ((insA E (ps E x.1 E.length) x).getD k e0).2 < _
      rw [w1, w2, insA_get hp]
      refine ⟨rfl, rfl, ?_⟩
      by_cases c1 : k < ps E x.1 E.length
      · rw [if_pos c1]; exact (r4 k (by show k < E.length; omega)).2.2
      · rw [if_neg c1]
        by_cases c2 : k = ps E x.1 E.length
        · rw [if_pos c2]; exact hx
        · rw [if_neg c2]; exact (r4 (k - 1) (by show k - 1 < E.length; omega)).2.2
  · have hlen : E.length = 30 := by omega
    obtain ⟨q1, q2, q3⟩ := (r4 29 (by show 29 < E.length; omega))
    have hk29 := hk 29 (by omega)
    rw [if_pos (by rw [hlen]), if_neg h30, nI_add, show (1 : Int32) = nI 1 from rfl, pk_sub (by omega), show 30 * ρ + E.length - 1 = 30 * ρ + 29 by omega, gd_nI (by omega) (by decide), nI_clamp (show 30 * ρ + 29 < 2 ^ 31 by omega), q1, q2]
    have go : ∃ τ', M_comes_l89 8000 8000 τ (nI ρ) x.1 (nI x.2) (nI E.length) (nI (30 * ρ)) (nI 29) = some (1, τ') ∧ sameM ρ τ τ' ∧ rowM (τ'.2 34) (τ'.1 33) (τ'.1 35) (τ'.1 36) ρ (c, insA (E.take 29) (ps E x.1 29) x) := by
      obtain ⟨τ', e1, e2, e3, e4, e5, e6⟩ := com89 hρ (E := E) (x := x) hx E.length r3' 29 8000 τ (by omega) (by omega) (by omega) (fun k hk2 => ⟨(r4 k (by show k < E.length; omega)).1, (r4 k (by show k < E.length; omega)).2.1, hk k (by omega)⟩)
      have hp := ps_le E x.1 29
      have ht : (E.take 29).length = 29 := by rw [List.length_take]; omega
      rw [if_pos hlen] at e3
      refine ⟨τ', e1, ⟨e2.wk (by decide), fun q hq => ⟨?_, e4 q hq, fun k hk2 => e6 _ (by omega)⟩⟩, ?_, ?_, ?_, fun k hk2 => ?_⟩
      · rw [e2.2 34 (by decide)]
      · rw [e2.2 34 (by decide)]; exact r1
      · rw [e3]
        show _ = nI (insA (E.take 29) (ps E x.1 29) x).length
        rw [insA_len (by omega), ht, hlen]
      · show (insA (E.take 29) (ps E x.1 29) x).length ≤ 30
        rw [insA_len (by omega), ht]; omega
      · have hk3 : k < (insA (E.take 29) (ps E x.1 29) x).length := hk2
        rw [insA_len (by omega), ht] at hk3
        obtain ⟨w1, w2⟩ := e5 k (by omega)
        show _ = ((insA (E.take 29) (ps E x.1 29) x).getD k e0).1 ∧ _ = nI ((insA (E.take 29) (ps E x.1 29) x).getD k e0).2 ∧ ((insA (E.take 29) (ps E x.1 29) x).getD k e0).2 < _
        rw [w1, w2, insA_get (by omega)]
        by_cases c1 : k < ps E x.1 29
        · rw [if_pos c1, if_pos c1, take_get (by omega)]; exact ⟨rfl, rfl, (r4 k (by show k < E.length; omega)).2.2⟩
        · rw [if_neg c1, if_neg c1]
          by_cases c2 : k = ps E x.1 29
          · rw [if_pos c2, if_pos c2]; exact ⟨rfl, rfl, hx⟩
          · rw [if_neg c2, if_neg c2, take_get (by omega)]; exact ⟨rfl, rfl, (r4 (k - 1) (by show k - 1 < E.length; omega)).2.2⟩
    by_cases hc : x.1 < (E.getD 29 e0).1
    · rw [if_neg (fun z => by grind), gd_nI (by omega) (by decide), if_neg (fun z => by rw [z] at hc; exact absurd hc (by grind)), if_pos (by rw [hlen]), lt_is, show nI E.length - nI 1 = nI 29 by rw [hlen]; rfl, if_pos hc]
      exact go
    · rw [if_neg hc]
      by_cases he : (E.getD 29 e0).1 = x.1
      · rw [if_neg (by rw [he]; grind), gd_nI (by omega) (by decide), if_pos he, gd_nI (by omega) (by decide), if_neg (nI_ge hk29 (by omega))]
        exact ⟨τ, rfl, sameM.rf, r1, r2, r3, r4⟩
      · rw [if_pos (by grind)]
        exact ⟨τ, rfl, sameM.rf, r1, r2, r3, r4⟩

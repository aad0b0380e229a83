/-! the class fills its chart -/
def spS (i j : Nat) (σ σ' : St) : Prop := fr [115, 116, 117] σ σ' ∧ ∀ a i' j' R, a < 26 → i' ≤ j' → ¬ (i' = i ∧ j' = j) → rowC (σ.2 115) (σ.2 117) (σ.1 116) (rwC a i' j') R → rowC (σ'.2 115) (σ'.2 117) (σ'.1 116) (rwC a i' j') R
theorem spS.rf {i j : Nat} {σ : St} : spS i j σ σ := ⟨fr.rf, fun _ _ _ _ _ _ _ h => h⟩
theorem spS.tr {i j : Nat} {σ σ1 σ2 : St} (h : spS i j σ σ1) (g : spS i j σ1 σ2) : spS i j σ σ2 := ⟨h.1.tr g.1, fun a i' j' R h1 h2 h3 hr => g.2 a i' j' R h1 h2 h3 (h.2 a i' j' R h1 h2 h3 hr)⟩
theorem sameC.sp {a i j : Nat} {σ σ' : St} (ha : a < 26) (hij : i ≤ j) (h : sameC (rwC a i j) σ σ') : spS i j σ σ' := ⟨h.1, fun a' i' j' R h1 h2 h3 hr => rowC_keep h (fun z => h3 (rwC_inj h1 ha h2 hij z).2) hr⟩
section
variable {L : List rl} {sC sP : SS} {n : Nat} {T : TT}
theorem fs90 {r i j k : Nat} (hok : okL L) (hr : r < L.length) (hY : (L.getD r z0).2.2.1 ≠ 96) (hij : i ≤ j) (hj : j < n) (hn : n ≤ 24) (hk : k < 60)
    (k40 : St → Int32 → Int32 → Int32 → Option St) :
    ∀ (m cut f : Nat) (σ : St) (R : Row), 1 ≤ cut → cut + m = j - i + 1 → m + 1 ≤ f → envC L sC sP n σ → (∀ cut, 1 ≤ cut → cut ≤ j - i → depC T (L.getD r z0).2.1 i (i + cut - 1) σ ∧ depC T (L.getD r z0).2.2.1 (i + cut) j σ) → rowC (σ.2 115) (σ.2 117) (σ.1 116) (rwC (L.getD r z0).1 i j) R → keysLt R.2 (keyN r cut 0 0) →
    ∃ σ', C_Chart_fillSpan_l90 8000 k40 f σ (nI i) (nI j) (nI k) (nI r) (nI cut) = k40 σ' (nI i) (nI j) (nI (k + 1)) ∧ sameC (rwC (L.getD r z0).1 i j) σ σ' ∧ rowC (σ'.2 115) (σ'.2 117) (σ'.1 116) (rwC (L.getD r z0).1 i j) (cutC sC sP T (nI (L.getD r z0).2.2.2.1) r (L.getD r z0).2.1 (L.getD r z0).2.2.1 i j m cut R) ∧ keysLt (cutC sC sP T (nI (L.getD r z0).2.2.2.1) r (L.getD r z0).2.1 (L.getD r z0).2.2.1 i j m cut R).2 ((r + 1) * 32768) := by
  have hL := hok.1
  obtain ⟨k1, k2, k3, -⟩ := hok.2 r hr
  intro m
  induction m with
  | zero =>
    intro cut f σ R h1 h2 hf he hd hrow hkey
    obtain ⟨f, rfl⟩ : ∃ g, f = g + 1 := ⟨f - 1, by omega⟩
    unfold C_Chart_fillSpan_l90
    rw [pk_sub hij, if_pos (nI_lt (by omega) (by omega)), lt_is, nI_1]
    exact ⟨σ, rfl, sameC.rf, hrow, hkey.mono (by unfold keyN; omega)⟩
  | succ m ih =>
    intro cut f σ R h1 h2 hf he hd hrow hkey
    obtain ⟨f, rfl⟩ : ∃ g, f = g + 1 := ⟨f - 1, by omega⟩
    obtain ⟨hdx, hdy⟩ := hd cut h1 (by omega)
    unfold C_Chart_fillSpan_l90
    obtain ⟨σ1, f1, f2, f3, f4⟩ := addP_C (T := T) hok hr hY h1 (show cut ≤ j - i by omega) hij hj hn he hdx hdy (fun h => (hdx h).2.2.1) (fun h => (hdy h).2.2.1) hrow hkey
    rw [pk_sub hij, if_neg (nI_nlt (by omega) (by omega)), f1, bp_some, lt_is, nI_1]
    obtain ⟨σ', e1, e2, e3, e4⟩ := ih (cut + 1) f σ1 _ (by omega) (by omega) (by omega) (he.keep f2.1) (fun cc h3 h4 => by
      obtain ⟨w1, w2⟩ := hd cc h3 h4
      exact ⟨w1.keep (fun h z => by have := (rwC_inj h k1 (by omega) hij z).2.2; omega) f2, w2.keep (fun h z => by have := (rwC_inj h k1 (by omega) hij z).2.1; omega) f2⟩) f3 f4
    exact ⟨σ', e1, f2.tr e2, e3, e4⟩
abbrev gvC (sC sP : SS) (L : List rl) (T : TT) (i j : Nat) : (Nat → Row) → Row → Nat → Row := fun U R r => conC sC sP L (TU T i j U) i j R r
theorem fs40 {i j : Nat} {rk : Nat → Nat} {D : Nat → Nat → Prop} (hg : gL L rk) (hij : i ≤ j) (hj : j < n) (hn : n ≤ 24) (hsub : ∀ cut, 1 ≤ cut → cut ≤ j - i → D i (i + cut - 1) ∧ D (i + cut) j) :
    ∀ (m k f : Nat) (σ : St) (U : Nat → Row), k + m = L.length → m + 1 ≤ f → envC L sC sP n σ → orC (ordL L.length (rlA L) rk) (σ.1 164) → σ.1 165 0 = nI L.length → (∀ a i' j', a < 26 → i' ≤ j' → D i' j' → rowC (σ.2 115) (σ.2 117) (σ.1 116) (rwC a i' j') (T a i' j')) → (∀ a, a < 26 → rowC (σ.2 115) (σ.2 117) (σ.1 116) (rwC a i j) (U a)) → (∀ r, r ∈ (ordL L.length (rlA L) rk).drop k → keysLt (U (rlA L r)).2 (r * 32768)) → ¬ D i j →
    ∃ σ', C_Chart_fillSpan_l40 8000 f σ (nI i) (nI j) (nI k) = some σ' ∧ spS i j σ σ' ∧ ∀ a, a < 26 → rowC (σ'.2 115) (σ'.2 117) (σ'.1 116) (rwC a i j) ((((ordL L.length (rlA L) rk).drop k).foldl (stepv (gvC sC sP L T i j) (rlA L)) U) a) := by
  obtain ⟨hok, hrk1, hrk2⟩ := hg
  have hL := hok.1
  have hlen : (ordL L.length (rlA L) rk).length = L.length := ordL_len (fun r hr => hrk1 _ (hok.2 r hr).1)
  have hpw := ordL_pw L.length (rlA L) rk
  intro m
  induction m with
  | zero =>
    intro k f σ U hk hf he ho e165 hT hU hkeys hnD
    obtain ⟨f, rfl⟩ : ∃ g, f = g + 1 := ⟨f - 1, by omega⟩
    unfold C_Chart_fillSpan_l40
    rw [e165, if_pos (nI_le (by omega) (by omega)), List.drop_eq_nil_of_le (by omega)]
    exact ⟨σ, rfl, spS.rf, hU⟩
  | succ m ih =>
    intro k f σ U hk hf he ho e165 hT hU hkeys hnD
    obtain ⟨f, rfl⟩ : ∃ g, f = g + 1 := ⟨f - 1, by omega⟩
    have hkl : k < (ordL L.length (rlA L) rk).length := by omega
    have hdrop : (ordL L.length (rlA L) rk).drop k = (ordL L.length (rlA L) rk).getD k 0 :: (ordL L.length (rlA L) rk).drop (k + 1) := by
      rw [List.drop_eq_getElem_cons hkl]
      congr 1
      rw [List.getD_eq_getElem?_getD, List.getElem?_eq_getElem hkl]; rfl
    have hordk := ho k hkl
    generalize hr0 : (ordL L.length (rlA L) rk).getD k 0 = r at *
    have hrmem : r ∈ ordL L.length (rlA L) rk := by
      rw [← hr0, List.getD_eq_getElem?_getD, List.getElem?_eq_getElem hkl]
      exact List.getElem_mem hkl
    have hr : r < L.length := by
      unfold ordL at hrmem
      obtain ⟨q, -, hq⟩ := List.mem_flatMap.mp hrmem
      have := (List.mem_range'_1.mp (List.mem_filter.mp hq).1).2
      omega
    obtain ⟨k1, k2, k3, -⟩ := hok.2 r hr
    have g3 := (he.1 r hr).2.2.1
    have hkey := hkeys r (by rw [hdrop]; exact List.mem_cons_self)
    rw [hdrop, List.foldl_cons]
    -- what is to be shown behind this rule
    have aft : ∀ (σ1 : St), sameC (rwC (rlA L r) i j) σ σ1 → rowC (σ1.2 115) (σ1.2 117) (σ1.1 116) (rwC (rlA L r) i j) (conC sC sP L (TU T i j U) i j (U (rlA L r)) r) → keysLt (conC sC sP L (TU T i j U) i j (U (rlA L r)) r).2 ((r + 1) * 32768) →
        ∃ σ', C_Chart_fillSpan_l40 8000 f σ1 (nI i) (nI j) (nI (k + 1)) = some σ' ∧ spS i j σ σ' ∧ ∀ a, a < 26 → rowC (σ'.2 115) (σ'.2 117) (σ'.1 116) (rwC a i j) ((((ordL L.length (rlA L) rk).drop (k + 1)).foldl (stepv (gvC sC sP L T i j) (rlA L)) (stepv (gvC sC sP L T i j) (rlA L) U r)) a) := by
      intro σ1 hs hrow hk2
      have hsp := hs.sp k1 hij
      obtain ⟨σ', e1, e2, e3⟩ := ih (k + 1) f σ1 (stepv (gvC sC sP L T i j) (rlA L) U r) (by omega) (by omega) (he.keep hs.1) (by rw [hs.1.1 164 (by decide)]; exact ho) (by rw [hs.1.1 165 (by decide)]; exact e165) (fun a i' j' h1 h2 h3 => hsp.2 a i' j' _ h1 h2 (fun z => hnD (by rw [← z.1, ← z.2]; exact h3)) (hT a i' j' h1 h2 h3)) (fun a ha => by
          unfold stepv
          by_cases e : a = rlA L r
          · rw [if_pos e, e]; exact hrow
          · rw [if_neg e]
            exact rowC_keep hs (fun z => e (rwC_inj ha k1 hij hij z).1) (hU a ha)) (fun r' hr' => by
          have hlt : rlA L r = rlA L r' → r < r' := by
            have := hpw
            unfold gpw at this
            have h2 := this.drop (i := k)
            rw [hdrop] at h2
            exact (List.pairwise_cons.mp h2).1 r' hr'
          unfold stepv
          by_cases e : rlA L r' = rlA L r
          · rw [if_pos e]
            have := hlt e.symm
            rw [e]
            exact hk2.mono (Nat.mul_le_mul_right _ (by omega))
          · rw [if_neg e]
            exact hkeys r' (by rw [hdrop]; exact List.mem_cons_of_mem _ hr')) hnD
      exact ⟨σ', e1, hsp.tr e2, e3⟩
    unfold C_Chart_fillSpan_l40
    rw [e165, if_neg (nI_ge (by omega) (by omega)), gd_nI (by omega) (by decide), lt_is, nI_clamp (by omega), hordk, gd_nI (by omega) (by decide), nI_clamp (by omega), g3]
    by_cases hY : (L.getD r z0).2.2.1 = 96
    · have hd : depC (TU T i j U) (L.getD r z0).2.1 i j σ := fun h => by rw [TU_in]; exact hU _ h
      obtain ⟨σ1, f1, f2, f3, f4⟩ := addW_C (T := TU T i j U) hok hr hY hij hj hn (fun h z => by
        have := hrk2 r hr ((isU_iff _).mpr ⟨hY, h⟩)
        rw [z] at this
        omega) he hd (fun h => (hd h).2.2.1) (hU _ k1) hkey
      rw [if_pos (show oY (L.getD r z0).2.2.1 = -1 from if_pos hY), f1, bp_some, lt_is, nI_1]
      exact aft σ1 f2 f3 f4
    · rw [if_neg (show ¬ oY (L.getD r z0).2.2.1 = -1 by unfold oY; rw [if_neg hY]; exact nI_nm1 (by omega))]
      have hd : ∀ cut, 1 ≤ cut → cut ≤ j - i → depC (TU T i j U) (L.getD r z0).2.1 i (i + cut - 1) σ ∧ depC (TU T i j U) (L.getD r z0).2.2.1 (i + cut) j σ := fun cut h1 h2 => by
        obtain ⟨d1, d2⟩ := hsub cut h1 h2
        exact ⟨fun h => by rw [TU_out _ (by omega)]; exact hT _ _ _ h (by omega) d1, fun h => by rw [TU_out _ (by omega)]; exact hT _ _ _ h (by omega) d2⟩
      obtain ⟨σ1, f1, f2, f3, f4⟩ := fs90 (T := TU T i j U) (k := k) hok hr hY hij hj hn (by omega) (C_Chart_fillSpan_l40 8000 f) (j - i) 1 8000 σ (U (rlA L r)) (by omega) (by omega) (by omega) he hd (hU _ k1) (hkey.mono (by unfold keyN; omega))
      rw [show (1 : Int32) = nI 1 from rfl, f1]
      have ec : conC sC sP L (TU T i j U) i j (U (rlA L r)) r = cutC sC sP (TU T i j U) (nI (L.getD r z0).2.2.2.1) r (L.getD r z0).2.1 (L.getD r z0).2.2.1 i j (j - i) 1 (U (rlA L r)) := by
        unfold conC; rw [if_neg hY]
      exact aft σ1 f2 (by rw [ec]; exact f3) (by rw [ec]; exact f4)
theorem fs2 {i j : Nat} (hij : i ≤ j) (hj : j < 24) : ∀ (m a f : Nat) (σ : St), a + m = 26 → m + 1 ≤ f → (∀ b, b < a → rowC (σ.2 115) (σ.2 117) (σ.1 116) (rwC b i j) (0, [])) →
    ∃ σ', C_Chart_fillSpan_l2 8000 f σ (nI i) (nI j) (nI a) = C_Chart_fillSpan_l40 8000 8000 σ' (nI i) (nI j) 0 ∧ spS i j σ σ' ∧ ∀ b, b < 26 → rowC (σ'.2 115) (σ'.2 117) (σ'.1 116) (rwC b i j) (0, []) := by
  intro m
  induction m with
  | zero =>
    intro a f σ ha hf hb
    obtain ⟨f, rfl⟩ : ∃ g, f = g + 1 := ⟨f - 1, by omega⟩
    unfold C_Chart_fillSpan_l2
    rw [if_pos (show (26 : Int32) ≤ nI a from nle 26 (by omega) (by omega))]
    exact ⟨σ, rfl, spS.rf, fun b h => hb b (by omega)⟩
  | succ m ih =>
    intro a f σ ha hf hb
    obtain ⟨f, rfl⟩ : ∃ g, f = g + 1 := ⟨f - 1, by omega⟩
    have hρ := rwC_lt (show a < 26 by omega) hij hj
    unfold C_Chart_fillSpan_l2
    rw [if_neg (show ¬ (26 : Int32) ≤ nI a from nge 26 (by omega) (by decide)), rowOf_C hj, bp_some, gd_nI hρ (by decide), lt_is, bp_some, gd_nI hρ (by decide), lt_is, lt_is, nI_1, nI_clamp (by omega)]
    have hs : sameC (rwC a i j) σ (sI (sJ σ 115 (rwC a i j) 0) 116 (rwC a i j) 0) := ⟨(fr.sJ (by decide)).tr (fr.sI (by decide)), fun q hq => ⟨by rw [sI_2, sJ_2, if_pos rfl, if_neg hq], by rw [sI_1, if_pos rfl, if_neg hq]; rfl, fun k hk => rfl⟩⟩
    obtain ⟨σ', e1, e2, e3⟩ := ih (a + 1) f (sI (sJ σ 115 (rwC a i j) 0) 116 (rwC a i j) 0) (by omega) (by omega) (fun b hb2 => by
      by_cases e : b = a
      · subst e
        refine ⟨?_, ?_, by decide, fun k hk => by cases hk⟩
        · rw [sI_2, sJ_2, if_pos rfl, if_pos rfl]
        · rw [sI_1, if_pos rfl, if_pos rfl]; rfl
      · exact rowC_keep hs (fun z => e (rwC_inj (by omega) (by omega) hij hij z).1) (hb b (by omega)))
    exact ⟨σ', e1, (hs.sp (by omega) hij).tr e2, e3⟩
theorem span_C {i j : Nat} {rk : Nat → Nat} {D : Nat → Nat → Prop} {σ : St} (hg : gL L rk) (hij : i ≤ j) (hj : j < n) (hn : n ≤ 24) (hsub : ∀ cut, 1 ≤ cut → cut ≤ j - i → D i (i + cut - 1) ∧ D (i + cut) j) (he : envC L sC sP n σ) (ho : orC (ordL L.length (rlA L) rk) (σ.1 164)) (e165 : σ.1 165 0 = nI L.length) (hT : ∀ a i' j', a < 26 → i' ≤ j' → D i' j' → rowC (σ.2 115) (σ.2 117) (σ.1 116) (rwC a i' j') (T a i' j')) (hnD : ¬ D i j) :
    ∃ (σ' : St) (U : Nat → Row), C_Chart_fillSpan 8000 σ (nI i) (nI j) = some σ' ∧ spS i j σ σ' ∧ (∀ a, a < 26 → rowC (σ'.2 115) (σ'.2 117) (σ'.1 116) (rwC a i j) (U a)) ∧ ∀ a, a < 26 → U a = (rulesA L a).foldl (conC sC sP L (TU T i j U) i j) (0, []) := by
  have hL := hg.1.1
  obtain ⟨σ1, a1, a2, a3⟩ := fs2 hij (show j < 24 by omega) 26 0 8000 σ (by omega) (by decide) (fun b hb => absurd hb (Nat.not_lt_zero b))
  obtain ⟨σ2, b1, b2, b3⟩ := fs40 (T := T) (D := D) hg hij hj hn hsub L.length 0 8000 σ1 (fun _ => (0, [])) (by omega) (by omega) (he.keep a2.1) (by rw [a2.1.1 164 (by decide)]; exact ho) (by rw [a2.1.1 165 (by decide)]; exact e165) (fun a i' j' h1 h2 h3 => a2.2 a i' j' _ h1 h2 (fun z => hnD (by rw [← z.1, ← z.2]; exact h3)) (hT a i' j' h1 h2 h3)) a3 (fun r hr k hk => by cases hk) hnD
  refine ⟨σ2, (ordL L.length (rlA L) rk).foldl (stepv (gvC sC sP L T i j) (rlA L)) (fun _ => (0, [])), ?_, a2.tr b2, b3, ?_⟩
  · unfold C_Chart_fillSpan
    rw [show (0 : Int32) = nI 0 from rfl, a1, show (0 : Int32) = nI 0 from rfl, b1]
  · intro a ha
    exact fixv (g := gvC sC sP L T i j) (A := rlA L) (rk := rk) (nr := L.length) (fun U V r hr hb R => conC_cg ⟨fun hY hX => by
        rw [TU_in, TU_in]
        exact hb _ (hg.2.2 r hr ((isU_iff _).mpr ⟨hY, hX⟩)), fun _ cut h1 h2 => ⟨fun _ => by rw [TU_out _ (by omega), TU_out _ (by omega)], fun _ => by rw [TU_out _ (by omega), TU_out _ (by omega)]⟩⟩ R) (fun _ => (0, [])) 26 0 (fun _ => (0, [])) (by omega) (fun a h => absurd h (Nat.not_lt_zero _)) (fun _ _ => rfl) a (hg.2.1 a ha)
/-- spans done: all up to one slot, and those behind a start -/
def Dc (to m i j : Nat) : Prop := j < to ∨ (j = to ∧ m ≤ i)
theorem Dc_cl (to m : Nat) : clsd (Dc to m) := by
  intro i j cut h h1 h2
  unfold Dc at *
  omega
theorem la58 {rk : Nat → Nat} {to : Nat} (hg : gL L rk) (hto : to < n) (hn : n ≤ 24) (k45 : St → Int32 → Option St) : ∀ (m f : Nat) (σ : St) (T : TT), m ≤ to + 1 → m + 1 ≤ f → envC L sC sP n σ → orC (ordL L.length (rlA L) rk) (σ.1 164) → σ.1 165 0 = nI L.length → okT (conC sC sP L) L (Dc to m) T → (∀ a i' j', a < 26 → i' ≤ j' → Dc to m i' j' → rowC (σ.2 115) (σ.2 117) (σ.1 116) (rwC a i' j') (T a i' j')) →
    ∃ (σ' : St) (T' : TT), C_Chart_listAll_l58 8000 k45 f σ (nI to) (nI m + -1) = k45 σ' (nI (to + 1)) ∧ fr [115, 116, 117] σ σ' ∧ okT (conC sC sP L) L (Dc (to + 1) (to + 2)) T' ∧ ∀ a i' j', a < 26 → i' ≤ j' → Dc (to + 1) (to + 2) i' j' → rowC (σ'.2 115) (σ'.2 117) (σ'.1 116) (rwC a i' j') (T' a i' j') := by
  intro m
  induction m with
  | zero =>
    intro f σ T hm hf he ho e165 hok hT
    obtain ⟨f, rfl⟩ : ∃ g, f = g + 1 := ⟨f - 1, by omega⟩
    unfold C_Chart_listAll_l58
    rw [if_pos (by decide), lt_is, nI_1]
    exact ⟨σ, T, rfl, fr.rf, fun a i j ha hij hd => hok a i j ha hij (by unfold Dc at *; omega), fun a i j ha hij hd => hT a i j ha hij (by unfold Dc at *; omega)⟩
  | succ m ih =>
    intro f σ T hm hf he ho e165 hok hT
    obtain ⟨f, rfl⟩ : ∃ g, f = g + 1 := ⟨f - 1, by omega⟩
    unfold C_Chart_listAll_l58
    obtain ⟨σ1, U, s1, s2, s3, s4⟩ := span_C (T := T) (i := m) (j := to) (D := Dc to (m + 1)) hg (by omega) hto hn (fun cut h1 h2 => by unfold Dc; omega) he ho e165 hT (by unfold Dc; omega)
    rw [show nI (m + 1) + -1 = nI m from pk_m1 m, if_neg (nI_pos (by omega)), s1, bp_some, lt_is]
    have hD' : ∀ i' j', Dc to m i' j' → Dc to (m + 1) i' j' ∨ (i' = m ∧ j' = to) := fun i' j' h => by unfold Dc at *; omega
    have hok' := okT_step (fun T T' i j r h R => conC_cg h R) hok (Dc_cl to (m + 1)) (show ¬ Dc to (m + 1) m to by unfold Dc; omega) hD' s4
    obtain ⟨σ', T', e1, e2, e3, e4⟩ := ih f σ1 (TU T m to U) (by omega) (by omega) (he.keep s2.1) (by rw [s2.1.1 164 (by decide)]; exact ho) (by rw [s2.1.1 165 (by decide)]; exact e165) hok' (fun a i' j' ha hij hd => by
      by_cases e : i' = m ∧ j' = to
      · obtain ⟨rfl, rfl⟩ := e
        rw [TU_in]
        exact s3 a ha
      · rw [TU_out _ e]
        exact s2.2 a i' j' _ ha hij e (hT a i' j' ha hij ((hD' i' j' hd).resolve_right e)))
    exact ⟨σ', T', e1, s2.1.tr e2, e3, e4⟩
theorem la45 {rk : Nat → Nat} (hg : gL L rk) (hn : n ≤ 24) : ∀ (m to f : Nat) (σ : St) (T : TT), to + m = n → m + 1 ≤ f → envC L sC sP n σ → orC (ordL L.length (rlA L) rk) (σ.1 164) → σ.1 165 0 = nI L.length → σ.1 118 0 = nI n → okT (conC sC sP L) L (Dc to (to + 1)) T → (∀ a i' j', a < 26 → i' ≤ j' → Dc to (to + 1) i' j' → rowC (σ.2 115) (σ.2 117) (σ.1 116) (rwC a i' j') (T a i' j')) →
    ∃ (σ' : St) (T' : TT), C_Chart_listAll_l45 8000 f σ (nI to) = some σ' ∧ fr [115, 116, 117] σ σ' ∧ okT (conC sC sP L) L (fun _ j => j < n) T' ∧ ∀ a i' j', a < 26 → i' ≤ j' → j' < n → rowC (σ'.2 115) (σ'.2 117) (σ'.1 116) (rwC a i' j') (T' a i' j') := by
  intro m
  induction m with
  | zero =>
    intro to f σ T hm hf he ho e165 e118 hok hT
    obtain ⟨f, rfl⟩ : ∃ g, f = g + 1 := ⟨f - 1, by omega⟩
    unfold C_Chart_listAll_l45
    rw [e118, if_pos (nI_le (by omega) (by omega))]
    exact ⟨σ, T, rfl, fr.rf, fun a i j ha hij hd => hok a i j ha hij (by unfold Dc; omega), fun a i j ha hij hd => hT a i j ha hij (by unfold Dc; omega)⟩
  | succ m ih =>
    intro to f σ T hm hf he ho e165 e118 hok hT
    obtain ⟨f, rfl⟩ : ∃ g, f = g + 1 := ⟨f - 1, by omega⟩
    unfold C_Chart_listAll_l45
    rw [e118, if_neg (nI_ge (by omega) (by omega))]
    obtain ⟨σ1, T1, s1, s2, s3, s4⟩ := la58 hg (show to < n by omega) hn (C_Chart_listAll_l45 8000 f) (to + 1) 8000 σ T (by omega) (by omega) he ho e165 hok hT
    rw [show nI (to + 1) + -1 = nI to from pk_m1 to] at s1
    rw [s1]
    obtain ⟨σ', T', e1, e2, e3, e4⟩ := ih (to + 1) f σ1 T1 (by omega) (by omega) (he.keep s2) (by rw [s2.1 164 (by decide)]; exact ho) (by rw [s2.1 165 (by decide)]; exact e165) (by rw [s2.1 118 (by decide)]; exact e118) s3 s4
    exact ⟨σ', T', e1, s2.tr e2, e3, e4⟩
end

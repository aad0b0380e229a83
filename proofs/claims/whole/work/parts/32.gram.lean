/-! ranks, the order of the rules, grammar() -/
def cnt (f : Nat → Bool) : Nat → Nat
  | 0 => 0
  | n + 1 => cnt f n + (if f n then 1 else 0)
theorem cnt_le {f g : Nat → Bool} : ∀ n, (∀ b, b < n → f b = true → g b = true) → cnt f n ≤ cnt g n := by
  intro n
  induction n with
  | zero => intro _; exact Nat.le_refl _
  | succ n ih =>
    intro h
    have h1 := ih (fun b hb => h b (by omega))
    have h2 := h n (by omega)
    simp only [cnt]
    by_cases e : f n = true
    · rw [if_pos e, if_pos (h2 e)]; omega
    · rw [if_neg e]; omega
theorem cnt_lt {f g : Nat → Bool} {b0 : Nat} : ∀ n, (∀ b, b < n → f b = true → g b = true) → b0 < n → f b0 = false → g b0 = true → cnt f n < cnt g n := by
  intro n
  induction n with
  | zero => intro _ h; omega
  | succ n ih =>
    intro h hb h1 h2
    simp only [cnt]
    by_cases e : b0 = n
    · subst e
      have := cnt_le (f := f) (g := g) b0 (fun b hb => h b (by omega))
      rw [if_neg (by rw [h1]; decide), if_pos h2]; omega
    · have h3 := ih (fun b hb => h b (by omega)) (by omega) h1 h2
      have h4 := h n (by omega)
      by_cases e : f n = true
      · rw [if_pos e, if_pos (h4 e)]; omega
      · rw [if_neg e]; omega
theorem cnt_all (n : Nat) : cnt (fun _ => true) n = n := by
  induction n with
  | zero => rfl
  | succ n ih => simp only [cnt, ih, if_true]
theorem pcf_cnt {v : Nat} {f : Nat → Bool} : ∀ n, (∀ b, b < n → v.testBit b = f b) → pcf n v = cnt f n := by
  intro n
  induction n with
  | zero => intro _; rfl
  | succ n ih =>
    intro h
    have e0 : pcf n v = pcf n (v % 2 ^ n) := by
      have := pcf_app n 0 v
      simpa [pcf] using this
    have e1 : pcf (n + 1) v = pcf n (v % 2 ^ n) + pcf 1 (v / 2 ^ n) := pcf_app n 1 v
    rw [e1, ← e0, ih (fun b hb => h b (by omega))]
    simp only [cnt]
    congr 1
    have := h n (by omega)
    rw [← this, Nat.testBit_eq_decide_div_mod_eq]
    simp only [pcf]
    rcases Nat.mod_two_eq_zero_or_one (v / 2 ^ n) with q | q <;> simp [q]
def rkW (W : MX) (a : Nat) : Nat := cnt (W a) 26
theorem wI_first {E : MX} : ∀ K a b, wI K E a b = true → ∃ y, E a y = true ∧ (y = b ∨ wI K E y b = true) := by
  intro K
  induction K with
  | zero => intro a b h; exact ⟨b, h, Or.inl rfl⟩
  | succ K ih =>
    intro a b h
    have h' : (wI K E a b || (wI K E a K && wI K E K b)) = true := h
    simp only [Bool.or_eq_true, Bool.and_eq_true] at h'
    have up : ∀ y, wI K E y b = true → wI (K + 1) E y b = true := fun y hy => by
      show (wI K E y b || _) = true
      rw [hy, Bool.true_or]
    rcases h' with h' | ⟨h1, h2⟩
    · obtain ⟨y, e1, e2⟩ := ih a b h'
      exact ⟨y, e1, e2.imp id (up y)⟩
    · obtain ⟨y, e1, e2⟩ := ih a K h1
      refine ⟨y, e1, Or.inr ?_⟩
      rcases e2 with e2 | e2
      · subst e2
        exact up y h2
      · show (wI K E y b || (wI K E y K && wI K E K b)) = true
        rw [e2, h2]
        simp
theorem edg_of {L : List rl} {a b : Nat} : ∀ n, edg L n a b = true → ∃ r, r < n ∧ isU (L.getD r z0) = true ∧ (L.getD r z0).1 = a ∧ (L.getD r z0).2.1 = b := by
  intro n
  induction n with
  | zero => intro h; cases h
  | succ n ih =>
    intro h
    have h' : (edg L n a b || (isU (L.getD n z0) && (L.getD n z0).1 == a && (L.getD n z0).2.1 == b)) = true := h
    rw [Bool.or_eq_true] at h'
    rcases h' with h' | h'
    · obtain ⟨r, h1, h2⟩ := ih h'
      exact ⟨r, by omega, h2⟩
    · rw [Bool.and_eq_true, Bool.and_eq_true] at h'
      exact ⟨n, by omega, h'.1.1, beq_iff_eq.mp h'.1.2, beq_iff_eq.mp h'.2⟩
theorem rgF_none {L : List rl} {W : MX} : ∀ m r, rgF L W m r = none → ∀ x, r ≤ x → x < r + m → isU (L.getD x z0) = true → W (L.getD x z0).2.1 (L.getD x z0).1 = false := by
  intro m
  induction m with
  | zero => intro r _ x h1 h2; omega
  | succ m ih =>
    intro r h x h1 h2 hu
    unfold rgF at h
    by_cases hc : (isU (L.getD r z0) && W (L.getD r z0).2.1 (L.getD r z0).1) = true
    · rw [if_pos hc] at h; cases h
    · rw [if_neg hc] at h
      by_cases e : x = r
      · subst e
        rw [hu, Bool.true_and] at hc
        simpa using hc
      · exact ih (r + 1) h x (by omega) (by omega) hu
/-- without a ring: ranks -/
def gL (L : List rl) (rk : Nat → Nat) : Prop := okL L ∧ (∀ a, a < 26 → rk a < 26) ∧ ∀ r, r < L.length → isU (L.getD r z0) = true → rk (L.getD r z0).2.1 < rk (L.getD r z0).1
theorem rank_ok {L : List rl} (hok : okL L) (h : rgF L (wI 26 (edg L L.length)) L.length 0 = none) : gL L (rkW (wI 26 (edg L L.length))) := by
  have nr : ∀ r, r < L.length → isU (L.getD r z0) = true → wI 26 (edg L L.length) (L.getD r z0).2.1 (L.getD r z0).1 = false := fun r hr hu => rgF_none L.length 0 h r (Nat.zero_le _) (by omega) hu
  have irr : ∀ a, wI 26 (edg L L.length) a a = false := by
    intro a
    cases hw : wI 26 (edg L L.length) a a with
    | false => rfl
    | true =>
      obtain ⟨y, e1, e2⟩ := wI_first 26 a a hw
      obtain ⟨r, h1, h2, h3, h4⟩ := edg_of _ e1
      have := nr r h1 h2
      rw [h3, h4] at this
      rcases e2 with e2 | e2
      · subst e2
        rw [hw] at this; cases this
      · rw [e2] at this; cases this
  refine ⟨hok, fun a ha => ?_, fun r hr hu => ?_⟩
  · have := cnt_lt (f := wI 26 (edg L L.length) a) (g := fun _ => true) (b0 := a) 26 (fun _ _ _ => rfl) ha (irr a) rfl
    rw [cnt_all] at this
    exact this
  · obtain ⟨k1, -⟩ := hok.2 r hr
    have hx := ((isU_iff _).mp hu).2
    have e := wI_ge (edg_mem (L := L) hr hu) 26
    exact cnt_lt (b0 := (L.getD r z0).2.1) 26 (fun b hb hb1 => wI_tr 26 (L.getD r z0).2.1 hx _ b e hb1) hx (irr _) e
/-- the rules by the ranks of their names -/
def ordL (n : Nat) (A rk : Nat → Nat) : List Nat := (List.range' 0 26).flatMap fun q => (List.range' 0 n).filter fun r => rk (A r) == q
def sm (f : Nat → Nat) : Nat → Nat → Nat
  | 0, _ => 0
  | m + 1, q => f q + sm f m (q + 1)
theorem fm_len (F : Nat → List Nat) : ∀ m q, ((List.range' q m).flatMap F).length = sm (fun q => (F q).length) m q := by
  intro m
  induction m with
  | zero => intro q; rfl
  | succ m ih =>
    intro q
    rw [List.range'_succ, List.flatMap_cons, List.length_append, ih]; rfl
theorem sm_add (f g : Nat → Nat) : ∀ m q, sm (fun x => f x + g x) m q = sm f m q + sm g m q := by
  intro m
  induction m with
  | zero => intro q; rfl
  | succ m ih => intro q; simp only [sm, ih]; omega
theorem sm_one (x : Nat) : ∀ m q, sm (fun y => if x = y then 1 else 0) m q = if q ≤ x ∧ x < q + m then 1 else 0 := by
  intro m
  induction m with
  | zero => intro q; simp only [sm]; rw [if_neg (by omega)]
  | succ m ih =>
    intro q
    simp only [sm, ih]
    by_cases e : x = q
    · rw [if_pos e, if_neg (by omega), if_pos (by omega)]
    · rw [if_neg e]
      by_cases h : q + 1 ≤ x ∧ x < q + 1 + m
      · rw [if_pos h, if_pos (by omega)]
      · rw [if_neg h, if_neg (by omega)]
theorem sm_0 (f : Nat → Nat) (h : ∀ x, f x = 0) : ∀ m q, sm f m q = 0 := by
  intro m
  induction m with
  | zero => intro q; rfl
  | succ m ih => intro q; simp only [sm, h, ih]
theorem part_len (g : Nat → Nat) (N : Nat) : ∀ (R : List Nat), (∀ x, x ∈ R → g x < N) → ((List.range' 0 N).flatMap fun q => R.filter fun r => g r == q).length = R.length := by
  intro R
  rw [fm_len]
  induction R with
  | nil => intro _; exact sm_0 _ (fun _ => rfl) _ _
  | cons x R ih =>
    intro h
    have e : (fun q => ((x :: R).filter fun r => g r == q).length) = fun q => (R.filter fun r => g r == q).length + (if g x = q then 1 else 0) := by
      funext q
      rw [List.filter_cons]
      by_cases e : g x = q
      · rw [if_pos (by simpa using e), if_pos e]; rfl
      · rw [if_neg (by simpa using e), if_neg e]; rfl
    rw [e, sm_add, ih (fun y hy => h y (List.mem_cons_of_mem _ hy)), sm_one, if_pos (by have := h x List.mem_cons_self; omega)]; rfl
theorem ordL_len {n : Nat} {A rk : Nat → Nat} (h : ∀ r, r < n → rk (A r) < 26) : (ordL n A rk).length = n := by
  unfold ordL
  rw [part_len (fun r => rk (A r)) 26 _ (fun x hx => h x (by
    have := (List.mem_range'_1.mp hx).2
    omega)), List.length_range']
def orC (acc : List Nat) (f : Nat → Int32) : Prop := ∀ k, k < acc.length → f k = nI (acc.getD k 0)
theorem orC_app {acc : List Nat} {σ : St} {r : Nat} (h : orC acc (σ.1 148)) : orC (acc ++ [r]) ((sI σ 148 acc.length (nI r)).1 148) := by
  intro k hk
  rw [List.length_append] at hk
  rw [sI_1, if_pos rfl]
  by_cases e : k = acc.length
  · rw [if_pos e, e, List.getD_eq_getElem?_getD, List.getElem?_append_right (Nat.le_refl _), Nat.sub_self]; rfl
  · have hlt : k < acc.length := by simp at hk; omega
    rw [if_neg e, h k hlt, List.getD_eq_getElem?_getD, List.getD_eq_getElem?_getD, List.getElem?_append_left hlt]
theorem arr12 {L : List rl} {W : MX} (hok : okL L) {q : Nat} (hq : q < 26) (k4 : St → Int32 → Int32 → Option St) : ∀ (m r f : Nat) (σ : St) (acc : List Nat), r + m = L.length → m + 1 ≤ f → foC L σ → σ.1 149 0 = nI L.length → mC W (σ.1 98) → orC acc (σ.1 148) → acc.length + ((List.range' r m).filter fun r => rkW W (L.getD r z0).1 == q).length ≤ 60 →
    ∃ σ', fr [148] σ σ' ∧ C_Reader_arrange_l12 2000 k4 f σ (nI acc.length) (nI q) (nI r) = k4 σ' (nI (acc ++ ((List.range' r m).filter fun r => rkW W (L.getD r z0).1 == q)).length) (nI (q + 1)) ∧ orC (acc ++ ((List.range' r m).filter fun r => rkW W (L.getD r z0).1 == q)) (σ'.1 148) := by
  have hL := hok.1
  intro m
  induction m with
  | zero =>
    intro r f σ acc hr hf hfo e hm ho hb
    obtain ⟨f, rfl⟩ : ∃ k, f = k + 1 := ⟨f - 1, by omega⟩
    unfold C_Reader_arrange_l12
    rw [e, if_pos (nI_le (by omega) (by omega)), lt_is, nI_1]
    refine ⟨σ, fr.rf, ?_, ?_⟩
    · simp
    · simpa using ho
  | succ m ih =>
    intro r f σ acc hr hf hfo e hm ho hb
    obtain ⟨f, rfl⟩ : ∃ k, f = k + 1 := ⟨f - 1, by omega⟩
    obtain ⟨k1, -⟩ := hok.2 r (by omega)
    obtain ⟨h1, -⟩ := hfo r (by omega)
    obtain ⟨v, v1, v2, v3⟩ := hm _ k1
    have hpc : pcf 32 v = rkW W (L.getD r z0).1 := by
      rw [show (32 : Nat) = 26 + 6 from rfl, pcf_small v1]
      exact pcf_cnt 26 v3
    have hrk : rkW W (L.getD r z0).1 ≤ 26 := by rw [← hpc, show (32 : Nat) = 26 + 6 from rfl, pcf_small v1]; exact pcf_le 26 v
    have hcons : (List.range' r (m + 1)).filter (fun r => rkW W (L.getD r z0).1 == q) = if rkW W (L.getD r z0).1 = q then r :: (List.range' (r + 1) m).filter (fun r => rkW W (L.getD r z0).1 == q) else (List.range' (r + 1) m).filter (fun r => rkW W (L.getD r z0).1 == q) := by
      rw [List.range'_succ, List.filter_cons]
      by_cases z : rkW W (L.getD r z0).1 = q
      · rw [if_pos (beq_iff_eq.mpr z), if_pos z]
      · rw [if_neg (fun h => z (beq_iff_eq.mp h)), if_neg z]
    rw [hcons] at hb ⊢
    unfold C_Reader_arrange_l12
    rw [e, if_neg (nI_ge (by omega) (by omega))]
    by_cases hz : rkW W (L.getD r z0).1 = q
    · rw [if_pos hz] at hb ⊢
      have hlen : acc.length < 60 := by simp at hb; omega
      rw [if_neg (show ¬ (60 : Int32) ≤ nI acc.length from nge 60 hlen (by decide)), gd_nI (by omega) (by decide), nI_clamp (show r < 2 ^ 31 by omega), h1, gd_nI k1 (by decide), nI_clamp (show (L.getD r z0).1 < 2 ^ 31 by omega), v2, bitCount_n (by omega), bp_some, hpc, hz, if_pos rfl, gd_nI hlen (by decide), lt_is, lt_is, lt_is, nI_1, nI_1, nI_clamp (show acc.length < 2 ^ 31 by omega)]
      have := ih (r + 1) f (sI σ 148 acc.length (nI r)) (acc ++ [r]) (by omega) (by omega) hfo e hm (orC_app ho) (by simp at hb ⊢; omega)
      obtain ⟨σ', f1, f2, f3⟩ := this
      rw [show acc ++ r :: (List.range' (r + 1) m).filter (fun r => rkW W (L.getD r z0).1 == q) = acc ++ [r] ++ (List.range' (r + 1) m).filter (fun r => rkW W (L.getD r z0).1 == q) by simp]
      refine ⟨σ', (fr.sI (by decide)).tr f1, ?_, f3⟩
      rw [← f2, List.length_append]; rfl
    · rw [if_neg hz] at hb ⊢
      have := ih (r + 1) f σ acc (by omega) (by omega) hfo e hm ho hb
      by_cases h60 : (60 : Int32) ≤ nI acc.length
      · rw [if_pos h60, lt_is, nI_1]
        exact this
      · rw [if_neg h60, gd_nI (by omega) (by decide), nI_clamp (show r < 2 ^ 31 by omega), h1, gd_nI k1 (by decide), nI_clamp (show (L.getD r z0).1 < 2 ^ 31 by omega), v2, bitCount_n (by omega), bp_some, hpc, if_neg (neq q hz (by omega) (by omega)), lt_is, nI_1]
        exact this
theorem arr4 {L : List rl} {W : MX} (hok : okL L) : ∀ (m q f : Nat) (σ : St) (acc : List Nat), q + m = 26 → m + 1 ≤ f → foC L σ → σ.1 149 0 = nI L.length → mC W (σ.1 98) → orC acc (σ.1 148) → acc.length + ((List.range' q m).flatMap fun q => (List.range' 0 L.length).filter fun r => rkW W (L.getD r z0).1 == q).length ≤ 60 →
    ∃ σ', fr [148] σ σ' ∧ C_Reader_arrange_l4 2000 f σ (nI acc.length) (nI q) = some σ' ∧ orC (acc ++ (List.range' q m).flatMap fun q => (List.range' 0 L.length).filter fun r => rkW W (L.getD r z0).1 == q) (σ'.1 148) := by
  have hL := hok.1
  intro m
  induction m with
  | zero =>
    intro q f σ acc hq hf hfo e hm ho hb
    obtain ⟨f, rfl⟩ : ∃ k, f = k + 1 := ⟨f - 1, by omega⟩
    unfold C_Reader_arrange_l4
    rw [if_pos (show (26 : Int32) ≤ nI q from nle 26 (by omega) (by omega))]
    exact ⟨σ, fr.rf, rfl, by simpa using ho⟩
  | succ m ih =>
    intro q f σ acc hq hf hfo e hm ho hb
    obtain ⟨f, rfl⟩ : ∃ k, f = k + 1 := ⟨f - 1, by omega⟩
    rw [List.range'_succ, List.flatMap_cons] at hb ⊢
    rw [List.length_append] at hb
    unfold C_Reader_arrange_l4
    rw [if_neg (show ¬ (26 : Int32) ≤ nI q from nge 26 (by omega) (by decide))]
    obtain ⟨σ1, a1, a2, a3⟩ := arr12 (W := W) hok (show q < 26 by omega) (C_Reader_arrange_l4 2000 f) L.length 0 2000 σ acc (by omega) (by omega) hfo e hm ho (by omega)
    have fo1 : foC L σ1 := fun r hr => by
      rw [a1.1 144 (by decide), a1.1 145 (by decide), a1.1 146 (by decide), a1.1 147 (by decide), a1.1 97 (by decide)]
      exact hfo r hr
    obtain ⟨σ', b1, b2, b3⟩ := ih (q + 1) f σ1 (acc ++ (List.range' 0 L.length).filter fun r => rkW W (L.getD r z0).1 == q) (by omega) (by omega) fo1 (by rw [a1.1 149 (by decide)]; exact e) (by rw [a1.1 98 (by decide)]; exact hm) a3 (by rw [List.length_append]; omega)
    refine ⟨σ', a1.tr b1, ?_, by rw [← List.append_assoc]; exact b3⟩
    rw [show (0 : Int32) = nI 0 from rfl, a2, b2]
theorem arr_C {L : List rl} {W : MX} (hok : okL L) (hg : gL L (rkW W)) {σ : St} (hfo : foC L σ) (e : σ.1 149 0 = nI L.length) (hm : mC W (σ.1 98)) : ∃ σ', fr [148] σ σ' ∧ C_Reader_arrange 2000 σ = some σ' ∧ orC (ordL L.length (fun r => (L.getD r z0).1) (rkW W)) (σ'.1 148) := by
  have hlen : (ordL L.length (fun r => (L.getD r z0).1) (rkW W)).length = L.length := ordL_len (fun r hr => hg.2.1 _ (hok.2 r hr).1)
  obtain ⟨σ', a1, a2, a3⟩ := arr4 (W := W) hok 26 0 2000 σ [] (by omega) (by decide) hfo e hm (fun k hk => by cases hk) (by
    have := hok.1
    have : ((List.range' 0 26).flatMap fun q => (List.range' 0 L.length).filter fun r => rkW W (L.getD r z0).1 == q).length = L.length := hlen
    rw [this]
    simp
    omega)
  exact ⟨σ', a1, a2, a3⟩

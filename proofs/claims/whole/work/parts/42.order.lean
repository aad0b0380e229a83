/-! the reference orders the names by their turns -/
theorem cnt_upd {p q : Nat → Bool} {b : Nat} : ∀ k, b < k → p b = false → q b = true → (∀ a, a ≠ b → q a = p a) → cnt q k = cnt p k + 1 := by
  intro k
  induction k with
  | zero => intro h; omega
  | succ k ih =>
    intro hb h1 h2 h3
    simp only [cnt]
    by_cases e : b = k
    · subst e
      have : ∀ m, m ≤ b → cnt q m = cnt p m := by
        intro m
        induction m with
        | zero => intro _; rfl
        | succ m ihm => intro hm; simp only [cnt]; rw [ihm (by omega), h3 m (by omega)]
      rw [this b (Nat.le_refl _), h1, h2]; rfl
    · rw [ih (by omega) h1 h2 h3, h3 k (fun z => e z.symm)]; omega
theorem cnt_max {p : Nat → Bool} : ∀ k, cnt p k ≤ k := by
  intro k
  induction k with
  | zero => exact Nat.le_refl _
  | succ k ih => simp only [cnt]; split <;> omega
theorem cnt_ex {p : Nat → Bool} : ∀ k, cnt p k < k → ∃ a, a < k ∧ p a = false := by
  intro k
  induction k with
  | zero => intro h; omega
  | succ k ih =>
    intro h
    simp only [cnt] at h
    cases e : p k with
    | false => exact ⟨k, by omega, e⟩
    | true =>
      rw [e] at h
      obtain ⟨a, h1, h2⟩ := ih (by simp at h; omega)
      exact ⟨a, by omega, h2⟩
theorem cnt_full {p : Nat → Bool} : ∀ k, cnt p k = k → ∀ a, a < k → p a = true := by
  intro k
  induction k with
  | zero => intro _ a h; omega
  | succ k ih =>
    intro h a ha
    simp only [cnt] at h
    have := @cnt_max p k
    cases e : p k with
    | false => rw [e] at h; simp at h; omega
    | true =>
      rw [e] at h
      by_cases e2 : a = k
      · rw [e2]; exact e
      · exact ih (by simp at h; omega) a (by omega)
theorem nI_n0 {a : Nat} (h : a < 2 ^ 31) : ¬ nI a < 0 := by
  grind [Int32.lt_iff_toInt_lt, Int32.le_iff_toInt_le, nI_toInt]
theorem nI_m {a : Nat} (h : a < 2 ^ 31) : ¬ nI a = -1 := fun z => nI_n0 h (by rw [z]; decide)
def rlM (L : List rl) (τ : St) : Prop := ∀ r, r < L.length → τ.1 26 r = nI (L.getD r z0).1 ∧ τ.1 27 r = nI (itM (L.getD r z0).2.1) ∧ τ.1 28 r = oM (L.getD r z0).2.2.1 ∧ τ.1 29 r = nI (L.getD r z0).2.2.2.1
theorem rlM.keep {L : List rl} {σ σ' : St} {S : List Nat} (h : rlM L σ) (hf : fr S σ σ') (h1 : 26 ∉ S) (h2 : 27 ∉ S) (h3 : 28 ∉ S) (h4 : 29 ∉ S) : rlM L σ' := by
  intro r hr
  rw [hf.1 26 h1, hf.1 27 h2, hf.1 28 h3, hf.1 29 h4]; exact h r hr
/-- turns given so far: c of them -/
def otn (L : List rl) (c : Nat) (u : Nat → Nat) (τ : St) : Prop := (∀ b, b < 26 → τ.1 37 b = if u b < c then nI (u b) else -1) ∧ (∀ a b, a < 26 → b < 26 → u a < c → u a = u b → a = b) ∧ (∀ t, t < c → ∃ a, a < 26 ∧ u a = t) ∧ (∀ r, r < L.length → isU (L.getD r z0) = true → u (L.getD r z0).1 < c → u (L.getD r z0).2.1 < u (L.getD r z0).1) ∧ cnt (fun a => decide (u a < c)) 26 = c
def rdy (L : List rl) (c : Nat) (u : Nat → Nat) (a : Nat) : Prop := ¬ u a < c ∧ ∀ r, r < L.length → isU (L.getD r z0) = true → (L.getD r z0).1 = a → u (L.getD r z0).2.1 < c
theorem or55 {L : List rl} {c b : Nat} {u : Nat → Nat} (hok : okL L) (hb : b < 26) (hc : c ≤ 26) (k23 : St → Int32 → Option St) (k31 : St → Int32 → Int32 → Option St) :
    ∀ (m r f : Nat) (p : Bool) (τ : St), r + m = L.length → m + 1 ≤ f → rlM L τ → τ.1 25 0 = nI L.length → otn L c u τ →
    ∃ g : Bool, (g = true ↔ p = true ∧ ∀ r', r ≤ r' → r' < L.length → isU (L.getD r' z0) = true → (L.getD r' z0).1 = b → u (L.getD r' z0).2.1 < c) ∧ M_order_l55 8000 k23 k31 f τ (nI c) (nI b) (if p then 1 else 0) (nI r) = if g then k31 (sI τ 37 b (nI c)) (nI (c + 1)) (nI (b + 1)) else k31 τ (nI c) (nI (b + 1)) := by
  intro m
  induction m with
  | zero =>
    intro r f p τ hm hf he e25 hu
    obtain ⟨f, rfl⟩ : ∃ g, f = g + 1 := ⟨f - 1, by omega⟩
    refine ⟨p, ⟨fun h => ⟨h, fun r' h1 h2 => by omega⟩, fun h => h.1⟩, ?_⟩
    unfold M_order_l55
    rw [e25, if_pos (nI_le (by omega) (by have := hok.1; omega))]
    cases p with
    | false =>
      rw [if_pos (by rfl), lt_is, show (1 : Int32) = nI 1 from rfl, nI_add]; rfl
    | true =>
      rw [if_neg (by decide), gd_nI hb (by decide), nI_clamp (by omega), lt_is, lt_is, lt_is, show (1 : Int32) = nI 1 from rfl, nI_add, nI_add]; rfl
  | succ m ih =>
    intro r f p τ hm hf he e25 hu
    obtain ⟨f, rfl⟩ : ∃ g, f = g + 1 := ⟨f - 1, by omega⟩
    have h60 := hok.1
    obtain ⟨g1, g2, g3, -⟩ := he r (by omega)
    obtain ⟨k1, k2, k3, -⟩ := hok.2 r (by omega)
    have i1 : nI r + (1 : Int32) = nI (r + 1) := by rw [show (1 : Int32) = nI 1 from rfl, nI_add]
    -- the rule says nothing, or its name has its turn
    have pass : (isU (L.getD r z0) = true → (L.getD r z0).1 = b → u (L.getD r z0).2.1 < c) → ∃ g : Bool, (g = true ↔ p = true ∧ ∀ r', r ≤ r' → r' < L.length → isU (L.getD r' z0) = true → (L.getD r' z0).1 = b → u (L.getD r' z0).2.1 < c) ∧ (lt (((if p then 1 else 0 : Int32) &&& (1 : Int32))) fun x3_26 => lt (nI r + (1 : Int32)) fun x4_28 => (M_order_l55 8000 k23 k31 f) τ (nI c) (nI b) x3_26 x4_28) = if g then k31 (sI τ 37 b (nI c)) (nI (c + 1)) (nI (b + 1)) else k31 τ (nI c) (nI (b + 1)) := by
      intro hq
      obtain ⟨g, q1, q2⟩ := ih (r + 1) f p τ (by omega) (by omega) he e25 hu
      refine ⟨g, q1.trans ⟨fun h => ⟨h.1, fun r' h1 h2 h3 h4 => ?_⟩, fun h => ⟨h.1, fun r' h1 h2 => h.2 r' (by omega) h2⟩⟩, ?_⟩
      · by_cases e : r' = r
        · subst e; exact hq h3 h4
        · exact h.2 r' (by omega) h2 h3 h4
      · rw [lt_is, lt_is, i1, ← q2]
        cases p <;> rfl
    unfold M_order_l55
    rw [e25, if_neg (nI_ge (by omega) (by omega)), gd_nI (by omega) (by decide), gd_nI (by omega) (by decide), gd_nI (by omega) (by decide), gd_nI (by omega) (by decide), nI_clamp (show r < 2 ^ 31 by omega), g1, g2, g3]
    by_cases hA : (L.getD r z0).1 = b
    · rw [if_pos (by rw [hA])]
      by_cases hY : (L.getD r z0).2.2.1 = 96
      · rw [if_pos (show oM (L.getD r z0).2.2.1 = -1 by rw [hY]; rfl)]
        by_cases hX : (L.getD r z0).2.1 < 26
        · rw [itM_26 hX, if_neg (show ¬ (100 : Int32) ≤ nI (L.getD r z0).2.1 from nge 100 (by omega) (by decide)), gd_nI hX (by decide), nI_clamp (show (L.getD r z0).2.1 < 2 ^ 31 by omega), hu.1 _ hX]
          by_cases ht : u (L.getD r z0).2.1 < c
          · rw [if_pos ht, if_neg (nI_n0 (show u (L.getD r z0).2.1 < 2 ^ 31 by omega))]
            exact pass (fun _ _ => ht)
          · rw [if_neg ht, if_pos (show (-1 : Int32) < 0 by decide)]
            obtain ⟨g, q1, q2⟩ := ih (r + 1) f false τ (by omega) (by omega) he e25 hu
            have hg : g = false := by
              cases g with
              | false => rfl
              | true => exact absurd (q1.mp rfl).1 (by decide)
            refine ⟨false, ⟨fun h => absurd h (by decide), fun h => absurd (h.2 r (Nat.le_refl _) (by omega) ((isU_iff _).mpr ⟨hY, hX⟩) hA) ht⟩, ?_⟩
            rw [hg] at q2
            rw [lt_is, lt_is, i1]
            refine Eq.trans ?_ q2
            cases p <;> rfl
        · rw [if_pos (show (100 : Int32) ≤ nI (itM (L.getD r z0).2.1) from nle 100 (by have := itM_big hX k2; omega) (by have := itM_big hX k2; omega))]
          exact pass (fun h _ => absurd ((isU_iff _).mp h).2 hX)
      · rw [if_neg (show ¬ oM (L.getD r z0).2.2.1 = -1 by
          unfold oM
          rw [if_neg hY]
          exact nI_m (by have := itM_lt (show (L.getD r z0).2.2.1 < 96 by omega); omega))]
        exact pass (fun h _ => absurd ((isU_iff _).mp h).1 hY)
    · rw [if_neg (fun z => hA ((nI_eq (by omega) (by omega)).mp z))]
      exact pass (fun _ h => absurd h hA)
theorem or31 {L : List rl} (hok : okL L) (k23 : St → Int32 → Option St) :
    ∀ (m b f c : Nat) (u : Nat → Nat) (τ : St), b + m = 26 → m + 1 ≤ f → c ≤ 26 → rlM L τ → τ.1 25 0 = nI L.length → otn L c u τ →
    ∃ (τ' : St) (c' : Nat) (u' : Nat → Nat), M_order_l31 8000 k23 f τ (nI c) (nI b) = k23 τ' (nI c') ∧ fr [37] τ τ' ∧ c ≤ c' ∧ c' ≤ 26 ∧ otn L c' u' τ' ∧ ((∃ a, b ≤ a ∧ a < 26 ∧ rdy L c u a) → c < c') := by
  intro m
  induction m with
  | zero =>
    intro b f c u τ hm hf hc he e25 hu
    obtain ⟨f, rfl⟩ : ∃ g, f = g + 1 := ⟨f - 1, by omega⟩
    unfold M_order_l31
    rw [if_pos (show (26 : Int32) ≤ nI b from nle 26 (by omega) (by omega))]
    exact ⟨τ, c, u, rfl, fr.rf, Nat.le_refl _, hc, hu, fun ⟨a, h1, h2, _⟩ => by omega⟩
  | succ m ih =>
    intro b f c u τ hm hf hc he e25 hu
    obtain ⟨f, rfl⟩ : ∃ g, f = g + 1 := ⟨f - 1, by omega⟩
    have h60 := hok.1
    obtain ⟨u1, u2, u3, u4, u5⟩ := hu
    obtain ⟨g, q1, q2⟩ := or55 (c := c) (u := u) hok (show b < 26 by omega) hc k23 (M_order_l31 8000 k23 f) L.length 0 8000 (!decide (u b < c)) τ (by omega) (by omega) he e25 ⟨u1, u2, u3, u4, u5⟩
    have hstart : M_order_l31 8000 k23 (f + 1) τ (nI c) (nI b) = if g then (M_order_l31 8000 k23 f) (sI τ 37 b (nI c)) (nI (c + 1)) (nI (b + 1)) else (M_order_l31 8000 k23 f) τ (nI c) (nI (b + 1)) := by
      rw [← q2]
      conv => lhs; unfold M_order_l31
      rw [if_neg (show ¬ (26 : Int32) ≤ nI b from nge 26 (by omega) (by decide)), gd_nI (by omega) (by decide), nI_clamp (by omega), u1 b (by omega)]
      by_cases ht : u b < c
      · rw [if_pos ht, if_pos (by grind [Int32.lt_iff_toInt_lt, Int32.le_iff_toInt_le, nI_toInt]), decide_eq_true ht]; rfl
      · rw [if_neg ht, if_neg (by decide), decide_eq_false ht]; rfl
    rw [hstart]
    cases hg : g with
    | true =>
      obtain ⟨q3, q4⟩ := q1.mp hg
      have hnb : ¬ u b < c := by simpa using q3
      have hcu : c < 26 := by
        have h := @cnt_max (fun a => decide (u a < c)) 26
        rcases Nat.lt_or_ge c 26 with h' | h'
        · exact h'
        · exact absurd (of_decide_eq_true (cnt_full 26 (by rw [u5]; omega) b (by omega))) hnb
      have hv : otn L (c + 1) (fun a => if a = b then c else if u a < c then u a else 26) (sI τ 37 b (nI c)) := by
        refine ⟨fun a ha => ?_, fun a a' ha ha' h1 h2 => ?_, fun t ht => ?_, fun r hr hu' hA => ?_, ?_⟩
        · rw [sI_1, if_pos rfl]
          have h1 := u1 a ha
          by_cases e : a = b
          · simp [e]
          · by_cases h : u a < c
            · have h' : u a < c + 1 := by omega
              simp [e, h, h', h1]
            · have h' : ¬ 26 < c + 1 := by omega
              simp [e, h, h', h1]
        · simp only at h1 h2
          by_cases e : a = b
          · by_cases e' : a' = b
            · rw [e, e']
            · rw [if_pos e, if_neg e'] at h2
              by_cases h : u a' < c
              · rw [if_pos h] at h2; omega
              · rw [if_neg h] at h2; omega
          · rw [if_neg e] at h1 h2
            by_cases h : u a < c
            · rw [if_pos h] at h1 h2
              by_cases e' : a' = b
              · rw [if_pos e'] at h2; omega
              · rw [if_neg e'] at h2
                by_cases h' : u a' < c
                · rw [if_pos h'] at h2; exact u2 a a' ha ha' h h2
                · rw [if_neg h'] at h2; omega
            · rw [if_neg h] at h1; omega
        · by_cases e : t = c
          · exact ⟨b, by omega, by simp [e]⟩
          · obtain ⟨a, h1, h2⟩ := u3 t (by omega)
            refine ⟨a, h1, ?_⟩
            simp only
            rw [if_neg (fun z => hnb (by rw [← z]; omega)), if_pos (by omega)]; exact h2
        · simp only at hA ⊢
          by_cases e : (L.getD r z0).1 = b
          · have h := q4 r (Nat.zero_le _) hr hu' e
            rw [if_pos e, if_neg (fun z => hnb (by rw [← z]; exact h)), if_pos h]; exact h
          · rw [if_neg e] at hA ⊢
            by_cases h : u (L.getD r z0).1 < c
            · rw [if_pos h]
              have h' := u4 r hr hu' h
              rw [if_neg (fun z => hnb (by rw [← z]; omega)), if_pos (by omega)]; exact h'
            · rw [if_neg h] at hA; omega
        · rw [cnt_upd (p := fun a => decide (u a < c)) (b := b) 26 (by omega) (by simpa using hnb) (by simp) (fun a ha => ?_), u5]
          by_cases h : u a < c
          · have h' : u a < c + 1 := by omega
            simp [ha, h, h']
          · have h' : ¬ 26 < c + 1 := by omega
            simp [ha, h, h']
      obtain ⟨τ', c', u', e1, e2, e3, e4, e5, -⟩ := ih (b + 1) f (c + 1) _ (sI τ 37 b (nI c)) (by omega) (by omega) (by omega) (he.keep (S := [37]) (fr.sI (by decide)) (by decide) (by decide) (by decide) (by decide)) (by rw [sI_1, if_neg (by decide)]; exact e25) hv
      exact ⟨τ', c', u', e1, (fr.sI (by decide)).tr e2, by omega, e4, e5, fun _ => by omega⟩
    | false =>
      obtain ⟨τ', c', u', e1, e2, e3, e4, e5, e6⟩ := ih (b + 1) f c u τ (by omega) (by omega) hc he e25 ⟨u1, u2, u3, u4, u5⟩
      refine ⟨τ', c', u', e1, e2, e3, e4, e5, fun ⟨a, h1, h2, h3⟩ => e6 ⟨a, ?_, h2, h3⟩⟩
      rcases Nat.lt_or_ge b a with h | h
      · exact h
      · have : a = b := by omega
        subst this
        have : g = true := q1.mpr ⟨by simpa using h3.1, fun r' _ h2 h4 h5 => h3.2 r' h2 h4 h5⟩
        rw [hg] at this; cases this
theorem rdy_ex {L : List rl} {rk : Nat → Nat} {c : Nat} {u : Nat → Nat} (hg : gL L rk) : ∀ (m a : Nat), rk a = m → a < 26 → ¬ u a < c → ∃ a, a < 26 ∧ rdy L c u a := by
  intro m
  induction m using Nat.strongRecOn with
  | ind m ih =>
    intro a hm ha hu
    by_cases h : ∃ r, r < L.length ∧ isU (L.getD r z0) = true ∧ (L.getD r z0).1 = a ∧ ¬ u (L.getD r z0).2.1 < c
    · obtain ⟨r, h1, h2, h3, h4⟩ := h
      exact ih _ (by rw [← hm, ← h3]; exact hg.2.2 r h1 h2) _ rfl ((isU_iff _).mp h2).2 h4
    · exact ⟨a, ha, hu, fun r h1 h2 h3 => Classical.byContradiction fun h4 => h ⟨r, h1, h2, h3, h4⟩⟩
theorem or23 {L : List rl} {rk : Nat → Nat} (hg : gL L rk) :
    ∀ (m c f : Nat) (u : Nat → Nat) (τ : St), 26 ≤ c + m → m + 1 ≤ f → c ≤ 26 → rlM L τ → τ.1 25 0 = nI L.length → otn L c u τ →
    ∃ (τ' : St) (u' : Nat → Nat), M_order_l23 8000 f τ (nI c) = some τ' ∧ fr [37] τ τ' ∧ otn L 26 u' τ' := by
  intro m
  induction m with
  | zero =>
    intro c f u τ hm hf hc he e25 hu
    obtain ⟨f, rfl⟩ : ∃ g, f = g + 1 := ⟨f - 1, by omega⟩
    have e : c = 26 := by omega
    subst e
    exact ⟨τ, u, rfl, fr.rf, hu⟩
  | succ m ih =>
    intro c f u τ hm hf hc he e25 hu
    obtain ⟨f, rfl⟩ : ∃ g, f = g + 1 := ⟨f - 1, by omega⟩
    by_cases e : c = 26
    · subst e
      exact ⟨τ, u, rfl, fr.rf, hu⟩
    · obtain ⟨a, h1, h2⟩ := cnt_ex 26 (by rw [hu.2.2.2.2]; omega)
      obtain ⟨a', h3, h4⟩ := rdy_ex hg (rk a) a rfl h1 (by simpa using h2)
      obtain ⟨τ1, c', u', f1, f2, f3, f4, f5, f6⟩ := or31 hg.1 (M_order_l23 8000 f) 26 0 8000 c u τ rfl (by omega) hc he e25 hu
      have hlt := f6 ⟨a', Nat.zero_le _, h3, h4⟩
      obtain ⟨τ', u2, e1, e2, e3⟩ := ih c' f u' τ1 (by omega) (by omega) f4 (he.keep f2 (by decide) (by decide) (by decide) (by decide)) (by rw [f2.1 25 (by decide)]; exact e25) f5
      refine ⟨τ', u2, ?_, f2.tr e2, e3⟩
      unfold M_order_l23
      rw [if_neg (show ¬ (26 : Int32) ≤ nI c from nge 26 (by omega) (by decide)), show (0 : Int32) = nI 0 from rfl, f1, e1]
theorem or2 {L : List rl} : ∀ (m b f : Nat) (τ : St), b + m = 26 → m + 1 ≤ f → (∀ a, a < b → τ.1 37 a = -1) → ∃ τ', M_order_l2 8000 f τ (nI b) = M_order_l23 8000 8000 τ' 0 ∧ fr [37] τ τ' ∧ ∀ a, a < 26 → τ'.1 37 a = -1 := by
  intro m
  induction m with
  | zero =>
    intro b f τ hm hf h
    obtain ⟨f, rfl⟩ : ∃ g, f = g + 1 := ⟨f - 1, by omega⟩
    unfold M_order_l2
    rw [if_pos (show (26 : Int32) ≤ nI b from nle 26 (by omega) (by omega))]
    exact ⟨τ, rfl, fr.rf, fun a ha => h a (by omega)⟩
  | succ m ih =>
    intro b f τ hm hf h
    obtain ⟨f, rfl⟩ : ∃ g, f = g + 1 := ⟨f - 1, by omega⟩
    unfold M_order_l2
    rw [if_neg (show ¬ (26 : Int32) ≤ nI b from nge 26 (by omega) (by decide)), gd_nI (by omega) (by decide), nI_clamp (by omega), lt_is, lt_is, show (nI b + 1 : Int32) = nI (b + 1) from nI_add b 1]
    obtain ⟨τ', e1, e2, e3⟩ := ih (b + 1) f (sI τ 37 b (-1)) (by omega) (by omega) (fun a ha => by
      rw [sI_1, if_pos rfl]
      by_cases e : a = b
      · rw [if_pos e]
      · rw [if_neg e]; exact h a (by omega))
    exact ⟨τ', e1, (fr.sI (by decide)).tr e2, e3⟩
theorem order_M {L : List rl} {rk : Nat → Nat} (hg : gL L rk) {τ : St} (he : rlM L τ) (e25 : τ.1 25 0 = nI L.length) : ∃ (τ' : St) (tn : Nat → Nat), M_order 8000 τ = some τ' ∧ fr [37] τ τ' ∧ tnO L tn ∧ ∀ b, b < 26 → τ'.1 37 b = nI (tn b) := by
  obtain ⟨τ1, e1, e2, e3⟩ := or2 (L := L) 26 0 8000 τ rfl (by omega) (fun a ha => by omega)
  obtain ⟨τ2, u, f1, f2, f3⟩ := or23 hg 26 0 8000 (fun _ => 26) τ1 (by omega) (by omega) (by omega) (he.keep e2 (by decide) (by decide) (by decide) (by decide)) (by rw [e2.1 25 (by decide)]; exact e25) ⟨fun b hb => by rw [if_neg (by omega)]; exact e3 b hb, fun a b _ _ h _ => by simp at h, fun t ht => by omega, fun r _ _ h => by simp at h, rfl⟩
  have hlt : ∀ a, a < 26 → u a < 26 := fun a ha => of_decide_eq_true (cnt_full 26 f3.2.2.2.2 a ha)
  refine ⟨τ2, u, ?_, e2.tr f2, ⟨hlt, fun a b ha hb h => f3.2.1 a b ha hb (hlt a ha) h, fun t ht => f3.2.2.1 t ht, fun r hr hu => f3.2.2.2.1 r hr hu (hlt _ (hg.1.2 r hr).1)⟩, fun b hb => by rw [f3.1 b hb, if_pos (hlt b hb)]⟩
  unfold M_order
  rw [show (0 : Int32) = nI 0 from rfl, e1]
  exact f1

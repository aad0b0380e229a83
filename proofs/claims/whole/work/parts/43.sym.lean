/-! what sounds as which symbol: both tables -/
theorem nI_mul (a b : Nat) : nI a * nI b = nI (a * b) := (Int32.ofNat_mul a b).symm
def stp (cur : Int32 × Int32) (v : Int32) (k r : Nat) : Int32 × Int32 := if v < 0 then cur else if cur.1 < 0 then (nI (12 * k + r), v) else if cur.2 ≤ v then cur else (nI (12 * k + r), v)
def fdS (G : Nat → Int32) (r : Nat) (sel : Nat → Bool) (p0 : Int32) : Nat → Int32 × Int32
  | 0 => (-1, p0)
  | k + 1 => stp (fdS G r sel p0 k) (if sel k then G k else -1) k r
/-- costs are -1 or small -/
def okG (G : Nat → Int32) : Prop := ∀ k, k < 9 → G k = -1 ∨ ∃ v, v ≤ 70000 ∧ G k = nI v
theorem okG.lt {G : Nat → Int32} (h : okG G) {k : Nat} (hk : k < 9) : G k = -1 ∨ ¬ G k < 0 := by
  rcases h k hk with h | ⟨v, h1, h2⟩
  · exact .inl h
  · exact .inr (by rw [h2]; exact nI_pos (by omega))
theorem fdS_p {G : Nat → Int32} {r : Nat} (hr : r < 12) {sel : Nat → Bool} (p q : Int32) : ∀ k, k ≤ 9 → ((fdS G r sel p k).1 = (fdS G r sel q k).1 ∧ ((fdS G r sel p k).1 ≠ -1 → (fdS G r sel p k).2 = (fdS G r sel q k).2)) ∧ ((fdS G r sel p k).1 = -1 ∨ ∃ c, c < 108 ∧ (fdS G r sel p k).1 = nI c) := by
  intro k
  induction k with
  | zero => intro _; exact ⟨⟨rfl, fun h => absurd rfl h⟩, .inl rfl⟩
  | succ k ih =>
    intro hk
    obtain ⟨⟨h1, h2⟩, h3⟩ := ih (by omega)
    simp only [fdS, stp]
    generalize (if sel k then G k else -1 : Int32) = v
    by_cases c1 : v < 0
    · rw [if_pos c1, if_pos c1]; exact ⟨⟨h1, h2⟩, h3⟩
    · rw [if_neg c1, if_neg c1, ← h1]
      by_cases c2 : (fdS G r sel p k).1 < 0
      · rw [if_pos c2, if_pos c2]; exact ⟨⟨rfl, fun _ => rfl⟩, .inr ⟨12 * k + r, by omega, rfl⟩⟩
      · have hne : (fdS G r sel p k).1 ≠ -1 := fun z => c2 (by rw [z]; decide)
        rw [if_neg c2, if_neg c2, ← h2 hne]
        by_cases c3 : (fdS G r sel p k).2 ≤ v
        · rw [if_pos c3, if_pos c3]; exact ⟨⟨h1, h2⟩, h3⟩
        · rw [if_neg c3, if_neg c3]; exact ⟨⟨rfl, fun _ => rfl⟩, .inr ⟨12 * k + r, by omega, rfl⟩⟩
theorem fdS_v {G : Nat → Int32} (hG : okG G) {r : Nat} {sel : Nat → Bool} (p : Int32) : ∀ k, k ≤ 9 → (fdS G r sel p k).1 ≠ -1 → ∃ v, v ≤ 70000 ∧ (fdS G r sel p k).2 = nI v := by
  intro k
  induction k with
  | zero => intro _ h; exact absurd rfl h
  | succ k ih =>
    intro hk h
    have ih := ih (by omega)
    simp only [fdS, stp] at h ⊢
    have hv : (if sel k then G k else -1 : Int32) = -1 ∨ ∃ v, v ≤ 70000 ∧ (if sel k then G k else -1 : Int32) = nI v := by
      cases sel k with
      | true => exact hG k (by omega)
      | false => exact .inl rfl
    generalize (if sel k then G k else -1 : Int32) = v at *
    by_cases c1 : v < 0
    · rw [if_pos c1] at h ⊢; exact ih h
    · rw [if_neg c1] at h ⊢
      have hv := hv.resolve_left (fun z => c1 (by rw [z]; decide))
      by_cases c2 : (fdS G r sel p k).1 < 0
      · rw [if_pos c2]; exact hv
      · rw [if_neg c2] at h ⊢
        by_cases c3 : (fdS G r sel p k).2 ≤ v
        · rw [if_pos c3] at h ⊢; exact ih h
        · rw [if_neg c3]; exact hv
theorem fdS_one {G : Nat → Int32} {r : Nat} {sel : Nat → Bool} {p : Int32} {q : Nat} (hs : ∀ k, sel k = decide (q = k)) : ∀ k, fdS G r sel p k = if q < k then (if G q < 0 then (-1, p) else (nI (12 * q + r), G q)) else (-1, p) := by
  intro k
  induction k with
  | zero => rw [if_neg (by omega)]; rfl
  | succ k ih =>
    simp only [fdS, ih, hs]
    by_cases e : q = k
    · subst e
      by_cases c : G q < 0
      · simp [stp, c]
      · have h1 : (-1 : Int32) < 0 := by decide
        simp [stp, c, h1]
    · have h1 : (-1 : Int32) < 0 := by decide
      by_cases h : q < k
      · have h2 : q < k + 1 := by omega
        simp [stp, e, h, h1, h2]
      · have h2 : ¬ q < k + 1 := by omega
        simp [stp, e, h, h1, h2]
def selY (y k : Nat) : Bool := y % 10 == 9 || y % 10 == k
/-- the symbols of a slot: its chord, its cost -/
def syC (G : Nat → Nat → Nat → Int32) (rt : Nat → Nat) : SS := fun s y => (fdS (G s (rt (y / 10))) (rt (y / 10)) (selY y) (-1) 9).1
def syP (G : Nat → Nat → Nat → Int32) (rt : Nat → Nat) : SS := fun s y => (fdS (G s (rt (y / 10))) (rt (y / 10)) (selY y) (-1) 9).2
theorem sy_O {G : Nat → Nat → Nat → Int32} {rt : Nat → Nat} {n : Nat} (hr : ∀ d, d < 7 → rt d < 12) : symO (syC G rt) n := fun s y _ hy => (fdS_p (hr _ (by omega)) (-1) (-1) 9 (by omega)).2
theorem sy_V {G : Nat → Nat → Nat → Int32} {rt : Nat → Nat} {n : Nat} (hr : ∀ d, d < 7 → rt d < 12) (hG : ∀ s r, s < n → r < 12 → okG (G s r)) {s y : Nat} (hs : s < n) (hy : y < 70) (h : syC G rt s y ≠ -1) : ∃ v, v ≤ 70000 ∧ syP G rt s y = nI v := fdS_v (hG s _ hs (hr _ (by omega))) (-1) 9 (by omega) h
section
variable {G : Nat → Nat → Nat → Int32} {rt : Nat → Nat} {n : Nat} {σ0 : St}
/-- the class's table is done up to here -/
def oS (G : Nat → Nat → Nat → Int32) (rt : Nat → Nat) (B : Nat) (σ : St) : Prop := ∀ i, i < B → σ.1 176 i = syC G rt (i / 70) (i % 70) ∧ σ.1 177 i = syP G rt (i / 70) (i % 70)
theorem selY_any {y : Nat} (h : y % 10 = 9) : selY y = fun _ => true := by
  funext k; simp [selY, h]
theorem fd37 {s d : Nat} (hn : n ≤ 24) (hs : s < n) (hd : d < 7) (hr : ∀ d, d < 7 → rt d < 12) (hG : ∀ s r, s < n → r < 12 → okG (G s r)) (hF : ∀ σ, fr [176, 177] σ0 σ → ∀ s r k, s < n → r < 12 → k < 9 → C_Tariff_ofFit σ (σ.1 48 s) (σ.1 49 s) (nI r) (nI k) = some (G s r k)) :
    ∀ (m k f : Nat) (σ : St), k + m = 9 → m + 1 ≤ f → fr [176, 177] σ0 σ → oS G rt (70 * s + 10 * d + k) σ → (σ.1 176 (70 * s + 10 * d + 9), σ.1 177 (70 * s + 10 * d + 9)) = fdS (G s (rt d)) (rt d) (fun _ => true) (-1) k →
    ∃ σ', C_Symbols_fillDegree_l37 8000 f σ (nI s) (nI (rt d)) (nI (70 * s + 10 * d)) (nI (70 * s + 10 * d + 9)) (nI k) = some σ' ∧ fr [176, 177] σ0 σ' ∧ oS G rt (70 * s + 10 * d + 10) σ' := by
  intro m
  induction m with
  | zero =>
    intro k f σ hm hf hfr ho ha
    obtain ⟨f, rfl⟩ : ∃ g, f = g + 1 := ⟨f - 1, by omega⟩
    have ek : k = 9 := by omega
    subst ek
    unfold C_Symbols_fillDegree_l37
    rw [if_pos (by decide)]
    refine ⟨σ, rfl, hfr, fun i hi => ?_⟩
    by_cases e : i = 70 * s + 10 * d + 9
    · have e1 : i / 70 = s := by omega
      have e2 : i % 70 = 10 * d + 9 := by omega
      rw [e1, e2, e]
      unfold syC syP
      rw [show (10 * d + 9) / 10 = d by omega, selY_any (by omega), ← ha]; exact ⟨rfl, rfl⟩
    · exact ho i (by omega)
  | succ m ih =>
    intro k f σ hm hf hfr ho ha
    obtain ⟨f, rfl⟩ : ∃ g, f = g + 1 := ⟨f - 1, by omega⟩
    have hrd := hr d hd
    have ix : nI (70 * s + 10 * d) + nI k = nI (70 * s + 10 * d + k) := nI_add _ _
    have a1 : σ.1 176 (70 * s + 10 * d + 9) = (fdS (G s (rt d)) (rt d) (fun _ => true) (-1) k).1 := by rw [← ha]
    have a2 : σ.1 177 (70 * s + 10 * d + 9) = (fdS (G s (rt d)) (rt d) (fun _ => true) (-1) k).2 := by rw [← ha]
    have hcell : ∀ (σ1 : St) (c0 : Int32), fr [176, 177] σ0 σ1 → (∀ i, i < 70 * s + 10 * d + k → σ1.1 176 i = σ.1 176 i ∧ σ1.1 177 i = σ.1 177 i) → c0 = (if G s (rt d) k = -1 then -1 else nI (12 * k + rt d)) → σ1.1 176 (70 * s + 10 * d + k) = c0 → σ1.1 177 (70 * s + 10 * d + k) = G s (rt d) k → oS G rt (70 * s + 10 * d + (k + 1)) σ1 := by
      intro σ1 c0 h1 h2 h3 h4 h5 i hi
      by_cases e : i = 70 * s + 10 * d + k
      · have e1 : i / 70 = s := by omega
        have e2 : i % 70 = 10 * d + k := by omega
        rw [e1, e2, e, h4, h5, h3]
        unfold syC syP
        rw [show (10 * d + k) / 10 = d by omega, fdS_one (q := k) (fun k' => by
          unfold selY
          rw [show (10 * d + k) % 10 = k by omega]
          have : (k == 9) = false := by simp; omega
          rw [this]
          by_cases e : k = k' <;> simp [e]), if_pos (show k < 9 by omega)]
        rcases (hG s (rt d) hs hrd).lt (show k < 9 by omega) with hv | hv
        · rw [hv]; exact ⟨rfl, rfl⟩
        · have hv' : ¬ G s (rt d) k = -1 := fun z => hv (by rw [z]; decide)
          simp [hv, hv']
      · rw [(h2 i (by omega)).1, (h2 i (by omega)).2]; exact ho i (by omega)
    unfold C_Symbols_fillDegree_l37
    rw [if_neg (show ¬ (9 : Int32) ≤ nI k from nge 9 (by omega) (by decide)), gd_nI (by omega) (by decide), gd_nI (by omega) (by decide), nI_clamp (show s < 2 ^ 31 by omega), hF σ hfr s (rt d) k hs hrd (by omega), bp_some]
    have e12 : ((12 : Int32) * nI k) + nI (rt d) = nI (12 * k + rt d) := by
      rw [show (12 : Int32) = nI 12 from rfl, nI_mul, nI_add]
    have hset : ∀ (c0 : Int32) (σ2 : St), σ2 = sI (sI σ 176 (70 * s + 10 * d + k) c0) 177 (70 * s + 10 * d + k) (G s (rt d) k) → fr [176, 177] σ0 σ2 ∧ (∀ i, i ≠ 70 * s + 10 * d + k → σ2.1 176 i = σ.1 176 i ∧ σ2.1 177 i = σ.1 177 i) ∧ σ2.1 176 (70 * s + 10 * d + k) = c0 ∧ σ2.1 177 (70 * s + 10 * d + k) = G s (rt d) k := by
      intro c0 σ2 h
      subst h
      refine ⟨hfr.tr ((fr.sI (by decide)).tr (fr.sI (by decide))), fun i hi => ?_, ?_, ?_⟩
      · simp [sI_1, hi]
      · simp [sI_1]
      · simp [sI_1]
    have upd9 : ∀ (σ2 : St) (c0 : Int32), fr [176, 177] σ0 σ2 → (∀ i, i ≠ 70 * s + 10 * d + k → σ2.1 176 i = σ.1 176 i ∧ σ2.1 177 i = σ.1 177 i) → σ2.1 176 (70 * s + 10 * d + k) = c0 → σ2.1 177 (70 * s + 10 * d + k) = G s (rt d) k → c0 = nI (12 * k + rt d) → ¬ G s (rt d) k < 0 → ((fdS (G s (rt d)) (rt d) (fun _ => true) (-1) k).1 < 0 ∨ ¬ (fdS (G s (rt d)) (rt d) (fun _ => true) (-1) k).2 ≤ G s (rt d) k) →
        ∃ σ', C_Symbols_fillDegree_l37 8000 f (sI (sI σ2 176 (70 * s + 10 * d + 9) c0) 177 (70 * s + 10 * d + 9) (G s (rt d) k)) (nI s) (nI (rt d)) (nI (70 * s + 10 * d)) (nI (70 * s + 10 * d + 9)) (nI (k + 1)) = some σ' ∧ fr [176, 177] σ0 σ' ∧ oS G rt (70 * s + 10 * d + 10) σ' := by
      intro σ2 c0 h1 h2 h3 h4 h5 hv h6
      refine ih (k + 1) f _ (by omega) (by omega) (h1.tr ((fr.sI (by decide)).tr (fr.sI (by decide)))) (hcell _ c0 (h1.tr ((fr.sI (by decide)).tr (fr.sI (by decide)))) (fun i hi => ?_) ?_ ?_ ?_) ?_
      · have := h2 i (by omega)
        have e : i ≠ 70 * s + 10 * d + 9 := by omega
        simp [sI_1, e, this]
      · rw [if_neg (fun z => hv (by rw [z]; decide)), h5]
      · simp [sI_1, show k ≠ 9 by omega, h3]
      · simp [sI_1, show k ≠ 9 by omega, h4]
      · simp only [fdS, stp, if_true]
        rw [if_neg hv]
        rcases h6 with h6 | h6
        · rw [if_pos h6]; simp [sI_1, h5]
        · by_cases h7 : (fdS (G s (rt d)) (rt d) (fun _ => true) (-1) k).1 < 0
          · rw [if_pos h7]; simp [sI_1, h5]
          · rw [if_neg h7, if_neg h6]; simp [sI_1, h5]
    have keep9 : ∀ (σ2 : St) (c0 : Int32), fr [176, 177] σ0 σ2 → (∀ i, i ≠ 70 * s + 10 * d + k → σ2.1 176 i = σ.1 176 i ∧ σ2.1 177 i = σ.1 177 i) → σ2.1 176 (70 * s + 10 * d + k) = c0 → σ2.1 177 (70 * s + 10 * d + k) = G s (rt d) k → c0 = (if G s (rt d) k = -1 then -1 else nI (12 * k + rt d)) → fdS (G s (rt d)) (rt d) (fun _ => true) (-1) (k + 1) = fdS (G s (rt d)) (rt d) (fun _ => true) (-1) k →
        ∃ σ', C_Symbols_fillDegree_l37 8000 f σ2 (nI s) (nI (rt d)) (nI (70 * s + 10 * d)) (nI (70 * s + 10 * d + 9)) (nI (k + 1)) = some σ' ∧ fr [176, 177] σ0 σ' ∧ oS G rt (70 * s + 10 * d + 10) σ' := by
      intro σ2 c0 h1 h2 h3 h4 h5 h6
      refine ih (k + 1) f _ (by omega) (by omega) h1 (hcell _ c0 h1 (fun i hi => h2 i (by omega)) h5 h3 h4) ?_
      rw [h6, ← ha, (h2 (70 * s + 10 * d + 9) (by omega)).1, (h2 (70 * s + 10 * d + 9) (by omega)).2]
    rcases (hG s (rt d) hs hrd).lt (show k < 9 by omega) with hv | hv
    · rw [if_pos hv]
      unfold C_Symbols_fillDegree_b85
      rw [ix, gd_nI (by omega) (by decide), lt_is, gd_nI (by omega) (by decide), lt_is, nI_clamp (show 70 * s + 10 * d + k < 2 ^ 31 by omega), if_pos rfl, lt_is, nI_1]
      obtain ⟨q1, q2, q3, q4⟩ := hset (-1) _ rfl
      refine keep9 _ (-1) q1 q2 q3 q4 (by rw [if_pos hv]) ?_
      simp only [fdS, stp, if_true]
      rw [if_pos (by rw [hv]; decide)]
    · have hv' : ¬ G s (rt d) k = -1 := fun z => hv (by rw [z]; decide)
      rw [if_neg hv']
      unfold C_Symbols_fillDegree_b85
      rw [ix, gd_nI (by omega) (by decide), lt_is, gd_nI (by omega) (by decide), lt_is, nI_clamp (show 70 * s + 10 * d + k < 2 ^ 31 by omega), e12, if_neg (nI_nm1 (by omega)), gd_nI (by omega) (by decide), nI_clamp (show 70 * s + 10 * d + 9 < 2 ^ 31 by omega), nI_1]
      obtain ⟨q1, q2, q3, q4⟩ := hset (nI (12 * k + rt d)) _ rfl
      rw [(q2 (70 * s + 10 * d + 9) (by omega)).1, (q2 (70 * s + 10 * d + 9) (by omega)).2, a1, a2]
      have hneg := (fdS_p (G := G s (rt d)) (sel := fun _ => true) hrd (-1) (-1) k (by omega)).2
      by_cases c2 : (fdS (G s (rt d)) (rt d) (fun _ => true) (-1) k).1 = -1
      · rw [if_pos c2, gd_nI (by omega) (by decide), lt_is, gd_nI (by omega) (by decide), lt_is, lt_is]
        exact upd9 _ _ q1 q2 q3 q4 rfl hv (.inl (by rw [c2]; decide))
      · rw [if_neg c2, gd_nI (by omega) (by decide)]
        have c2' : ¬ (fdS (G s (rt d)) (rt d) (fun _ => true) (-1) k).1 < 0 := by
          obtain ⟨c, h1, h2⟩ := hneg.resolve_left c2
          rw [h2]; exact nI_pos (by omega)
        by_cases c3 : (fdS (G s (rt d)) (rt d) (fun _ => true) (-1) k).2 ≤ G s (rt d) k
        · rw [if_pos c3, lt_is]
          refine keep9 _ _ q1 q2 q3 q4 (by rw [if_neg hv']) ?_
          simp only [fdS, stp, if_true]
          rw [if_neg hv, if_neg c2', if_pos c3]
        · rw [if_neg c3, gd_nI (by omega) (by decide), lt_is, gd_nI (by omega) (by decide), lt_is, lt_is]
          exact upd9 _ _ q1 q2 q3 q4 rfl hv (.inr c3)
theorem fill15 {s : Nat} (hn : n ≤ 24) (hs : s < n) (hr : ∀ d, d < 7 → rt d < 12) (hR : ∀ σ, fr [176, 177] σ0 σ → ∀ d, d < 7 → C_Key_rootOf σ (nI d) = some (nI (rt d))) (hG : ∀ s r, s < n → r < 12 → okG (G s r)) (hF : ∀ σ, fr [176, 177] σ0 σ → ∀ s r k, s < n → r < 12 → k < 9 → C_Tariff_ofFit σ (σ.1 48 s) (σ.1 49 s) (nI r) (nI k) = some (G s r k)) (k3 : St → Int32 → Option St) :
    ∀ (m d f : Nat) (σ : St), d + m = 7 → m + 1 ≤ f → fr [176, 177] σ0 σ → oS G rt (70 * s + 10 * d) σ → ∃ σ', C_Symbols_fill_l15 8000 k3 f σ (nI s) (nI d) = k3 σ' (nI (s + 1)) ∧ fr [176, 177] σ0 σ' ∧ oS G rt (70 * (s + 1)) σ' := by
  intro m
  induction m with
  | zero =>
    intro d f σ hm hf hfr ho
    obtain ⟨f, rfl⟩ : ∃ g, f = g + 1 := ⟨f - 1, by omega⟩
    have ed : d = 7 := by omega
    subst ed
    unfold C_Symbols_fill_l15
    rw [if_pos (by decide), lt_is, nI_1]
    exact ⟨σ, rfl, hfr, fun i hi => ho i (by omega)⟩
  | succ m ih =>
    intro d f σ hm hf hfr ho
    obtain ⟨f, rfl⟩ : ∃ g, f = g + 1 := ⟨f - 1, by omega⟩
    unfold C_Symbols_fill_l15
    rw [if_neg (show ¬ (7 : Int32) ≤ nI d from nge 7 (by omega) (by decide)), hR σ hfr d (by omega), bp_some]
    have e6 : (nI s * 70) + (nI d * 10) = nI (70 * s + 10 * d) := by
      rw [show (70 : Int32) = nI 70 from rfl, show (10 : Int32) = nI 10 from rfl, nI_mul, nI_mul, nI_add, Nat.mul_comm s, Nat.mul_comm d]
    have e7 : nI (70 * s + 10 * d) + 9 = nI (70 * s + 10 * d + 9) := nI_add _ 9
    have hfr2 : fr [176, 177] σ0 (sI (sI σ 176 (70 * s + 10 * d + 9) (-1)) 177 (70 * s + 10 * d + 9) (-1)) := hfr.tr ((fr.sI (by decide)).tr (fr.sI (by decide)))
    obtain ⟨σ1, q1, q2, q3⟩ := fd37 hn hs (show d < 7 by omega) hr hG hF 9 0 8000 _ rfl (by omega) hfr2 (fun i hi => by
      have e : i ≠ 70 * s + 10 * d + 9 := by omega
      have := ho i (by omega)
      simp [sI_1, e, this]) (by simp [sI_1, fdS])
    have : C_Symbols_fillDegree 8000 σ (nI s) (nI d) (nI (rt d)) = some σ1 := by
      unfold C_Symbols_fillDegree
      rw [lt_is, e6, lt_is, e7, gd_nI (by omega) (by decide), lt_is, gd_nI (by omega) (by decide), lt_is, nI_clamp (by omega)]
      exact q1
    rw [this, bp_some, lt_is, nI_1]
    obtain ⟨σ', e1, e2, e3⟩ := ih (d + 1) f σ1 (by omega) (by omega) q2 (fun i hi => q3 i (by omega))
    exact ⟨σ', e1, e2, e3⟩
theorem fill3 (hn : n ≤ 24) (hr : ∀ d, d < 7 → rt d < 12) (hR : ∀ σ, fr [176, 177] σ0 σ → ∀ d, d < 7 → C_Key_rootOf σ (nI d) = some (nI (rt d))) (hG : ∀ s r, s < n → r < 12 → okG (G s r)) (hF : ∀ σ, fr [176, 177] σ0 σ → ∀ s r k, s < n → r < 12 → k < 9 → C_Tariff_ofFit σ (σ.1 48 s) (σ.1 49 s) (nI r) (nI k) = some (G s r k)) (h51 : σ0.1 51 0 = nI n) :
    ∀ (m s f : Nat) (σ : St), s + m = n → m + 1 ≤ f → fr [176, 177] σ0 σ → oS G rt (70 * s) σ → ∃ σ', C_Symbols_fill_l3 8000 f σ (nI s) = some σ' ∧ fr [176, 177] σ0 σ' ∧ oS G rt (70 * n) σ' := by
  intro m
  induction m with
  | zero =>
    intro s f σ hm hf hfr ho
    obtain ⟨f, rfl⟩ : ∃ g, f = g + 1 := ⟨f - 1, by omega⟩
    unfold C_Symbols_fill_l3
    rw [hfr.1 51 (by decide), h51, if_pos (nI_le (by omega) (by omega))]
    exact ⟨σ, rfl, hfr, fun i hi => ho i (by omega)⟩
  | succ m ih =>
    intro s f σ hm hf hfr ho
    obtain ⟨f, rfl⟩ : ∃ g, f = g + 1 := ⟨f - 1, by omega⟩
    unfold C_Symbols_fill_l3
    rw [hfr.1 51 (by decide), h51, if_neg (nI_ge (by omega) (by omega))]
    obtain ⟨σ1, q1, q2, q3⟩ := fill15 hn (show s < n by omega) hr hR hG hF (C_Symbols_fill_l3 8000 f) 7 0 8000 σ rfl (by omega) hfr (fun i hi => ho i (by omega))
    rw [show (0 : Int32) = nI 0 from rfl, q1]
    exact ih (s + 1) f σ1 (by omega) (by omega) q2 q3
end

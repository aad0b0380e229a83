/-! the reference's table of symbols -/
def yc (code : Nat) : Nat := 10 * (code / 10 - 1) + (if code % 10 = 0 then 9 else code % 10 - 1)
theorem yc_ok : ∀ code, code < 80 → 10 ≤ code → nI code / 10 = nI (code / 10) ∧ nI code - nI code / 10 * 10 = nI (code % 10) ∧ yc code / 10 = code / 10 - 1 ∧ yc code < 70 ∧ (∀ k, k < 9 → selY (yc code) k = (code % 10 == 0 || code % 10 == k + 1)) := by decide +kernel
theorem yc_it : ∀ y, y < 70 → yc (itM (26 + y) - 100) = y ∧ 10 ≤ itM (26 + y) - 100 ∧ itM (26 + y) - 100 < 80 := by decide +kernel
section
variable {G : Nat → Nat → Nat → Int32} {rt : Nat → Nat} {n : Nat} {τ0 : St}
def oR (G : Nat → Nat → Nat → Int32) (rt : Nat → Nat) (n B : Nat) (τ : St) : Prop := ∀ c s, 10 ≤ c → c < 80 → s < n → 24 * c + s < B → τ.1 31 (24 * c + s) = syC G rt s (yc c) ∧ (syC G rt s (yc c) ≠ -1 → τ.1 32 (24 * c + s) = syP G rt s (yc c))
theorem rs63 {s c : Nat} (hn : n ≤ 24) (hs : s < n) (hc0 : 10 ≤ c) (hc : c < 80) (hr : ∀ d, d < 7 → rt d < 12) (hG : ∀ s r, s < n → r < 12 → okG (G s r)) (hF : ∀ τ, fr [31, 32] τ0 τ → ∀ s r k, s < n → r < 12 → k < 9 → M_fits 8000 τ (nI s) (nI r) (nI k) = some (G s r k)) (k3 : St → Int32 → Option St) (k11 : St → Int32 → Int32 → Option St) :
    ∀ (m k f : Nat) (τ : St), k + m = 9 → m + 1 ≤ f → fr [31, 32] τ0 τ → oR G rt n (24 * c + s) τ → (τ.1 31 (24 * c + s), τ.1 32 (24 * c + s)) = fdS (G s (rt (yc c / 10))) (rt (yc c / 10)) (selY (yc c)) 0 k →
    ∃ τ', M_readSymbols_l63 8000 k3 k11 f τ (nI c) (nI s) (nI (rt (yc c / 10))) (nI (24 * c + s)) (nI k) = k11 τ' (nI c) (nI (s + 1)) ∧ fr [31, 32] τ0 τ' ∧ oR G rt n (24 * c + (s + 1)) τ' := by
  intro m
  obtain ⟨y1, y2, y3, y4, y5⟩ := yc_ok c hc hc0
  have hrd := hr (yc c / 10) (by omega)
  generalize hR : rt (yc c / 10) = R at *
  induction m with
  | zero =>
    intro k f τ hm hf hfr ho ha
    obtain ⟨f, rfl⟩ : ∃ g, f = g + 1 := ⟨f - 1, by omega⟩
    have ek : k = 9 := by omega
    subst ek
    unfold M_readSymbols_l63
    rw [if_pos (by decide), lt_is, nI_1]
    refine ⟨τ, rfl, hfr, fun c' s' h1 h2 h3 h4 => ?_⟩
    by_cases e : c' = c ∧ s' = s
    · obtain ⟨rfl, rfl⟩ := e
      obtain ⟨⟨p1, p2⟩, -⟩ := fdS_p (G := G s' R) (sel := selY (yc c')) hrd (-1) 0 9 (by omega)
      unfold syC syP
      rw [hR, p1]
      refine ⟨by rw [← ha], fun h => ?_⟩
      rw [p2 (by rw [p1]; exact h), ← ha]
    · exact ho c' s' h1 h2 h3 (by omega)
  | succ m ih =>
    intro k f τ hm hf hfr ho ha
    obtain ⟨f, rfl⟩ : ∃ g, f = g + 1 := ⟨f - 1, by omega⟩
    have a1 : τ.1 31 (24 * c + s) = (fdS (G s R) R (selY (yc c)) 0 k).1 := by rw [← ha]
    have a2 : τ.1 32 (24 * c + s) = (fdS (G s R) R (selY (yc c)) 0 k).2 := by rw [← ha]
    have e12 : ((12 : Int32) * nI k) + nI R = nI (12 * k + R) := by
      rw [show (12 : Int32) = nI 12 from rfl, nI_mul, nI_add]
    have step : ∀ v : Int32, v = (if selY (yc c) k then G s R k else -1) → ∃ τ', M_readSymbols_b100 8000 k3 k11 (M_readSymbols_l63 8000 k3 k11 f) τ (nI c) (nI s) (nI R) (nI (24 * c + s)) (nI k) v = k11 τ' (nI c) (nI (s + 1)) ∧ fr [31, 32] τ0 τ' ∧ oR G rt n (24 * c + (s + 1)) τ' := by
      intro v hv
      have hfd : fdS (G s R) R (selY (yc c)) 0 (k + 1) = stp (fdS (G s R) R (selY (yc c)) 0 k) v k R := by rw [hv]; rfl
      have set : ¬ v < 0 → ((fdS (G s R) R (selY (yc c)) 0 k).1 < 0 ∨ ¬ (fdS (G s R) R (selY (yc c)) 0 k).2 ≤ v) → ∃ τ', M_readSymbols_b129 8000 k3 k11 (M_readSymbols_l63 8000 k3 k11 f) τ (nI c) (nI s) (nI R) (nI (24 * c + s)) (nI k) v = k11 τ' (nI c) (nI (s + 1)) ∧ fr [31, 32] τ0 τ' ∧ oR G rt n (24 * c + (s + 1)) τ' := by
        intro h1 h2
        unfold M_readSymbols_b129
        rw [gd_nI (by omega) (by decide), lt_is, gd_nI (by omega) (by decide), lt_is, lt_is, nI_1, nI_clamp (by omega), e12]
        refine ih (k + 1) f _ (by omega) (by omega) (hfr.tr ((fr.sI (by decide)).tr (fr.sI (by decide)))) (fun c' s' q1 q2 q3 q4 => ?_) ?_
        · have e : 24 * c' + s' ≠ 24 * c + s := by omega
          have := ho c' s' q1 q2 q3 q4
          simpa [sI_1, e] using this
        · rw [hfd, stp, if_neg h1]
          rcases h2 with h2 | h2
          · rw [if_pos h2]; simp [sI_1]
          · by_cases h3 : (fdS (G s R) R (selY (yc c)) 0 k).1 < 0
            · rw [if_pos h3]; simp [sI_1]
            · rw [if_neg h3, if_neg h2]; simp [sI_1]
      unfold M_readSymbols_b100
      by_cases c1 : v < 0
      · rw [if_pos c1, lt_is, nI_1]
        exact ih (k + 1) f τ (by omega) (by omega) hfr ho (by rw [hfd, stp, if_pos c1, ha])
      · rw [if_neg c1, gd_nI (by omega) (by decide), nI_clamp (by omega), a1]
        by_cases c2 : (fdS (G s R) R (selY (yc c)) 0 k).1 < 0
        · rw [if_pos c2]; exact set c1 (.inl c2)
        · rw [if_neg c2, gd_nI (by omega) (by decide), a2]
          by_cases c3 : (fdS (G s R) R (selY (yc c)) 0 k).2 ≤ v
          · rw [if_pos c3, lt_is, nI_1]
            exact ih (k + 1) f τ (by omega) (by omega) hfr ho (by rw [hfd, stp, if_neg c1, if_neg c2, if_pos c3, ha])
          · rw [if_neg c3]; exact set c1 (.inr c3)
    unfold M_readSymbols_l63
    rw [if_neg (show ¬ (9 : Int32) ≤ nI k from nge 9 (by omega) (by decide)), y2, hF τ hfr s R k hs hrd (by omega), bp_some, nI_1]
    have y5 := y5 k (by omega)
    by_cases c1 : c % 10 = 0
    · rw [if_pos (by rw [c1]; rfl)]
      exact step _ (by rw [y5, c1]; rfl)
    · rw [if_neg (nI_ne0 (by omega) (by omega))]
      by_cases c2 : c % 10 = k + 1
      · rw [if_pos (by rw [c2])]
        exact step _ (by rw [y5, c2]; simp)
      · rw [if_neg (fun z => c2 ((nI_eq (by omega) (by omega)).mp z))]
        refine step _ ?_
        have h1 : (c % 10 == 0) = false := by simpa using c1
        have h2 : (c % 10 == k + 1) = false := by simpa using c2
        rw [y5, h1, h2]; rfl
theorem rs11 {c : Nat} (hn : n ≤ 24) (hc0 : 10 ≤ c) (hc : c < 80) (hr : ∀ d, d < 7 → rt d < 12) (hD : ∀ τ, fr [31, 32] τ0 τ → ∀ d, d < 7 → ∃ e, M_degree τ (nI (d + 1)) = some e ∧ (τ.1 1 0 + e) - (τ.1 1 0 + e) / 12 * 12 = nI (rt d)) (hG : ∀ s r, s < n → r < 12 → okG (G s r)) (hF : ∀ τ, fr [31, 32] τ0 τ → ∀ s r k, s < n → r < 12 → k < 9 → M_fits 8000 τ (nI s) (nI r) (nI k) = some (G s r k)) (h24 : τ0.1 24 0 = nI n) (k3 : St → Int32 → Option St) :
    ∀ (m s f : Nat) (τ : St), s + m = n → m + 1 ≤ f → fr [31, 32] τ0 τ → oR G rt n (24 * c + s) τ → ∃ τ', M_readSymbols_l11 8000 k3 f τ (nI c) (nI s) = k3 τ' (nI (c + 1)) ∧ fr [31, 32] τ0 τ' ∧ oR G rt n (24 * (c + 1)) τ' := by
  intro m
  induction m with
  | zero =>
    intro s f τ hm hf hfr ho
    obtain ⟨f, rfl⟩ : ∃ g, f = g + 1 := ⟨f - 1, by omega⟩
    unfold M_readSymbols_l11
    rw [hfr.1 24 (by decide), h24, if_pos (nI_le (by omega) (by omega)), lt_is, nI_1]
    exact ⟨τ, rfl, hfr, fun c' s' h1 h2 h3 h4 => ho c' s' h1 h2 h3 (by omega)⟩
  | succ m ih =>
    intro s f τ hm hf hfr ho
    obtain ⟨f, rfl⟩ : ∃ g, f = g + 1 := ⟨f - 1, by omega⟩
    obtain ⟨y1, y2, y3, y4, y5⟩ := yc_ok c hc hc0
    obtain ⟨e, d1, d2⟩ := hD τ hfr (yc c / 10) (by omega)
    unfold M_readSymbols_l11
    rw [hfr.1 24 (by decide), h24, if_neg (nI_ge (by omega) (by omega)), y1, show c / 10 = yc c / 10 + 1 by omega, d1, bp_some, lt_is, lt_is, d2, show (24 : Int32) * nI c + nI s = nI (24 * c + s) from by rw [show (24 : Int32) = nI 24 from rfl, nI_mul, nI_add], gd_nI (by omega) (by decide), lt_is, gd_nI (by omega) (by decide), lt_is, nI_clamp (by omega)]
    obtain ⟨τ1, q1, q2, q3⟩ := rs63 hn (show s < n by omega) hc0 hc hr hG hF k3 (M_readSymbols_l11 8000 k3 f) 9 0 8000 _ rfl (by omega) (hfr.tr ((fr.sI (k := 31) (i := 24 * c + s) (x := -1) (by decide)).tr (fr.sI (k := 32) (i := 24 * c + s) (x := 0) (by decide)))) (fun c' s' p1 p2 p3 p4 => by
      have e : 24 * c' + s' ≠ 24 * c + s := by omega
      have := ho c' s' p1 p2 p3 p4
      simpa [sI_1, e] using this) (by simp [sI_1, fdS])
    rw [show (nI 0 : Int32) = 0 from rfl] at q1
    rw [q1]
    exact ih (s + 1) f τ1 (by omega) (by omega) q2 q3
theorem rs3 (hn : n ≤ 24) (hr : ∀ d, d < 7 → rt d < 12) (hD : ∀ τ, fr [31, 32] τ0 τ → ∀ d, d < 7 → ∃ e, M_degree τ (nI (d + 1)) = some e ∧ (τ.1 1 0 + e) - (τ.1 1 0 + e) / 12 * 12 = nI (rt d)) (hG : ∀ s r, s < n → r < 12 → okG (G s r)) (hF : ∀ τ, fr [31, 32] τ0 τ → ∀ s r k, s < n → r < 12 → k < 9 → M_fits 8000 τ (nI s) (nI r) (nI k) = some (G s r k)) (h24 : τ0.1 24 0 = nI n) :
    ∀ (m c f : Nat) (τ : St), c + m = 80 → 10 ≤ c → m + 1 ≤ f → fr [31, 32] τ0 τ → oR G rt n (24 * c) τ → ∃ τ', M_readSymbols_l3 8000 f τ (nI c) = some τ' ∧ fr [31, 32] τ0 τ' ∧ oR G rt n (24 * 80) τ' := by
  intro m
  induction m with
  | zero =>
    intro c f τ hm hc0 hf hfr ho
    obtain ⟨f, rfl⟩ : ∃ g, f = g + 1 := ⟨f - 1, by omega⟩
    unfold M_readSymbols_l3
    rw [if_pos (show (80 : Int32) ≤ nI c from nle 80 (by omega) (by omega))]
    exact ⟨τ, rfl, hfr, fun c' s' h1 h2 h3 h4 => ho c' s' h1 h2 h3 (by omega)⟩
  | succ m ih =>
    intro c f τ hm hc0 hf hfr ho
    obtain ⟨f, rfl⟩ : ∃ g, f = g + 1 := ⟨f - 1, by omega⟩
    unfold M_readSymbols_l3
    rw [if_neg (show ¬ (80 : Int32) ≤ nI c from nge 80 (by omega) (by decide))]
    obtain ⟨τ1, q1, q2, q3⟩ := rs11 hn hc0 (show c < 80 by omega) hr hD hG hF h24 (M_readSymbols_l3 8000 f) n 0 8000 τ (by omega) (by omega) hfr (fun c' s' h1 h2 h3 h4 => ho c' s' h1 h2 h3 (by omega))
    rw [show (0 : Int32) = nI 0 from rfl, q1]
    exact ih (c + 1) f τ1 (by omega) (by omega) (by omega) q2 q3
end
/-! both tables, from the key, the costs and the slots -/
def dgN (mode d : Nat) : Nat := (if mode = 0 then [0, 2, 4, 5, 7, 9, 11] else [0, 2, 3, 5, 7, 8, 10]).getD d 0
def rtN (t mode d : Nat) : Nat := (t + dgN mode d) % 12
theorem rt_arith : ∀ t, t < 12 → ∀ e, e < 12 → (nI t + nI e) - (nI t + nI e) / 12 * 12 = nI ((t + e) % 12) := by decide +kernel
theorem dg_ok : ∀ m, m < 2 → ∀ d, d < 7 → dgN m d < 12 ∧ (if m = 0 then tMaj d else tMin d) = nI (dgN m d) := by decide +kernel
theorem root_C {σ : St} {t m : Nat} (ht : t < 12) (hm : m < 2) (e16 : σ.1 16 0 = nI t) (e17 : σ.1 17 0 = nI m) {d : Nat} (hd : d < 7) : C_Key_rootOf σ (nI d) = some (nI (rtN t m d)) := by
  obtain ⟨h1, h2⟩ := dg_ok m hm d hd
  unfold C_Key_rootOf
  rw [if_neg (nI_pos (by omega)), if_pos (show nI d < (7 : Int32) from nI_lt hd (by decide)), e16, e17, gd_nI hd (by decide), nI_clamp (by omega)]
  by_cases e : m = 0
  · subst e
    rw [if_pos rfl] at h2
    rw [if_pos (show nI 0 = 0 from rfl), h2, rt_arith t ht _ h1]; rfl
  · rw [if_neg e] at h2
    rw [if_neg (nI_ne0 (by omega) (by omega)), gd_nI hd (by decide), h2, rt_arith t ht _ h1]; rfl
theorem degree_M {τ : St} {m : Nat} (hm : m < 2) (e2 : τ.1 2 0 = nI m) : ∀ d, d < 7 → M_degree τ (nI (d + 1)) = some (nI (dgN m d)) := by
  intro d hd
  unfold M_degree
  rw [e2]
  have : ∀ m, m < 2 → ∀ d, d < 7 → (if nI (d + 1) = (1 : Int32) then some (0 : Int32) else if nI (d + 1) = (2 : Int32) then some (2 : Int32) else if nI (d + 1) = (3 : Int32) then if nI m = 0 then some (4 : Int32) else some (3 : Int32) else if nI (d + 1) = (4 : Int32) then some (5 : Int32) else if nI (d + 1) = (5 : Int32) then some (7 : Int32) else if nI (d + 1) = (6 : Int32) then if nI m = 0 then some (9 : Int32) else some (8 : Int32) else if nI m = 0 then some (11 : Int32) else some (10 : Int32)) = some (nI (dgN m d)) := by decide +kernel
  exact this m hm d hd
/-- both tables of symbols agree -/
theorem sym_both {σ τ : St} {n : Nat} (hk : gKey (σ.1 16) (σ.1 17) (τ.1 1) (τ.1 2)) (hc : gCost (σ.1 32) (τ.1 3)) (hs : gSlots (σ.1 48) (σ.1 49) (σ.1 50) (σ.1 51) (τ.1 7) (τ.1 8) (τ.1 9) (τ.1 6)) (h51 : σ.1 51 0 = nI n) (hn : n ≤ 24) (h24 : τ.1 24 0 = nI n) :
    ∃ (σ' τ' : St) (sC sP : SS), C_Symbols_fill 8000 σ = some σ' ∧ M_readSymbols 8000 τ = some τ' ∧ fr [176, 177] σ σ' ∧ fr [31, 32] τ τ' ∧ symO sC n ∧ (∀ s y, s < n → y < 70 → sC s y ≠ -1 → ∃ v, v ≤ 70000 ∧ sP s y = nI v) ∧ (∀ s y, s < n → y < 70 → σ'.1 176 (70 * s + y) = sC s y ∧ σ'.1 177 (70 * s + y) = sP s y) ∧ (∀ s y, s < n → y < 70 → τ'.1 31 (24 * (itM (26 + y) - 100) + s) = sC s y ∧ (sC s y ≠ -1 → τ'.1 32 (24 * (itM (26 + y) - 100) + s) = sP s y)) := by
  obtain ⟨k1, k2, ⟨t, ht, k3⟩, k4⟩ := hk
  obtain ⟨m, hm, k5⟩ : ∃ m, m < 2 ∧ σ.1 17 0 = nI m := by
    rcases k4 with h | h
    · exact ⟨0, by omega, h⟩
    · exact ⟨1, by omega, h⟩
  obtain ⟨c, hc24, s1, s2, s3⟩ := hs
  have ecn : c = n := (nI_eq (by omega) (by omega)).mp (s1.symm.trans h51)
  subst ecn
  have hr : ∀ d, d < 7 → rtN t m d < 12 := fun d _ => Nat.mod_lt _ (by decide)
  have hGx : ∀ s r, s < c → r < 12 → okG (fun k => fitN (σ.1 32) (cst (σ.1 48) s) (σ.1 49 s) r k) := fun s r _ _ k _ => fitN_of hc _ _ _ _
  have hst : ∀ s, s < c → ∃ v, v < 4096 ∧ cst (σ.1 48) s = v ∧ σ.1 48 s = nI v ∧ τ.1 7 s = nI v := by
    intro s hs
    obtain ⟨⟨q1, v, q2, q3, q4⟩, -⟩ := s3 s hs
    exact ⟨v, q3, by unfold cst; rw [q4, nI_clamp (by omega)], q4, by rw [← q1, q4]⟩
  obtain ⟨σ', a1, a2, a3⟩ := fill3 (G := fun s r k => fitN (σ.1 32) (cst (σ.1 48) s) (σ.1 49 s) r k) (rt := rtN t m) (σ0 := σ) hc24 hr (fun σ1 hf d hd => root_C ht hm (by rw [hf.1 16 (by decide)]; exact k3) (by rw [hf.1 17 (by decide)]; exact k5) hd) hGx (fun σ1 hf s r k hs hr hk => by
    obtain ⟨v, v1, v2, v3, v4⟩ := hst s hs
    have h := C_fit (σ := σ1) (g := τ.1 3) (s := v) (r := r) (k := k) (b := σ.1 49 s) (by rw [hf.1 32 (by decide)]; exact hc) v1 hr hk (s3 s hs).2.1.2
    rw [hf.1 32 (by decide)] at h
    rw [hf.1 48 (by decide), hf.1 49 (by decide), v3, h, v2]) h51 c 0 8000 σ (by omega) (by omega) fr.rf (fun i hi => by omega)
  obtain ⟨τ', b1, b2, b3⟩ := rs3 (G := fun s r k => fitN (σ.1 32) (cst (σ.1 48) s) (σ.1 49 s) r k) (rt := rtN t m) (τ0 := τ) hc24 hr (fun τ1 hf d hd => ⟨_, degree_M hm (by rw [hf.1 2 (by decide), ← k2]; exact k5) d hd, by rw [hf.1 1 (by decide), ← k1, k3, rt_arith t ht _ (dg_ok m hm d hd).1]; rfl⟩) hGx (fun τ1 hf s r k hs hr hk => by
    obtain ⟨v, v1, v2, v3, v4⟩ := hst s hs
    rw [v2]
    exact M_fit2 (by rw [hf.1 3 (by decide)]; exact hc) (by omega) v1 hr hk (s3 s hs).2.1.2 (by omega) (by rw [hf.1 7 (by decide)]; exact v4) (by rw [hf.1 8 (by decide)]; exact (s3 s hs).2.1.1.symm)) h24 70 10 8000 τ rfl (by omega) (by omega) fr.rf (fun c' s' h1 h2 h3 h4 => by omega)
  refine ⟨σ', τ', _, _, a1, b1, a2, b2, sy_O hr, fun s y hs hy h => sy_V hr hGx hs hy h, fun s y hs hy => ?_, fun s y hs hy => ?_⟩
  · have h := a3 (70 * s + y) (by omega)
    rw [show (70 * s + y) / 70 = s by omega, show (70 * s + y) % 70 = y by omega] at h
    exact h
  · obtain ⟨z1, z2, z3⟩ := yc_it y hy
    have h := b3 (itM (26 + y) - 100) s z2 z3 hs (by omega)
    rw [z1] at h
    exact h

/-! the walk of a tree: its items, its stack, its order -/
abbrev IT : Type := Nat × Nat × Nat × Nat
abbrev kK (T : TT) (e : IT) : Nat := ((T e.1 e.2.1 e.2.2.1).2.getD e.2.2.2 e0).2
def kid (L : List rl) (T : TT) (e : IT) : List IT :=
  if e.1 < 26 then (if (L.getD (kK T e / 32768) z0).2.2.1 = 96 then [((L.getD (kK T e / 32768) z0).2.1, e.2.1, e.2.2.1, kK T e / 32 % 32)] else [((L.getD (kK T e / 32768) z0).2.1, e.2.1, e.2.1 + kK T e / 1024 % 32 - 1, kK T e / 32 % 32), ((L.getD (kK T e / 32768) z0).2.2.1, e.2.1 + kK T e / 1024 % 32, e.2.2.1, kK T e % 32)]) else []
def okIt (n : Nat) (sC : SS) (T : TT) (e : IT) : Prop := e.1 < 96 ∧ e.2.1 ≤ e.2.2.1 ∧ e.2.2.1 < n ∧ e.2.2.2 < szA sC T e.1 e.2.1 e.2.2.1
def cov (n : Nat) : List IT → Nat → Prop
  | [], i => i = n
  | e :: s, i => e.2.1 = i ∧ i ≤ e.2.2.1 ∧ cov n s (e.2.2.1 + 1)
theorem cov_len {n : Nat} : ∀ {s : List IT} {i : Nat}, cov n s i → s.length + i ≤ n
  | [], i, h => by have h : i = n := h; show 0 + i ≤ n; omega
  | e :: s, i, h => by
    have := cov_len h.2.2
    have := h.2.1
    show s.length + 1 + i ≤ n
    omega
def wt (rk : Nat → Nat) : List IT → Nat
  | [] => 0
  | e :: s => 53 * (e.2.2.1 - e.2.1) + (if e.1 < 26 then rk e.1 + 2 else 1) + wt rk s
def wk (L : List rl) (T : TT) : Nat → List IT → List IT
  | 0, _ => []
  | _ + 1, [] => []
  | f + 1, e :: s => e :: wk L T f (kid L T e ++ s)
theorem wk_len {L : List rl} {T : TT} : ∀ (f : Nat) (s : List IT), (wk L T f s).length ≤ f
  | 0, _ => Nat.le_refl _
  | _ + 1, [] => Nat.zero_le _
  | f + 1, e :: s => Nat.succ_le_succ (wk_len f _)
/-- what both charts are, without states -/
def chP (n : Nat) (L : List rl) (rk : Nat → Nat) (sC : SS) (T : TT) : Prop := (1 ≤ n ∧ n ≤ 24 ∧ 1 ≤ L.length ∧ gL L rk ∧ symO sC n) ∧ ∀ a i j, a < 26 → i ≤ j → j < n → good L sC T rk a i j (T a i j)
theorem chO.P {n : Nat} {L : List rl} {rk : Nat → Nat} {sC sP : SS} {T : TT} {σ τ : St} (h : chO n L rk sC sP T σ τ) : chP n L rk sC T := ⟨h.1, fun a i j ha hij hj => (h.2.2.2.1 a i j ha hij hj).2.2⟩
theorem szB {n : Nat} {L : List rl} {rk : Nat → Nat} {sC : SS} {T : TT} (h : chP n L rk sC T) {x i j : Nat} (hij : i ≤ j) (hj : j < n) : szA sC T x i j ≤ 30 := by
  unfold szA
  by_cases hx : x < 26
  · rw [if_pos hx]; exact (h.2 x i j hx hij hj).1.1
  · rw [if_neg hx]; split <;> omega
theorem szA_sym {sC : SS} {T : TT} {x i j k : Nat} (hx : ¬ x < 26) (h : k < szA sC T x i j) : i = j ∧ k = 0 ∧ sC i (x - 26) ≠ -1 := by
  unfold szA at h
  rw [if_neg hx] at h
  split at h
  · rename_i z; exact ⟨z.1, by omega, z.2⟩
  · omega
theorem kid_sym {L : List rl} {T : TT} {e : IT} (h : ¬ e.1 < 26) : kid L T e = [] := by unfold kid; rw [if_neg h]
/-- the parts of an item that is a name -/
theorem kid_ok {n : Nat} {L : List rl} {rk : Nat → Nat} {sC : SS} {T : TT} (h : chP n L rk sC T) {e : IT} (ho : okIt n sC T e) (he : e.1 < 26) : ∃ r cut p q, kK T e = keyN r cut p q ∧ r < L.length ∧ cut < 32 ∧ p < 32 ∧ q < 32 ∧ rlA L r = e.1 ∧
    (((L.getD r z0).2.2.1 = 96 ∧ cut = 0 ∧ kid L T e = [((L.getD r z0).2.1, e.2.1, e.2.2.1, p)] ∧ okIt n sC T ((L.getD r z0).2.1, e.2.1, e.2.2.1, p)) ∨
     ((L.getD r z0).2.2.1 ≠ 96 ∧ 1 ≤ cut ∧ e.2.1 + cut ≤ e.2.2.1 ∧ kid L T e = [((L.getD r z0).2.1, e.2.1, e.2.1 + cut - 1, p), ((L.getD r z0).2.2.1, e.2.1 + cut, e.2.2.1, q)] ∧ okIt n sC T ((L.getD r z0).2.1, e.2.1, e.2.1 + cut - 1, p) ∧ okIt n sC T ((L.getD r z0).2.2.1, e.2.1 + cut, e.2.2.1, q))) := by
  obtain ⟨x, i, j, k⟩ := e
  obtain ⟨o1, o2, o3, o4⟩ := ho
  dsimp only at o1 o2 o3 o4 he ⊢
  have hn := h.1.2.1
  have hk : k < (T x i j).2.length := by unfold szA at o4; rw [if_pos he] at o4; exact o4
  obtain ⟨-, r, cut, p, q, hr, hA, hK, hc⟩ := (h.2 x i j he o2 o3).1.2.1 k hk
  have hX := (h.1.2.2.2.1.1.2 r hr).2.1
  have hY := (h.1.2.2.2.1.1.2 r hr).2.2.1
  rcases hc with ⟨c1, c2, c3, c4⟩ | ⟨c1, c2, c3, c4, c5⟩
  · have := szB h (x := (L.getD r z0).2.1) o2 o3
    subst c2 c3
    have hd1 : keyN r 0 p 0 / 32768 = r := by unfold keyN; omega
    have hd2 : keyN r 0 p 0 / 32 % 32 = p := by unfold keyN; omega
    refine ⟨r, 0, p, 0, hK, hr, by omega, by omega, by omega, hA, .inl ⟨c1, rfl, ?_, hX, o2, o3, c4⟩⟩
    unfold kid
    dsimp only
    rw [if_pos he, show kK T (x, i, j, k) = keyN r 0 p 0 from hK, hd1, hd2, if_pos c1]
  · have s1 := szB h (x := (L.getD r z0).2.1) (i := i) (j := i + cut - 1) (by omega) (by omega)
    have s2 := szB h (x := (L.getD r z0).2.2.1) (i := i + cut) (j := j) (by omega) (by omega)
    have hd1 : keyN r cut p q / 32768 = r := by unfold keyN; omega
    have hd2 : keyN r cut p q / 32 % 32 = p := by unfold keyN; omega
    have hd3 : keyN r cut p q / 1024 % 32 = cut := by unfold keyN; omega
    have hd4 : keyN r cut p q % 32 = q := by unfold keyN; omega
    refine ⟨r, cut, p, q, hK, hr, by omega, by omega, by omega, hA, .inr ⟨c1, c2, by omega, ?_, ⟨hX, by dsimp only; omega, by dsimp only; omega, c4⟩, ⟨by dsimp only; omega, by dsimp only; omega, o3, c5⟩⟩⟩
    unfold kid
    dsimp only
    rw [if_pos he, show kK T (x, i, j, k) = keyN r cut p q from hK, hd1, hd2, hd3, hd4, if_neg c1]
theorem kid_step {n : Nat} {L : List rl} {rk : Nat → Nat} {sC : SS} {T : TT} (h : chP n L rk sC T) {e : IT} {s : List IT} {i : Nat} (ho : okIt n sC T e) (hc : cov n (e :: s) i) : (∀ e', e' ∈ kid L T e → okIt n sC T e') ∧ wt rk (kid L T e ++ s) + 1 ≤ wt rk (e :: s) ∧ (e.1 < 26 → cov n (kid L T e ++ s) i) ∧ (¬ e.1 < 26 → kid L T e = [] ∧ e.2.1 = i ∧ e.2.2.1 = i ∧ cov n s (i + 1)) := by
  by_cases he : e.1 < 26
  · obtain ⟨r, cut, p, q, hK, hr, -, -, -, hA, hd⟩ := kid_ok h ho he
    have hrk : ∀ a, a < 26 → rk a < 26 := h.1.2.2.2.1.2.1
    rcases hd with ⟨c1, c2, c3, c4⟩ | ⟨c1, c2, c3, c4, c5, c6⟩
    · refine ⟨fun e' h' => ?_, ?_, fun _ => ?_, fun z => absurd he z⟩
      · rw [c3] at h'; rw [List.mem_singleton.mp h']; exact c4
      · rw [c3]
        show 53 * (e.2.2.1 - e.2.1) + (if (L.getD r z0).2.1 < 26 then rk (L.getD r z0).2.1 + 2 else 1) + wt rk s + 1 ≤ 53 * (e.2.2.1 - e.2.1) + (if e.1 < 26 then rk e.1 + 2 else 1) + wt rk s
        rw [if_pos he]
        by_cases hx : (L.getD r z0).2.1 < 26
        · have := h.1.2.2.2.1.2.2 r hr (by unfold isU; rw [c1, decide_eq_true hx]; rfl)
          have hA' : (L.getD r z0).1 = e.1 := hA
          rw [if_pos hx]; rw [hA'] at this; omega
        · rw [if_neg hx]; omega
      · rw [c3]; exact hc
    · refine ⟨fun e' h' => ?_, ?_, fun _ => ?_, fun z => absurd he z⟩
      · rw [c4] at h'
        rcases List.mem_cons.mp h' with z | z
        · rw [z]; exact c5
        · rw [List.mem_singleton.mp z]; exact c6
      · rw [c4]
        show 53 * (e.2.1 + cut - 1 - e.2.1) + (if (L.getD r z0).2.1 < 26 then rk (L.getD r z0).2.1 + 2 else 1) + (53 * (e.2.2.1 - (e.2.1 + cut)) + (if (L.getD r z0).2.2.1 < 26 then rk (L.getD r z0).2.2.1 + 2 else 1) + wt rk s) + 1 ≤ 53 * (e.2.2.1 - e.2.1) + (if e.1 < 26 then rk e.1 + 2 else 1) + wt rk s
        rw [if_pos he]
        have b1 : (if (L.getD r z0).2.1 < 26 then rk (L.getD r z0).2.1 + 2 else 1) ≤ 27 := by
          split
          · rename_i z; have := hrk _ z; omega
          · omega
        have b2 : (if (L.getD r z0).2.2.1 < 26 then rk (L.getD r z0).2.2.1 + 2 else 1) ≤ 27 := by
          split
          · rename_i z; have := hrk _ z; omega
          · omega
        omega
      · rw [c4]
        exact ⟨hc.1, by have := hc.1; show i ≤ e.2.1 + cut - 1; omega, by show e.2.1 + cut = e.2.1 + cut - 1 + 1; omega, by show e.2.1 + cut - 1 + 1 ≤ e.2.2.1; omega, hc.2.2⟩
  · have hs := szA_sym he ho.2.2.2
    have hk := kid_sym (L := L) (T := T) he
    refine ⟨fun e' h' => (by rw [hk] at h'; cases h'), ?_, fun z => absurd z he, fun _ => ⟨hk, hc.1, by rw [← hs.1]; exact hc.1, by have := hc.2.2; rw [← hs.1, hc.1] at this; exact this⟩⟩
    rw [hk]
    show wt rk s + 1 ≤ 53 * (e.2.2.1 - e.2.1) + (if e.1 < 26 then rk e.1 + 2 else 1) + wt rk s
    rw [if_neg he]; omega
/-! a stack in four rows -/
def stk (f1 f2 f3 f4 : Nat → Int32) (g : Nat → Nat) : List IT → Prop
  | [] => True
  | e :: s => (f1 s.length = nI (g e.1) ∧ f2 s.length = nI e.2.1 ∧ f3 s.length = nI e.2.2.1 ∧ f4 s.length = nI e.2.2.2) ∧ stk f1 f2 f3 f4 g s
theorem stk.of {f1 f2 f3 f4 h1 h2 h3 h4 : Nat → Int32} {g : Nat → Nat} : ∀ {s : List IT}, stk f1 f2 f3 f4 g s → (∀ t, t < s.length → h1 t = f1 t ∧ h2 t = f2 t ∧ h3 t = f3 t ∧ h4 t = f4 t) → stk h1 h2 h3 h4 g s
  | [], _, _ => trivial
  | e :: s, h, q => by
    obtain ⟨q1, q2, q3, q4⟩ := q s.length (Nat.lt_succ_self _)
    exact ⟨by rw [q1, q2, q3, q4]; exact h.1, stk.of h.2 (fun t ht => q t (Nat.lt_succ_of_lt ht))⟩
theorem stk.put {f1 f2 f3 f4 : Nat → Int32} {g : Nat → Nat} {s : List IT} (h : stk f1 f2 f3 f4 g s) (x i j k : Nat) : stk (upd f1 s.length (nI (g x))) (upd f2 s.length (nI i)) (upd f3 s.length (nI j)) (upd f4 s.length (nI k)) g ((x, i, j, k) :: s) := by
  refine ⟨⟨pk_us, pk_us, pk_us, pk_us⟩, h.of fun t ht => ?_⟩
  have : t ≠ s.length := by omega
  exact ⟨pk_un this, pk_un this, pk_un this, pk_un this⟩

/-! the pure side: words on states, guards, small numbers -/
theorem sI_1 (σ : St) (k i : Nat) (x : Int32) (c j : Nat) : (sI σ k i x).1 c j = if c = k then (if j = i then x else σ.1 c j) else σ.1 c j := by
  unfold sI
  by_cases h : c = k
  · simp only [if_pos h]; rfl
  · simp only [if_neg h]
theorem sI_c (σ : St) (k i : Nat) (x : Int32) (c : Nat) : (sI σ k i x).1 c = if c = k then upd (σ.1 c) i x else σ.1 c := rfl
theorem sI_2 (σ : St) (k i : Nat) (x : Int32) : (sI σ k i x).2 = σ.2 := rfl
theorem sJ_1 (σ : St) (k i : Nat) (x : Int64) : (sJ σ k i x).1 = σ.1 := rfl
theorem sJ_c (σ : St) (k i : Nat) (x : Int64) (c : Nat) : (sJ σ k i x).2 c = if c = k then vp_updL (σ.2 c) i x else σ.2 c := rfl
theorem sJ_2 (σ : St) (k i : Nat) (x : Int64) (c j : Nat) : (sJ σ k i x).2 c j = if c = k then (if j = i then x else σ.2 c j) else σ.2 c j := by
  unfold sJ
  by_cases h : c = k
  · simp only [if_pos h]; rfl
  · simp only [if_neg h]
theorem sC_c (σ : St) (k : Nat) (f : Nat → Int32) (c : Nat) : (sC σ k f).1 c = if c = k then f else σ.1 c := rfl
theorem sC_2 (σ : St) (k : Nat) (f : Nat → Int32) : (sC σ k f).2 = σ.2 := rfl
/-- nothing but these parts has changed -/
def fr (S : List Nat) (σ σ' : St) : Prop := (∀ c, c ∉ S → σ'.1 c = σ.1 c) ∧ ∀ c, c ∉ S → σ'.2 c = σ.2 c
theorem fr.rf {S : List Nat} {σ : St} : fr S σ σ := ⟨fun _ _ => rfl, fun _ _ => rfl⟩
theorem fr.tr {S : List Nat} {σ σ1 σ2 : St} (h : fr S σ σ1) (g : fr S σ1 σ2) : fr S σ σ2 := ⟨fun c hc => (g.1 c hc).trans (h.1 c hc), fun c hc => (g.2 c hc).trans (h.2 c hc)⟩
theorem fr.wk {S S' : List Nat} {σ σ1 : St} (h : fr S σ σ1) (hs : ∀ c, c ∈ S → c ∈ S') : fr S' σ σ1 := ⟨fun c hc => h.1 c (fun z => hc (hs c z)), fun c hc => h.2 c (fun z => hc (hs c z))⟩
theorem fr.sI {S : List Nat} {σ : St} {k i : Nat} {x : Int32} (h : k ∈ S) : fr S σ (sI σ k i x) := ⟨fun c hc => by rw [sI_c, if_neg (fun e => hc (by rw [e]; exact h))], fun _ _ => rfl⟩
theorem fr.sJ {S : List Nat} {σ : St} {k i : Nat} {x : Int64} (h : k ∈ S) : fr S σ (sJ σ k i x) := ⟨fun _ _ => rfl, fun c hc => by rw [sJ_c, if_neg (fun e => hc (by rw [e]; exact h))]⟩
theorem fr.sC {S : List Nat} {σ : St} {k : Nat} {f : Nat → Int32} (h : k ∈ S) : fr S σ (sC σ k f) := ⟨fun c hc => by rw [sC_c, if_neg (fun e => hc (by rw [e]; exact h))], fun _ _ => rfl⟩
theorem gd_in {α : Type} {i : Int32} {n : Nat} {x : Option α} (h : vp_in i n) : gd i n x = x := if_neg h
theorem gd_nI {α : Type} {j N : Nat} {x : Option α} (h : j < N) (hN : N < 2 ^ 31) : gd (nI j) N x = x := if_neg (nI_in h hN)
theorem lt_is {α β : Type} (e : α) (f : α → β) : lt e f = f e := rfl
theorem bp_some {α β : Type} (a : α) (f : α → Option β) : bp (some a) f = f a := rfl
theorem bd_some {α β : Type} (a : α) (σ : St) (f : α → St → Option β) : bd (some (a, σ)) f = f a σ := rfl
theorem gb_01 {α : Type} {v : Int32} {x : Option α} (h : v = 0 ∨ v = 1) : gb v x = x := if_pos h
theorem ix_of {x : Int32} {n : Nat} (h0 : ¬ x < 0) (h1 : x.toInt < n) (hn : n < 2 ^ 31) : ∃ j, j < n ∧ x = nI j := by
  obtain ⟨j, hj, rfl⟩ := nI_of h0
  rw [nI_toInt hj] at h1
  exact ⟨j, by omega, rfl⟩
theorem nge (b : Nat) {a : Nat} (h : a < b) (hb : b < 2 ^ 31) : ¬ nI b ≤ nI a := nI_ge h hb
theorem nle (b : Nat) {a : Nat} (h : b ≤ a) (hb : a < 2 ^ 31) : nI b ≤ nI a := nI_le h hb
theorem nlt (b : Nat) {a : Nat} (h : b < a) (hb : a < 2 ^ 31) : nI b < nI a := nI_lt h hb
theorem nnlt (b : Nat) {a : Nat} (h : a ≤ b) (hb : b < 2 ^ 31) : ¬ nI b < nI a := nI_nlt h hb
theorem neq (b : Nat) {a : Nat} (h : ¬ a = b) (ha : a < 2 ^ 31) (hb : b < 2 ^ 31) : ¬ nI a = nI b := fun z => h ((nI_eq ha hb).mp z)

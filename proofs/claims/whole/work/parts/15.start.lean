def tabC (k : Nat) : Nat := (([(1000, 0), (1001, 1), (1002, 2), (1003, 4), (1004, 8), (1005, 10), (1006, 16), (1009, 17), (1007, 25), (1010, 26), (1011, 32), (1008, 39), (32, 3), (48, 5), (49, 6), (50, 7), (64, 9), (80, 11), (144, 18), (160, 27), (81, 12), (145, 19), (161, 28), (82, 13), (146, 20), (162, 29), (83, 14), (147, 21), (163, 30), (84, 15), (148, 22), (164, 31), (97, 23), (98, 24), (176, 33), (177, 34), (114, 35), (115, 36), (116, 37), (117, 38), (130, 40), (131, 41), (132, 42), (133, 43), (134, 44), (135, 45), (136, 46), (137, 47), (138, 48), (139, 49)] : List (Nat × Nat)).lookup k).getD 0
def tabM (k : Nat) : Nat := (([(1000, 0), (3, 1), (4, 2), (7, 3), (8, 4), (9, 5), (11, 6), (12, 7), (13, 8), (14, 9), (16, 10), (17, 11), (18, 12), (19, 13), (20, 14), (23, 15), (26, 16), (27, 17), (28, 18), (29, 19), (30, 20), (31, 21), (32, 22), (33, 23), (34, 24), (35, 25), (36, 26), (37, 27), (39, 28), (40, 29), (41, 30), (42, 31)] : List (Nat × Nat)).lookup k).getD 0
def adC (u z : Nat → Nat) (k : Nat) : Nat := if 2000 ≤ k then z (k - 2000) else u (tabC k)
def adM (u : Nat → Nat) (k : Nat) : Nat := u (tabM k)
abbrev cost0 : Nat → Int32 := upd (upd (upd (upd (fun _ => 0) 0 (4 : Int32)) 1 (3 : Int32)) 2 (1 : Int32)) 3 (5 : Int32)
/-- a new object's fields: the class, the reference -/
def σC0 : St := (fun i => if i = 32 then cost0 else if i = 128 then (fun _ => -1) else (fun _ => 0), fun _ _ => 0)
def σM0 : St := (fun i => if i = 3 then cost0 else (fun _ => 0), fun _ _ => 0)
theorem D_app {A : Nat → Prop} {w1 w2 : va_W} (h : va_D A (w1 ++ w2)) : va_D A w1 ∧ va_D A w2 ∧ apL w1 w2 := by
  have l1 : ∀ (i : Nat) (p : Nat × va_E), w1[i]? = some p → (w1 ++ w2)[i]? = some p := fun i p hp => by
    rw [List.getElem?_append_left (List.getElem?_eq_some_iff.mp hp).1]; exact hp
  have l2 : ∀ (i : Nat) (p : Nat × va_E), w2[i]? = some p → (w1 ++ w2)[w1.length + i]? = some p := fun i p hp => by
    rw [List.getElem?_append_right (Nat.le_add_right _ _), Nat.add_sub_cancel_left]; exact hp
  refine ⟨⟨fun i j p q hp hq e => h.1 i j p q (l1 i p hp) (l1 j q hq) e, fun k q hq => h.2 k q (l1 k q hq)⟩, ⟨fun i j p q hp hq e => ?_, fun k q hq => h.2 _ q (l2 k q hq)⟩, fun i j p q hp hq e => ?_⟩
  · have := h.1 _ _ p q (l2 i p hp) (l2 j q hq) e
    omega
  · have h1 := h.1 _ _ p q (l1 i p hp) (l2 j q hq) e
    have h2 := (List.getElem?_eq_some_iff.mp hp).1
    omega
theorem P_app {D : va_G} {cl : List vw_C} {w1 w2 : va_W} {H : Heap} (h : va_P D cl (w1 ++ w2) H) : va_P D cl w1 H ∧ va_P D cl w2 H := by
  refine ⟨fun i p hp => h i p ?_, fun i p hp => h (w1.length + i) p ?_⟩
  · rw [List.getElem?_append_left (List.getElem?_eq_some_iff.mp hp).1]; exact hp
  · rw [List.getElem?_append_right (Nat.le_add_right _ _), Nat.add_sub_cancel_left]; exact hp
theorem apL_app {w1 w2 w3 : va_W} (h : apL w1 (w2 ++ w3)) : apL w1 w2 ∧ apL w1 w3 := by
  refine ⟨fun i j p q hp hq e => h i j p q hp ?_ e, fun i j p q hp hq e => h i (w2.length + j) p q hp ?_ e⟩
  · rw [List.getElem?_append_left (List.getElem?_eq_some_iff.mp hq).1]; exact hq
  · rw [List.getElem?_append_right (Nat.le_add_right _ _), Nat.add_sub_cancel_left]; exact hq
theorem apL_of {w1 w1' w2 : va_W} (is : List Nat) (hs : is.map (fun i => w1[i]?) = w1'.map some) (h : apL w1 w2) : apL w1' w2 := by
  intro k j p q hp hq e
  have h1 : (is.map (fun i => w1[i]?))[k]? = some (some p) := by rw [hs, List.getElem?_map, hp]; rfl
  rw [List.getElem?_map] at h1
  cases hi : is[k]? with
  | none => rw [hi] at h1; cases h1
  | some i => rw [hi] at h1; exact h i j p q (Option.some.inj h1) hq e
theorem vk_S_congr {N : Nat} {len : List Nat} {byt : List (List Int32)} {adK adV adK' adV' : Nat → Nat} {A : Nat → Prop} {U : State} {H : Heap} (h : vk_S N len byt adK adV A U H) (e : ∀ i : Nat, i < N → adK' i = adK i ∧ adV' i = adV i) : vk_S N len byt adK' adV' A U H := by
  refine ⟨fun i hi => ?_, fun i j hi hj q => ?_⟩
  · rw [(e i hi).1, (e i hi).2]
    exact h.1 i hi
  · rw [(e i hi).1, (e j hj).1] at q
    exact h.2 i j hi hj q
theorem tyOf {args : Array Value} {s : State} {ty : FieldType} (h : (Cond.arrayClass ty).before args s = true) : ∃ c, ArrOfT s c ty ∧ s.vm.findClass ("[" ++ ty.toString) = some c := by
  obtain ⟨c, k, comp, h1, h2, h3⟩ := Cond.arrayClass_spec h
  exact ⟨c, fun n z => ⟨fun k h => (by cases h), k, h2, comp, h3⟩, h1⟩
abbrev tmS (i : Nat) : Term := if i = 0 then .string "ChordGrammars$Reader" 91 else .string "ChordGrammars" 186
abbrev fl1 : List Cond := flatC (Jvm.Cond.and given_1 narrow_1)
set_option maxRecDepth 100000 in
theorem n_KS : ∀ j : Nat, j < 9 → Cond.eq (.elem (.static "ChordGrammars" "KIND_SETS" "[I") (.int (Int32.ofNat j))) (.int (tKS j)) ∈ fl1 := by decide +kernel
set_option maxRecDepth 100000 in
theorem n_Maj : ∀ j : Nat, j < 7 → Cond.eq (.elem (.static "ChordGrammars" "MAJOR" "[I") (.int (Int32.ofNat j))) (.int (tMaj j)) ∈ fl1 := by decide +kernel
set_option maxRecDepth 100000 in
theorem n_Min : ∀ j : Nat, j < 7 → Cond.eq (.elem (.static "ChordGrammars" "MINOR" "[I") (.int (Int32.ofNat j))) (.int (tMin j)) ∈ fl1 := by decide +kernel
set_option maxRecDepth 100000 in
theorem n_St : ∀ i : Nat, i < 2 → ∀ j : Nat, j < lenS.getD i 0 → Cond.eq (.elem (.field (tmS i) "java/lang/String" "value" "[B") (.int (Int32.ofNat j))) (.int ((bytS.getD i []).getD j 0)) ∈ fl1 := by decide +kernel
set_option maxRecDepth 100000 in
theorem n_Sx : ∀ i : Nat, i < 2 → Cond.exactly (tmS i) "java/lang/String" ∈ fl1 ∧ Cond.eq (.field (tmS i) "java/lang/String" "coder" "B") (.int 0) ∈ fl1 ∧ Cond.arrayOf (.field (tmS i) "java/lang/String" "value" "[B") .byte ∈ fl1 ∧ Cond.eq (.length (.field (tmS i) "java/lang/String" "value" "[B")) (.int (Int32.ofNat (lenS.getD i 0))) ∈ fl1 := by decide +kernel
theorem tw {i : Nat} {w : Cond} (h : tables_1[i]? = some w) : w ∈ lw_tbl := List.mem_append_right _ (List.mem_of_getElem? h)
theorem st_D {args : Array Value} {s : State} (hA9 : ∀ w ∈ wA, w.before args s = true) : ∃ D : va_G, ∀ (c : Nat) (q : vw_C), vwCl[c]? = some q → u_Kn s q.1 q.2.1 q.2.2 (D.1 c) (D.2 c) := by
  obtain ⟨c0, i0, h0⟩ := u_known (C := RJx00060) (T := TJx00060) (N := 6) (n := 6) hA9 iwJx00060 (hA9 _ k_714)
  obtain ⟨c1, i1, h1⟩ := u_known (C := RX0) (T := TX0) (N := 7) (n := 7) hA9 iwX0 (hA9 _ k_165)
  obtain ⟨c2, i2, h2⟩ := u_known (C := RX1) (T := TX1) (N := 2) (n := 2) hA9 iwX1 (hA9 _ k_85)
  obtain ⟨c3, i3, h3⟩ := u_known (C := RX2) (T := TX2) (N := 6) (n := 6) hA9 iwX2 (hA9 _ k_101)
  obtain ⟨c4, i4, h4⟩ := u_known (C := RX3) (T := TX3) (N := 2) (n := 2) hA9 iwX3 (hA9 _ k_34)
  obtain ⟨c5, i5, h5⟩ := u_known (C := RX4) (T := TX4) (N := 4) (n := 4) hA9 iwX4 (hA9 _ k_143)
  obtain ⟨c6, i6, h6⟩ := u_known (C := RX5) (T := TX5) (N := 4) (n := 4) hA9 iwX5 (hA9 _ k_58)
  obtain ⟨c7, i7, h7⟩ := u_known (C := RX6) (T := TX6) (N := 2) (n := 2) hA9 iwX6 (hA9 _ k_173)
  obtain ⟨c8, i8, h8⟩ := u_known (C := RX7) (T := TX7) (N := 1) (n := 1) hA9 iwX7 (hA9 _ k_47)
  obtain ⟨c9, i9, h9⟩ := u_known (C := RX8) (T := TX8) (N := 13) (n := 13) hA9 iwX8 (hA9 _ k_215)
  obtain ⟨c10, i10, h10⟩ := u_known (C := RX9) (T := TX9) (N := 8) (n := 8) hA9 iwX9 (hA9 _ k_26)
  obtain ⟨c11, i11, h11⟩ := u_known (C := RX10) (T := TX10) (N := 48) (n := 48) hA9 iwX10 (hA9 _ k_785)
  refine ⟨(fun k => if k = 0 then c0 else if k = 1 then c1 else if k = 2 then c2 else if k = 3 then c3 else if k = 4 then c4 else if k = 5 then c5 else if k = 6 then c6 else if k = 7 then c7 else if k = 8 then c8 else if k = 9 then c9 else if k = 10 then c10 else c11, fun k => if k = 0 then i0 else if k = 1 then i1 else if k = 2 then i2 else if k = 3 then i3 else if k = 4 then i4 else if k = 5 then i5 else if k = 6 then i6 else if k = 7 then i7 else if k = 8 then i8 else if k = 9 then i9 else if k = 10 then i10 else i11), ?_⟩
  intro k q hq
  match k, hq with
  | 0, hq => cases hq; exact h0
  | 1, hq => cases hq; exact h1
  | 2, hq => cases hq; exact h2
  | 3, hq => cases hq; exact h3
  | 4, hq => cases hq; exact h4
  | 5, hq => cases hq; exact h5
  | 6, hq => cases hq; exact h6
  | 7, hq => cases hq; exact h7
  | 8, hq => cases hq; exact h8
  | 9, hq => cases hq; exact h9
  | 10, hq => cases hq; exact h10
  | 11, hq => cases hq; exact h11
  | k + 12, hq => simp [vwCl] at hq
set_option maxHeartbeats 4000000 in
set_option maxRecDepth 100000 in
theorem st_ok {s : State} {b : Nat} (hts : ∀ w ∈ lw_tbl, w.before #[Value.ref b] s = true) (hgv : (Jvm.Cond.and given_1 narrow_1).before #[Value.ref b] s = true) : ∃ (D : va_G) (T : Nat → ClassId) (z : Nat → Nat), ∀ u : Nat → Nat, okC (D, T, adC u z) (fun q : Nat => s.heap.size ≤ q) s := by
  have hA9 : ∀ w ∈ wA, w.before #[Value.ref b] s = true := wA_hts hts
  have hA : ∀ a : Nat, a < s.heap.size → ¬ (fun q : Nat => s.heap.size ≤ q) a := fun a h => Nat.not_le.mpr h
  have fl := flat_of_before _ hgv
  obtain ⟨D, hD⟩ := st_D hA9
  obtain ⟨t0, a0, b0⟩ := tyOf (hA9 _ k_99)
  obtain ⟨t1, a1, b1⟩ := tyOf (hA9 _ k_56)
  obtain ⟨t2, a2, b2⟩ := tyOf (hA9 _ k_213)
  obtain ⟨t3, a3, b3⟩ := tyOf (hA9 _ k_936)
  obtain ⟨zK, eK, vK⟩ := va_Tof (args := #[Value.ref b]) (s := s) (tm := .static "ChordGrammars" "KIND_SETS" "[I") (ty := .int) (N := 9) (f := fun j => .int (tKS j)) (A := fun q : Nat => s.heap.size ≤ q) (by decide) (fl _ (by decide +kernel)) (va_eqt (fl _ (by decide +kernel))) (fun j hj => va_eqt (fl _ (n_KS j hj))) hA
  obtain ⟨zM, eM, vM⟩ := va_Tof (args := #[Value.ref b]) (s := s) (tm := .static "ChordGrammars" "MAJOR" "[I") (ty := .int) (N := 7) (f := fun j => .int (tMaj j)) (A := fun q : Nat => s.heap.size ≤ q) (by decide) (fl _ (by decide +kernel)) (va_eqt (fl _ (by decide +kernel))) (fun j hj => va_eqt (fl _ (n_Maj j hj))) hA
  obtain ⟨zN, eN, vN⟩ := va_Tof (args := #[Value.ref b]) (s := s) (tm := .static "ChordGrammars" "MINOR" "[I") (ty := .int) (N := 7) (f := fun j => .int (tMin j)) (A := fun q : Nat => s.heap.size ≤ q) (by decide) (fl _ (by decide +kernel)) (va_eqt (fl _ (by decide +kernel))) (fun j hj => va_eqt (fl _ (n_Min j hj))) hA
  obtain ⟨adK, adV, vS, eS⟩ := vk_Sof (args := #[Value.ref b]) (s := s) (N := 2) (tm := tmS) (len := lenS) (byt := bytS) (A := fun q : Nat => s.heap.size ≤ q) (by decide) (fun i hi => fl _ (n_Sx i hi).1) (fun i hi => fl _ (n_Sx i hi).2.1) (fun i hi => fl _ (n_Sx i hi).2.2.1) (fun i hi => fl _ (n_Sx i hi).2.2.2) (fun i hi j hj => fl _ (n_St i hi j hj)) (fun i j hi hj hij => by
    rcases (show (i = 0 ∧ j = 1) ∨ (i = 1 ∧ j = 0) by omega) with ⟨rfl, rfl⟩ | ⟨rfl, rfl⟩
    · exact Or.inl (fl (Cond.not (Cond.eq (tmS 0) (tmS 1))) (by decide +kernel))
    · exact Or.inr (fl (Cond.not (Cond.eq (tmS 0) (tmS 1))) (by decide +kernel))) hA
  refine ⟨D, fun k => if k = 0 then t0 else if k = 1 then t1 else if k = 2 then t2 else t3, fun k => if k = 0 then zK else if k = 1 then zM else if k = 2 then zN else if k = 10 then adK 0 else if k = 11 then adV 0 else if k = 12 then adK 1 else adV 1, fun u => ?_⟩
  refine ⟨⟨hD, fun k q hq => ?_⟩, fun w hw => ?_, ⟨va_Zof (hts _ (tw (i := 505) (by decide +kernel))) (hA9 _ k_1) eK hA, vK⟩, ⟨va_Zof (hts _ (tw (i := 542) (by decide +kernel))) (hA9 _ k_1) eM hA, vM⟩, ⟨va_Zof (hts _ (tw (i := 540) (by decide +kernel))) (hA9 _ k_1) eN hA, vN⟩, va_Zof (hts _ (tw (i := 364) (by decide +kernel))) (hA9 _ k_12) (va_eqt (fl _ (by decide +kernel))) hA, ?_, vk_R.of (hts _ (tw (i := 350) (by decide +kernel))) (eS 0 (by decide)), vk_R.of (hts _ (tw (i := 754) (by decide +kernel))) (eS 1 (by decide)), exS.of (hts _ (tw (i := 742) (by decide +kernel))) (fl _ (by decide +kernel)) hA, exS.of (hts _ (tw (i := 744) (by decide +kernel))) (fl _ (by decide +kernel)) hA⟩
  · match k, hq with
    | 0, hq => cases hq; exact ⟨a0, b0⟩
    | 1, hq => cases hq; exact ⟨a1, b1⟩
    | 2, hq => cases hq; exact ⟨a2, b2⟩
    | 3, hq => cases hq; exact ⟨a3, b3⟩
    | k + 4, hq => simp [tyE] at hq
  · have h1 := List.mem_filter.mp hw
    have h2 := hts w (List.mem_append_right _ h1.1)
    have h3 := h1.2
    cases w with
    | fieldLinkNest a i b n d h => exact va_Nw.of rfl h2
    | methodLinkNest a i x h => exact va_Nw.of rfl h2
    | declares x => exact va_Nw.of rfl h2
    | castable a b => exact va_Nw.of rfl h2
    | _ => cases h3
  · refine vk_S_congr vS (fun i hi => ?_)
    rcases (show i = 0 ∨ i = 1 by omega) with rfl | rfl
    · exact ⟨rfl, rfl⟩
    · exact ⟨rfl, rfl⟩

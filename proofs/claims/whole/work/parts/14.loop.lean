/-! the law's loop, whole -/
theorem law_hcell {p : Program} {l : Launch} {e : Env} {s : State} {m : MethodId} {below : List Frame} {meth : Method} {c : Code} {E1 E2 : Ev} {oa b L : Nat} {xs : Nat → Int32} (hfl : l.flags = Jvm.pinnedFlags ++ [Jvm.noTraceFlag]) (C0 : lw_At p s m meth c b L xs) (okc : okC E1 (fun q : Nat => s.heap.size ≤ q) s) :
    ∀ (σ τ : St) (f : Nat → Int64) (y1 y2 y3 : Int32) (H : Heap) (locs : List Loc) (ls : Array Slot) (cells slots : Nat), wsL E1 E2 oa σ τ f (fun q : Nat => s.heap.size ≤ q) s H locs → ls.size = 8 → cells + 1 ≤ room_1.cells → slots + 6 ≤ room_1.slots → (¬ cTh σ y1 y2 y3 → ∃ v, C_Chart_countOf σ y3 y1 y2 = some v) → (∀ (H1 : Heap) (locs1 : List Loc) (f1 : Nat → Int64) (k : Int32), wsL E1 E2 oa σ τ f1 (fun q : Nat => s.heap.size ≤ q) s H1 locs1 → (cTh σ y1 y2 y3 → k = 1) → (¬ cTh σ y1 y2 y3 → k = 0 ∧ C_Chart_countOf σ y3 y1 y2 = some (f1 0)) → W p l e room_1 s m #[Value.ref b] below meth c H1 locs1 (cells + 1) (slots + 6) (lw_Z below #[Value.ref b] s) (F0 m 680 ls [.int k])) → W p l e room_1 s m #[Value.ref b] below meth c H locs cells slots (lw_Z below #[Value.ref b] s) (F0 m 677 ls [.ref oa, .int y3, .int y2, .int y1, .ref (E1.2.2 1000)]) := by
  obtain ⟨hx, hb, hr, hml, hown, hts, hX, hbl, hlocks, hgv⟩ := C0
  have hA9 : ∀ w ∈ wA, w.before #[Value.ref b] s = true := wA_hts hts
  have hA : ∀ q : Nat, s.heap.size ≤ q → (fun q : Nat => s.heap.size ≤ q) q := fun _ h => h
  intro σ τ f y1 y2 y3 H locs ls cells slots hw hls hc hs hv kk
  have hoa : s.heap.size ≤ oa := hw.2.2.1.2.2 0 _ rfl
  have hsub : ∀ q, ALc E1 oa H.size σ q → s.heap.size ≤ q := fun q h => by
    rcases h with h | h
    · exact frC hw.1 hA q h
    · rw [h]; exact hoa
  refine va_calli (va_runSW (hh := [(0, 11, 14, 13)]) (own := RL) (index := 93) (nL := 8) (As := [.ref (E1.2.2 1000), .int y1, .int y2, .int y3, .ref oa]) (rest := []) hx hb hml hown (mL_cell l hfl E1 oa H.size σ f y1 y2 y3 hv) PcL_blind rfl rfl (Nat.le_of_ble_eq_true rfl) (Nat.le_of_ble_eq_true rfl) (pay_in hA9 gdL) List.mem_cons_self (hA9 _ k_705) (hA9 _ k_706) (hA9 _ k_0) (hA9 _ k_707) (by decide) (sigLen (n := 5) (by decide +kernel) rfl)
    (fun U hU hW => ⟨rfl, by rw [hU], by rw [hU]; exact hw.1.1, by rw [hU]; exact hw.2.2.1.1, hw.1.2.1.weaken (fun _ _ _ _ => trivial), hw.2.2.2.2.1, okC_to hW (fun q h1 h2 => by rw [hU]; exact hw.1.2.2.2.1 q h1 h2) hsub okc⟩) rfl hls rfl (lv_room (Nat.le_of_ble_eq_true rfl)) dL_law_677 ⟨hc, hs⟩) hw.1.2.2 (fun q _ h => hsub q h) (fun q h => hsub q h) (fun r u t H1 locs1 ht hvm hpost hB hz hk hS => kk H1 locs1 u r ?_ hpost.1 hpost.2)
  rw [ht] at hB
  refine ⟨⟨hB.1, hw.1.2.1, hS⟩, ⟨hw.2.1.1.kept (fun k q hq => hk q.1 (hw.2.1.1 k q hq).lt ?_), hw.2.1.2.1, hS⟩, ⟨hB.2, ouL_D u hoa⟩, hw.2.2.2.1, apL_ou hw.2.2.2.2.1, apL_ou hw.2.2.2.2.2⟩
  rintro ((⟨k2, e2, h⟩ | h) | h)
  · exact hw.2.2.2.1 k2 k _ q h hq rfl
  · exact absurd (hw.2.1.1 k q hq).lt (Nat.not_lt.mpr h)
  · exact hw.2.2.2.2.2 k 0 q _ hq rfl h
theorem law_loop {p : Program} {l : Launch} {e : Env} {s : State} {m : MethodId} {below : List Frame} {meth : Method} {c : Code} {E1 E2 : Ev} {oa b L : Nat} {xs : Nat → Int32} {Sim : St → St → Prop} (hfl : l.flags = Jvm.pinnedFlags ++ [Jvm.noTraceFlag]) (hL : L ≤ 2048) (C0 : lw_At p s m meth c b L xs) (hsim : SimOk Sim) (okc : okC E1 (fun q : Nat => s.heap.size ≤ q) s) (okm : okM E2 (fun q : Nat => s.heap.size ≤ q) s) :
    ∀ (n k : Nat), 4 * k ≤ L + 3 → L + 4 ≤ 4 * (k + n) → ∀ (x4 : Int32), x4 = nI (4 * k) → ∀ (σ τ : St) (f : Nat → Int64), Sim σ τ → ∀ (H : Heap) (locs : List Loc), wsL E1 E2 oa σ τ f (fun q : Nat => s.heap.size ≤ q) s H locs → ∀ (ls : Array Slot), lv_has ls 8 [(0, .ref b), (1, .ref (E1.2.2 1000)), (2, .ref (E2.2.2 1000)), (3, .ref oa), (4, .int x4)] → W p l e room_1 s m #[Value.ref b] below meth c H locs (83 + k) (750167 + 6 * k) (lw_Z below #[Value.ref b] s) (F0 m 23 ls []) :=
  law_loop_open hL C0 hsim okc okm (law_hcell hfl C0 okc)

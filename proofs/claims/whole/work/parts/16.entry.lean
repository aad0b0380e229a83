set_option maxHeartbeats 16000000 in
set_option maxRecDepth 100000 in
/-- THE LAW, from its entry -/
theorem whole_start {p : Program} {e : Env} {s : State} {m : MethodId} {below : List Frame} {meth : Method} {c : Code} {Sim : St → St → Prop} (hsim : SimOk Sim) (hs0 : Sim σC0 σM0) (l : Launch) (hfl : l.flags = Jvm.pinnedFlags ++ [Jvm.noTraceFlag]) {b L : Nat} {xs : Nat → Int32} (hL : L ≤ 2048) (C0 : lw_At p s m meth c b L xs) : W p l e room_1 s m #[Value.ref b] below meth c s.heap [] 0 0 (lw_Z below #[Value.ref b] s) (entryFrame m ([Value.ref b] : List Value).toArray 8) := by
  obtain ⟨hx, hb, hr, hml, hown, hts, hX, hbl, hlocks, hgv⟩ := id C0
  have hA9 : ∀ w ∈ wA, w.before #[Value.ref b] s = true := wA_hts hts
  have hA : ∀ q : Nat, s.heap.size ≤ q → (fun q : Nat => s.heap.size ≤ q) q := fun _ h => h
  obtain ⟨D, T, z, okc⟩ := st_ok hts hgv
  have ok0 := okc (fun _ => 0)
  have okI0 : okI (D, T, adC (fun _ => 0) z) s := ⟨ok0.1, ok0.2.1⟩
  have hS : va_S (fun q : Nat => s.heap.size ≤ q) s.heap s.heap [] := va_S.rf
  have hP : va_P D vwCl [] s.heap := fun k q h => by simp at h
  have hD : va_D (fun q : Nat => s.heap.size ≤ q) [] := ⟨fun i j p q h => by simp at h, fun k q h => by simp at h⟩
  have hl := lv_entry ([.ref b]) (n := 8) (Nat.le_of_ble_eq_true rfl)
  rw [lg_entry_eq]
  generalize (lg_sl ([.ref b]) ++ List.replicate (8 - (lg_sl ([.ref b])).length) Slot.unset).toArray = ls at hl ⊢
  have hl : lv_has ls 8 [(0, .ref b)] := hl
  refine va_new (ci := 10) (fs := [.null, .null, .null, .null, .null, .null, .null, .null]) (C := RX9) (T := TX9) (N := 8) hx hb hA9 iwX9 tyX9 tyX9_ok hown (hA9 _ k_25) (hA9 _ k_26) (hA9 _ k_1) ok0.1 hP hD hS hA rfl (fun j hj => by rcases (show j = 0 ∨ j = 1 ∨ j = 2 ∨ j = 3 ∨ j = 4 ∨ j = 5 ∨ j = 6 ∨ j = 7 by omega) with rfl | rfl | rfl | rfl | rfl | rfl | rfl | rfl <;> rfl) (Nat.le_of_ble_eq_true rfl) (Nat.le_of_ble_eq_true rfl) dL_law_0 (fun q1 H hP hD hS => ?_)
  have hP : va_P D vwCl [(q1, eI_CG)] H := hP
  have hD : va_D (fun q : Nat => s.heap.size ≤ q) [(q1, eI_CG)] := hD
  refine lv_dup hx hb dL_law_3 rfl ?_
  have hFc := va_free (wc := [(q1, eI_CG)]) hD hS hA [0] rfl
  refine va_callv (va_runI (As := []) (rest := [.ref q1]) ⟨hx, hb, hml, hown, hA9⟩ (i_CG l (D, T, adC (fun _ => 0) z) q1 H.size) (cwI 0 hA9 (gdC k_29) rfl rfl rfl (hA9 _ k_1) (hA9 _ k_27) (hA9 _ k_28) rfl (by decide +kernel) ⟨Nat.le_of_ble_eq_true rfl, Nat.le_of_ble_eq_true rfl⟩) ⟨PwI_blind, fun U hU hW => ⟨rfl, by rw [hU], by rw [hU]; exact hP, hD.weaken (fun _ _ _ _ => trivial), okI_to hW okI0⟩⟩ rfl rfl hl.1 rfl (lv_room (Nat.le_of_ble_eq_true rfl)) dL_law_4 ⟨Nat.le_of_ble_eq_true rfl, Nat.le_of_ble_eq_true rfl⟩) hS (fun q _ h => hFc q h) hFc (fun u1 t H1 locs ht hvm hw hB hz1 hk1 hS => ?_)
  obtain ⟨hP1, hD1⟩ := hB
  rw [ht] at hP1
  obtain ⟨hP, hD⟩ := va_join (wr := []) (w1 := celI_CG (D, T, adC (fun _ => 0) z) u1) hP hD [0] [] rfl rfl (by decide) (by decide) hk1 hFc hP1 hD1
  have hw : u1 0 = q1 := hw
  generalize H1 = H at hP hS ⊢
  have hP : va_P D vwCl (celI_CG (D, T, adC (fun _ => 0) z) u1) H := hP
  have hD : va_D (fun q : Nat => s.heap.size ≤ q) (celI_CG (D, T, adC (fun _ => 0) z) u1) := hD
  refine lv_astore_n (lv' := [(1, .ref q1), (0, .ref b)]) hx hb dL_law_7 rfl hl (by decide) rfl (fun ls hl => ?_)
  refine va_new (ci := 11) (fs := [.int 0, .int 0, .int 0, .null, .null, .int 0, .int 0, .null, .null, .null, .int 0, .null, .null, .null, .null, .int 0, .null, .null, .null, .null, .null, .int 0, .int 0, .null, .int 0, .int 0, .null, .null, .null, .null, .null, .null, .null, .null, .null, .null, .null, .null, .int 0, .null, .null, .null, .null, .int 0, .int 0, .int 0, .int 0, .int 0]) (C := RX10) (T := TX10) (N := 48) hx hb hA9 iwX10 tyX10 tyX10_ok hown (hA9 _ k_784) (hA9 _ k_785) (hA9 _ k_11) ok0.1 hP hD hS hA rfl (fun j hj => by rcases (show j = 0 ∨ j = 1 ∨ j = 2 ∨ j = 3 ∨ j = 4 ∨ j = 5 ∨ j = 6 ∨ j = 7 ∨ j = 8 ∨ j = 9 ∨ j = 10 ∨ j = 11 ∨ j = 12 ∨ j = 13 ∨ j = 14 ∨ j = 15 ∨ j = 16 ∨ j = 17 ∨ j = 18 ∨ j = 19 ∨ j = 20 ∨ j = 21 ∨ j = 22 ∨ j = 23 ∨ j = 24 ∨ j = 25 ∨ j = 26 ∨ j = 27 ∨ j = 28 ∨ j = 29 ∨ j = 30 ∨ j = 31 ∨ j = 32 ∨ j = 33 ∨ j = 34 ∨ j = 35 ∨ j = 36 ∨ j = 37 ∨ j = 38 ∨ j = 39 ∨ j = 40 ∨ j = 41 ∨ j = 42 ∨ j = 43 ∨ j = 44 ∨ j = 45 ∨ j = 46 ∨ j = 47 by omega) with rfl | rfl | rfl | rfl | rfl | rfl | rfl | rfl | rfl | rfl | rfl | rfl | rfl | rfl | rfl | rfl | rfl | rfl | rfl | rfl | rfl | rfl | rfl | rfl | rfl | rfl | rfl | rfl | rfl | rfl | rfl | rfl | rfl | rfl | rfl | rfl | rfl | rfl | rfl | rfl | rfl | rfl | rfl | rfl | rfl | rfl | rfl | rfl <;> rfl) (Nat.le_of_ble_eq_true rfl) (Nat.le_of_ble_eq_true rfl) dL_law_8 (fun q2 H hP hD hS => ?_)
  have hP : va_P D vwCl (celI_CG (D, T, adC (fun _ => 0) z) u1 ++ [(q2, eI_Model)]) H := hP
  have hD : va_D (fun q : Nat => s.heap.size ≤ q) (celI_CG (D, T, adC (fun _ => 0) z) u1 ++ [(q2, eI_Model)]) := hD
  refine lv_dup hx hb dL_law_11 rfl ?_
  have hFc := va_free (wc := [(q2, eI_Model)]) hD hS hA [50] rfl
  have hPc := (P_app hP).2
  have hDc := (D_app hD).2.1
  refine va_callv (va_runI (As := []) (rest := [.ref q2]) ⟨hx, hb, hml, hown, hA9⟩ (i_Model l (D, T, adC (fun _ => 0) z) q2 H.size) (cwI 0 hA9 (gdC k_788) rfl rfl rfl (hA9 _ k_11) (hA9 _ k_786) (hA9 _ k_787) rfl (by decide +kernel) ⟨Nat.le_of_ble_eq_true rfl, Nat.le_of_ble_eq_true rfl⟩) ⟨PwI_blind, fun U hU hW => ⟨rfl, by rw [hU], by rw [hU]; exact hPc, hDc.weaken (fun _ _ _ _ => trivial), okI_to hW okI0⟩⟩ rfl rfl hl.1 rfl (lv_room (Nat.le_of_ble_eq_true rfl)) dL_law_12 ⟨Nat.le_of_ble_eq_true rfl, Nat.le_of_ble_eq_true rfl⟩) hS (fun q _ h => hFc q h) hFc (fun u2 t H1 locs ht hvm hw2 hB hz1 hk1 hS => ?_)
  obtain ⟨hP1, hD1⟩ := hB
  rw [ht] at hP1
  obtain ⟨hP, hD⟩ := va_join (wr := celI_CG (D, T, adC (fun _ => 0) z) u1) (w1 := celI_Model (D, T, adC (fun _ => 0) z) u2) hP hD [50] (List.range 50) rfl rfl (by decide) (by decide) hk1 hFc hP1 hD1
  have hw2 : u2 0 = q2 := hw2
  generalize H1 = H at hP hS ⊢
  refine lv_astore_n (lv' := [(2, .ref q2), (1, .ref q1), (0, .ref b)]) hx hb dL_law_15 rfl hl (by decide) rfl (fun ls hl => ?_)
  refine lv_iconst (v := (1 : Int32)) hx hb dL_law_16 (by decide) ?_
  refine nwJ (E := (D, T, adC (fun _ => 0) z)) hx hb (hA9 _ k_213) ok0.1 hP hD hS hA 1 (by decide) (by decide) (by decide) (Nat.le_of_ble_eq_true rfl) (Nat.le_of_ble_eq_true rfl) dL_law_17 (fun oa H hP hD hS => ?_)
  refine lv_astore_n (lv' := [(3, .ref oa), (2, .ref q2), (1, .ref q1), (0, .ref b)]) hx hb dL_law_19 rfl hl (by decide) rfl (fun ls hl => ?_)
  refine lv_iconst (v := (0 : Int32)) hx hb dL_law_20 (by decide) ?_
  refine lv_istore (lv' := [(4, .int 0), (3, .ref oa), (2, .ref q2), (1, .ref q1), (0, .ref b)]) hx hb dL_law_21 hl (by decide) rfl (fun ls hl => ?_)
  obtain ⟨hPab, hPo⟩ := P_app hP
  obtain ⟨hPa, hPb⟩ := P_app hPab
  obtain ⟨hDab, hDo, hapo⟩ := D_app hD
  obtain ⟨hDa, hDb, hap⟩ := D_app hDab
  have hapo2 := apL_app hapo.symm
  have eC : [0, 1, 2, 4, 8, 10, 16, 25, 39, 17, 26, 32, 3, 5, 6, 7, 9, 11, 12, 13, 14, 15, 23, 24, 35, 36, 37, 38, 40, 41, 42, 43, 44, 45, 46, 47, 48, 49, 18, 19, 20, 21, 22, 27, 28, 29, 30, 31, 33, 34].map (fun i => (celI_CG (D, T, adC (fun _ => 0) z) u1)[i]?) = (wldC (D, T, adC u1 z) σC0).map some := rfl
  have eM : (List.range 32).map (fun i => (celI_Model (D, T, adC (fun _ => 0) z) u2)[i]?) = (wldM (D, T, adM u2) σM0).map some := rfl
  have hPC : va_P D vwCl (wldC (D, T, adC u1 z) σC0) H := hPa.sub [0, 1, 2, 4, 8, 10, 16, 25, 39, 17, 26, 32, 3, 5, 6, 7, 9, 11, 12, 13, 14, 15, 23, 24, 35, 36, 37, 38, 40, 41, 42, 43, 44, 45, 46, 47, 48, 49, 18, 19, 20, 21, 22, 27, 28, 29, 30, 31, 33, 34] rfl
  have hPM : va_P D vwCl (wldM (D, T, adM u2) σM0) H := hPb.sub (List.range 32) rfl
  have hDC := hDa.sub (ws' := wldC (D, T, adC u1 z) σC0) [0, 1, 2, 4, 8, 10, 16, 25, 39, 17, 26, 32, 3, 5, 6, 7, 9, 11, 12, 13, 14, 15, 23, 24, 35, 36, 37, 38, 40, 41, 42, 43, 44, 45, 46, 47, 48, 49, 18, 19, 20, 21, 22, 27, 28, 29, 30, 31, 33, 34] (by decide) eC
  have hDM := hDb.sub (ws' := wldM (D, T, adM u2) σM0) (List.range 32) (by decide) eM
  have ap1 : apL (wldC (D, T, adC u1 z) σC0) (wldM (D, T, adM u2) σM0) := (apL_of (List.range 32) eM (apL_of [0, 1, 2, 4, 8, 10, 16, 25, 39, 17, 26, 32, 3, 5, 6, 7, 9, 11, 12, 13, 14, 15, 23, 24, 35, 36, 37, 38, 40, 41, 42, 43, 44, 45, 46, 47, 48, 49, 18, 19, 20, 21, 22, 27, 28, 29, 30, 31, 33, 34] eC hap).symm).symm
  have ap2 : apL (wldC (D, T, adC u1 z) σC0) (ouL (D, T, adC u1 z) oa (fun _ => 0)) := apL_of [0, 1, 2, 4, 8, 10, 16, 25, 39, 17, 26, 32, 3, 5, 6, 7, 9, 11, 12, 13, 14, 15, 23, 24, 35, 36, 37, 38, 40, 41, 42, 43, 44, 45, 46, 47, 48, 49, 18, 19, 20, 21, 22, 27, 28, 29, 30, 31, 33, 34] eC hapo2.1.symm
  have ap3 : apL (wldM (D, T, adM u2) σM0) (ouL (D, T, adC u1 z) oa (fun _ => 0)) := apL_of (List.range 32) eM hapo2.2.symm
  exact law_loop (E1 := (D, T, adC u1 z)) (E2 := (D, T, adM u2)) hfl hL C0 hsim (okc u1) (okc u1).1 (L + 1) 0 (Nat.zero_le _) (by omega) 0 nI_0.symm σC0 σM0 (fun _ => 0) hs0 H _ ⟨⟨hPC, hDC, hS⟩, ⟨hPM, hDM, hS⟩, ⟨hPo, hDo⟩, ap1, ap2, ap3⟩ ls (by
    have h1 : (D, T, adC u1 z).2.2 1000 = q1 := hw
    have h2 : (D, T, adM u2).2.2 1000 = q2 := hw2
    rw [h1, h2]
    exact lv_sub hl [4, 3, 2, 1, 0] rfl)

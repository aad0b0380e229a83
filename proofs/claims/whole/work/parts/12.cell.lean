/-! cell(): the class's method where it answers, and where it throws; the law's own cell(), that catches -/
abbrev aXN : String := "java/lang/ArrayIndexOutOfBoundsException"
abbrev aXs : List String := ["java/lang/IndexOutOfBoundsException", "java/lang/RuntimeException", "java/lang/Exception"]
set_option maxRecDepth 100000 in
theorem owA : ∀ w ∈ (Jvm.Bundle.ownAtoms "ChordGrammars" 188 aXN aXs).filter goodWord, w ∈ wA := wsIn [20, 737, 746, 748, 751, 753, 738, 739, 31, 32, 740, 745, 749, 772, 727, 773, 729, 774, 731, 741, 743, 733, 768, 769, 771, 733, 756, 757, 758, 759, 759, 760, 761, 762, 762, 763, 764, 765, 765, 766, 767, 768, 755, 714, 724, 725, 726, 728, 730, 732, 736, 735, 734] (by decide +kernel) (by decide +kernel)
set_option maxRecDepth 100000 in
theorem owB : (Jvm.Bundle.ownAtoms "ChordGrammars" 188 aXN aXs).filter (fun w => !goodWord w) = [.laysStatic "java/lang/Throwable" "UNASSIGNED_STACK" "[Ljava/lang/StackTraceElement;", .laysStatic "java/lang/Throwable" "SUPPRESSED_SENTINEL" "Ljava/util/List;", .declares ⟨"java/lang/IndexOutOfBoundsException", "<init>", "(Ljava/lang/String;)V"⟩, .declares ⟨"java/lang/RuntimeException", "<init>", "(Ljava/lang/String;)V"⟩, .declares ⟨"java/lang/Exception", "<init>", "(Ljava/lang/String;)V"⟩, .declares ⟨"java/lang/Throwable", "<init>", "(Ljava/lang/String;)V"⟩, .castable aXN aXN, .isRef (.static "java/lang/Throwable" "UNASSIGNED_STACK" "[Ljava/lang/StackTraceElement;"), .isRef (.static "java/lang/Throwable" "SUPPRESSED_SENTINEL" "Ljava/util/List;")] := by decide +kernel
theorem ow_all {E : Ev} {A : Nat → Prop} {s : State} {args : Array Value} (hA9 : ∀ w ∈ wA, w.before args s = true) (ok : okC E A s) : ∀ w ∈ Jvm.Bundle.ownAtoms "ChordGrammars" 188 aXN aXs, w.before args s = true := by
  intro w hw
  by_cases g : goodWord w = true
  · exact hA9 w (owA w (List.mem_filter.mpr ⟨hw, g⟩))
  · have h : w ∈ (Jvm.Bundle.ownAtoms "ChordGrammars" 188 aXN aXs).filter (fun w => !goodWord w) := List.mem_filter.mpr ⟨hw, by simpa using g⟩
    rw [owB] at h
    simp only [List.mem_cons, List.not_mem_nil, or_false] at h
    rcases h with rfl | rfl | rfl | rfl | rfl | rfl | rfl | rfl | rfl
    · exact ok.2.2.2.2.2.2.2.2.2.1.lays
    · exact ok.2.2.2.2.2.2.2.2.2.2.lays
    · exact va_Nw.use rfl (ok.2.1 _ kn_717)
    · exact va_Nw.use rfl (ok.2.1 _ kn_719)
    · exact va_Nw.use rfl (ok.2.1 _ kn_721)
    · exact va_Nw.use rfl (ok.2.1 _ kn_723)
    · exact va_Nw.use rfl (ok.2.1 _ kn_715)
    · exact ok.2.2.2.2.2.2.2.2.2.1.ref
    · exact ok.2.2.2.2.2.2.2.2.2.2.ref
section
variable {p : Program} {l : Launch} {e : Env} {R : Room} {s : State} {m : MethodId} {args : Array Value} {below : List Frame} {meth : Method} {c : Code} {H : Heap} {locs : List Loc} {cells slots : Nat} {Q : State → Prop} {ls : Array Slot} {A : Nat → Prop} {E : Ev} {σ : St}
theorem wk_cell {x1 x2 x3 : Int32} (cx : CxC RX9 p s m args c cX9_cell) (ok : okC E A s) (hw : wsC E σ A s H locs) (hl : lv_has ls 4 [(0, .ref (E.2.2 1000)), (1, .int x1), (2, .int x2), (3, .int x3)])
    (k30 : cTh σ x1 x2 x3 → W p l e R s m args below meth c H locs cells slots Q (F0 m 30 ls [])) (k40 : ¬ cTh σ x1 x2 x3 → W p l e R s m args below meth c H locs cells slots Q (F0 m 40 ls [])) : W p l e R s m args below meth c H locs cells slots Q (F0 m 0 ls []) := by
  have hx := cx.1
  have hb := cx.2.1
  refine lv_iload_n hx hb dX9_cell_0 rfl (lv_at hl 1 rfl) ?_
  refine lv_if_lt (tgt := 30) hx hb dX9_cell_1 (by decide) (fun c1 => k30 (Or.inl c1)) (fun c1 => ?_)
  refine lv_iload_n hx hb dX9_cell_4 rfl (lv_at hl 1 rfl) ?_
  refine lv_iload_n hx hb dX9_cell_5 rfl (lv_at hl 2 rfl) ?_
  refine lv_icmp_gt (tgt := 30) hx hb dX9_cell_6 (by decide) (fun c2 => k30 (Or.inr (Or.inl c2))) (fun c2 => ?_)
  refine lv_iload_n hx hb dX9_cell_9 rfl (lv_at hl 2 rfl) ?_
  refine lv_aload_n hx hb dX9_cell_10 rfl (lv_at hl 0 rfl) ?_
  refine gtC_X9_0_6 cx ok hw dX9_cell_11 ?_
  refine gtC_X9_7_6 cx ok hw dX9_cell_14 ?_
  refine lv_icmp_ge (tgt := 30) hx hb dX9_cell_17 (by decide) (fun c3 => k30 (Or.inr (Or.inr (Or.inl c3)))) (fun c3 => ?_)
  refine lv_iload_n hx hb dX9_cell_20 rfl (lv_at hl 3 rfl) ?_
  refine lv_if_lt (tgt := 30) hx hb dX9_cell_21 (by decide) (fun c4 => k30 (Or.inr (Or.inr (Or.inr (Or.inl c4))))) (fun c4 => ?_)
  refine lv_iload_n hx hb dX9_cell_24 rfl (lv_at hl 3 rfl) ?_
  refine lv_bipush (v := (26 : Int32)) hx hb dX9_cell_25 (by decide) ?_
  refine lv_icmp_lt (tgt := 40) hx hb dX9_cell_27 (by decide) (fun c5 => k40 ?_) (fun c5 => k30 (Or.inr (Or.inr (Or.inr (Or.inr c5)))))
  intro h
  rcases h with h | h | h | h | h
  · exact c1 h
  · exact c2 h
  · exact c3 h
  · exact c4 h
  · exact h c5
end
abbrev rmC_cell : Room := { frames := 3, cells := 0, slots := 0, locals := 68 }
theorem cwC_X9_cell_countOf {R : Room} {s : State} {args : Array Value} {E : Ev} {A : Nat → Prop} (h : ∀ w ∈ wA, w.before args s = true) (ok : okC E A s) (hR : rmC_Chart_countOf.frames + 1 ≤ R.frames ∧ 8 + (4 + 11) + rmC_Chart_countOf.locals ≤ R.locals) : va_CN R s args RX9 191 yX0_countOf "ChordGrammars" cX0_countOf 4 (some .long) (wz yX0_countOf cX0_countOf 4 (some .long)) rmC_Chart_countOf 0 0 3 ∧ (Cond.instanceMethod yX0_countOf).before args s = true ∧ (Cond.selects RX0 yX0_countOf yX0_countOf).before args s = true := ⟨va_cnB 3 h (gdC k_570) rfl rfl rfl (ok.2.1 _ kn_783) (h _ k_8) (by decide +kernel) hR, h _ k_569, h _ ks_29⟩
set_option maxHeartbeats 4000000 in
theorem cC_cell_ok (l : Launch) (E : Ev) (sz : Nat) (σ0 : St) (x1 x2 x3 : Int32) (r : Int64) (ht : ¬ cTh σ0 x1 x2 x3) (hm : C_Chart_countOf σ0 x3 x1 x2 = some r) : Met l yX9_cell (wz yX9_cell cX9_cell 4 (some .long)) rmC_cell (PwC E [.ref (E.2.2 1000), .int x1, .int x2, .int x3] σ0 sz) (QlC E σ0 σ0 sz r) 0 0 (va_A (wldC E σ0) sz) := by
  refine enC (own := RX9) (by decide) rfl (Nat.le_of_ble_eq_true rfl) (fun p e s m args below meth c cx hr hlk hml hsz ok hw ls hl => ?_)
  have hx := cx.1
  have hb := cx.2.1
  have hA9 := cx.2.2.2
  have hA : ∀ q, s.heap.size ≤ q → (va_A (wldC E σ0) sz) q := fun q h => Or.inr (by rw [← hsz]; exact h)
  have hl : lv_has ls 4 [(0, .ref (E.2.2 1000)), (1, .int x1), (2, .int x2), (3, .int x3)] := hl
  refine wk_cell cx ok hw hl (fun h => absurd h ht) (fun _ => ?_)
  refine lv_aload_n hx hb dX9_cell_40 rfl (lv_at hl 0 rfl) ?_
  refine gtC_X9_0_6 cx ok hw dX9_cell_41 ?_
  refine lv_iload_n hx hb dX9_cell_44 rfl (lv_at hl 3 rfl) ?_
  refine lv_iload_n hx hb dX9_cell_45 rfl (lv_at hl 1 rfl) ?_
  refine lv_iload_n hx hb dX9_cell_46 rfl (lv_at hl 2 rfl) ?_
  refine clVN_Cl (As := [.int x3, .int x1, .int x2]) (rest := []) cx hml hl.1 ok hw hA (rcC_7 ok hw) (cC_Chart_countOf l E _ σ0 x3 x1 x2 r hm) (cwC_X9_cell_countOf hA9 ok ⟨Nat.le_of_ble_eq_true rfl, Nat.le_of_ble_eq_true rfl⟩) rfl rfl (Nat.le_of_ble_eq_true rfl) dX9_cell_47 (fun H locs hw => ?_)
  exact rtC_l cx hr hlk hw rfl dX9_cell_50
/-- how a throw of cell() ends -/
def QtC (sz : Nat) : Array Value → State → Outcome → State → Prop := fun _ st o t => o = .threw sz ∧ (∃ ce : Cell, t.heap[sz]? = some ce ∧ st.vm.findClass aXN = some ce.cls ∧ ce.vm = .none) ∧ st.WarmedH t.vm ∧ st.sameButNew ({ t with vm := st.vm } : State) [] 1 6
abbrev rmT : Room := { frames := 7, cells := 1, slots := 6, locals := 100 }
set_option maxHeartbeats 4000000 in
theorem cC_cell_thr (l : Launch) (hfl : l.flags = Jvm.pinnedFlags ++ [Jvm.noTraceFlag]) (E : Ev) (sz : Nat) (σ0 : St) (x1 x2 x3 : Int32) (ht : cTh σ0 x1 x2 x3) : MetFree l yX9_cell (headSpec (wz yX9_cell cX9_cell 4 (some .long)) rmT) (PwC E [.ref (E.2.2 1000), .int x1, .int x2, .int x3] σ0 sz) (fun _ _ _ _ _ => True) (QtC sz) := by
  refine MetFree.of_bodyS (code := cX9_cell) (maxLocals := 4) (ret := some .long) (by decide) ?_ ?_
  · intro args s m h hn
    obtain ⟨meth, c, h1, h2, h3, h4, h5, h6, -, -⟩ := Cond.code_spec hn (atoms_spec (ws := wz yX9_cell cX9_cell 4 (some .long)) h _ List.mem_cons_self)
    exact ⟨meth, c, h1, h2, h3, h4, h5, h6⟩
  · intro p e s m args below meth c s₁ B hml hP _
    have hh0 : s₁.heap = s.heap := by rw [B.state]; rfl
    obtain ⟨rfl, hsz, hPw, hD, ok⟩ := hP
    have hts := atoms_spec (ws := wz yX9_cell cX9_cell 4 (some .long)) B.pre
    have hown : s.vm.findClass RX9 = some m.cls := findClass_of_methodNamed B.named
    have hA9 : ∀ w ∈ wA, w.before _ s = true := fun w hw => hts w (List.mem_cons_of_mem _ hw)
    have cx : CxC RX9 p s m _ c cX9_cell := ⟨B.exec, B.bytes, hown, hA9⟩
    have hw : wsC E σ0 (va_A (wldC E σ0) sz) s s.heap [] := ⟨hPw, hD.self, va_S.rf⟩
    have hlv := lv_entry [.ref (E.2.2 1000), .int x1, .int x2, .int x3] (n := 4) (Nat.le_of_ble_eq_true rfl)
    have hlk : meth.locks = false := B.notSynchronized
    have hcodeV := hts _ List.mem_cons_self
    have htr : e.platform.stackTraces = false := Launch.traces_off hfl B.admits
    have hx := cx.1
    have hb := cx.2.1
    have hW : W p l e rmT s m ([.ref (E.2.2 1000), .int x1, .int x2, .int x3] : List Value).toArray below meth c s.heap [] 0 0 (fun t => ∃ o, t.status = .running ∧ Ended t below o ∧ QtC sz (([.ref (E.2.2 1000), .int x1, .int x2, .int x3] : List Value).toArray) s o t) (entryFrame m ([.ref (E.2.2 1000), .int x1, .int x2, .int x3] : List Value).toArray 4) := by
      rw [lg_entry_eq]
      generalize ((lg_sl ([.ref (E.2.2 1000), .int x1, .int x2, .int x3] : List Value) ++ List.replicate (4 - (lg_sl ([.ref (E.2.2 1000), .int x1, .int x2, .int x3] : List Value)).length) Slot.unset).toArray) = ls at hlv ⊢
      have hl : lv_has ls 4 [(0, .ref (E.2.2 1000)), (1, .int x1), (2, .int x2), (3, .int x3)] := hlv
      refine wk_cell cx ok hw hl (fun _ => ?_) (fun h => absurd ht h)
      obtain ⟨cX, kX, hfX, -⟩ := Cond.instantiable_spec (hA9 _ k_714)
      refine W.newcK hx hb (own := RX9) (C := aXN) (index := 184) (n := 6) hown (hA9 _ k_713) (hA9 _ k_714) (hA9 _ k_24) rfl dX9_cell_30 (Nat.le_refl _) (Nat.le_refl _) hfX hsz (fun H' kC hkC hcell hsz' hold => ?_)
      refine lv_dup hx hb dX9_cell_33 rfl ?_
      refine va_ldcS hx hb (own := RX9) hown ok.2.2.2.2.2.2.2.2.1 dX9_cell_34 ?_
      intro T hT X
      obtain ⟨U, hsteps, hrun, hend, hW, hsame, ce, hce, K⟩ := X.ctorThrowS hx htr (own := "ChordGrammars") (cls := aXN) (names := aXs) (ic := 188) hown (by decide +kernel) (by decide +kernel) (ow_all hA9 ok) (fun y hy => by cases hy) hfX hkC (by rw [hT]; exact hcell) (Nat.le_of_eq hsz) (msg := .ref (E.2.2 2012)) rfl (g := F0 m 36 ls [.ref (E.2.2 2012), .ref sz, .ref sz]) rfl (hl.1.trans hml.symm) rfl rfl (rest := []) rfl (by rw [hb]; exact dX9_cell_36) (by rw [hb]; exact dX9_cell_39) (covers_of_empty (B.noHandlers hcodeV) _) (Nat.le_of_ble_eq_true rfl) (Nat.le_of_ble_eq_true rfl) hlk
      exact ⟨U, hsteps, .threw sz, hrun, hend, rfl, ⟨ce, hce, K.cls, K.vm⟩, hW, hsame⟩
    obtain ⟨t, a1, o, b1, b2, b3⟩ := hW s₁ hh0 (Stand.of_body B)
    exact ⟨t, o, a1, b1, b2, b3⟩

/-! the law's own cell(): a static call of a method with a handler -/
section
variable {p : Program} {l : Launch} {e : Env} {R : Room} {s : State} {m : MethodId} {args : Array Value} {below : List Frame} {meth : Method} {c : Code} {H : Heap} {locs : List Loc} {cells slots : Nat}
theorem callSW {T : State} (X : Stand p l e R s m args below meth c T locs cells slots) (hexec : p.tables.exec = Jvm.exec) {own : String} {index : Nat} {y : MethodName} {bytes : ByteArray} {maxL : Nat} {ret : Option FieldType} {hh : List (Nat × Nat × Nat × Nat)}
    (hown : s.vm.findClass own = some m.cls) (hlink : (Cond.methodLink own index y).before args s = true) (hstat : (Cond.static y).before args s = true) (hinit : (Cond.initialized y.cls).before args s = true)
    (hcode : (Cond.codeWith y bytes maxL ret hh).before args s = true) (hy : y.cls ≠ "java/lang/invoke/MethodHandle" ∧ y.cls ≠ "java/lang/invoke/VarHandle")
    {W : Nat} {Pre : Pt → Array Value → Prop} {Post : Pt → Array Value → Option Value → Pt → Prop} (hK : Back l R p e below s args y 3 W Pre Post)
    {g : JFrame} (hg : g.method = m) (hsize : g.locals.size = c.maxLocals) {argsL rest : List Value} (hlen : ∀ sig, parseMethodDescriptor y.desc = some sig → argsL.length = sig.parameters.length)
    (hstack : g.stack = argsL.reverse ++ rest) (hW : 2 * g.monitorRoom + (rest.map fun v => v.category).sum ≤ W) (hdg : decode c.code g.pc = .ok (.invokestatic index, 3))
    (hpre : ∀ vm₁, s.WarmedH vm₁ → Pre ⟨T.setVm vm₁, locs, cells, slots⟩ argsL.toArray) :
    ∃ (v : Option Value) (vm₁ : Vm) (B : Pt), s.WarmedH vm₁ ∧ Stand p l e R s m args below meth c B.U B.locs B.cells B.slots ∧ Post ⟨T.setVm vm₁, locs, cells, slots⟩ argsL.toArray v B ∧
      ∀ target, Steps p.tables e below (B.U.setTop { g with pc := g.pc + 3, stack := v.toList ++ rest }) target → Steps p.tables e below (T.setTop g) target := by
  obtain ⟨mk, methM, cM, hnamed, hmethM, -, -, -, -, -, -, hsigM⟩ := Cond.codeWith_spec hcode
  have hstatic : methM.isStatic = true := Cond.static_spec hnamed hmethM hstat
  obtain ⟨kP, hkP, -⟩ := className_of_methodNamed hnamed
  have hinitP : kP.init = .initialized := Cond.initialized_spec (findClass_of_methodNamed hnamed) hkP hinit
  obtain ⟨vm₁, X₁, hstep₁⟩ := X.invokestatic hexec hown hlink hnamed hmethM hstatic hkP hinitP hy (g := g) hg (argsL := argsL) (rest := rest) (hlen _ hsigM) hstack hdg
  obtain ⟨v, B, X', hpost, hsteps⟩ := hK m meth c ⟨T.setVm vm₁, locs, cells, slots⟩ { g with stack := rest } (.invokestatic index) mk argsL.toArray X₁ hg hsize hdg hW (X₁.named hnamed) (hpre vm₁ X₁.warmed)
  exact ⟨v, vm₁, B, X₁.warmed, X', hpost, fun target h => hstep₁ _ fun acts => by rw [doInvoke_state]; exact hsteps.trans h⟩
theorem va_runSW {y : MethodName} {bytes cc : ByteArray} {maxL nL mc ms index : Nat} {ret : Option FieldType} {ws : List Cond} {rm : Room} {Pc : Array Value → State → Prop} {Qc : Array Value → State → Outcome → State → Prop} {free : Addr → Prop} {own : String} {As rest : List Value} {g : JFrame} {hh : List (Nat × Nat × Nat × Nat)}
    (hx : p.tables.exec = Jvm.exec) (hb : c.code = cc) (hml : c.maxLocals = nL) (ho : s.vm.findClass own = some m.cls) (hM : Met l y ws rm Pc Qc mc ms free) (hbl : FrameBlind Pc) (hrc : rm.cells = mc) (hrs : rm.slots = ms) (hfr : rm.frames + 1 ≤ R.frames) (hlo : 8 + (maxL + 11) + rm.locals ≤ R.locals)
    (hws : ∀ w ∈ ws, ∀ (a' : Array Value) (U : State), s.WarmedH U.vm → w.before a' U = true) (hcw : Cond.codeWith y bytes maxL ret hh ∈ ws) (hl : (Cond.methodLink own index y).before args s = true) (hstt : (Cond.static y).before args s = true) (hini : (Cond.initialized y.cls).before args s = true) (hcode : (Cond.codeWith y bytes maxL ret hh).before args s = true)
    (hy : y.cls ≠ "java/lang/invoke/MethodHandle" ∧ y.cls ≠ "java/lang/invoke/VarHandle") (hlen : ∀ sig, parseMethodDescriptor y.desc = some sig → As.length = sig.parameters.length) (hp : ∀ U : State, U.heap = H → s.WarmedH U.vm → Pc As.toArray U)
    (hg : g.method = m) (hsize : g.locals.size = nL) (hstack : g.stack = As.reverse ++ rest) (hW : 2 * g.monitorRoom + (rest.map fun v => v.category).sum ≤ 8) (hdg : decode cc g.pc = .ok (.invokestatic index, 3)) (hf : cells + mc ≤ R.cells ∧ slots + ms ≤ R.slots) :
    va_Run p l e R s m args below meth c H locs cells slots mc ms g rest (Qc As.toArray) (free) := by
  have hK : Back l R p e below s args y 3 8 (PreOf R mc ms Pc) (PostOf Qc mc ms free) := va_backW (bytes := bytes) (maxL := maxL) (ret := ret) (hh := hh) hM hbl hrc hrs hfr hlo hws hcw (fun a' U hW => word_at hW (Or.inl (by first | rfl | simp [Cond.onTables, Cond.keeps, Cond.steady])) hini)
  intro T hT X
  obtain ⟨v, vm₁, ⟨U', l2, c2, s2⟩, hW₁, X', ⟨g', mk, t, L, e1, e2, hq, h1, hL, h2, h3⟩, st⟩ := callSW X hx (bytes := bytes) (maxL := maxL) (ret := ret) (hh := hh) ho hl hstt hini hcode hy hK hg (hsize.trans hml.symm) (argsL := As) (rest := rest) hlen hstack hW (by rw [hb]; exact hdg)
    (fun vm₁ hW₁ => ⟨hf.1, hf.2, hp (T.setVm vm₁) hT hW₁⟩)
  dsimp only [Pt.U, Pt.locs, Pt.cells, Pt.slots] at X' e1 e2 h1 h2 h3 st
  subst h1; subst h2; subst h3
  exact ⟨v, (T.setVm vm₁).calling g' mk As.toArray, t, U', L, hT, X', hL, e1, e2, hq, st⟩
end
abbrev wzL : List Cond := .codeWith yL_cell cL_cell 6 (some .int) [(0, 11, 14, 13)] :: wA
theorem gdL : GoodIn wA wzL := fun w hw => (List.mem_cons.mp hw).elim (fun e => by rw [e]; exact wA_good k_707) wA_good
theorem gdCell : GoodIn wA (wz yX9_cell cX9_cell 4 (some .long)) := gdC k_712
def ALc (E : Ev) (oa sz : Nat) (σ : St) : Nat → Prop := fun q => va_A (wldC E σ) sz q ∨ q = oa
def PcL (E : Ev) (oa sz : Nat) (σ : St) (f : Nat → Int64) (As : List Value) : Array Value → State → Prop := va_Pc As (fun U => U.heap.size = sz ∧ va_P E.1 vwCl (wldC E σ) U.heap ∧ va_P E.1 vwCl (ouL E oa f) U.heap ∧ va_D (fun _ => True) (wldC E σ) ∧ apL (wldC E σ) (ouL E oa f) ∧ okC E (ALc E oa sz σ) U)
def QcL (E : Ev) (oa sz : Nat) (σ : St) (y1 y2 y3 : Int32) : Array Value → State → Outcome → State → Prop := va_Qi (S := Nat → Int64) (fun k f1 => (cTh σ y1 y2 y3 → k = 1) ∧ (¬ cTh σ y1 y2 y3 → k = 0 ∧ C_Chart_countOf σ y3 y1 y2 = some (f1 0))) (fun f1 t => va_P E.1 vwCl (wldC E σ) t.heap ∧ va_P E.1 vwCl (ouL E oa f1) t.heap) (ALc E oa sz σ)
abbrev rmL : Room := { frames := 9, cells := 1, slots := 6, locals := 140 }
theorem PcL_blind {E : Ev} {oa sz : Nat} {σ : St} {f : Nat → Int64} {As : List Value} : FrameBlind (PcL E oa sz σ f As) := fun a U g mk q => by
  obtain ⟨q0, q1, qP, qO, qD, qa, qK⟩ := q
  exact ⟨q0, q1, qP, qO, qD, qa, okC_to (u := U) (U := U.calling g mk a) (State.WarmedH.refl U) (fun _ _ _ => rfl) (fun _ h => h) qK⟩
theorem apL_ou {w : va_W} {E : Ev} {oa : Nat} {f f1 : Nat → Int64} (h : apL w (ouL E oa f)) : apL w (ouL E oa f1) := by
  intro i j p q hp hq e
  cases j with
  | zero =>
    cases hq
    exact h i 0 p _ hp rfl e
  | succ j => cases hq
theorem sigLen {y : MethodName} {n : Nat} {As : List Value} (h : (parseMethodDescriptor y.desc).map (fun d => d.parameters.length) = some n) (hn : As.length = n) : ∀ sig, parseMethodDescriptor y.desc = some sig → As.length = sig.parameters.length := fun sig h2 => by
  rw [h2] at h
  exact hn.trans (Option.some.inj h).symm
theorem ouL_D {E : Ev} {oa : Nat} {A : Nat → Prop} (f1 : Nat → Int64) (h : A oa) : va_D A (ouL E oa f1) := by
  constructor
  · intro i j p q hp hq _
    cases i with
    | zero =>
      cases j with
      | zero => rfl
      | succ j => cases hq
    | succ i => cases hp
  · intro k q hq
    cases k with
    | zero => cases hq; exact h
    | succ k => cases hq
set_option maxHeartbeats 4000000 in
theorem mL_cell (l : Launch) (hfl : l.flags = Jvm.pinnedFlags ++ [Jvm.noTraceFlag]) (E : Ev) (oa sz : Nat) (σ : St) (f : Nat → Int64) (y1 y2 y3 : Int32) (hv : ¬ cTh σ y1 y2 y3 → ∃ v, C_Chart_countOf σ y3 y1 y2 = some v) :
    Met l yL_cell wzL rmL (PcL E oa sz σ f [.ref (E.2.2 1000), .int y1, .int y2, .int y3, .ref oa]) (QcL E oa sz σ y1 y2 y3) 1 6 (ALc E oa sz σ) := by
  refine va_MetW (cc := cL_cell) (maxL := 6) (ret := some .int) (hh := [(0, 11, 14, 13)]) (by decide) rfl ?_
  intro p e s m args below meth c s₁ B hml hv0
  obtain ⟨rfl, hsz, hP, hO, hD, hap, ok⟩ := hv0
  have hts := atoms_spec (ws := wzL) B.pre
  have hown : s.vm.findClass RL = some m.cls := findClass_of_methodNamed B.named
  have hA9 : ∀ w ∈ wA, w.before _ s = true := fun w hw => hts w (List.mem_cons_of_mem _ hw)
  have hx := B.exec
  have hb := B.bytes
  have hr := B.returns
  have hlk : meth.locks = false := B.notSynchronized
  have hA : ∀ q, s.heap.size ≤ q → (ALc E oa sz σ) q := fun q h => Or.inl (Or.inr (by rw [← hsz]; exact h))
  have hwC : wsC E σ (ALc E oa sz σ) s s.heap [] := ⟨hP, hD.self.weaken (fun _ _ _ h => Or.inl h), va_S.rf⟩
  have hDo : ∀ f1, va_D (ALc E oa sz σ) (ouL E oa f1) := fun f1 => ouL_D f1 (Or.inr rfl)
  have hcodeW := hts _ List.mem_cons_self
  have hlv := lv_entry [.ref (E.2.2 1000), .int y1, .int y2, .int y3, .ref oa] (n := 6) (Nat.le_of_ble_eq_true rfl)
  rw [lg_entry_eq]
  generalize ((lg_sl ([.ref (E.2.2 1000), .int y1, .int y2, .int y3, .ref oa] : List Value) ++ List.replicate (6 - (lg_sl ([.ref (E.2.2 1000), .int y1, .int y2, .int y3, .ref oa] : List Value)).length) Slot.unset).toArray) = ls at hlv ⊢
  have hl : lv_has ls 6 [(0, .ref (E.2.2 1000)), (1, .int y1), (2, .int y2), (3, .int y3), (4, .ref oa)] := hlv
  refine lv_aload hx hb dL_cell_0 (lv_at hl 4 rfl) ?_
  refine lv_iconst (v := (0 : Int32)) hx hb dL_cell_2 (by decide) ?_
  refine lv_aload_n hx hb dL_cell_3 rfl (lv_at hl 0 rfl) ?_
  refine lv_iload_n hx hb dL_cell_4 rfl (lv_at hl 1 rfl) ?_
  refine lv_iload_n hx hb dL_cell_5 rfl (lv_at hl 2 rfl) ?_
  refine lv_iload_n hx hb dL_cell_6 rfl (lv_at hl 3 rfl) ?_
  by_cases hth : cTh σ y1 y2 y3
  · intro T hT X
    have hy : yX9_cell.cls ≠ "java/lang/invoke/MethodHandle" ∧ yX9_cell.cls ≠ "java/lang/invoke/VarHandle" := by decide
    obtain ⟨mk, methM, hnamed, hmethM, hstM, habM⟩ := Cond.instanceMethod_spec (hA9 _ k_710)
    obtain ⟨methM', cM, hmethM', hcM, -, hlM, -, -, -, hsigM⟩ := Cond.code_spec hnamed (hA9 _ k_712)
    cases hmethM.symm.trans hmethM'
    obtain ⟨c2, r2, m2, q1, q2, q3, q4, kP, hkP, hkPi⟩ := Cond.selects_spec (hA9 _ k_711)
    obtain ⟨cellB, hcB, hoB, hclB⟩ := rcC_0 ok hwC
    cases hclB.symm.trans q1
    cases (State.methodFound?_of_named hnamed hy).symm.trans q2
    cases hnamed.symm.trans q3
    have hselP : selectMethod e.platform s.vm cellB.cls mk = .method mk := by rw [Launch.admits_selectMethod X.admits]; exact q4
    obtain ⟨vm₁, X₁, hstep₁⟩ := X.invokevirtual hx hown (hA9 _ k_709) hnamed hmethM hstM hkP hkPi hy (a := E.2.2 1000) (cell := cellB) (by rw [hT]; exact hcB)
      (fun z h => by rw [h] at hoB; cases hoB) hselP hmethM habM hkP hkPi (g := F0 m 7 ls [.int y3, .int y2, .int y1, .ref (E.2.2 1000), .int 0, .ref oa]) rfl (argsL := [.int y1, .int y2, .int y3]) (rest := [.int 0, .ref oa]) (sigLen (y := yX9_cell) (n := 3) (by decide +kernel) rfl _ hsigM) rfl (by rw [hb]; exact dL_cell_7)
    have hw1 : ∀ w ∈ wA, ∀ a' : Array Value, w.before a' (T.setVm vm₁) = true := fun w hw a' => word_at (U := T.setVm vm₁) X₁.warmed (wA_good hw).2 (hA9 w hw)
    have hn1 := X₁.named hnamed
    obtain ⟨methY, cY, hmY, hcY, -, hlY, -, -, -, -⟩ := Cond.code_spec hn1 (hw1 _ k_712 #[])
    obtain ⟨kY, hkY, -⟩ := className_of_methodNamed hn1
    have hinitY : kY.init = .initialized := Cond.initialized_spec (findClass_of_methodNamed hn1) hkY (hw1 _ k_1 #[])
    have happ : (headSpec (wz yX9_cell cX9_cell 4 (some .long)) rmT).appliesLoose yX9_cell e.platform ((T.setVm vm₁).calling (F0 m 7 ls [.int 0, .ref oa]) mk (([.ref (E.2.2 1000), .int y1, .int y2, .int y3] : List Value).toArray)) = true :=
      Spec.appliesLoose_calling (g := F0 m 7 ls [.int 0, .ref oa]) X₁.here (by rw [hb]; exact dL_cell_7) hn1 hkY hinitY
        (X₁.room_calling (g := F0 m 7 ls [.int 0, .ref oa]) (R' := rmT) (hl.1.trans hml.symm) hmY hcY (Nat.le_of_ble_eq_true rfl) (by rw [hlY]; exact Nat.le_of_ble_eq_true rfl) (Nat.le_of_ble_eq_true rfl) (Nat.le_of_ble_eq_true rfl))
        (atoms_intro fun w hw => word_at (U := T.setVm vm₁) X₁.warmed (gdCell w hw).2 (hA9 w (gdCell w hw).1))
    have hfr : ((T.setVm vm₁).setTop (F0 m 7 ls [.int 0, .ref oa])).frames = [.java (F0 m 7 ls [.int 0, .ref oa])] ++ below := by
      obtain ⟨g₀, hr0⟩ := X₁.frames_eq
      rw [State.frames_setTop' _ X₁.here.top, hr0]
      rfl
    have hPc : PwC E [.ref (E.2.2 1000), .int y1, .int y2, .int y3] σ sz (([.ref (E.2.2 1000), .int y1, .int y2, .int y3] : List Value).toArray) (T.setVm vm₁) := by
      have h := prC (As := [.ref (E.2.2 1000), .int y1, .int y2, .int y3]) ok hwC hA (T.setVm vm₁) hT X₁.warmed
      rw [hsz] at h
      exact h
    obtain ⟨o, t, hsteps, hrun, hend, hq⟩ := Steps.callFree (cC_cell_thr l hfl E sz σ y1 y2 y3 hth) p X₁.admits X₁.cas X₁.clock (acts := []) hfr happ (PwC_blind _ _ (F0 m 7 ls [.int 0, .ref oa]) mk hPc) trivial
    rw [hfr] at hend
    obtain ⟨rfl, ⟨ce, hce, hcls, hcvm⟩, hWm, hsame⟩ := hq
    obtain ⟨T', X', hW', hsame', ht⟩ := X₁.outOfThrown (g := F0 m 7 ls [.int 0, .ref oa]) rfl (mk := mk) (a := ([.ref (E.2.2 1000), .int y1, .int y2, .int y3] : List Value).toArray) hend hWm hsame
    have hpl : e.platform.magicAccessors = ({} : Platform).magicAccessors := by rw [X.admits.platform]
    obtain ⟨cL, hfL, hlinks⟩ := Cond.classLink_spec hown (hA9 _ k_708) e.platform hpl
    obtain ⟨dk, _, _, _, hd9, _, _, _, _, _, _, hres⟩ := hlinks.here
    have hgv := resolveClass_links e.toSetting (X'.warmed.classLinks hlinks)
    have hWn := X'.warmed.noted hd9 hres (State.rightAt_cls hlinks)
    have X2 := X'.noted hWn
    have hcc : cL = ce.cls := by
      have h1 : s.vm.findClass aXN = some ce.cls := by
        have h2 : (T.setVm vm₁).vm.findClass aXN = some ce.cls := hcls
        rw [X₁.warmed.alike.findClass] at h2
        exact h2
      exact Option.some.inj (hfL.symm.trans h1)
    obtain ⟨c3, k3, hc3, hk3, -⟩ := Cond.instantiable_spec (hA9 _ k_714)
    cases hc3.symm.trans hfL
    obtain ⟨k4, hk4, -⟩ := hWn.alike.2.2 _ _ hk3
    obtain ⟨c5, t5, hc5, ht5, hfit⟩ := Cond.castable_spec (va_Nw.use (A := #[]) rfl (ok.2.1 _ kn_715))
    cases hc5.symm.trans hfL
    cases ht5.symm.trans hfL
    have hfit2 : (T'.vm.noted m.cls 13 (.cls cL)).assignable ce.cls cL = true := by
      rw [hWn.alike.assignable, ← hcc]
      exact hfit
    have hTh : T'.heap = t.heap := by rw [ht]; rfl
    obtain ⟨m9, meth9, c9, hn9, hm9, hc9, -, -, hh9, -⟩ := Cond.codeWith_spec hcodeW
    cases B.named.symm.trans hn9
    cases X.method.symm.trans hm9
    cases X.code.symm.trans hc9
    obtain ⟨x, hx1, hx2⟩ : ∃ x : ExceptionTableEntry, c.exceptionTable.toList = [x] ∧ (x.startPc, x.endPc, x.handlerPc, x.catchType) = (0, 11, 14, 13) := by
      cases hl9 : c.exceptionTable.toList with
      | nil => rw [hl9] at hh9; cases hh9
      | cons a b =>
        rw [hl9] at hh9
        cases b with
        | nil => exact ⟨a, rfl, (List.cons.inj hh9).1⟩
        | cons a2 b2 => cases (List.cons.inj hh9).2
    simp only [Prod.mk.injEq] at hx2
    obtain ⟨x1, x2, x3, x4⟩ := hx2
    have hfind : ∀ (Q : Handler → Pre) (E : CtlPost) (d : Bool) (acts : List Action), wp (findHandler (F0 m 7 ls [.int 0, .ref oa]) sz) Q E e d acts ((T'.setTop (F0 m 7 ls [.int 0, .ref oa])).pushFrame (.throwing sz)) ↔ Q (.found 14) d acts (((T'.setTop (F0 m 7 ls [.int 0, .ref oa])).pushFrame (.throwing sz)).setVm (T'.vm.noted m.cls 13 (.cls cL))) := by
      intro Q E d acts
      rw [Jvm.W.findHandler_eq (meth := meth) (code := c) X'.method' X'.code, hx1, ← x3]
      refine ex_go (f := F0 m 7 ls [.int 0, .ref oa]) (c := cL) (cell := ce) (vm' := T'.vm.noted m.cls 13 (.cls cL)) ?_ ?_ ?_ ?_ ?_ ?_ ?_ ?_ hfit2
      · simp [covers, x1, x2]
      · rw [x4]; decide
      · rw [x4]; exact hgv
      · exact Nat.le_of_eq (Vm.size_noted _ _ _ _)
      · show T'.heap[sz]? = some ce
        rw [hTh]; exact hce
      · intro k z; rw [hcvm] at z; cases z
      · exact ⟨k4, by rw [← hcc]; exact hk4⟩
      · exact ⟨k4, hk4⟩
    have hold : ∀ q : Nat, q < s.heap.size → T'.heap[q]? = s.heap[q]? := by
      intro q hq1
      have h1 : s.heap[q]? = some s.heap[q] := Array.getElem?_eq_getElem hq1
      have h2 : ((T.setVm vm₁).calling (F0 m 7 ls [.int 0, .ref oa]) mk (([.ref (E.2.2 1000), .int y1, .int y2, .int y3] : List Value).toArray)).heap[q]? = some s.heap[q] := by
        show T.heap[q]? = _
        rw [hT]; exact h1
      rw [hTh, h1]
      exact hsame.old_cell h2
    have hge : s.heap.size ≤ T'.heap.size := by
      have h1 := (Array.getElem?_eq_some_iff.mp hce).1
      rw [hTh, hsz]
      exact Nat.le_of_lt h1
    have kW : W p l e rmL s m (([.ref (E.2.2 1000), .int y1, .int y2, .int y3, .ref oa] : List Value).toArray) below meth c T'.heap ([] ++ []) (0 + 1) (0 + 6) (MQ below (QcL E oa sz σ y1 y2 y3) (([.ref (E.2.2 1000), .int y1, .int y2, .int y3, .ref oa] : List Value).toArray) s 1 6 (ALc E oa sz σ)) (F0 m 14 ls [.ref sz]) := by
      refine lv_astore (lv' := [(5, .ref sz), (0, .ref (E.2.2 1000)), (1, .int y1), (2, .int y2), (3, .int y3), (4, .ref oa)]) hx hb dL_cell_14 hl (by decide) rfl (fun ls hl => ?_)
      refine lv_iconst (v := (1 : Int32)) hx hb dL_cell_16 (by decide) ?_
      refine W.iret hx hb hr (fun t ht hW => ⟨⟨1, f, rfl, ⟨fun _ => rfl, fun h => absurd hth h⟩, ?_, ?_⟩, ?_, ?_⟩) (fun q hq => by cases hq) dL_cell_17 hlk
      · exact hP.kept (fun k q hq => by rw [ht]; exact hold _ (hP k q hq).lt)
      · exact hO.kept (fun k q hq => by rw [ht]; exact hold _ (hO k q hq).lt)
      · rw [ht]; exact hge
      · intro q hq1 _
        rw [ht]; exact hold q hq1
    obtain ⟨t2, a1, b1⟩ := kW (T'.setVm (T'.vm.noted m.cls 13 (.cls cL))) rfl X2
    refine ⟨t2, hstep₁ _ (fun acts => ?_), b1⟩
    rw [doInvoke_state]
    refine hsteps.trans ?_
    rw [ht]
    exact ex_caught (g := F0 m 7 ls [.int 0, .ref oa]) X'.here hfind a1
  · obtain ⟨v, hvv⟩ := hv hth
    refine va_calll (va_runV (As := [.int y1, .int y2, .int y3]) (rest := [.int 0, .ref oa]) (own := RL) (C := RX9) (index := 7) (n := 3) (nL := 6) ⟨hx, hb, hml, hown, hA9⟩ (cC_cell_ok l E _ σ y1 y2 y3 v hth hvv) (cwV 3 hA9 (gdV k_709 k_710 k_711 k_1 k_712) rfl rfl rfl (by decide +kernel) ⟨Nat.le_of_ble_eq_true rfl, Nat.le_of_ble_eq_true rfl⟩) ⟨PwC_blind, rcC_0 ok hwC, prC ok hwC hA⟩ rfl rfl hl.1 rfl (lv_room (Nat.le_of_ble_eq_true rfl)) dL_cell_7 ⟨Nat.zero_le _, Nat.zero_le _⟩) hwC.2.2 (fun q _ h => frC hwC hA q h) (fun q h => frC hwC hA q h) (fun r2 u t H1 locs1 ht hvm hw2 hB hz1 hk1 hS => ?_)
    cases hw2
    have hb1 := apL_after hO hap hk1 hB.2
    have hwC1 : wsC E σ (ALc E oa sz σ) s H1 locs1 := bkC hwC hA ht hB hS
    have hPP : va_P E.1 vwCl (ouL E oa f ++ wldC E σ) H1 := va_P.app hb1.1 hwC1.1
    have hDD : va_D (ALc E oa sz σ) (ouL E oa f ++ wldC E σ) := va_D.app (hDo f) hwC1.2.1 (fun i j x y hx hy e => hap j i y x hy hx e.symm)
    refine va_last hx hb ok.1 hPP hDD hS 0 2 rfl rfl (i := (0 : Int32)) (by unfold vp_in; decide) dL_cell_10 (fun H2 locs2 hP2 hD2 hS2 => ?_)
    have hPo : va_P E.1 vwCl (ouL E oa (vp_updL f (0 : Int32).toNatClampNeg v)) H2 := fun k q hq => by
      cases k with
      | zero => exact hP2 0 q hq
      | succ k => cases hq
    have hPw : va_P E.1 vwCl (wldC E σ) H2 := fun k q hq => hP2 (k + 1) q hq
    refine lv_goto (tgt := 18) hx hb dL_cell_11 (by decide) ?_
    refine lv_iconst (v := (0 : Int32)) hx hb dL_cell_18 (by decide) ?_
    have kW : W p l e rmL s m (([.ref (E.2.2 1000), .int y1, .int y2, .int y3, .ref oa] : List Value).toArray) below meth c H2 locs2 1 6 (MQ below (QcL E oa sz σ y1 y2 y3) (([.ref (E.2.2 1000), .int y1, .int y2, .int y3, .ref oa] : List Value).toArray) s 1 6 (ALc E oa sz σ)) (F0 m 19 ls [.int 0]) := by
      refine W.iret hx hb hr (fun t ht hW => ⟨⟨0, vp_updL f (0 : Int32).toNatClampNeg v, rfl, ⟨fun h => absurd h hth, fun _ => ⟨rfl, hvv⟩⟩, ?_, ?_⟩, hS2.F ht⟩) hS2.2.2 dL_cell_19 hlk
      · rw [ht]; exact hPw
      · rw [ht]; exact hPo
    exact fun T hT X => kW T hT (stand_widen X (Nat.zero_le _) (Nat.zero_le _))

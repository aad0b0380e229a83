/-- when cell() throws -/
def cTh (σ : St) (a b c : Int32) : Prop := a < 0 ∨ b < a ∨ σ.1 118 0 ≤ b ∨ c < 0 ∨ ¬ c < 26
/-- what the pure side owes: class and reference answer alike, call by call -/
def Sm_key (Sim : St → St → Prop) : Prop := ∀ (σ τ : St) (a : Int32) (b : Int32), Sim σ τ → (b = 0 ∨ b = 1) → ∃ (r : Int32) (σ' : St) (τ' : St), C_CG_key σ a b = some (r, σ') ∧ M_key τ a b = some (r, τ') ∧ Sim σ' τ'
def Sm_cost (Sim : St → St → Prop) : Prop := ∀ (σ τ : St) (a : Int32) (b : Int32), Sim σ τ → ∃ (r : Int32) (σ' : St) (τ' : St), C_CG_cost σ a b = some (r, σ') ∧ M_cost τ a b = some (r, τ') ∧ Sim σ' τ'
def Sm_draft (Sim : St → St → Prop) : Prop := ∀ (σ τ : St) (a : Int32) (b : Int64), Sim σ τ → ∃ (n1 : Nat) (n2 : Nat) (r : Int32) (σ' : St) (τ' : St), C_CG_draft n1 σ a b = some (r, σ') ∧ M_draft n2 τ a b = some (r, τ') ∧ Sim σ' τ'
def Sm_grammar (Sim : St → St → Prop) : Prop := ∀ (σ τ : St), Sim σ τ → ∃ (n1 : Nat) (n2 : Nat) (r : Int32) (σ' : St) (τ' : St), C_CG_grammar n1 σ = some (r, σ') ∧ M_grammar n2 τ = some (r, τ') ∧ Sim σ' τ'
def Sm_slot (Sim : St → St → Prop) : Prop := ∀ (σ τ : St) (a : Int32) (b : Int32) (c : Int32), Sim σ τ → ∃ (r : Int32) (σ' : St) (τ' : St), C_CG_slot σ a b c = some (r, σ') ∧ M_slot τ a b c = some (r, τ') ∧ Sim σ' τ'
def Sm_clear (Sim : St → St → Prop) : Prop := ∀ (σ τ : St), Sim σ τ → ∃ (r : Int32) (σ' : St) (τ' : St), C_CG_clear σ = some (r, σ') ∧ M_clear τ = some (r, τ') ∧ Sim σ' τ'
def Sm_fit (Sim : St → St → Prop) : Prop := ∀ (σ τ : St) (a : Int32) (b : Int32) (c : Int32), Sim σ τ → ∃ (n2 : Nat) (r : Int32) (τ' : St), C_CG_fit σ a b c = some r ∧ M_fit n2 τ a b c = some (r, τ') ∧ Sim σ τ'
def Sm_best (Sim : St → St → Prop) : Prop := ∀ (σ τ : St) (a : Int32), Sim σ τ → ∃ (n1 : Nat) (n2 : Nat) (r : Int32) (τ' : St), C_CG_best n1 σ a = some r ∧ M_best n2 τ a = some (r, τ') ∧ Sim σ τ'
def Sm_parse (Sim : St → St → Prop) : Prop := ∀ (σ τ : St), Sim σ τ → ∃ (n1 : Nat) (n2 : Nat) (r : Int32) (σ' : St) (τ' : St), C_CG_parse n1 σ = some (r, σ') ∧ M_parse n2 τ = some (r, τ') ∧ Sim σ' τ'
def Sm_readings (Sim : St → St → Prop) : Prop := ∀ (σ τ : St), Sim σ τ → ∃ (r : Int64) (τ' : St), C_CG_readings σ = some r ∧ M_readings τ = some (r, τ') ∧ Sim σ τ'
def Sm_price (Sim : St → St → Prop) : Prop := ∀ (σ τ : St) (a : Int32), Sim σ τ → ∃ (r : Int32) (τ' : St), C_CG_price σ a = some r ∧ M_price τ a = some (r, τ') ∧ Sim σ τ'
def Sm_node (Sim : St → St → Prop) : Prop := ∀ (σ τ : St) (a : Int32) (b : Int32) (c : Int32), Sim σ τ → ∃ (n1 : Nat) (n2 : Nat) (r : Int32) (σ' : St) (τ' : St), C_CG_node n1 σ a b c = some (r, σ') ∧ M_node n2 τ a b c = some (r, τ') ∧ Sim σ' τ'
def Sm_nodes (Sim : St → St → Prop) : Prop := ∀ (σ τ : St) (a : Int32), Sim σ τ → ∃ (n1 : Nat) (n2 : Nat) (r : Int32) (σ' : St) (τ' : St), C_CG_nodes n1 σ a = some (r, σ') ∧ M_nodes n2 τ a = some (r, τ') ∧ Sim σ' τ'
def Sm_chord (Sim : St → St → Prop) : Prop := ∀ (σ τ : St) (a : Int32) (b : Int32), Sim σ τ → ∃ (n1 : Nat) (n2 : Nat) (r : Int32) (σ' : St) (τ' : St), C_CG_chord n1 σ a b = some (r, σ') ∧ M_chord n2 τ a b = some (r, τ') ∧ Sim σ' τ'
def Sm_cadence (Sim : St → St → Prop) : Prop := ∀ (σ τ : St) (a : Int32), Sim σ τ → ∃ (n1 : Nat) (n2 : Nat) (r : Int32) (σ' : St) (τ' : St), C_CG_cadence n1 σ a = some (r, σ') ∧ M_cadence n2 τ a = some (r, τ') ∧ Sim σ' τ'
def Sm_melody (Sim : St → St → Prop) : Prop := ∀ (σ τ : St) (a : Int32) (b : Int32), Sim σ τ → ∃ (n1 : Nat) (n2 : Nat) (r : Int32) (σ' : St) (τ' : St), C_CG_melody n1 σ a b = some (r, σ') ∧ M_melody n2 τ a b = some (r, τ') ∧ Sim σ' τ'
def Sm_told (Sim : St → St → Prop) : Prop := ∀ (σ τ : St) (a : Int32), Sim σ τ → ∃ (r : Int32) (τ' : St), C_CG_told σ a = some r ∧ M_told τ a = some (r, τ') ∧ Sim σ τ'
def Sm_cell (Sim : St → St → Prop) : Prop := ∀ (σ τ : St) (a b c : Int32), Sim σ τ → ∃ (r : Int64) (τ' : St), M_cell τ a b c = some (r, τ') ∧ Sim σ τ' ∧ ((cTh σ a b c ∧ τ'.1 0 0 = 1) ∨ (¬ cTh σ a b c ∧ τ'.1 0 0 = 0 ∧ C_Chart_countOf σ c a b = some r))
def SimOk (Sim : St → St → Prop) : Prop := Sm_key Sim ∧ Sm_cost Sim ∧ Sm_draft Sim ∧ Sm_grammar Sim ∧ Sm_slot Sim ∧ Sm_clear Sim ∧ Sm_fit Sim ∧ Sm_best Sim ∧ Sm_parse Sim ∧ Sm_readings Sim ∧ Sm_price Sim ∧ Sm_node Sim ∧ Sm_nodes Sim ∧ Sm_chord Sim ∧ Sm_cadence Sim ∧ Sm_melody Sim ∧ Sm_told Sim ∧ Sm_cell Sim
def apL (w1 w2 : va_W) : Prop := ∀ (i j : Nat) (p q : Nat × va_E), w1[i]? = some p → w2[j]? = some q → p.1 ≠ q.1
theorem apL.symm {w1 w2 : va_W} (h : apL w1 w2) : apL w2 w1 := fun i j p q hp hq e => h j i q p hq hp e.symm
theorem apL_after {D : va_G} {cl : List vw_C} {w1 w1' w2 : va_W} {H H1 : Heap} (hP2 : va_P D cl w2 H) (hap : apL w1 w2) (hk : ∀ q : Nat, q < H.size → ¬ va_A w1 H.size q → H1[q]? = H[q]?) (hD1 : va_D (va_A w1 H.size) w1') : va_P D cl w2 H1 ∧ apL w1' w2 := by
  have nA : ∀ (j : Nat) (q : Nat × va_E), w2[j]? = some q → ¬ va_A w1 H.size q.1 := fun j q hq h => by
    rcases h with ⟨k, e, h⟩ | h
    · exact hap k j _ q h hq rfl
    · exact absurd (hP2 j q hq).lt (Nat.not_lt.mpr h)
  exact ⟨hP2.kept (fun k q hq => hk q.1 (hP2 k q hq).lt (nA k q hq)), fun i j p q hp hq e => nA j q hq (by rw [← e]; exact hD1.2 i p hp)⟩
abbrev ouL (E : Ev) (oa : Nat) (f : Nat → Int64) : va_W := [(oa, .inl (E.2.1 2, 1, .inr (.inl f)))]
def wsL (E1 E2 : Ev) (oa : Nat) (σ τ : St) (f : Nat → Int64) (A : Nat → Prop) (s : State) (H : Heap) (locs : List Loc) : Prop := wsC E1 σ A s H locs ∧ wsM E2 τ A s H locs ∧ (va_P E1.1 vwCl (ouL E1 oa f) H ∧ va_D A (ouL E1 oa f)) ∧ apL (wldC E1 σ) (wldM E2 τ) ∧ apL (wldC E1 σ) (ouL E1 oa f) ∧ apL (wldM E2 τ) (ouL E1 oa f)
section
variable {p : Program} {l : Launch} {e : Env} {R : Room} {s : State} {m : MethodId} {args : Array Value} {below : List Frame} {meth : Method} {c : Code} {H : Heap} {locs : List Loc} {cells slots : Nat} {Q : State → Prop} {cc : ByteArray} {pc : Nat} {ls : Array Slot} {rest : List Value} {A : Nat → Prop} {E1 E2 : Ev} {σ σ' τ τ' : St} {oa : Nat} {f : Nat → Int64}
theorem aftC {t : State} {H1 : Heap} {locs1 : List Loc} (hw : wsL E1 E2 oa σ τ f A s H locs) (hA : ∀ q, s.heap.size ≤ q → A q) (ht : t.heap = H1) (hB : BwC E1 σ σ' H.size t) (hk : ∀ q : Nat, q < H.size → ¬ va_A (wldC E1 σ) H.size q → H1[q]? = H[q]?) (hS : va_S A s.heap H1 locs1) : wsL E1 E2 oa σ' τ f A s H1 locs1 := by
  obtain ⟨hC, hM, hO, a1, a2, a3⟩ := hw
  have b1 := apL_after hM.1 a1 hk hB.2
  have b2 := apL_after hO.1 a2 hk hB.2
  exact ⟨bkC hC hA ht hB hS, ⟨b1.1, hM.2.1, hS⟩, ⟨b2.1, hO.2⟩, b1.2, b2.2, a3⟩
theorem aftM {t : State} {H1 : Heap} {locs1 : List Loc} (hw : wsL E1 E2 oa σ τ f A s H locs) (hA : ∀ q, s.heap.size ≤ q → A q) (ht : t.heap = H1) (hB : va_P E2.1 vwCl (wldM E2 τ') t.heap ∧ va_D (va_A (wldM E2 τ) H.size) (wldM E2 τ')) (hk : ∀ q : Nat, q < H.size → ¬ va_A (wldM E2 τ) H.size q → H1[q]? = H[q]?) (hS : va_S A s.heap H1 locs1) : wsL E1 E2 oa σ τ' f A s H1 locs1 := by
  obtain ⟨hC, hM, hO, a1, a2, a3⟩ := hw
  have b1 := apL_after hC.1 a1.symm hk hB.2
  have b2 := apL_after hO.1 a3 hk hB.2
  exact ⟨⟨b1.1, hC.2.1, hS⟩, bkM hM hA ht hB hS, ⟨b2.1, hO.2⟩, b1.2.symm, a2, b2.2⟩
theorem clL_Ci {y : MethodName} {b : ByteArray} {mxl idx nn nL : Nat} {ret : Option FieldType} {rm : Room} {As st : List Value} {r : Int32} (hx : p.tables.exec = Jvm.exec) (hb : c.code = cc) (hml : c.maxLocals = nL) (hown : s.vm.findClass RL = some m.cls) (hA9 : ∀ w ∈ wA, w.before args s = true) (hsl : ls.size = nL) (ok : okC E1 A s) (hw : wsL E1 E2 oa σ τ f A s H locs) (hA : ∀ q, s.heap.size ≤ q → A q)
    (hM : Met l y (wz y b mxl ret) rm (PwC E1 (.ref (E1.2.2 1000) :: As) σ H.size) (QiC E1 σ σ' H.size r) 0 0 (va_A (wldC E1 σ) H.size)) (cw : CallW R s args RL RX9 idx y b mxl ret (wz y b mxl ret) rm 0 0 nn) (hn : As.length = nn) (hst : st = As.reverse ++ .ref (E1.2.2 1000) :: rest) (hW : (rest.map fun v => v.category).sum ≤ 8) (hcs : cells ≤ R.cells ∧ slots ≤ R.slots) (hdg : decode cc pc = .ok (.invokevirtual idx, 3))
    (kk : ∀ (H1 : Heap) (locs1 : List Loc), wsL E1 E2 oa σ' τ f A s H1 locs1 → W p l e R s m args below meth c H1 locs1 cells slots Q (F0 m (pc + 3) ls (.int r :: rest))) : W p l e R s m args below meth c H locs cells slots Q (F0 m pc ls st) := by
  subst hst
  exact va_calli (va_runV (As := As) (rest := rest) ⟨hx, hb, hml, hown, hA9⟩ hM cw ⟨PwC_blind, rcC_0 ok hw.1, prC ok hw.1 hA⟩ rfl hn hsl rfl (lv_room hW) hdg hcs) hw.1.2.2 (fun q _ h => frC hw.1 hA q h) (fun q h => frC hw.1 hA q h) (fun r2 u t H1 locs1 ht hvm hw2 hB hz1 hk1 hS => by cases hw2; exact kk H1 locs1 (aftC hw hA ht hB hk1 hS))
theorem clL_Cl {y : MethodName} {b : ByteArray} {mxl idx nn nL : Nat} {ret : Option FieldType} {rm : Room} {As st : List Value} {r : Int64} (hx : p.tables.exec = Jvm.exec) (hb : c.code = cc) (hml : c.maxLocals = nL) (hown : s.vm.findClass RL = some m.cls) (hA9 : ∀ w ∈ wA, w.before args s = true) (hsl : ls.size = nL) (ok : okC E1 A s) (hw : wsL E1 E2 oa σ τ f A s H locs) (hA : ∀ q, s.heap.size ≤ q → A q)
    (hM : Met l y (wz y b mxl ret) rm (PwC E1 (.ref (E1.2.2 1000) :: As) σ H.size) (QlC E1 σ σ' H.size r) 0 0 (va_A (wldC E1 σ) H.size)) (cw : CallW R s args RL RX9 idx y b mxl ret (wz y b mxl ret) rm 0 0 nn) (hn : As.length = nn) (hst : st = As.reverse ++ .ref (E1.2.2 1000) :: rest) (hW : (rest.map fun v => v.category).sum ≤ 8) (hcs : cells ≤ R.cells ∧ slots ≤ R.slots) (hdg : decode cc pc = .ok (.invokevirtual idx, 3))
    (kk : ∀ (H1 : Heap) (locs1 : List Loc), wsL E1 E2 oa σ' τ f A s H1 locs1 → W p l e R s m args below meth c H1 locs1 cells slots Q (F0 m (pc + 3) ls (.long r :: rest))) : W p l e R s m args below meth c H locs cells slots Q (F0 m pc ls st) := by
  subst hst
  exact va_calll (va_runV (As := As) (rest := rest) ⟨hx, hb, hml, hown, hA9⟩ hM cw ⟨PwC_blind, rcC_0 ok hw.1, prC ok hw.1 hA⟩ rfl hn hsl rfl (lv_room hW) hdg hcs) hw.1.2.2 (fun q _ h => frC hw.1 hA q h) (fun q h => frC hw.1 hA q h) (fun r2 u t H1 locs1 ht hvm hw2 hB hz1 hk1 hS => by cases hw2; exact kk H1 locs1 (aftC hw hA ht hB hk1 hS))
theorem clL_Mi {y : MethodName} {b : ByteArray} {mxl idx nn nL : Nat} {ret : Option FieldType} {rm : Room} {As st : List Value} {r : Int32} (hx : p.tables.exec = Jvm.exec) (hb : c.code = cc) (hml : c.maxLocals = nL) (hown : s.vm.findClass RL = some m.cls) (hA9 : ∀ w ∈ wA, w.before args s = true) (hsl : ls.size = nL) (ok : okM E2 A s) (hw : wsL E1 E2 oa σ τ f A s H locs) (hA : ∀ q, s.heap.size ≤ q → A q)
    (hM : Met l y (wz y b mxl ret) rm (PwM E2 (.ref (E2.2.2 1000) :: As) τ H.size) (QiM E2 τ τ' H.size r) 0 0 (va_A (wldM E2 τ) H.size)) (cw : CallW R s args RL RX10 idx y b mxl ret (wz y b mxl ret) rm 0 0 nn) (hn : As.length = nn) (hst : st = As.reverse ++ .ref (E2.2.2 1000) :: rest) (hW : (rest.map fun v => v.category).sum ≤ 8) (hcs : cells ≤ R.cells ∧ slots ≤ R.slots) (hdg : decode cc pc = .ok (.invokevirtual idx, 3))
    (kk : ∀ (H1 : Heap) (locs1 : List Loc), wsL E1 E2 oa σ τ' f A s H1 locs1 → W p l e R s m args below meth c H1 locs1 cells slots Q (F0 m (pc + 3) ls (.int r :: rest))) : W p l e R s m args below meth c H locs cells slots Q (F0 m pc ls st) := by
  subst hst
  exact va_calli (va_runV (As := As) (rest := rest) ⟨hx, hb, hml, hown, hA9⟩ hM cw ⟨PwM_blind, rcM ok hw.2.1, prM ok hw.2.1⟩ rfl hn hsl rfl (lv_room hW) hdg hcs) hw.1.2.2 (fun q _ h => frM hw.2.1 hA q h) (fun q h => frM hw.2.1 hA q h) (fun r2 u t H1 locs1 ht hvm hw2 hB hz1 hk1 hS => by cases hw2; exact kk H1 locs1 (aftM hw hA ht hB hk1 hS))
theorem clL_Ml {y : MethodName} {b : ByteArray} {mxl idx nn nL : Nat} {ret : Option FieldType} {rm : Room} {As st : List Value} {r : Int64} (hx : p.tables.exec = Jvm.exec) (hb : c.code = cc) (hml : c.maxLocals = nL) (hown : s.vm.findClass RL = some m.cls) (hA9 : ∀ w ∈ wA, w.before args s = true) (hsl : ls.size = nL) (ok : okM E2 A s) (hw : wsL E1 E2 oa σ τ f A s H locs) (hA : ∀ q, s.heap.size ≤ q → A q)
    (hM : Met l y (wz y b mxl ret) rm (PwM E2 (.ref (E2.2.2 1000) :: As) τ H.size) (QlM E2 τ τ' H.size r) 0 0 (va_A (wldM E2 τ) H.size)) (cw : CallW R s args RL RX10 idx y b mxl ret (wz y b mxl ret) rm 0 0 nn) (hn : As.length = nn) (hst : st = As.reverse ++ .ref (E2.2.2 1000) :: rest) (hW : (rest.map fun v => v.category).sum ≤ 8) (hcs : cells ≤ R.cells ∧ slots ≤ R.slots) (hdg : decode cc pc = .ok (.invokevirtual idx, 3))
    (kk : ∀ (H1 : Heap) (locs1 : List Loc), wsL E1 E2 oa σ τ' f A s H1 locs1 → W p l e R s m args below meth c H1 locs1 cells slots Q (F0 m (pc + 3) ls (.long r :: rest))) : W p l e R s m args below meth c H locs cells slots Q (F0 m pc ls st) := by
  subst hst
  exact va_calll (va_runV (As := As) (rest := rest) ⟨hx, hb, hml, hown, hA9⟩ hM cw ⟨PwM_blind, rcM ok hw.2.1, prM ok hw.2.1⟩ rfl hn hsl rfl (lv_room hW) hdg hcs) hw.1.2.2 (fun q _ h => frM hw.2.1 hA q h) (fun q h => frM hw.2.1 hA q h) (fun r2 u t H1 locs1 ht hvm hw2 hB hz1 hk1 hS => by cases hw2; exact kk H1 locs1 (aftM hw hA ht hB hk1 hS))
end
theorem cwL_C_key {s : State} {args : Array Value} (h : ∀ w ∈ wA, w.before args s = true) : CallW room_1 s args RL RX9 19 yX9_key cX9_key 3 (some .boolean) (wz yX9_key cX9_key 3 (some .boolean)) rmC_CG_key 0 0 2 := cwV 2 h (gdV k_292 k_293 k_294 k_1 k_295) rfl rfl rfl (by decide +kernel) ⟨Nat.le_of_ble_eq_true rfl, Nat.le_of_ble_eq_true rfl⟩
theorem cwL_M_key {s : State} {args : Array Value} (h : ∀ w ∈ wA, w.before args s = true) : CallW room_1 s args RL RX10 23 yX10_key cX10_key 3 (some .boolean) (wz yX10_key cX10_key 3 (some .boolean)) rmM_key 0 0 2 := cwV 2 h (gdV k_941 k_942 k_943 k_11 k_944) rfl rfl rfl (by decide +kernel) ⟨Nat.le_of_ble_eq_true rfl, Nat.le_of_ble_eq_true rfl⟩
theorem cwL_C_cost {s : State} {args : Array Value} (h : ∀ w ∈ wA, w.before args s = true) : CallW room_1 s args RL RX9 24 yX9_cost cX9_cost 3 (some .boolean) (wz yX9_cost cX9_cost 3 (some .boolean)) rmC_CG_cost 0 0 2 := cwV 2 h (gdV k_300 k_301 k_302 k_1 k_303) rfl rfl rfl (by decide +kernel) ⟨Nat.le_of_ble_eq_true rfl, Nat.le_of_ble_eq_true rfl⟩
theorem cwL_M_cost {s : State} {args : Array Value} (h : ∀ w ∈ wA, w.before args s = true) : CallW room_1 s args RL RX10 28 yX10_cost cX10_cost 3 (some .boolean) (wz yX10_cost cX10_cost 3 (some .boolean)) rmM_cost 0 0 2 := cwV 2 h (gdV k_945 k_946 k_947 k_11 k_948) rfl rfl rfl (by decide +kernel) ⟨Nat.le_of_ble_eq_true rfl, Nat.le_of_ble_eq_true rfl⟩
theorem cwL_C_draft {s : State} {args : Array Value} (h : ∀ w ∈ wA, w.before args s = true) : CallW room_1 s args RL RX9 31 yX9_draft cX9_draft 4 (some .int) (wz yX9_draft cX9_draft 4 (some .int)) rmC_CG_draft 0 0 2 := cwV 2 h (gdV k_308 k_309 k_310 k_1 k_311) rfl rfl rfl (by decide +kernel) ⟨Nat.le_of_ble_eq_true rfl, Nat.le_of_ble_eq_true rfl⟩
theorem cwL_M_draft {s : State} {args : Array Value} (h : ∀ w ∈ wA, w.before args s = true) : CallW room_1 s args RL RX10 35 yX10_draft cX10_draft 5 (some .int) (wz yX10_draft cX10_draft 5 (some .int)) rmM_draft 0 0 2 := cwV 2 h (gdV k_949 k_950 k_951 k_11 k_952) rfl rfl rfl (by decide +kernel) ⟨Nat.le_of_ble_eq_true rfl, Nat.le_of_ble_eq_true rfl⟩
theorem cwL_C_grammar {s : State} {args : Array Value} (h : ∀ w ∈ wA, w.before args s = true) : CallW room_1 s args RL RX9 36 yX9_grammar cX9_grammar 2 (some .int) (wz yX9_grammar cX9_grammar 2 (some .int)) rmC_CG_grammar 0 0 0 := cwV 0 h (gdV k_316 k_317 k_318 k_1 k_319) rfl rfl rfl (by decide +kernel) ⟨Nat.le_of_ble_eq_true rfl, Nat.le_of_ble_eq_true rfl⟩
theorem cwL_M_grammar {s : State} {args : Array Value} (h : ∀ w ∈ wA, w.before args s = true) : CallW room_1 s args RL RX10 40 yX10_grammar cX10_grammar 2 (some .int) (wz yX10_grammar cX10_grammar 2 (some .int)) rmM_grammar 0 0 0 := cwV 0 h (gdV k_954 k_955 k_956 k_11 k_957) rfl rfl rfl (by decide +kernel) ⟨Nat.le_of_ble_eq_true rfl, Nat.le_of_ble_eq_true rfl⟩
theorem cwL_C_slot {s : State} {args : Array Value} (h : ∀ w ∈ wA, w.before args s = true) : CallW room_1 s args RL RX9 41 yX9_slot cX9_slot 4 (some .int) (wz yX9_slot cX9_slot 4 (some .int)) rmC_CG_slot 0 0 3 := cwV 3 h (gdV k_477 k_478 k_479 k_1 k_480) rfl rfl rfl (by decide +kernel) ⟨Nat.le_of_ble_eq_true rfl, Nat.le_of_ble_eq_true rfl⟩
theorem cwL_M_slot {s : State} {args : Array Value} (h : ∀ w ∈ wA, w.before args s = true) : CallW room_1 s args RL RX10 45 yX10_slot cX10_slot 4 (some .int) (wz yX10_slot cX10_slot 4 (some .int)) rmM_slot 0 0 3 := cwV 3 h (gdV k_1003 k_1004 k_1005 k_11 k_1006) rfl rfl rfl (by decide +kernel) ⟨Nat.le_of_ble_eq_true rfl, Nat.le_of_ble_eq_true rfl⟩
theorem cwL_C_clear {s : State} {args : Array Value} (h : ∀ w ∈ wA, w.before args s = true) : CallW room_1 s args RL RX9 46 yX9_clear cX9_clear 2 (some .int) (wz yX9_clear cX9_clear 2 (some .int)) rmC_CG_clear 0 0 0 := cwV 0 h (gdV k_485 k_486 k_487 k_1 k_488) rfl rfl rfl (by decide +kernel) ⟨Nat.le_of_ble_eq_true rfl, Nat.le_of_ble_eq_true rfl⟩
theorem cwL_M_clear {s : State} {args : Array Value} (h : ∀ w ∈ wA, w.before args s = true) : CallW room_1 s args RL RX10 49 yX10_clear cX10_clear 2 (some .int) (wz yX10_clear cX10_clear 2 (some .int)) rmM_clear 0 0 0 := cwV 0 h (gdV k_1007 k_1008 k_1009 k_11 k_1010) rfl rfl rfl (by decide +kernel) ⟨Nat.le_of_ble_eq_true rfl, Nat.le_of_ble_eq_true rfl⟩
theorem cwL_C_fit {s : State} {args : Array Value} (h : ∀ w ∈ wA, w.before args s = true) : CallW room_1 s args RL RX9 50 yX9_fit cX9_fit 4 (some .int) (wz yX9_fit cX9_fit 4 (some .int)) rmC_CG_fit 0 0 3 := cwV 3 h (gdV k_489 k_490 k_491 k_1 k_492) rfl rfl rfl (by decide +kernel) ⟨Nat.le_of_ble_eq_true rfl, Nat.le_of_ble_eq_true rfl⟩
theorem cwL_M_fit {s : State} {args : Array Value} (h : ∀ w ∈ wA, w.before args s = true) : CallW room_1 s args RL RX10 53 yX10_fit cX10_fit 4 (some .int) (wz yX10_fit cX10_fit 4 (some .int)) rmM_fit 0 0 3 := cwV 3 h (gdV k_1011 k_1012 k_1013 k_11 k_1014) rfl rfl rfl (by decide +kernel) ⟨Nat.le_of_ble_eq_true rfl, Nat.le_of_ble_eq_true rfl⟩
theorem cwL_C_best {s : State} {args : Array Value} (h : ∀ w ∈ wA, w.before args s = true) : CallW room_1 s args RL RX9 54 yX9_best cX9_best 2 (some .int) (wz yX9_best cX9_best 2 (some .int)) rmC_CG_best 0 0 1 := cwV 1 h (gdV k_511 k_512 k_513 k_1 k_514) rfl rfl rfl (by decide +kernel) ⟨Nat.le_of_ble_eq_true rfl, Nat.le_of_ble_eq_true rfl⟩
theorem cwL_M_best {s : State} {args : Array Value} (h : ∀ w ∈ wA, w.before args s = true) : CallW room_1 s args RL RX10 58 yX10_best cX10_best 6 (some .int) (wz yX10_best cX10_best 6 (some .int)) rmM_best 0 0 1 := cwV 1 h (gdV k_1028 k_1029 k_1030 k_11 k_1031) rfl rfl rfl (by decide +kernel) ⟨Nat.le_of_ble_eq_true rfl, Nat.le_of_ble_eq_true rfl⟩
theorem cwL_C_parse {s : State} {args : Array Value} (h : ∀ w ∈ wA, w.before args s = true) : CallW room_1 s args RL RX9 59 yX9_parse cX9_parse 1 (some .int) (wz yX9_parse cX9_parse 1 (some .int)) rmC_CG_parse 0 0 0 := cwV 0 h (gdV k_521 k_522 k_523 k_1 k_524) rfl rfl rfl (by decide +kernel) ⟨Nat.le_of_ble_eq_true rfl, Nat.le_of_ble_eq_true rfl⟩
theorem cwL_M_parse {s : State} {args : Array Value} (h : ∀ w ∈ wA, w.before args s = true) : CallW room_1 s args RL RX10 62 yX10_parse cX10_parse 7 (some .int) (wz yX10_parse cX10_parse 7 (some .int)) rmM_parse 0 0 0 := cwV 0 h (gdV k_1032 k_1033 k_1034 k_11 k_1035) rfl rfl rfl (by decide +kernel) ⟨Nat.le_of_ble_eq_true rfl, Nat.le_of_ble_eq_true rfl⟩
theorem cwL_C_readings {s : State} {args : Array Value} (h : ∀ w ∈ wA, w.before args s = true) : CallW room_1 s args RL RX9 63 yX9_readings cX9_readings 1 (some .long) (wz yX9_readings cX9_readings 1 (some .long)) rmC_CG_readings 0 0 0 := cwV 0 h (gdV k_599 k_600 k_601 k_1 k_602) rfl rfl rfl (by decide +kernel) ⟨Nat.le_of_ble_eq_true rfl, Nat.le_of_ble_eq_true rfl⟩
theorem cwL_M_readings {s : State} {args : Array Value} (h : ∀ w ∈ wA, w.before args s = true) : CallW room_1 s args RL RX10 67 yX10_readings cX10_readings 1 (some .long) (wz yX10_readings cX10_readings 1 (some .long)) rmM_readings 0 0 0 := cwV 0 h (gdV k_1087 k_1088 k_1089 k_11 k_1090) rfl rfl rfl (by decide +kernel) ⟨Nat.le_of_ble_eq_true rfl, Nat.le_of_ble_eq_true rfl⟩
theorem cwL_C_price {s : State} {args : Array Value} (h : ∀ w ∈ wA, w.before args s = true) : CallW room_1 s args RL RX9 68 yX9_price cX9_price 2 (some .int) (wz yX9_price cX9_price 2 (some .int)) rmC_CG_price 0 0 1 := cwV 1 h (gdV k_607 k_608 k_609 k_1 k_610) rfl rfl rfl (by decide +kernel) ⟨Nat.le_of_ble_eq_true rfl, Nat.le_of_ble_eq_true rfl⟩
theorem cwL_M_price {s : State} {args : Array Value} (h : ∀ w ∈ wA, w.before args s = true) : CallW room_1 s args RL RX10 71 yX10_price cX10_price 2 (some .int) (wz yX10_price cX10_price 2 (some .int)) rmM_price 0 0 1 := cwV 1 h (gdV k_1091 k_1092 k_1093 k_11 k_1094) rfl rfl rfl (by decide +kernel) ⟨Nat.le_of_ble_eq_true rfl, Nat.le_of_ble_eq_true rfl⟩
theorem cwL_C_node {s : State} {args : Array Value} (h : ∀ w ∈ wA, w.before args s = true) : CallW room_1 s args RL RX9 72 yX9_node cX9_node 4 (some .int) (wz yX9_node cX9_node 4 (some .int)) rmC_CG_node 0 0 3 := cwV 3 h (gdV k_619 k_620 k_621 k_1 k_622) rfl rfl rfl (by decide +kernel) ⟨Nat.le_of_ble_eq_true rfl, Nat.le_of_ble_eq_true rfl⟩
theorem cwL_M_node {s : State} {args : Array Value} (h : ∀ w ∈ wA, w.before args s = true) : CallW room_1 s args RL RX10 75 yX10_node cX10_node 6 (some .int) (wz yX10_node cX10_node 6 (some .int)) rmM_node 0 0 3 := cwV 3 h (gdV k_1099 k_1100 k_1101 k_11 k_1102) rfl rfl rfl (by decide +kernel) ⟨Nat.le_of_ble_eq_true rfl, Nat.le_of_ble_eq_true rfl⟩
theorem cwL_C_nodes {s : State} {args : Array Value} (h : ∀ w ∈ wA, w.before args s = true) : CallW room_1 s args RL RX9 76 yX9_nodes cX9_nodes 2 (some .int) (wz yX9_nodes cX9_nodes 2 (some .int)) rmC_CG_nodes 0 0 1 := cwV 1 h (gdV k_658 k_659 k_660 k_1 k_661) rfl rfl rfl (by decide +kernel) ⟨Nat.le_of_ble_eq_true rfl, Nat.le_of_ble_eq_true rfl⟩
theorem cwL_M_nodes {s : State} {args : Array Value} (h : ∀ w ∈ wA, w.before args s = true) : CallW room_1 s args RL RX10 79 yX10_nodes cX10_nodes 3 (some .int) (wz yX10_nodes cX10_nodes 3 (some .int)) rmM_nodes 0 0 1 := cwV 1 h (gdV k_1119 k_1120 k_1121 k_11 k_1122) rfl rfl rfl (by decide +kernel) ⟨Nat.le_of_ble_eq_true rfl, Nat.le_of_ble_eq_true rfl⟩
theorem cwL_C_chord {s : State} {args : Array Value} (h : ∀ w ∈ wA, w.before args s = true) : CallW room_1 s args RL RX9 80 yX9_chord cX9_chord 3 (some .int) (wz yX9_chord cX9_chord 3 (some .int)) rmC_CG_chord 0 0 2 := cwV 2 h (gdV k_662 k_663 k_664 k_1 k_665) rfl rfl rfl (by decide +kernel) ⟨Nat.le_of_ble_eq_true rfl, Nat.le_of_ble_eq_true rfl⟩
theorem cwL_M_chord {s : State} {args : Array Value} (h : ∀ w ∈ wA, w.before args s = true) : CallW room_1 s args RL RX10 84 yX10_chord cX10_chord 3 (some .int) (wz yX10_chord cX10_chord 3 (some .int)) rmM_chord 0 0 2 := cwV 2 h (gdV k_1123 k_1124 k_1125 k_11 k_1126) rfl rfl rfl (by decide +kernel) ⟨Nat.le_of_ble_eq_true rfl, Nat.le_of_ble_eq_true rfl⟩
theorem cwL_C_cadence {s : State} {args : Array Value} (h : ∀ w ∈ wA, w.before args s = true) : CallW room_1 s args RL RX9 85 yX9_cadence cX9_cadence 2 (some .int) (wz yX9_cadence cX9_cadence 2 (some .int)) rmC_CG_cadence 0 0 1 := cwV 1 h (gdV k_670 k_671 k_672 k_1 k_673) rfl rfl rfl (by decide +kernel) ⟨Nat.le_of_ble_eq_true rfl, Nat.le_of_ble_eq_true rfl⟩
theorem cwL_M_cadence {s : State} {args : Array Value} (h : ∀ w ∈ wA, w.before args s = true) : CallW room_1 s args RL RX10 88 yX10_cadence cX10_cadence 4 (some .int) (wz yX10_cadence cX10_cadence 4 (some .int)) rmM_cadence 0 0 1 := cwV 1 h (gdV k_1131 k_1132 k_1133 k_11 k_1134) rfl rfl rfl (by decide +kernel) ⟨Nat.le_of_ble_eq_true rfl, Nat.le_of_ble_eq_true rfl⟩
theorem cwL_C_melody {s : State} {args : Array Value} (h : ∀ w ∈ wA, w.before args s = true) : CallW room_1 s args RL RX9 89 yX9_melody cX9_melody 5 (some .int) (wz yX9_melody cX9_melody 5 (some .int)) rmC_CG_melody 0 0 2 := cwV 2 h (gdV k_681 k_682 k_683 k_1 k_684) rfl rfl rfl (by decide +kernel) ⟨Nat.le_of_ble_eq_true rfl, Nat.le_of_ble_eq_true rfl⟩
theorem cwL_M_melody {s : State} {args : Array Value} (h : ∀ w ∈ wA, w.before args s = true) : CallW room_1 s args RL RX10 92 yX10_melody cX10_melody 10 (some .int) (wz yX10_melody cX10_melody 10 (some .int)) rmM_melody 0 0 2 := cwV 2 h (gdV k_1135 k_1136 k_1137 k_11 k_1138) rfl rfl rfl (by decide +kernel) ⟨Nat.le_of_ble_eq_true rfl, Nat.le_of_ble_eq_true rfl⟩
theorem cwL_M_cell {s : State} {args : Array Value} (h : ∀ w ∈ wA, w.before args s = true) : CallW room_1 s args RL RX10 98 yX10_cell cX10_cell 4 (some .long) (wz yX10_cell cX10_cell 4 (some .long)) rmM_cell 0 0 3 := cwV 3 h (gdV k_1148 k_1149 k_1150 k_11 k_1151) rfl rfl rfl (by decide +kernel) ⟨Nat.le_of_ble_eq_true rfl, Nat.le_of_ble_eq_true rfl⟩
theorem cwL_M_thrown {s : State} {args : Array Value} (h : ∀ w ∈ wA, w.before args s = true) : CallW room_1 s args RL RX10 99 yX10_thrown cX10_thrown 1 (some .int) (wz yX10_thrown cX10_thrown 1 (some .int)) rmM_thrown 0 0 0 := cwV 0 h (gdV k_937 k_938 k_939 k_11 k_940) rfl rfl rfl (by decide +kernel) ⟨Nat.le_of_ble_eq_true rfl, Nat.le_of_ble_eq_true rfl⟩
theorem cwL_C_told {s : State} {args : Array Value} (h : ∀ w ∈ wA, w.before args s = true) : CallW room_1 s args RL RX9 102 yX9_told cX9_told 2 (some .int) (wz yX9_told cX9_told 2 (some .int)) rmC_CG_told 0 0 1 := cwV 1 h (gdV k_701 k_702 k_703 k_1 k_704) rfl rfl rfl (by decide +kernel) ⟨Nat.le_of_ble_eq_true rfl, Nat.le_of_ble_eq_true rfl⟩
theorem cwL_M_told {s : State} {args : Array Value} (h : ∀ w ∈ wA, w.before args s = true) : CallW room_1 s args RL RX10 105 yX10_told cX10_told 2 (some .int) (wz yX10_told cX10_told 2 (some .int)) rmM_told 0 0 1 := cwV 1 h (gdV k_1152 k_1153 k_1154 k_11 k_1155) rfl rfl rfl (by decide +kernel) ⟨Nat.le_of_ble_eq_true rfl, Nat.le_of_ble_eq_true rfl⟩
/-! THE CLAIM OUT OF ONE WALK OF THE LAW'S BODY. Your part is whole_start (and what it stands on); all else here is the same for every law, but numbers. -/
def R_law : String := "ChordGrammarsLaw"
def lw_P (b : Addr) (xs : List Int32) (args : Array Value) (s : State) : Prop := args = #[.ref b] ∧ s.IntsAt b xs ∧ xs.length ≤ 2048 ∧ (Jvm.Cond.and given_1 narrow_1).before args s = true
def lw_Q (_ : Array Value) (s : State) (o : Outcome) (t : State) : Prop := o = .returned (some (.int 1)) ∧ Framed s o t [] 601024 7293034
def lw_Z (below : List Frame) (a : Array Value) (s : State) : State → Prop := fun t => ∃ o, t.status = .running ∧ Ended t below o ∧ lw_Q a s o t
/-- the law's own end, with 1 on the stack, nothing written that was there before, its room as the claim has it -/
theorem lw_ret {p : Program} {l : Launch} {e : Env} {s : State} {m : MethodId} {below : List Frame} {meth : Method} {c : Code} {b : Nat} (hx : p.tables.exec = Jvm.exec) (hb : c.code = code) (hr : meth.sig.returnType = ret) (hlocks : meth.locks = false) {pc : Nat} {H : Heap} {ls : Array Slot} (hdg : decode code pc = .ok (.ireturn, 1)) : W p l e room_1 s m #[Value.ref b] below meth c H [] 601024 7293034 (lw_Z below #[Value.ref b] s) (F0 m pc ls [.int 1]) := by
  intro T hT X
  obtain ⟨fs, hret, hrun, hended, hW, hframe⟩ := X.leave (v := some (.int 1)) (hlocks := hlocks) (fun h => by rw [hr] at h; cases h)
  have hmeth' : T.vm.method? m = some meth := X.method'
  refine ⟨T.setFrames fs, ?_, .returned (some (.int 1)), hrun, hended, rfl, ⟨_, rfl⟩, hW, hframe⟩
  jvm_step X.here [X.here.top, hx, hb, hdg, hmeth', hr, ret, narrow_b1]
  (try refine ⟨rfl, ?_⟩); (try refine ⟨rfl, ?_⟩)
  first | (intro acts; rw [hret _ acts rfl rfl rfl]) | rw [hret _ _ rfl rfl rfl]
  exact Steps.refl _
/-- what holds at the law's entry: the machine, the code, the tables' words (any of lw_tbl by 'hts w (by decide +kernel)'), the script of L ints xs at the cell b, what the Statement gives of the start (any of its parts by flat_of_before) -/
def lw_At (p : Program) (s : State) (m : MethodId) (meth : Method) (c : Code) (b L : Nat) (xs : Nat → Int32) : Prop :=
  p.tables.exec = Jvm.exec ∧ c.code = code ∧ meth.sig.returnType = ret ∧ c.maxLocals = 8 ∧ s.vm.findClass R_law = some m.cls ∧ (∀ w ∈ lw_tbl, w.before #[Value.ref b] s = true) ∧ va_X b L xs s s.heap ∧ b < s.heap.size ∧ meth.locks = false ∧ (Jvm.Cond.and given_1 narrow_1).before #[Value.ref b] s = true
theorem law_cmp {L k : Nat} (hL : L ≤ 2048) (hk : k ≤ 2051) : (Int32.ofNat L - 4 < nI k) ↔ L < k + 4 := by
  have h1 : (Int32.ofNat L - 4).toInt = (L : Int) - 4 := pk_sub_toInt (a := L) (b := 4) (by omega) (by omega)
  rw [Int32.lt_iff_toInt_lt, h1, nI_toInt (by omega)]
  omega
theorem law_lcmp (r : Int64) : lg_cmp r r = 0 := by
  unfold lg_cmp
  rw [if_neg (by simp), if_pos rfl]
set_option maxHeartbeats 16000000 in
set_option maxRecDepth 100000 in
/-- THE LAW'S LOOP, k calls done; open in cell() alone -/
theorem law_loop_open {p : Program} {l : Launch} {e : Env} {s : State} {m : MethodId} {below : List Frame} {meth : Method} {c : Code} {E1 E2 : Ev} {oa b L : Nat} {xs : Nat → Int32} {Sim : St → St → Prop} (hL : L ≤ 2048) (C0 : lw_At p s m meth c b L xs) (hsim : SimOk Sim) (okc : okC E1 (fun q : Nat => s.heap.size ≤ q) s) (okm : okM E2 (fun q : Nat => s.heap.size ≤ q) s)
    (hcell : ∀ (σ τ : St) (f : Nat → Int64) (y1 y2 y3 : Int32) (H : Heap) (locs : List Loc) (ls : Array Slot) (cells slots : Nat), wsL E1 E2 oa σ τ f (fun q : Nat => s.heap.size ≤ q) s H locs → ls.size = 8 → cells + 1 ≤ room_1.cells → slots + 6 ≤ room_1.slots → (¬ cTh σ y1 y2 y3 → ∃ v, C_Chart_countOf σ y3 y1 y2 = some v) → (∀ (H1 : Heap) (locs1 : List Loc) (f1 : Nat → Int64) (k : Int32), wsL E1 E2 oa σ τ f1 (fun q : Nat => s.heap.size ≤ q) s H1 locs1 → (cTh σ y1 y2 y3 → k = 1) → (¬ cTh σ y1 y2 y3 → k = 0 ∧ C_Chart_countOf σ y3 y1 y2 = some (f1 0)) → W p l e room_1 s m #[Value.ref b] below meth c H1 locs1 (cells + 1) (slots + 6) (lw_Z below #[Value.ref b] s) (F0 m 680 ls [.int k])) → W p l e room_1 s m #[Value.ref b] below meth c H locs cells slots (lw_Z below #[Value.ref b] s) (F0 m 677 ls [.ref oa, .int y3, .int y2, .int y1, .ref (E1.2.2 1000)])) :
    ∀ (n k : Nat), 4 * k ≤ L + 3 → L + 4 ≤ 4 * (k + n) → ∀ (x4 : Int32), x4 = nI (4 * k) → ∀ (σ τ : St) (f : Nat → Int64), Sim σ τ → ∀ (H : Heap) (locs : List Loc), wsL E1 E2 oa σ τ f (fun q : Nat => s.heap.size ≤ q) s H locs → ∀ (ls : Array Slot), lv_has ls 8 [(0, .ref b), (1, .ref (E1.2.2 1000)), (2, .ref (E2.2.2 1000)), (3, .ref oa), (4, .int x4)] → W p l e room_1 s m #[Value.ref b] below meth c H locs (83 + k) (750167 + 6 * k) (lw_Z below #[Value.ref b] s) (F0 m 23 ls []) := by
  obtain ⟨hx, hb, hr, hml, hown, hts, hX, hbl, hlocks, hgv⟩ := C0
  have hA9 : ∀ w ∈ wA, w.before #[Value.ref b] s = true := wA_hts hts
  have hA : ∀ q : Nat, s.heap.size ≤ q → (fun q : Nat => s.heap.size ≤ q) q := fun _ h => h
  have hbA : ¬ (fun q : Nat => s.heap.size ≤ q) b := Nat.not_le.mpr hbl
  obtain ⟨s_key, s_cost, s_draft, s_grammar, s_slot, s_clear, s_fit, s_best, s_parse, s_readings, s_price, s_node, s_nodes, s_chord, s_cadence, s_melody, s_told, s_cell⟩ := hsim
  intro n
  induction n with
  | zero =>
    intro k h1 h2
    exact absurd h2 (by omega)
  | succ n ih =>
    intro k hk hkn x4 ex4 σ τ f hS H locs hw ls hl
    refine lv_iload hx hb dL_law_23 (lv_at hl 4 rfl) ?_
    refine lv_aload_n hx hb dL_law_25 rfl (lv_at hl 0 rfl) ?_
    refine va_slen hx hb hX hbl hbA hw.1.2.2 dL_law_26 ?_
    refine lv_iconst (v := (4 : Int32)) hx hb dL_law_27 (by decide) ?_
    refine lv_isub hx hb dL_law_28 ?_
    have hcmp : (Int32.ofNat L - 4 < x4) ↔ L < 4 * k + 4 := by
      rw [ex4]
      exact law_cmp hL (by omega)
    refine lv_icmp_gt (tgt := 767) hx hb dL_law_29 (by decide) (fun c1 => ?_) (fun c1 => ?_)
    · refine lv_iconst (v := 1) hx hb dL_law_767 (by decide) ?_
      refine va_forget (fun q hq => hw.1.2.2.2.2 q hq) ?_
      refine W.widen (k := 601024) (n := 7293034) (by omega) (by omega) ?_
      exact lw_ret hx hb hr hlocks dL_law_768
    · have hlt : 4 * k + 4 ≤ L := Nat.not_lt.mp (fun z => c1 (hcmp.mpr z))
      have e1 : x4 + (1 : Int32) = nI (4 * k + 1) := by rw [ex4]; exact nI_add (4 * k) 1
      have e2 : x4 + (2 : Int32) = nI (4 * k + 2) := by rw [ex4]; exact nI_add (4 * k) 2
      have e3 : x4 + (3 : Int32) = nI (4 * k + 3) := by rw [ex4]; exact nI_add (4 * k) 3
      have g0 : vp_in x4 L := by rw [ex4]; exact vp_in_nI (by omega) (by omega)
      have g1 : vp_in (x4 + (1 : Int32)) L := by rw [e1]; exact vp_in_nI (by omega) (by omega)
      have g2 : vp_in (x4 + (2 : Int32)) L := by rw [e2]; exact vp_in_nI (by omega) (by omega)
      have g3 : vp_in (x4 + (3 : Int32)) L := by rw [e3]; exact vp_in_nI (by omega) (by omega)
      have hcs : (83 + k) ≤ room_1.cells ∧ (750167 + 6 * k) ≤ room_1.slots := ⟨show 83 + k ≤ 601024 by omega, show 750167 + 6 * k ≤ 7293034 by omega⟩
      have fin : ∀ (σ τ : St) (f : Nat → Int64) (H : Heap) (locs : List Loc) (ls : Array Slot), Sim σ τ → wsL E1 E2 oa σ τ f (fun q : Nat => s.heap.size ≤ q) s H locs → lv_has ls 8 [(0, .ref b), (1, .ref (E1.2.2 1000)), (2, .ref (E2.2.2 1000)), (3, .ref oa), (4, .int x4)] → W p l e room_1 s m #[Value.ref b] below meth c H locs (83 + k + 1) (750167 + 6 * k + 6) (lw_Z below #[Value.ref b] s) (F0 m 761 ls []) := by
        intro σ τ f H locs ls hS hw hl
        obtain ⟨x9, e9⟩ : ∃ y : Int32, y = x4 + 4 := ⟨_, rfl⟩
        refine lv_iinc (v := x9) (lv' := [(4, .int x9), (0, .ref b), (1, .ref (E1.2.2 1000)), (2, .ref (E2.2.2 1000)), (3, .ref oa)]) hx hb dL_law_761 hl (k := 4) rfl (by rw [e9]; rfl) (by decide) rfl (fun ls hl => ?_)
        refine lv_goto (tgt := 23) hx hb dL_law_764 (by decide) ?_
        refine W.widen (k := 83 + (k + 1)) (n := 750167 + 6 * (k + 1)) (by omega) (by omega) ?_
        exact ih (k + 1) (by omega) (by omega) x9 (by rw [e9, ex4]; exact nI_add (4 * k) 4) σ τ f hS H locs hw ls (lv_sub hl [1, 2, 3, 4, 0] rfl)
      have fin0 : ∀ (σ τ : St) (f : Nat → Int64) (H : Heap) (locs : List Loc) (ls : Array Slot), Sim σ τ → wsL E1 E2 oa σ τ f (fun q : Nat => s.heap.size ≤ q) s H locs → lv_has ls 8 [(0, .ref b), (1, .ref (E1.2.2 1000)), (2, .ref (E2.2.2 1000)), (3, .ref oa), (4, .int x4)] → W p l e room_1 s m #[Value.ref b] below meth c H locs (83 + k) (750167 + 6 * k) (lw_Z below #[Value.ref b] s) (F0 m 761 ls []) := by
        intro σ τ f H locs ls hS hw hl
        exact W.widen (by omega) (by omega) (fin σ τ f H locs ls hS hw hl)
      refine lv_aload_n hx hb dL_law_32 rfl (lv_at hl 0 rfl) ?_
      refine lv_iload hx hb dL_law_33 (lv_at hl 4 rfl) ?_
      refine va_sld hx hb hX hbl hbA hw.1.2.2 g0 dL_law_35 ?_
      refine lv_bipush (v := (31 : Int32)) hx hb dL_law_36 (by decide) ?_
      refine lv_iand hx hb dL_law_38 ?_
      refine lv_topi (fun z ez => ?_)
      by_cases c100 : z = (0 : Int32)
      · refine lv_tableIn (tgt := 124) hx hb dL_law_39 (by rw [c100]; decide) (by rw [c100]; decide) (by rw [c100]; rfl) (by decide) ?_
        refine lv_aload_n hx hb dL_law_124 rfl (lv_at hl 1 rfl) ?_
        refine lv_aload_n hx hb dL_law_125 rfl (lv_at hl 0 rfl) ?_
        refine lv_iload hx hb dL_law_126 (lv_at hl 4 rfl) ?_
        refine lv_iconst (v := (1 : Int32)) hx hb dL_law_128 (by decide) ?_
        refine lv_iadd hx hb dL_law_129 ?_
        refine va_sld hx hb hX hbl hbA hw.1.2.2 g1 dL_law_130 ?_
        refine lv_aload_n hx hb dL_law_131 rfl (lv_at hl 0 rfl) ?_
        refine lv_iload hx hb dL_law_132 (lv_at hl 4 rfl) ?_
        refine lv_iconst (v := (2 : Int32)) hx hb dL_law_134 (by decide) ?_
        refine lv_iadd hx hb dL_law_135 ?_
        refine va_sld hx hb hX hbl hbA hw.1.2.2 g2 dL_law_136 ?_
        refine lv_if_eq (tgt := 144) hx hb dL_law_137 (by decide) (fun cz => ?_) (fun cz => ?_)
        · refine lv_iconst (v := (0 : Int32)) hx hb dL_law_144 (by decide) ?_
          obtain ⟨r, σ', τ', hc, hm, hS⟩ := s_key σ τ (xs (x4 + (1 : Int32)).toNatClampNeg) (0 : Int32) hS (by decide)
          refine clL_Ci (As := [.int (xs (x4 + (1 : Int32)).toNatClampNeg), .int (0 : Int32)]) (rest := []) hx hb hml hown hA9 hl.1 okc hw hA (cC_CG_key l E1 _ σ σ' (xs (x4 + (1 : Int32)).toNatClampNeg) (0 : Int32) r hc) (cwL_C_key hA9) rfl rfl (Nat.le_of_ble_eq_true rfl) hcs dL_law_145 (fun H locs hw => ?_)
          refine lv_aload_n hx hb dL_law_148 rfl (lv_at hl 2 rfl) ?_
          refine lv_aload_n hx hb dL_law_149 rfl (lv_at hl 0 rfl) ?_
          refine lv_iload hx hb dL_law_150 (lv_at hl 4 rfl) ?_
          refine lv_iconst (v := (1 : Int32)) hx hb dL_law_152 (by decide) ?_
          refine lv_iadd hx hb dL_law_153 ?_
          refine va_sld hx hb hX hbl hbA hw.1.2.2 g1 dL_law_154 ?_
          refine lv_aload_n hx hb dL_law_155 rfl (lv_at hl 0 rfl) ?_
          refine lv_iload hx hb dL_law_156 (lv_at hl 4 rfl) ?_
          refine lv_iconst (v := (2 : Int32)) hx hb dL_law_158 (by decide) ?_
          refine lv_iadd hx hb dL_law_159 ?_
          refine va_sld hx hb hX hbl hbA hw.1.2.2 g2 dL_law_160 ?_
          refine lv_if_eq (tgt := 168) hx hb dL_law_161 (by decide) (fun _ => ?_) (fun z => absurd cz z)
          refine lv_iconst (v := (0 : Int32)) hx hb dL_law_168 (by decide) ?_
          refine clL_Mi (As := [.int (xs (x4 + (1 : Int32)).toNatClampNeg), .int (0 : Int32)]) (rest := [.int r]) hx hb hml hown hA9 hl.1 okm hw hA (cM_key l E2 _ τ τ' (xs (x4 + (1 : Int32)).toNatClampNeg) (0 : Int32) r hm) (cwL_M_key hA9) rfl rfl (Nat.le_of_ble_eq_true rfl) hcs dL_law_169 (fun H locs hw => ?_)
          refine lv_icmp_eq (tgt := 761) hx hb dL_law_172 (by decide) (fun _ => ?_) (fun z => absurd rfl z)
          exact fin0 σ' τ' f H locs ls hS hw hl
        · refine lv_iconst (v := (1 : Int32)) hx hb dL_law_140 (by decide) ?_
          refine lv_goto (tgt := 145) hx hb dL_law_141 (by decide) ?_
          obtain ⟨r, σ', τ', hc, hm, hS⟩ := s_key σ τ (xs (x4 + (1 : Int32)).toNatClampNeg) (1 : Int32) hS (by decide)
          refine clL_Ci (As := [.int (xs (x4 + (1 : Int32)).toNatClampNeg), .int (1 : Int32)]) (rest := []) hx hb hml hown hA9 hl.1 okc hw hA (cC_CG_key l E1 _ σ σ' (xs (x4 + (1 : Int32)).toNatClampNeg) (1 : Int32) r hc) (cwL_C_key hA9) rfl rfl (Nat.le_of_ble_eq_true rfl) hcs dL_law_145 (fun H locs hw => ?_)
          refine lv_aload_n hx hb dL_law_148 rfl (lv_at hl 2 rfl) ?_
          refine lv_aload_n hx hb dL_law_149 rfl (lv_at hl 0 rfl) ?_
          refine lv_iload hx hb dL_law_150 (lv_at hl 4 rfl) ?_
          refine lv_iconst (v := (1 : Int32)) hx hb dL_law_152 (by decide) ?_
          refine lv_iadd hx hb dL_law_153 ?_
          refine va_sld hx hb hX hbl hbA hw.1.2.2 g1 dL_law_154 ?_
          refine lv_aload_n hx hb dL_law_155 rfl (lv_at hl 0 rfl) ?_
          refine lv_iload hx hb dL_law_156 (lv_at hl 4 rfl) ?_
          refine lv_iconst (v := (2 : Int32)) hx hb dL_law_158 (by decide) ?_
          refine lv_iadd hx hb dL_law_159 ?_
          refine va_sld hx hb hX hbl hbA hw.1.2.2 g2 dL_law_160 ?_
          refine lv_if_eq (tgt := 168) hx hb dL_law_161 (by decide) (fun z => absurd z cz) (fun _ => ?_)
          refine lv_iconst (v := (1 : Int32)) hx hb dL_law_164 (by decide) ?_
          refine lv_goto (tgt := 169) hx hb dL_law_165 (by decide) ?_
          refine clL_Mi (As := [.int (xs (x4 + (1 : Int32)).toNatClampNeg), .int (1 : Int32)]) (rest := [.int r]) hx hb hml hown hA9 hl.1 okm hw hA (cM_key l E2 _ τ τ' (xs (x4 + (1 : Int32)).toNatClampNeg) (1 : Int32) r hm) (cwL_M_key hA9) rfl rfl (Nat.le_of_ble_eq_true rfl) hcs dL_law_169 (fun H locs hw => ?_)
          refine lv_icmp_eq (tgt := 761) hx hb dL_law_172 (by decide) (fun _ => ?_) (fun z => absurd rfl z)
          exact fin0 σ' τ' f H locs ls hS hw hl
      by_cases c101 : z = (1 : Int32)
      · refine lv_tableIn (tgt := 177) hx hb dL_law_39 (by rw [c101]; decide) (by rw [c101]; decide) (by rw [c101]; rfl) (by decide) ?_
        refine lv_aload_n hx hb dL_law_177 rfl (lv_at hl 1 rfl) ?_
        refine lv_aload_n hx hb dL_law_178 rfl (lv_at hl 0 rfl) ?_
        refine lv_iload hx hb dL_law_179 (lv_at hl 4 rfl) ?_
        refine lv_iconst (v := (1 : Int32)) hx hb dL_law_181 (by decide) ?_
        refine lv_iadd hx hb dL_law_182 ?_
        refine va_sld hx hb hX hbl hbA hw.1.2.2 g1 dL_law_183 ?_
        refine lv_aload_n hx hb dL_law_184 rfl (lv_at hl 0 rfl) ?_
        refine lv_iload hx hb dL_law_185 (lv_at hl 4 rfl) ?_
        refine lv_iconst (v := (2 : Int32)) hx hb dL_law_187 (by decide) ?_
        refine lv_iadd hx hb dL_law_188 ?_
        refine va_sld hx hb hX hbl hbA hw.1.2.2 g2 dL_law_189 ?_
        obtain ⟨r, σ', τ', hc, hm, hS⟩ := s_cost σ τ (xs (x4 + (1 : Int32)).toNatClampNeg) (xs (x4 + (2 : Int32)).toNatClampNeg) hS
        refine clL_Ci (As := [.int (xs (x4 + (1 : Int32)).toNatClampNeg), .int (xs (x4 + (2 : Int32)).toNatClampNeg)]) (rest := []) hx hb hml hown hA9 hl.1 okc hw hA (cC_CG_cost l E1 _ σ σ' (xs (x4 + (1 : Int32)).toNatClampNeg) (xs (x4 + (2 : Int32)).toNatClampNeg) r hc) (cwL_C_cost hA9) rfl rfl (Nat.le_of_ble_eq_true rfl) hcs dL_law_190 (fun H locs hw => ?_)
        refine lv_aload_n hx hb dL_law_193 rfl (lv_at hl 2 rfl) ?_
        refine lv_aload_n hx hb dL_law_194 rfl (lv_at hl 0 rfl) ?_
        refine lv_iload hx hb dL_law_195 (lv_at hl 4 rfl) ?_
        refine lv_iconst (v := (1 : Int32)) hx hb dL_law_197 (by decide) ?_
        refine lv_iadd hx hb dL_law_198 ?_
        refine va_sld hx hb hX hbl hbA hw.1.2.2 g1 dL_law_199 ?_
        refine lv_aload_n hx hb dL_law_200 rfl (lv_at hl 0 rfl) ?_
        refine lv_iload hx hb dL_law_201 (lv_at hl 4 rfl) ?_
        refine lv_iconst (v := (2 : Int32)) hx hb dL_law_203 (by decide) ?_
        refine lv_iadd hx hb dL_law_204 ?_
        refine va_sld hx hb hX hbl hbA hw.1.2.2 g2 dL_law_205 ?_
        refine clL_Mi (As := [.int (xs (x4 + (1 : Int32)).toNatClampNeg), .int (xs (x4 + (2 : Int32)).toNatClampNeg)]) (rest := [.int r]) hx hb hml hown hA9 hl.1 okm hw hA (cM_cost l E2 _ τ τ' (xs (x4 + (1 : Int32)).toNatClampNeg) (xs (x4 + (2 : Int32)).toNatClampNeg) r hm) (cwL_M_cost hA9) rfl rfl (Nat.le_of_ble_eq_true rfl) hcs dL_law_206 (fun H locs hw => ?_)
        refine lv_icmp_eq (tgt := 761) hx hb dL_law_209 (by decide) (fun _ => ?_) (fun z => absurd rfl z)
        exact fin0 σ' τ' f H locs ls hS hw hl
      by_cases c102 : z = (2 : Int32)
      · refine lv_tableIn (tgt := 214) hx hb dL_law_39 (by rw [c102]; decide) (by rw [c102]; decide) (by rw [c102]; rfl) (by decide) ?_
        refine lv_aload_n hx hb dL_law_214 rfl (lv_at hl 1 rfl) ?_
        refine lv_aload_n hx hb dL_law_215 rfl (lv_at hl 0 rfl) ?_
        refine lv_iload hx hb dL_law_216 (lv_at hl 4 rfl) ?_
        refine lv_iconst (v := (1 : Int32)) hx hb dL_law_218 (by decide) ?_
        refine lv_iadd hx hb dL_law_219 ?_
        refine va_sld hx hb hX hbl hbA hw.1.2.2 g1 dL_law_220 ?_
        refine lv_aload_n hx hb dL_law_221 rfl (lv_at hl 0 rfl) ?_
        refine lv_iload hx hb dL_law_222 (lv_at hl 4 rfl) ?_
        refine lv_iconst (v := (2 : Int32)) hx hb dL_law_224 (by decide) ?_
        refine lv_iadd hx hb dL_law_225 ?_
        refine va_sld hx hb hX hbl hbA hw.1.2.2 g2 dL_law_226 ?_
        refine lv_i2l hx hb dL_law_227 rfl ?_
        refine lv_bipush (v := (32 : Int32)) hx hb dL_law_228 (by decide) ?_
        refine lv_lshl hx hb dL_law_230 rfl ?_
        refine lv_aload_n hx hb dL_law_231 rfl (lv_at hl 0 rfl) ?_
        refine lv_iload hx hb dL_law_232 (lv_at hl 4 rfl) ?_
        refine lv_iconst (v := (3 : Int32)) hx hb dL_law_234 (by decide) ?_
        refine lv_iadd hx hb dL_law_235 ?_
        refine va_sld hx hb hX hbl hbA hw.1.2.2 g3 dL_law_236 ?_
        refine lv_i2l hx hb dL_law_237 rfl ?_
        refine W.ldc2 (v := (4294967295 : Int64)) hx hb hown (hA9 _ k_1156) rfl dL_law_238 ?_
        refine W.eq (g2 := F0 m 241 ls [.long (4294967295 : Int64), .long ((xs (x4 + (3 : Int32)).toNatClampNeg).toInt64), .long (((xs (x4 + (2 : Int32)).toNatClampNeg).toInt64) <<< ((32 : Int32).toInt64 &&& 63)), .int (xs (x4 + (1 : Int32)).toNatClampNeg), .ref (E1.2.2 1000)]) rfl ?_
        refine lv_land hx hb dL_law_241 ?_
        refine lv_lor hx hb dL_law_242 ?_
        obtain ⟨n1, n2, r, σ', τ', hc, hm, hS⟩ := s_draft σ τ (xs (x4 + (1 : Int32)).toNatClampNeg) ((((xs (x4 + (2 : Int32)).toNatClampNeg).toInt64) <<< ((32 : Int32).toInt64 &&& 63)) ||| (((xs (x4 + (3 : Int32)).toNatClampNeg).toInt64) &&& (4294967295 : Int64))) hS
        refine clL_Ci (As := [.int (xs (x4 + (1 : Int32)).toNatClampNeg), .long ((((xs (x4 + (2 : Int32)).toNatClampNeg).toInt64) <<< ((32 : Int32).toInt64 &&& 63)) ||| (((xs (x4 + (3 : Int32)).toNatClampNeg).toInt64) &&& (4294967295 : Int64)))]) (rest := []) hx hb hml hown hA9 hl.1 okc hw hA (cC_CG_draft l E1 n1 _ σ σ' (xs (x4 + (1 : Int32)).toNatClampNeg) ((((xs (x4 + (2 : Int32)).toNatClampNeg).toInt64) <<< ((32 : Int32).toInt64 &&& 63)) ||| (((xs (x4 + (3 : Int32)).toNatClampNeg).toInt64) &&& (4294967295 : Int64))) r hc) (cwL_C_draft hA9) rfl rfl (Nat.le_of_ble_eq_true rfl) hcs dL_law_243 (fun H locs hw => ?_)
        refine lv_aload_n hx hb dL_law_246 rfl (lv_at hl 2 rfl) ?_
        refine lv_aload_n hx hb dL_law_247 rfl (lv_at hl 0 rfl) ?_
        refine lv_iload hx hb dL_law_248 (lv_at hl 4 rfl) ?_
        refine lv_iconst (v := (1 : Int32)) hx hb dL_law_250 (by decide) ?_
        refine lv_iadd hx hb dL_law_251 ?_
        refine va_sld hx hb hX hbl hbA hw.1.2.2 g1 dL_law_252 ?_
        refine lv_aload_n hx hb dL_law_253 rfl (lv_at hl 0 rfl) ?_
        refine lv_iload hx hb dL_law_254 (lv_at hl 4 rfl) ?_
        refine lv_iconst (v := (2 : Int32)) hx hb dL_law_256 (by decide) ?_
        refine lv_iadd hx hb dL_law_257 ?_
        refine va_sld hx hb hX hbl hbA hw.1.2.2 g2 dL_law_258 ?_
        refine lv_i2l hx hb dL_law_259 rfl ?_
        refine lv_bipush (v := (32 : Int32)) hx hb dL_law_260 (by decide) ?_
        refine lv_lshl hx hb dL_law_262 rfl ?_
        refine lv_aload_n hx hb dL_law_263 rfl (lv_at hl 0 rfl) ?_
        refine lv_iload hx hb dL_law_264 (lv_at hl 4 rfl) ?_
        refine lv_iconst (v := (3 : Int32)) hx hb dL_law_266 (by decide) ?_
        refine lv_iadd hx hb dL_law_267 ?_
        refine va_sld hx hb hX hbl hbA hw.1.2.2 g3 dL_law_268 ?_
        refine lv_i2l hx hb dL_law_269 rfl ?_
        refine W.ldc2 (v := (4294967295 : Int64)) hx hb hown (hA9 _ k_1156) rfl dL_law_270 ?_
        refine W.eq (g2 := F0 m 273 ls [.long (4294967295 : Int64), .long ((xs (x4 + (3 : Int32)).toNatClampNeg).toInt64), .long (((xs (x4 + (2 : Int32)).toNatClampNeg).toInt64) <<< ((32 : Int32).toInt64 &&& 63)), .int (xs (x4 + (1 : Int32)).toNatClampNeg), .ref (E2.2.2 1000), .int r]) rfl ?_
        refine lv_land hx hb dL_law_273 ?_
        refine lv_lor hx hb dL_law_274 ?_
        refine clL_Mi (As := [.int (xs (x4 + (1 : Int32)).toNatClampNeg), .long ((((xs (x4 + (2 : Int32)).toNatClampNeg).toInt64) <<< ((32 : Int32).toInt64 &&& 63)) ||| (((xs (x4 + (3 : Int32)).toNatClampNeg).toInt64) &&& (4294967295 : Int64)))]) (rest := [.int r]) hx hb hml hown hA9 hl.1 okm hw hA (cM_draft l E2 n2 _ τ τ' (xs (x4 + (1 : Int32)).toNatClampNeg) ((((xs (x4 + (2 : Int32)).toNatClampNeg).toInt64) <<< ((32 : Int32).toInt64 &&& 63)) ||| (((xs (x4 + (3 : Int32)).toNatClampNeg).toInt64) &&& (4294967295 : Int64))) r hm) (cwL_M_draft hA9) rfl rfl (Nat.le_of_ble_eq_true rfl) hcs dL_law_275 (fun H locs hw => ?_)
        refine lv_icmp_eq (tgt := 761) hx hb dL_law_278 (by decide) (fun _ => ?_) (fun z => absurd rfl z)
        exact fin0 σ' τ' f H locs ls hS hw hl
      by_cases c103 : z = (3 : Int32)
      · refine lv_tableIn (tgt := 283) hx hb dL_law_39 (by rw [c103]; decide) (by rw [c103]; decide) (by rw [c103]; rfl) (by decide) ?_
        refine lv_aload_n hx hb dL_law_283 rfl (lv_at hl 1 rfl) ?_
        obtain ⟨n1, n2, r, σ', τ', hc, hm, hS⟩ := s_grammar σ τ hS
        refine clL_Ci (As := []) (rest := []) hx hb hml hown hA9 hl.1 okc hw hA (cC_CG_grammar l E1 n1 _ σ σ' r hc) (cwL_C_grammar hA9) rfl rfl (Nat.le_of_ble_eq_true rfl) hcs dL_law_284 (fun H locs hw => ?_)
        refine lv_aload_n hx hb dL_law_287 rfl (lv_at hl 2 rfl) ?_
        refine clL_Mi (As := []) (rest := [.int r]) hx hb hml hown hA9 hl.1 okm hw hA (cM_grammar l E2 n2 _ τ τ' r hm) (cwL_M_grammar hA9) rfl rfl (Nat.le_of_ble_eq_true rfl) hcs dL_law_288 (fun H locs hw => ?_)
        refine lv_icmp_eq (tgt := 761) hx hb dL_law_291 (by decide) (fun _ => ?_) (fun z => absurd rfl z)
        exact fin0 σ' τ' f H locs ls hS hw hl
      by_cases c104 : z = (4 : Int32)
      · refine lv_tableIn (tgt := 296) hx hb dL_law_39 (by rw [c104]; decide) (by rw [c104]; decide) (by rw [c104]; rfl) (by decide) ?_
        refine lv_aload_n hx hb dL_law_296 rfl (lv_at hl 1 rfl) ?_
        refine lv_aload_n hx hb dL_law_297 rfl (lv_at hl 0 rfl) ?_
        refine lv_iload hx hb dL_law_298 (lv_at hl 4 rfl) ?_
        refine lv_iconst (v := (1 : Int32)) hx hb dL_law_300 (by decide) ?_
        refine lv_iadd hx hb dL_law_301 ?_
        refine va_sld hx hb hX hbl hbA hw.1.2.2 g1 dL_law_302 ?_
        refine lv_aload_n hx hb dL_law_303 rfl (lv_at hl 0 rfl) ?_
        refine lv_iload hx hb dL_law_304 (lv_at hl 4 rfl) ?_
        refine lv_iconst (v := (2 : Int32)) hx hb dL_law_306 (by decide) ?_
        refine lv_iadd hx hb dL_law_307 ?_
        refine va_sld hx hb hX hbl hbA hw.1.2.2 g2 dL_law_308 ?_
        refine lv_aload_n hx hb dL_law_309 rfl (lv_at hl 0 rfl) ?_
        refine lv_iload hx hb dL_law_310 (lv_at hl 4 rfl) ?_
        refine lv_iconst (v := (3 : Int32)) hx hb dL_law_312 (by decide) ?_
        refine lv_iadd hx hb dL_law_313 ?_
        refine va_sld hx hb hX hbl hbA hw.1.2.2 g3 dL_law_314 ?_
        obtain ⟨r, σ', τ', hc, hm, hS⟩ := s_slot σ τ (xs (x4 + (1 : Int32)).toNatClampNeg) (xs (x4 + (2 : Int32)).toNatClampNeg) (xs (x4 + (3 : Int32)).toNatClampNeg) hS
        refine clL_Ci (As := [.int (xs (x4 + (1 : Int32)).toNatClampNeg), .int (xs (x4 + (2 : Int32)).toNatClampNeg), .int (xs (x4 + (3 : Int32)).toNatClampNeg)]) (rest := []) hx hb hml hown hA9 hl.1 okc hw hA (cC_CG_slot l E1 _ σ σ' (xs (x4 + (1 : Int32)).toNatClampNeg) (xs (x4 + (2 : Int32)).toNatClampNeg) (xs (x4 + (3 : Int32)).toNatClampNeg) r hc) (cwL_C_slot hA9) rfl rfl (Nat.le_of_ble_eq_true rfl) hcs dL_law_315 (fun H locs hw => ?_)
        refine lv_aload_n hx hb dL_law_318 rfl (lv_at hl 2 rfl) ?_
        refine lv_aload_n hx hb dL_law_319 rfl (lv_at hl 0 rfl) ?_
        refine lv_iload hx hb dL_law_320 (lv_at hl 4 rfl) ?_
        refine lv_iconst (v := (1 : Int32)) hx hb dL_law_322 (by decide) ?_
        refine lv_iadd hx hb dL_law_323 ?_
        refine va_sld hx hb hX hbl hbA hw.1.2.2 g1 dL_law_324 ?_
        refine lv_aload_n hx hb dL_law_325 rfl (lv_at hl 0 rfl) ?_
        refine lv_iload hx hb dL_law_326 (lv_at hl 4 rfl) ?_
        refine lv_iconst (v := (2 : Int32)) hx hb dL_law_328 (by decide) ?_
        refine lv_iadd hx hb dL_law_329 ?_
        refine va_sld hx hb hX hbl hbA hw.1.2.2 g2 dL_law_330 ?_
        refine lv_aload_n hx hb dL_law_331 rfl (lv_at hl 0 rfl) ?_
        refine lv_iload hx hb dL_law_332 (lv_at hl 4 rfl) ?_
        refine lv_iconst (v := (3 : Int32)) hx hb dL_law_334 (by decide) ?_
        refine lv_iadd hx hb dL_law_335 ?_
        refine va_sld hx hb hX hbl hbA hw.1.2.2 g3 dL_law_336 ?_
        refine clL_Mi (As := [.int (xs (x4 + (1 : Int32)).toNatClampNeg), .int (xs (x4 + (2 : Int32)).toNatClampNeg), .int (xs (x4 + (3 : Int32)).toNatClampNeg)]) (rest := [.int r]) hx hb hml hown hA9 hl.1 okm hw hA (cM_slot l E2 _ τ τ' (xs (x4 + (1 : Int32)).toNatClampNeg) (xs (x4 + (2 : Int32)).toNatClampNeg) (xs (x4 + (3 : Int32)).toNatClampNeg) r hm) (cwL_M_slot hA9) rfl rfl (Nat.le_of_ble_eq_true rfl) hcs dL_law_337 (fun H locs hw => ?_)
        refine lv_icmp_eq (tgt := 761) hx hb dL_law_340 (by decide) (fun _ => ?_) (fun z => absurd rfl z)
        exact fin0 σ' τ' f H locs ls hS hw hl
      by_cases c105 : z = (5 : Int32)
      · refine lv_tableIn (tgt := 345) hx hb dL_law_39 (by rw [c105]; decide) (by rw [c105]; decide) (by rw [c105]; rfl) (by decide) ?_
        refine lv_aload_n hx hb dL_law_345 rfl (lv_at hl 1 rfl) ?_
        obtain ⟨r, σ', τ', hc, hm, hS⟩ := s_clear σ τ hS
        refine clL_Ci (As := []) (rest := []) hx hb hml hown hA9 hl.1 okc hw hA (cC_CG_clear l E1 _ σ σ' r hc) (cwL_C_clear hA9) rfl rfl (Nat.le_of_ble_eq_true rfl) hcs dL_law_346 (fun H locs hw => ?_)
        refine lv_aload_n hx hb dL_law_349 rfl (lv_at hl 2 rfl) ?_
        refine clL_Mi (As := []) (rest := [.int r]) hx hb hml hown hA9 hl.1 okm hw hA (cM_clear l E2 _ τ τ' r hm) (cwL_M_clear hA9) rfl rfl (Nat.le_of_ble_eq_true rfl) hcs dL_law_350 (fun H locs hw => ?_)
        refine lv_icmp_eq (tgt := 761) hx hb dL_law_353 (by decide) (fun _ => ?_) (fun z => absurd rfl z)
        exact fin0 σ' τ' f H locs ls hS hw hl
      by_cases c106 : z = (6 : Int32)
      · refine lv_tableIn (tgt := 358) hx hb dL_law_39 (by rw [c106]; decide) (by rw [c106]; decide) (by rw [c106]; rfl) (by decide) ?_
        refine lv_aload_n hx hb dL_law_358 rfl (lv_at hl 1 rfl) ?_
        refine lv_aload_n hx hb dL_law_359 rfl (lv_at hl 0 rfl) ?_
        refine lv_iload hx hb dL_law_360 (lv_at hl 4 rfl) ?_
        refine lv_iconst (v := (1 : Int32)) hx hb dL_law_362 (by decide) ?_
        refine lv_iadd hx hb dL_law_363 ?_
        refine va_sld hx hb hX hbl hbA hw.1.2.2 g1 dL_law_364 ?_
        refine lv_aload_n hx hb dL_law_365 rfl (lv_at hl 0 rfl) ?_
        refine lv_iload hx hb dL_law_366 (lv_at hl 4 rfl) ?_
        refine lv_iconst (v := (2 : Int32)) hx hb dL_law_368 (by decide) ?_
        refine lv_iadd hx hb dL_law_369 ?_
        refine va_sld hx hb hX hbl hbA hw.1.2.2 g2 dL_law_370 ?_
        refine lv_aload_n hx hb dL_law_371 rfl (lv_at hl 0 rfl) ?_
        refine lv_iload hx hb dL_law_372 (lv_at hl 4 rfl) ?_
        refine lv_iconst (v := (3 : Int32)) hx hb dL_law_374 (by decide) ?_
        refine lv_iadd hx hb dL_law_375 ?_
        refine va_sld hx hb hX hbl hbA hw.1.2.2 g3 dL_law_376 ?_
        obtain ⟨n2, r, τ', hc, hm, hS⟩ := s_fit σ τ (xs (x4 + (1 : Int32)).toNatClampNeg) (xs (x4 + (2 : Int32)).toNatClampNeg) (xs (x4 + (3 : Int32)).toNatClampNeg) hS
        refine clL_Ci (As := [.int (xs (x4 + (1 : Int32)).toNatClampNeg), .int (xs (x4 + (2 : Int32)).toNatClampNeg), .int (xs (x4 + (3 : Int32)).toNatClampNeg)]) (rest := []) hx hb hml hown hA9 hl.1 okc hw hA (cC_CG_fit l E1 _ σ (xs (x4 + (1 : Int32)).toNatClampNeg) (xs (x4 + (2 : Int32)).toNatClampNeg) (xs (x4 + (3 : Int32)).toNatClampNeg) r hc) (cwL_C_fit hA9) rfl rfl (Nat.le_of_ble_eq_true rfl) hcs dL_law_377 (fun H locs hw => ?_)
        refine lv_aload_n hx hb dL_law_380 rfl (lv_at hl 2 rfl) ?_
        refine lv_aload_n hx hb dL_law_381 rfl (lv_at hl 0 rfl) ?_
        refine lv_iload hx hb dL_law_382 (lv_at hl 4 rfl) ?_
        refine lv_iconst (v := (1 : Int32)) hx hb dL_law_384 (by decide) ?_
        refine lv_iadd hx hb dL_law_385 ?_
        refine va_sld hx hb hX hbl hbA hw.1.2.2 g1 dL_law_386 ?_
        refine lv_aload_n hx hb dL_law_387 rfl (lv_at hl 0 rfl) ?_
        refine lv_iload hx hb dL_law_388 (lv_at hl 4 rfl) ?_
        refine lv_iconst (v := (2 : Int32)) hx hb dL_law_390 (by decide) ?_
        refine lv_iadd hx hb dL_law_391 ?_
        refine va_sld hx hb hX hbl hbA hw.1.2.2 g2 dL_law_392 ?_
        refine lv_aload_n hx hb dL_law_393 rfl (lv_at hl 0 rfl) ?_
        refine lv_iload hx hb dL_law_394 (lv_at hl 4 rfl) ?_
        refine lv_iconst (v := (3 : Int32)) hx hb dL_law_396 (by decide) ?_
        refine lv_iadd hx hb dL_law_397 ?_
        refine va_sld hx hb hX hbl hbA hw.1.2.2 g3 dL_law_398 ?_
        refine clL_Mi (As := [.int (xs (x4 + (1 : Int32)).toNatClampNeg), .int (xs (x4 + (2 : Int32)).toNatClampNeg), .int (xs (x4 + (3 : Int32)).toNatClampNeg)]) (rest := [.int r]) hx hb hml hown hA9 hl.1 okm hw hA (cM_fit l E2 n2 _ τ τ' (xs (x4 + (1 : Int32)).toNatClampNeg) (xs (x4 + (2 : Int32)).toNatClampNeg) (xs (x4 + (3 : Int32)).toNatClampNeg) r hm) (cwL_M_fit hA9) rfl rfl (Nat.le_of_ble_eq_true rfl) hcs dL_law_399 (fun H locs hw => ?_)
        refine lv_icmp_eq (tgt := 761) hx hb dL_law_402 (by decide) (fun _ => ?_) (fun z => absurd rfl z)
        exact fin0 σ τ' f H locs ls hS hw hl
      by_cases c107 : z = (7 : Int32)
      · refine lv_tableIn (tgt := 407) hx hb dL_law_39 (by rw [c107]; decide) (by rw [c107]; decide) (by rw [c107]; rfl) (by decide) ?_
        refine lv_aload_n hx hb dL_law_407 rfl (lv_at hl 1 rfl) ?_
        refine lv_aload_n hx hb dL_law_408 rfl (lv_at hl 0 rfl) ?_
        refine lv_iload hx hb dL_law_409 (lv_at hl 4 rfl) ?_
        refine lv_iconst (v := (1 : Int32)) hx hb dL_law_411 (by decide) ?_
        refine lv_iadd hx hb dL_law_412 ?_
        refine va_sld hx hb hX hbl hbA hw.1.2.2 g1 dL_law_413 ?_
        obtain ⟨n1, n2, r, τ', hc, hm, hS⟩ := s_best σ τ (xs (x4 + (1 : Int32)).toNatClampNeg) hS
        refine clL_Ci (As := [.int (xs (x4 + (1 : Int32)).toNatClampNeg)]) (rest := []) hx hb hml hown hA9 hl.1 okc hw hA (cC_CG_best l E1 n1 _ σ (xs (x4 + (1 : Int32)).toNatClampNeg) r hc) (cwL_C_best hA9) rfl rfl (Nat.le_of_ble_eq_true rfl) hcs dL_law_414 (fun H locs hw => ?_)
        refine lv_aload_n hx hb dL_law_417 rfl (lv_at hl 2 rfl) ?_
        refine lv_aload_n hx hb dL_law_418 rfl (lv_at hl 0 rfl) ?_
        refine lv_iload hx hb dL_law_419 (lv_at hl 4 rfl) ?_
        refine lv_iconst (v := (1 : Int32)) hx hb dL_law_421 (by decide) ?_
        refine lv_iadd hx hb dL_law_422 ?_
        refine va_sld hx hb hX hbl hbA hw.1.2.2 g1 dL_law_423 ?_
        refine clL_Mi (As := [.int (xs (x4 + (1 : Int32)).toNatClampNeg)]) (rest := [.int r]) hx hb hml hown hA9 hl.1 okm hw hA (cM_best l E2 n2 _ τ τ' (xs (x4 + (1 : Int32)).toNatClampNeg) r hm) (cwL_M_best hA9) rfl rfl (Nat.le_of_ble_eq_true rfl) hcs dL_law_424 (fun H locs hw => ?_)
        refine lv_icmp_eq (tgt := 761) hx hb dL_law_427 (by decide) (fun _ => ?_) (fun z => absurd rfl z)
        exact fin0 σ τ' f H locs ls hS hw hl
      by_cases c108 : z = (8 : Int32)
      · refine lv_tableIn (tgt := 432) hx hb dL_law_39 (by rw [c108]; decide) (by rw [c108]; decide) (by rw [c108]; rfl) (by decide) ?_
        refine lv_aload_n hx hb dL_law_432 rfl (lv_at hl 1 rfl) ?_
        obtain ⟨n1, n2, r, σ', τ', hc, hm, hS⟩ := s_parse σ τ hS
        refine clL_Ci (As := []) (rest := []) hx hb hml hown hA9 hl.1 okc hw hA (cC_CG_parse l E1 n1 _ σ σ' r hc) (cwL_C_parse hA9) rfl rfl (Nat.le_of_ble_eq_true rfl) hcs dL_law_433 (fun H locs hw => ?_)
        refine lv_aload_n hx hb dL_law_436 rfl (lv_at hl 2 rfl) ?_
        refine clL_Mi (As := []) (rest := [.int r]) hx hb hml hown hA9 hl.1 okm hw hA (cM_parse l E2 n2 _ τ τ' r hm) (cwL_M_parse hA9) rfl rfl (Nat.le_of_ble_eq_true rfl) hcs dL_law_437 (fun H locs hw => ?_)
        refine lv_icmp_eq (tgt := 761) hx hb dL_law_440 (by decide) (fun _ => ?_) (fun z => absurd rfl z)
        exact fin0 σ' τ' f H locs ls hS hw hl
      by_cases c109 : z = (9 : Int32)
      · refine lv_tableIn (tgt := 445) hx hb dL_law_39 (by rw [c109]; decide) (by rw [c109]; decide) (by rw [c109]; rfl) (by decide) ?_
        refine lv_aload_n hx hb dL_law_445 rfl (lv_at hl 1 rfl) ?_
        obtain ⟨r, τ', hc, hm, hS⟩ := s_readings σ τ hS
        refine clL_Cl (As := []) (rest := []) hx hb hml hown hA9 hl.1 okc hw hA (cC_CG_readings l E1 _ σ r hc) (cwL_C_readings hA9) rfl rfl (Nat.le_of_ble_eq_true rfl) hcs dL_law_446 (fun H locs hw => ?_)
        refine lv_aload_n hx hb dL_law_449 rfl (lv_at hl 2 rfl) ?_
        refine clL_Ml (As := []) (rest := [.long r]) hx hb hml hown hA9 hl.1 okm hw hA (cM_readings l E2 _ τ τ' r hm) (cwL_M_readings hA9) rfl rfl (Nat.le_of_ble_eq_true rfl) hcs dL_law_450 (fun H locs hw => ?_)
        refine W.lcmp hx hb dL_law_453 ?_
        refine lv_if_eq (tgt := 761) hx hb dL_law_454 (by decide) (fun _ => ?_) (fun z => absurd (law_lcmp r) z)
        exact fin0 σ τ' f H locs ls hS hw hl
      by_cases c110 : z = (10 : Int32)
      · refine lv_tableIn (tgt := 459) hx hb dL_law_39 (by rw [c110]; decide) (by rw [c110]; decide) (by rw [c110]; rfl) (by decide) ?_
        refine lv_aload_n hx hb dL_law_459 rfl (lv_at hl 1 rfl) ?_
        refine lv_aload_n hx hb dL_law_460 rfl (lv_at hl 0 rfl) ?_
        refine lv_iload hx hb dL_law_461 (lv_at hl 4 rfl) ?_
        refine lv_iconst (v := (1 : Int32)) hx hb dL_law_463 (by decide) ?_
        refine lv_iadd hx hb dL_law_464 ?_
        refine va_sld hx hb hX hbl hbA hw.1.2.2 g1 dL_law_465 ?_
        obtain ⟨r, τ', hc, hm, hS⟩ := s_price σ τ (xs (x4 + (1 : Int32)).toNatClampNeg) hS
        refine clL_Ci (As := [.int (xs (x4 + (1 : Int32)).toNatClampNeg)]) (rest := []) hx hb hml hown hA9 hl.1 okc hw hA (cC_CG_price l E1 _ σ (xs (x4 + (1 : Int32)).toNatClampNeg) r hc) (cwL_C_price hA9) rfl rfl (Nat.le_of_ble_eq_true rfl) hcs dL_law_466 (fun H locs hw => ?_)
        refine lv_aload_n hx hb dL_law_469 rfl (lv_at hl 2 rfl) ?_
        refine lv_aload_n hx hb dL_law_470 rfl (lv_at hl 0 rfl) ?_
        refine lv_iload hx hb dL_law_471 (lv_at hl 4 rfl) ?_
        refine lv_iconst (v := (1 : Int32)) hx hb dL_law_473 (by decide) ?_
        refine lv_iadd hx hb dL_law_474 ?_
        refine va_sld hx hb hX hbl hbA hw.1.2.2 g1 dL_law_475 ?_
        refine clL_Mi (As := [.int (xs (x4 + (1 : Int32)).toNatClampNeg)]) (rest := [.int r]) hx hb hml hown hA9 hl.1 okm hw hA (cM_price l E2 _ τ τ' (xs (x4 + (1 : Int32)).toNatClampNeg) r hm) (cwL_M_price hA9) rfl rfl (Nat.le_of_ble_eq_true rfl) hcs dL_law_476 (fun H locs hw => ?_)
        refine lv_icmp_eq (tgt := 761) hx hb dL_law_479 (by decide) (fun _ => ?_) (fun z => absurd rfl z)
        exact fin0 σ τ' f H locs ls hS hw hl
      by_cases c111 : z = (11 : Int32)
      · refine lv_tableIn (tgt := 484) hx hb dL_law_39 (by rw [c111]; decide) (by rw [c111]; decide) (by rw [c111]; rfl) (by decide) ?_
        refine lv_aload_n hx hb dL_law_484 rfl (lv_at hl 1 rfl) ?_
        refine lv_aload_n hx hb dL_law_485 rfl (lv_at hl 0 rfl) ?_
        refine lv_iload hx hb dL_law_486 (lv_at hl 4 rfl) ?_
        refine lv_iconst (v := (1 : Int32)) hx hb dL_law_488 (by decide) ?_
        refine lv_iadd hx hb dL_law_489 ?_
        refine va_sld hx hb hX hbl hbA hw.1.2.2 g1 dL_law_490 ?_
        refine lv_aload_n hx hb dL_law_491 rfl (lv_at hl 0 rfl) ?_
        refine lv_iload hx hb dL_law_492 (lv_at hl 4 rfl) ?_
        refine lv_iconst (v := (2 : Int32)) hx hb dL_law_494 (by decide) ?_
        refine lv_iadd hx hb dL_law_495 ?_
        refine va_sld hx hb hX hbl hbA hw.1.2.2 g2 dL_law_496 ?_
        refine lv_aload_n hx hb dL_law_497 rfl (lv_at hl 0 rfl) ?_
        refine lv_iload hx hb dL_law_498 (lv_at hl 4 rfl) ?_
        refine lv_iconst (v := (3 : Int32)) hx hb dL_law_500 (by decide) ?_
        refine lv_iadd hx hb dL_law_501 ?_
        refine va_sld hx hb hX hbl hbA hw.1.2.2 g3 dL_law_502 ?_
        obtain ⟨n1, n2, r, σ', τ', hc, hm, hS⟩ := s_node σ τ (xs (x4 + (1 : Int32)).toNatClampNeg) (xs (x4 + (2 : Int32)).toNatClampNeg) (xs (x4 + (3 : Int32)).toNatClampNeg) hS
        refine clL_Ci (As := [.int (xs (x4 + (1 : Int32)).toNatClampNeg), .int (xs (x4 + (2 : Int32)).toNatClampNeg), .int (xs (x4 + (3 : Int32)).toNatClampNeg)]) (rest := []) hx hb hml hown hA9 hl.1 okc hw hA (cC_CG_node l E1 n1 _ σ σ' (xs (x4 + (1 : Int32)).toNatClampNeg) (xs (x4 + (2 : Int32)).toNatClampNeg) (xs (x4 + (3 : Int32)).toNatClampNeg) r hc) (cwL_C_node hA9) rfl rfl (Nat.le_of_ble_eq_true rfl) hcs dL_law_503 (fun H locs hw => ?_)
        refine lv_aload_n hx hb dL_law_506 rfl (lv_at hl 2 rfl) ?_
        refine lv_aload_n hx hb dL_law_507 rfl (lv_at hl 0 rfl) ?_
        refine lv_iload hx hb dL_law_508 (lv_at hl 4 rfl) ?_
        refine lv_iconst (v := (1 : Int32)) hx hb dL_law_510 (by decide) ?_
        refine lv_iadd hx hb dL_law_511 ?_
        refine va_sld hx hb hX hbl hbA hw.1.2.2 g1 dL_law_512 ?_
        refine lv_aload_n hx hb dL_law_513 rfl (lv_at hl 0 rfl) ?_
        refine lv_iload hx hb dL_law_514 (lv_at hl 4 rfl) ?_
        refine lv_iconst (v := (2 : Int32)) hx hb dL_law_516 (by decide) ?_
        refine lv_iadd hx hb dL_law_517 ?_
        refine va_sld hx hb hX hbl hbA hw.1.2.2 g2 dL_law_518 ?_
        refine lv_aload_n hx hb dL_law_519 rfl (lv_at hl 0 rfl) ?_
        refine lv_iload hx hb dL_law_520 (lv_at hl 4 rfl) ?_
        refine lv_iconst (v := (3 : Int32)) hx hb dL_law_522 (by decide) ?_
        refine lv_iadd hx hb dL_law_523 ?_
        refine va_sld hx hb hX hbl hbA hw.1.2.2 g3 dL_law_524 ?_
        refine clL_Mi (As := [.int (xs (x4 + (1 : Int32)).toNatClampNeg), .int (xs (x4 + (2 : Int32)).toNatClampNeg), .int (xs (x4 + (3 : Int32)).toNatClampNeg)]) (rest := [.int r]) hx hb hml hown hA9 hl.1 okm hw hA (cM_node l E2 n2 _ τ τ' (xs (x4 + (1 : Int32)).toNatClampNeg) (xs (x4 + (2 : Int32)).toNatClampNeg) (xs (x4 + (3 : Int32)).toNatClampNeg) r hm) (cwL_M_node hA9) rfl rfl (Nat.le_of_ble_eq_true rfl) hcs dL_law_525 (fun H locs hw => ?_)
        refine lv_icmp_eq (tgt := 761) hx hb dL_law_528 (by decide) (fun _ => ?_) (fun z => absurd rfl z)
        exact fin0 σ' τ' f H locs ls hS hw hl
      by_cases c112 : z = (12 : Int32)
      · refine lv_tableIn (tgt := 533) hx hb dL_law_39 (by rw [c112]; decide) (by rw [c112]; decide) (by rw [c112]; rfl) (by decide) ?_
        refine lv_aload_n hx hb dL_law_533 rfl (lv_at hl 1 rfl) ?_
        refine lv_aload_n hx hb dL_law_534 rfl (lv_at hl 0 rfl) ?_
        refine lv_iload hx hb dL_law_535 (lv_at hl 4 rfl) ?_
        refine lv_iconst (v := (1 : Int32)) hx hb dL_law_537 (by decide) ?_
        refine lv_iadd hx hb dL_law_538 ?_
        refine va_sld hx hb hX hbl hbA hw.1.2.2 g1 dL_law_539 ?_
        obtain ⟨n1, n2, r, σ', τ', hc, hm, hS⟩ := s_nodes σ τ (xs (x4 + (1 : Int32)).toNatClampNeg) hS
        refine clL_Ci (As := [.int (xs (x4 + (1 : Int32)).toNatClampNeg)]) (rest := []) hx hb hml hown hA9 hl.1 okc hw hA (cC_CG_nodes l E1 n1 _ σ σ' (xs (x4 + (1 : Int32)).toNatClampNeg) r hc) (cwL_C_nodes hA9) rfl rfl (Nat.le_of_ble_eq_true rfl) hcs dL_law_540 (fun H locs hw => ?_)
        refine lv_aload_n hx hb dL_law_543 rfl (lv_at hl 2 rfl) ?_
        refine lv_aload_n hx hb dL_law_544 rfl (lv_at hl 0 rfl) ?_
        refine lv_iload hx hb dL_law_545 (lv_at hl 4 rfl) ?_
        refine lv_iconst (v := (1 : Int32)) hx hb dL_law_547 (by decide) ?_
        refine lv_iadd hx hb dL_law_548 ?_
        refine va_sld hx hb hX hbl hbA hw.1.2.2 g1 dL_law_549 ?_
        refine clL_Mi (As := [.int (xs (x4 + (1 : Int32)).toNatClampNeg)]) (rest := [.int r]) hx hb hml hown hA9 hl.1 okm hw hA (cM_nodes l E2 n2 _ τ τ' (xs (x4 + (1 : Int32)).toNatClampNeg) r hm) (cwL_M_nodes hA9) rfl rfl (Nat.le_of_ble_eq_true rfl) hcs dL_law_550 (fun H locs hw => ?_)
        refine lv_icmp_eq (tgt := 761) hx hb dL_law_553 (by decide) (fun _ => ?_) (fun z => absurd rfl z)
        exact fin0 σ' τ' f H locs ls hS hw hl
      by_cases c113 : z = (13 : Int32)
      · refine lv_tableIn (tgt := 558) hx hb dL_law_39 (by rw [c113]; decide) (by rw [c113]; decide) (by rw [c113]; rfl) (by decide) ?_
        refine lv_aload_n hx hb dL_law_558 rfl (lv_at hl 1 rfl) ?_
        refine lv_aload_n hx hb dL_law_559 rfl (lv_at hl 0 rfl) ?_
        refine lv_iload hx hb dL_law_560 (lv_at hl 4 rfl) ?_
        refine lv_iconst (v := (1 : Int32)) hx hb dL_law_562 (by decide) ?_
        refine lv_iadd hx hb dL_law_563 ?_
        refine va_sld hx hb hX hbl hbA hw.1.2.2 g1 dL_law_564 ?_
        refine lv_aload_n hx hb dL_law_565 rfl (lv_at hl 0 rfl) ?_
        refine lv_iload hx hb dL_law_566 (lv_at hl 4 rfl) ?_
        refine lv_iconst (v := (2 : Int32)) hx hb dL_law_568 (by decide) ?_
        refine lv_iadd hx hb dL_law_569 ?_
        refine va_sld hx hb hX hbl hbA hw.1.2.2 g2 dL_law_570 ?_
        obtain ⟨n1, n2, r, σ', τ', hc, hm, hS⟩ := s_chord σ τ (xs (x4 + (1 : Int32)).toNatClampNeg) (xs (x4 + (2 : Int32)).toNatClampNeg) hS
        refine clL_Ci (As := [.int (xs (x4 + (1 : Int32)).toNatClampNeg), .int (xs (x4 + (2 : Int32)).toNatClampNeg)]) (rest := []) hx hb hml hown hA9 hl.1 okc hw hA (cC_CG_chord l E1 n1 _ σ σ' (xs (x4 + (1 : Int32)).toNatClampNeg) (xs (x4 + (2 : Int32)).toNatClampNeg) r hc) (cwL_C_chord hA9) rfl rfl (Nat.le_of_ble_eq_true rfl) hcs dL_law_571 (fun H locs hw => ?_)
        refine lv_aload_n hx hb dL_law_574 rfl (lv_at hl 2 rfl) ?_
        refine lv_aload_n hx hb dL_law_575 rfl (lv_at hl 0 rfl) ?_
        refine lv_iload hx hb dL_law_576 (lv_at hl 4 rfl) ?_
        refine lv_iconst (v := (1 : Int32)) hx hb dL_law_578 (by decide) ?_
        refine lv_iadd hx hb dL_law_579 ?_
        refine va_sld hx hb hX hbl hbA hw.1.2.2 g1 dL_law_580 ?_
        refine lv_aload_n hx hb dL_law_581 rfl (lv_at hl 0 rfl) ?_
        refine lv_iload hx hb dL_law_582 (lv_at hl 4 rfl) ?_
        refine lv_iconst (v := (2 : Int32)) hx hb dL_law_584 (by decide) ?_
        refine lv_iadd hx hb dL_law_585 ?_
        refine va_sld hx hb hX hbl hbA hw.1.2.2 g2 dL_law_586 ?_
        refine clL_Mi (As := [.int (xs (x4 + (1 : Int32)).toNatClampNeg), .int (xs (x4 + (2 : Int32)).toNatClampNeg)]) (rest := [.int r]) hx hb hml hown hA9 hl.1 okm hw hA (cM_chord l E2 n2 _ τ τ' (xs (x4 + (1 : Int32)).toNatClampNeg) (xs (x4 + (2 : Int32)).toNatClampNeg) r hm) (cwL_M_chord hA9) rfl rfl (Nat.le_of_ble_eq_true rfl) hcs dL_law_587 (fun H locs hw => ?_)
        refine lv_icmp_eq (tgt := 761) hx hb dL_law_590 (by decide) (fun _ => ?_) (fun z => absurd rfl z)
        exact fin0 σ' τ' f H locs ls hS hw hl
      by_cases c114 : z = (14 : Int32)
      · refine lv_tableIn (tgt := 595) hx hb dL_law_39 (by rw [c114]; decide) (by rw [c114]; decide) (by rw [c114]; rfl) (by decide) ?_
        refine lv_aload_n hx hb dL_law_595 rfl (lv_at hl 1 rfl) ?_
        refine lv_aload_n hx hb dL_law_596 rfl (lv_at hl 0 rfl) ?_
        refine lv_iload hx hb dL_law_597 (lv_at hl 4 rfl) ?_
        refine lv_iconst (v := (1 : Int32)) hx hb dL_law_599 (by decide) ?_
        refine lv_iadd hx hb dL_law_600 ?_
        refine va_sld hx hb hX hbl hbA hw.1.2.2 g1 dL_law_601 ?_
        obtain ⟨n1, n2, r, σ', τ', hc, hm, hS⟩ := s_cadence σ τ (xs (x4 + (1 : Int32)).toNatClampNeg) hS
        refine clL_Ci (As := [.int (xs (x4 + (1 : Int32)).toNatClampNeg)]) (rest := []) hx hb hml hown hA9 hl.1 okc hw hA (cC_CG_cadence l E1 n1 _ σ σ' (xs (x4 + (1 : Int32)).toNatClampNeg) r hc) (cwL_C_cadence hA9) rfl rfl (Nat.le_of_ble_eq_true rfl) hcs dL_law_602 (fun H locs hw => ?_)
        refine lv_aload_n hx hb dL_law_605 rfl (lv_at hl 2 rfl) ?_
        refine lv_aload_n hx hb dL_law_606 rfl (lv_at hl 0 rfl) ?_
        refine lv_iload hx hb dL_law_607 (lv_at hl 4 rfl) ?_
        refine lv_iconst (v := (1 : Int32)) hx hb dL_law_609 (by decide) ?_
        refine lv_iadd hx hb dL_law_610 ?_
        refine va_sld hx hb hX hbl hbA hw.1.2.2 g1 dL_law_611 ?_
        refine clL_Mi (As := [.int (xs (x4 + (1 : Int32)).toNatClampNeg)]) (rest := [.int r]) hx hb hml hown hA9 hl.1 okm hw hA (cM_cadence l E2 n2 _ τ τ' (xs (x4 + (1 : Int32)).toNatClampNeg) r hm) (cwL_M_cadence hA9) rfl rfl (Nat.le_of_ble_eq_true rfl) hcs dL_law_612 (fun H locs hw => ?_)
        refine lv_icmp_eq (tgt := 761) hx hb dL_law_615 (by decide) (fun _ => ?_) (fun z => absurd rfl z)
        exact fin0 σ' τ' f H locs ls hS hw hl
      by_cases c115 : z = (15 : Int32)
      · refine lv_tableIn (tgt := 620) hx hb dL_law_39 (by rw [c115]; decide) (by rw [c115]; decide) (by rw [c115]; rfl) (by decide) ?_
        refine lv_aload_n hx hb dL_law_620 rfl (lv_at hl 1 rfl) ?_
        refine lv_aload_n hx hb dL_law_621 rfl (lv_at hl 0 rfl) ?_
        refine lv_iload hx hb dL_law_622 (lv_at hl 4 rfl) ?_
        refine lv_iconst (v := (1 : Int32)) hx hb dL_law_624 (by decide) ?_
        refine lv_iadd hx hb dL_law_625 ?_
        refine va_sld hx hb hX hbl hbA hw.1.2.2 g1 dL_law_626 ?_
        refine lv_aload_n hx hb dL_law_627 rfl (lv_at hl 0 rfl) ?_
        refine lv_iload hx hb dL_law_628 (lv_at hl 4 rfl) ?_
        refine lv_iconst (v := (2 : Int32)) hx hb dL_law_630 (by decide) ?_
        refine lv_iadd hx hb dL_law_631 ?_
        refine va_sld hx hb hX hbl hbA hw.1.2.2 g2 dL_law_632 ?_
        obtain ⟨n1, n2, r, σ', τ', hc, hm, hS⟩ := s_melody σ τ (xs (x4 + (1 : Int32)).toNatClampNeg) (xs (x4 + (2 : Int32)).toNatClampNeg) hS
        refine clL_Ci (As := [.int (xs (x4 + (1 : Int32)).toNatClampNeg), .int (xs (x4 + (2 : Int32)).toNatClampNeg)]) (rest := []) hx hb hml hown hA9 hl.1 okc hw hA (cC_CG_melody l E1 n1 _ σ σ' (xs (x4 + (1 : Int32)).toNatClampNeg) (xs (x4 + (2 : Int32)).toNatClampNeg) r hc) (cwL_C_melody hA9) rfl rfl (Nat.le_of_ble_eq_true rfl) hcs dL_law_633 (fun H locs hw => ?_)
        refine lv_aload_n hx hb dL_law_636 rfl (lv_at hl 2 rfl) ?_
        refine lv_aload_n hx hb dL_law_637 rfl (lv_at hl 0 rfl) ?_
        refine lv_iload hx hb dL_law_638 (lv_at hl 4 rfl) ?_
        refine lv_iconst (v := (1 : Int32)) hx hb dL_law_640 (by decide) ?_
        refine lv_iadd hx hb dL_law_641 ?_
        refine va_sld hx hb hX hbl hbA hw.1.2.2 g1 dL_law_642 ?_
        refine lv_aload_n hx hb dL_law_643 rfl (lv_at hl 0 rfl) ?_
        refine lv_iload hx hb dL_law_644 (lv_at hl 4 rfl) ?_
        refine lv_iconst (v := (2 : Int32)) hx hb dL_law_646 (by decide) ?_
        refine lv_iadd hx hb dL_law_647 ?_
        refine va_sld hx hb hX hbl hbA hw.1.2.2 g2 dL_law_648 ?_
        refine clL_Mi (As := [.int (xs (x4 + (1 : Int32)).toNatClampNeg), .int (xs (x4 + (2 : Int32)).toNatClampNeg)]) (rest := [.int r]) hx hb hml hown hA9 hl.1 okm hw hA (cM_melody l E2 n2 _ τ τ' (xs (x4 + (1 : Int32)).toNatClampNeg) (xs (x4 + (2 : Int32)).toNatClampNeg) r hm) (cwL_M_melody hA9) rfl rfl (Nat.le_of_ble_eq_true rfl) hcs dL_law_649 (fun H locs hw => ?_)
        refine lv_icmp_eq (tgt := 761) hx hb dL_law_652 (by decide) (fun _ => ?_) (fun z => absurd rfl z)
        exact fin0 σ' τ' f H locs ls hS hw hl
      by_cases c116 : z = (16 : Int32)
      · refine lv_tableIn (tgt := 657) hx hb dL_law_39 (by rw [c116]; decide) (by rw [c116]; decide) (by rw [c116]; rfl) (by decide) ?_
        refine lv_aload_n hx hb dL_law_657 rfl (lv_at hl 1 rfl) ?_
        refine lv_aload_n hx hb dL_law_658 rfl (lv_at hl 0 rfl) ?_
        refine lv_iload hx hb dL_law_659 (lv_at hl 4 rfl) ?_
        refine lv_iconst (v := (1 : Int32)) hx hb dL_law_661 (by decide) ?_
        refine lv_iadd hx hb dL_law_662 ?_
        refine va_sld hx hb hX hbl hbA hw.1.2.2 g1 dL_law_663 ?_
        refine lv_aload_n hx hb dL_law_664 rfl (lv_at hl 0 rfl) ?_
        refine lv_iload hx hb dL_law_665 (lv_at hl 4 rfl) ?_
        refine lv_iconst (v := (2 : Int32)) hx hb dL_law_667 (by decide) ?_
        refine lv_iadd hx hb dL_law_668 ?_
        refine va_sld hx hb hX hbl hbA hw.1.2.2 g2 dL_law_669 ?_
        refine lv_aload_n hx hb dL_law_670 rfl (lv_at hl 0 rfl) ?_
        refine lv_iload hx hb dL_law_671 (lv_at hl 4 rfl) ?_
        refine lv_iconst (v := (3 : Int32)) hx hb dL_law_673 (by decide) ?_
        refine lv_iadd hx hb dL_law_674 ?_
        refine va_sld hx hb hX hbl hbA hw.1.2.2 g3 dL_law_675 ?_
        refine lv_aload_n hx hb dL_law_676 rfl (lv_at hl 3 rfl) ?_
        obtain ⟨y1, ey1⟩ : ∃ y : Int32, y = xs (x4 + (1 : Int32)).toNatClampNeg := ⟨_, rfl⟩
        obtain ⟨y2, ey2⟩ : ∃ y : Int32, y = xs (x4 + (2 : Int32)).toNatClampNeg := ⟨_, rfl⟩
        obtain ⟨y3, ey3⟩ : ∃ y : Int32, y = xs (x4 + (3 : Int32)).toNatClampNeg := ⟨_, rfl⟩
        obtain ⟨r, τ', hm, hS2, hd⟩ := s_cell σ τ y1 y2 y3 hS
        rw [← ey1, ← ey2, ← ey3]
        refine hcell σ τ f y1 y2 y3 H locs ls _ _ hw hl.1 (show 83 + k + 1 ≤ 601024 by omega) (show 750167 + 6 * k + 6 ≤ 7293034 by omega) (fun z => hd.elim (fun q => absurd q.1 z) (fun q => ⟨r, q.2.2⟩)) (fun H locs f1 kk hw hk1 hk0 => ?_)
        refine lv_istore (lv' := [(5, .int kk), (0, .ref b), (1, .ref (E1.2.2 1000)), (2, .ref (E2.2.2 1000)), (3, .ref oa), (4, .int x4)]) hx hb dL_law_680 hl (by decide) rfl (fun ls hl => ?_)
        refine lv_aload_n hx hb dL_law_682 rfl (lv_at hl 3 rfl) ?_
        refine lv_aload_n hx hb dL_law_683 rfl (lv_at hl 1 rfl) ?_
        refine lv_iload hx hb dL_law_684 (lv_at hl 5 rfl) ?_
        refine lv_iconst (v := (1 : Int32)) hx hb dL_law_686 (by decide) ?_
        refine lv_iadd hx hb dL_law_687 ?_
        refine va_sld hx hb hX hbl hbA hw.1.2.2 g1 dL_law_688 ?_
        refine lv_aload_n hx hb dL_law_689 rfl (lv_at hl 1 rfl) ?_
        refine lv_iload hx hb dL_law_690 (lv_at hl 5 rfl) ?_
        refine lv_iconst (v := (2 : Int32)) hx hb dL_law_692 (by decide) ?_
        refine lv_iadd hx hb dL_law_693 ?_
        refine va_sld hx hb hX hbl hbA hw.1.2.2 g2 dL_law_694 ?_
        refine lv_aload_n hx hb dL_law_695 rfl (lv_at hl 1 rfl) ?_
        refine lv_iload hx hb dL_law_696 (lv_at hl 5 rfl) ?_
        refine lv_iconst (v := (3 : Int32)) hx hb dL_law_698 (by decide) ?_
        refine lv_iadd hx hb dL_law_699 ?_
        refine va_sld hx hb hX hbl hbA hw.1.2.2 g3 dL_law_700 ?_
        rw [← ey1, ← ey2, ← ey3]
        have hcs : (83 + k + 1) ≤ room_1.cells ∧ (750167 + 6 * k + 6) ≤ room_1.slots := ⟨show 83 + k + 1 ≤ 601024 by omega, show 750167 + 6 * k + 6 ≤ 7293034 by omega⟩
        refine clL_Ml (As := [.int y1, .int y2, .int y3]) (rest := []) hx hb hml hown hA9 hl.1 okm hw hA (cM_cell l E2 _ τ τ' y1 y2 y3 r hm) (cwL_M_cell hA9) rfl rfl (Nat.le_of_ble_eq_true rfl) hcs dL_law_701 (fun H locs hw => ?_)
        refine lv_lstore (lv' := [(6, .long r), (5, .int kk), (0, .ref b), (1, .ref (E1.2.2 1000)), (2, .ref (E2.2.2 1000)), (3, .ref oa), (4, .int x4)]) hx hb dL_law_704 hl (by decide) rfl (fun ls hl => ?_)
        refine lv_aload_n hx hb dL_law_706 rfl (lv_at hl 4 rfl) ?_
        refine clL_Mi (As := []) (rest := []) hx hb hml hown hA9 hl.1 okm hw hA (cM_thrown l E2 _ τ' (τ'.1 0 0) rfl) (cwL_M_thrown hA9) rfl rfl (Nat.le_of_ble_eq_true rfl) hcs dL_law_707 (fun H locs hw => ?_)
        refine lv_iload hx hb dL_law_710 (lv_at hl 1 rfl) ?_
        have hkk : τ'.1 0 0 = kk := by
          rcases hd with ⟨h1, h2⟩ | ⟨h1, h2, h3⟩
          · rw [h2, hk1 h1]
          · rw [h2, (hk0 h1).1]
        refine lv_icmp_eq (tgt := 717) hx hb dL_law_712 (by decide) (fun _ => ?_) (fun z => absurd hkk z)
        refine lv_iload hx hb dL_law_717 (lv_at hl 1 rfl) ?_
        have hl2 := lv_sub hl [2, 3, 4, 5, 6] rfl
        refine lv_if_ne (tgt := 733) hx hb dL_law_719 (by decide) (fun _ => ?_) (fun cz => ?_)
        · refine lv_goto (tgt := 761) hx hb dL_law_733 (by decide) ?_
          exact fin σ τ' f1 H locs ls hS2 hw hl2
        · refine lv_aload_n hx hb dL_law_722 rfl (lv_at hl 5 rfl) ?_
          refine lv_iconst (v := (0 : Int32)) hx hb dL_law_723 (by decide) ?_
          refine va_lald hx hb okc.1 hw.2.2.1.1 0 2 rfl rfl (i := (0 : Int32)) (by unfold vp_in; decide) dL_law_724 ?_
          refine lv_lload hx hb dL_law_725 (lv_at hl 0 rfl) ?_
          refine W.lcmp hx hb dL_law_727 ?_
          have hf : f1 (0 : Int32).toNatClampNeg = r := by
            rcases hd with ⟨h1, h2⟩ | ⟨h1, h2, h3⟩
            · rw [hk1 h1] at cz
              exact absurd cz (by decide)
            · exact Option.some.inj ((hk0 h1).2.symm.trans h3)
          rw [hf]
          refine lv_if_eq (tgt := 733) hx hb dL_law_728 (by decide) (fun _ => ?_) (fun z => absurd (law_lcmp r) z)
          refine lv_goto (tgt := 761) hx hb dL_law_733 (by decide) ?_
          exact fin σ τ' f1 H locs ls hS2 hw hl2
      by_cases c117 : z = (17 : Int32)
      · refine lv_tableIn (tgt := 736) hx hb dL_law_39 (by rw [c117]; decide) (by rw [c117]; decide) (by rw [c117]; rfl) (by decide) ?_
        refine lv_aload_n hx hb dL_law_736 rfl (lv_at hl 1 rfl) ?_
        refine lv_aload_n hx hb dL_law_737 rfl (lv_at hl 0 rfl) ?_
        refine lv_iload hx hb dL_law_738 (lv_at hl 4 rfl) ?_
        refine lv_iconst (v := (1 : Int32)) hx hb dL_law_740 (by decide) ?_
        refine lv_iadd hx hb dL_law_741 ?_
        refine va_sld hx hb hX hbl hbA hw.1.2.2 g1 dL_law_742 ?_
        obtain ⟨r, τ', hc, hm, hS⟩ := s_told σ τ (xs (x4 + (1 : Int32)).toNatClampNeg) hS
        refine clL_Ci (As := [.int (xs (x4 + (1 : Int32)).toNatClampNeg)]) (rest := []) hx hb hml hown hA9 hl.1 okc hw hA (cC_CG_told l E1 _ σ (xs (x4 + (1 : Int32)).toNatClampNeg) r hc) (cwL_C_told hA9) rfl rfl (Nat.le_of_ble_eq_true rfl) hcs dL_law_743 (fun H locs hw => ?_)
        refine lv_aload_n hx hb dL_law_746 rfl (lv_at hl 2 rfl) ?_
        refine lv_aload_n hx hb dL_law_747 rfl (lv_at hl 0 rfl) ?_
        refine lv_iload hx hb dL_law_748 (lv_at hl 4 rfl) ?_
        refine lv_iconst (v := (1 : Int32)) hx hb dL_law_750 (by decide) ?_
        refine lv_iadd hx hb dL_law_751 ?_
        refine va_sld hx hb hX hbl hbA hw.1.2.2 g1 dL_law_752 ?_
        refine clL_Mi (As := [.int (xs (x4 + (1 : Int32)).toNatClampNeg)]) (rest := [.int r]) hx hb hml hown hA9 hl.1 okm hw hA (cM_told l E2 _ τ τ' (xs (x4 + (1 : Int32)).toNatClampNeg) r hm) (cwL_M_told hA9) rfl rfl (Nat.le_of_ble_eq_true rfl) hcs dL_law_753 (fun H locs hw => ?_)
        refine lv_icmp_eq (tgt := 761) hx hb dL_law_756 (by decide) (fun _ => ?_) (fun z => absurd rfl z)
        exact fin0 σ τ' f H locs ls hS hw hl
      have c100 := ne_ti c100
      rw [show ((0 : Int32)).toInt = 0 from by decide] at c100
      have c101 := ne_ti c101
      rw [show ((1 : Int32)).toInt = 1 from by decide] at c101
      have c102 := ne_ti c102
      rw [show ((2 : Int32)).toInt = 2 from by decide] at c102
      have c103 := ne_ti c103
      rw [show ((3 : Int32)).toInt = 3 from by decide] at c103
      have c104 := ne_ti c104
      rw [show ((4 : Int32)).toInt = 4 from by decide] at c104
      have c105 := ne_ti c105
      rw [show ((5 : Int32)).toInt = 5 from by decide] at c105
      have c106 := ne_ti c106
      rw [show ((6 : Int32)).toInt = 6 from by decide] at c106
      have c107 := ne_ti c107
      rw [show ((7 : Int32)).toInt = 7 from by decide] at c107
      have c108 := ne_ti c108
      rw [show ((8 : Int32)).toInt = 8 from by decide] at c108
      have c109 := ne_ti c109
      rw [show ((9 : Int32)).toInt = 9 from by decide] at c109
      have c110 := ne_ti c110
      rw [show ((10 : Int32)).toInt = 10 from by decide] at c110
      have c111 := ne_ti c111
      rw [show ((11 : Int32)).toInt = 11 from by decide] at c111
      have c112 := ne_ti c112
      rw [show ((12 : Int32)).toInt = 12 from by decide] at c112
      have c113 := ne_ti c113
      rw [show ((13 : Int32)).toInt = 13 from by decide] at c113
      have c114 := ne_ti c114
      rw [show ((14 : Int32)).toInt = 14 from by decide] at c114
      have c115 := ne_ti c115
      rw [show ((15 : Int32)).toInt = 15 from by decide] at c115
      have c116 := ne_ti c116
      rw [show ((16 : Int32)).toInt = 16 from by decide] at c116
      have c117 := ne_ti c117
      rw [show ((17 : Int32)).toInt = 17 from by decide] at c117
      refine lv_tableOut (tgt := 761) hx hb dL_law_39 (by omega) (by decide) ?_
      exact fin0 σ τ f H locs ls hS hw hl

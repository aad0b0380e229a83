/-! public int grammar();: writes, loops -/
def M_grammar_l133 (n : Nat) : Nat → St → Int32 → Option (Int32 × St)
  | 0, _, _ => none
  | f + 1, σ, x1 =>
    if (σ.1 10 0) ≤ x1 then
      some ((σ.1 10 0), σ)
    else
      gd x1 61 <|
      gd x1 60 <|
      lt (sI σ 11 x1.toNatClampNeg (σ.1 16 x1.toNatClampNeg)) fun σ4 =>
      gd x1 61 <|
      gd x1 60 <|
      lt (sI σ4 12 x1.toNatClampNeg (σ4.1 17 x1.toNatClampNeg)) fun σ8 =>
      gd x1 61 <|
      gd x1 60 <|
      lt (sI σ8 13 x1.toNatClampNeg (σ8.1 18 x1.toNatClampNeg)) fun σ12 =>
      gd x1 61 <|
      gd x1 60 <|
      lt (sI σ12 14 x1.toNatClampNeg (σ12.1 19 x1.toNatClampNeg)) fun σ16 =>
      lt (x1 + (1 : Int32)) fun x1_18 =>
      (M_grammar_l133 n f) σ16 x1_18
def M_grammar_b103 (n : Nat) (σ : St) : Option (Int32 × St) :=
  lt (sI σ 5 0 (0 : Int32)) fun σ1 =>
  if (σ1.1 22 0) < 0 then
    lt (sI σ1 10 0 (σ1.1 15 0)) fun σ4 =>
    M_grammar_l133 n n σ4 (0 : Int32)
  else
    some (((-2 : Int32) - (σ1.1 22 0)), σ1)
def M_grammar_l43 (n : Nat) : Nat → St → Option (Int32 × St)
  | 0, _ => none
  | f + 1, σ =>
    if 0 ≤ (σ.1 22 0) then
      if 0 ≤ (σ.1 22 0) then
        M_grammar_b103 n σ
      else
        bp (M_findRings n σ) fun σ4 =>
        M_grammar_b103 n σ4
    else
      if (σ.1 5 0) ≤ (σ.1 21 0) then
        if 0 ≤ (σ.1 22 0) then
          M_grammar_b103 n σ
        else
          bp (M_findRings n σ) fun σ8 =>
          M_grammar_b103 n σ8
      else
        if (σ.1 15 0) = (60 : Int32) then
          bp (M_stop σ (σ.1 21 0)) fun σ15 =>
          (M_grammar_l43 n f) σ15
        else
          bp (M_rule n σ) fun σ11 =>
          bp (M_blanks n σ11) fun σ13 =>
          (M_grammar_l43 n f) σ13
def M_grammar (n : Nat) (σ0 : St) : Option (Int32 × St) :=
  lt (sI σ0 0 0 (0 : Int32)) fun σ1 =>
  lt (sI σ1 21 0 (0 : Int32)) fun σ3 =>
  lt (sI σ3 22 0 (-1 : Int32)) fun σ5 =>
  lt (sI σ5 15 0 (0 : Int32)) fun σ7 =>
  bp (M_blanks n σ7) fun σ10 =>
  if (σ10.1 21 0) = (σ10.1 5 0) then
    bp (M_stop σ10 (σ10.1 21 0)) fun σ13 =>
    M_grammar_l43 n n σ13
  else
    M_grammar_l43 n n σ10
abbrev rmM_grammar : Room := { frames := 3, cells := 0, slots := 0, locals := 64 }
set_option maxHeartbeats 4000000 in
set_option maxRecDepth 100000 in
theorem cM_grammar (l : Launch) (E : Ev) (n : Nat) (sz : Nat) (σ0 σ' : St) (r : Int32) (hm : M_grammar n σ0 = some (r, σ')) : Met l yX10_grammar (wz yX10_grammar cX10_grammar 2 (some .int)) rmM_grammar (PwM E [.ref (E.2.2 1000)] σ0 sz) (QiM E σ0 σ' sz r) 0 0 (va_A (wldM E σ0) sz) := by
  refine enM (by decide) rfl (Nat.le_of_ble_eq_true rfl) (fun p e s m args below meth c cx hr hlk hml hsz ok hw ls hl => ?_)
  have hx := cx.1
  have hb := cx.2.1
  have hA9 := cx.2.2.2
  have hA : ∀ q, s.heap.size ≤ q → (va_A (wldM E σ0) sz) q := fun q h => Or.inr (by rw [← hsz]; exact h)
  have w_133 : ∀ (f : Nat), ∀ (σ : St) (x1 : Int32) (H : Heap) (locs : List Loc) (ls : Array Slot), wsM E σ (va_A (wldM E σ0) sz) s H locs → lv_has ls 2 [(0, .ref (E.2.2 1000)), (1, .int x1)] → M_grammar_l133 n f σ x1 = some (r, σ') → W p l e rmM_grammar s m args below meth c H locs 0 0 (MQ below (QiM E σ0 σ' sz r) args s 0 0 (va_A (wldM E σ0) sz)) (F0 m 133 ls []) := by
    intro f
    induction f with
    | zero =>
      intro σ x1 H locs ls hw hl hm
      rw [M_grammar_l133] at hm
      cases hm
    | succ f ih =>
      intro σ x1 H locs ls hw hl hm
      rw [M_grammar_l133] at hm
      refine lv_iload_n hx hb dX10_grammar_133 rfl (lv_at hl 1 rfl) ?_
      refine lv_aload_n hx hb dX10_grammar_134 rfl (lv_at hl 0 rfl) ?_
      refine gtM_10 cx ok hw dX10_grammar_135 ?_
      refine lv_icmp_ge (tgt := 195) hx hb dX10_grammar_138 (by decide) (fun c1 => ?_) (fun c1 => ?_)
      · have hm := if_t c1 hm
        refine lv_aload_n hx hb dX10_grammar_195 rfl (lv_at hl 0 rfl) ?_
        refine gtM_10 cx ok hw dX10_grammar_196 ?_
        exact rtM_i cx hr hlk hw hm dX10_grammar_199
      · have hm := if_f c1 hm
        refine lv_aload_n hx hb dX10_grammar_141 rfl (lv_at hl 0 rfl) ?_
        refine gtM_11 cx ok hw dX10_grammar_142 ?_
        refine lv_iload_n hx hb dX10_grammar_145 rfl (lv_at hl 1 rfl) ?_
        refine lv_aload_n hx hb dX10_grammar_146 rfl (lv_at hl 0 rfl) ?_
        refine gtM_16 cx ok hw dX10_grammar_147 ?_
        refine lv_iload_n hx hb dX10_grammar_150 rfl (lv_at hl 1 rfl) ?_
        obtain ⟨g2, hm⟩ := gd_ok hm
        refine ldM_16 cx ok hw g2 dX10_grammar_151 ?_
        obtain ⟨g3, hm⟩ := gd_ok hm
        refine stM_11 cx ok hw g3 dX10_grammar_152 (fun H locs hw => ?_)
        obtain ⟨σ4, e5, hm⟩ := lt_ok hm
        have hw := wsM_eq e5 hw
        refine lv_aload_n hx hb dX10_grammar_153 rfl (lv_at hl 0 rfl) ?_
        refine gtM_12 cx ok hw dX10_grammar_154 ?_
        refine lv_iload_n hx hb dX10_grammar_157 rfl (lv_at hl 1 rfl) ?_
        refine lv_aload_n hx hb dX10_grammar_158 rfl (lv_at hl 0 rfl) ?_
        refine gtM_17 cx ok hw dX10_grammar_159 ?_
        refine lv_iload_n hx hb dX10_grammar_162 rfl (lv_at hl 1 rfl) ?_
        obtain ⟨g6, hm⟩ := gd_ok hm
        refine ldM_17 cx ok hw g6 dX10_grammar_163 ?_
        obtain ⟨g7, hm⟩ := gd_ok hm
        refine stM_12 cx ok hw g7 dX10_grammar_164 (fun H locs hw => ?_)
        obtain ⟨σ8, e9, hm⟩ := lt_ok hm
        have hw := wsM_eq e9 hw
        refine lv_aload_n hx hb dX10_grammar_165 rfl (lv_at hl 0 rfl) ?_
        refine gtM_13 cx ok hw dX10_grammar_166 ?_
        refine lv_iload_n hx hb dX10_grammar_169 rfl (lv_at hl 1 rfl) ?_
        refine lv_aload_n hx hb dX10_grammar_170 rfl (lv_at hl 0 rfl) ?_
        refine gtM_18 cx ok hw dX10_grammar_171 ?_
        refine lv_iload_n hx hb dX10_grammar_174 rfl (lv_at hl 1 rfl) ?_
        obtain ⟨g10, hm⟩ := gd_ok hm
        refine ldM_18 cx ok hw g10 dX10_grammar_175 ?_
        obtain ⟨g11, hm⟩ := gd_ok hm
        refine stM_13 cx ok hw g11 dX10_grammar_176 (fun H locs hw => ?_)
        obtain ⟨σ12, e13, hm⟩ := lt_ok hm
        have hw := wsM_eq e13 hw
        refine lv_aload_n hx hb dX10_grammar_177 rfl (lv_at hl 0 rfl) ?_
        refine gtM_14 cx ok hw dX10_grammar_178 ?_
        refine lv_iload_n hx hb dX10_grammar_181 rfl (lv_at hl 1 rfl) ?_
        refine lv_aload_n hx hb dX10_grammar_182 rfl (lv_at hl 0 rfl) ?_
        refine gtM_19 cx ok hw dX10_grammar_183 ?_
        refine lv_iload_n hx hb dX10_grammar_186 rfl (lv_at hl 1 rfl) ?_
        obtain ⟨g14, hm⟩ := gd_ok hm
        refine ldM_19 cx ok hw g14 dX10_grammar_187 ?_
        obtain ⟨g15, hm⟩ := gd_ok hm
        refine stM_14 cx ok hw g15 dX10_grammar_188 (fun H locs hw => ?_)
        obtain ⟨σ16, e17, hm⟩ := lt_ok hm
        have hw := wsM_eq e17 hw
        obtain ⟨x1_18, e19, hm⟩ := lt_ok hm
        refine lv_iinc (v := x1_18) (lv' := [(1, .int x1_18), (0, .ref (E.2.2 1000))]) hx hb dX10_grammar_189 hl (k := 1) rfl (by rw [e19]; rfl) (by decide) rfl (fun ls hl => ?_)
        refine lv_goto (tgt := 133) hx hb dX10_grammar_192 (by decide) ?_
        exact ih σ16 x1_18 H locs ls hw (lv_sub hl [1, 0] rfl) hm
  have w_103 : ∀ (σ : St) (H : Heap) (locs : List Loc) (ls : Array Slot), wsM E σ (va_A (wldM E σ0) sz) s H locs → lv_has ls 2 [(0, .ref (E.2.2 1000))] → M_grammar_b103 n σ = some (r, σ') → W p l e rmM_grammar s m args below meth c H locs 0 0 (MQ below (QiM E σ0 σ' sz r) args s 0 0 (va_A (wldM E σ0) sz)) (F0 m 103 ls []) := by
    intro σ H locs ls hw hl hm
    unfold M_grammar_b103 at hm
    refine lv_aload_n hx hb dX10_grammar_103 rfl (lv_at hl 0 rfl) ?_
    refine lv_iconst (v := (0 : Int32)) hx hb dX10_grammar_104 (by decide) ?_
    refine ptM_5 cx ok hw dX10_grammar_105 (fun H locs hw => ?_)
    obtain ⟨σ1, e2, hm⟩ := lt_ok hm
    have hw := wsM_eq e2 hw
    refine lv_aload_n hx hb dX10_grammar_108 rfl (lv_at hl 0 rfl) ?_
    refine gtM_22 cx ok hw dX10_grammar_109 ?_
    refine lv_if_lt (tgt := 123) hx hb dX10_grammar_112 (by decide) (fun c3 => ?_) (fun c3 => ?_)
    · have hm := if_t c3 hm
      refine lv_aload_n hx hb dX10_grammar_123 rfl (lv_at hl 0 rfl) ?_
      refine lv_aload_n hx hb dX10_grammar_124 rfl (lv_at hl 0 rfl) ?_
      refine gtM_15 cx ok hw dX10_grammar_125 ?_
      refine ptM_10 cx ok hw dX10_grammar_128 (fun H locs hw => ?_)
      obtain ⟨σ4, e5, hm⟩ := lt_ok hm
      have hw := wsM_eq e5 hw
      refine lv_iconst (v := (0 : Int32)) hx hb dX10_grammar_131 (by decide) ?_
      refine lv_istore_n (lv' := [(1, .int (0 : Int32)), (0, .ref (E.2.2 1000))]) hx hb dX10_grammar_132 rfl hl (by decide) rfl (fun ls hl => ?_)
      exact w_133 n σ4 (0 : Int32) H locs ls hw (lv_sub hl [1, 0] rfl) hm
    · have hm := if_f c3 hm
      refine lv_bipush (v := (-2 : Int32)) hx hb dX10_grammar_115 (by decide) ?_
      refine lv_aload_n hx hb dX10_grammar_117 rfl (lv_at hl 0 rfl) ?_
      refine gtM_22 cx ok hw dX10_grammar_118 ?_
      refine lv_isub hx hb dX10_grammar_121 ?_
      exact rtM_i cx hr hlk hw hm dX10_grammar_122
  have w_43 : ∀ (f : Nat), ∀ (σ : St) (H : Heap) (locs : List Loc) (ls : Array Slot), wsM E σ (va_A (wldM E σ0) sz) s H locs → lv_has ls 2 [(0, .ref (E.2.2 1000))] → M_grammar_l43 n f σ = some (r, σ') → W p l e rmM_grammar s m args below meth c H locs 0 0 (MQ below (QiM E σ0 σ' sz r) args s 0 0 (va_A (wldM E σ0) sz)) (F0 m 43 ls []) := by
    intro f
    induction f with
    | zero =>
      intro σ H locs ls hw hl hm
      rw [M_grammar_l43] at hm
      cases hm
    | succ f ih =>
      intro σ H locs ls hw hl hm
      rw [M_grammar_l43] at hm
      refine lv_aload_n hx hb dX10_grammar_43 rfl (lv_at hl 0 rfl) ?_
      refine gtM_22 cx ok hw dX10_grammar_44 ?_
      refine lv_if_ge (tgt := 92) hx hb dX10_grammar_47 (by decide) (fun c1 => ?_) (fun c1 => ?_)
      · have hm := if_t c1 hm
        refine lv_aload_n hx hb dX10_grammar_92 rfl (lv_at hl 0 rfl) ?_
        refine gtM_22 cx ok hw dX10_grammar_93 ?_
        refine lv_if_ge (tgt := 103) hx hb dX10_grammar_96 (by decide) (fun c2 => ?_) (fun c2 => ?_)
        · have hm := if_t c2 hm
          exact w_103 σ H locs ls hw (lv_sub hl [0] rfl) hm
        · have hm := if_f c2 hm
          refine lv_aload_n hx hb dX10_grammar_99 rfl (lv_at hl 0 rfl) ?_
          obtain ⟨σ4, h3, hm⟩ := bp_ok hm
          refine clV_Mv (As := []) (rest := []) cx hml hl.1 ok hw hA (cM_findRings l E n _ σ σ4 h3) (cwM_findRings hA9 ⟨Nat.le_of_ble_eq_true rfl, Nat.le_of_ble_eq_true rfl⟩) rfl rfl (Nat.le_of_ble_eq_true rfl) dX10_grammar_100 (fun H locs hw => ?_)
          exact w_103 σ4 H locs ls hw (lv_sub hl [0] rfl) hm
      · have hm := if_f c1 hm
        refine lv_aload_n hx hb dX10_grammar_50 rfl (lv_at hl 0 rfl) ?_
        refine gtM_21 cx ok hw dX10_grammar_51 ?_
        refine lv_aload_n hx hb dX10_grammar_54 rfl (lv_at hl 0 rfl) ?_
        refine gtM_5 cx ok hw dX10_grammar_55 ?_
        refine lv_icmp_ge (tgt := 92) hx hb dX10_grammar_58 (by decide) (fun c5 => ?_) (fun c5 => ?_)
        · have hm := if_t c5 hm
          refine lv_aload_n hx hb dX10_grammar_92 rfl (lv_at hl 0 rfl) ?_
          refine gtM_22 cx ok hw dX10_grammar_93 ?_
          refine lv_if_ge (tgt := 103) hx hb dX10_grammar_96 (by decide) (fun c6 => ?_) (fun c6 => ?_)
          · have hm := if_t c6 hm
            exact w_103 σ H locs ls hw (lv_sub hl [0] rfl) hm
          · have hm := if_f c6 hm
            refine lv_aload_n hx hb dX10_grammar_99 rfl (lv_at hl 0 rfl) ?_
            obtain ⟨σ8, h7, hm⟩ := bp_ok hm
            refine clV_Mv (As := []) (rest := []) cx hml hl.1 ok hw hA (cM_findRings l E n _ σ σ8 h7) (cwM_findRings hA9 ⟨Nat.le_of_ble_eq_true rfl, Nat.le_of_ble_eq_true rfl⟩) rfl rfl (Nat.le_of_ble_eq_true rfl) dX10_grammar_100 (fun H locs hw => ?_)
            exact w_103 σ8 H locs ls hw (lv_sub hl [0] rfl) hm
        · have hm := if_f c5 hm
          refine lv_aload_n hx hb dX10_grammar_61 rfl (lv_at hl 0 rfl) ?_
          refine gtM_15 cx ok hw dX10_grammar_62 ?_
          refine lv_bipush (v := (60 : Int32)) hx hb dX10_grammar_65 (by decide) ?_
          refine lv_icmp_ne (tgt := 81) hx hb dX10_grammar_67 (by decide) (fun c9 => ?_) (fun c9 => ?_)
          · have hm := if_f c9 hm
            refine lv_aload_n hx hb dX10_grammar_81 rfl (lv_at hl 0 rfl) ?_
            obtain ⟨σ11, h10, hm⟩ := bp_ok hm
            refine clV_Mv (As := []) (rest := []) cx hml hl.1 ok hw hA (cM_rule l E n _ σ σ11 h10) (cwM_rule hA9 ⟨Nat.le_of_ble_eq_true rfl, Nat.le_of_ble_eq_true rfl⟩) rfl rfl (Nat.le_of_ble_eq_true rfl) dX10_grammar_82 (fun H locs hw => ?_)
            refine lv_aload_n hx hb dX10_grammar_85 rfl (lv_at hl 0 rfl) ?_
            obtain ⟨σ13, h12, hm⟩ := bp_ok hm
            refine clV_Mv (As := []) (rest := []) cx hml hl.1 ok hw hA (cM_blanks l E n _ σ11 σ13 h12) (cwM_blanks hA9 ⟨Nat.le_of_ble_eq_true rfl, Nat.le_of_ble_eq_true rfl⟩) rfl rfl (Nat.le_of_ble_eq_true rfl) dX10_grammar_86 (fun H locs hw => ?_)
            refine lv_goto (tgt := 43) hx hb dX10_grammar_89 (by decide) ?_
            exact ih σ13 H locs ls hw (lv_sub hl [0] rfl) hm
          · have hm := if_t c9 hm
            refine lv_aload_n hx hb dX10_grammar_70 rfl (lv_at hl 0 rfl) ?_
            refine lv_aload_n hx hb dX10_grammar_71 rfl (lv_at hl 0 rfl) ?_
            refine gtM_21 cx ok hw dX10_grammar_72 ?_
            obtain ⟨σ15, h14, hm⟩ := bp_ok hm
            refine clV_Mv (As := [.int (σ.1 21 0)]) (rest := []) cx hml hl.1 ok hw hA (cM_stop l E _ σ σ15 (σ.1 21 0) h14) (cwM_stop hA9 ⟨Nat.le_of_ble_eq_true rfl, Nat.le_of_ble_eq_true rfl⟩) rfl rfl (Nat.le_of_ble_eq_true rfl) dX10_grammar_75 (fun H locs hw => ?_)
            refine lv_goto (tgt := 43) hx hb dX10_grammar_78 (by decide) ?_
            exact ih σ15 H locs ls hw (lv_sub hl [0] rfl) hm
  have hl : lv_has ls 2 [(0, .ref (E.2.2 1000))] := hl
  unfold M_grammar at hm
  have goal0 : ∀ (H : Heap) (locs : List Loc), wsM E σ0 (va_A (wldM E σ0) sz) s H locs → W p l e rmM_grammar s m args below meth c H locs 0 0 (MQ below (QiM E σ0 σ' sz r) args s 0 0 (va_A (wldM E σ0) sz)) (F0 m 0 ls []) := by
    intro H locs hw
    refine lv_aload_n hx hb dX10_grammar_0 rfl (lv_at hl 0 rfl) ?_
    refine lv_iconst (v := (0 : Int32)) hx hb dX10_grammar_1 (by decide) ?_
    refine ptM_0 cx ok hw dX10_grammar_2 (fun H locs hw => ?_)
    obtain ⟨σ1, e2, hm⟩ := lt_ok hm
    have hw := wsM_eq e2 hw
    refine lv_aload_n hx hb dX10_grammar_5 rfl (lv_at hl 0 rfl) ?_
    refine lv_iconst (v := (0 : Int32)) hx hb dX10_grammar_6 (by decide) ?_
    refine ptM_21 cx ok hw dX10_grammar_7 (fun H locs hw => ?_)
    obtain ⟨σ3, e4, hm⟩ := lt_ok hm
    have hw := wsM_eq e4 hw
    refine lv_aload_n hx hb dX10_grammar_10 rfl (lv_at hl 0 rfl) ?_
    refine lv_iconst (v := (-1 : Int32)) hx hb dX10_grammar_11 (by decide) ?_
    refine ptM_22 cx ok hw dX10_grammar_12 (fun H locs hw => ?_)
    obtain ⟨σ5, e6, hm⟩ := lt_ok hm
    have hw := wsM_eq e6 hw
    refine lv_aload_n hx hb dX10_grammar_15 rfl (lv_at hl 0 rfl) ?_
    refine lv_iconst (v := (0 : Int32)) hx hb dX10_grammar_16 (by decide) ?_
    refine ptM_15 cx ok hw dX10_grammar_17 (fun H locs hw => ?_)
    obtain ⟨σ7, e8, hm⟩ := lt_ok hm
    have hw := wsM_eq e8 hw
    refine lv_aload_n hx hb dX10_grammar_20 rfl (lv_at hl 0 rfl) ?_
    obtain ⟨σ10, h9, hm⟩ := bp_ok hm
    refine clV_Mv (As := []) (rest := []) cx hml hl.1 ok hw hA (cM_blanks l E n _ σ7 σ10 h9) (cwM_blanks hA9 ⟨Nat.le_of_ble_eq_true rfl, Nat.le_of_ble_eq_true rfl⟩) rfl rfl (Nat.le_of_ble_eq_true rfl) dX10_grammar_21 (fun H locs hw => ?_)
    refine lv_aload_n hx hb dX10_grammar_24 rfl (lv_at hl 0 rfl) ?_
    refine gtM_21 cx ok hw dX10_grammar_25 ?_
    refine lv_aload_n hx hb dX10_grammar_28 rfl (lv_at hl 0 rfl) ?_
    refine gtM_5 cx ok hw dX10_grammar_29 ?_
    refine lv_icmp_ne (tgt := 43) hx hb dX10_grammar_32 (by decide) (fun c11 => ?_) (fun c11 => ?_)
    · have hm := if_f c11 hm
      exact w_43 n σ10 H locs ls hw (lv_sub hl [0] rfl) hm
    · have hm := if_t c11 hm
      refine lv_aload_n hx hb dX10_grammar_35 rfl (lv_at hl 0 rfl) ?_
      refine lv_aload_n hx hb dX10_grammar_36 rfl (lv_at hl 0 rfl) ?_
      refine gtM_21 cx ok hw dX10_grammar_37 ?_
      obtain ⟨σ13, h12, hm⟩ := bp_ok hm
      refine clV_Mv (As := [.int (σ10.1 21 0)]) (rest := []) cx hml hl.1 ok hw hA (cM_stop l E _ σ10 σ13 (σ10.1 21 0) h12) (cwM_stop hA9 ⟨Nat.le_of_ble_eq_true rfl, Nat.le_of_ble_eq_true rfl⟩) rfl rfl (Nat.le_of_ble_eq_true rfl) dX10_grammar_40 (fun H locs hw => ?_)
      exact w_43 n σ13 H locs ls hw (lv_sub hl [0] rfl) hm
  exact goal0 _ _ hw
/-! public int slot(int, int, int);: writes -/
def M_slot_b49 (σ : St) (x1 : Int32) (x2 : Int32) (x3 : Int32) : Option (Int32 × St) :=
  if x3 < (-1 : Int32) then
    some ((-1 : Int32), σ)
  else
    if x3 ≤ (127 : Int32) then
      gd (σ.1 6 0) 24 <|
      lt (sI σ 7 (σ.1 6 0).toNatClampNeg x1) fun σ4 =>
      gd (σ4.1 6 0) 24 <|
      lt (sI σ4 8 (σ4.1 6 0).toNatClampNeg x2) fun σ7 =>
      gd (σ7.1 6 0) 24 <|
      lt (sI σ7 9 (σ7.1 6 0).toNatClampNeg x3) fun σ10 =>
      lt (sI σ10 6 0 ((σ10.1 6 0) + (1 : Int32))) fun σ12 =>
      some (((σ12.1 6 0) - (1 : Int32)), σ12)
    else
      some ((-1 : Int32), σ)
def M_slot (σ0 : St) (x1 : Int32) (x2 : Int32) (x3 : Int32) : Option (Int32 × St) :=
  lt (sI σ0 0 0 (0 : Int32)) fun σ1 =>
  if (σ1.1 6 0) = (24 : Int32) then
    some ((-1 : Int32), σ1)
  else
    if x1 < (1 : Int32) then
      some ((-1 : Int32), σ1)
    else
      if (4095 : Int32) < x1 then
        some ((-1 : Int32), σ1)
      else
        if x2 = (-1 : Int32) then
          M_slot_b49 σ1 x1 x2 x3
        else
          if x2 < 0 then
            some ((-1 : Int32), σ1)
          else
            if (11 : Int32) < x2 then
              some ((-1 : Int32), σ1)
            else
              if ((x1 >>> (x2 &&& 31)) &&& (1 : Int32)) = 0 then
                some ((-1 : Int32), σ1)
              else
                M_slot_b49 σ1 x1 x2 x3
abbrev rmM_slot : Room := { frames := 0, cells := 0, slots := 0, locals := 0 }
set_option maxHeartbeats 4000000 in
set_option maxRecDepth 100000 in
theorem cM_slot (l : Launch) (E : Ev) (sz : Nat) (σ0 σ' : St) (x1 : Int32) (x2 : Int32) (x3 : Int32) (r : Int32) (hm : M_slot σ0 x1 x2 x3 = some (r, σ')) : Met l yX10_slot (wz yX10_slot cX10_slot 4 (some .int)) rmM_slot (PwM E [.ref (E.2.2 1000), .int x1, .int x2, .int x3] σ0 sz) (QiM E σ0 σ' sz r) 0 0 (va_A (wldM E σ0) sz) := by
  refine enM (by decide) rfl (Nat.le_of_ble_eq_true rfl) (fun p e s m args below meth c cx hr hlk hml hsz ok hw ls hl => ?_)
  have hx := cx.1
  have hb := cx.2.1
  have hA9 := cx.2.2.2
  have hA : ∀ q, s.heap.size ≤ q → (va_A (wldM E σ0) sz) q := fun q h => Or.inr (by rw [← hsz]; exact h)
  have w_49 : ∀ (σ : St) (x1 : Int32) (x2 : Int32) (x3 : Int32) (H : Heap) (locs : List Loc) (ls : Array Slot), wsM E σ (va_A (wldM E σ0) sz) s H locs → lv_has ls 4 [(0, .ref (E.2.2 1000)), (1, .int x1), (2, .int x2), (3, .int x3)] → M_slot_b49 σ x1 x2 x3 = some (r, σ') → W p l e rmM_slot s m args below meth c H locs 0 0 (MQ below (QiM E σ0 σ' sz r) args s 0 0 (va_A (wldM E σ0) sz)) (F0 m 49 ls []) := by
    intro σ x1 x2 x3 H locs ls hw hl hm
    unfold M_slot_b49 at hm
    refine lv_iload_n hx hb dX10_slot_49 rfl (lv_at hl 3 rfl) ?_
    refine lv_iconst (v := (-1 : Int32)) hx hb dX10_slot_50 (by decide) ?_
    refine lv_icmp_lt (tgt := 60) hx hb dX10_slot_51 (by decide) (fun c1 => ?_) (fun c1 => ?_)
    · have hm := if_t c1 hm
      refine lv_iconst (v := (-1 : Int32)) hx hb dX10_slot_60 (by decide) ?_
      exact rtM_i cx hr hlk hw hm dX10_slot_61
    · have hm := if_f c1 hm
      refine lv_iload_n hx hb dX10_slot_54 rfl (lv_at hl 3 rfl) ?_
      refine lv_bipush (v := (127 : Int32)) hx hb dX10_slot_55 (by decide) ?_
      refine lv_icmp_le (tgt := 62) hx hb dX10_slot_57 (by decide) (fun c2 => ?_) (fun c2 => ?_)
      · have hm := if_t c2 hm
        refine lv_aload_n hx hb dX10_slot_62 rfl (lv_at hl 0 rfl) ?_
        refine gtM_7 cx ok hw dX10_slot_63 ?_
        refine lv_aload_n hx hb dX10_slot_66 rfl (lv_at hl 0 rfl) ?_
        refine gtM_6 cx ok hw dX10_slot_67 ?_
        refine lv_iload_n hx hb dX10_slot_70 rfl (lv_at hl 1 rfl) ?_
        obtain ⟨g3, hm⟩ := gd_ok hm
        refine stM_7 cx ok hw g3 dX10_slot_71 (fun H locs hw => ?_)
        obtain ⟨σ4, e5, hm⟩ := lt_ok hm
        have hw := wsM_eq e5 hw
        refine lv_aload_n hx hb dX10_slot_72 rfl (lv_at hl 0 rfl) ?_
        refine gtM_8 cx ok hw dX10_slot_73 ?_
        refine lv_aload_n hx hb dX10_slot_76 rfl (lv_at hl 0 rfl) ?_
        refine gtM_6 cx ok hw dX10_slot_77 ?_
        refine lv_iload_n hx hb dX10_slot_80 rfl (lv_at hl 2 rfl) ?_
        obtain ⟨g6, hm⟩ := gd_ok hm
        refine stM_8 cx ok hw g6 dX10_slot_81 (fun H locs hw => ?_)
        obtain ⟨σ7, e8, hm⟩ := lt_ok hm
        have hw := wsM_eq e8 hw
        refine lv_aload_n hx hb dX10_slot_82 rfl (lv_at hl 0 rfl) ?_
        refine gtM_9 cx ok hw dX10_slot_83 ?_
        refine lv_aload_n hx hb dX10_slot_86 rfl (lv_at hl 0 rfl) ?_
        refine gtM_6 cx ok hw dX10_slot_87 ?_
        refine lv_iload_n hx hb dX10_slot_90 rfl (lv_at hl 3 rfl) ?_
        obtain ⟨g9, hm⟩ := gd_ok hm
        refine stM_9 cx ok hw g9 dX10_slot_91 (fun H locs hw => ?_)
        obtain ⟨σ10, e11, hm⟩ := lt_ok hm
        have hw := wsM_eq e11 hw
        refine lv_aload_n hx hb dX10_slot_92 rfl (lv_at hl 0 rfl) ?_
        refine lv_dup hx hb dX10_slot_93 rfl ?_
        refine gtM_6 cx ok hw dX10_slot_94 ?_
        refine lv_iconst (v := (1 : Int32)) hx hb dX10_slot_97 (by decide) ?_
        refine lv_iadd hx hb dX10_slot_98 ?_
        refine ptM_6 cx ok hw dX10_slot_99 (fun H locs hw => ?_)
        obtain ⟨σ12, e13, hm⟩ := lt_ok hm
        have hw := wsM_eq e13 hw
        refine lv_aload_n hx hb dX10_slot_102 rfl (lv_at hl 0 rfl) ?_
        refine gtM_6 cx ok hw dX10_slot_103 ?_
        refine lv_iconst (v := (1 : Int32)) hx hb dX10_slot_106 (by decide) ?_
        refine lv_isub hx hb dX10_slot_107 ?_
        exact rtM_i cx hr hlk hw hm dX10_slot_108
      · have hm := if_f c2 hm
        refine lv_iconst (v := (-1 : Int32)) hx hb dX10_slot_60 (by decide) ?_
        exact rtM_i cx hr hlk hw hm dX10_slot_61
  have hl : lv_has ls 4 [(0, .ref (E.2.2 1000)), (1, .int x1), (2, .int x2), (3, .int x3)] := hl
  unfold M_slot at hm
  have goal0 : ∀ (H : Heap) (locs : List Loc), wsM E σ0 (va_A (wldM E σ0) sz) s H locs → W p l e rmM_slot s m args below meth c H locs 0 0 (MQ below (QiM E σ0 σ' sz r) args s 0 0 (va_A (wldM E σ0) sz)) (F0 m 0 ls []) := by
    intro H locs hw
    refine lv_aload_n hx hb dX10_slot_0 rfl (lv_at hl 0 rfl) ?_
    refine lv_iconst (v := (0 : Int32)) hx hb dX10_slot_1 (by decide) ?_
    refine ptM_0 cx ok hw dX10_slot_2 (fun H locs hw => ?_)
    obtain ⟨σ1, e2, hm⟩ := lt_ok hm
    have hw := wsM_eq e2 hw
    refine lv_aload_n hx hb dX10_slot_5 rfl (lv_at hl 0 rfl) ?_
    refine gtM_6 cx ok hw dX10_slot_6 ?_
    refine lv_bipush (v := (24 : Int32)) hx hb dX10_slot_9 (by decide) ?_
    refine lv_icmp_eq (tgt := 60) hx hb dX10_slot_11 (by decide) (fun c3 => ?_) (fun c3 => ?_)
    · have hm := if_t c3 hm
      refine lv_iconst (v := (-1 : Int32)) hx hb dX10_slot_60 (by decide) ?_
      exact rtM_i cx hr hlk hw hm dX10_slot_61
    · have hm := if_f c3 hm
      refine lv_iload_n hx hb dX10_slot_14 rfl (lv_at hl 1 rfl) ?_
      refine lv_iconst (v := (1 : Int32)) hx hb dX10_slot_15 (by decide) ?_
      refine lv_icmp_lt (tgt := 60) hx hb dX10_slot_16 (by decide) (fun c4 => ?_) (fun c4 => ?_)
      · have hm := if_t c4 hm
        refine lv_iconst (v := (-1 : Int32)) hx hb dX10_slot_60 (by decide) ?_
        exact rtM_i cx hr hlk hw hm dX10_slot_61
      · have hm := if_f c4 hm
        refine lv_iload_n hx hb dX10_slot_19 rfl (lv_at hl 1 rfl) ?_
        refine lv_sipush (v := (4095 : Int32)) hx hb dX10_slot_20 (by decide) ?_
        refine lv_icmp_gt (tgt := 60) hx hb dX10_slot_23 (by decide) (fun c5 => ?_) (fun c5 => ?_)
        · have hm := if_t c5 hm
          refine lv_iconst (v := (-1 : Int32)) hx hb dX10_slot_60 (by decide) ?_
          exact rtM_i cx hr hlk hw hm dX10_slot_61
        · have hm := if_f c5 hm
          refine lv_iload_n hx hb dX10_slot_26 rfl (lv_at hl 2 rfl) ?_
          refine lv_iconst (v := (-1 : Int32)) hx hb dX10_slot_27 (by decide) ?_
          refine lv_icmp_eq (tgt := 49) hx hb dX10_slot_28 (by decide) (fun c6 => ?_) (fun c6 => ?_)
          · have hm := if_t c6 hm
            exact w_49 σ1 x1 x2 x3 H locs ls hw (lv_sub hl [0, 1, 2, 3] rfl) hm
          · have hm := if_f c6 hm
            refine lv_iload_n hx hb dX10_slot_31 rfl (lv_at hl 2 rfl) ?_
            refine lv_if_lt (tgt := 60) hx hb dX10_slot_32 (by decide) (fun c7 => ?_) (fun c7 => ?_)
            · have hm := if_t c7 hm
              refine lv_iconst (v := (-1 : Int32)) hx hb dX10_slot_60 (by decide) ?_
              exact rtM_i cx hr hlk hw hm dX10_slot_61
            · have hm := if_f c7 hm
              refine lv_iload_n hx hb dX10_slot_35 rfl (lv_at hl 2 rfl) ?_
              refine lv_bipush (v := (11 : Int32)) hx hb dX10_slot_36 (by decide) ?_
              refine lv_icmp_gt (tgt := 60) hx hb dX10_slot_38 (by decide) (fun c8 => ?_) (fun c8 => ?_)
              · have hm := if_t c8 hm
                refine lv_iconst (v := (-1 : Int32)) hx hb dX10_slot_60 (by decide) ?_
                exact rtM_i cx hr hlk hw hm dX10_slot_61
              · have hm := if_f c8 hm
                refine lv_iload_n hx hb dX10_slot_41 rfl (lv_at hl 1 rfl) ?_
                refine lv_iload_n hx hb dX10_slot_42 rfl (lv_at hl 2 rfl) ?_
                refine lv_ishr hx hb dX10_slot_43 ?_
                refine lv_iconst (v := (1 : Int32)) hx hb dX10_slot_44 (by decide) ?_
                refine lv_iand hx hb dX10_slot_45 ?_
                refine lv_if_eq (tgt := 60) hx hb dX10_slot_46 (by decide) (fun c9 => ?_) (fun c9 => ?_)
                · have hm := if_t c9 hm
                  refine lv_iconst (v := (-1 : Int32)) hx hb dX10_slot_60 (by decide) ?_
                  exact rtM_i cx hr hlk hw hm dX10_slot_61
                · have hm := if_f c9 hm
                  exact w_49 σ1 x1 x2 x3 H locs ls hw (lv_sub hl [0, 1, 2, 3] rfl) hm
  exact goal0 _ _ hw
/-! public int clear();: writes -/
def M_clear (σ0 : St) : Option (Int32 × St) :=
  lt (sI σ0 0 0 (0 : Int32)) fun σ1 =>
  lt ((σ1.1 6 0)) fun x1_3 =>
  lt (sI σ1 6 0 (0 : Int32)) fun σ5 =>
  some (x1_3, σ5)
abbrev rmM_clear : Room := { frames := 0, cells := 0, slots := 0, locals := 0 }
set_option maxHeartbeats 4000000 in
set_option maxRecDepth 100000 in
theorem cM_clear (l : Launch) (E : Ev) (sz : Nat) (σ0 σ' : St) (r : Int32) (hm : M_clear σ0 = some (r, σ')) : Met l yX10_clear (wz yX10_clear cX10_clear 2 (some .int)) rmM_clear (PwM E [.ref (E.2.2 1000)] σ0 sz) (QiM E σ0 σ' sz r) 0 0 (va_A (wldM E σ0) sz) := by
  refine enM (by decide) rfl (Nat.le_of_ble_eq_true rfl) (fun p e s m args below meth c cx hr hlk hml hsz ok hw ls hl => ?_)
  have hx := cx.1
  have hb := cx.2.1
  have hA9 := cx.2.2.2
  have hA : ∀ q, s.heap.size ≤ q → (va_A (wldM E σ0) sz) q := fun q h => Or.inr (by rw [← hsz]; exact h)
  have hl : lv_has ls 2 [(0, .ref (E.2.2 1000))] := hl
  unfold M_clear at hm
  have goal0 : ∀ (H : Heap) (locs : List Loc), wsM E σ0 (va_A (wldM E σ0) sz) s H locs → W p l e rmM_clear s m args below meth c H locs 0 0 (MQ below (QiM E σ0 σ' sz r) args s 0 0 (va_A (wldM E σ0) sz)) (F0 m 0 ls []) := by
    intro H locs hw
    refine lv_aload_n hx hb dX10_clear_0 rfl (lv_at hl 0 rfl) ?_
    refine lv_iconst (v := (0 : Int32)) hx hb dX10_clear_1 (by decide) ?_
    refine ptM_0 cx ok hw dX10_clear_2 (fun H locs hw => ?_)
    obtain ⟨σ1, e2, hm⟩ := lt_ok hm
    have hw := wsM_eq e2 hw
    refine lv_aload_n hx hb dX10_clear_5 rfl (lv_at hl 0 rfl) ?_
    refine gtM_6 cx ok hw dX10_clear_6 ?_
    obtain ⟨x1_3, e4, hm⟩ := lt_ok hm
    refine ti_eq e4 ?_
    refine lv_istore_n (lv' := [(1, .int x1_3), (0, .ref (E.2.2 1000))]) hx hb dX10_clear_9 rfl hl (by decide) rfl (fun ls hl => ?_)
    refine lv_aload_n hx hb dX10_clear_10 rfl (lv_at hl 1 rfl) ?_
    refine lv_iconst (v := (0 : Int32)) hx hb dX10_clear_11 (by decide) ?_
    refine ptM_6 cx ok hw dX10_clear_12 (fun H locs hw => ?_)
    obtain ⟨σ5, e6, hm⟩ := lt_ok hm
    have hw := wsM_eq e6 hw
    refine lv_iload_n hx hb dX10_clear_15 rfl (lv_at hl 0 rfl) ?_
    exact rtM_i cx hr hlk hw hm dX10_clear_16
  exact goal0 _ _ hw
/-! private static int shape(int);: reads only -/
def M_shape (x0 : Int32) : Option Int32 :=
  if x0 = (0 : Int32) then
    some (145 : Int32)
  else
  if x0 = (1 : Int32) then
    some (137 : Int32)
  else
  if x0 = (2 : Int32) then
    some (73 : Int32)
  else
  if x0 = (3 : Int32) then
    some (273 : Int32)
  else
  if x0 = (4 : Int32) then
    some (1169 : Int32)
  else
  if x0 = (5 : Int32) then
    some (2193 : Int32)
  else
  if x0 = (6 : Int32) then
    some (1161 : Int32)
  else
  if x0 = (7 : Int32) then
    some (1097 : Int32)
  else
    some (585 : Int32)
abbrev rmM_shape : Room := { frames := 0, cells := 0, slots := 0, locals := 0 }
set_option maxHeartbeats 4000000 in
set_option maxRecDepth 100000 in
theorem cM_shape (l : Launch) (E : Ev) (sz : Nat) (σ0 : St) (x0 : Int32) (r : Int32) (hm : M_shape x0 = some r) : Met l yX10_shape (wz yX10_shape cX10_shape 1 (some .int)) rmM_shape (PwM E [.int x0] σ0 sz) (QiM E σ0 σ0 sz r) 0 0 (va_A (wldM E σ0) sz) := by
  refine enM (by decide) rfl (Nat.le_of_ble_eq_true rfl) (fun p e s m args below meth c cx hr hlk hml hsz ok hw ls hl => ?_)
  have hx := cx.1
  have hb := cx.2.1
  have hA9 := cx.2.2.2
  have hA : ∀ q, s.heap.size ≤ q → (va_A (wldM E σ0) sz) q := fun q h => Or.inr (by rw [← hsz]; exact h)
  have hl : lv_has ls 1 [(0, .int x0)] := hl
  unfold M_shape at hm
  have goal0 : ∀ (H : Heap) (locs : List Loc), wsM E σ0 (va_A (wldM E σ0) sz) s H locs → W p l e rmM_shape s m args below meth c H locs 0 0 (MQ below (QiM E σ0 σ0 sz r) args s 0 0 (va_A (wldM E σ0) sz)) (F0 m 0 ls []) := by
    intro H locs hw
    refine lv_iload_n hx hb dX10_shape_0 rfl (lv_at hl 0 rfl) ?_
    by_cases c1 : x0 = (0 : Int32)
    · refine lv_tableIn (tgt := 48) hx hb dX10_shape_1 (by rw [c1]; decide) (by rw [c1]; decide) (by rw [c1]; rfl) (by decide) ?_
      have hm := if_t c1 hm
      refine lv_sipush (v := (145 : Int32)) hx hb dX10_shape_48 (by decide) ?_
      exact rtM_i cx hr hlk hw (pr_some hm) dX10_shape_51
    have hm := if_f c1 hm
    by_cases c2 : x0 = (1 : Int32)
    · refine lv_tableIn (tgt := 52) hx hb dX10_shape_1 (by rw [c2]; decide) (by rw [c2]; decide) (by rw [c2]; rfl) (by decide) ?_
      have hm := if_t c2 hm
      refine lv_sipush (v := (137 : Int32)) hx hb dX10_shape_52 (by decide) ?_
      exact rtM_i cx hr hlk hw (pr_some hm) dX10_shape_55
    have hm := if_f c2 hm
    by_cases c3 : x0 = (2 : Int32)
    · refine lv_tableIn (tgt := 56) hx hb dX10_shape_1 (by rw [c3]; decide) (by rw [c3]; decide) (by rw [c3]; rfl) (by decide) ?_
      have hm := if_t c3 hm
      refine lv_bipush (v := (73 : Int32)) hx hb dX10_shape_56 (by decide) ?_
      exact rtM_i cx hr hlk hw (pr_some hm) dX10_shape_58
    have hm := if_f c3 hm
    by_cases c4 : x0 = (3 : Int32)
    · refine lv_tableIn (tgt := 59) hx hb dX10_shape_1 (by rw [c4]; decide) (by rw [c4]; decide) (by rw [c4]; rfl) (by decide) ?_
      have hm := if_t c4 hm
      refine lv_sipush (v := (273 : Int32)) hx hb dX10_shape_59 (by decide) ?_
      exact rtM_i cx hr hlk hw (pr_some hm) dX10_shape_62
    have hm := if_f c4 hm
    by_cases c5 : x0 = (4 : Int32)
    · refine lv_tableIn (tgt := 63) hx hb dX10_shape_1 (by rw [c5]; decide) (by rw [c5]; decide) (by rw [c5]; rfl) (by decide) ?_
      have hm := if_t c5 hm
      refine lv_sipush (v := (1169 : Int32)) hx hb dX10_shape_63 (by decide) ?_
      exact rtM_i cx hr hlk hw (pr_some hm) dX10_shape_66
    have hm := if_f c5 hm
    by_cases c6 : x0 = (5 : Int32)
    · refine lv_tableIn (tgt := 67) hx hb dX10_shape_1 (by rw [c6]; decide) (by rw [c6]; decide) (by rw [c6]; rfl) (by decide) ?_
      have hm := if_t c6 hm
      refine lv_sipush (v := (2193 : Int32)) hx hb dX10_shape_67 (by decide) ?_
      exact rtM_i cx hr hlk hw (pr_some hm) dX10_shape_70
    have hm := if_f c6 hm
    by_cases c7 : x0 = (6 : Int32)
    · refine lv_tableIn (tgt := 71) hx hb dX10_shape_1 (by rw [c7]; decide) (by rw [c7]; decide) (by rw [c7]; rfl) (by decide) ?_
      have hm := if_t c7 hm
      refine lv_sipush (v := (1161 : Int32)) hx hb dX10_shape_71 (by decide) ?_
      exact rtM_i cx hr hlk hw (pr_some hm) dX10_shape_74
    have hm := if_f c7 hm
    by_cases c8 : x0 = (7 : Int32)
    · refine lv_tableIn (tgt := 75) hx hb dX10_shape_1 (by rw [c8]; decide) (by rw [c8]; decide) (by rw [c8]; rfl) (by decide) ?_
      have hm := if_t c8 hm
      refine lv_sipush (v := (1097 : Int32)) hx hb dX10_shape_75 (by decide) ?_
      exact rtM_i cx hr hlk hw (pr_some hm) dX10_shape_78
    have hm := if_f c8 hm
    have c1 := ne_ti c1
    rw [show ((0 : Int32)).toInt = 0 from by decide] at c1
    have c2 := ne_ti c2
    rw [show ((1 : Int32)).toInt = 1 from by decide] at c2
    have c3 := ne_ti c3
    rw [show ((2 : Int32)).toInt = 2 from by decide] at c3
    have c4 := ne_ti c4
    rw [show ((3 : Int32)).toInt = 3 from by decide] at c4
    have c5 := ne_ti c5
    rw [show ((4 : Int32)).toInt = 4 from by decide] at c5
    have c6 := ne_ti c6
    rw [show ((5 : Int32)).toInt = 5 from by decide] at c6
    have c7 := ne_ti c7
    rw [show ((6 : Int32)).toInt = 6 from by decide] at c7
    have c8 := ne_ti c8
    rw [show ((7 : Int32)).toInt = 7 from by decide] at c8
    refine lv_tableOut (tgt := 79) hx hb dX10_shape_1 (by omega) (by decide) ?_
    refine lv_sipush (v := (585 : Int32)) hx hb dX10_shape_79 (by decide) ?_
    exact rtM_i cx hr hlk hw (pr_some hm) dX10_shape_82
  exact goal0 _ _ hw
theorem cwM_shape {R : Room} {s : State} {args : Array Value} (h : ∀ w ∈ wA, w.before args s = true) (hR : rmM_shape.frames + 1 ≤ R.frames ∧ 8 + (1 + 11) + rmM_shape.locals ≤ R.locals) : CallB R s args RX10 178 yX10_shape cX10_shape 1 (some .int) (wz yX10_shape cX10_shape 1 (some .int)) rmM_shape 0 0 1 ∧ (Cond.static yX10_shape).before args s = true := va_cwS 1 h (gdS k_1022 k_1023 k_11 k_1024) rfl rfl rfl (by decide +kernel) hR
/-! private static int classes(int, int);: reads only -/
def M_classes (x0 : Int32) (x1 : Int32) : Option Int32 :=
  bp (M_shape x1) fun r2 =>
  lt ((r2 <<< (x0 &&& 31))) fun x2_3 =>
  some ((x2_3 ||| (x2_3 >>> ((12 : Int32) &&& 31))) &&& (4095 : Int32))
abbrev rmM_classes : Room := { frames := 1, cells := 0, slots := 0, locals := 20 }
set_option maxHeartbeats 4000000 in
set_option maxRecDepth 100000 in
theorem cM_classes (l : Launch) (E : Ev) (sz : Nat) (σ0 : St) (x0 : Int32) (x1 : Int32) (r : Int32) (hm : M_classes x0 x1 = some r) : Met l yX10_classes (wz yX10_classes cX10_classes 3 (some .int)) rmM_classes (PwM E [.int x0, .int x1] σ0 sz) (QiM E σ0 σ0 sz r) 0 0 (va_A (wldM E σ0) sz) := by
  refine enM (by decide) rfl (Nat.le_of_ble_eq_true rfl) (fun p e s m args below meth c cx hr hlk hml hsz ok hw ls hl => ?_)
  have hx := cx.1
  have hb := cx.2.1
  have hA9 := cx.2.2.2
  have hA : ∀ q, s.heap.size ≤ q → (va_A (wldM E σ0) sz) q := fun q h => Or.inr (by rw [← hsz]; exact h)
  have hl : lv_has ls 3 [(0, .int x0), (1, .int x1)] := hl
  unfold M_classes at hm
  have goal0 : ∀ (H : Heap) (locs : List Loc), wsM E σ0 (va_A (wldM E σ0) sz) s H locs → W p l e rmM_classes s m args below meth c H locs 0 0 (MQ below (QiM E σ0 σ0 sz r) args s 0 0 (va_A (wldM E σ0) sz)) (F0 m 0 ls []) := by
    intro H locs hw
    refine lv_iload_n hx hb dX10_classes_0 rfl (lv_at hl 1 rfl) ?_
    obtain ⟨r2, h1, hm⟩ := bp_ok hm
    refine clS_Mi (As := [.int x1]) (rest := []) cx hml hl.1 ok hw hA (cM_shape l E _ σ0 x1 r2 h1) (cwM_shape hA9 ⟨Nat.le_of_ble_eq_true rfl, Nat.le_of_ble_eq_true rfl⟩) rfl rfl (Nat.le_of_ble_eq_true rfl) dX10_classes_1 (fun H locs hw => ?_)
    refine lv_iload_n hx hb dX10_classes_4 rfl (lv_at hl 0 rfl) ?_
    refine lv_ishl hx hb dX10_classes_5 ?_
    obtain ⟨x2_3, e4, hm⟩ := lt_ok hm
    refine ti_eq e4 ?_
    refine lv_istore_n (lv' := [(2, .int x2_3), (0, .int x0), (1, .int x1)]) hx hb dX10_classes_6 rfl hl (by decide) rfl (fun ls hl => ?_)
    refine lv_iload_n hx hb dX10_classes_7 rfl (lv_at hl 0 rfl) ?_
    refine lv_iload_n hx hb dX10_classes_8 rfl (lv_at hl 0 rfl) ?_
    refine lv_bipush (v := (12 : Int32)) hx hb dX10_classes_9 (by decide) ?_
    refine lv_ishr hx hb dX10_classes_11 ?_
    refine lv_ior hx hb dX10_classes_12 ?_
    refine lv_sipush (v := (4095 : Int32)) hx hb dX10_classes_13 (by decide) ?_
    refine lv_iand hx hb dX10_classes_16 ?_
    exact rtM_i cx hr hlk hw (pr_some hm) dX10_classes_17
  exact goal0 _ _ hw
theorem cwM_classes {R : Room} {s : State} {args : Array Value} (h : ∀ w ∈ wA, w.before args s = true) (hR : rmM_classes.frames + 1 ≤ R.frames ∧ 8 + (3 + 11) + rmM_classes.locals ≤ R.locals) : CallB R s args RX10 181 yX10_classes cX10_classes 3 (some .int) (wz yX10_classes cX10_classes 3 (some .int)) rmM_classes 0 0 2 ∧ (Cond.static yX10_classes).before args s = true := va_cwS 2 h (gdS k_1019 k_1020 k_11 k_1021) rfl rfl rfl (by decide +kernel) hR
/-! private static int many(int);: reads only, loops -/
def M_many_l4 (n : Nat) : Nat → Int32 → Int32 → Option Int32
  | 0, _, _ => none
  | f + 1, x1, x2 =>
    if x2 ≤ 0 then
      some x1
    else
      lt ((x1 + (x2 &&& (1 : Int32)))) fun x1_2 =>
      lt ((x2 >>> ((1 : Int32) &&& 31))) fun x2_4 =>
      (M_many_l4 n f) x1_2 x2_4
def M_many (n : Nat) (x0 : Int32) : Option Int32 :=
  M_many_l4 n n (0 : Int32) x0
abbrev rmM_many : Room := { frames := 0, cells := 0, slots := 0, locals := 0 }
set_option maxHeartbeats 4000000 in
set_option maxRecDepth 100000 in
theorem cM_many (l : Launch) (E : Ev) (n : Nat) (sz : Nat) (σ0 : St) (x0 : Int32) (r : Int32) (hm : M_many n x0 = some r) : Met l yX10_many (wz yX10_many cX10_many 3 (some .int)) rmM_many (PwM E [.int x0] σ0 sz) (QiM E σ0 σ0 sz r) 0 0 (va_A (wldM E σ0) sz) := by
  refine enM (by decide) rfl (Nat.le_of_ble_eq_true rfl) (fun p e s m args below meth c cx hr hlk hml hsz ok hw ls hl => ?_)
  have hx := cx.1
  have hb := cx.2.1
  have hA9 := cx.2.2.2
  have hA : ∀ q, s.heap.size ≤ q → (va_A (wldM E σ0) sz) q := fun q h => Or.inr (by rw [← hsz]; exact h)
  have w_4 : ∀ (f : Nat), ∀ (x1 : Int32) (x2 : Int32) (H : Heap) (locs : List Loc) (ls : Array Slot), wsM E σ0 (va_A (wldM E σ0) sz) s H locs → lv_has ls 3 [(1, .int x1), (2, .int x2)] → M_many_l4 n f x1 x2 = some r → W p l e rmM_many s m args below meth c H locs 0 0 (MQ below (QiM E σ0 σ0 sz r) args s 0 0 (va_A (wldM E σ0) sz)) (F0 m 4 ls []) := by
    intro f
    induction f with
    | zero =>
      intro x1 x2 H locs ls hw hl hm
      rw [M_many_l4] at hm
      cases hm
    | succ f ih =>
      intro x1 x2 H locs ls hw hl hm
      rw [M_many_l4] at hm
      refine lv_iload_n hx hb dX10_many_4 rfl (lv_at hl 1 rfl) ?_
      refine lv_if_le (tgt := 21) hx hb dX10_many_5 (by decide) (fun c1 => ?_) (fun c1 => ?_)
      · have hm := if_t c1 hm
        refine lv_iload_n hx hb dX10_many_21 rfl (lv_at hl 0 rfl) ?_
        exact rtM_i cx hr hlk hw (pr_some hm) dX10_many_22
      · have hm := if_f c1 hm
        refine lv_iload_n hx hb dX10_many_8 rfl (lv_at hl 0 rfl) ?_
        refine lv_iload_n hx hb dX10_many_9 rfl (lv_at hl 1 rfl) ?_
        refine lv_iconst (v := (1 : Int32)) hx hb dX10_many_10 (by decide) ?_
        refine lv_iand hx hb dX10_many_11 ?_
        refine lv_iadd hx hb dX10_many_12 ?_
        obtain ⟨x1_2, e3, hm⟩ := lt_ok hm
        refine ti_eq e3 ?_
        refine lv_istore_n (lv' := [(1, .int x1_2), (2, .int x2)]) hx hb dX10_many_13 rfl hl (by decide) rfl (fun ls hl => ?_)
        refine lv_iload_n hx hb dX10_many_14 rfl (lv_at hl 1 rfl) ?_
        refine lv_iconst (v := (1 : Int32)) hx hb dX10_many_15 (by decide) ?_
        refine lv_ishr hx hb dX10_many_16 ?_
        obtain ⟨x2_4, e5, hm⟩ := lt_ok hm
        refine ti_eq e5 ?_
        refine lv_istore_n (lv' := [(2, .int x2_4), (1, .int x1_2)]) hx hb dX10_many_17 rfl hl (by decide) rfl (fun ls hl => ?_)
        refine lv_goto (tgt := 4) hx hb dX10_many_18 (by decide) ?_
        exact ih x1_2 x2_4 H locs ls hw (lv_sub hl [1, 0] rfl) hm
  have hl : lv_has ls 3 [(0, .int x0)] := hl
  unfold M_many at hm
  have goal0 : ∀ (H : Heap) (locs : List Loc), wsM E σ0 (va_A (wldM E σ0) sz) s H locs → W p l e rmM_many s m args below meth c H locs 0 0 (MQ below (QiM E σ0 σ0 sz r) args s 0 0 (va_A (wldM E σ0) sz)) (F0 m 0 ls []) := by
    intro H locs hw
    refine lv_iconst (v := (0 : Int32)) hx hb dX10_many_0 (by decide) ?_
    refine lv_istore_n (lv' := [(1, .int (0 : Int32)), (0, .int x0)]) hx hb dX10_many_1 rfl hl (by decide) rfl (fun ls hl => ?_)
    refine lv_iload_n hx hb dX10_many_2 rfl (lv_at hl 1 rfl) ?_
    refine lv_istore_n (lv' := [(2, .int x0), (1, .int (0 : Int32)), (0, .int x0)]) hx hb dX10_many_3 rfl hl (by decide) rfl (fun ls hl => ?_)
    exact w_4 n (0 : Int32) x0 H locs ls hw (lv_sub hl [1, 0] rfl) hm
  exact goal0 _ _ hw
theorem cwM_many {R : Room} {s : State} {args : Array Value} (h : ∀ w ∈ wA, w.before args s = true) (hR : rmM_many.frames + 1 ≤ R.frames ∧ 8 + (3 + 11) + rmM_many.locals ≤ R.locals) : CallB R s args RX10 185 yX10_many cX10_many 3 (some .int) (wz yX10_many cX10_many 3 (some .int)) rmM_many 0 0 1 ∧ (Cond.static yX10_many).before args s = true := va_cwS 1 h (gdS k_1025 k_1026 k_11 k_1027) rfl rfl rfl (by decide +kernel) hR
/-! private int fits(int, int, int);: reads only -/
def M_fits_b79 (n : Nat) (σ0 : St) (x1 : Int32) (x4 : Int32) (s0 : Int32) : Option Int32 :=
  gd (0 : Int32) 4 <|
  gd x1 24 <|
  bp (M_many n ((σ0.1 7 x1.toNatClampNeg) &&& (x4 ^^^ (-1 : Int32)))) fun r4 =>
  gd (1 : Int32) 4 <|
  gd x1 24 <|
  bp (M_many n (x4 &&& ((σ0.1 7 x1.toNatClampNeg) ^^^ (-1 : Int32)))) fun r8 =>
  some ((((σ0.1 3 (0 : Int32).toNatClampNeg) * r4) + ((σ0.1 3 (1 : Int32).toNatClampNeg) * r8)) + s0)
def M_fits (n : Nat) (σ0 : St) (x1 : Int32) (x2 : Int32) (x3 : Int32) : Option Int32 :=
  bp (M_classes x2 x3) fun r2 =>
  gd x1 24 <|
  bp (M_many n (r2 &&& (σ0.1 7 x1.toNatClampNeg))) fun r5 =>
  if (2 : Int32) ≤ r5 then
    gd x1 24 <|
    lt ((σ0.1 8 x1.toNatClampNeg)) fun x6_8 =>
    if x6_8 = (-1 : Int32) then
      M_fits_b79 n σ0 x1 r2 (0 : Int32)
    else
      if x6_8 = x2 then
        M_fits_b79 n σ0 x1 r2 (0 : Int32)
      else
        if ((r2 >>> (x6_8 &&& 31)) &&& (1 : Int32)) = (1 : Int32) then
          gd (2 : Int32) 4 <|
          M_fits_b79 n σ0 x1 r2 (σ0.1 3 (2 : Int32).toNatClampNeg)
        else
          gd (3 : Int32) 4 <|
          M_fits_b79 n σ0 x1 r2 (σ0.1 3 (3 : Int32).toNatClampNeg)
  else
    some (-1 : Int32)
abbrev rmM_fits : Room := { frames := 2, cells := 0, slots := 0, locals := 42 }
set_option maxHeartbeats 4000000 in
set_option maxRecDepth 100000 in
theorem cM_fits (l : Launch) (E : Ev) (n : Nat) (sz : Nat) (σ0 : St) (x1 : Int32) (x2 : Int32) (x3 : Int32) (r : Int32) (hm : M_fits n σ0 x1 x2 x3 = some r) : Met l yX10_fits (wz yX10_fits cX10_fits 8 (some .int)) rmM_fits (PwM E [.ref (E.2.2 1000), .int x1, .int x2, .int x3] σ0 sz) (QiM E σ0 σ0 sz r) 0 0 (va_A (wldM E σ0) sz) := by
  refine enM (by decide) rfl (Nat.le_of_ble_eq_true rfl) (fun p e s m args below meth c cx hr hlk hml hsz ok hw ls hl => ?_)
  have hx := cx.1
  have hb := cx.2.1
  have hA9 := cx.2.2.2
  have hA : ∀ q, s.heap.size ≤ q → (va_A (wldM E σ0) sz) q := fun q h => Or.inr (by rw [← hsz]; exact h)
  have w_79 : ∀ (x1 : Int32) (x4 : Int32) (s0 : Int32) (H : Heap) (locs : List Loc) (ls : Array Slot), wsM E σ0 (va_A (wldM E σ0) sz) s H locs → lv_has ls 8 [(0, .ref (E.2.2 1000)), (1, .int x1), (4, .int x4)] → M_fits_b79 n σ0 x1 x4 s0 = some r → W p l e rmM_fits s m args below meth c H locs 0 0 (MQ below (QiM E σ0 σ0 sz r) args s 0 0 (va_A (wldM E σ0) sz)) (F0 m 79 ls [.int s0]) := by
    intro x1 x4 s0 H locs ls hw hl hm
    unfold M_fits_b79 at hm
    refine lv_istore (lv' := [(7, .int s0), (0, .ref (E.2.2 1000)), (1, .int x1), (4, .int x4)]) hx hb dX10_fits_79 hl (by decide) rfl (fun ls hl => ?_)
    refine lv_aload_n hx hb dX10_fits_81 rfl (lv_at hl 1 rfl) ?_
    refine gtM_3 cx ok hw dX10_fits_82 ?_
    refine lv_iconst (v := (0 : Int32)) hx hb dX10_fits_85 (by decide) ?_
    obtain ⟨g1, hm⟩ := gd_ok hm
    refine ldM_3 cx ok hw g1 dX10_fits_86 ?_
    refine lv_aload_n hx hb dX10_fits_87 rfl (lv_at hl 1 rfl) ?_
    refine gtM_7 cx ok hw dX10_fits_88 ?_
    refine lv_iload_n hx hb dX10_fits_91 rfl (lv_at hl 2 rfl) ?_
    obtain ⟨g2, hm⟩ := gd_ok hm
    refine ldM_7 cx ok hw g2 dX10_fits_92 ?_
    refine lv_iload hx hb dX10_fits_93 (lv_at hl 3 rfl) ?_
    refine lv_iconst (v := (-1 : Int32)) hx hb dX10_fits_95 (by decide) ?_
    refine lv_ixor hx hb dX10_fits_96 ?_
    refine lv_iand hx hb dX10_fits_97 ?_
    obtain ⟨r4, h3, hm⟩ := bp_ok hm
    refine clS_Mi (As := [.int ((σ0.1 7 x1.toNatClampNeg) &&& (x4 ^^^ (-1 : Int32)))]) (rest := [.int (σ0.1 3 (0 : Int32).toNatClampNeg)]) cx hml hl.1 ok hw hA (cM_many l E n _ σ0 ((σ0.1 7 x1.toNatClampNeg) &&& (x4 ^^^ (-1 : Int32))) r4 h3) (cwM_many hA9 ⟨Nat.le_of_ble_eq_true rfl, Nat.le_of_ble_eq_true rfl⟩) rfl rfl (Nat.le_of_ble_eq_true rfl) dX10_fits_98 (fun H locs hw => ?_)
    refine lv_imul hx hb dX10_fits_101 ?_
    refine lv_aload_n hx hb dX10_fits_102 rfl (lv_at hl 1 rfl) ?_
    refine gtM_3 cx ok hw dX10_fits_103 ?_
    refine lv_iconst (v := (1 : Int32)) hx hb dX10_fits_106 (by decide) ?_
    obtain ⟨g5, hm⟩ := gd_ok hm
    refine ldM_3 cx ok hw g5 dX10_fits_107 ?_
    refine lv_iload hx hb dX10_fits_108 (lv_at hl 3 rfl) ?_
    refine lv_aload_n hx hb dX10_fits_110 rfl (lv_at hl 1 rfl) ?_
    refine gtM_7 cx ok hw dX10_fits_111 ?_
    refine lv_iload_n hx hb dX10_fits_114 rfl (lv_at hl 2 rfl) ?_
    obtain ⟨g6, hm⟩ := gd_ok hm
    refine ldM_7 cx ok hw g6 dX10_fits_115 ?_
    refine lv_iconst (v := (-1 : Int32)) hx hb dX10_fits_116 (by decide) ?_
    refine lv_ixor hx hb dX10_fits_117 ?_
    refine lv_iand hx hb dX10_fits_118 ?_
    obtain ⟨r8, h7, hm⟩ := bp_ok hm
    refine clS_Mi (As := [.int (x4 &&& ((σ0.1 7 x1.toNatClampNeg) ^^^ (-1 : Int32)))]) (rest := [.int (σ0.1 3 (1 : Int32).toNatClampNeg), .int ((σ0.1 3 (0 : Int32).toNatClampNeg) * r4)]) cx hml hl.1 ok hw hA (cM_many l E n _ σ0 (x4 &&& ((σ0.1 7 x1.toNatClampNeg) ^^^ (-1 : Int32))) r8 h7) (cwM_many hA9 ⟨Nat.le_of_ble_eq_true rfl, Nat.le_of_ble_eq_true rfl⟩) rfl rfl (Nat.le_of_ble_eq_true rfl) dX10_fits_119 (fun H locs hw => ?_)
    refine lv_imul hx hb dX10_fits_122 ?_
    refine lv_iadd hx hb dX10_fits_123 ?_
    refine lv_iload hx hb dX10_fits_124 (lv_at hl 0 rfl) ?_
    refine lv_iadd hx hb dX10_fits_126 ?_
    exact rtM_i cx hr hlk hw (pr_some hm) dX10_fits_127
  have hl : lv_has ls 8 [(0, .ref (E.2.2 1000)), (1, .int x1), (2, .int x2), (3, .int x3)] := hl
  unfold M_fits at hm
  have goal0 : ∀ (H : Heap) (locs : List Loc), wsM E σ0 (va_A (wldM E σ0) sz) s H locs → W p l e rmM_fits s m args below meth c H locs 0 0 (MQ below (QiM E σ0 σ0 sz r) args s 0 0 (va_A (wldM E σ0) sz)) (F0 m 0 ls []) := by
    intro H locs hw
    refine lv_iload_n hx hb dX10_fits_0 rfl (lv_at hl 2 rfl) ?_
    refine lv_iload_n hx hb dX10_fits_1 rfl (lv_at hl 3 rfl) ?_
    obtain ⟨r2, h1, hm⟩ := bp_ok hm
    refine clS_Mi (As := [.int x2, .int x3]) (rest := []) cx hml hl.1 ok hw hA (cM_classes l E _ σ0 x2 x3 r2 h1) (cwM_classes hA9 ⟨Nat.le_of_ble_eq_true rfl, Nat.le_of_ble_eq_true rfl⟩) rfl rfl (Nat.le_of_ble_eq_true rfl) dX10_fits_2 (fun H locs hw => ?_)
    refine lv_istore (lv' := [(4, .int r2), (0, .ref (E.2.2 1000)), (1, .int x1), (2, .int x2), (3, .int x3)]) hx hb dX10_fits_5 hl (by decide) rfl (fun ls hl => ?_)
    refine lv_iload hx hb dX10_fits_7 (lv_at hl 0 rfl) ?_
    refine lv_aload_n hx hb dX10_fits_9 rfl (lv_at hl 1 rfl) ?_
    refine gtM_7 cx ok hw dX10_fits_10 ?_
    refine lv_iload_n hx hb dX10_fits_13 rfl (lv_at hl 2 rfl) ?_
    obtain ⟨g3, hm⟩ := gd_ok hm
    refine ldM_7 cx ok hw g3 dX10_fits_14 ?_
    refine lv_iand hx hb dX10_fits_15 ?_
    obtain ⟨r5, h4, hm⟩ := bp_ok hm
    refine clS_Mi (As := [.int (r2 &&& (σ0.1 7 x1.toNatClampNeg))]) (rest := []) cx hml hl.1 ok hw hA (cM_many l E n _ σ0 (r2 &&& (σ0.1 7 x1.toNatClampNeg)) r5 h4) (cwM_many hA9 ⟨Nat.le_of_ble_eq_true rfl, Nat.le_of_ble_eq_true rfl⟩) rfl rfl (Nat.le_of_ble_eq_true rfl) dX10_fits_16 (fun H locs hw => ?_)
    refine lv_istore (lv' := [(5, .int r5), (4, .int r2), (0, .ref (E.2.2 1000)), (1, .int x1), (2, .int x2), (3, .int x3)]) hx hb dX10_fits_19 hl (by decide) rfl (fun ls hl => ?_)
    refine lv_iload hx hb dX10_fits_21 (lv_at hl 0 rfl) ?_
    refine lv_iconst (v := (2 : Int32)) hx hb dX10_fits_23 (by decide) ?_
    refine lv_icmp_ge (tgt := 29) hx hb dX10_fits_24 (by decide) (fun c6 => ?_) (fun c6 => ?_)
    · have hm := if_t c6 hm
      refine lv_aload_n hx hb dX10_fits_29 rfl (lv_at hl 2 rfl) ?_
      refine gtM_8 cx ok hw dX10_fits_30 ?_
      refine lv_iload_n hx hb dX10_fits_33 rfl (lv_at hl 3 rfl) ?_
      obtain ⟨g7, hm⟩ := gd_ok hm
      refine ldM_8 cx ok hw g7 dX10_fits_34 ?_
      obtain ⟨x6_8, e9, hm⟩ := lt_ok hm
      refine ti_eq e9 ?_
      refine lv_istore (lv' := [(6, .int x6_8), (5, .int r5), (4, .int r2), (0, .ref (E.2.2 1000)), (1, .int x1), (2, .int x2), (3, .int x3)]) hx hb dX10_fits_35 hl (by decide) rfl (fun ls hl => ?_)
      refine lv_iload hx hb dX10_fits_37 (lv_at hl 0 rfl) ?_
      refine lv_iconst (v := (-1 : Int32)) hx hb dX10_fits_39 (by decide) ?_
      refine lv_icmp_eq (tgt := 49) hx hb dX10_fits_40 (by decide) (fun c10 => ?_) (fun c10 => ?_)
      · have hm := if_t c10 hm
        refine lv_iconst (v := (0 : Int32)) hx hb dX10_fits_49 (by decide) ?_
        refine lv_goto (tgt := 79) hx hb dX10_fits_50 (by decide) ?_
        exact w_79 x1 r2 (0 : Int32) H locs ls hw (lv_sub hl [3, 4, 2] rfl) hm
      · have hm := if_f c10 hm
        refine lv_iload hx hb dX10_fits_43 (lv_at hl 0 rfl) ?_
        refine lv_iload_n hx hb dX10_fits_45 rfl (lv_at hl 5 rfl) ?_
        refine lv_icmp_ne (tgt := 53) hx hb dX10_fits_46 (by decide) (fun c11 => ?_) (fun c11 => ?_)
        · have hm := if_f c11 hm
          refine lv_iload hx hb dX10_fits_53 (lv_at hl 2 rfl) ?_
          refine lv_iload hx hb dX10_fits_55 (lv_at hl 0 rfl) ?_
          refine lv_ishr hx hb dX10_fits_57 ?_
          refine lv_iconst (v := (1 : Int32)) hx hb dX10_fits_58 (by decide) ?_
          refine lv_iand hx hb dX10_fits_59 ?_
          refine lv_iconst (v := (1 : Int32)) hx hb dX10_fits_60 (by decide) ?_
          refine lv_icmp_ne (tgt := 73) hx hb dX10_fits_61 (by decide) (fun c12 => ?_) (fun c12 => ?_)
          · have hm := if_f c12 hm
            refine lv_aload_n hx hb dX10_fits_73 rfl (lv_at hl 3 rfl) ?_
            refine gtM_3 cx ok hw dX10_fits_74 ?_
            refine lv_iconst (v := (3 : Int32)) hx hb dX10_fits_77 (by decide) ?_
            obtain ⟨g13, hm⟩ := gd_ok hm
            refine ldM_3 cx ok hw g13 dX10_fits_78 ?_
            exact w_79 x1 r2 (σ0.1 3 (3 : Int32).toNatClampNeg) H locs ls hw (lv_sub hl [3, 4, 2] rfl) hm
          · have hm := if_t c12 hm
            refine lv_aload_n hx hb dX10_fits_64 rfl (lv_at hl 3 rfl) ?_
            refine gtM_3 cx ok hw dX10_fits_65 ?_
            refine lv_iconst (v := (2 : Int32)) hx hb dX10_fits_68 (by decide) ?_
            obtain ⟨g14, hm⟩ := gd_ok hm
            refine ldM_3 cx ok hw g14 dX10_fits_69 ?_
            refine lv_goto (tgt := 79) hx hb dX10_fits_70 (by decide) ?_
            exact w_79 x1 r2 (σ0.1 3 (2 : Int32).toNatClampNeg) H locs ls hw (lv_sub hl [3, 4, 2] rfl) hm
        · have hm := if_t c11 hm
          refine lv_iconst (v := (0 : Int32)) hx hb dX10_fits_49 (by decide) ?_
          refine lv_goto (tgt := 79) hx hb dX10_fits_50 (by decide) ?_
          exact w_79 x1 r2 (0 : Int32) H locs ls hw (lv_sub hl [3, 4, 2] rfl) hm
    · have hm := if_f c6 hm
      refine lv_iconst (v := (-1 : Int32)) hx hb dX10_fits_27 (by decide) ?_
      exact rtM_i cx hr hlk hw (pr_some hm) dX10_fits_28
  exact goal0 _ _ hw
theorem cwM_fits {R : Room} {s : State} {args : Array Value} (h : ∀ w ∈ wA, w.before args s = true) (hR : rmM_fits.frames + 1 ≤ R.frames ∧ 8 + (8 + 11) + rmM_fits.locals ≤ R.locals) : CallW R s args RX10 RX10 188 yX10_fits cX10_fits 8 (some .int) (wz yX10_fits cX10_fits 8 (some .int)) rmM_fits 0 0 3 := cwV 3 h (gdV k_1015 k_1017 ks_57 k_11 k_1018) rfl rfl rfl (by decide +kernel) hR
/-! public int fit(int, int, int);: writes -/
def M_fit (n : Nat) (σ0 : St) (x1 : Int32) (x2 : Int32) (x3 : Int32) : Option (Int32 × St) :=
  lt (sI σ0 0 0 (0 : Int32)) fun σ1 =>
  if x1 < 0 then
    some ((-1 : Int32), σ1)
  else
    if (σ1.1 6 0) ≤ x1 then
      some ((-1 : Int32), σ1)
    else
      if x2 < 0 then
        some ((-1 : Int32), σ1)
      else
        if (11 : Int32) < x2 then
          some ((-1 : Int32), σ1)
        else
          if x3 < 0 then
            some ((-1 : Int32), σ1)
          else
            if x3 ≤ (8 : Int32) then
              bp (M_fits n σ1 x1 x2 x3) fun r10 =>
              some (r10, σ1)
            else
              some ((-1 : Int32), σ1)
abbrev rmM_fit : Room := { frames := 3, cells := 0, slots := 0, locals := 69 }
set_option maxHeartbeats 4000000 in
set_option maxRecDepth 100000 in
theorem cM_fit (l : Launch) (E : Ev) (n : Nat) (sz : Nat) (σ0 σ' : St) (x1 : Int32) (x2 : Int32) (x3 : Int32) (r : Int32) (hm : M_fit n σ0 x1 x2 x3 = some (r, σ')) : Met l yX10_fit (wz yX10_fit cX10_fit 4 (some .int)) rmM_fit (PwM E [.ref (E.2.2 1000), .int x1, .int x2, .int x3] σ0 sz) (QiM E σ0 σ' sz r) 0 0 (va_A (wldM E σ0) sz) := by
  refine enM (by decide) rfl (Nat.le_of_ble_eq_true rfl) (fun p e s m args below meth c cx hr hlk hml hsz ok hw ls hl => ?_)
  have hx := cx.1
  have hb := cx.2.1
  have hA9 := cx.2.2.2
  have hA : ∀ q, s.heap.size ≤ q → (va_A (wldM E σ0) sz) q := fun q h => Or.inr (by rw [← hsz]; exact h)
  have hl : lv_has ls 4 [(0, .ref (E.2.2 1000)), (1, .int x1), (2, .int x2), (3, .int x3)] := hl
  unfold M_fit at hm
  have goal0 : ∀ (H : Heap) (locs : List Loc), wsM E σ0 (va_A (wldM E σ0) sz) s H locs → W p l e rmM_fit s m args below meth c H locs 0 0 (MQ below (QiM E σ0 σ' sz r) args s 0 0 (va_A (wldM E σ0) sz)) (F0 m 0 ls []) := by
    intro H locs hw
    refine lv_aload_n hx hb dX10_fit_0 rfl (lv_at hl 0 rfl) ?_
    refine lv_iconst (v := (0 : Int32)) hx hb dX10_fit_1 (by decide) ?_
    refine ptM_0 cx ok hw dX10_fit_2 (fun H locs hw => ?_)
    obtain ⟨σ1, e2, hm⟩ := lt_ok hm
    have hw := wsM_eq e2 hw
    refine lv_iload_n hx hb dX10_fit_5 rfl (lv_at hl 1 rfl) ?_
    refine lv_if_lt (tgt := 37) hx hb dX10_fit_6 (by decide) (fun c3 => ?_) (fun c3 => ?_)
    · have hm := if_t c3 hm
      refine lv_iconst (v := (-1 : Int32)) hx hb dX10_fit_37 (by decide) ?_
      refine lv_goto (tgt := 48) hx hb dX10_fit_38 (by decide) ?_
      exact rtM_i cx hr hlk hw hm dX10_fit_48
    · have hm := if_f c3 hm
      refine lv_iload_n hx hb dX10_fit_9 rfl (lv_at hl 1 rfl) ?_
      refine lv_aload_n hx hb dX10_fit_10 rfl (lv_at hl 0 rfl) ?_
      refine gtM_6 cx ok hw dX10_fit_11 ?_
      refine lv_icmp_ge (tgt := 37) hx hb dX10_fit_14 (by decide) (fun c4 => ?_) (fun c4 => ?_)
      · have hm := if_t c4 hm
        refine lv_iconst (v := (-1 : Int32)) hx hb dX10_fit_37 (by decide) ?_
        refine lv_goto (tgt := 48) hx hb dX10_fit_38 (by decide) ?_
        exact rtM_i cx hr hlk hw hm dX10_fit_48
      · have hm := if_f c4 hm
        refine lv_iload_n hx hb dX10_fit_17 rfl (lv_at hl 2 rfl) ?_
        refine lv_if_lt (tgt := 37) hx hb dX10_fit_18 (by decide) (fun c5 => ?_) (fun c5 => ?_)
        · have hm := if_t c5 hm
          refine lv_iconst (v := (-1 : Int32)) hx hb dX10_fit_37 (by decide) ?_
          refine lv_goto (tgt := 48) hx hb dX10_fit_38 (by decide) ?_
          exact rtM_i cx hr hlk hw hm dX10_fit_48
        · have hm := if_f c5 hm
          refine lv_iload_n hx hb dX10_fit_21 rfl (lv_at hl 2 rfl) ?_
          refine lv_bipush (v := (11 : Int32)) hx hb dX10_fit_22 (by decide) ?_
          refine lv_icmp_gt (tgt := 37) hx hb dX10_fit_24 (by decide) (fun c6 => ?_) (fun c6 => ?_)
          · have hm := if_t c6 hm
            refine lv_iconst (v := (-1 : Int32)) hx hb dX10_fit_37 (by decide) ?_
            refine lv_goto (tgt := 48) hx hb dX10_fit_38 (by decide) ?_
            exact rtM_i cx hr hlk hw hm dX10_fit_48
          · have hm := if_f c6 hm
            refine lv_iload_n hx hb dX10_fit_27 rfl (lv_at hl 3 rfl) ?_
            refine lv_if_lt (tgt := 37) hx hb dX10_fit_28 (by decide) (fun c7 => ?_) (fun c7 => ?_)
            · have hm := if_t c7 hm
              refine lv_iconst (v := (-1 : Int32)) hx hb dX10_fit_37 (by decide) ?_
              refine lv_goto (tgt := 48) hx hb dX10_fit_38 (by decide) ?_
              exact rtM_i cx hr hlk hw hm dX10_fit_48
            · have hm := if_f c7 hm
              refine lv_iload_n hx hb dX10_fit_31 rfl (lv_at hl 3 rfl) ?_
              refine lv_bipush (v := (8 : Int32)) hx hb dX10_fit_32 (by decide) ?_
              refine lv_icmp_le (tgt := 41) hx hb dX10_fit_34 (by decide) (fun c8 => ?_) (fun c8 => ?_)
              · have hm := if_t c8 hm
                refine lv_aload_n hx hb dX10_fit_41 rfl (lv_at hl 0 rfl) ?_
                refine lv_iload_n hx hb dX10_fit_42 rfl (lv_at hl 1 rfl) ?_
                refine lv_iload_n hx hb dX10_fit_43 rfl (lv_at hl 2 rfl) ?_
                refine lv_iload_n hx hb dX10_fit_44 rfl (lv_at hl 3 rfl) ?_
                obtain ⟨r10, h9, hm⟩ := bp_ok hm
                refine clV_Mi (As := [.int x1, .int x2, .int x3]) (rest := []) cx hml hl.1 ok hw hA (cM_fits l E n _ σ1 x1 x2 x3 r10 h9) (cwM_fits hA9 ⟨Nat.le_of_ble_eq_true rfl, Nat.le_of_ble_eq_true rfl⟩) rfl rfl (Nat.le_of_ble_eq_true rfl) dX10_fit_45 (fun H locs hw => ?_)
                exact rtM_i cx hr hlk hw hm dX10_fit_48
              · have hm := if_f c8 hm
                refine lv_iconst (v := (-1 : Int32)) hx hb dX10_fit_37 (by decide) ?_
                refine lv_goto (tgt := 48) hx hb dX10_fit_38 (by decide) ?_
                exact rtM_i cx hr hlk hw hm dX10_fit_48
  exact goal0 _ _ hw
/-! public int best(int);: writes, loops -/
def M_best_l12 (n : Nat) : Nat → St → Int32 → Int32 → Int32 → Int32 → Option (Int32 × St)
  | 0, _, _, _, _, _ => none
  | f + 1, σ, x1, x2, x3, x4 =>
    if (108 : Int32) ≤ x4 then
      some (x3, σ)
    else
      if x1 < 0 then
        some (x3, σ)
      else
        if (σ.1 6 0) ≤ x1 then
          some (x3, σ)
        else
          bp (M_fits n σ x1 (x4 - x4 / (12 : Int32) * (12 : Int32)) (x4 / (12 : Int32))) fun r5 =>
          if r5 < 0 then
            lt (x4 + (1 : Int32)) fun x4_7 =>
            (M_best_l12 n f) σ x1 x2 x3 x4_7
          else
            if x3 < 0 then
              lt (x4 + (1 : Int32)) fun x4_10 =>
              (M_best_l12 n f) σ x1 r5 x4 x4_10
            else
              if x2 ≤ r5 then
                lt (x4 + (1 : Int32)) fun x4_13 =>
                (M_best_l12 n f) σ x1 x2 x3 x4_13
              else
                lt (x4 + (1 : Int32)) fun x4_15 =>
                (M_best_l12 n f) σ x1 r5 x4 x4_15
def M_best (n : Nat) (σ0 : St) (x1 : Int32) : Option (Int32 × St) :=
  lt (sI σ0 0 0 (0 : Int32)) fun σ1 =>
  M_best_l12 n n σ1 x1 (-1 : Int32) (-1 : Int32) (0 : Int32)
abbrev rmM_best : Room := { frames := 3, cells := 0, slots := 0, locals := 69 }
set_option maxHeartbeats 4000000 in
set_option maxRecDepth 100000 in
theorem cM_best (l : Launch) (E : Ev) (n : Nat) (sz : Nat) (σ0 σ' : St) (x1 : Int32) (r : Int32) (hm : M_best n σ0 x1 = some (r, σ')) : Met l yX10_best (wz yX10_best cX10_best 6 (some .int)) rmM_best (PwM E [.ref (E.2.2 1000), .int x1] σ0 sz) (QiM E σ0 σ' sz r) 0 0 (va_A (wldM E σ0) sz) := by
  refine enM (by decide) rfl (Nat.le_of_ble_eq_true rfl) (fun p e s m args below meth c cx hr hlk hml hsz ok hw ls hl => ?_)
  have hx := cx.1
  have hb := cx.2.1
  have hA9 := cx.2.2.2
  have hA : ∀ q, s.heap.size ≤ q → (va_A (wldM E σ0) sz) q := fun q h => Or.inr (by rw [← hsz]; exact h)
  have w_12 : ∀ (f : Nat), ∀ (σ : St) (x1 : Int32) (x2 : Int32) (x3 : Int32) (x4 : Int32) (H : Heap) (locs : List Loc) (ls : Array Slot), wsM E σ (va_A (wldM E σ0) sz) s H locs → lv_has ls 6 [(0, .ref (E.2.2 1000)), (1, .int x1), (2, .int x2), (3, .int x3), (4, .int x4)] → M_best_l12 n f σ x1 x2 x3 x4 = some (r, σ') → W p l e rmM_best s m args below meth c H locs 0 0 (MQ below (QiM E σ0 σ' sz r) args s 0 0 (va_A (wldM E σ0) sz)) (F0 m 12 ls []) := by
    intro f
    induction f with
    | zero =>
      intro σ x1 x2 x3 x4 H locs ls hw hl hm
      rw [M_best_l12] at hm
      cases hm
    | succ f ih =>
      intro σ x1 x2 x3 x4 H locs ls hw hl hm
      rw [M_best_l12] at hm
      refine lv_iload hx hb dX10_best_12 (lv_at hl 4 rfl) ?_
      refine lv_bipush (v := (108 : Int32)) hx hb dX10_best_14 (by decide) ?_
      refine lv_icmp_ge (tgt := 75) hx hb dX10_best_16 (by decide) (fun c1 => ?_) (fun c1 => ?_)
      · have hm := if_t c1 hm
        refine lv_iload_n hx hb dX10_best_75 rfl (lv_at hl 3 rfl) ?_
        exact rtM_i cx hr hlk hw hm dX10_best_76
      · have hm := if_f c1 hm
        refine lv_iload_n hx hb dX10_best_19 rfl (lv_at hl 1 rfl) ?_
        refine lv_if_lt (tgt := 75) hx hb dX10_best_20 (by decide) (fun c2 => ?_) (fun c2 => ?_)
        · have hm := if_t c2 hm
          refine lv_iload_n hx hb dX10_best_75 rfl (lv_at hl 3 rfl) ?_
          exact rtM_i cx hr hlk hw hm dX10_best_76
        · have hm := if_f c2 hm
          refine lv_iload_n hx hb dX10_best_23 rfl (lv_at hl 1 rfl) ?_
          refine lv_aload_n hx hb dX10_best_24 rfl (lv_at hl 0 rfl) ?_
          refine gtM_6 cx ok hw dX10_best_25 ?_
          refine lv_icmp_ge (tgt := 75) hx hb dX10_best_28 (by decide) (fun c3 => ?_) (fun c3 => ?_)
          · have hm := if_t c3 hm
            refine lv_iload_n hx hb dX10_best_75 rfl (lv_at hl 3 rfl) ?_
            exact rtM_i cx hr hlk hw hm dX10_best_76
          · have hm := if_f c3 hm
            refine lv_aload_n hx hb dX10_best_31 rfl (lv_at hl 0 rfl) ?_
            refine lv_iload_n hx hb dX10_best_32 rfl (lv_at hl 1 rfl) ?_
            refine lv_iload hx hb dX10_best_33 (lv_at hl 4 rfl) ?_
            refine lv_bipush (v := (12 : Int32)) hx hb dX10_best_35 (by decide) ?_
            refine lv_irem hx hb dX10_best_37 (by decide) ?_
            refine lv_iload hx hb dX10_best_38 (lv_at hl 4 rfl) ?_
            refine lv_bipush (v := (12 : Int32)) hx hb dX10_best_40 (by decide) ?_
            refine lv_idiv hx hb dX10_best_42 (by decide) ?_
            obtain ⟨r5, h4, hm⟩ := bp_ok hm
            refine clV_Mi (As := [.int x1, .int (x4 - x4 / (12 : Int32) * (12 : Int32)), .int (x4 / (12 : Int32))]) (rest := []) cx hml hl.1 ok hw hA (cM_fits l E n _ σ x1 (x4 - x4 / (12 : Int32) * (12 : Int32)) (x4 / (12 : Int32)) r5 h4) (cwM_fits hA9 ⟨Nat.le_of_ble_eq_true rfl, Nat.le_of_ble_eq_true rfl⟩) rfl rfl (Nat.le_of_ble_eq_true rfl) dX10_best_43 (fun H locs hw => ?_)
            refine lv_istore (lv' := [(5, .int r5), (0, .ref (E.2.2 1000)), (1, .int x1), (2, .int x2), (3, .int x3), (4, .int x4)]) hx hb dX10_best_46 hl (by decide) rfl (fun ls hl => ?_)
            refine lv_iload hx hb dX10_best_48 (lv_at hl 0 rfl) ?_
            refine lv_if_lt (tgt := 69) hx hb dX10_best_50 (by decide) (fun c6 => ?_) (fun c6 => ?_)
            · have hm := if_t c6 hm
              obtain ⟨x4_7, e8, hm⟩ := lt_ok hm
              refine lv_iinc (v := x4_7) (lv' := [(4, .int x4_7), (5, .int r5), (0, .ref (E.2.2 1000)), (1, .int x1), (2, .int x2), (3, .int x3)]) hx hb dX10_best_69 hl (k := 5) rfl (by rw [e8]; rfl) (by decide) rfl (fun ls hl => ?_)
              refine lv_goto (tgt := 12) hx hb dX10_best_72 (by decide) ?_
              exact ih σ x1 x2 x3 x4_7 H locs ls hw (lv_sub hl [2, 3, 4, 5, 0] rfl) hm
            · have hm := if_f c6 hm
              refine lv_iload_n hx hb dX10_best_53 rfl (lv_at hl 4 rfl) ?_
              refine lv_if_lt (tgt := 63) hx hb dX10_best_54 (by decide) (fun c9 => ?_) (fun c9 => ?_)
              · have hm := if_t c9 hm
                refine lv_iload hx hb dX10_best_63 (lv_at hl 0 rfl) ?_
                refine lv_istore_n (lv' := [(2, .int r5), (5, .int r5), (0, .ref (E.2.2 1000)), (1, .int x1), (3, .int x3), (4, .int x4)]) hx hb dX10_best_65 rfl hl (by decide) rfl (fun ls hl => ?_)
                refine lv_iload hx hb dX10_best_66 (lv_at hl 5 rfl) ?_
                refine lv_istore_n (lv' := [(3, .int x4), (2, .int r5), (5, .int r5), (0, .ref (E.2.2 1000)), (1, .int x1), (4, .int x4)]) hx hb dX10_best_68 rfl hl (by decide) rfl (fun ls hl => ?_)
                obtain ⟨x4_10, e11, hm⟩ := lt_ok hm
                refine lv_iinc (v := x4_10) (lv' := [(4, .int x4_10), (3, .int x4), (2, .int r5), (5, .int r5), (0, .ref (E.2.2 1000)), (1, .int x1)]) hx hb dX10_best_69 hl (k := 5) rfl (by rw [e11]; rfl) (by decide) rfl (fun ls hl => ?_)
                refine lv_goto (tgt := 12) hx hb dX10_best_72 (by decide) ?_
                exact ih σ x1 r5 x4 x4_10 H locs ls hw (lv_sub hl [4, 5, 2, 1, 0] rfl) hm
              · have hm := if_f c9 hm
                refine lv_iload hx hb dX10_best_57 (lv_at hl 0 rfl) ?_
                refine lv_iload_n hx hb dX10_best_59 rfl (lv_at hl 3 rfl) ?_
                refine lv_icmp_ge (tgt := 69) hx hb dX10_best_60 (by decide) (fun c12 => ?_) (fun c12 => ?_)
                · have hm := if_t c12 hm
                  obtain ⟨x4_13, e14, hm⟩ := lt_ok hm
                  refine lv_iinc (v := x4_13) (lv' := [(4, .int x4_13), (5, .int r5), (0, .ref (E.2.2 1000)), (1, .int x1), (2, .int x2), (3, .int x3)]) hx hb dX10_best_69 hl (k := 5) rfl (by rw [e14]; rfl) (by decide) rfl (fun ls hl => ?_)
                  refine lv_goto (tgt := 12) hx hb dX10_best_72 (by decide) ?_
                  exact ih σ x1 x2 x3 x4_13 H locs ls hw (lv_sub hl [2, 3, 4, 5, 0] rfl) hm
                · have hm := if_f c12 hm
                  refine lv_iload hx hb dX10_best_63 (lv_at hl 0 rfl) ?_
                  refine lv_istore_n (lv' := [(2, .int r5), (5, .int r5), (0, .ref (E.2.2 1000)), (1, .int x1), (3, .int x3), (4, .int x4)]) hx hb dX10_best_65 rfl hl (by decide) rfl (fun ls hl => ?_)
                  refine lv_iload hx hb dX10_best_66 (lv_at hl 5 rfl) ?_
                  refine lv_istore_n (lv' := [(3, .int x4), (2, .int r5), (5, .int r5), (0, .ref (E.2.2 1000)), (1, .int x1), (4, .int x4)]) hx hb dX10_best_68 rfl hl (by decide) rfl (fun ls hl => ?_)
                  obtain ⟨x4_15, e16, hm⟩ := lt_ok hm
                  refine lv_iinc (v := x4_15) (lv' := [(4, .int x4_15), (3, .int x4), (2, .int r5), (5, .int r5), (0, .ref (E.2.2 1000)), (1, .int x1)]) hx hb dX10_best_69 hl (k := 5) rfl (by rw [e16]; rfl) (by decide) rfl (fun ls hl => ?_)
                  refine lv_goto (tgt := 12) hx hb dX10_best_72 (by decide) ?_
                  exact ih σ x1 r5 x4 x4_15 H locs ls hw (lv_sub hl [4, 5, 2, 1, 0] rfl) hm
  have hl : lv_has ls 6 [(0, .ref (E.2.2 1000)), (1, .int x1)] := hl
  unfold M_best at hm
  have goal0 : ∀ (H : Heap) (locs : List Loc), wsM E σ0 (va_A (wldM E σ0) sz) s H locs → W p l e rmM_best s m args below meth c H locs 0 0 (MQ below (QiM E σ0 σ' sz r) args s 0 0 (va_A (wldM E σ0) sz)) (F0 m 0 ls []) := by
    intro H locs hw
    refine lv_aload_n hx hb dX10_best_0 rfl (lv_at hl 0 rfl) ?_
    refine lv_iconst (v := (0 : Int32)) hx hb dX10_best_1 (by decide) ?_
    refine ptM_0 cx ok hw dX10_best_2 (fun H locs hw => ?_)
    obtain ⟨σ1, e2, hm⟩ := lt_ok hm
    have hw := wsM_eq e2 hw
    refine lv_iconst (v := (-1 : Int32)) hx hb dX10_best_5 (by decide) ?_
    refine lv_istore_n (lv' := [(2, .int (-1 : Int32)), (0, .ref (E.2.2 1000)), (1, .int x1)]) hx hb dX10_best_6 rfl hl (by decide) rfl (fun ls hl => ?_)
    refine lv_iconst (v := (-1 : Int32)) hx hb dX10_best_7 (by decide) ?_
    refine lv_istore_n (lv' := [(3, .int (-1 : Int32)), (2, .int (-1 : Int32)), (0, .ref (E.2.2 1000)), (1, .int x1)]) hx hb dX10_best_8 rfl hl (by decide) rfl (fun ls hl => ?_)
    refine lv_iconst (v := (0 : Int32)) hx hb dX10_best_9 (by decide) ?_
    refine lv_istore (lv' := [(4, .int (0 : Int32)), (3, .int (-1 : Int32)), (2, .int (-1 : Int32)), (0, .ref (E.2.2 1000)), (1, .int x1)]) hx hb dX10_best_10 hl (by decide) rfl (fun ls hl => ?_)
    exact w_12 n σ1 x1 (-1 : Int32) (-1 : Int32) (0 : Int32) H locs ls hw (lv_sub hl [3, 4, 2, 1, 0] rfl) hm
  exact goal0 _ _ hw
/-! private int degree(int);: reads only -/
def M_degree (σ0 : St) (x1 : Int32) : Option Int32 :=
  if x1 = (1 : Int32) then
    some (0 : Int32)
  else
  if x1 = (2 : Int32) then
    some (2 : Int32)
  else
  if x1 = (3 : Int32) then
    if (σ0.1 2 0) = 0 then
      some (4 : Int32)
    else
      some (3 : Int32)
  else
  if x1 = (4 : Int32) then
    some (5 : Int32)
  else
  if x1 = (5 : Int32) then
    some (7 : Int32)
  else
  if x1 = (6 : Int32) then
    if (σ0.1 2 0) = 0 then
      some (9 : Int32)
    else
      some (8 : Int32)
  else
    if (σ0.1 2 0) = 0 then
      some (11 : Int32)
    else
      some (10 : Int32)
abbrev rmM_degree : Room := { frames := 0, cells := 0, slots := 0, locals := 0 }
set_option maxHeartbeats 4000000 in
set_option maxRecDepth 100000 in
theorem cM_degree (l : Launch) (E : Ev) (sz : Nat) (σ0 : St) (x1 : Int32) (r : Int32) (hm : M_degree σ0 x1 = some r) : Met l yX10_degree (wz yX10_degree cX10_degree 2 (some .int)) rmM_degree (PwM E [.ref (E.2.2 1000), .int x1] σ0 sz) (QiM E σ0 σ0 sz r) 0 0 (va_A (wldM E σ0) sz) := by
  refine enM (by decide) rfl (Nat.le_of_ble_eq_true rfl) (fun p e s m args below meth c cx hr hlk hml hsz ok hw ls hl => ?_)
  have hx := cx.1
  have hb := cx.2.1
  have hA9 := cx.2.2.2
  have hA : ∀ q, s.heap.size ≤ q → (va_A (wldM E σ0) sz) q := fun q h => Or.inr (by rw [← hsz]; exact h)
  have hl : lv_has ls 2 [(0, .ref (E.2.2 1000)), (1, .int x1)] := hl
  unfold M_degree at hm
  have goal0 : ∀ (H : Heap) (locs : List Loc), wsM E σ0 (va_A (wldM E σ0) sz) s H locs → W p l e rmM_degree s m args below meth c H locs 0 0 (MQ below (QiM E σ0 σ0 sz r) args s 0 0 (va_A (wldM E σ0) sz)) (F0 m 0 ls []) := by
    intro H locs hw
    refine lv_iload_n hx hb dX10_degree_0 rfl (lv_at hl 1 rfl) ?_
    by_cases c1 : x1 = (1 : Int32)
    · refine lv_tableIn (tgt := 40) hx hb dX10_degree_1 (by rw [c1]; decide) (by rw [c1]; decide) (by rw [c1]; rfl) (by decide) ?_
      have hm := if_t c1 hm
      refine lv_iconst (v := (0 : Int32)) hx hb dX10_degree_40 (by decide) ?_
      exact rtM_i cx hr hlk hw (pr_some hm) dX10_degree_41
    have hm := if_f c1 hm
    by_cases c2 : x1 = (2 : Int32)
    · refine lv_tableIn (tgt := 42) hx hb dX10_degree_1 (by rw [c2]; decide) (by rw [c2]; decide) (by rw [c2]; rfl) (by decide) ?_
      have hm := if_t c2 hm
      refine lv_iconst (v := (2 : Int32)) hx hb dX10_degree_42 (by decide) ?_
      exact rtM_i cx hr hlk hw (pr_some hm) dX10_degree_43
    have hm := if_f c2 hm
    by_cases c3 : x1 = (3 : Int32)
    · refine lv_tableIn (tgt := 44) hx hb dX10_degree_1 (by rw [c3]; decide) (by rw [c3]; decide) (by rw [c3]; rfl) (by decide) ?_
      have hm := if_t c3 hm
      refine lv_aload_n hx hb dX10_degree_44 rfl (lv_at hl 0 rfl) ?_
      refine gtM_2 cx ok hw dX10_degree_45 ?_
      refine lv_if_eq (tgt := 55) hx hb dX10_degree_48 (by decide) (fun c4 => ?_) (fun c4 => ?_)
      · have hm := if_t c4 hm
        refine lv_iconst (v := (4 : Int32)) hx hb dX10_degree_55 (by decide) ?_
        exact rtM_i cx hr hlk hw (pr_some hm) dX10_degree_56
      · have hm := if_f c4 hm
        refine lv_iconst (v := (3 : Int32)) hx hb dX10_degree_51 (by decide) ?_
        refine lv_goto (tgt := 56) hx hb dX10_degree_52 (by decide) ?_
        exact rtM_i cx hr hlk hw (pr_some hm) dX10_degree_56
    have hm := if_f c3 hm
    by_cases c5 : x1 = (4 : Int32)
    · refine lv_tableIn (tgt := 57) hx hb dX10_degree_1 (by rw [c5]; decide) (by rw [c5]; decide) (by rw [c5]; rfl) (by decide) ?_
      have hm := if_t c5 hm
      refine lv_iconst (v := (5 : Int32)) hx hb dX10_degree_57 (by decide) ?_
      exact rtM_i cx hr hlk hw (pr_some hm) dX10_degree_58
    have hm := if_f c5 hm
    by_cases c6 : x1 = (5 : Int32)
    · refine lv_tableIn (tgt := 59) hx hb dX10_degree_1 (by rw [c6]; decide) (by rw [c6]; decide) (by rw [c6]; rfl) (by decide) ?_
      have hm := if_t c6 hm
      refine lv_bipush (v := (7 : Int32)) hx hb dX10_degree_59 (by decide) ?_
      exact rtM_i cx hr hlk hw (pr_some hm) dX10_degree_61
    have hm := if_f c6 hm
    by_cases c7 : x1 = (6 : Int32)
    · refine lv_tableIn (tgt := 62) hx hb dX10_degree_1 (by rw [c7]; decide) (by rw [c7]; decide) (by rw [c7]; rfl) (by decide) ?_
      have hm := if_t c7 hm
      refine lv_aload_n hx hb dX10_degree_62 rfl (lv_at hl 0 rfl) ?_
      refine gtM_2 cx ok hw dX10_degree_63 ?_
      refine lv_if_eq (tgt := 74) hx hb dX10_degree_66 (by decide) (fun c8 => ?_) (fun c8 => ?_)
      · have hm := if_t c8 hm
        refine lv_bipush (v := (9 : Int32)) hx hb dX10_degree_74 (by decide) ?_
        exact rtM_i cx hr hlk hw (pr_some hm) dX10_degree_76
      · have hm := if_f c8 hm
        refine lv_bipush (v := (8 : Int32)) hx hb dX10_degree_69 (by decide) ?_
        refine lv_goto (tgt := 76) hx hb dX10_degree_71 (by decide) ?_
        exact rtM_i cx hr hlk hw (pr_some hm) dX10_degree_76
    have hm := if_f c7 hm
    have c1 := ne_ti c1
    rw [show ((1 : Int32)).toInt = 1 from by decide] at c1
    have c2 := ne_ti c2
    rw [show ((2 : Int32)).toInt = 2 from by decide] at c2
    have c3 := ne_ti c3
    rw [show ((3 : Int32)).toInt = 3 from by decide] at c3
    have c5 := ne_ti c5
    rw [show ((4 : Int32)).toInt = 4 from by decide] at c5
    have c6 := ne_ti c6
    rw [show ((5 : Int32)).toInt = 5 from by decide] at c6
    have c7 := ne_ti c7
    rw [show ((6 : Int32)).toInt = 6 from by decide] at c7
    refine lv_tableOut (tgt := 77) hx hb dX10_degree_1 (by omega) (by decide) ?_
    refine lv_aload_n hx hb dX10_degree_77 rfl (lv_at hl 0 rfl) ?_
    refine gtM_2 cx ok hw dX10_degree_78 ?_
    refine lv_if_eq (tgt := 89) hx hb dX10_degree_81 (by decide) (fun c9 => ?_) (fun c9 => ?_)
    · have hm := if_t c9 hm
      refine lv_bipush (v := (11 : Int32)) hx hb dX10_degree_89 (by decide) ?_
      exact rtM_i cx hr hlk hw (pr_some hm) dX10_degree_91
    · have hm := if_f c9 hm
      refine lv_bipush (v := (10 : Int32)) hx hb dX10_degree_84 (by decide) ?_
      refine lv_goto (tgt := 91) hx hb dX10_degree_86 (by decide) ?_
      exact rtM_i cx hr hlk hw (pr_some hm) dX10_degree_91
  exact goal0 _ _ hw
theorem cwM_degree {R : Room} {s : State} {args : Array Value} (h : ∀ w ∈ wA, w.before args s = true) (hR : rmM_degree.frames + 1 ≤ R.frames ∧ 8 + (2 + 11) + rmM_degree.locals ≤ R.locals) : CallW R s args RX10 RX10 195 yX10_degree cX10_degree 2 (some .int) (wz yX10_degree cX10_degree 2 (some .int)) rmM_degree 0 0 1 := cwV 1 h (gdV k_1040 k_1042 ks_59 k_11 k_1043) rfl rfl rfl (by decide +kernel) hR
/-! private void readSymbols();: writes, loops -/
def M_readSymbols_b129 (n : Nat) (k3 : St → Int32 → Option St) (k11 : St → Int32 → Int32 → Option St) (k63 : St → Int32 → Int32 → Int32 → Int32 → Int32 → Option St) (σ : St) (x1 : Int32) (x2 : Int32) (x3 : Int32) (x4 : Int32) (x5 : Int32) (x6 : Int32) : Option St :=
  gd x4 1920 <|
  lt (sI σ 31 x4.toNatClampNeg (((12 : Int32) * x5) + x3)) fun σ2 =>
  gd x4 1920 <|
  lt (sI σ2 32 x4.toNatClampNeg x6) fun σ5 =>
  lt (x5 + (1 : Int32)) fun x5_7 =>
  k63 σ5 x1 x2 x3 x4 x5_7
def M_readSymbols_b100 (n : Nat) (k3 : St → Int32 → Option St) (k11 : St → Int32 → Int32 → Option St) (k63 : St → Int32 → Int32 → Int32 → Int32 → Int32 → Option St) (σ : St) (x1 : Int32) (x2 : Int32) (x3 : Int32) (x4 : Int32) (x5 : Int32) (s0 : Int32) : Option St :=
  if s0 < 0 then
    lt (x5 + (1 : Int32)) fun x5_2 =>
    k63 σ x1 x2 x3 x4 x5_2
  else
    gd x4 1920 <|
    if (σ.1 31 x4.toNatClampNeg) < 0 then
      M_readSymbols_b129 n k3 k11 k63 σ x1 x2 x3 x4 x5 s0
    else
      gd x4 1920 <|
      if (σ.1 32 x4.toNatClampNeg) ≤ s0 then
        lt (x5 + (1 : Int32)) fun x5_8 =>
        k63 σ x1 x2 x3 x4 x5_8
      else
        M_readSymbols_b129 n k3 k11 k63 σ x1 x2 x3 x4 x5 s0
def M_readSymbols_l63 (n : Nat) (k3 : St → Int32 → Option St) (k11 : St → Int32 → Int32 → Option St) : Nat → St → Int32 → Int32 → Int32 → Int32 → Int32 → Option St
  | 0, _, _, _, _, _, _ => none
  | f + 1, σ, x1, x2, x3, x4, x5 =>
    if (9 : Int32) ≤ x5 then
      lt (x2 + (1 : Int32)) fun x2_2 =>
      k11 σ x1 x2_2
    else
      if (x1 - x1 / (10 : Int32) * (10 : Int32)) = 0 then
        bp (M_fits n σ x2 x3 x5) fun r6 =>
        M_readSymbols_b100 n k3 k11 (M_readSymbols_l63 n k3 k11 f) σ x1 x2 x3 x4 x5 r6
      else
        if (x1 - x1 / (10 : Int32) * (10 : Int32)) = (x5 + (1 : Int32)) then
          bp (M_fits n σ x2 x3 x5) fun r9 =>
          M_readSymbols_b100 n k3 k11 (M_readSymbols_l63 n k3 k11 f) σ x1 x2 x3 x4 x5 r9
        else
          M_readSymbols_b100 n k3 k11 (M_readSymbols_l63 n k3 k11 f) σ x1 x2 x3 x4 x5 (-1 : Int32)
def M_readSymbols_l11 (n : Nat) (k3 : St → Int32 → Option St) : Nat → St → Int32 → Int32 → Option St
  | 0, _, _, _ => none
  | f + 1, σ, x1, x2 =>
    if (σ.1 24 0) ≤ x2 then
      lt (x1 + (1 : Int32)) fun x1_2 =>
      k3 σ x1_2
    else
      bp (M_degree σ (x1 / (10 : Int32))) fun r5 =>
      lt ((((σ.1 1 0) + r5) - ((σ.1 1 0) + r5) / (12 : Int32) * (12 : Int32))) fun x3_6 =>
      lt ((((24 : Int32) * x1) + x2)) fun x4_8 =>
      gd x4_8 1920 <|
      lt (sI σ 31 x4_8.toNatClampNeg (-1 : Int32)) fun σ11 =>
      gd x4_8 1920 <|
      lt (sI σ11 32 x4_8.toNatClampNeg (0 : Int32)) fun σ14 =>
      M_readSymbols_l63 n k3 (M_readSymbols_l11 n k3 f) n σ14 x1 x2 x3_6 x4_8 (0 : Int32)
def M_readSymbols_l3 (n : Nat) : Nat → St → Int32 → Option St
  | 0, _, _ => none
  | f + 1, σ, x1 =>
    if (80 : Int32) ≤ x1 then
      some σ
    else
      M_readSymbols_l11 n (M_readSymbols_l3 n f) n σ x1 (0 : Int32)
def M_readSymbols (n : Nat) (σ0 : St) : Option St :=
  M_readSymbols_l3 n n σ0 (10 : Int32)
abbrev rmM_readSymbols : Room := { frames := 3, cells := 0, slots := 0, locals := 69 }
set_option maxHeartbeats 4000000 in
set_option maxRecDepth 100000 in
theorem cM_readSymbols (l : Launch) (E : Ev) (n : Nat) (sz : Nat) (σ0 σ' : St) (hm : M_readSymbols n σ0 = some σ') : Met l yX10_readSymbols (wz yX10_readSymbols cX10_readSymbols 7 none) rmM_readSymbols (PwM E [.ref (E.2.2 1000)] σ0 sz) (QvM E σ0 σ' sz) 0 0 (va_A (wldM E σ0) sz) := by
  refine enM (by decide) rfl (Nat.le_of_ble_eq_true rfl) (fun p e s m args below meth c cx hr hlk hml hsz ok hw ls hl => ?_)
  have hx := cx.1
  have hb := cx.2.1
  have hA9 := cx.2.2.2
  have hA : ∀ q, s.heap.size ≤ q → (va_A (wldM E σ0) sz) q := fun q h => Or.inr (by rw [← hsz]; exact h)
  have w_129 : ∀ (k3 : St → Int32 → Option St) (hk3 : ∀ (σ : St) (x1 : Int32) (H : Heap) (locs : List Loc) (ls : Array Slot), wsM E σ (va_A (wldM E σ0) sz) s H locs → lv_has ls 7 [(0, .ref (E.2.2 1000)), (1, .int x1)] → k3 σ x1 = some σ' → W p l e rmM_readSymbols s m args below meth c H locs 0 0 (MQ below (QvM E σ0 σ' sz) args s 0 0 (va_A (wldM E σ0) sz)) (F0 m 3 ls [])) (k11 : St → Int32 → Int32 → Option St) (hk11 : ∀ (σ : St) (x1 : Int32) (x2 : Int32) (H : Heap) (locs : List Loc) (ls : Array Slot), wsM E σ (va_A (wldM E σ0) sz) s H locs → lv_has ls 7 [(0, .ref (E.2.2 1000)), (1, .int x1), (2, .int x2)] → k11 σ x1 x2 = some σ' → W p l e rmM_readSymbols s m args below meth c H locs 0 0 (MQ below (QvM E σ0 σ' sz) args s 0 0 (va_A (wldM E σ0) sz)) (F0 m 11 ls [])) (k63 : St → Int32 → Int32 → Int32 → Int32 → Int32 → Option St) (hk63 : ∀ (σ : St) (x1 : Int32) (x2 : Int32) (x3 : Int32) (x4 : Int32) (x5 : Int32) (H : Heap) (locs : List Loc) (ls : Array Slot), wsM E σ (va_A (wldM E σ0) sz) s H locs → lv_has ls 7 [(0, .ref (E.2.2 1000)), (1, .int x1), (2, .int x2), (3, .int x3), (4, .int x4), (5, .int x5)] → k63 σ x1 x2 x3 x4 x5 = some σ' → W p l e rmM_readSymbols s m args below meth c H locs 0 0 (MQ below (QvM E σ0 σ' sz) args s 0 0 (va_A (wldM E σ0) sz)) (F0 m 63 ls [])), ∀ (σ : St) (x1 : Int32) (x2 : Int32) (x3 : Int32) (x4 : Int32) (x5 : Int32) (x6 : Int32) (H : Heap) (locs : List Loc) (ls : Array Slot), wsM E σ (va_A (wldM E σ0) sz) s H locs → lv_has ls 7 [(0, .ref (E.2.2 1000)), (1, .int x1), (2, .int x2), (3, .int x3), (4, .int x4), (5, .int x5), (6, .int x6)] → M_readSymbols_b129 n k3 k11 k63 σ x1 x2 x3 x4 x5 x6 = some σ' → W p l e rmM_readSymbols s m args below meth c H locs 0 0 (MQ below (QvM E σ0 σ' sz) args s 0 0 (va_A (wldM E σ0) sz)) (F0 m 129 ls []) := by
    intro k3 hk3 k11 hk11 k63 hk63 σ x1 x2 x3 x4 x5 x6 H locs ls hw hl hm
    unfold M_readSymbols_b129 at hm
    refine lv_aload_n hx hb dX10_readSymbols_129 rfl (lv_at hl 0 rfl) ?_
    refine gtM_31 cx ok hw dX10_readSymbols_130 ?_
    refine lv_iload hx hb dX10_readSymbols_133 (lv_at hl 4 rfl) ?_
    refine lv_bipush (v := (12 : Int32)) hx hb dX10_readSymbols_135 (by decide) ?_
    refine lv_iload hx hb dX10_readSymbols_137 (lv_at hl 5 rfl) ?_
    refine lv_imul hx hb dX10_readSymbols_139 ?_
    refine lv_iload_n hx hb dX10_readSymbols_140 rfl (lv_at hl 3 rfl) ?_
    refine lv_iadd hx hb dX10_readSymbols_141 ?_
    obtain ⟨g1, hm⟩ := gd_ok hm
    refine stM_31 cx ok hw g1 dX10_readSymbols_142 (fun H locs hw => ?_)
    obtain ⟨σ2, e3, hm⟩ := lt_ok hm
    have hw := wsM_eq e3 hw
    refine lv_aload_n hx hb dX10_readSymbols_143 rfl (lv_at hl 0 rfl) ?_
    refine gtM_32 cx ok hw dX10_readSymbols_144 ?_
    refine lv_iload hx hb dX10_readSymbols_147 (lv_at hl 4 rfl) ?_
    refine lv_iload hx hb dX10_readSymbols_149 (lv_at hl 6 rfl) ?_
    obtain ⟨g4, hm⟩ := gd_ok hm
    refine stM_32 cx ok hw g4 dX10_readSymbols_151 (fun H locs hw => ?_)
    obtain ⟨σ5, e6, hm⟩ := lt_ok hm
    have hw := wsM_eq e6 hw
    obtain ⟨x5_7, e8, hm⟩ := lt_ok hm
    refine lv_iinc (v := x5_7) (lv' := [(5, .int x5_7), (0, .ref (E.2.2 1000)), (1, .int x1), (2, .int x2), (3, .int x3), (4, .int x4), (6, .int x6)]) hx hb dX10_readSymbols_152 hl (k := 5) rfl (by rw [e8]; rfl) (by decide) rfl (fun ls hl => ?_)
    refine lv_goto (tgt := 63) hx hb dX10_readSymbols_155 (by decide) ?_
    exact hk63 σ5 x1 x2 x3 x4 x5_7 H locs ls hw (lv_sub hl [1, 2, 3, 4, 5, 0] rfl) hm
  have w_100 : ∀ (k3 : St → Int32 → Option St) (hk3 : ∀ (σ : St) (x1 : Int32) (H : Heap) (locs : List Loc) (ls : Array Slot), wsM E σ (va_A (wldM E σ0) sz) s H locs → lv_has ls 7 [(0, .ref (E.2.2 1000)), (1, .int x1)] → k3 σ x1 = some σ' → W p l e rmM_readSymbols s m args below meth c H locs 0 0 (MQ below (QvM E σ0 σ' sz) args s 0 0 (va_A (wldM E σ0) sz)) (F0 m 3 ls [])) (k11 : St → Int32 → Int32 → Option St) (hk11 : ∀ (σ : St) (x1 : Int32) (x2 : Int32) (H : Heap) (locs : List Loc) (ls : Array Slot), wsM E σ (va_A (wldM E σ0) sz) s H locs → lv_has ls 7 [(0, .ref (E.2.2 1000)), (1, .int x1), (2, .int x2)] → k11 σ x1 x2 = some σ' → W p l e rmM_readSymbols s m args below meth c H locs 0 0 (MQ below (QvM E σ0 σ' sz) args s 0 0 (va_A (wldM E σ0) sz)) (F0 m 11 ls [])) (k63 : St → Int32 → Int32 → Int32 → Int32 → Int32 → Option St) (hk63 : ∀ (σ : St) (x1 : Int32) (x2 : Int32) (x3 : Int32) (x4 : Int32) (x5 : Int32) (H : Heap) (locs : List Loc) (ls : Array Slot), wsM E σ (va_A (wldM E σ0) sz) s H locs → lv_has ls 7 [(0, .ref (E.2.2 1000)), (1, .int x1), (2, .int x2), (3, .int x3), (4, .int x4), (5, .int x5)] → k63 σ x1 x2 x3 x4 x5 = some σ' → W p l e rmM_readSymbols s m args below meth c H locs 0 0 (MQ below (QvM E σ0 σ' sz) args s 0 0 (va_A (wldM E σ0) sz)) (F0 m 63 ls [])), ∀ (σ : St) (x1 : Int32) (x2 : Int32) (x3 : Int32) (x4 : Int32) (x5 : Int32) (s0 : Int32) (H : Heap) (locs : List Loc) (ls : Array Slot), wsM E σ (va_A (wldM E σ0) sz) s H locs → lv_has ls 7 [(0, .ref (E.2.2 1000)), (1, .int x1), (2, .int x2), (3, .int x3), (4, .int x4), (5, .int x5)] → M_readSymbols_b100 n k3 k11 k63 σ x1 x2 x3 x4 x5 s0 = some σ' → W p l e rmM_readSymbols s m args below meth c H locs 0 0 (MQ below (QvM E σ0 σ' sz) args s 0 0 (va_A (wldM E σ0) sz)) (F0 m 100 ls [.int s0]) := by
    intro k3 hk3 k11 hk11 k63 hk63 σ x1 x2 x3 x4 x5 s0 H locs ls hw hl hm
    unfold M_readSymbols_b100 at hm
    refine lv_istore (lv' := [(6, .int s0), (0, .ref (E.2.2 1000)), (1, .int x1), (2, .int x2), (3, .int x3), (4, .int x4), (5, .int x5)]) hx hb dX10_readSymbols_100 hl (by decide) rfl (fun ls hl => ?_)
    refine lv_iload hx hb dX10_readSymbols_102 (lv_at hl 0 rfl) ?_
    refine lv_if_lt (tgt := 152) hx hb dX10_readSymbols_104 (by decide) (fun c1 => ?_) (fun c1 => ?_)
    · have hm := if_t c1 hm
      obtain ⟨x5_2, e3, hm⟩ := lt_ok hm
      refine lv_iinc (v := x5_2) (lv' := [(5, .int x5_2), (6, .int s0), (0, .ref (E.2.2 1000)), (1, .int x1), (2, .int x2), (3, .int x3), (4, .int x4)]) hx hb dX10_readSymbols_152 hl (k := 6) rfl (by rw [e3]; rfl) (by decide) rfl (fun ls hl => ?_)
      refine lv_goto (tgt := 63) hx hb dX10_readSymbols_155 (by decide) ?_
      exact hk63 σ x1 x2 x3 x4 x5_2 H locs ls hw (lv_sub hl [2, 3, 4, 5, 6, 0] rfl) hm
    · have hm := if_f c1 hm
      refine lv_aload_n hx hb dX10_readSymbols_107 rfl (lv_at hl 1 rfl) ?_
      refine gtM_31 cx ok hw dX10_readSymbols_108 ?_
      refine lv_iload hx hb dX10_readSymbols_111 (lv_at hl 5 rfl) ?_
      obtain ⟨g4, hm⟩ := gd_ok hm
      refine ldM_31 cx ok hw g4 dX10_readSymbols_113 ?_
      refine lv_if_lt (tgt := 129) hx hb dX10_readSymbols_114 (by decide) (fun c5 => ?_) (fun c5 => ?_)
      · have hm := if_t c5 hm
        exact w_129 k3 hk3 k11 hk11 k63 hk63 σ x1 x2 x3 x4 x5 s0 H locs ls hw (lv_sub hl [1, 2, 3, 4, 5, 6, 0] rfl) hm
      · have hm := if_f c5 hm
        refine lv_iload hx hb dX10_readSymbols_117 (lv_at hl 0 rfl) ?_
        refine lv_aload_n hx hb dX10_readSymbols_119 rfl (lv_at hl 1 rfl) ?_
        refine gtM_32 cx ok hw dX10_readSymbols_120 ?_
        refine lv_iload hx hb dX10_readSymbols_123 (lv_at hl 5 rfl) ?_
        obtain ⟨g6, hm⟩ := gd_ok hm
        refine ldM_32 cx ok hw g6 dX10_readSymbols_125 ?_
        refine lv_icmp_ge (tgt := 152) hx hb dX10_readSymbols_126 (by decide) (fun c7 => ?_) (fun c7 => ?_)
        · have hm := if_t c7 hm
          obtain ⟨x5_8, e9, hm⟩ := lt_ok hm
          refine lv_iinc (v := x5_8) (lv' := [(5, .int x5_8), (6, .int s0), (0, .ref (E.2.2 1000)), (1, .int x1), (2, .int x2), (3, .int x3), (4, .int x4)]) hx hb dX10_readSymbols_152 hl (k := 6) rfl (by rw [e9]; rfl) (by decide) rfl (fun ls hl => ?_)
          refine lv_goto (tgt := 63) hx hb dX10_readSymbols_155 (by decide) ?_
          exact hk63 σ x1 x2 x3 x4 x5_8 H locs ls hw (lv_sub hl [2, 3, 4, 5, 6, 0] rfl) hm
        · have hm := if_f c7 hm
          exact w_129 k3 hk3 k11 hk11 k63 hk63 σ x1 x2 x3 x4 x5 s0 H locs ls hw (lv_sub hl [1, 2, 3, 4, 5, 6, 0] rfl) hm
  have w_63 : ∀ (k3 : St → Int32 → Option St) (hk3 : ∀ (σ : St) (x1 : Int32) (H : Heap) (locs : List Loc) (ls : Array Slot), wsM E σ (va_A (wldM E σ0) sz) s H locs → lv_has ls 7 [(0, .ref (E.2.2 1000)), (1, .int x1)] → k3 σ x1 = some σ' → W p l e rmM_readSymbols s m args below meth c H locs 0 0 (MQ below (QvM E σ0 σ' sz) args s 0 0 (va_A (wldM E σ0) sz)) (F0 m 3 ls [])) (k11 : St → Int32 → Int32 → Option St) (hk11 : ∀ (σ : St) (x1 : Int32) (x2 : Int32) (H : Heap) (locs : List Loc) (ls : Array Slot), wsM E σ (va_A (wldM E σ0) sz) s H locs → lv_has ls 7 [(0, .ref (E.2.2 1000)), (1, .int x1), (2, .int x2)] → k11 σ x1 x2 = some σ' → W p l e rmM_readSymbols s m args below meth c H locs 0 0 (MQ below (QvM E σ0 σ' sz) args s 0 0 (va_A (wldM E σ0) sz)) (F0 m 11 ls [])), ∀ (f : Nat), ∀ (σ : St) (x1 : Int32) (x2 : Int32) (x3 : Int32) (x4 : Int32) (x5 : Int32) (H : Heap) (locs : List Loc) (ls : Array Slot), wsM E σ (va_A (wldM E σ0) sz) s H locs → lv_has ls 7 [(0, .ref (E.2.2 1000)), (1, .int x1), (2, .int x2), (3, .int x3), (4, .int x4), (5, .int x5)] → M_readSymbols_l63 n k3 k11 f σ x1 x2 x3 x4 x5 = some σ' → W p l e rmM_readSymbols s m args below meth c H locs 0 0 (MQ below (QvM E σ0 σ' sz) args s 0 0 (va_A (wldM E σ0) sz)) (F0 m 63 ls []) := by
    intro k3 hk3 k11 hk11
    intro f
    induction f with
    | zero =>
      intro σ x1 x2 x3 x4 x5 H locs ls hw hl hm
      rw [M_readSymbols_l63] at hm
      cases hm
    | succ f ih =>
      intro σ x1 x2 x3 x4 x5 H locs ls hw hl hm
      rw [M_readSymbols_l63] at hm
      refine lv_iload hx hb dX10_readSymbols_63 (lv_at hl 5 rfl) ?_
      refine lv_bipush (v := (9 : Int32)) hx hb dX10_readSymbols_65 (by decide) ?_
      refine lv_icmp_ge (tgt := 158) hx hb dX10_readSymbols_67 (by decide) (fun c1 => ?_) (fun c1 => ?_)
      · have hm := if_t c1 hm
        obtain ⟨x2_2, e3, hm⟩ := lt_ok hm
        refine lv_iinc (v := x2_2) (lv' := [(2, .int x2_2), (0, .ref (E.2.2 1000)), (1, .int x1), (3, .int x3), (4, .int x4), (5, .int x5)]) hx hb dX10_readSymbols_158 hl (k := 2) rfl (by rw [e3]; rfl) (by decide) rfl (fun ls hl => ?_)
        refine lv_goto (tgt := 11) hx hb dX10_readSymbols_161 (by decide) ?_
        exact hk11 σ x1 x2_2 H locs ls hw (lv_sub hl [1, 2, 0] rfl) hm
      · have hm := if_f c1 hm
        refine lv_iload_n hx hb dX10_readSymbols_70 rfl (lv_at hl 1 rfl) ?_
        refine lv_bipush (v := (10 : Int32)) hx hb dX10_readSymbols_71 (by decide) ?_
        refine lv_irem hx hb dX10_readSymbols_73 (by decide) ?_
        refine lv_if_eq (tgt := 88) hx hb dX10_readSymbols_74 (by decide) (fun c4 => ?_) (fun c4 => ?_)
        · have hm := if_t c4 hm
          refine lv_aload_n hx hb dX10_readSymbols_88 rfl (lv_at hl 0 rfl) ?_
          refine lv_iload_n hx hb dX10_readSymbols_89 rfl (lv_at hl 2 rfl) ?_
          refine lv_iload_n hx hb dX10_readSymbols_90 rfl (lv_at hl 3 rfl) ?_
          refine lv_iload hx hb dX10_readSymbols_91 (lv_at hl 5 rfl) ?_
          obtain ⟨r6, h5, hm⟩ := bp_ok hm
          refine clV_Mi (As := [.int x2, .int x3, .int x5]) (rest := []) cx hml hl.1 ok hw hA (cM_fits l E n _ σ x2 x3 x5 r6 h5) (cwM_fits hA9 ⟨Nat.le_of_ble_eq_true rfl, Nat.le_of_ble_eq_true rfl⟩) rfl rfl (Nat.le_of_ble_eq_true rfl) dX10_readSymbols_93 (fun H locs hw => ?_)
          refine lv_goto (tgt := 100) hx hb dX10_readSymbols_96 (by decide) ?_
          exact w_100 k3 hk3 k11 hk11 (M_readSymbols_l63 n k3 k11 f) ih σ x1 x2 x3 x4 x5 r6 H locs ls hw (lv_sub hl [0, 1, 2, 3, 4, 5] rfl) hm
        · have hm := if_f c4 hm
          refine lv_iload_n hx hb dX10_readSymbols_77 rfl (lv_at hl 1 rfl) ?_
          refine lv_bipush (v := (10 : Int32)) hx hb dX10_readSymbols_78 (by decide) ?_
          refine lv_irem hx hb dX10_readSymbols_80 (by decide) ?_
          refine lv_iload hx hb dX10_readSymbols_81 (lv_at hl 5 rfl) ?_
          refine lv_iconst (v := (1 : Int32)) hx hb dX10_readSymbols_83 (by decide) ?_
          refine lv_iadd hx hb dX10_readSymbols_84 ?_
          refine lv_icmp_ne (tgt := 99) hx hb dX10_readSymbols_85 (by decide) (fun c7 => ?_) (fun c7 => ?_)
          · have hm := if_f c7 hm
            refine lv_iconst (v := (-1 : Int32)) hx hb dX10_readSymbols_99 (by decide) ?_
            exact w_100 k3 hk3 k11 hk11 (M_readSymbols_l63 n k3 k11 f) ih σ x1 x2 x3 x4 x5 (-1 : Int32) H locs ls hw (lv_sub hl [0, 1, 2, 3, 4, 5] rfl) hm
          · have hm := if_t c7 hm
            refine lv_aload_n hx hb dX10_readSymbols_88 rfl (lv_at hl 0 rfl) ?_
            refine lv_iload_n hx hb dX10_readSymbols_89 rfl (lv_at hl 2 rfl) ?_
            refine lv_iload_n hx hb dX10_readSymbols_90 rfl (lv_at hl 3 rfl) ?_
            refine lv_iload hx hb dX10_readSymbols_91 (lv_at hl 5 rfl) ?_
            obtain ⟨r9, h8, hm⟩ := bp_ok hm
            refine clV_Mi (As := [.int x2, .int x3, .int x5]) (rest := []) cx hml hl.1 ok hw hA (cM_fits l E n _ σ x2 x3 x5 r9 h8) (cwM_fits hA9 ⟨Nat.le_of_ble_eq_true rfl, Nat.le_of_ble_eq_true rfl⟩) rfl rfl (Nat.le_of_ble_eq_true rfl) dX10_readSymbols_93 (fun H locs hw => ?_)
            refine lv_goto (tgt := 100) hx hb dX10_readSymbols_96 (by decide) ?_
            exact w_100 k3 hk3 k11 hk11 (M_readSymbols_l63 n k3 k11 f) ih σ x1 x2 x3 x4 x5 r9 H locs ls hw (lv_sub hl [0, 1, 2, 3, 4, 5] rfl) hm
  have w_11 : ∀ (k3 : St → Int32 → Option St) (hk3 : ∀ (σ : St) (x1 : Int32) (H : Heap) (locs : List Loc) (ls : Array Slot), wsM E σ (va_A (wldM E σ0) sz) s H locs → lv_has ls 7 [(0, .ref (E.2.2 1000)), (1, .int x1)] → k3 σ x1 = some σ' → W p l e rmM_readSymbols s m args below meth c H locs 0 0 (MQ below (QvM E σ0 σ' sz) args s 0 0 (va_A (wldM E σ0) sz)) (F0 m 3 ls [])), ∀ (f : Nat), ∀ (σ : St) (x1 : Int32) (x2 : Int32) (H : Heap) (locs : List Loc) (ls : Array Slot), wsM E σ (va_A (wldM E σ0) sz) s H locs → lv_has ls 7 [(0, .ref (E.2.2 1000)), (1, .int x1), (2, .int x2)] → M_readSymbols_l11 n k3 f σ x1 x2 = some σ' → W p l e rmM_readSymbols s m args below meth c H locs 0 0 (MQ below (QvM E σ0 σ' sz) args s 0 0 (va_A (wldM E σ0) sz)) (F0 m 11 ls []) := by
    intro k3 hk3
    intro f
    induction f with
    | zero =>
      intro σ x1 x2 H locs ls hw hl hm
      rw [M_readSymbols_l11] at hm
      cases hm
    | succ f ih =>
      intro σ x1 x2 H locs ls hw hl hm
      rw [M_readSymbols_l11] at hm
      refine lv_iload_n hx hb dX10_readSymbols_11 rfl (lv_at hl 2 rfl) ?_
      refine lv_aload_n hx hb dX10_readSymbols_12 rfl (lv_at hl 0 rfl) ?_
      refine gtM_24 cx ok hw dX10_readSymbols_13 ?_
      refine lv_icmp_ge (tgt := 164) hx hb dX10_readSymbols_16 (by decide) (fun c1 => ?_) (fun c1 => ?_)
      · have hm := if_t c1 hm
        obtain ⟨x1_2, e3, hm⟩ := lt_ok hm
        refine lv_iinc (v := x1_2) (lv' := [(1, .int x1_2), (0, .ref (E.2.2 1000)), (2, .int x2)]) hx hb dX10_readSymbols_164 hl (k := 1) rfl (by rw [e3]; rfl) (by decide) rfl (fun ls hl => ?_)
        refine lv_goto (tgt := 3) hx hb dX10_readSymbols_167 (by decide) ?_
        exact hk3 σ x1_2 H locs ls hw (lv_sub hl [1, 0] rfl) hm
      · have hm := if_f c1 hm
        refine lv_aload_n hx hb dX10_readSymbols_19 rfl (lv_at hl 0 rfl) ?_
        refine gtM_1 cx ok hw dX10_readSymbols_20 ?_
        refine lv_aload_n hx hb dX10_readSymbols_23 rfl (lv_at hl 0 rfl) ?_
        refine lv_iload_n hx hb dX10_readSymbols_24 rfl (lv_at hl 1 rfl) ?_
        refine lv_bipush (v := (10 : Int32)) hx hb dX10_readSymbols_25 (by decide) ?_
        refine lv_idiv hx hb dX10_readSymbols_27 (by decide) ?_
        obtain ⟨r5, h4, hm⟩ := bp_ok hm
        refine clV_Mi (As := [.int (x1 / (10 : Int32))]) (rest := [.int (σ.1 1 0)]) cx hml hl.1 ok hw hA (cM_degree l E _ σ (x1 / (10 : Int32)) r5 h4) (cwM_degree hA9 ⟨Nat.le_of_ble_eq_true rfl, Nat.le_of_ble_eq_true rfl⟩) rfl rfl (Nat.le_of_ble_eq_true rfl) dX10_readSymbols_28 (fun H locs hw => ?_)
        refine lv_iadd hx hb dX10_readSymbols_31 ?_
        refine lv_bipush (v := (12 : Int32)) hx hb dX10_readSymbols_32 (by decide) ?_
        refine lv_irem hx hb dX10_readSymbols_34 (by decide) ?_
        obtain ⟨x3_6, e7, hm⟩ := lt_ok hm
        refine ti_eq e7 ?_
        refine lv_istore_n (lv' := [(3, .int x3_6), (0, .ref (E.2.2 1000)), (1, .int x1), (2, .int x2)]) hx hb dX10_readSymbols_35 rfl hl (by decide) rfl (fun ls hl => ?_)
        refine lv_bipush (v := (24 : Int32)) hx hb dX10_readSymbols_36 (by decide) ?_
        refine lv_iload_n hx hb dX10_readSymbols_38 rfl (lv_at hl 2 rfl) ?_
        refine lv_imul hx hb dX10_readSymbols_39 ?_
        refine lv_iload_n hx hb dX10_readSymbols_40 rfl (lv_at hl 3 rfl) ?_
        refine lv_iadd hx hb dX10_readSymbols_41 ?_
        obtain ⟨x4_8, e9, hm⟩ := lt_ok hm
        refine ti_eq e9 ?_
        refine lv_istore (lv' := [(4, .int x4_8), (3, .int x3_6), (0, .ref (E.2.2 1000)), (1, .int x1), (2, .int x2)]) hx hb dX10_readSymbols_42 hl (by decide) rfl (fun ls hl => ?_)
        refine lv_aload_n hx hb dX10_readSymbols_44 rfl (lv_at hl 2 rfl) ?_
        refine gtM_31 cx ok hw dX10_readSymbols_45 ?_
        refine lv_iload hx hb dX10_readSymbols_48 (lv_at hl 0 rfl) ?_
        refine lv_iconst (v := (-1 : Int32)) hx hb dX10_readSymbols_50 (by decide) ?_
        obtain ⟨g10, hm⟩ := gd_ok hm
        refine stM_31 cx ok hw g10 dX10_readSymbols_51 (fun H locs hw => ?_)
        obtain ⟨σ11, e12, hm⟩ := lt_ok hm
        have hw := wsM_eq e12 hw
        refine lv_aload_n hx hb dX10_readSymbols_52 rfl (lv_at hl 2 rfl) ?_
        refine gtM_32 cx ok hw dX10_readSymbols_53 ?_
        refine lv_iload hx hb dX10_readSymbols_56 (lv_at hl 0 rfl) ?_
        refine lv_iconst (v := (0 : Int32)) hx hb dX10_readSymbols_58 (by decide) ?_
        obtain ⟨g13, hm⟩ := gd_ok hm
        refine stM_32 cx ok hw g13 dX10_readSymbols_59 (fun H locs hw => ?_)
        obtain ⟨σ14, e15, hm⟩ := lt_ok hm
        have hw := wsM_eq e15 hw
        refine lv_iconst (v := (0 : Int32)) hx hb dX10_readSymbols_60 (by decide) ?_
        refine lv_istore (lv' := [(5, .int (0 : Int32)), (4, .int x4_8), (3, .int x3_6), (0, .ref (E.2.2 1000)), (1, .int x1), (2, .int x2)]) hx hb dX10_readSymbols_61 hl (by decide) rfl (fun ls hl => ?_)
        exact w_63 k3 hk3 (M_readSymbols_l11 n k3 f) ih n σ14 x1 x2 x3_6 x4_8 (0 : Int32) H locs ls hw (lv_sub hl [3, 4, 5, 2, 1, 0] rfl) hm
  have w_3 : ∀ (f : Nat), ∀ (σ : St) (x1 : Int32) (H : Heap) (locs : List Loc) (ls : Array Slot), wsM E σ (va_A (wldM E σ0) sz) s H locs → lv_has ls 7 [(0, .ref (E.2.2 1000)), (1, .int x1)] → M_readSymbols_l3 n f σ x1 = some σ' → W p l e rmM_readSymbols s m args below meth c H locs 0 0 (MQ below (QvM E σ0 σ' sz) args s 0 0 (va_A (wldM E σ0) sz)) (F0 m 3 ls []) := by
    intro f
    induction f with
    | zero =>
      intro σ x1 H locs ls hw hl hm
      rw [M_readSymbols_l3] at hm
      cases hm
    | succ f ih =>
      intro σ x1 H locs ls hw hl hm
      rw [M_readSymbols_l3] at hm
      refine lv_iload_n hx hb dX10_readSymbols_3 rfl (lv_at hl 1 rfl) ?_
      refine lv_bipush (v := (80 : Int32)) hx hb dX10_readSymbols_4 (by decide) ?_
      refine lv_icmp_ge (tgt := 170) hx hb dX10_readSymbols_6 (by decide) (fun c1 => ?_) (fun c1 => ?_)
      · have hm := if_t c1 hm
        exact rtM_v cx hr hlk hw hm dX10_readSymbols_170
      · have hm := if_f c1 hm
        refine lv_iconst (v := (0 : Int32)) hx hb dX10_readSymbols_9 (by decide) ?_
        refine lv_istore_n (lv' := [(2, .int (0 : Int32)), (0, .ref (E.2.2 1000)), (1, .int x1)]) hx hb dX10_readSymbols_10 rfl hl (by decide) rfl (fun ls hl => ?_)
        exact w_11 (M_readSymbols_l3 n f) ih n σ x1 (0 : Int32) H locs ls hw (lv_sub hl [1, 2, 0] rfl) hm
  have hl : lv_has ls 7 [(0, .ref (E.2.2 1000))] := hl
  unfold M_readSymbols at hm
  have goal0 : ∀ (H : Heap) (locs : List Loc), wsM E σ0 (va_A (wldM E σ0) sz) s H locs → W p l e rmM_readSymbols s m args below meth c H locs 0 0 (MQ below (QvM E σ0 σ' sz) args s 0 0 (va_A (wldM E σ0) sz)) (F0 m 0 ls []) := by
    intro H locs hw
    refine lv_bipush (v := (10 : Int32)) hx hb dX10_readSymbols_0 (by decide) ?_
    refine lv_istore_n (lv' := [(1, .int (10 : Int32)), (0, .ref (E.2.2 1000))]) hx hb dX10_readSymbols_2 rfl hl (by decide) rfl (fun ls hl => ?_)
    exact w_3 n σ0 (10 : Int32) H locs ls hw (lv_sub hl [1, 0] rfl) hm
  exact goal0 _ _ hw
theorem cwM_readSymbols {R : Room} {s : State} {args : Array Value} (h : ∀ w ∈ wA, w.before args s = true) (hR : rmM_readSymbols.frames + 1 ≤ R.frames ∧ 8 + (7 + 11) + rmM_readSymbols.locals ≤ R.locals) : CallW R s args RX10 RX10 222 yX10_readSymbols cX10_readSymbols 7 none (wz yX10_readSymbols cX10_readSymbols 7 none) rmM_readSymbols 0 0 0 := cwV 0 h (gdV k_1036 k_1038 ks_58 k_11 k_1039) rfl rfl rfl (by decide +kernel) hR

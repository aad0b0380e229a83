theorem bi_1 (v : Nat) (h : v < 2 ^ 32) : ((nI v).toUInt32 >>> ((1 : Int32).toUInt32 &&& Int32.toUInt32 31)).toInt32 = nI (v / 2) := pk_ushrN h 1 1 (by decide)
theorem bi_2 (v : Nat) (h : v < 2 ^ 32) : ((nI v).toUInt32 >>> ((2 : Int32).toUInt32 &&& Int32.toUInt32 31)).toInt32 = nI (v / 4) := pk_ushrN h 2 2 (by decide)
theorem bi_4 (v : Nat) (h : v < 2 ^ 32) : ((nI v).toUInt32 >>> ((4 : Int32).toUInt32 &&& Int32.toUInt32 31)).toInt32 = nI (v / 16) := pk_ushrN h 4 4 (by decide)
theorem bi_8 (v : Nat) (h : v < 2 ^ 32) : ((nI v).toUInt32 >>> ((8 : Int32).toUInt32 &&& Int32.toUInt32 31)).toInt32 = nI (v / 256) := pk_ushrN h 8 8 (by decide)
theorem bi_16 (v : Nat) (h : v < 2 ^ 32) : ((nI v).toUInt32 >>> ((16 : Int32).toUInt32 &&& Int32.toUInt32 31)).toInt32 = nI (v / 65536) := pk_ushrN h 16 16 (by decide)
theorem bi_m1 (v w : Nat) : nI v - (nI w &&& 1431655765) = nI v - nI (w &&& 1431655765) := by rw [← nx_and]; rfl
theorem bi_m2 (v w : Nat) : (nI v &&& 858993459) + (nI w &&& 858993459) = nI ((v &&& 858993459) + (w &&& 858993459)) := by rw [← nI_add, ← nx_and, ← nx_and]; rfl
theorem bi_m3 (v : Nat) : nI v &&& 252645135 = nI (v &&& 252645135) := by rw [← nx_and]; rfl
theorem bi_m4 (v : Nat) (h : v < 2 ^ 32) : nI v &&& 63 = nI (v % 64) := pk_andN h 6 (by decide)
theorem bi_tot (lo hi : Nat) (h1 : lo < 65536) (h2 : hi < 65536) : pcf 32 (lo + 65536 * hi) = pcf 8 (lo % 256) + pcf 8 (lo / 256) + pcf 8 (hi % 256) + pcf 8 (hi / 256) := by
  have e1 : pcf 32 (lo + 65536 * hi) = pcf 8 ((lo + 65536 * hi) % 256) + pcf 24 ((lo + 65536 * hi) / 256) := pcf_app 8 24 _
  have e2 : pcf 24 ((lo + 65536 * hi) / 256) = pcf 8 ((lo + 65536 * hi) / 256 % 256) + pcf 16 ((lo + 65536 * hi) / 256 / 256) := pcf_app 8 16 _
  have e3 : pcf 16 ((lo + 65536 * hi) / 256 / 256) = pcf 8 ((lo + 65536 * hi) / 256 / 256 % 256) + pcf 8 ((lo + 65536 * hi) / 256 / 256 / 256) := pcf_app 8 8 _
  have f1 : (lo + 65536 * hi) % 256 = lo % 256 := by omega
  have f2 : (lo + 65536 * hi) / 256 % 256 = lo / 256 := by omega
  have f3 : (lo + 65536 * hi) / 256 / 256 % 256 = hi % 256 := by omega
  have f4 : (lo + 65536 * hi) / 256 / 256 / 256 = hi / 256 := by omega
  rw [e1, e2, e3, f1, f2, f3, f4]
  omega
theorem bi_end (x0 x1 x2 x3 : Nat) (h0 : x0 ≤ 8) (h1 : x1 ≤ 8) (h2 : x2 ≤ 8) (h3 : x3 ≤ 8) : (x0 + 256 * x1 + 65536 * (x2 + 256 * x3) + (x0 + 256 * x1 + 65536 * (x2 + 256 * x3)) / 256 + (x0 + 256 * x1 + 65536 * (x2 + 256 * x3) + (x0 + 256 * x1 + 65536 * (x2 + 256 * x3)) / 256) / 65536) % 64 = x0 + x1 + x2 + x3 := by
  have f1 : (x0 + 256 * x1 + 65536 * (x2 + 256 * x3)) / 256 = x1 + 256 * (x2 + 256 * x3) := by omega
  rw [f1]
  have f2 : (x0 + 256 * x1 + 65536 * (x2 + 256 * x3) + (x1 + 256 * (x2 + 256 * x3))) / 65536 = x2 + 256 * x3 + x3 := by omega
  rw [f2]
  omega
theorem bitCount_n {v : Nat} (hv : v < 2 ^ 32) : C_Integer_bitCount_0f7a4 (nI v) = some (nI (pcf 32 v)) := by
  obtain ⟨lo, hi, h1, h2, rfl⟩ : ∃ lo hi, lo < 65536 ∧ hi < 65536 ∧ v = lo + 65536 * hi := ⟨v % 65536, v / 65536, Nat.mod_lt _ (by decide), by omega, by omega⟩
  have p1 := b1_lt lo
  have p2 := b1_lt hi
  have p3 := b2_le (b1 lo)
  have p4 := b2_le (b1 hi)
  obtain ⟨q1, q2⟩ := b_16 h1
  obtain ⟨q3, q4⟩ := b_16 h2
  have c0 := pcf_le 8 (lo % 256)
  have c1 := pcf_le 8 (lo / 256)
  have c2 := pcf_le 8 (hi % 256)
  have c3 := pcf_le 8 (hi / 256)
  rw [bi_tot lo hi h1 h2]
  have g1 : nI (lo + 65536 * hi) - nI ((lo + 65536 * hi) / 2 &&& 1431655765) = nI (b1 lo + 65536 * b1 hi) := by
    rw [pk_sub (Nat.le_trans Nat.and_le_left (Nat.div_le_self _ _)), bc1 lo hi h1 h2]
  unfold C_Integer_bitCount_0f7a4
  rw [lt_is, lt_is, lt_is, lt_is, lt_is, bi_1 _ hv, bi_m1, g1, bi_2 _ (by omega), bi_m2, bc2 _ _ (by omega) (by omega), bi_4 _ (by omega), nI_add, bi_m3, bc3 _ _ p3 p4 q3, q2, q4]
  rw [bi_8 _ (by omega), nI_add, bi_16 _ (by omega), nI_add, bi_m4 _ (by omega), bi_end _ _ _ _ c0 c1 c2 c3]

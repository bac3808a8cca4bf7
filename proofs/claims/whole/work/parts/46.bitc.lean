/-! ===== 46: Integer.bitCount ===== -/
theorem n_ubv {a b : Nat} (hb : b < 32) : ((nI a).toUInt32 >>> ((nI b).toUInt32 &&& Int32.toUInt32 31)).toInt32 = nI ((a % 2 ^ 32) >>> b) := n_ext fun i hi => by
  have h1 : ((nI b).toUInt32 &&& Int32.toUInt32 31).toBitVec.toNat % 32 = b := by
    have : ∀ b, b < 32 → ((nI b).toUInt32 &&& Int32.toUInt32 31).toBitVec.toNat % 32 = b := by decide +kernel
    exact this b hb
  show (((nI a).toUInt32 >>> ((nI b).toUInt32 &&& Int32.toUInt32 31)).toBitVec).getLsbD i = _
  rw [UInt32.toBitVec_shiftRight, BitVec.ushiftRight_eq', BitVec.getLsbD_ushiftRight]
  have h2 : (((nI b).toUInt32 &&& Int32.toUInt32 31).toBitVec % 32).toNat = b := by rw [BitVec.toNat_umod]; exact h1
  rw [h2]
  show (nI a).toBitVec.getLsbD (b + i) = _
  rw [n_b, Nat.testBit_shiftRight, Nat.testBit_mod_two_pow]
theorem n_ushr {a b : Nat} (ha : a < 2 ^ 32) (hb : b < 32) : ((nI a).toUInt32 >>> ((nI b).toUInt32 &&& Int32.toUInt32 31)).toInt32 = nI (a >>> b) := by
  rw [n_ubv hb, Nat.mod_eq_of_lt ha]
def f1b (x : Nat) : Nat := x - ((x >>> 1) &&& 1431655765)
def f2b (i : Nat) : Nat := (i &&& 858993459) + ((i >>> 2) &&& 858993459)
def f4b (j : Nat) : Nat := (j + (j >>> 4)) &&& 252645135
def f8b (k : Nat) : Nat := k + (k >>> 8)
def f16b (l : Nat) : Nat := l + (l >>> 16)
theorem and_byte (u v : Nat) : u &&& v = ((u % 256) &&& (v % 256)) + 256 * ((u / 256) &&& (v / 256)) := by
  have h1 := Nat.and_mod_two_pow (a := u) (b := v) (n := 8)
  have h2 := Nat.and_div_two_pow (a := u) (b := v) (n := 8)
  rw [show (2 : Nat) ^ 8 = 256 from rfl] at h1 h2
  rw [← h1, ← h2]
  omega
theorem and_small {y : Nat} (h : y < 2 ^ 24) (m : Nat) : y &&& m = y &&& (m % 2 ^ 24) := by
  apply Nat.eq_of_testBit_eq
  intro i
  rw [Nat.testBit_and, Nat.testBit_and, Nat.testBit_mod_two_pow]
  by_cases hi : i < 24
  · simp [hi]
  · rw [tb_of_lt h (Nat.le_of_not_lt hi)]; simp
theorem f1_s {a y : Nat} (ha : a < 256) (hy : y < 2 ^ 16) : f1b (a + 256 * y) = f1b a + 256 * f1b y := by
  have d : ∀ a, a < 256 → ∀ c, c < 2 → (a / 2 + 128 * c) &&& 85 = (a >>> 1) &&& 1431655765 := by decide +kernel
  have t : ((a + 256 * y) >>> 1) &&& 1431655765 = ((a >>> 1) &&& 1431655765) + 256 * ((y >>> 1) &&& 1431655765) := by
    rw [and_byte, Nat.shiftRight_eq_div_pow (a + 256 * y), ← d a ha (y % 2) (by omega)]
    have e1 : (a + 256 * y) / 2 ^ 1 % 256 = a / 2 + 128 * (y % 2) := by omega
    have e2 : (a + 256 * y) / 2 ^ 1 / 256 = y >>> 1 := by rw [Nat.shiftRight_eq_div_pow]; omega
    rw [e1, e2, show 1431655765 % 256 = 85 from rfl, and_small (y := y >>> 1) (by rw [Nat.shiftRight_eq_div_pow]; omega) 1431655765]
  unfold f1b
  rw [t]
  have h1 : (a >>> 1) &&& 1431655765 ≤ a := Nat.le_trans Nat.and_le_left (by rw [Nat.shiftRight_eq_div_pow]; omega)
  have h2 : (y >>> 1) &&& 1431655765 ≤ y := Nat.le_trans Nat.and_le_left (by rw [Nat.shiftRight_eq_div_pow]; omega)
  omega
theorem f2_s {a y : Nat} (ha : a < 256) (hy : y < 2 ^ 16) : f2b (a + 256 * y) = f2b a + 256 * f2b y := by
  have d : ∀ a, a < 256 → ∀ c, c < 4 → (a / 4 + 64 * c) &&& 51 = (a >>> 2) &&& 858993459 := by decide +kernel
  have d0 : ∀ a, a < 256 → a &&& 51 = a &&& 858993459 := by decide +kernel
  have t : ((a + 256 * y) >>> 2) &&& 858993459 = ((a >>> 2) &&& 858993459) + 256 * ((y >>> 2) &&& 858993459) := by
    rw [and_byte, Nat.shiftRight_eq_div_pow (a + 256 * y), ← d a ha (y % 4) (by omega)]
    have e1 : (a + 256 * y) / 2 ^ 2 % 256 = a / 4 + 64 * (y % 4) := by omega
    have e2 : (a + 256 * y) / 2 ^ 2 / 256 = y >>> 2 := by rw [Nat.shiftRight_eq_div_pow]; omega
    rw [e1, e2, show 858993459 % 256 = 51 from rfl, and_small (y := y >>> 2) (by rw [Nat.shiftRight_eq_div_pow]; omega) 858993459]
  have t0 : (a + 256 * y) &&& 858993459 = (a &&& 858993459) + 256 * (y &&& 858993459) := by
    rw [and_byte, ← d0 a ha]
    have e1 : (a + 256 * y) % 256 = a := by omega
    have e2 : (a + 256 * y) / 256 = y := by omega
    rw [e1, e2, show 858993459 % 256 = 51 from rfl, and_small (y := y) (by omega) 858993459]
  unfold f2b
  rw [t, t0]; omega
theorem f4_d : ∀ p, p < 5 → ∀ p', p' < 5 → ∀ q, q < 5 → ∀ q', q' < 5 → ∀ r, r < 5 → ∀ r', r' < 2 → Nat.beq (f16b (f8b (f4b ((p + 16 * p') + 256 * ((q + 16 * q') + 256 * (r + 16 * r'))))) &&& 63) (p + p' + q + q' + r + r') = true := by decide +kernel
theorem f2_d : ∀ a, a < 256 → f2b (f1b a) % 16 < 5 ∧ f2b (f1b a) / 16 < 5 ∧ f2b (f1b a) % 16 + f2b (f1b a) / 16 = cnt a.testBit 8 ∧ f1b a < 256 := by decide +kernel
theorem f2_e : ∀ a, a < 32 → f2b (f1b a) / 16 < 2 := by decide +kernel
theorem cnt_byte {a y : Nat} (ha : a < 256) (n : Nat) : cnt (a + 256 * y).testBit (8 + n) = cnt a.testBit 8 + cnt y.testBit n := by
  have e : a + 256 * y = 2 ^ 8 * y + a := by rw [Nat.add_comm]
  rw [cnt_add]
  congr 1
  · exact cnt_congr fun i hi => by rw [e, Nat.testBit_two_pow_mul_add _ ha]; simp [hi]
  · refine cnt_congr fun i hi => ?_
    rw [e, Nat.testBit_two_pow_mul_add _ ha]
    have h1 : ¬ 8 + i < 8 := by omega
    rw [if_neg h1, show 8 + i - 8 = i by omega]
theorem bc_nat {x : Nat} (hx : x < 2 ^ 21) : f16b (f8b (f4b (f2b (f1b x)))) &&& 63 = pc x := by
  obtain ⟨a, b, c, ha, hb, hc, rfl⟩ : ∃ a b c, a < 256 ∧ b < 256 ∧ c < 32 ∧ x = a + 256 * (b + 256 * c) := ⟨x % 256, x / 256 % 256, x / 65536, by omega, by omega, by omega, by omega⟩
  obtain ⟨a1, a2, a3, a4⟩ := f2_d a ha
  obtain ⟨b1, b2, b3, b4⟩ := f2_d b hb
  obtain ⟨c1, c2, c3, c4⟩ := f2_d c (by omega)
  have c5 := f2_e c hc
  have hf1 : f1b (b + 256 * c) < 2 ^ 16 := by rw [f1_s hb (by omega)]; omega
  rw [f1_s ha (by omega), f2_s a4 hf1, f1_s hb (by omega), f2_s b4 (by omega)]
  have hd := Nat.eq_of_beq_eq_true (f4_d _ a1 _ a2 _ b1 _ b2 _ c1 _ c5)
  have e1 : f2b (f1b a) % 16 + 16 * (f2b (f1b a) / 16) = f2b (f1b a) := by omega
  have e2 : f2b (f1b b) % 16 + 16 * (f2b (f1b b) / 16) = f2b (f1b b) := by omega
  have e3 : f2b (f1b c) % 16 + 16 * (f2b (f1b c) / 16) = f2b (f1b c) := by omega
  rw [e1, e2, e3] at hd
  rw [hd]
  unfold pc
  rw [show 21 = 8 + (8 + 5) from rfl, cnt_byte ha, cnt_byte hb, ← a3, ← b3]
  have : cnt c.testBit 8 = cnt c.testBit 5 := cnt_more (fun i hi => tb_of_lt (n := 5) hc hi) (by omega)
  rw [← this, ← c3]
  omega
theorem f1_le {x : Nat} : f1b x ≤ x := Nat.sub_le _ _
theorem c_bitCount {x : Nat} (hx : x < 2 ^ 21) : fp_J6_bitCount_0f7a4 (nI x) = some (nI (pc x)) := by
  unfold fp_J6_bitCount_0f7a4
  simp only [lett]
  have s1 : f1b x < 2 ^ 21 := Nat.lt_of_le_of_lt f1_le hx
  have s2 : f2b (f1b x) < 2 ^ 22 := by
    unfold f2b
    have h1 : f1b x &&& 858993459 ≤ f1b x := Nat.and_le_left
    have h2 : f1b x >>> 2 &&& 858993459 ≤ f1b x >>> 2 := Nat.and_le_left
    have h3 : f1b x >>> 2 ≤ f1b x := Nat.shiftRight_le _ _
    omega
  have s4 : f4b (f2b (f1b x)) < 2 ^ 23 := by
    unfold f4b
    have h1 : (f2b (f1b x) + f2b (f1b x) >>> 4) &&& 252645135 ≤ f2b (f1b x) + f2b (f1b x) >>> 4 := Nat.and_le_left
    have h3 : f2b (f1b x) >>> 4 ≤ f2b (f1b x) := Nat.shiftRight_le _ _
    omega
  have s8 : f8b (f4b (f2b (f1b x))) < 2 ^ 24 := by
    unfold f8b
    have h3 : f4b (f2b (f1b x)) >>> 8 ≤ f4b (f2b (f1b x)) := Nat.shiftRight_le _ _
    omega
  have k1 : (1431655765 : Int32) = nI 1431655765 := by decide
  have k2 : (858993459 : Int32) = nI 858993459 := by decide
  have k4 : (252645135 : Int32) = nI 252645135 := by decide
  have k6 : (63 : Int32) = nI 63 := by decide
  have k8 : (8 : Int32) = nI 8 := by decide
  have k16 : (16 : Int32) = nI 16 := by decide
  have e1 : nI x - (((nI x).toUInt32 >>> ((1 : Int32).toUInt32 &&& Int32.toUInt32 31)).toInt32 &&& 1431655765) = nI (f1b x) := by
    rw [n_1, n_ushr (by omega) (by omega), k1, n_and, n_sub (Nat.le_trans Nat.and_le_left (Nat.shiftRight_le _ _))]; rfl
  rw [e1]
  have e2 : (nI (f1b x) &&& 858993459) + (((nI (f1b x)).toUInt32 >>> ((2 : Int32).toUInt32 &&& Int32.toUInt32 31)).toInt32 &&& 858993459) = nI (f2b (f1b x)) := by
    rw [n_2, n_ushr (by omega) (by omega), k2, n_and, n_and, n_add]; rfl
  rw [e2]
  have e4 : (nI (f2b (f1b x)) + ((nI (f2b (f1b x))).toUInt32 >>> ((4 : Int32).toUInt32 &&& Int32.toUInt32 31)).toInt32) &&& 252645135 = nI (f4b (f2b (f1b x))) := by
    rw [n_4, n_ushr (by omega) (by omega), n_add, k4, n_and]; rfl
  rw [e4]
  have e8 : nI (f4b (f2b (f1b x))) + ((nI (f4b (f2b (f1b x)))).toUInt32 >>> ((8 : Int32).toUInt32 &&& Int32.toUInt32 31)).toInt32 = nI (f8b (f4b (f2b (f1b x)))) := by
    rw [k8, n_ushr (by omega) (by omega), n_add]; rfl
  rw [e8]
  have e16 : nI (f8b (f4b (f2b (f1b x)))) + ((nI (f8b (f4b (f2b (f1b x))))).toUInt32 >>> ((16 : Int32).toUInt32 &&& Int32.toUInt32 31)).toInt32 = nI (f16b (f8b (f4b (f2b (f1b x))))) := by
    rw [k16, n_ushr (by omega) (by omega), n_add]; rfl
  rw [e16, k6, n_and, bc_nat hx]

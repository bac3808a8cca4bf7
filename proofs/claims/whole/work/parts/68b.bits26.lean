/-! ===== 68b: Integer.bitCount of 26 bits ===== -/
theorem f1_t {a y : Nat} (ha : a < 256) (hy : y < 2 ^ 24) : f1b (a + 256 * y) = f1b a + 256 * f1b y := by
  have d : ∀ a, a < 256 → ∀ c, c < 2 → (a / 2 + 128 * c) &&& 85 = (a >>> 1) &&& 1431655765 := by decide +kernel
  have t : ((a + 256 * y) >>> 1) &&& 1431655765 = ((a >>> 1) &&& 1431655765) + 256 * ((y >>> 1) &&& 1431655765) := by
    rw [and_byte, Nat.shiftRight_eq_div_pow (a + 256 * y), ← d a ha (y % 2) (by omega)]
    have e1 : (a + 256 * y) / 2 ^ 1 % 256 = a / 2 + 128 * (y % 2) := by omega
    have e2 : (a + 256 * y) / 2 ^ 1 / 256 = y >>> 1 := by rw [Nat.shiftRight_eq_div_pow]; omega
    rw [e1, e2, show 1431655765 % 256 = 85 from rfl, and_small (y := y >>> 1) (by rw [Nat.shiftRight_eq_div_pow]; omega) 1431655765]
  unfold f1b
  rw [t]
  have h1 : (a >>> 1) &&& 1431655765 ≤ a := Nat.le_trans Nat.and_le_left (by rw [Nat.shiftRight_eq_div_pow]; omega)
  have h2 : (y >>> 1) &&& 1431655765 ≤ y := Nat.le_trans Nat.and_le_left (by rw [Nat.shiftRight_eq_div_pow]; omega)
  omega
theorem f2_t {a y : Nat} (ha : a < 256) (hy : y < 2 ^ 24) : f2b (a + 256 * y) = f2b a + 256 * f2b y := by
  have d : ∀ a, a < 256 → ∀ c, c < 4 → (a / 4 + 64 * c) &&& 51 = (a >>> 2) &&& 858993459 := by decide +kernel
  have d0 : ∀ a, a < 256 → a &&& 51 = a &&& 858993459 := by decide +kernel
  have t : ((a + 256 * y) >>> 2) &&& 858993459 = ((a >>> 2) &&& 858993459) + 256 * ((y >>> 2) &&& 858993459) := by
    rw [and_byte, Nat.shiftRight_eq_div_pow (a + 256 * y), ← d a ha (y % 4) (by omega)]
    have e1 : (a + 256 * y) / 2 ^ 2 % 256 = a / 4 + 64 * (y % 4) := by omega
    have e2 : (a + 256 * y) / 2 ^ 2 / 256 = y >>> 2 := by rw [Nat.shiftRight_eq_div_pow]; omega
    rw [e1, e2, show 858993459 % 256 = 51 from rfl, and_small (y := y >>> 2) (by rw [Nat.shiftRight_eq_div_pow]; omega) 858993459]
  have t0 : (a + 256 * y) &&& 858993459 = (a &&& 858993459) + 256 * (y &&& 858993459) := by
    rw [and_byte, ← d0 a ha]
    have e1 : (a + 256 * y) % 256 = a := by omega
    have e2 : (a + 256 * y) / 256 = y := by omega
    rw [e1, e2, show 858993459 % 256 = 51 from rfl, and_small (y := y) (by omega) 858993459]
  unfold f2b
  rw [t, t0]; omega
theorem allR {n : Nat} {P : Nat → Bool} (h : (List.range n).all P = true) : ∀ i, i < n → P i = true := fun i hi => List.all_eq_true.mp h i (List.mem_range.mpr hi)
theorem f4_c : ((List.range 3).all fun t => (List.range 5).all fun p => (List.range 5).all fun p' => (List.range 5).all fun q => (List.range 5).all fun q' => (List.range 5).all fun r => (List.range 5).all fun r' => Nat.beq (f16b (f8b (f4b ((p + 16 * p') + 256 * ((q + 16 * q') + 256 * ((r + 16 * r') + 256 * t))))) &&& 63) (p + p' + q + q' + r + r' + t)) = true := by decide +kernel
theorem f4_e {t p p' q q' r r' : Nat} (ht : t < 3) (h1 : p < 5) (h2 : p' < 5) (h3 : q < 5) (h4 : q' < 5) (h5 : r < 5) (h6 : r' < 5) : Nat.beq (f16b (f8b (f4b ((p + 16 * p') + 256 * ((q + 16 * q') + 256 * ((r + 16 * r') + 256 * t))))) &&& 63) (p + p' + q + q' + r + r' + t) = true :=
  allR (allR (allR (allR (allR (allR (allR f4_c t ht) p h1) p' h2) q h3) q' h4) r h5) r' h6
theorem f2_g : ∀ a, a < 4 → f2b (f1b a) < 3 ∧ f2b (f1b a) = cnt a.testBit 8 ∧ f1b a < 256 := by decide +kernel
theorem bc_nat26 {x : Nat} (hx : x < 2 ^ 26) : f16b (f8b (f4b (f2b (f1b x)))) &&& 63 = cnt x.testBit 26 := by
  obtain ⟨a, b, c, d, ha, hb, hc, hd, rfl⟩ : ∃ a b c d, a < 256 ∧ b < 256 ∧ c < 256 ∧ d < 4 ∧ x = a + 256 * (b + 256 * (c + 256 * d)) := ⟨x % 256, x / 256 % 256, x / 65536 % 256, x / 16777216, by omega, by omega, by omega, by omega, by omega⟩
  obtain ⟨a1, a2, a3, a4⟩ := f2_d a ha
  obtain ⟨b1, b2, b3, b4⟩ := f2_d b hb
  obtain ⟨c1, c2, c3, c4⟩ := f2_d c hc
  obtain ⟨d1, d2, d3⟩ := f2_g d hd
  have y1 : f1b (c + 256 * d) < 2 ^ 16 := by rw [f1_t hc (by omega)]; omega
  have y2 : f1b (b + 256 * (c + 256 * d)) < 2 ^ 24 := by rw [f1_t hb (by omega)]; omega
  rw [f1_t ha (by omega), f2_t a4 y2, f1_t hb (by omega), f2_t b4 (by omega), f1_t hc (by omega), f2_t c4 (by omega)]
  have hd4 := Nat.eq_of_beq_eq_true (f4_e d1 a1 a2 b1 b2 c1 c2)
  have e1 : f2b (f1b a) % 16 + 16 * (f2b (f1b a) / 16) = f2b (f1b a) := by omega
  have e2 : f2b (f1b b) % 16 + 16 * (f2b (f1b b) / 16) = f2b (f1b b) := by omega
  have e3 : f2b (f1b c) % 16 + 16 * (f2b (f1b c) / 16) = f2b (f1b c) := by omega
  rw [e1, e2, e3] at hd4
  rw [hd4, show 26 = 8 + (8 + (8 + 2)) from rfl, cnt_byte ha, cnt_byte hb, cnt_byte hc, ← a3, ← b3, ← c3]
  have : cnt d.testBit 8 = cnt d.testBit 2 := cnt_more (fun i hi => tb_of_lt (n := 2) hd hi) (by omega)
  rw [← this, ← d2]
  omega
theorem c_bitCount26 {x : Nat} (hx : x < 2 ^ 26) : fp_J6_bitCount_0f7a4 (nI x) = some (nI (cnt x.testBit 26)) := by
  unfold fp_J6_bitCount_0f7a4
  simp only [lett]
  have s1 : f1b x < 2 ^ 26 := Nat.lt_of_le_of_lt f1_le hx
  have s2 : f2b (f1b x) < 2 ^ 27 := by
    unfold f2b
    have h1 : f1b x &&& 858993459 ≤ f1b x := Nat.and_le_left
    have h2 : f1b x >>> 2 &&& 858993459 ≤ f1b x >>> 2 := Nat.and_le_left
    have h3 : f1b x >>> 2 ≤ f1b x := Nat.shiftRight_le _ _
    omega
  have s4 : f4b (f2b (f1b x)) < 2 ^ 28 := by
    unfold f4b
    have h1 : (f2b (f1b x) + f2b (f1b x) >>> 4) &&& 252645135 ≤ f2b (f1b x) + f2b (f1b x) >>> 4 := Nat.and_le_left
    have h3 : f2b (f1b x) >>> 4 ≤ f2b (f1b x) := Nat.shiftRight_le _ _
    omega
  have s8 : f8b (f4b (f2b (f1b x))) < 2 ^ 29 := by
    unfold f8b
    have h3 : f4b (f2b (f1b x)) >>> 8 ≤ f4b (f2b (f1b x)) := Nat.shiftRight_le _ _
    omega
  have k1 : (1431655765 : Int32) = nI 1431655765 := by decide
  have k2 : (858993459 : Int32) = nI 858993459 := by decide
  have k4 : (252645135 : Int32) = nI 252645135 := by decide
  have k6 : (63 : Int32) = nI 63 := by decide
  have k8 : (8 : Int32) = nI 8 := by decide
  have k16 : (16 : Int32) = nI 16 := by decide
  have e1 : nI x - (((nI x).toUInt32 >>> ((1 : Int32).toUInt32 &&& Int32.toUInt32 31)).toInt32 &&& 1431655765) = nI (f1b x) := by
    rw [n_1, n_ushr (by omega) (by omega), k1, n_and, n_sub (Nat.le_trans Nat.and_le_left (Nat.shiftRight_le _ _))]; rfl
  rw [e1]
  have e2 : (nI (f1b x) &&& 858993459) + (((nI (f1b x)).toUInt32 >>> ((2 : Int32).toUInt32 &&& Int32.toUInt32 31)).toInt32 &&& 858993459) = nI (f2b (f1b x)) := by
    rw [n_2, n_ushr (by omega) (by omega), k2, n_and, n_and, n_add]; rfl
  rw [e2]
  have e4 : (nI (f2b (f1b x)) + ((nI (f2b (f1b x))).toUInt32 >>> ((4 : Int32).toUInt32 &&& Int32.toUInt32 31)).toInt32) &&& 252645135 = nI (f4b (f2b (f1b x))) := by
    rw [n_4, n_ushr (by omega) (by omega), n_add, k4, n_and]; rfl
  rw [e4]
  have e8 : nI (f4b (f2b (f1b x))) + ((nI (f4b (f2b (f1b x)))).toUInt32 >>> ((8 : Int32).toUInt32 &&& Int32.toUInt32 31)).toInt32 = nI (f8b (f4b (f2b (f1b x)))) := by
    rw [k8, n_ushr (by omega) (by omega), n_add]; rfl
  rw [e8]
  have e16 : nI (f8b (f4b (f2b (f1b x)))) + ((nI (f8b (f4b (f2b (f1b x))))).toUInt32 >>> ((16 : Int32).toUInt32 &&& Int32.toUInt32 31)).toInt32 = nI (f16b (f8b (f4b (f2b (f1b x))))) := by
    rw [k16, n_ushr (by omega) (by omega), n_add]; rfl
  rw [e16, k6, n_and, bc_nat26 hx]


/-! ===== 42b: longs as naturals ===== -/
def jI (n : Nat) : Int64 := Int64.ofNat n
theorem j_b {n : Nat} (i : Nat) : (jI n).toBitVec.getLsbD i = (decide (i < 64) && n.testBit i) := by
  show (BitVec.ofNat 64 n).getLsbD i = _
  rw [BitVec.getLsbD_ofNat]
theorem j_ext {x : Int64} {n : Nat} (h : ∀ i, i < 64 → x.toBitVec.getLsbD i = n.testBit i) : x = jI n :=
  Int64.toBitVec_inj.mp (BitVec.eq_of_getLsbD_eq (fun i hi => by rw [h i hi, j_b]; simp [hi]))
theorem j_and (a b : Nat) : jI a &&& jI b = jI (a &&& b) := j_ext fun i hi => by rw [Int64.toBitVec_and, BitVec.getLsbD_and, j_b, j_b, Nat.testBit_and]; simp [hi]
theorem j_or (a b : Nat) : jI a ||| jI b = jI (a ||| b) := j_ext fun i hi => by rw [Int64.toBitVec_or, BitVec.getLsbD_or, j_b, j_b, Nat.testBit_or]; simp [hi]
theorem j_sl : ∀ n, n < 64 → (((nI n).toInt64 &&& 63).toBitVec.smod 64).toNat = n := by decide +kernel
theorem j_shl {a b : Nat} (hb : b < 64) : jI a <<< ((nI b).toInt64 &&& 63) = jI (a <<< b) := j_ext fun i hi => by
  rw [Int64.toBitVec_shiftLeft, BitVec.shiftLeft_eq', BitVec.getLsbD_shiftLeft, j_sl b hb, j_b, Nat.testBit_shiftLeft]
  by_cases h : b ≤ i
  · have h1 : ¬ i < b := by omega
    have h2 : i - b < 64 := by omega
    simp [hi, h, h1, h2]
  · have h1 : i < b := by omega
    simp [hi, h, h1]
theorem j_shr {a b : Nat} (ha : a < 2 ^ 63) (hb : b < 64) : jI a >>> ((nI b).toInt64 &&& 63) = jI (a >>> b) := j_ext fun i hi => by
  rw [Int64.toBitVec_shiftRight, BitVec.sshiftRight_eq', BitVec.getLsbD_sshiftRight, j_sl b hb, j_b, Nat.testBit_shiftRight]
  have hm : (jI a).toBitVec.msb = false := by
    rw [BitVec.msb_eq_getLsbD_last, j_b]
    have : a.testBit 63 = false := Nat.testBit_lt_two_pow ha
    simp [this]
  by_cases h : b + i < 64
  · simp [hi, h]
  · have h2 : a.testBit (b + i) = false := Nat.testBit_lt_two_pow (Nat.lt_of_lt_of_le ha (Nat.pow_le_pow_right (by decide) (by omega)))
    simp [hi, h, hm, h2]
theorem j_toInt {n : Nat} (h : n < 2 ^ 63) : (jI n).toInt = n := by
  show (Int64.ofNat n).toInt = _
  rw [Int64.toInt_ofNat_of_lt h]
theorem j_of {a : Nat} (h : a < 2 ^ 31) : (nI a).toInt64 = jI a := by
  apply Int64.toInt_inj.mp
  rw [Int32.toInt_toInt64, nI_toInt h, j_toInt (by omega)]
theorem j_to (a : Nat) : (jI a).toInt32 = nI a := n_ext fun i hi => by
  show ((jI a).toInt32).toBitVec.getLsbD i = _
  rw [Int64.toBitVec_toInt32]
  show (BitVec.signExtend 32 (jI a).toBitVec).getLsbD i = _
  rw [BitVec.getLsbD_signExtend, j_b]
  have : i < 64 := by omega
  simp [hi, this]
theorem j_inj {a b : Nat} (ha : a < 2 ^ 63) (hb : b < 2 ^ 63) (h : jI a = jI b) : a = b := by
  have := congrArg Int64.toInt h
  rw [j_toInt ha, j_toInt hb] at this
  omega
theorem j_eq {a b : Nat} (ha : a < 2 ^ 63) (hb : b < 2 ^ 63) : (jI a = jI b) = (a = b) := propext ⟨j_inj ha hb, fun h => by rw [h]⟩
theorem j_lt {a b : Nat} (ha : a < 2 ^ 63) (hb : b < 2 ^ 63) : (jI a < jI b) = (a < b) := by
  apply propext
  rw [Int64.lt_iff_toInt_lt, j_toInt ha, j_toInt hb]
  omega
theorem j_cmp {a b : Nat} (ha : a < 2 ^ 63) (hb : b < 2 ^ 63) : lg_cmp (jI a) (jI b) = if a = b then 0 else if a < b then -1 else 1 := by
  unfold lg_cmp
  simp only [gt_iff_lt, j_lt hb ha, j_eq ha hb]
  by_cases h : a = b
  · subst h; simp
  · by_cases h2 : a < b
    · have h3 : ¬ b < a := by omega
      simp [h, h2, h3]
    · have h3 : b < a := by omega
      simp [h, h2, h3]
theorem lg_eq (x y : Int64) : (lg_cmp x y = 0) = (x = y) := by
  apply propext
  unfold lg_cmp
  constructor
  · intro h
    split at h
    · cases h
    · split at h
      · assumption
      · cases h
  · intro h
    subst h
    rw [if_neg (by exact Int64.lt_irrefl), if_pos rfl]
theorem j_min {a b : Nat} (ha : a < 2 ^ 63) (hb : b < 2 ^ 63) : kminL (jI a) (jI b) = jI (min a b) := by
  unfold kminL
  simp only [j_lt hb ha]
  by_cases h : b < a
  · rw [if_pos h, Nat.min_eq_right (by omega)]
  · rw [if_neg h, Nat.min_eq_left (by omega)]
theorem j_add (a b : Nat) : jI a + jI b = jI (a + b) := (Int64.ofNat_add a b).symm
theorem j_mul (a b : Nat) : jI a * jI b = jI (a * b) := (Int64.ofNat_mul a b).symm
theorem j_0 : (0 : Int64) = jI 0 := by decide
theorem j_1 : (1 : Int64) = jI 1 := by decide

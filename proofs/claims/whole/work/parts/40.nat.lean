/-! ===== 40: numbers: small ints as naturals ===== -/
theorem n_b {n : Nat} (i : Nat) : (nI n).toBitVec.getLsbD i = (decide (i < 32) && n.testBit i) := by
  show (BitVec.ofNat 32 n).getLsbD i = _
  rw [BitVec.getLsbD_ofNat]
theorem n_ext {x : Int32} {n : Nat} (h : ∀ i, i < 32 → x.toBitVec.getLsbD i = n.testBit i) : x = nI n :=
  Int32.toBitVec_inj.mp (BitVec.eq_of_getLsbD_eq (fun i hi => by rw [h i hi, n_b]; simp [hi]))
theorem n_and (a b : Nat) : nI a &&& nI b = nI (a &&& b) := n_ext fun i hi => by rw [Int32.toBitVec_and, BitVec.getLsbD_and, n_b, n_b, Nat.testBit_and]; simp [hi]
theorem n_or (a b : Nat) : nI a ||| nI b = nI (a ||| b) := n_ext fun i hi => by rw [Int32.toBitVec_or, BitVec.getLsbD_or, n_b, n_b, Nat.testBit_or]; simp [hi]
theorem n_xor (a b : Nat) : nI a ^^^ nI b = nI (a ^^^ b) := n_ext fun i hi => by rw [Int32.toBitVec_xor, BitVec.getLsbD_xor, n_b, n_b, Nat.testBit_xor]; simp [hi]
theorem n_sl : ∀ n, n < 32 → ((nI n &&& 31).toBitVec.smod 32).toNat = n := by decide +kernel
theorem n_shl {a b : Nat} (hb : b < 32) : nI a <<< (nI b &&& 31) = nI (a <<< b) := n_ext fun i hi => by
  rw [Int32.toBitVec_shiftLeft, BitVec.shiftLeft_eq', BitVec.getLsbD_shiftLeft, n_sl b hb, n_b, Nat.testBit_shiftLeft]
  by_cases h : b ≤ i
  · have h1 : ¬ i < b := by omega
    have h2 : i - b < 32 := by omega
    simp [hi, h, h1, h2]
  · have h1 : i < b := by omega
    simp [hi, h, h1]
theorem n_shr {a b : Nat} (ha : a < 2 ^ 31) (hb : b < 32) : nI a >>> (nI b &&& 31) = nI (a >>> b) := n_ext fun i hi => by
  rw [Int32.toBitVec_shiftRight, BitVec.sshiftRight_eq', BitVec.getLsbD_sshiftRight, n_sl b hb, n_b, Nat.testBit_shiftRight]
  have hm : (nI a).toBitVec.msb = false := by
    rw [BitVec.msb_eq_getLsbD_last, n_b]
    have : a.testBit 31 = false := Nat.testBit_lt_two_pow ha
    simp [this]
  by_cases h : b + i < 32
  · simp [hi, h]
  · have h2 : a.testBit (b + i) = false := Nat.testBit_lt_two_pow (Nat.lt_of_lt_of_le ha (Nat.pow_le_pow_right (by decide) (by omega)))
    simp [hi, h, hm, h2]
theorem n_andn (a b : Nat) : nI a &&& (nI b ^^^ (-1)) = nI (a &&& (a ^^^ b)) := n_ext fun i hi => by
  have hm : ∀ i, i < 32 → ((-1 : Int32).toBitVec.getLsbD i) = true := by decide +kernel
  rw [Int32.toBitVec_and, BitVec.getLsbD_and, Int32.toBitVec_xor, BitVec.getLsbD_xor, n_b, n_b, hm i hi, Nat.testBit_and, Nat.testBit_xor]
  simp only [hi, decide_true, Bool.true_and]
  cases a.testBit i <;> cases b.testBit i <;> rfl
theorem n_ofNat (n : Nat) : Int32.ofNat n = nI n := rfl
theorem n_neg {a : Nat} (h : a < 2 ^ 31) : (nI a = -1) = False := by
  apply propext
  constructor
  · intro e
    have := congrArg Int32.toInt e
    rw [nI_toInt h] at this
    have h2 : (-1 : Int32).toInt = -1 := by decide
    omega
  · exact False.elim
theorem n_lt0 {a : Nat} (h : a < 2 ^ 31) : (nI a < 0) = False := propext ⟨fun e => nI_pos h e, False.elim⟩
theorem n_0 : (0 : Int32) = nI 0 := by decide
theorem n_1 : (1 : Int32) = nI 1 := by decide
theorem n_2 : (2 : Int32) = nI 2 := by decide
theorem n_3 : (3 : Int32) = nI 3 := by decide
theorem n_4 : (4 : Int32) = nI 4 := by decide
theorem n_5 : (5 : Int32) = nI 5 := by decide
theorem n_6 : (6 : Int32) = nI 6 := by decide
theorem n_7 : (7 : Int32) = nI 7 := by decide
theorem n_8 : (8 : Int32) = nI 8 := by decide
theorem n_9 : (9 : Int32) = nI 9 := by decide
theorem n_lt {a b : Nat} (ha : a < 2 ^ 31) (hb : b < 2 ^ 31) : (nI a < nI b) = (a < b) := propext (nI_ltI ha hb)
theorem n_le {a b : Nat} (ha : a < 2 ^ 31) (hb : b < 2 ^ 31) : (nI a ≤ nI b) = (a ≤ b) := propext (nI_leI ha hb)
theorem n_eq {a b : Nat} (ha : a < 2 ^ 31) (hb : b < 2 ^ 31) : (nI a = nI b) = (a = b) := propext (nI_eq ha hb)
theorem n_add (a b : Nat) : nI a + nI b = nI (a + b) := nI_add a b
theorem n_mul (a b : Nat) : nI a * nI b = nI (a * b) := pk_mul a b
theorem n_sub {a b : Nat} (h : b ≤ a) : nI a - nI b = nI (a - b) := pk_sub h
theorem n_div {a d : Nat} (ha : a < 2 ^ 31) (h0 : 0 < d) (hd : d < 2 ^ 31) : nI a / nI d = nI (a / d) := pk_div ha h0 hd
theorem n_rem {a d : Nat} (ha : a < 2 ^ 31) (h0 : 0 < d) (hd : d < 2 ^ 31) : nI a - nI a / nI d * nI d = nI (a % d) := pk_rem ha h0 hd
theorem n_clamp {a : Nat} (h : a < 2 ^ 31) : (nI a).toNatClampNeg = a := nI_clamp h
theorem n_min {a b : Nat} (ha : a < 2 ^ 31) (hb : b < 2 ^ 31) : kmin (nI a) (nI b) = nI (min a b) := by
  unfold kmin
  simp only [n_lt hb ha]
  by_cases h : b < a
  · rw [if_pos h, Nat.min_eq_right (by omega)]
  · rw [if_neg h, Nat.min_eq_left (by omega)]
theorem n_max {a b : Nat} (ha : a < 2 ^ 31) (hb : b < 2 ^ 31) : kmax (nI a) (nI b) = nI (max a b) := by
  unfold kmax
  simp only [n_lt ha hb]
  by_cases h : a < b
  · rw [if_pos h, Nat.max_eq_right (by omega)]
  · rw [if_neg h, Nat.max_eq_left (by omega)]
/-- an int below nothing is a natural -/
theorem n_of {x : Int32} (h : ¬ x < 0) : ∃ j : Nat, j < 2 ^ 31 ∧ x = nI j := nI_of h

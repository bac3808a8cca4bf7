/-! ===== 65: quotients as floats ===== -/
def Fq (M k : Nat) : FP.Core.Datum := .fin false M ((k : Int) - 150)
def okF (M k : Nat) : Prop := 2 ^ 23 ≤ M ∧ M < 2 ^ 24 ∧ 100 < k ∧ k < 160
theorem Fq_fits {M k : Nat} (h : okF M k) : FP.Core.fits FP.Core.b32 (Fq M k) := by
  obtain ⟨h1, h2, h3, h4⟩ := h
  have q1 : FP.Core.b32.qmin = -149 := by decide
  have q2 : FP.Core.b32.qmax = 104 := by decide
  have q3 : FP.Core.b32.p = 24 := rfl
  have q4 : FP.Core.b32.tails = 2 ^ 23 := by decide
  refine ⟨by rw [q3]; exact h2, by rw [q1]; omega, by rw [q2]; omega, Or.inr (by rw [q4]; exact h1)⟩
/-- the bits of such a float -/
def bitsF (M k : Nat) : Nat := k * 2 ^ 23 + (M - 2 ^ 23)
theorem Fq_enc {M k : Nat} (h : okF M k) : FP.Core.encode FP.Core.b32 (Fq M k) = bitsF M k := by
  obtain ⟨h1, h2, h3, h4⟩ := h
  have q1 : FP.Core.b32.qmin = -149 := by decide
  have q4 : FP.Core.b32.tails = 2 ^ 23 := by decide
  have q5 : FP.Core.b32.exps = 256 := by decide
  unfold Fq FP.Core.encode bitsF
  dsimp only
  rw [q4, if_neg (by omega), q1]
  unfold FP.Core.assemble
  rw [q4, q5]
  have : ((k : Int) - 150 - -149).toNat + 1 = k := by omega
  rw [this]
  simp
theorem bitsF_lt {M k : Nat} (h : okF M k) : bitsF M k < 2 ^ 31 ∧ bitsF M k ≤ 2139095040 := by
  obtain ⟨h1, h2, h3, h4⟩ := h
  unfold bitsF
  omega
theorem Fq_v {M k : Nat} {v : UInt32} (h : okF M k) (hv : FP.Core.val32 v = Fq M k) : v = UInt32.ofNat (bitsF M k) := by
  have := FP.Core.of32_val32 (a := v) (by rw [hv]; exact fun z => by cases z)
  rw [hv] at this
  unfold FP.Core.of32 at this
  rw [Fq_enc h] at this
  exact this.symm
theorem zfl_ok {v : UInt32} (h : v.toNat ≤ 2139095040) : zfl v = some v := by
  unfold zfl
  rw [if_pos]
  rw [UInt32.le_iff_toNat_le, UInt32.toNat_and]
  exact Nat.le_trans Nat.and_le_left h
theorem Fq_zfl {M k : Nat} {v : UInt32} (h : okF M k) (hv : FP.Core.val32 v = Fq M k) : zfl v = some v := by
  apply zfl_ok
  have hb := bitsF_lt h
  rw [Fq_v h hv, UInt32.toNat_ofNat_of_lt' (by show _ < 2 ^ 32; omega)]
  exact hb.2
theorem v_0 : FP.Core.val32 FP.fconst0 = .fin false 0 (-149) := by decide +kernel
theorem v_1 : FP.Core.val32 FP.fconst1 = .fin false (2 ^ 23) (-23) := by decide +kernel
theorem v_2 : FP.Core.val32 FP.fconst2 = .fin false (2 ^ 23) (-22) := by decide +kernel
theorem v_m : FP.Core.val32 1258291200 = .fin false (2 ^ 23) 0 := by decide +kernel
/-- the order of two numbers that are not below 0 -/
theorem ord_lt {c d : Nat} {q r e : Int} (hq : e ≤ q) (hr : e ≤ r) : FP.Core.order (.fin false c q) (.fin false d r) = some (compare ((c * 2 ^ (q - e).toNat : Nat) : Int) ((d * 2 ^ (r - e).toNat : Nat) : Int)) := by
  show some (compare (FP.Core.signed false (FP.Core.inUnits c q (min q r))) (FP.Core.signed false (FP.Core.inUnits d r (min q r)))) = _
  congr 1
  unfold FP.Core.signed FP.Core.inUnits
  simp only [Bool.false_eq_true, if_false]
  obtain ⟨t, ht⟩ : ∃ t : Nat, min q r = e + t := ⟨(min q r - e).toNat, by omega⟩
  have e1 : (q - e).toNat = (q - min q r).toNat + t := by omega
  have e2 : (r - e).toNat = (r - min q r).toNat + t := by omega
  rw [e1, e2, Nat.pow_add, Nat.pow_add, ← Nat.mul_assoc, ← Nat.mul_assoc]
  generalize c * 2 ^ (q - min q r).toNat = x
  generalize d * 2 ^ (r - min q r).toNat = y
  have hp : (0 : Nat) < 2 ^ t := Nat.two_pow_pos t
  generalize 2 ^ t = z at hp
  by_cases h1 : x < y
  · rw [show compare (x : Int) (y : Int) = .lt from by rw [Int.compare_eq_lt]; omega, show compare ((x * z : Nat) : Int) ((y * z : Nat) : Int) = .lt from by rw [Int.compare_eq_lt]; exact Int.ofNat_lt.mpr (Nat.mul_lt_mul_of_pos_right h1 hp)]
  · by_cases h2 : x = y
    · subst h2
      rw [show compare (x : Int) (x : Int) = .eq from by rw [Int.compare_eq_eq], show compare ((x * z : Nat) : Int) ((x * z : Nat) : Int) = .eq from by rw [Int.compare_eq_eq]]
    · have h3 : y < x := by omega
      rw [show compare (x : Int) (y : Int) = .gt from by rw [Int.compare_eq_gt]; omega, show compare ((x * z : Nat) : Int) ((y * z : Nat) : Int) = .gt from by rw [Int.compare_eq_gt]; exact Int.ofNat_lt.mpr (Nat.mul_lt_mul_of_pos_right h3 hp)]
theorem cmp_of {v w : UInt32} {x y : Nat} {o : CmpOp} (h : FP.Core.order (FP.Core.val32 v) (FP.Core.val32 w) = some (compare (x : Int) (y : Int))) : Op.cmpValue (FP.fcmp v w) o = if x < y then -1 else if x = y then 0 else 1 := by
  have e : FP.fcmp v w = some (compare (x : Int) (y : Int)) := h
  rw [e]
  by_cases h1 : x < y
  · rw [if_pos h1, show compare (x : Int) (y : Int) = .lt from by rw [Int.compare_eq_lt]; omega]; rfl
  · rw [if_neg h1]
    by_cases h2 : x = y
    · rw [if_pos h2, show compare (x : Int) (y : Int) = .eq from by rw [Int.compare_eq_eq]; omega]; rfl
    · rw [if_neg h2, show compare (x : Int) (y : Int) = .gt from by rw [Int.compare_eq_gt]; omega]; rfl
theorem Fq_0 {M k : Nat} {v : UInt32} (h : okF M k) (hv : FP.Core.val32 v = Fq M k) : Op.cmpValue (FP.fcmp v FP.fconst0) .l > 0 := by
  obtain ⟨h1, h2, h3, h4⟩ := h
  rw [cmp_of (x := M * 2 ^ (((k : Int) - 150) - (-149)).toNat) (y := 0 * 2 ^ ((-149 : Int) - (-149)).toNat) (by rw [hv, v_0]; exact ord_lt (by omega) (by omega))]
  have hp : 0 < M * 2 ^ (((k : Int) - 150) - (-149)).toNat := Nat.mul_pos (by omega) (Nat.two_pow_pos _)
  rw [Nat.zero_mul, if_neg (by omega), if_neg (by omega)]
  decide
theorem Fq_2 {M k : Nat} {v : UInt32} (h : okF M k) (hv : FP.Core.val32 v = Fq M k) : (Op.cmpValue (FP.fcmp v FP.fconst2) .l < 0) = (k < 128) := by
  obtain ⟨h1, h2, h3, h4⟩ := h
  rw [cmp_of (x := M * 2 ^ (((k : Int) - 150) - (-149)).toNat) (y := 2 ^ 23 * 2 ^ ((-22 : Int) - (-149)).toNat) (by rw [hv, v_2]; exact ord_lt (by omega) (by omega))]
  have e1 : (((k : Int) - 150) - (-149)).toNat = k - 1 := by omega
  have e2 : ((-22 : Int) - (-149)).toNat = 127 := by decide
  rw [e1, e2]
  by_cases hk : k < 128
  · have : M * 2 ^ (k - 1) < 2 ^ 23 * 2 ^ 127 := by
      have a1 : M * 2 ^ (k - 1) < 2 ^ 24 * 2 ^ (k - 1) := Nat.mul_lt_mul_of_pos_right h2 (Nat.two_pow_pos _)
      have a2 : (2 : Nat) ^ 24 * 2 ^ (k - 1) ≤ 2 ^ 24 * 2 ^ 126 := Nat.mul_le_mul_left _ (Nat.pow_le_pow_right (by decide) (by omega))
      have a3 : (2 : Nat) ^ 24 * 2 ^ 126 = 2 ^ 23 * 2 ^ 127 := by decide
      omega
    rw [if_pos this]
    exact propext ⟨fun _ => hk, fun _ => by decide⟩
  · have : 2 ^ 23 * 2 ^ 127 ≤ M * 2 ^ (k - 1) := Nat.mul_le_mul h1 (Nat.pow_le_pow_right (by decide) (by omega))
    rw [if_neg (by omega)]
    refine propext ⟨fun q => ?_, fun q => absurd q hk⟩
    split at q <;> exact absurd q (by decide)
theorem Fq_1 {M k : Nat} {v : UInt32} (h : okF M k) (hv : FP.Core.val32 v = Fq M k) : (Op.cmpValue (FP.fcmp v FP.fconst1) .g ≥ 0) = (127 ≤ k) := by
  obtain ⟨h1, h2, h3, h4⟩ := h
  rw [cmp_of (x := M * 2 ^ (((k : Int) - 150) - (-149)).toNat) (y := 2 ^ 23 * 2 ^ ((-23 : Int) - (-149)).toNat) (by rw [hv, v_1]; exact ord_lt (by omega) (by omega))]
  have e1 : (((k : Int) - 150) - (-149)).toNat = k - 1 := by omega
  have e2 : ((-23 : Int) - (-149)).toNat = 126 := by decide
  rw [e1, e2]
  by_cases hk : k < 127
  · have : M * 2 ^ (k - 1) < 2 ^ 23 * 2 ^ 126 := by
      have a1 : M * 2 ^ (k - 1) < 2 ^ 24 * 2 ^ (k - 1) := Nat.mul_lt_mul_of_pos_right h2 (Nat.two_pow_pos _)
      have a2 : (2 : Nat) ^ 24 * 2 ^ (k - 1) ≤ 2 ^ 24 * 2 ^ 125 := Nat.mul_le_mul_left _ (Nat.pow_le_pow_right (by decide) (by omega))
      have a3 : (2 : Nat) ^ 24 * 2 ^ 125 = 2 ^ 23 * 2 ^ 126 := by decide
      omega
    rw [if_pos this]
    exact propext ⟨fun q => absurd q (by decide), fun q => by omega⟩
  · have : 2 ^ 23 * 2 ^ 126 ≤ M * 2 ^ (k - 1) := Nat.mul_le_mul h1 (Nat.pow_le_pow_right (by decide) (by omega))
    rw [if_neg (by omega)]
    refine propext ⟨fun _ => by omega, fun _ => ?_⟩
    split <;> decide
theorem Fq_half {M k : Nat} {v : UInt32} (h : okF M (k - 1)) (hk : 1 ≤ k) (hv : FP.Core.val32 v = Fq M k) : FP.Core.val32 (FP.fdiv v FP.fconst2) = Fq M (k - 1) := by
  have e : FP.Core.val32 (FP.fdiv v FP.fconst2) = FP.Core.quotient FP.Core.b32 (FP.Core.val32 v) (FP.Core.val32 FP.fconst2) := FP.Core.val32_fdiv _ _
  have e3 : FP.Core.quotient FP.Core.b32 (Fq M k) (.fin false (2 ^ 23) (-22)) = FP.Core.roundRatio FP.Core.b32 false M (2 ^ 23) (((k : Int) - 150) - (-22)) := by
    unfold Fq FP.Core.quotient
    dsimp only
    rw [if_neg (by decide)]
    rfl
  rw [e, hv, v_2, e3]
  have hf := Fq_fits h
  unfold Fq at hf ⊢
  refine FP.Core.roundRatio_exact FP.Core.good_b32 (by decide) hf ?_
  have e1 : (((k : Int) - 150) - (-22) - (((k - 1 : Nat) : Int) - 150)).toNat = 23 := by omega
  have e2 : ((((k - 1 : Nat) : Int) - 150) - (((k : Int) - 150) - (-22))).toNat = 0 := by omega
  rw [e1, e2, Nat.pow_zero, Nat.mul_one]
theorem Fq_twice {M k : Nat} {v : UInt32} (h : okF M (k + 1)) (hv : FP.Core.val32 v = Fq M k) : FP.Core.val32 (FP.fmul v FP.fconst2) = Fq M (k + 1) := by
  have e : FP.Core.val32 (FP.fmul v FP.fconst2) = FP.Core.round FP.Core.b32 (FP.Core.exactProduct (FP.Core.val32 v) (FP.Core.val32 FP.fconst2)) := FP.Core.val32_fmul _ _
  rw [e, hv, v_2]
  show FP.Core.roundRatio FP.Core.b32 false (M * 2 ^ 23) 1 (((k : Int) - 150) + (-22)) = _
  have hf := Fq_fits h
  unfold Fq at hf ⊢
  refine FP.Core.roundRatio_exact FP.Core.good_b32 (by decide) hf ?_
  have e1 : (((k : Int) - 150) + (-22) - (((k + 1 : Nat) : Int) - 150)).toNat = 0 := by omega
  have e2 : ((((k + 1 : Nat) : Int) - 150) - (((k : Int) - 150) + (-22))).toNat = 23 := by omega
  rw [e1, e2, Nat.pow_zero, Nat.mul_one, Nat.mul_one]
theorem Fq_whole {M : Nat} {v : UInt32} (h : okF M 127) (hv : FP.Core.val32 v = Fq M 127) : FP.Core.val32 (FP.fmul v 1258291200) = Fq M 150 := by
  have e : FP.Core.val32 (FP.fmul v 1258291200) = FP.Core.round FP.Core.b32 (FP.Core.exactProduct (FP.Core.val32 v) (FP.Core.val32 1258291200)) := FP.Core.val32_fmul _ _
  rw [e, hv, v_m]
  show FP.Core.roundRatio FP.Core.b32 false (M * 2 ^ 23) 1 ((((127 : Nat) : Int) - 150) + 0) = _
  obtain ⟨h1, h2, h3, h4⟩ := h
  have hf := Fq_fits (M := M) (k := 150) ⟨h1, h2, by decide, by decide⟩
  unfold Fq at hf ⊢
  refine FP.Core.roundRatio_exact FP.Core.good_b32 (by decide) hf ?_
  have e1 : ((((127 : Nat) : Int) - 150) + 0 - (((150 : Nat) : Int) - 150)).toNat = 0 := by decide
  have e2 : ((((150 : Nat) : Int) - 150) - ((((127 : Nat) : Int) - 150) + 0)).toNat = 23 := by decide
  rw [e1, e2, Nat.pow_zero, Nat.mul_one, Nat.mul_one]
theorem Fq_f2i {M : Nat} {v : UInt32} (h2 : M < 2 ^ 24) (hv : FP.Core.val32 v = Fq M 150) : FP.f2i v = nI M := by
  have e : FP.f2i v = FP.Core.toI (FP.Core.val32 v) := rfl
  rw [e, hv]
  have e2 : FP.Core.toI (Fq M 150) = Int32.ofInt (max (-2 ^ 31) (min (2 ^ 31 - 1) (FP.Core.truncate false M (((150 : Nat) : Int) - 150)))) := rfl
  rw [e2]
  have e3 : FP.Core.truncate false M (((150 : Nat) : Int) - 150) = (M : Int) := by
    unfold FP.Core.truncate FP.Core.signed
    have z1 : (((150 : Nat) : Int) - 150).toNat = 0 := by decide
    have z2 : (-(((150 : Nat) : Int) - 150)).toNat = 0 := by decide
    rw [z1, z2]
    simp
  rw [e3, show max (-2 ^ 31) (min (2 ^ 31 - 1) (M : Int)) = (M : Int) by omega]
  rfl
/-- the class' bits are the float's own -/
theorem c_bitsOf {M k : Nat} {v : UInt32} (h : okF M k) (hv : FP.Core.val32 v = Fq M k) : fp_X10_bitsOf v = some (nI (bitsF M k)) := by
  obtain ⟨h1, h2, h3, h4⟩ := id h
  unfold fp_X10_bitsOf
  rw [if_pos (Fq_0 h hv)]
  have e127 : (127 : Int32) = nI 127 := by decide
  have e126 : (126 : Int32) = nI 126 := by decide
  obtain ⟨K2, hK2⟩ : ∃ K2 : UInt32 → Int32 → Option Int32, K2 = fun (v1_5 : UInt32) (v2_6 : Int32) => (zfl (FP.fmul v1_5 1258291200)).bind fun (y7 : UInt32) => some ((v2_6 <<< (23 &&& 31)) ||| ((FP.f2i y7) &&& 8388607)) := ⟨_, rfl⟩
  have last : ∀ v, FP.Core.val32 v = Fq M 127 → K2 v (nI k) = some (nI (bitsF M k)) := by
    intro v hv
    have hw := Fq_whole ⟨h1, h2, by decide, by decide⟩ hv
    rw [hK2]
    dsimp only
    rw [Fq_zfl ⟨h1, h2, by decide, by decide⟩ hw, Option.bind_some, Fq_f2i h2 hw, show (23 : Int32) &&& 31 = nI 23 &&& 31 from by decide, n_shl (by omega), show (8388607 : Int32) = nI (2 ^ 23 - 1) from by decide, n_and, Nat.and_two_pow_sub_one_eq_mod, n_or]
    have hm : M % 2 ^ 23 = M - 2 ^ 23 := by omega
    have hb : k <<< 23 ||| M % 2 ^ 23 = bitsF M k := by
      unfold bitsF
      rw [hm, ← Nat.shiftLeft_add_eq_or_of_lt (by omega), Nat.shiftLeft_eq]
    rw [hb]
  -- doubled while it is less than 1
  have up2 : ∀ d c v f n3, c + d = 127 → d < f → 100 < c → n3 + d < 126 → FP.Core.val32 v = Fq M c → fp_X10_bitsOf_L42 K2 f v (nI (k + d)) (nI n3) = some (nI (bitsF M k)) := by
    intro d
    induction d with
    | zero =>
      intro c v f n3 a1 a2 a3 a4 hv
      obtain ⟨f, rfl⟩ : ∃ g, f = g + 1 := ⟨f - 1, by omega⟩
      have : c = 127 := by omega
      subst this
      rw [fp_X10_bitsOf_L42, e126, go (by omega) (by omega), if_pos (by rw [Fq_1 ⟨h1, h2, by decide, by decide⟩ hv]; omega)]
      exact last v hv
    | succ d ih =>
      intro c v f n3 a1 a2 a3 a4 hv
      obtain ⟨f, rfl⟩ : ∃ g, f = g + 1 := ⟨f - 1, by omega⟩
      have hc : okF M c := ⟨h1, h2, by omega, by omega⟩
      have hc1 : okF M (c + 1) := ⟨h1, h2, by omega, by omega⟩
      have h2v := Fq_twice hc1 hv
      rw [fp_X10_bitsOf_L42, e126, go (by omega) (by omega), if_neg (by rw [Fq_1 hc hv]; omega), Fq_zfl hc1 h2v, Option.bind_some, show k + (d + 1) = (k + d) + 1 by omega, n_dec, inc]
      exact ih (c + 1) _ f (n3 + 1) (by omega) (by omega) (by omega) (by omega) h2v
  -- halved while it is 2 or more
  have dn : ∀ d c v f n3 n2, c = 127 + d → n2 + d = k → 127 ≤ n2 → d < f → n3 + d < 127 → FP.Core.val32 v = Fq M c → fp_X10_bitsOf_L15 (fun v1_2 v2_3 => fp_X10_bitsOf_L42 K2 FU v1_2 v2_3 0) f v (nI n2) (nI n3) = some (nI (bitsF M k)) := by
    intro d
    induction d with
    | zero =>
      intro c v f n3 n2 a1 a2 a5 a3 a4 hv2
      obtain ⟨f, rfl⟩ : ∃ g, f = g + 1 := ⟨f - 1, by omega⟩
      have : c = 127 := by omega
      subst this
      have e5 : n2 = k := by omega
      rw [fp_X10_bitsOf_L15, e127, go (by omega) (by omega), if_pos (by rw [Fq_2 ⟨h1, h2, by decide, by decide⟩ hv2]; omega), n_0, e5]
      exact up2 0 127 v FU 0 (by omega) (FU_gt (by omega)) (by decide) (by omega) hv2
    | succ d ih =>
      intro c v f n3 n2 a1 a2 a5 a3 a4 hv2
      obtain ⟨f, rfl⟩ : ∃ g, f = g + 1 := ⟨f - 1, by omega⟩
      have hc : okF M c := ⟨h1, h2, by omega, by omega⟩
      have hc1 : okF M (c - 1) := ⟨h1, h2, by omega, by omega⟩
      have h2v := Fq_half hc1 (by omega) hv2
      rw [fp_X10_bitsOf_L15, e127, go (by omega) (by omega), if_neg (by rw [Fq_2 hc hv2]; omega), Fq_zfl hc1 h2v, Option.bind_some, inc, inc]
      exact ih (c - 1) _ f (n3 + 1) (n2 + 1) (by omega) (by omega) (by omega) (by omega) (by omega) h2v
  rw [← hK2, e127, n_0]
  by_cases hk : 127 ≤ k
  · have := dn (k - 127) k v FU 0 127 (by omega) (by omega) (by omega) (FU_gt (by omega)) (by omega) hv
    rw [n_0] at this
    exact this
  · rw [show FU = 999999999 + 1 from rfl, fp_X10_bitsOf_L15, e127, go (by omega) (by omega), if_pos (by rw [Fq_2 h hv]; omega)]
    have := up2 (127 - k) k v FU 0 (by omega) (FU_gt (by omega)) h3 (by omega) hv
    rw [show k + (127 - k) = 127 by omega] at this
    exact this

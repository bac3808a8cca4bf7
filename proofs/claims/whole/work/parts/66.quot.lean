/-! ===== 66: the class' quotients and the reference's ===== -/
theorem j_sub {a b : Nat} (h : b ≤ a) : jI a - jI b = jI (a - b) := by
  obtain ⟨d, rfl⟩ : ∃ d, a = b + d := ⟨a - b, by omega⟩
  rw [← j_add, Nat.add_sub_cancel_left, Int64.add_comm (jI b), Int64.add_sub_cancel]
theorem j_div {a d : Nat} (ha : a < 2 ^ 63) (h0 : 0 < d) (hd : d < 2 ^ 63) : jI a / jI d = jI (a / d) := by
  apply Int64.toInt_inj.mp
  have hne : jI d ≠ -1 := by
    intro h
    have := congrArg Int64.toInt h
    rw [j_toInt hd] at this
    have h2 : (-1 : Int64).toInt = -1 := by decide
    omega
  rw [Int64.toInt_div_of_ne_right _ _ hne, j_toInt ha, j_toInt hd, j_toInt (Nat.lt_of_le_of_lt (Nat.div_le_self a d) ha)]
  rw [Int.tdiv_eq_ediv_of_nonneg (by omega)]
  exact (Int.natCast_ediv _ _).symm
theorem j_rem {a d : Nat} (ha : a < 2 ^ 63) (h0 : 0 < d) (hd : d < 2 ^ 63) : jI a - jI a / jI d * jI d = jI (a % d) := by
  rw [j_div ha h0 hd, j_mul, j_sub (Nat.div_mul_le_self a d)]
  exact congrArg jI (by have := Nat.div_add_mod' a d; omega)
theorem j_ltz {a b : Nat} (ha : a < 2 ^ 63) (hb : b < 2 ^ 63) : (lg_cmp (jI a) (jI b) < 0) = (a < b) := by
  rw [j_cmp ha hb]
  apply propext
  by_cases h : a = b
  · rw [if_pos h]; exact ⟨fun q => absurd q (by decide), fun q => by omega⟩
  · rw [if_neg h]
    by_cases h2 : a < b
    · rw [if_pos h2]; exact ⟨fun _ => h2, fun _ => by decide⟩
    · rw [if_neg h2]; exact ⟨fun q => absurd q (by decide), fun q => absurd q h2⟩
theorem j_gez {a b : Nat} (ha : a < 2 ^ 63) (hb : b < 2 ^ 63) : (lg_cmp (jI a) (jI b) ≥ 0) = (b ≤ a) := by
  rw [j_cmp ha hb]
  apply propext
  by_cases h : a = b
  · rw [if_pos h]; exact ⟨fun _ => by omega, fun _ => by decide⟩
  · rw [if_neg h]
    by_cases h2 : a < b
    · rw [if_pos h2]; exact ⟨fun q => absurd q (by decide), fun q => by omega⟩
    · rw [if_neg h2]; exact ⟨fun _ => by omega, fun _ => by decide⟩
theorem j_gtz {a b : Nat} (ha : a < 2 ^ 63) (hb : b < 2 ^ 63) : (lg_cmp (jI a) (jI b) > 0) = (b < a) := by
  rw [j_cmp ha hb]
  apply propext
  by_cases h : a = b
  · rw [if_pos h]; exact ⟨fun q => absurd q (by decide), fun q => by omega⟩
  · rw [if_neg h]
    by_cases h2 : a < b
    · rw [if_pos h2]; exact ⟨fun q => absurd q (by decide), fun q => by omega⟩
    · rw [if_neg h2]; exact ⟨fun _ => by omega, fun _ => by decide⟩
theorem j_nez {a b : Nat} (ha : a < 2 ^ 63) (hb : b < 2 ^ 63) : (lg_cmp (jI a) (jI b) ≠ 0) = (a ≠ b) := by
  rw [ne_eq, lg_eq, j_eq ha hb]
/-- the rounded quotient, its digits -/
theorem rr_F {A B k : Nat} {e : Int} (hB : 0 < B) (hB2 : B ≤ 2 ^ 23) (h1 : B ≤ A) (h2 : A < 2 * B) (he : (k : Int) = e + 127) (hk : 100 < k) (hk2 : k < 160) : okF (FP.Core.nearest (A * 2 ^ 23) B) k ∧ FP.Core.roundRatio FP.Core.b32 false A B e = Fq (FP.Core.nearest (A * 2 ^ 23) B) k := by
  have q1 : FP.Core.b32.qmin = -149 := by decide
  have q2 : FP.Core.b32.qmax = 104 := by decide
  have q3 : FP.Core.b32.p = 24 := rfl
  have m1 : 2 ^ 23 ≤ FP.Core.nearest (A * 2 ^ 23) B := FP.Core.nearest_ge hB (by rw [Nat.mul_comm]; exact Nat.mul_le_mul_right _ h1)
  have m2 : FP.Core.nearest (A * 2 ^ 23) B ≤ 2 ^ 24 - 1 := FP.Core.nearest_le hB (by
    have : (2 ^ 24 - 1) * B = 2 ^ 24 * B - B := by rw [Nat.sub_mul, Nat.one_mul]
    rw [this]
    have : A * 2 ^ 23 ≤ (2 * B - 1) * 2 ^ 23 := Nat.mul_le_mul_right _ (by omega)
    omega)
  have hok : okF (FP.Core.nearest (A * 2 ^ 23) B) k := ⟨m1, by omega, hk, hk2⟩
  refine ⟨hok, ?_⟩
  have hq : FP.Core.quantum FP.Core.b32 A B e = e - 23 := by
    refine FP.Core.quantum_eq (by omega) hB (by rw [q1]; omega) ?_ (Or.inr ?_)
    · rw [q3, show e - 23 - e + ((24 : Nat) : Int) = 1 by omega]
      show A * 2 ^ 0 < B * 2 ^ 1
      omega
    · rw [q3, show e - 23 - e + (((24 : Nat) : Int) - 1) = 0 by omega]
      show ¬ A * 2 ^ 0 < B * 2 ^ 0
      omega
  unfold FP.Core.roundRatio
  rw [if_neg (by omega), hq]
  unfold FP.Core.roundAt FP.Core.unitsNum FP.Core.unitsDen
  rw [show (e - (e - 23)).toNat = 23 by omega, show (e - 23 - e).toNat = 0 by omega, Nat.pow_zero, Nat.mul_one]
  unfold FP.Core.settle FP.Core.bound
  rw [q3, if_pos (by omega), q2, if_pos (by omega)]
  unfold Fq
  rw [show e - 23 = (k : Int) - 150 by omega]
theorem i2f_d : ∀ a, a < 1024 → 0 < a → FP.Core.val32 (FP.i2f (nI a)) = .fin false (a * 2 ^ (23 - a.log2)) ((a.log2 : Int) - 23) := by decide +kernel
theorem log_le : ∀ a, a < 1024 → a.log2 ≤ 9 := by decide +kernel
/-- what both come to: a quotient brought between 1 and 2 -/
def nrm (a b i j : Nat) : Prop := i ≤ 10 ∧ j ≤ 10 ∧ (i = 0 ∨ j = 0) ∧ b * 2 ^ i ≤ a * 2 ^ j ∧ a * 2 ^ j < 2 * (b * 2 ^ i)
def qbits (a b i j : Nat) : Nat := bitsF (FP.Core.nearest (a * 2 ^ j * 2 ^ 23) (b * 2 ^ i)) (127 + i - j)
theorem c_ratio {a b i j : Nat} {w : Int32} (ha : 0 < a) (ha2 : a < 1000) (hb : 0 < b) (hb2 : b < 1000) (h : nrm a b i j) : ∃ v, fp_X10_ratio (nI a) (nI b) w = some v ∧ fp_X10_bitsOf v = some (nI (qbits a b i j)) := by
  obtain ⟨n1, n2, n3, n4, n5⟩ := h
  have hB2 : b * 2 ^ i ≤ 2 ^ 20 := by
    have : (2 : Nat) ^ i ≤ 2 ^ 10 := Nat.pow_le_pow_right (by decide) n1
    calc b * 2 ^ i ≤ 1000 * 2 ^ 10 := Nat.mul_le_mul (by omega) this
      _ ≤ 2 ^ 20 := by decide
  have hB0 : 0 < b * 2 ^ i := Nat.mul_pos hb (Nat.two_pow_pos _)
  obtain ⟨r1, r2⟩ := rr_F (A := a * 2 ^ j) (B := b * 2 ^ i) (k := 127 + i - j) (e := (i : Int) - j) hB0 (by omega) n4 n5 (by omega) (by omega) (by omega)
  have hv : FP.Core.val32 (FP.fdiv (FP.i2f (nI a)) (FP.i2f (nI b))) = Fq (FP.Core.nearest (a * 2 ^ j * 2 ^ 23) (b * 2 ^ i)) (127 + i - j) := by
    have e : FP.Core.val32 (FP.fdiv (FP.i2f (nI a)) (FP.i2f (nI b))) = FP.Core.quotient FP.Core.b32 (FP.Core.val32 (FP.i2f (nI a))) (FP.Core.val32 (FP.i2f (nI b))) := FP.Core.val32_fdiv _ _
    rw [e, i2f_d a (by omega) ha, i2f_d b (by omega) hb, ← r2]
    have la := log_le a (by omega)
    have lb := log_le b (by omega)
    have hbp : 0 < b * 2 ^ (23 - b.log2) := Nat.mul_pos hb (Nat.two_pow_pos _)
    have e3 : FP.Core.quotient FP.Core.b32 (.fin false (a * 2 ^ (23 - a.log2)) ((a.log2 : Int) - 23)) (.fin false (b * 2 ^ (23 - b.log2)) ((b.log2 : Int) - 23)) = FP.Core.roundRatio FP.Core.b32 false (a * 2 ^ (23 - a.log2)) (b * 2 ^ (23 - b.log2)) (((a.log2 : Int) - 23) - ((b.log2 : Int) - 23)) := by
      unfold FP.Core.quotient
      dsimp only
      rw [if_neg (by omega)]
      rfl
    rw [e3]
    refine FP.Core.roundRatio_congr hbp hB0 ?_
    obtain ⟨x, hx⟩ : ∃ x, x = ((((a.log2 : Int) - 23) - ((b.log2 : Int) - 23)) - ((i : Int) - j)).toNat := ⟨_, rfl⟩
    obtain ⟨y, hy⟩ : ∃ y, y = (((i : Int) - j) - (((a.log2 : Int) - 23) - ((b.log2 : Int) - 23))).toNat := ⟨_, rfl⟩
    rw [← hx, ← hy]
    have he : (23 - a.log2) + i + x = j + (23 - b.log2) + y := by omega
    calc a * 2 ^ (23 - a.log2) * (b * 2 ^ i) * 2 ^ x = a * b * (2 ^ (23 - a.log2) * 2 ^ i * 2 ^ x) := by ac_rfl
      _ = a * b * (2 ^ j * 2 ^ (23 - b.log2) * 2 ^ y) := by rw [← Nat.pow_add, ← Nat.pow_add, ← Nat.pow_add, ← Nat.pow_add, he]
      _ = a * 2 ^ j * (b * 2 ^ (23 - b.log2)) * 2 ^ y := by ac_rfl
  refine ⟨_, ?_, c_bitsOf r1 hv⟩
  unfold fp_X10_ratio
  rw [if_pos (by rw [n_0, ne_eq, n_eq (by omega) (by omega)]; omega), Fq_zfl r1 hv]
  rfl
theorem exp_d : ∀ k, k < 41 → ((nI (2 ^ 32 - 20 + k)).toInt64 + 127) = jI (107 + k) := by decide +kernel
theorem n_wrap (a : Nat) : nI (2 ^ 32 + a) = nI a := n_ext fun i hi => by
  rw [n_b, Nat.testBit_two_pow_add_gt hi]
  simp [hi]
theorem r_quot {a b : Nat} (ha : 0 < a) (ha2 : a < 1000) (hb : 0 < b) (hb2 : b < 1000) : ∃ i j, nrm a b i j ∧ fp_X11_quotient (jI a) (jI b) = some (nI (qbits a b i j)) := by
  unfold fp_X11_quotient
  rw [if_pos (by rw [j_0, j_nez (by omega) (by decide)]; omega)]
  obtain ⟨K, hK⟩ : ∃ K : Int64 → Int64 → Int32 → Option Int32, K = fun v6_2 v4_5 v8_6 => (zdvL (v4_5 <<< ((23 : Int32).toInt64 &&& 63)) v6_2).bind fun (y7 : Int64) =>
            (zrmL (v4_5 <<< ((23 : Int32).toInt64 &&& 63)) v6_2).bind fun (y8 : Int64) =>
            zjn (fun (v9_9 : Int64) =>
                some (((((v8_6.toInt64) + 127) <<< ((23 : Int32).toInt64 &&& 63)) + (v9_9 - 8388608)).toInt32))
              (fun j125 =>
                zjn (
                    lett ((y7 + 1)) fun (v9_10 : Int64) =>
                    j125 v9_10)
                  (fun j119 =>
                    if (lg_cmp (2 * y8) v6_2) > 0 then (
                      j119)
                    else (
                      if (lg_cmp (2 * y8) v6_2) ≠ 0 then (
                        j125 y7)
                      else (
                        if (lg_cmp (y7 &&& 1) 1) ≠ 0 then (
                          j125 y7)
                        else (
                          j119))))) := ⟨_, rfl⟩
  have last : ∀ i j, nrm a b i j → K (jI (b * 2 ^ i)) (jI (a * 2 ^ j)) (nI (2 ^ 32 + i - j)) = some (nI (qbits a b i j)) := by
    intro i j h
    obtain ⟨n1, n2, n3, n4, n5⟩ := id h
    have p1 : (2 : Nat) ^ i ≤ 2 ^ 10 := Nat.pow_le_pow_right (by decide) n1
    have p2 : (2 : Nat) ^ j ≤ 2 ^ 10 := Nat.pow_le_pow_right (by decide) n2
    obtain ⟨A, hA⟩ : ∃ A, A = a * 2 ^ j := ⟨_, rfl⟩
    obtain ⟨B, hB⟩ : ∃ B, B = b * 2 ^ i := ⟨_, rfl⟩
    have hA2 : A ≤ 1000 * 2 ^ 10 := by rw [hA]; exact Nat.mul_le_mul (by omega) p2
    have hB2 : B ≤ 1000 * 2 ^ 10 := by rw [hB]; exact Nat.mul_le_mul (by omega) p1
    have hB0 : 0 < B := by rw [hB]; exact Nat.mul_pos hb (Nat.two_pow_pos _)
    rw [← hA, ← hB] at n4 n5
    obtain ⟨r1, -⟩ := rr_F (A := A) (B := B) (k := 127 + i - j) (e := (i : Int) - j) hB0 (by omega) n4 n5 (by omega) (by omega) (by omega)
    obtain ⟨r3, r4, -, -⟩ := id r1
    obtain ⟨N, hN⟩ : ∃ N, N = A * 2 ^ 23 := ⟨_, rfl⟩
    have hN2 : N < 2 ^ 50 := by omega
    have es : jI A <<< ((23 : Int32).toInt64 &&& 63) = jI N := by
      rw [show (23 : Int32) = nI 23 from by decide, j_shl (by omega), Nat.shiftLeft_eq, hN]
    have hd : N / B ≤ N := Nat.div_le_self _ _
    have hr : N % B < B := Nat.mod_lt _ hB0
    have zB : ¬ jI B = 0 := by rw [j_0, j_eq (by omega) (by decide)]; omega
    have ed : zdvL (jI N) (jI B) = some (jI (N / B)) := by
      unfold zdvL
      rw [if_neg zB, j_div (by omega) hB0 (by omega)]
    have er : zrmL (jI N) (jI B) = some (jI (N % B)) := by
      unfold zrmL
      rw [if_neg zB, j_rem (by omega) hB0 (by omega)]
    have fin : ∀ m, m = FP.Core.nearest N B → (some (((((nI (2 ^ 32 + i - j)).toInt64) + 127) <<< ((23 : Int32).toInt64 &&& 63)) + (jI m - 8388608)).toInt32 : Option Int32) = some (nI (qbits a b i j)) := by
      intro m hm
      have hk := exp_d (20 + i - j) (by omega)
      rw [show 2 ^ 32 - 20 + (20 + i - j) = 2 ^ 32 + i - j by omega, show 107 + (20 + i - j) = 127 + i - j by omega] at hk
      have hm2 : m = FP.Core.nearest (A * 2 ^ 23) B := by rw [hm, hN]
      have r5 : 2 ^ 23 ≤ m := by rw [hm2]; exact r3
      rw [hk, show (23 : Int32) = nI 23 from by decide, j_shl (by omega), show (8388608 : Int64) = jI (2 ^ 23) from by decide, j_sub (by omega), j_add, j_to]
      unfold qbits bitsF
      rw [← hA, ← hB, ← hm2, Nat.shiftLeft_eq]
    rw [hK, ← hA, ← hB]
    dsimp only
    rw [es, ed, Option.bind_some, er, Option.bind_some, zjn_eq, zjn_eq]
    dsimp only
    have h1 : N / B &&& 1 = N / B % 2 := Nat.and_one_is_mod _
    have g1 := j_gtz (a := 2 * (N % B)) (b := B) (by omega) (by omega)
    have g2 := j_nez (a := 2 * (N % B)) (b := B) (by omega) (by omega)
    have g3 : (lg_cmp (jI (N / B) &&& 1) 1 ≠ 0) = (N / B % 2 ≠ 1) := by
      rw [show (1 : Int64) = jI 1 from by decide, j_and, h1, j_nez (by omega) (by decide)]
    rw [show (2 : Int64) * jI (N % B) = jI (2 * (N % B)) from by rw [show (2 : Int64) = jI 2 from by decide, j_mul], lett_eq, show jI (N / B) + 1 = jI (N / B + 1) from by rw [show (1 : Int64) = jI 1 from by decide, j_add]]
    by_cases c1 : B < 2 * (N % B)
    · rw [if_pos (by rw [g1]; exact c1)]
      refine fin _ ?_
      unfold FP.Core.nearest
      rw [if_neg (by omega), if_pos c1]
    · rw [if_neg (by rw [g1]; exact c1)]
      by_cases c2 : 2 * (N % B) ≠ B
      · rw [if_pos (by rw [g2]; exact c2)]
        refine fin _ ?_
        unfold FP.Core.nearest
        rw [if_pos (by omega)]
      · rw [if_neg (by rw [g2]; exact c2)]
        by_cases c3 : N / B % 2 ≠ 1
        · rw [if_pos (by rw [g3]; exact c3)]
          refine fin _ ?_
          unfold FP.Core.nearest
          rw [if_neg (by omega), if_neg (by omega)]
          omega
        · rw [if_neg (by rw [g3]; exact c3)]
          refine fin _ ?_
          unfold FP.Core.nearest
          rw [if_neg (by omega), if_neg (by omega)]
          omega
  have dbl : ∀ x, jI x * 2 = jI (x * 2) := fun x => by rw [show (2 : Int64) = jI 2 from by decide, j_mul]
  -- the numerator is doubled
  have l44 : ∀ i, i ≤ 10 → (i = 0 ∨ b * 2 ^ i ≤ a) → ∀ d j f, j + d = 10 → d < f → (i = 0 ∨ j = 0) → a * 2 ^ j < 2 * (b * 2 ^ i) → ∃ j', nrm a b i j' ∧ fp_X11_quotient_L44 (K (jI (b * 2 ^ i))) (jI (b * 2 ^ i)) f (jI (a * 2 ^ j)) (nI (2 ^ 32 + i - j)) = K (jI (b * 2 ^ i)) (jI (a * 2 ^ j')) (nI (2 ^ 32 + i - j')) := by
    intro i hi hi2 d
    have p1 : (2 : Nat) ^ i ≤ 2 ^ 10 := Nat.pow_le_pow_right (by decide) hi
    have hB2 : b * 2 ^ i ≤ 1000 * 2 ^ 10 := Nat.mul_le_mul (by omega) p1
    induction d with
    | zero =>
      intro j f h1 h2 h3 h4
      obtain ⟨f, rfl⟩ : ∃ g, f = g + 1 := ⟨f - 1, by omega⟩
      have hj : j = 10 := by omega
      subst hj
      have hge : b * 2 ^ i ≤ a * 2 ^ 10 := by
        have e10 : (2 : Nat) ^ 10 = 1024 := by decide
        rcases hi2 with q | q
        · rw [q, Nat.pow_zero, Nat.mul_one, e10]; omega
        · exact Nat.le_trans q (Nat.le_mul_of_pos_right _ (Nat.two_pow_pos _))
      refine ⟨10, ⟨hi, Nat.le_refl _, h3, hge, h4⟩, ?_⟩
      rw [fp_X11_quotient_L44, if_pos (by rw [j_gez (by omega) (by omega)]; exact hge)]
    | succ d ih =>
      intro j f h1 h2 h3 h4
      obtain ⟨f, rfl⟩ : ∃ g, f = g + 1 := ⟨f - 1, by omega⟩
      rw [fp_X11_quotient_L44]
      by_cases hge : b * 2 ^ i ≤ a * 2 ^ j
      · refine ⟨j, ⟨hi, by omega, h3, hge, h4⟩, ?_⟩
        rw [if_pos (by rw [j_gez (by omega) (by omega)]; exact hge)]
      · rw [if_neg (by rw [j_gez (by omega) (by omega)]; exact hge), lett_eq, dbl]
        have hi0 : i = 0 := by
          rcases hi2 with q | q
          · exact q
          · exfalso
            have : a ≤ a * 2 ^ j := Nat.le_mul_of_pos_right _ (Nat.two_pow_pos _)
            omega
        have e : a * 2 ^ j * 2 = a * 2 ^ (j + 1) := by rw [Nat.pow_succ, Nat.mul_assoc]
        rw [e, show 2 ^ 32 + i - j = (2 ^ 32 + i - (j + 1)) + 1 by omega, n_dec]
        exact ih (j + 1) f (by omega) (by omega) (Or.inl hi0) (by rw [← e]; omega)
  -- the denominator is doubled
  have l18 : ∀ d i f, i + d = 10 → d < f → (i = 0 ∨ b * 2 ^ i ≤ a) → ∃ i' j', nrm a b i' j' ∧ fp_X11_quotient_L18 (fun v6_2 v8_3 => fp_X11_quotient_L44 (K v6_2) v6_2 FU (jI a) v8_3) (jI a) f (jI (b * 2 ^ i)) (nI i) = K (jI (b * 2 ^ i')) (jI (a * 2 ^ j')) (nI (2 ^ 32 + i' - j')) := by
    intro d
    have two : ∀ x, (2 : Int64) * jI x = jI (2 * x) := fun x => by rw [show (2 : Int64) = jI 2 from by decide, j_mul]
    have stop : ∀ i f, i ≤ 10 → (i = 0 ∨ b * 2 ^ i ≤ a) → a < 2 * (b * 2 ^ i) → ∃ i' j', nrm a b i' j' ∧ fp_X11_quotient_L18 (fun v6_2 v8_3 => fp_X11_quotient_L44 (K v6_2) v6_2 FU (jI a) v8_3) (jI a) (f + 1) (jI (b * 2 ^ i)) (nI i) = K (jI (b * 2 ^ i')) (jI (a * 2 ^ j')) (nI (2 ^ 32 + i' - j')) := by
      intro i f hi hi2 hlt
      have p1 : (2 : Nat) ^ i ≤ 2 ^ 10 := Nat.pow_le_pow_right (by decide) hi
      have hB2 : b * 2 ^ i ≤ 1000 * 2 ^ 10 := Nat.mul_le_mul (by omega) p1
      rw [fp_X11_quotient_L18, two, if_pos (by rw [j_ltz (by omega) (by omega)]; exact hlt)]
      obtain ⟨j', q1, q2⟩ := l44 i hi hi2 10 0 FU (by omega) (FU_gt (by omega)) (Or.inr rfl) (by rw [Nat.pow_zero, Nat.mul_one]; exact hlt)
      rw [Nat.pow_zero, Nat.mul_one, Nat.sub_zero, n_wrap] at q2
      exact ⟨i, j', q1, q2⟩
    induction d with
    | zero =>
      intro i f h1 h2 h3
      obtain ⟨f, rfl⟩ : ∃ g, f = g + 1 := ⟨f - 1, by omega⟩
      have hi : i = 10 := by omega
      subst hi
      exact stop 10 f (by omega) h3 (by omega)
    | succ d ih =>
      intro i f h1 h2 h3
      obtain ⟨f, rfl⟩ : ∃ g, f = g + 1 := ⟨f - 1, by omega⟩
      by_cases hlt : a < 2 * (b * 2 ^ i)
      · exact stop i f (by omega) h3 hlt
      · have p1 : (2 : Nat) ^ i ≤ 2 ^ 10 := Nat.pow_le_pow_right (by decide) (by omega)
        have hB2 : b * 2 ^ i ≤ 1000 * 2 ^ 10 := Nat.mul_le_mul (by omega) p1
        have e : b * 2 ^ i * 2 = b * 2 ^ (i + 1) := by rw [Nat.pow_succ, Nat.mul_assoc]
        rw [fp_X11_quotient_L18, two, if_neg (by rw [j_ltz (by omega) (by omega)]; exact hlt), lett_eq, dbl, inc, e]
        exact ih (i + 1) f (by omega) (by omega) (Or.inr (by rw [← e]; omega))
  obtain ⟨i, j, q1, q2⟩ := l18 10 0 FU (by omega) (FU_gt (by omega)) (Or.inl rfl)
  refine ⟨i, j, q1, ?_⟩
  rw [Nat.pow_zero, Nat.mul_one] at q2
  have q3 := q2.trans (last i j q1)
  subst hK
  exact q3
/-- both answers are the same -/
theorem both_quot {a b : Nat} {w : Int32} (ha2 : a < 1000) (hb : 0 < b) (hb2 : b < 1000) : ∃ R v, fp_X10_ratio (nI a) (nI b) w = some v ∧ fp_X10_bitsOf v = some R ∧ fp_X11_quotient (jI a) (jI b) = some R := by
  by_cases ha : a = 0
  · subst ha
    have hv : FP.Core.val32 (FP.fdiv (FP.i2f (nI 0)) (FP.i2f (nI b))) = .fin false 0 (-149) := by
      have e : FP.Core.val32 (FP.fdiv (FP.i2f (nI 0)) (FP.i2f (nI b))) = FP.Core.quotient FP.Core.b32 (FP.Core.val32 (FP.i2f (nI 0))) (FP.Core.val32 (FP.i2f (nI b))) := FP.Core.val32_fdiv _ _
      have z : FP.Core.val32 (FP.i2f (nI 0)) = .fin false 0 (-149) := by decide +kernel
      rw [e, z, i2f_d b (by omega) hb]
      have hbp : 0 < b * 2 ^ (23 - b.log2) := Nat.mul_pos hb (Nat.two_pow_pos _)
      unfold FP.Core.quotient
      dsimp only
      rw [if_neg (by omega)]
      unfold FP.Core.roundRatio
      rw [if_pos rfl]
      rfl
    have h0 : FP.fdiv (FP.i2f (nI 0)) (FP.i2f (nI b)) = 0 := by
      have := FP.Core.of32_val32 (a := FP.fdiv (FP.i2f (nI 0)) (FP.i2f (nI b))) (by rw [hv]; exact fun z => by cases z)
      rw [hv] at this
      rw [← this]
      decide +kernel
    refine ⟨0, 0, ?_, by decide +kernel, ?_⟩
    · unfold fp_X10_ratio
      rw [if_pos (by rw [n_0, ne_eq, n_eq (by omega) (by omega)]; omega), h0]
      rfl
    · unfold fp_X11_quotient
      rw [if_neg (by rw [ne_eq, lg_eq]; decide)]
  · obtain ⟨i, j, q1, q2⟩ := r_quot (by omega) ha2 hb hb2
    obtain ⟨v, v1, v2⟩ := c_ratio (w := w) (by omega) ha2 hb hb2 q1
    exact ⟨_, v, v1, v2, q2⟩
theorem ratio_0 : fp_X10_ratio (nI 0) (nI 0) 0 = some 0 ∧ fp_X10_bitsOf 0 = some 0 := by decide +kernel
theorem ratio_1 : fp_X10_ratio (nI 14) (nI 0) 1 = some 1065353216 ∧ fp_X10_bitsOf 1065353216 = some 1065353216 ∧ fp_X11_quotient 1 1 = some 1065353216 := by decide +kernel

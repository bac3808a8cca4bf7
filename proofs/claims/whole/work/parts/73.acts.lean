/-! ===== 73: the class: acts ===== -/
theorem x_hasPoint {S : zSt} {t : Nat} {M : zM} (h : IC S t M) (v : Int32) : fp_X10_hasPoint 0 v M = some (bI (asN v (sN S)).isSome) := by
  unfold fp_X10_hasPoint
  obtain ⟨g1, g2⟩ := IC_n h
  rw [ts_0 (IC_C h)]
  cases hv : asN v (sN S) with
  | some p =>
    obtain ⟨rfl, hp, hb⟩ := asN_some hv
    rw [if_neg (by rw [n_lt0 hb]; exact id), gI_0 (IC_C h), Option.bind_some, g1, go hp (by omega)]; rfl
  | none =>
    rcases asN_none hv with h0 | ⟨j, rfl, hj, hb⟩
    · rw [if_pos h0]; rfl
    · rw [if_neg (by rw [n_lt0 hb]; exact id), gI_0 (IC_C h), Option.bind_some, g1, if_pos (by rw [ge_iff_le, n_le (by omega) hb]; exact hj)]; rfl
theorem x_hasSet {S : zSt} {t : Nat} {M : zM} (h : IC S t M) (v : Int32) : fp_X10_hasSet 0 v M = some (bI (asN v (2 ^ sN S)).isSome) := by
  unfold fp_X10_hasSet
  obtain ⟨g1, g2⟩ := IC_n h
  have h2 := two_pow7 g2
  have e : 1 <<< sN S = 2 ^ sN S := by rw [Nat.shiftLeft_eq, Nat.one_mul]
  rw [ts_0 (IC_C h)]
  cases hv : asN v (2 ^ sN S) with
  | some p =>
    obtain ⟨rfl, hp, hb⟩ := asN_some hv
    rw [if_neg (by rw [n_lt0 hb]; exact id), gI_0 (IC_C h), Option.bind_some, g1, n_1, n_shl (by omega), e, go hp (by omega)]; rfl
  | none =>
    rcases asN_none hv with h0 | ⟨j, rfl, hj, hb⟩
    · rw [if_pos h0]; rfl
    · rw [if_neg (by rw [n_lt0 hb]; exact id), gI_0 (IC_C h), Option.bind_some, g1, n_1, n_shl (by omega), e, if_pos (by rw [ge_iff_le, n_le (by omega) hb]; exact hj)]; rfl
theorem b_so {α : Type} (p : α) : bI (some p).isSome = 1 := rfl
theorem b_no {α : Type} : bI (none : Option α).isSome = 0 := rfl
theorem b_tt : bI true = 1 := rfl
theorem b_ff : bI false = 0 := rfl
/-- two points that are not the same -/
def tw (S : zSt) (a b : Int32) : Sum Int32 (Nat × Nat) := match asN a (sN S), asN b (sN S) with
  | some x, some y => if x = y then .inl 4 else .inr (x, y)
  | _, _ => .inl 2
theorem tw_cases {S : zSt} (hn : sN S < 8) (a b : Int32) : (∃ k, tw S a b = .inl k ∧ k ≠ 0) ∨ ∃ x y, tw S a b = .inr (x, y) ∧ a = nI x ∧ b = nI y ∧ x < sN S ∧ y < sN S ∧ x ≠ y := by
  unfold tw
  cases ha : asN a (sN S) with
  | none => exact Or.inl ⟨2, rfl, by decide⟩
  | some x =>
    obtain ⟨rfl, hx, hb⟩ := asN_some ha
    cases hb' : asN b (sN S) with
    | none => exact Or.inl ⟨2, rfl, by decide⟩
    | some y =>
      obtain ⟨rfl, hy, hb2⟩ := asN_some hb'
      by_cases hxy : x = y
      · exact Or.inl ⟨4, if_pos hxy, by decide⟩
      · exact Or.inr ⟨x, y, if_neg hxy, rfl, rfl, hx, hy, hxy⟩
theorem x_badCouple {S : zSt} {t : Nat} {M : zM} (h : IC S t M) (a b : Int32) : fp_X10_badCouple 0 a b M = some (match tw S a b with | .inl k => k | .inr _ => 0) := by
  unfold fp_X10_badCouple tw
  have g2 := (IC_n h).2
  rw [ts_0 (IC_C h), x_hasPoint h, Option.bind_some, x_hasPoint h]
  cases ha : asN a (sN S) with
  | none => rfl
  | some x =>
    rw [b_so, if_neg (show ¬ (1 : Int32) = 0 by decide), Option.bind_some]
    obtain ⟨rfl, hx, hb⟩ := asN_some ha
    cases hb' : asN b (sN S) with
    | none => rfl
    | some y =>
      rw [b_so, if_pos (show (1 : Int32) ≠ 0 by decide)]
      obtain ⟨rfl, hy, hb2⟩ := asN_some hb'
      by_cases hxy : x = y
      · rw [hxy, if_neg (fun q => q rfl)]; dsimp only; rw [if_pos rfl]
      · rw [if_pos (by rw [ne_eq, n_eq hb hb2]; exact hxy)]; dsimp only; rw [if_neg hxy]
theorem x_bit {α : Type} (b : Bool) (A : Int32 → α) : (if bI b = 0 then A 0 else A 1) = A (bI b) := by
  cases b
  · exact if_pos rfl
  · exact if_neg (show ¬ (1 : Int32) = 0 by decide)
theorem x_status {S : zSt} {t : Nat} {M : zM} (h : IC S t M) : fp_X10_status 0 M = some (sS S) := by
  unfold fp_X10_status
  rw [ts_0 (IC_C h), gI_0 (IC_C h), Option.bind_some, h.2.2.1.1]
/-! near, add, drop, flip, turn, swing, rename -/
def q_near (S : zSt) (v : Int32) : Int32 × zSt := match asN v (sN S) with
  | none => rf S 2
  | some p => gv S (nI (row (sN S) (sL S) p))
theorem x_near {S : zSt} {t : Nat} {M : zM} (h : IC S t M) (v : Int32) : CM t (q_near S v) (fp_X10_near 0 v M) M := by
  unfold fp_X10_near q_near
  have hC := IC_C h
  obtain ⟨g1, g2⟩ := IC_n h
  obtain ⟨g3, g4⟩ := IC_L h
  rw [ts_0 hC, x_hasPoint h, Option.bind_some]
  cases hv : asN v (sN S) with
  | none => rw [if_neg (by decide)]; exact x_rf h (Nat.le_succ _) Rk_refl
  | some p =>
    obtain ⟨rfl, hp, hb⟩ := asN_some hv
    rw [b_so, if_pos (show (1 : Int32) ≠ 0 by decide), gI_0 hC, Option.bind_some, gI_0 hC, Option.bind_some, g1, g3, c_nearTo g2 (lt21 g2 g4) hp, Option.bind_some]
    exact x_gv h (Nat.le_succ _) Rk_refl
def q_add (S : zSt) (v : Int32) : Int32 × zSt := match asN v (2 ^ sN S) with
  | none => rf S 1
  | some s => if sN S = 7 then rf S 3 else gv (bcS S (sN S + 1) (sL S ||| s <<< tri (sN S))) (nI (sN S))
theorem pr_0 : ∀ n, n < 8 → pr 0 n = tri n := by decide
theorem add_lt {n L s : Nat} (hL : L < 2 ^ tri n) (hs : s < 2 ^ n) : L ||| s <<< tri n < 2 ^ tri (n + 1) := by
  rw [tri_s]
  refine Nat.or_lt_two_pow (Nat.lt_of_lt_of_le hL (Nat.pow_le_pow_right (by decide) (Nat.le_add_right _ _))) ?_
  rw [Nat.shiftLeft_eq, Nat.add_comm, Nat.pow_add]
  exact Nat.mul_lt_mul_of_pos_right hs (Nat.two_pow_pos _)
theorem x_add {S : zSt} {t : Nat} {M : zM} (h : IC S t M) (v : Int32) : CM t (q_add S v) (fp_X10_add 0 v M) M := by
  unfold fp_X10_add q_add
  have hC := IC_C h
  obtain ⟨g1, g2⟩ := IC_n h
  obtain ⟨g3, g4⟩ := IC_L h
  rw [ts_0 hC, x_hasSet h, Option.bind_some]
  cases hv : asN v (2 ^ sN S) with
  | none => rw [if_neg (by decide)]; exact x_rf h (Nat.le_succ _) Rk_refl
  | some s =>
    obtain ⟨rfl, hp, hb⟩ := asN_some hv
    rw [b_so, if_pos (show (1 : Int32) ≠ 0 by decide), gI_0 hC, Option.bind_some, g1]
    dsimp only
    by_cases h7 : sN S = 7
    · rw [if_pos h7, if_neg (by rw [h7]; decide)]; exact x_rf h (Nat.le_succ _) Rk_refl
    · have ht := tri_le (sN S) g2
      rw [if_neg h7, if_pos (by rw [show (7 : Int32) = nI 7 from by decide, n_lt (by omega) (by omega)]; omega), Option.bind_some, gI_0 hC, Option.bind_some, Option.bind_some, g3, show fp_X2_pair 0 (nI (sN S)) = some (nI (pr 0 (sN S))) from c_pair 0 (by decide) _ (by omega), Option.bind_some, pr_0 _ g2, inc, n_shl (by omega), n_or]
      obtain ⟨M', e1, e2, e3, e4, e5⟩ := x_become h (show sN S + 1 < 8 by omega) (add_lt g4 hp)
      have hC' := IC_C e2
      rw [e1, Option.bind_some, gI_0 hC', Option.bind_some, (IC_n e2).1, e4, n_1, n_sub (by omega), Nat.add_sub_cancel]
      exact x_gv e2 (Nat.le_succ _) e3
def q_drop (S : zSt) (v : Int32) : Int32 × zSt := match asN v (sN S) with
  | none => rf S 2
  | some p => gv (bcS S (sN S - 1) (part (sN S) (sL S) ((1 <<< sN S - 1) ^^^ 1 <<< p))) (nI (sN S - 1))
theorem drop_cnt : ∀ n, n < 8 → ∀ p, p < n → cnt ((1 <<< n - 1) ^^^ 1 <<< p).testBit n = n - 1 := by decide +kernel
theorem drop_lt : ∀ n, n < 8 → ∀ p, p < n → (1 <<< n - 1) ^^^ 1 <<< p < 2 ^ 31 := by decide +kernel
theorem part_lt' (n L s : Nat) : part n L s < 2 ^ tri (cnt s.testBit n) := mk_lt _ _
theorem x_drop {S : zSt} {t : Nat} {M : zM} (h : IC S t M) (v : Int32) : CM t (q_drop S v) (fp_X10_drop 0 v M) M := by
  unfold fp_X10_drop q_drop
  have hC := IC_C h
  obtain ⟨g1, g2⟩ := IC_n h
  obtain ⟨g3, g4⟩ := IC_L h
  rw [ts_0 hC, x_hasPoint h, Option.bind_some]
  cases hv : asN v (sN S) with
  | none => rw [if_neg (by decide)]; exact x_rf h (Nat.le_succ _) Rk_refl
  | some p =>
    obtain ⟨rfl, hp, hb⟩ := asN_some hv
    have hl := part_lt' (sN S) (sL S) ((1 <<< sN S - 1) ^^^ 1 <<< p)
    rw [drop_cnt _ g2 p hp] at hl
    rw [b_so, if_pos (show (1 : Int32) ≠ 0 by decide), gI_0 hC, Option.bind_some, g1, c_everyPoint _ (by omega), Option.bind_some, lett_eq, Option.bind_some, Option.bind_some, gI_0 hC, Option.bind_some, g3, n_1, n_shl (by omega), n_xor, c_part g2 (drop_lt _ g2 p hp) g4, Option.bind_some, n_sub (by omega)]
    obtain ⟨M', e1, e2, e3, e4, e5⟩ := x_become h (show sN S - 1 < 8 by omega) hl
    rw [e1, Option.bind_some, gI_0 (IC_C e2), Option.bind_some, (IC_n e2).1, e4]
    exact x_gv e2 (Nat.le_succ _) e3
def q_flip (S : zSt) (a b : Int32) : Int32 × zSt := match tw S a b with
  | .inl k => rf S k
  | .inr q => gv (bcS S (sN S) (sL S ^^^ 1 <<< pr q.1 q.2)) (bI (adj (sL S ^^^ 1 <<< pr q.1 q.2) q.1 q.2))
theorem flip_lt {n L a b : Nat} (hn : n < 8) (hL : L < 2 ^ tri n) (ha : a < n) (hb : b < n) (hab : a ≠ b) : L ^^^ 1 <<< pr a b < 2 ^ tri n := by
  refine Nat.xor_lt_two_pow hL (set_lt ?_)
  by_cases hlt : b < a
  · exact pr_lt n hn a ha b hlt
  · rw [pr_comm]; exact pr_lt n hn b hb a (by omega)
theorem x_flip {S : zSt} {t : Nat} {M : zM} (h : IC S t M) (a b : Int32) : CM t (q_flip S a b) (fp_X10_flip 0 a b M) M := by
  unfold fp_X10_flip q_flip
  have hC := IC_C h
  obtain ⟨g1, g2⟩ := IC_n h
  obtain ⟨g3, g4⟩ := IC_L h
  rw [ts_0 hC, x_badCouple h, Option.bind_some]
  rcases tw_cases g2 a b with ⟨k, e, hk⟩ | ⟨x, y, e, rfl, rfl, hx, hy, hxy⟩
  · rw [e]; dsimp only; rw [if_neg hk]; exact x_rf h (Nat.le_succ _) Rk_refl
  · rw [e]
    dsimp only
    have hp := pr_lt21 x (by omega) y (by omega) hxy
    have hl := flip_lt g2 g4 hx hy hxy
    rw [if_pos rfl, gI_0 hC, Option.bind_some, gI_0 hC, Option.bind_some, g1, g3, c_pair x (by omega) y (by omega), Option.bind_some, n_1, n_shl (by omega), n_xor]
    obtain ⟨M', e1, e2, e3, e4, e5⟩ := x_become h g2 hl
    rw [e1, Option.bind_some, gI_0 (IC_C e2), Option.bind_some, (IC_L e2).1, e5, c_tied (lt31 g2 hl) (by omega) (by omega) hxy, Option.bind_some, ← n_1, x_bit _ (fun w => (fp_X10_answer 0 w M').bind fun p => zpp p fun (y : Int32) (M2 : zM) => some (y, M2))]
    exact x_gv e2 (Nat.le_succ _) e3
def q_turn (S : zSt) (v : Int32) : Int32 × zSt := match asN v (sN S) with
  | none => rf S 2
  | some p => gv (bcS S (sN S) (turn (sN S) (sL S) p)) (nI (pc (turn (sN S) (sL S) p)))
theorem x_turn {S : zSt} {t : Nat} {M : zM} (h : IC S t M) (v : Int32) : CM t (q_turn S v) (fp_X10_turn 0 v M) M := by
  unfold fp_X10_turn q_turn
  have hC := IC_C h
  obtain ⟨g1, g2⟩ := IC_n h
  obtain ⟨g3, g4⟩ := IC_L h
  rw [ts_0 hC, x_hasPoint h, Option.bind_some]
  cases hv : asN v (sN S) with
  | none => rw [if_neg (by decide)]; exact x_rf h (Nat.le_succ _) Rk_refl
  | some p =>
    obtain ⟨rfl, hp, hb⟩ := asN_some hv
    rw [b_so, if_pos (show (1 : Int32) ≠ 0 by decide), gI_0 hC, Option.bind_some, Option.bind_some, gI_0 hC, Option.bind_some, g1, g3, c_turnedAt g2 g4 hp, Option.bind_some]
    obtain ⟨M', e1, e2, e3, e4, e5⟩ := x_become h g2 (turn_lt _ (sL S) p)
    rw [e1, Option.bind_some, gI_0 (IC_C e2), Option.bind_some, (IC_L e2).1, e5, c_bitCount (lt21 g2 (turn_lt _ _ _)), Option.bind_some]
    exact x_gv e2 (Nat.le_succ _) e3
def q_swing (S : zSt) (a b : Int32) : Int32 × zSt := match tw S a b with
  | .inl k => rf S k
  | .inr q => if adj (sL S) q.1 q.2 = true then gv (bcS S (sN S) (swing (sN S) (sL S) q.1 q.2)) (nI (pc (swing (sN S) (sL S) q.1 q.2))) else rf S 5
theorem x_swing {S : zSt} {t : Nat} {M : zM} (h : IC S t M) (a b : Int32) : CM t (q_swing S a b) (fp_X10_swing 0 a b M) M := by
  unfold fp_X10_swing q_swing
  have hC := IC_C h
  obtain ⟨g1, g2⟩ := IC_n h
  obtain ⟨g3, g4⟩ := IC_L h
  rw [ts_0 hC, x_badCouple h, Option.bind_some]
  rcases tw_cases g2 a b with ⟨k, e, hk⟩ | ⟨x, y, e, rfl, rfl, hx, hy, hxy⟩
  · rw [e]; dsimp only; rw [if_neg hk]; exact x_rf h (Nat.le_succ _) Rk_refl
  · rw [e]
    dsimp only
    rw [if_pos rfl, gI_0 hC, Option.bind_some, g3, c_tied (lt31 g2 g4) (by omega) (by omega) hxy, Option.bind_some]
    cases hj : adj (sL S) x y with
    | false => rw [b_ff, if_neg (show ¬ ((0 : Int32) ≠ 0) by decide), if_neg Bool.false_ne_true]; exact x_rf h (Nat.le_succ _) Rk_refl
    | true =>
      rw [b_tt, if_pos (show (1 : Int32) ≠ 0 by decide), if_pos rfl, gI_0 hC, Option.bind_some, Option.bind_some, Option.bind_some, g1, c_swungOver g2 g4 hx hy, Option.bind_some]
      obtain ⟨M', e1, e2, e3, e4, e5⟩ := x_become h g2 (swing_lt _ (sL S) x y)
      rw [e1, Option.bind_some, gI_0 (IC_C e2), Option.bind_some, (IC_L e2).1, e5, c_bitCount (lt21 g2 (swing_lt _ _ _ _)), Option.bind_some]
      exact x_gv e2 (Nat.le_succ _) e3
def q_rename (S : zSt) (a b : Int32) : Int32 × zSt := match tw S a b with
  | .inl k => (0, stS S k)
  | .inr q => (1, bcS (stS S 0) (sN S) (exnet (sN S) (sL S) q.1 q.2))
theorem x_rename {S : zSt} {t : Nat} {M : zM} (h : IC S t M) (a b : Int32) : CM t (q_rename S a b) (fp_X10_rename 0 a b M) M := by
  unfold fp_X10_rename q_rename
  have hC := IC_C h
  have g2 := (IC_n h).2
  obtain ⟨k, hk⟩ : ∃ k, k = (match tw S a b with | .inl k => k | .inr _ => 0) := ⟨_, rfl⟩
  have h2 : IC (stS S k) t (zsI M 0 0 k) := IC_st h
  have hC2 := IC_C h2
  have g1 := (IC_n h2).1
  obtain ⟨g3, g4⟩ := IC_L h2
  rw [ts_0 hC, x_badCouple h, Option.bind_some, ← hk, pI_0 hC, Option.bind_some, gI_0 hC2, Option.bind_some, zI_same]
  rcases tw_cases g2 a b with ⟨k', e, hk'⟩ | ⟨x, y, e, rfl, rfl, hx, hy, hxy⟩
  · rw [e] at hk ⊢
    dsimp only at hk ⊢
    rw [if_neg (by rw [hk]; exact hk'), ← hk]
    exact ⟨_, rfl, IC_mono h2 (Nat.le_succ _), Rk_0⟩
  · rw [e] at hk ⊢
    dsimp only at hk ⊢
    rw [if_pos hk, gI_0 hC2, Option.bind_some, Option.bind_some, gI_0 hC2, Option.bind_some, g1, g3]
    rw [show fp_X2_exchanged (nI (sN (stS S k))) (nI (sL (stS S k))) (nI x) (nI y) = some (nI (exnet (sN S) (sL S) x y)) from c_exchanged g2 g4 hx hy, Option.bind_some]
    obtain ⟨M', e1, e2, e3, e4, e5⟩ := x_become (n := sN S) h2 g2 (exnet_lt (sN S) (sL S) x y)
    rw [show fp_X10_become 0 (nI (sN (stS S k))) (nI (exnet (sN S) (sL S) x y)) (zsI M 0 0 k) = some M' from e1, Option.bind_some]
    rw [hk] at e2
    exact ⟨M', rfl, IC_mono e2 (Nat.le_succ _), Rk_trans Rk_0 e3⟩
/-! order, prime, most, paintings, colours -/
def q_order (S : zSt) (v : Int32) : Int32 × zSt := match asN v (2 ^ sN S) with
  | none => rf S 1
  | some s => gv S (nI (rk (sN S) (sL S) s))
theorem x_order {S : zSt} {t : Nat} {M : zM} (h : IC S t M) (v : Int32) : CM t (q_order S v) (fp_X10_order 0 v M) M := by
  unfold fp_X10_order q_order
  have hC := IC_C h
  obtain ⟨g1, g2⟩ := IC_n h
  obtain ⟨g3, g4⟩ := IC_L h
  rw [ts_0 hC, x_hasSet h, Option.bind_some]
  cases hv : asN v (2 ^ sN S) with
  | none => rw [if_neg (by decide)]; exact x_rf h (Nat.le_succ _) Rk_refl
  | some s =>
    obtain ⟨rfl, hp, hb⟩ := asN_some hv
    rw [b_so, if_pos (show (1 : Int32) ≠ 0 by decide), gI_0 hC, Option.bind_some, gI_0 hC, Option.bind_some, g1, g3, c_rank g2 g4 hb, Option.bind_some]
    exact x_gv h (Nat.le_succ _) Rk_refl
def q_prime (S : zSt) : Int32 × zSt := gv S (bI (prm (sN S) (sL S)))
theorem x_prime {S : zSt} {t : Nat} {M : zM} (h : IC S t M) : CM t (q_prime S) (fp_X10_prime 0 M) M := by
  unfold fp_X10_prime q_prime
  have hC := IC_C h
  obtain ⟨g1, g2⟩ := IC_n h
  obtain ⟨g3, g4⟩ := IC_L h
  rw [ts_0 hC, gI_0 hC, Option.bind_some, gI_0 hC, Option.bind_some, g1, g3, c_isPrime g2 g4, Option.bind_some, x_bit _ (fun w => (fp_X10_answer 0 w M).bind fun p => zpp p fun (y : Int32) (M2 : zM) => some (y, M2))]
  exact x_gv h (Nat.le_succ _) Rk_refl
theorem n_01 : (0 : Int32) ≤ 1 := by decide
/-- what stands below so many: seen by its bounds -/
theorem x_what {α : Type} {v : Int32} {m : Nat} (hm : m < 100) (A B : α) : (if v < 0 then A else if v ≤ nI m then B else A) = match asN v (m + 1) with | none => A | some _ => B := by
  cases hv : asN v (m + 1) with
  | none =>
    rcases asN_none hv with h0 | ⟨j, rfl, hj, hb⟩
    · rw [if_pos h0]
    · rw [if_neg (by rw [n_lt0 hb]; exact id), if_neg (by rw [n_le hb (by omega)]; omega)]
  | some j =>
    obtain ⟨rfl, hj, hb⟩ := asN_some hv
    rw [if_neg (by rw [n_lt0 hb]; exact id), if_pos (by rw [n_le hb (by omega)]; omega)]
def q_most (S : zSt) (v : Int32) : Int32 × zSt := match asN v 2 with
  | none => rf S 1
  | some w => gv S (nI (bst (okS (sL S) (w == 0)) (2 ^ sN S)))
theorem x_most {S : zSt} {t : Nat} {M : zM} (h : IC S t M) (v : Int32) : CM t (q_most S v) (fp_X10_most 0 v M) M := by
  unfold fp_X10_most q_most
  have hC := IC_C h
  obtain ⟨g1, g2⟩ := IC_n h
  obtain ⟨g3, g4⟩ := IC_L h
  rw [ts_0 hC, show (1 : Int32) = nI 1 from n_1, x_what (by decide)]
  cases hv : asN v (1 + 1) with
  | none => exact x_rf h (Nat.le_succ _) Rk_refl
  | some w =>
    obtain ⟨rfl, hw, hb⟩ := asN_some hv
    dsimp only
    rw [gI_0 hC, Option.bind_some, gI_0 hC, Option.bind_some, g1, g3, zjn_eq]
    dsimp only
    by_cases h0 : w = 0
    · subst h0
      rw [if_neg (by decide), show fp_X2_largest (nI (sN S)) (nI (sL S)) (nI 1) = _ from c_largest true g2 g4, Option.bind_some]
      exact x_gv h (Nat.le_succ _) Rk_refl
    · have : w = 1 := by omega
      subst this
      rw [if_pos (by decide), show fp_X2_largest (nI (sN S)) (nI (sL S)) 0 = _ from c_largest false g2 g4, Option.bind_some]
      exact x_gv h (Nat.le_succ _) Rk_refl
noncomputable def pnt (n L c : Nat) : Int64 := wys n L c n (fun _ => 0) 0
theorem x_paint {S : zSt} {t c : Nat} {M : zM} (h : IC S t M) (hc : c < 10) : ∃ M', fp_X2_paint FD (nI (sN S)) (nI (sL S)) 44 0 0 (nI c) M = some (pnt (sN S) (sL S) c, M') ∧ IC S t M' ∧ Rk M M' := by
  obtain ⟨g1, g2⟩ := IC_n h
  obtain ⟨g3, g4⟩ := IC_L h
  obtain ⟨M', e1, e2, e3⟩ := c_paint (c := c) g2 g4 hc (sN S) FD 0 (fun _ => 0) M (Nat.le_refl _) (by show _ < 20; omega) (Nat.zero_le _) (Nat.zero_le _) (fun o ho => by omega) (IC_C h) (fun g hg => by omega)
  rw [Nat.sub_self, ← n_0] at e1
  exact ⟨M', e1, IC_c h e2 (fun a q => by rw [q]; exact Or.inr (by decide)), Rk_k (Fk_of e2) fun a h1 h2 q => by omega⟩
noncomputable def q_paintings (S : zSt) (v : Int32) : Int64 × zSt := match asN v 10 with
  | none => (-1, stS S 1)
  | some c => (pnt (sN S) (sL S) c, stS S 0)
theorem x_paintings {S : zSt} {t : Nat} {M : zM} (h : IC S t M) (v : Int32) : CM t (q_paintings S v) (fp_X10_paintings 0 v M) M := by
  unfold fp_X10_paintings q_paintings
  have hC := IC_C h
  rw [ts_0 hC, show (9 : Int32) = nI 9 from by decide, x_what (by decide), x_refuse h]
  cases hv : asN v (9 + 1) with
  | none => exact ⟨_, rfl, IC_mono (IC_st h) (Nat.le_succ _), Rk_0⟩
  | some c =>
    obtain ⟨rfl, hw, hb⟩ := asN_some hv
    dsimp only
    have h1 : IC (stS S 0) t (zsI M 0 0 0) := IC_st h
    have hC1 := IC_C h1
    rw [pI_0 hC, Option.bind_some, gI_0 hC1, Option.bind_some, gI_0 hC1, Option.bind_some, gR_0_15 hC1, Option.bind_some, (IC_n h1).1, (IC_L h1).1]
    obtain ⟨M', e1, e2, e3⟩ := x_paint h1 hw
    rw [e1]
    exact ⟨M', rfl, IC_mono e2 (Nat.le_succ _), Rk_trans Rk_0 e3⟩
noncomputable def fwC (n L : Nat) : Nat → Nat → Nat
  | 0, c => c
  | d + 1, c => if pnt n L c = 0 then fwC n L d (c + 1) else c
noncomputable def q_colours (S : zSt) : Int32 × zSt := gv S (nI (fwC (sN S) (sL S) (sN S) 0))
theorem cmp_0 (a : Int64) : (lg_cmp a 0 ≠ 0) = ¬ a = 0 := by
  unfold lg_cmp
  apply propext
  constructor
  · intro q z
    subst z
    exact q (by decide)
  · intro q
    split
    · decide
    · decide
theorem x_colours {S : zSt} {t : Nat} {M : zM} (h : IC S t M) : CM t (q_colours S) (fp_X10_colours 0 M) M := by
  unfold fp_X10_colours q_colours
  have g2 := (IC_n h).2
  rw [ts_0 (IC_C h)]
  have key : ∀ d c f M1, c + d = sN S → d < f → IC S t M1 → Rk M M1 → CM t (gv S (nI (fwC (sN S) (sL S) d c))) (fp_X10_colours_L2 0 f (nI c) M1) M := by
    intro d
    induction d with
    | zero =>
      intro c f M1 h1 h2 h3 h4
      obtain ⟨f, rfl⟩ : ∃ g, f = g + 1 := ⟨f - 1, by omega⟩
      have : c = sN S := by omega
      rw [fp_X10_colours_L2, gI_0 (IC_C h3), Option.bind_some, (IC_n h3).1, this, stp]
      exact x_gv h3 (Nat.le_succ _) h4
    | succ d ih =>
      intro c f M1 h1 h2 h3 h4
      obtain ⟨f, rfl⟩ : ∃ g, f = g + 1 := ⟨f - 1, by omega⟩
      have hC := IC_C h3
      rw [fp_X10_colours_L2, gI_0 hC, Option.bind_some, (IC_n h3).1, go (show c < sN S by omega) (by omega), Option.bind_some, gI_0 hC, Option.bind_some, (IC_L h3).1, gR_0_15 hC, Option.bind_some]
      obtain ⟨M2, e1, e2, e3⟩ := x_paint (c := c) h3 (by omega)
      rw [e1, Option.bind_some]
      unfold zpp
      dsimp only
      rw [fwC]
      by_cases hz : pnt (sN S) (sL S) c = 0
      · rw [if_pos hz, if_neg (by rw [cmp_0]; exact fun q => q hz), inc]
        exact ih (c + 1) f M2 (by omega) (by omega) e2 (Rk_trans h4 e3)
      · rw [if_neg hz, if_pos (by rw [cmp_0]; exact hz)]
        exact x_gv e2 (Nat.le_succ _) (Rk_trans h4 e3)
  rw [n_0]
  exact key (sN S) 0 FU M (by omega) (FU_gt (by omega)) h Rk_refl

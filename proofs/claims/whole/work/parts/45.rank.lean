/-! ===== 45: rank, counting modulo 2 ===== -/
/-- in the span of these -/
def Sp : List Nat → Nat → Bool
  | [], x => x == 0
  | r :: rs, x => Sp rs x || Sp rs (x ^^^ r)
def inS (b : Nat → Nat) : Nat → Nat → Bool
  | 0, _ => true
  | k + 1, x => if x.testBit k then b k != 0 && inS b k (x ^^^ b k) else inS b k x
theorem inS_congr {b c : Nat → Nat} {k : Nat} (h : ∀ i, i < k → b i = c i) (x : Nat) : inS b k x = inS c k x := by
  induction k generalizing x with
  | zero => rfl
  | succ k ih => simp only [inS, h k (by omega), ih (fun i hi => h i (by omega))]
/-- each with its own highest bit -/
def Lead (b : Nat → Nat) : Prop := ∀ i, b i ≠ 0 → b i < 2 ^ (i + 1) ∧ (b i).testBit i = true
theorem lt_drop {x k : Nat} (h : x < 2 ^ (k + 1)) (hb : x.testBit k = false) : x < 2 ^ k := lt_of_tb fun i hi => by
  by_cases h2 : i = k
  · rw [h2]; exact hb
  · exact tb_of_lt h (by omega)
theorem xor_lt {x y k : Nat} (hx : x < 2 ^ k) (hy : y < 2 ^ k) : x ^^^ y < 2 ^ k := Nat.xor_lt_two_pow hx hy
theorem xor_drop {x y k : Nat} (hx : x < 2 ^ (k + 1)) (hy : y < 2 ^ (k + 1)) (h1 : x.testBit k = true) (h2 : y.testBit k = true) : x ^^^ y < 2 ^ k :=
  lt_drop (xor_lt hx hy) (by rw [Nat.testBit_xor, h1, h2]; rfl)
def updN (b : Nat → Nat) (l v : Nat) : Nat → Nat := fun i => if i = l then v else b i
theorem xor_r (y x b : Nat) : y ^^^ b ^^^ (x ^^^ b) = y ^^^ x := by
  rw [Nat.xor_assoc, Nat.xor_comm x b, ← Nat.xor_assoc b, Nat.xor_self, Nat.zero_xor]
theorem xor_s (y x b : Nat) : y ^^^ (x ^^^ b) = y ^^^ x ^^^ b := (Nat.xor_assoc _ _ _).symm
theorem xor_t (y x b : Nat) : y ^^^ b ^^^ x = y ^^^ x ^^^ b := by rw [Nat.xor_assoc, Nat.xor_comm b, ← Nat.xor_assoc]
theorem j39 (k : Nat) : nI (k + 1) + (-1) = nI k := by
  rw [← n_add, show nI 1 = 1 from n_1.symm, Int32.add_assoc]
  have : (1 : Int32) + (-1) = 0 := by decide
  rw [this, Int32.add_zero]
/-- what of a packed basis lies at a bit -/
def slot (B i : Nat) : Nat := B >>> (8 * i) &&& 127
theorem slot_lt (B i : Nat) : slot B i < 128 := Nat.lt_of_le_of_lt Nat.and_le_right (by decide)
theorem c127 (i : Nat) : (127 : Nat).testBit i = decide (i < 7) := by rw [show (127 : Nat) = 2 ^ 7 - 1 from rfl, Nat.testBit_two_pow_sub_one]
theorem slot_upd {B l v : Nat} (hv : v < 128) (h0 : slot B l = 0) : slot (B ||| v <<< (8 * l)) = updN (slot B) l v := by
  funext i
  unfold updN
  apply Nat.eq_of_testBit_eq
  intro j
  have h1 : (slot (B ||| v <<< (8 * l)) i).testBit j = ((B.testBit (8 * i + j) || (decide (8 * l ≤ 8 * i + j) && v.testBit (8 * i + j - 8 * l))) && decide (j < 7)) := by
    unfold slot
    rw [Nat.testBit_and, Nat.testBit_shiftRight, Nat.testBit_or, Nat.testBit_shiftLeft, c127]
  have h2 : (slot B i).testBit j = (B.testBit (8 * i + j) && decide (j < 7)) := by
    unfold slot
    rw [Nat.testBit_and, Nat.testBit_shiftRight, c127]
  rw [h1]
  by_cases hi : i = l
  · subst hi
    rw [if_pos rfl]
    have h3 := congrArg (fun x => x.testBit j) h0
    simp only [h2, Nat.zero_testBit] at h3
    by_cases hj : j < 7
    · simp [hj] at h3 ⊢
      simp [h3]
    · simp [hj]
      exact tb_of_lt (n := 7) hv (Nat.le_of_not_lt hj)
  · rw [if_neg hi, h2]
    by_cases hj : j < 7
    · by_cases hil : i < l
      · have : ¬ 8 * l ≤ 8 * i + j := by omega
        simp [this]
      · have : v.testBit (8 * i + j - 8 * l) = false := tb_of_lt (n := 7) hv (show 7 ≤ 8 * i + j - 8 * l by omega)
        simp [this]
    · simp [hj]
theorem withRow_L6 {B : Nat} (hB : B < 2 ^ 63) (hLd : Lead (slot B)) (v0 : Int64) (hv0 : v0 = jI B) (kk : Int32 → Int32 → Option Int64) : ∀ k x f, k < 8 → k < f → x < 2 ^ k →
    (inS (slot B) k x = true ∧ fp_X2_withRow_L6 kk v0 f (nI x) (nI k + (-1)) = some v0) ∨
    (inS (slot B) k x = false ∧ ∃ l v, l < k ∧ v < 2 ^ (l + 1) ∧ v.testBit l = true ∧ slot B l = 0 ∧ fp_X2_withRow_L6 kk v0 f (nI x) (nI k + (-1)) = kk (nI v) (nI l) ∧ ∀ y, y < 2 ^ k → inS (updN (slot B) l v) k y = (inS (slot B) k y || inS (slot B) k (y ^^^ x))) := by
  subst hv0
  intro k
  induction k with
  | zero =>
    intro x f _ hf hx
    obtain ⟨g, rfl⟩ : ∃ g, f = g + 1 := ⟨f - 1, by omega⟩
    exact Or.inl ⟨rfl, by rw [fp_X2_withRow_L6, if_pos (by decide)]⟩
  | succ k ih =>
    intro x f hk hf hx
    obtain ⟨g, rfl⟩ : ∃ g, f = g + 1 := ⟨f - 1, by omega⟩
    have hx31 : x < 2 ^ 31 := Nat.lt_of_lt_of_le hx (Nat.pow_le_pow_right (by decide) (by omega))
    rw [j39, fp_X2_withRow_L6, if_neg (by rw [n_lt0 (by omega)]; exact id)]
    simp only [zjn, lett]
    rw [show ((nI x >>> (nI k &&& 31)) &&& 1) = bI (x.testBit k) from tst hx31 (by omega)]
    have e8 : (8 : Int32) * nI k = nI (8 * k) := by rw [n_8, n_mul]
    have e1 : (jI B >>> ((8 * nI k).toInt64 &&& 63) &&& 127).toInt32 = nI (slot B k) := by
      rw [e8, j_shr hB (by omega), show (127 : Int64) = jI 127 from by decide, j_and, j_to]; rfl
    rw [e1]
    cases hb : x.testBit k with
    | false =>
      rw [ifF]
      have hx' := lt_drop hx hb
      have hin : inS (slot B) (k + 1) x = inS (slot B) k x := by simp [inS, hb]
      rw [hin]
      rcases ih x g (by omega) (by omega) hx' with ⟨h1, h2⟩ | ⟨h1, l, v, h2, h3, h4, h5, h6, h7⟩
      · exact Or.inl ⟨h1, h2⟩
      · refine Or.inr ⟨h1, l, v, by omega, h3, h4, h5, h6, fun y hy => ?_⟩
        have hul : updN (slot B) l v k = slot B k := by unfold updN; rw [if_neg (by omega)]
        cases hyb : y.testBit k with
        | false => simp only [inS, hyb, Nat.testBit_xor, hb, Bool.xor_false]; exact h7 y (lt_drop hy hyb)
        | true =>
          simp only [inS, hyb, Nat.testBit_xor, hb, Bool.xor_false, if_true, hul]
          by_cases hz : slot B k = 0
          · simp [hz]
          · rw [h7 _ (xor_drop hy (hLd k hz).1 hyb (hLd k hz).2), xor_t, Bool.and_or_distrib_left]
    | true =>
      rw [ifT]
      by_cases hz : slot B k = 0
      · rw [hz, if_neg (by simp [n_0])]
        refine Or.inr ⟨by simp [inS, hb, hz], k, x, by omega, hx, hb, hz, rfl, fun y hy => ?_⟩
        have hx0 : x ≠ 0 := by intro z; rw [z] at hb; simp at hb
        have hul : updN (slot B) k x k = x := by simp [updN]
        have hcg : ∀ z, inS (updN (slot B) k x) k z = inS (slot B) k z := inS_congr fun i hi => by unfold updN; rw [if_neg (by omega)]
        cases hyb : y.testBit k with
        | false => simp [inS, hyb, Nat.testBit_xor, hb, hz, hcg]
        | true => simp [inS, hyb, Nat.testBit_xor, hb, hz, hcg, hul, hx0]
      · rw [if_pos (by rw [n_0, ne_eq, n_eq (Nat.lt_trans (slot_lt _ _) (by decide)) (by decide)]; exact hz), n_xor]
        have hx' := xor_drop hx (hLd k hz).1 hb (hLd k hz).2
        have hin : inS (slot B) (k + 1) x = inS (slot B) k (x ^^^ slot B k) := by simp [inS, hb, hz]
        rw [hin]
        rcases ih _ g (by omega) (by omega) hx' with ⟨h1, h2⟩ | ⟨h1, l, v, h2, h3, h4, h5, h6, h7⟩
        · exact Or.inl ⟨h1, h2⟩
        · refine Or.inr ⟨h1, l, v, by omega, h3, h4, h5, h6, fun y hy => ?_⟩
          have hul : updN (slot B) l v k = slot B k := by unfold updN; rw [if_neg (by omega)]
          cases hyb : y.testBit k with
          | false =>
            simp only [inS, hyb, Nat.testBit_xor, hb, Bool.false_xor, if_true]
            have hy' := h7 y (lt_drop hy hyb)
            rw [xor_s] at hy'
            rw [show (slot B k != 0) = true from bne_iff_ne.mpr hz, Bool.true_and]
            exact hy'
          | true =>
            simp only [inS, hyb, Nat.testBit_xor, hb, Bool.xor_self, if_true, hul]
            have hy' := h7 _ (xor_drop hy (hLd k hz).1 hyb (hLd k hz).2)
            rw [xor_r] at hy'
            rw [show (slot B k != 0) = true from bne_iff_ne.mpr hz, Bool.true_and, Bool.true_and]
            exact hy'
theorem c_withRow {B x : Nat} (hB : B < 2 ^ 56) (hLd : Lead (slot B)) (hx : x < 128) :
    (inS (slot B) 7 x = true ∧ fp_X2_withRow (jI B) (nI x) = some (jI B)) ∨
    (inS (slot B) 7 x = false ∧ ∃ B', B' < 2 ^ 56 ∧ B' ≠ B ∧ Lead (slot B') ∧ fp_X2_withRow (jI B) (nI x) = some (jI B') ∧ ∀ y, y < 128 → inS (slot B') 7 y = (inS (slot B) 7 y || inS (slot B) 7 (y ^^^ x))) := by
  unfold fp_X2_withRow
  have e6 : (6 : Int32) = nI 7 + (-1) := by decide
  rw [e6]
  rcases withRow_L6 (B := B) (by omega) hLd (jI B) rfl (fun v3_4 v4_5 => some (jI B ||| ((v3_4.toInt64) <<< ((8 * v4_5).toInt64 &&& 63)))) 7 x FU (by omega) (FU_gt (by omega)) hx with ⟨h1, h2⟩ | ⟨h1, l, v, h2, h3, h4, h5, h6, h7⟩
  · exact Or.inl ⟨h1, h2⟩
  · have hv : v < 128 := Nat.lt_of_lt_of_le h3 (Nat.pow_le_pow_right (by decide : 0 < 2) (by omega : l + 1 ≤ 7))
    have hs := slot_upd (l := l) hv h5
    refine Or.inr ⟨h1, B ||| v <<< (8 * l), ?_, ?_, ?_, ?_, ?_⟩
    · refine Nat.or_lt_two_pow hB ?_
      rw [Nat.shiftLeft_eq]
      have : 2 ^ (8 * l) ≤ 2 ^ 48 := Nat.pow_le_pow_right (by decide) (by omega)
      calc v * 2 ^ (8 * l) ≤ v * 2 ^ 48 := Nat.mul_le_mul_left _ this
        _ < 2 ^ 56 := by omega
    · intro z
      rw [z] at hs
      have := congrFun hs l
      simp [updN, h5] at this
      rw [← this] at h4; simp at h4
    · rw [hs]
      intro i hi
      unfold updN at hi ⊢
      by_cases hil : i = l
      · rw [if_pos hil, hil]; exact ⟨h3, h4⟩
      · rw [if_neg hil] at hi ⊢; exact hLd i hi
    · rw [h6]
      have e8 : (8 : Int32) * nI l = nI (8 * l) := by rw [n_8, n_mul]
      rw [e8, j_of (by omega), j_shl (by omega), j_or]
    · rw [hs]; exact h7
/-- the rows that were not in the span of those before -/
def gns (q : Nat → Bool) (v : Nat → Nat) : Nat → List Nat
  | 0 => []
  | p + 1 => if q p && !Sp (gns q v p) (v p) then v p :: gns q v p else gns q v p
/-- the bits that are not in a set -/
def outs (x s : Nat) : Nat := x &&& (x ^^^ s)
theorem outs_tb (x s i : Nat) : (outs x s).testBit i = (x.testBit i && !s.testBit i) := by
  unfold outs
  rw [Nat.testBit_and, Nat.testBit_xor]
  cases x.testBit i <;> cases s.testBit i <;> rfl
theorem outs_le (x s : Nat) : outs x s ≤ x := Nat.and_le_left
def rk (n L s : Nat) : Nat := (gns s.testBit (fun p => outs (row n L p) s) n).length
theorem c_rank {n L s : Nat} (hn : n < 8) (hL : L < 2 ^ tri n) (hs : s < 2 ^ 31) : fp_X2_rank (nI n) (nI L) (nI s) = some (nI (rk n L s)) := by
  unfold fp_X2_rank
  have key : ∀ d i f B, i + d = n → d < f → B < 2 ^ 56 → Lead (slot B) → (∀ y, y < 128 → inS (slot B) 7 y = Sp (gns s.testBit (fun p => outs (row n L p) s) i) y) → fp_X2_rank_L8 (nI n) (nI L) (nI s) f (jI B) (nI (gns s.testBit (fun p => outs (row n L p) s) i).length) (nI i) = some (nI (rk n L s)) := by
    intro d
    induction d with
    | zero =>
      intro i f B h1 h2 h3 h4 h5
      obtain ⟨g, rfl⟩ : ∃ g, f = g + 1 := ⟨f - 1, by omega⟩
      have : i = n := by omega
      subst this
      rw [fp_X2_rank_L8, stp]; rfl
    | succ d ih =>
      intro i f B h1 h2 h3 h4 h5
      obtain ⟨g, rfl⟩ : ∃ g, f = g + 1 := ⟨f - 1, by omega⟩
      have hi : i < n := by omega
      rw [fp_X2_rank_L8, go hi (by omega), c_isIn hs (by omega), Option.bind_some]
      simp only [zjn, bI_0, inc]
      cases hb : s.testBit i with
      | false =>
        rw [if_pos rfl]
        have e : gns s.testBit (fun p => outs (row n L p) s) (i + 1) = gns s.testBit (fun p => outs (row n L p) s) i := by simp [gns, hb]
        have := ih (i + 1) g B (by omega) (by omega) h3 h4 (by rw [e]; exact h5)
        rw [e] at this
        exact this
      | true =>
        rw [if_neg (by decide), c_nearTo hn (lt21 hn hL) hi, Option.bind_some, n_andn]
        have hlt : outs (row n L i) s < 128 := Nat.lt_of_le_of_lt (outs_le _ _) (lt128 hn (row_lt _ _ _))
        rw [show row n L i &&& (row n L i ^^^ s) = outs (row n L i) s from rfl]
        rcases c_withRow h3 h4 hlt with ⟨h6, h7⟩ | ⟨h6, B', h7, h8, h9, h10, h11⟩
        · rw [h7, Option.bind_some, if_pos (by rw [lg_eq])]
          have e : gns s.testBit (fun p => outs (row n L p) s) (i + 1) = gns s.testBit (fun p => outs (row n L p) s) i := by simp [gns, hb, ← h5 _ hlt, h6]
          have := ih (i + 1) g B (by omega) (by omega) h3 h4 (by rw [e]; exact h5)
          rw [e] at this
          exact this
        · rw [h10, Option.bind_some, if_neg (by rw [lg_eq, j_eq (by omega) (by omega)]; exact h8)]
          have e : gns s.testBit (fun p => outs (row n L p) s) (i + 1) = outs (row n L i) s :: gns s.testBit (fun p => outs (row n L p) s) i := by simp [gns, hb, ← h5 _ hlt, h6]
          have := ih (i + 1) g B' (by omega) (by omega) h7 h9 (fun y hy => by rw [e, Sp, h11 y hy, h5 y hy, h5 _ (xor_lt (k := 7) hy hlt)])
          rw [e, List.length_cons] at this
          exact this
  rw [n_0, j_0]
  have h0 : ∀ k y, y < 2 ^ k → inS (slot 0) k y = (y == 0) := by
    intro k
    induction k with
    | zero => intro y hy; have : y = 0 := by omega
              subst this; rfl
    | succ k ih =>
      intro y hy
      have hs0 : slot 0 k = 0 := by simp [slot]
      cases hb : y.testBit k with
      | false => simp only [inS, hb]; exact ih y (lt_drop hy hb)
      | true =>
        have : y ≠ 0 := by intro z; rw [z] at hb; simp at hb
        simp [inS, hb, hs0, this]
  exact key n 0 FU 0 (by omega) (FU_gt (by omega)) (by decide) (fun i hi => absurd (by simp [slot]) hi) (fun y hy => h0 7 y hy)

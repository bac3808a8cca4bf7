/-! ===== 81: the reference: lines put and taken, turns, sets that are joined ===== -/
abbrev at47 : Nat → Nat → Prop := fun a _ => a = 47
abbrev atN : Nat → Nat → Prop := fun a k => a = 47 ∨ (a = 46 ∧ k = 0)
theorem NrH_n {n L : Nat} {M : zM} (h : NrH n L M) : zI M 46 0 = nI n := h.1
theorem NrH_r {n L p : Nat} {M : zM} (h : NrH n L M) (hp : p < n) : zI M 47 p = nI (row n L p) := h.2 p hp
theorem n47 {M M' : zM} (h : Fz at47 M M') : zI M' 46 0 = zI M 46 0 := h.2 46 0 (by decide)
def flp (L a b : Nat) : Nat := L ^^^ 1 <<< pr a b
theorem pr_same0 : ∀ a, a < 7 → ∀ b, b < 7 → ∀ k, k < 49 → a = b ∨ k / 7 = k % 7 ∨ (pr (k / 7) (k % 7) == pr a b) = ((k / 7 == a && k % 7 == b) || (k / 7 == b && k % 7 == a)) := by decide +kernel
theorem pr_same (a : Nat) (ha : a < 7) (b : Nat) (hb : b < 7) (p : Nat) (hp : p < 7) (i : Nat) (hi : i < 7) (hab : a ≠ b) (hpi : p ≠ i) : (pr p i == pr a b) = ((p == a && i == b) || (p == b && i == a)) := by
  have h1 : (7 * p + i) / 7 = p := by omega
  have h2 : (7 * p + i) % 7 = i := by omega
  have := pr_same0 a ha b hb (7 * p + i) (by omega)
  rw [h1, h2] at this
  rcases this with z | z | z
  · exact absurd z hab
  · exact absurd z hpi
  · exact z
theorem adj_flp {L a b p i : Nat} (ha : a < 7) (hb : b < 7) (hp : p < 7) (hi : i < 7) (hab : a ≠ b) : adj (flp L a b) p i = (adj L p i != ((p == a && i == b) || (p == b && i == a))) := by
  unfold adj flp
  by_cases hpi : p = i
  · subst hpi
    have : ((p == a && p == b) || (p == b && p == a)) = false := by
      by_cases h1 : p = a <;> by_cases h2 : p = b <;> simp [h1, h2]
      · exact absurd (h1.symm.trans h2) hab
      all_goals omega
    rw [this]; simp
  · rw [Nat.testBit_xor, tb_set, decide_eq_true hpi, Bool.true_and, Bool.true_and, ← pr_same a ha b hb p hp i hi hab hpi]
    cases L.testBit (pr p i) <;> by_cases h : pr p i = pr a b <;> simp [h]
theorem row_flp {n L a b p : Nat} (hn : n < 8) (ha : a < n) (hb : b < n) (hab : a ≠ b) (hp : p < n) : row n (flp L a b) p = if p = a then row n L p ^^^ 1 <<< b else if p = b then row n L p ^^^ 1 <<< a else row n L p := by
  apply Nat.eq_of_testBit_eq
  intro i
  rw [row_tb]
  by_cases hi : i < n
  · rw [adj_flp (by omega) (by omega) (by omega) (by omega) hab, decide_eq_true hi, Bool.true_and]
    by_cases h1 : p = a
    · rw [if_pos h1, Nat.testBit_xor, row_tb, tb_set, decide_eq_true hi, Bool.true_and]
      subst h1
      have h2 : (p == b) = false := by simpa using hab
      rw [h2]
      cases adj L p i <;> by_cases h3 : i = b <;> simp [h3]
    · rw [if_neg h1]
      have h1' : (p == a) = false := by simpa using h1
      by_cases h2 : p = b
      · rw [if_pos h2, Nat.testBit_xor, row_tb, tb_set, decide_eq_true hi, Bool.true_and, h1']
        subst h2
        cases adj L p i <;> by_cases h3 : i = a <;> simp [h3]
      · have h2' : (p == b) = false := by simpa using h2
        rw [if_neg h2, row_tb, decide_eq_true hi, Bool.true_and, h1', h2']
        simp
  · have t1 : ∀ q, q < n → (1 <<< q).testBit i = false := fun q hq => by rw [tb_set]; exact decide_eq_false (by omega)
    rw [decide_eq_false hi, Bool.false_and]
    split
    · rw [Nat.testBit_xor, row_tb, decide_eq_false hi, t1 b hb]; rfl
    · split
      · rw [Nat.testBit_xor, row_tb, decide_eq_false hi, t1 a ha]; rfl
      · rw [row_tb, decide_eq_false hi]; rfl
theorem y_flips {n L a b : Nat} {M : zM} (hC : zC M) (h : NrH n L M) (hn : n < 8) (ha : a < n) (hb : b < n) (hab : a ≠ b) : ∃ M', fp_X11_flips 46 (nI a) (nI b) M = some M' ∧ NrH n (flp L a b) M' ∧ Fz at47 M M' := by
  unfold fp_X11_flips
  have hC1 : ∀ v, zC (zsI M 47 a v) := fun v => hC
  refine ⟨zsI (zsI M 47 a (nI (row n L a ^^^ 1 <<< b))) 47 b (nI (row n L b ^^^ 1 <<< a)), ?_, ?_, Fz_trans (Fz_sI rfl) (Fz_sI rfl)⟩
  · rw [ts_46 hC, gR_46_2 hC, Option.bind_some, lI_47 hC (show a < 8 by omega), Option.bind_some, NrH_r h ha, n_1, n_shl (by omega), n_xor, tI_47 hC (show a < 8 by omega), Option.bind_some, gR_46_2 (hC1 _), Option.bind_some, lI_47 (hC1 _) (show b < 8 by omega), Option.bind_some, zI_other _ _ (Or.inr (fun z => hab z.symm)), NrH_r h hb, n_shl (by omega), n_xor, tI_47 (hC1 _) (show b < 8 by omega), Option.bind_some]
  · refine ⟨h.1, fun p hp => ?_⟩
    rw [row_flp hn ha hb hab hp]
    by_cases h2 : p = b
    · rw [h2, zI_same, if_neg (fun z => hab z.symm), if_pos rfl]
    · rw [zI_other _ _ (Or.inr h2)]
      by_cases h1 : p = a
      · rw [h1, zI_same, if_pos rfl]
      · rw [zI_other _ _ (Or.inr h1), if_neg h1, if_neg h2]; exact h.2 p hp
theorem flp_lt {n L a b : Nat} (hn : n < 8) (hL : L < 2 ^ tri n) (ha : a < n) (hb : b < n) (hab : a ≠ b) : flp L a b < 2 ^ tri n := flip_lt hn hL ha hb hab
theorem y_has1 {s p : Nat} (hs : s < 128) (hp : p < 32) : fp_X11_has (nI s) (nI p) = some (bI (s.testBit p)) := y_has (Nat.lt_trans hs (by decide)) hp
/-- the network while it is turned -/
def TuI (n L p a b L' : Nat) : Prop := L' < 2 ^ tri n ∧ ∀ x, x < n → ∀ y, y < n → x ≠ y → adj L' x y = (adj L x y != (decide (min x y < a ∨ min x y = a ∧ max x y < b) && (adj L p x && adj L p y)))
theorem TuI_p {n L p a b L' q : Nat} (h : TuI n L p a b L') (hp : p < n) (hq : q < n) : adj L' p q = adj L p q := by
  by_cases hpq : p = q
  · rw [hpq, adj_self, adj_self]
  · rw [h.2 p hp q hq hpq, adj_self]; simp
theorem y_turns0 {n L p : Nat} {M : zM} (hC : zC M) (h : NrH n L M) (hn : n < 8) (hL : L < 2 ^ tri n) (hp : p < n) : ∃ M', fp_X11_turns0 46 (nI p) M = some M' ∧ NrH n (turn n L p) M' ∧ Fz at47 M M' := by
  unfold fp_X11_turns0
  rw [ts_46 hC]
  have key : ∀ f, f = FU → ∀ a, a = 0 → ∀ M1 L1, TuI n L p a (a + 1) L1 → NrH n L1 M1 → Fz at47 M M1 → ∃ M', fp_X11_turns0_L2 46 (nI p) f (nI a) M1 = some M' ∧ NrH n (turn n L p) M' ∧ Fz at47 M M' := by
    intro f0 hf0 a0 ha0
    subst hf0 ha0
    refine up (P := fun a f => ∀ M1 L1, TuI n L p a (a + 1) L1 → NrH n L1 M1 → Fz at47 M M1 → ∃ M', fp_X11_turns0_L2 46 (nI p) f (nI a) M1 = some M' ∧ NrH n (turn n L p) M' ∧ Fz at47 M M') (a := 0) (n := n) ?_ ?_ FU (by omega) (FU_gt (by omega))
    · intro f M1 L1 h1 h2 h3
      have hC1 := Fz_C h3 hC
      refine ⟨M1, by rw [fp_X11_turns0_L2, gI_46 hC1, Option.bind_some, h2.1, stp], ?_, h3⟩
      have : L1 = turn n L p := net_ext' hn h1.1 (turn_lt _ _ _) fun x hx y hy => by
        rw [h1.2 x hx y (by omega) (by omega), turn_adj hn hx (by omega)]
        congr 2
        rw [decide_eq_true (by omega : x ≠ y)]
        exact decide_eq_true (by omega)
      rw [← this]; exact h2
    · intro a f _ ha ih M1 L1 h1 h2 h3
      have hC1 := Fz_C h3 hC
      rw [fp_X11_turns0_L2, gI_46 hC1, Option.bind_some, h2.1, go ha (by omega), lett_eq, inc]
      refine up (P := fun b g => ∀ M2 L2, TuI n L p a b L2 → NrH n L2 M2 → Fz at47 M M2 → ∃ M', fp_X11_turns0_L14 (fun M12 => fp_X11_turns0_L2 46 (nI p) f (nI (a + 1)) M12) 46 (nI p) (nI a) g (nI b) M2 = some M' ∧ NrH n (turn n L p) M' ∧ Fz at47 M M') (a := a + 1) (n := n) ?_ ?_ FU (by omega) (FU_gt (by omega)) M1 L1 h1 h2 h3
      · intro g M2 L2 g1 g2 g3
        have hC2 := Fz_C g3 hC
        rw [fp_X11_turns0_L14, gI_46 hC2, Option.bind_some, g2.1, stp]
        refine ih M2 L2 ⟨g1.1, fun x hx y hy hxy => ?_⟩ g2 g3
        rw [g1.2 x hx y hy hxy]
        congr 2
        exact decide_eq_decide.mpr (by omega)
      · intro b g hab hb ih2 M2 L2 g1 g2 g3
        have hC2 := Fz_C g3 hC
        have hr := lt128 hn (row_lt n L2 p)
        have ta : (row n L2 p).testBit a = adj L p a := by rw [row_tb, decide_eq_true ha, Bool.true_and, TuI_p g1 hp ha]
        have tb : (row n L2 p).testBit b = adj L p b := by rw [row_tb, decide_eq_true hb, Bool.true_and, TuI_p g1 hp hb]
        rw [fp_X11_turns0_L14, gI_46 hC2, Option.bind_some, g2.1, go hb (by omega), gR_46_2 hC2, Option.bind_some, lI_47 hC2 (show p < 8 by omega), Option.bind_some, NrH_r g2 hp, y_has1 hr (by omega), Option.bind_some, zjn_eq, Option.bind_some, lI_47 hC2 (show p < 8 by omega), Option.bind_some, NrH_r g2 hp, y_has1 hr (by omega), ta, tb, inc]
        have same : (adj L p a && adj L p b) = false → TuI n L p a (b + 1) L2 := fun z => ⟨g1.1, fun x hx y hy hxy => by
          rw [g1.2 x hx y hy hxy]
          by_cases q : min x y = a ∧ max x y = b
          · have : (adj L p x && adj L p y) = false := by
              rcases (by omega : (x = a ∧ y = b) ∨ (x = b ∧ y = a)) with ⟨rfl, rfl⟩ | ⟨rfl, rfl⟩
              · exact z
              · rw [Bool.and_comm]; exact z
            rw [this, Bool.and_false, Bool.and_false]
          · congr 2
            exact decide_eq_decide.mpr (by omega)⟩
        cases hA : adj L p a with
        | false => rw [ifF]; exact ih2 M2 L2 (same (by rw [hA]; rfl)) g2 g3
        | true =>
          rw [if_neg (by decide), Option.bind_some]
          cases hB : adj L p b with
          | false => rw [ifF]; exact ih2 M2 L2 (same (by rw [hB, Bool.and_false])) g2 g3
          | true =>
            rw [if_neg (by decide)]
            obtain ⟨M3, e1, e2, e3⟩ := y_flips hC2 g2 hn ha hb (show a ≠ b by omega)
            rw [e1, Option.bind_some]
            refine ih2 M3 (flp L2 a b) ⟨flp_lt hn g1.1 ha hb (by omega), fun x hx y hy hxy => ?_⟩ e2 (Fz_trans g3 e3)
            rw [adj_flp (by omega) (by omega) (by omega) (by omega) (by omega), g1.2 x hx y hy hxy]
            by_cases q : min x y = a ∧ max x y = b
            · have q1 : ((x == a && y == b) || (x == b && y == a)) = true := by
                rcases (by omega : (x = a ∧ y = b) ∨ (x = b ∧ y = a)) with ⟨rfl, rfl⟩ | ⟨rfl, rfl⟩ <;> simp
              have q2 : (adj L p x && adj L p y) = true := by
                rcases (by omega : (x = a ∧ y = b) ∨ (x = b ∧ y = a)) with ⟨rfl, rfl⟩ | ⟨rfl, rfl⟩ <;> rw [hA, hB] <;> rfl
              rw [q1, q2, decide_eq_false (show ¬ (min x y < a ∨ min x y = a ∧ max x y < b) by omega), decide_eq_true (show min x y < a ∨ min x y = a ∧ max x y < b + 1 by omega)]
              cases adj L x y <;> rfl
            · have q1 : ((x == a && y == b) || (x == b && y == a)) = false := by
                rw [Bool.or_eq_false_iff, Bool.and_eq_false_iff, Bool.and_eq_false_iff]
                simp only [beq_eq_false_iff_ne, ne_eq]
                constructor <;> omega
              rw [q1, show decide (min x y < a ∨ min x y = a ∧ max x y < b) = decide (min x y < a ∨ min x y = a ∧ max x y < b + 1) from decide_eq_decide.mpr (by omega)]
              cases adj L x y <;> cases (decide (min x y < a ∨ min x y = a ∧ max x y < b + 1) && (adj L p x && adj L p y)) <;> rfl
  refine key FU rfl 0 rfl M L ⟨hL, fun x hx y hy hxy => ?_⟩ h Fz_refl
  rw [decide_eq_false (show ¬ (min x y < 0 ∨ min x y = 0 ∧ max x y < 0 + 1) by omega)]
  cases adj L x y <;> rfl
theorem y_swings {n L a b : Nat} {M : zM} (hC : zC M) (h : NrH n L M) (hn : n < 8) (hL : L < 2 ^ tri n) (ha : a < n) (hb : b < n) : ∃ M', fp_X11_swings 46 (nI a) (nI b) M = some M' ∧ NrH n (swing n L a b) M' ∧ Fz at47 M M' := by
  unfold fp_X11_swings
  rw [ts_46 hC, lett_eq, n_min (by omega) (by omega)]
  obtain ⟨M1, e1, e2, e3⟩ := y_turns0 hC h hn hL (show min a b < n by omega)
  obtain ⟨M2, f1, f2, f3⟩ := y_turns0 (Fz_C e3 hC) e2 hn (turn_lt _ _ _) (show max a b < n by omega)
  obtain ⟨M3, g1, g2, g3⟩ := y_turns0 (Fz_C f3 (Fz_C e3 hC)) f2 hn (turn_lt _ _ _) (show min a b < n by omega)
  rw [e1, Option.bind_some, n_add, n_sub (by omega), show a + b - min a b = max a b by omega, f1, Option.bind_some, g1, Option.bind_some]
  exact ⟨M3, rfl, g2, Fz_trans e3 (Fz_trans f3 g3)⟩
/-! how many lines -/
theorem smN_add (f g : Nat → Nat) (n : Nat) : smN (fun i => f i + g i) n = smN f n + smN g n := by
  induction n with
  | zero => rfl
  | succ n ih => rw [smN, ih, smN, smN]; omega
theorem smN_bool (f : Nat → Bool) (n : Nat) : smN (fun i => (f i).toNat) n = cnt f n := by
  induction n with
  | zero => rfl
  | succ n ih => rw [smN, ih, cnt]
theorem deg_sum (L : Nat) : ∀ n, smN (fun p => cnt (adj L p) n) n = 2 * cnt L.testBit (tri n) := by
  intro n
  induction n with
  | zero => rfl
  | succ n ih =>
    have h1 : smN (fun p => cnt (adj L p) (n + 1)) n = smN (fun p => cnt (adj L p) n) n + cnt (adj L n) n := by
      rw [← smN_bool (adj L n) n, ← smN_add]
      exact smN_congr fun i _ => by rw [cnt, adj_comm]
    have h2 : cnt L.testBit (tri (n + 1)) = cnt L.testBit (tri n) + cnt (adj L n) n := by
      rw [tri_s, cnt_add]
      congr 1
      exact cnt_congr fun i hi => by rw [adj_hi hi, pr_tri hi]
    rw [smN, h1, ih, h2, cnt, adj_self]
    simp only [Bool.toNat_false]
    omega
theorem pc_row {n L p : Nat} (hn : n < 8) : pc (row n L p) = cnt (adj L p) n := by unfold row; rw [pc_bs _ (by omega)]
theorem y_lines {n L : Nat} {M : zM} (hC : zC M) (h : NrH n L M) (hn : n < 8) (hL : L < 2 ^ tri n) : fp_X11_lines 46 M = some (nI (pc L)) := by
  unfold fp_X11_lines
  rw [ts_46 hC, show fp_X11_lines_L4 46 M FU 0 0 = fp_X11_lines_L4 46 M FU (nI (smN (fun p => cnt (adj L p) n) 0)) (nI 0) from by rw [show smN (fun p => cnt (adj L p) n) 0 = 0 from rfl, n_0]]
  have hb : ∀ i, i ≤ n → smN (fun p => cnt (adj L p) n) i ≤ 7 * i := by
    intro i
    induction i with
    | zero => intro _; exact Nat.le_refl _
    | succ i ih =>
      intro hi
      have := cnt_le (adj L i) n
      have := ih (by omega)
      rw [smN]; omega
  refine up (P := fun i f => fp_X11_lines_L4 46 M f (nI (smN (fun p => cnt (adj L p) n) i)) (nI i) = some (nI (pc L))) (a := 0) (n := n) ?_ ?_ FU (by omega) (FU_gt (by omega))
  · intro f
    rw [fp_X11_lines_L4, gI_46 hC, Option.bind_some, h.1, stp, deg_sum, n_2, n_div (by have := cnt_le L.testBit (tri n); have := tri_le n hn; omega) (by decide) (by decide), Nat.mul_div_cancel_left _ (by decide), pc_of hL (tri_le n hn)]
  · intro i f _ hi ih
    rw [fp_X11_lines_L4, gI_46 hC, Option.bind_some, h.1, go hi (by omega), gR_46_2 hC, Option.bind_some, lI_47 hC (show i < 8 by omega), Option.bind_some, NrH_r h hi, y_bits (row21 hn), Option.bind_some, lett_eq, n_add, inc, pc_row hn]
    exact ih
/-! those that are joined -/
theorem y_joined {n L p : Nat} {M : zM} (hC : zC M) (h : NrH n L M) (hn : n < 8) (hL : L < 2 ^ tri n) (hp : p < n) : fp_X11_joined 46 (nI p) M = some (nI (jt n L p)) := by
  unfold fp_X11_joined
  rw [ts_46 hC, lett_eq, n_1, n_shl (by omega)]
  -- a round
  have round : ∀ (K : Int32 → Option Int32) s, s < 2 ^ n → ∃ s', Grow n L s s' ∧ fp_X11_joined_L16 K 46 (nI s) M FU (nI s) 0 = K (nI s') := by
    intro K s hs
    have hs1 := lt128 hn hs
    have key : ∀ i f, f = FU → i = 0 → ∀ x, x < 2 ^ n → (∀ q, x.testBit q = true ↔ s.testBit q = true ∨ ∃ k, k < i ∧ s.testBit k = true ∧ q < n ∧ adj L k q = true) → ∃ s', Grow n L s s' ∧ fp_X11_joined_L16 K 46 (nI s) M f (nI x) (nI i) = K (nI s') := by
      intro i0 f0 hf hi
      subst hf hi
      refine up (P := fun i f => ∀ x, x < 2 ^ n → (∀ q, x.testBit q = true ↔ s.testBit q = true ∨ ∃ k, k < i ∧ s.testBit k = true ∧ q < n ∧ adj L k q = true) → ∃ s', Grow n L s s' ∧ fp_X11_joined_L16 K 46 (nI s) M f (nI x) (nI i) = K (nI s')) (a := 0) (n := n) ?_ ?_ FU (by omega) (FU_gt (by omega))
      · intro f x hx hq
        refine ⟨x, ⟨hx, fun q h1 => (hq q).mpr (Or.inl h1), fun a b ha hb h1 h2 => (hq b).mpr (Or.inr ⟨a, ha, h1, hb, h2⟩), fun T hT hs2 q hqn h1 => ?_⟩, by rw [fp_X11_joined_L16, gI_46 hC, Option.bind_some, h.1, stp]⟩
        rcases (hq q).mp h1 with h2 | ⟨k, k1, k2, k3, k4⟩
        · exact hs2 q hqn h2
        · exact hT k q k1 hqn (hs2 k k1 k2) k4
      · intro i f _ hi ih x hx hq
        rw [fp_X11_joined_L16, gI_46 hC, Option.bind_some, h.1, go hi (by omega), y_has1 hs1 (by omega), Option.bind_some, zjn_eq]
        cases hsi : s.testBit i with
        | false =>
          rw [ifF]
          dsimp only
          rw [lett_eq, n_0, n_or, Nat.or_zero, inc]
          refine ih x hx fun q => (hq q).trans ⟨fun z => ?_, fun z => ?_⟩
          · rcases z with z | ⟨k, k1, k2⟩
            · exact Or.inl z
            · exact Or.inr ⟨k, by omega, k2⟩
          · rcases z with z | ⟨k, k1, k2⟩
            · exact Or.inl z
            · refine Or.inr ⟨k, ?_, k2⟩
              by_cases hk : k = i
              · rw [hk, hsi] at k2; exact absurd k2.1 (by decide)
              · omega
        | true =>
          rw [if_neg (by decide), gR_46_2 hC, Option.bind_some, lI_47 hC (show i < 8 by omega), Option.bind_some, NrH_r h hi]
          dsimp only
          rw [lett_eq, n_or, inc]
          refine ih _ (Nat.or_lt_two_pow hx (row_lt _ _ _)) fun q => ?_
          rw [Nat.testBit_or, Bool.or_eq_true, hq q, row_tb, Bool.and_eq_true, decide_eq_true_iff]
          constructor
          · rintro ((z | ⟨k, k1, k2⟩) | z)
            · exact Or.inl z
            · exact Or.inr ⟨k, by omega, k2⟩
            · exact Or.inr ⟨i, by omega, hsi, z⟩
          · rintro (z | ⟨k, k1, k2⟩)
            · exact Or.inl (Or.inl z)
            · by_cases hk : k = i
              · rw [hk] at k2; exact Or.inr k2.2
              · exact Or.inl (Or.inr ⟨k, by omega, k2⟩)
    rw [n_0]
    exact key 0 FU rfl rfl s hs fun q => ⟨Or.inl, fun z => by
      rcases z with z | ⟨k, k1, _⟩
      · exact z
      · omega⟩
  have fin : ∀ s f, s < 2 ^ n → s.testBit p = true → clo n L s → (∀ T, clo n L T → T.testBit p = true → ∀ q, q < n → s.testBit q = true → T.testBit q = true) → fp_X11_joined_L6 46 M (f + 1) (nI s) (nI s) = some (nI (jt n L p)) := by
    intro s f a1 a2 a3 a4
    rw [fp_X11_joined_L6, if_pos rfl, Jt_uniq (⟨a1, a2, a3, a4⟩ : Jt n L p s) (jt_Jt hn hL hp)]
  have clo_of : ∀ s, s < 2 ^ n → Grow n L s s → clo n L s := by
    intro s hs hg a b ha hb h1 h2
    exact hg.2.2.1 a b ha hb h1 h2
  have main : ∀ d s o f, n ≤ d + cnt s.testBit n → d + 2 < f → s < 2 ^ n → o < 2 ^ n → s.testBit p = true → (∀ T, clo n L T → T.testBit p = true → ∀ q, q < n → s.testBit q = true → T.testBit q = true) → (Grow n L o s ∨ o = 0) → fp_X11_joined_L6 46 M f (nI s) (nI o) = some (nI (jt n L p)) := by
    intro d
    induction d with
    | zero =>
      intro s o f a1 a2 a3 a4 a5 a6 a7
      obtain ⟨f, rfl⟩ : ∃ g, f = g + 1 := ⟨f - 1, by omega⟩
      have s1 := lt128 hn a3
      have o1 := lt128 hn a4
      by_cases hso : o = s
      · subst hso
        rcases a7 with a7 | a7
        · exact fin o f a3 a5 (clo_of o a3 a7) a6
        · rw [a7] at a5; simp at a5
      · obtain ⟨s', g1, g2⟩ := round (fun v2_9 => fp_X11_joined_L6 46 M f v2_9 (nI s)) s a3
        rw [fp_X11_joined_L6, if_neg (by rw [n_eq (by omega) (by omega)]; exact hso), g2]
        by_cases hcl : clo n L s
        · have e := Grow_closed g1 a3 hcl
          subst e
          obtain ⟨f, rfl⟩ : ∃ g, f = g + 1 := ⟨f - 1, by omega⟩
          exact fin s' f a3 a5 hcl a6
        · have := Grow_open g1 hcl
          have := cnt_le s'.testBit n
          omega
    | succ d ih =>
      intro s o f a1 a2 a3 a4 a5 a6 a7
      obtain ⟨f, rfl⟩ : ∃ g, f = g + 1 := ⟨f - 1, by omega⟩
      have s1 := lt128 hn a3
      have o1 := lt128 hn a4
      by_cases hso : o = s
      · subst hso
        rcases a7 with a7 | a7
        · exact fin o f a3 a5 (clo_of o a3 a7) a6
        · rw [a7] at a5; simp at a5
      · obtain ⟨s', g1, g2⟩ := round (fun v2_9 => fp_X11_joined_L6 46 M f v2_9 (nI s)) s a3
        rw [fp_X11_joined_L6, if_neg (by rw [n_eq (by omega) (by omega)]; exact hso), g2]
        by_cases hcl : clo n L s
        · have e := Grow_closed g1 a3 hcl
          subst e
          obtain ⟨f, rfl⟩ : ∃ g, f = g + 1 := ⟨f - 1, by omega⟩
          exact fin s' f a3 a5 hcl a6
        · have := Grow_open g1 hcl
          exact ih s' s f (by omega) (by omega) g1.1 a3 (g1.2.1 p a5) (fun T hT hTp q hq h1 => g1.2.2.2 T hT (fun q hq h2 => a6 T hT hTp q hq h2) q hq h1) (Or.inl g1)
  rw [n_0]
  refine main n (1 <<< p) 0 FU (by omega) (FU_gt (by omega)) (set_lt hp) (Nat.two_pow_pos _) (by rw [tb_set]; exact decide_eq_true rfl) (fun T _ hTp q _ h1 => ?_) (Or.inr rfl)
  rw [tb_set, decide_eq_true_iff] at h1
  rw [h1]; exact hTp
theorem jt_ne {n L p : Nat} (hn : n < 8) (hL : L < 2 ^ tri n) (hp : p < n) : jt n L p ≠ 0 := fun z => by
  have := (jt_Jt hn hL hp).2.1
  rw [z] at this; simp at this
theorem low_jt {n L p : Nat} (hn : n < 8) (hL : L < 2 ^ tri n) (hp : p < n) : fp_X11_lowest (nI (jt n L p)) = some (nI (lowB (jt n L p))) ∧ (lowB (jt n L p) == p) = isLst n L p ∧ lowB (jt n L p) ≤ p := by
  have h1 := lt128 hn (jt_lt hn hL hp)
  obtain ⟨h2, h3⟩ := low_lst _ h1 p (by omega) (jt_Jt hn hL hp).2.1
  exact ⟨y_lowest _ h1 (jt_ne hn hL hp), h2, h3⟩
theorem y_sets {n L : Nat} {M : zM} (hC : zC M) (h : NrH n L M) (hn : n < 8) (hL : L < 2 ^ tri n) : fp_X11_sets 46 M = some (nI (nsets n L)) := by
  unfold fp_X11_sets
  rw [ts_46 hC, show fp_X11_sets_L4 46 M FU 0 0 = fp_X11_sets_L4 46 M FU (nI (cnt (isLst n L) 0)) (nI 0) from by rw [show cnt (isLst n L) 0 = 0 from rfl, n_0]]
  refine up (P := fun i f => fp_X11_sets_L4 46 M f (nI (cnt (isLst n L) i)) (nI i) = some (nI (nsets n L))) (a := 0) (n := n) ?_ ?_ FU (by omega) (FU_gt (by omega))
  · intro f
    rw [fp_X11_sets_L4, gI_46 hC, Option.bind_some, h.1, stp]; rfl
  · intro i f _ hi ih
    obtain ⟨l1, l2, l3⟩ := low_jt hn hL hi
    rw [fp_X11_sets_L4, gI_46 hC, Option.bind_some, h.1, go hi (by omega), y_joined hC h hn hL hi, Option.bind_some, l1, Option.bind_some, zjn_eq]
    rw [cnt, ← l2] at ih
    by_cases hq : lowB (jt n L i) = i
    · rw [if_neg (by rw [hq]; exact fun z => z rfl)]
      dsimp only
      rw [lett_eq, inc, inc]
      rw [hq] at ih
      simpa using ih
    · rw [if_pos (by rw [ne_eq, n_eq (by omega) (by omega)]; exact hq)]
      dsimp only
      rw [lett_eq, n_0, n_add, inc]
      have : (lowB (jt n L i) == i) = false := by simpa using hq
      rw [this] at ih
      exact ih
theorem y_areJoined {n L : Nat} {M : zM} (hC : zC M) (h : NrH n L M) (hn : n < 8) (hL : L < 2 ^ tri n) : fp_X11_areJoined 46 M = some (bI (joi n L)) := by
  unfold fp_X11_areJoined
  have hb : nsets n L ≤ 8 := by unfold nsets; have := cnt_le (isLst n L) n; omega
  rw [ts_46 hC, y_sets hC h hn hL, Option.bind_some]
  have hj := joi_iff hn hL
  cases hq : joi n L with
  | true =>
    have := hj.mp hq
    rw [if_neg (by rw [n_2, ge_iff_le, n_le (by omega) (by omega)]; omega)]; rfl
  | false =>
    have : ¬ nsets n L < 2 := fun z => by rw [hj.mpr z] at hq; cases hq
    rw [if_pos (by rw [n_2, ge_iff_le, n_le (by omega) (by omega)]; omega)]; rfl
/-! a point more -/
theorem adj_add {n L s p q : Nat} (hn : n < 7) (hL : L < 2 ^ tri n) (hs : s < 2 ^ n) (hp : p < n) (hq : q < n) : adj (L ||| s <<< tri n) p q = adj L p q := by
  have key : ∀ p q, q < p → p < n → adj (L ||| s <<< tri n) p q = adj L p q := by
    intro p q h1 h2
    have hlt := pr_lt n (by omega) p h2 q h1
    rw [adj_hi h1, adj_hi h1, Nat.testBit_or, Nat.testBit_shiftLeft, decide_eq_false (by omega), Bool.false_and, Bool.or_false]
  by_cases h : p = q
  · rw [h, adj_self, adj_self]
  · by_cases h1 : q < p
    · exact key p q h1 hp
    · rw [adj_comm, adj_comm L]; exact key q p (by omega) hq
theorem adj_addn {n L s q : Nat} (hL : L < 2 ^ tri n) (hq : q < n) : adj (L ||| s <<< tri n) n q = s.testBit q := by
  rw [adj_hi hq, pr_tri hq, Nat.testBit_or, Nat.testBit_shiftLeft, tb_of_lt hL (by omega), Bool.false_or, decide_eq_true (by omega), Bool.true_and, Nat.add_sub_cancel_left]
theorem row_addn {n L s : Nat} (hL : L < 2 ^ tri n) (hs : s < 2 ^ n) : row (n + 1) (L ||| s <<< tri n) n = s := by
  apply Nat.eq_of_testBit_eq
  intro i
  rw [row_tb]
  by_cases hi : i < n
  · rw [decide_eq_true (by omega), Bool.true_and, adj_addn hL hi]
  · rw [tb_of_lt hs (by omega)]
    by_cases h2 : i = n
    · rw [h2, adj_self, Bool.and_false]
    · rw [decide_eq_false (by omega), Bool.false_and]
theorem row_add {n L s p : Nat} (hn : n < 7) (hL : L < 2 ^ tri n) (hs : s < 2 ^ n) (hp : p < n) : row (n + 1) (L ||| s <<< tri n) p = row n L p ||| (if s.testBit p then 1 <<< n else 0) := by
  apply Nat.eq_of_testBit_eq
  intro i
  rw [row_tb, Nat.testBit_or, row_tb]
  have e : (if s.testBit p then 1 <<< n else 0).testBit i = (s.testBit p && decide (i = n)) := by
    cases s.testBit p
    · simp
    · rw [if_pos rfl, tb_set, Bool.true_and]
  rw [e]
  by_cases hi : i < n
  · rw [decide_eq_true (show i < n + 1 by omega), decide_eq_true hi, Bool.true_and, Bool.true_and, adj_add hn hL hs hp hi, decide_eq_false (show ¬ i = n by omega), Bool.and_false, Bool.or_false]
  · rw [decide_eq_false hi, Bool.false_and, Bool.false_or]
    by_cases h2 : i = n
    · rw [h2, decide_eq_true (Nat.lt_succ_self _), Bool.true_and, adj_comm, adj_addn hL hp, decide_eq_true rfl, Bool.and_true]
    · rw [decide_eq_false (by omega), decide_eq_false h2, Bool.false_and, Bool.and_false]
theorem y_comes {n L s : Nat} {M : zM} (hC : zC M) (h : NrH n L M) (hn : n < 7) (hL : L < 2 ^ tri n) (hs : s < 2 ^ n) : ∃ M', fp_X11_comes 46 (nI s) M = some M' ∧ NrH (n + 1) (L ||| s <<< tri n) M' ∧ Fz atN M M' := by
  unfold fp_X11_comes
  have hs1 := lt128 (show n < 8 by omega) hs
  rw [ts_46 hC, gR_46_2 hC, Option.bind_some, gI_46 hC, Option.bind_some, h.1, tI_47 hC (show n < 8 by omega), Option.bind_some]
  refine up (P := fun i f => ∀ M1, Fz at47 M M1 → zI M1 47 n = nI s → (∀ p, p < n → zI M1 47 p = nI (if p < i then row (n + 1) (L ||| s <<< tri n) p else row n L p)) → ∃ M', fp_X11_comes_L12 (fun M14 =>
        (zgI 9 M14 46 0).bind fun (y15 : Int32) =>
        (zpI 9 M14 46 0 (y15 + 1)).bind fun (M16 : zM) =>
        some M16) 46 (nI s) f (nI i) M1 = some M' ∧ NrH (n + 1) (L ||| s <<< tri n) M' ∧ Fz atN M M') (a := 0) (n := n) ?_ ?_ FU (by omega) (FU_gt (by omega)) (zsI M 47 n (nI s)) (Fz_sI rfl) (zI_same _ _ _ _) (fun p hp => by rw [zI_other _ _ (Or.inr (by omega)), if_neg (by omega)]; exact h.2 p hp)
  · intro f M1 h1 h2 h3
    have hC1 := Fz_C h1 hC
    have e0 : zI M1 46 0 = nI n := (n47 h1).trans h.1
    refine ⟨zsI M1 46 0 (nI (n + 1)), by rw [fp_X11_comes_L12, gI_46 hC1, Option.bind_some, e0, stp, Option.bind_some, inc, pI_46 hC1, Option.bind_some], ⟨zI_same _ _ _ _, fun p hp => ?_⟩, Fz_trans (Fz_mono h1 fun a k q => Or.inl q) (Fz_sI (Or.inr ⟨rfl, rfl⟩))⟩
    rw [zI_other _ _ (Or.inl (by decide))]
    by_cases hpn : p = n
    · rw [hpn, h2, row_addn hL hs]
    · rw [h3 p (by omega), if_pos (by omega)]
  · intro i f _ hi ih M1 h1 h2 h3
    have hC1 := Fz_C h1 hC
    have e0 : zI M1 46 0 = nI n := (n47 h1).trans h.1
    rw [fp_X11_comes_L12, gI_46 hC1, Option.bind_some, e0, go hi (by omega), gR_46_2 hC1, Option.bind_some, lI_47 hC1 (show i < 8 by omega), Option.bind_some, h3 i hi, if_neg (Nat.lt_irrefl _), y_has1 hs1 (by omega), Option.bind_some, zjn_eq]
    have fin : ∀ v, v = row (n + 1) (L ||| s <<< tri n) i → ∃ M', fp_X11_comes_L12 (fun M14 =>
        (zgI 9 M14 46 0).bind fun (y15 : Int32) =>
        (zpI 9 M14 46 0 (y15 + 1)).bind fun (M16 : zM) =>
        some M16) 46 (nI s) f (nI i + 1) (zsI M1 47 i (nI v)) = some M' ∧ NrH (n + 1) (L ||| s <<< tri n) M' ∧ Fz atN M M' := by
      intro v hv
      rw [inc]
      refine ih _ (Fz_trans h1 (Fz_sI rfl)) (by rw [zI_other _ _ (Or.inr (by omega))]; exact h2) fun p hp => ?_
      by_cases hpi : p = i
      · rw [hpi, zI_same, if_pos (Nat.lt_succ_self _), hv]
      · rw [zI_other _ _ (Or.inr hpi), h3 p hp]
        by_cases h4 : p < i
        · rw [if_pos h4, if_pos (by omega)]
        · rw [if_neg h4, if_neg (by omega)]
    have hra := row_add hn hL hs hi
    cases hsi : s.testBit i with
    | false =>
      rw [hsi, if_neg (by decide), Nat.or_zero] at hra
      rw [ifF]
      dsimp only
      rw [n_0, n_or, Nat.or_zero, tI_47 hC1 (show i < 8 by omega), Option.bind_some]
      exact fin _ hra.symm
    | true =>
      rw [hsi, if_pos rfl] at hra
      rw [if_neg (by decide), Option.bind_some]
      dsimp only
      rw [n_1, n_shl (by omega), n_or, tI_47 hC1 (show i < 8 by omega), Option.bind_some, ← n_1]
      exact fin _ hra.symm

/-! ===== 88: the reference: twins, the largest sets, colours ===== -/
theorem outs_alk (x y b : Nat) : (outs x b = outs y b) = (x ||| b = y ||| b) := by
  apply propext
  constructor
  · intro h
    apply Nat.eq_of_testBit_eq
    intro i
    have := congrArg (fun z => z.testBit i) h
    simp only [outs_tb] at this
    rw [Nat.testBit_or, Nat.testBit_or]
    revert this
    cases x.testBit i <;> cases y.testBit i <;> cases b.testBit i <;> decide
  · intro h
    apply Nat.eq_of_testBit_eq
    intro i
    have := congrArg (fun z => z.testBit i) h
    simp only [Nat.testBit_or] at this
    rw [outs_tb, outs_tb]
    revert this
    cases x.testBit i <;> cases y.testBit i <;> cases b.testBit i <;> decide
def lkF (n L : Nat) (t : Bool) (a b : Nat) : Bool := decide (a < b) && (alk n L a b && (adj L a b == t))
def twG (n L w a : Nat) : Nat := if w < 2 then smN (fun a => cnt (lkF n L (w == 1) a) n) a else if w = 2 then cnt (fun p => pc (row n L p) == 1) a else 0
theorem lkF_low (n L : Nat) (t : Bool) (a : Nat) : cnt (lkF n L t a) (a + 1) = 0 := cnt_none fun i hi => by
  unfold lkF
  rw [decide_eq_false (by omega), Bool.false_and]
theorem y_twInner {n L w a b0 : Nat} {M : zM} {α : Type} (K : Int32 → Option (Int32 × zM)) (hC : zC M) (h : NrH n L M) (hn : n < 8) (hw : w < 4) (ha : a < n) :
    fp_X11_twins_L58 K 46 (nI w) (nI a) M FU (nI b0) (nI (a + 1)) = K (nI (if w < 2 then b0 + cnt (lkF n L (w == 1) a) n else b0)) := by
  have nn : FU = 999999999 + 1 := rfl
  by_cases hw2 : w < 2
  · rw [if_pos hw2]
    have e0 := lkF_low n L (w == 1) a
    refine Eq.trans (b := fp_X11_twins_L58 K 46 (nI w) (nI a) M FU (nI (b0 + cnt (lkF n L (w == 1) a) (a + 1))) (nI (a + 1))) (by rw [show b0 + cnt (lkF n L (w == 1) a) (a + 1) = b0 by omega]) ?_
    refine up (P := fun b f => fp_X11_twins_L58 K 46 (nI w) (nI a) M f (nI (b0 + cnt (lkF n L (w == 1) a) b)) (nI b) = K (nI (b0 + cnt (lkF n L (w == 1) a) n))) (a := a + 1) (n := n) ?_ ?_ FU (by omega) (FU_gt (by omega))
    · intro f
      rw [fp_X11_twins_L58, gI_46 hC, Option.bind_some, h.1, stp]
    · intro b f hab hb ih
      have r1 := lt128 hn (row_lt n L a)
      have r2 := lt128 hn (row_lt n L b)
      have hoa := outs_le (row n L a) (1 <<< a ||| 1 <<< b)
      have hob := outs_le (row n L b) (1 <<< a ||| 1 <<< b)
      rw [fp_X11_twins_L58, gI_46 hC, Option.bind_some, h.1, go hb (by omega), if_neg (show ¬ nI w ≥ 2 by rw [n_2, ge_iff_le, n_le (by omega) (by omega)]; omega), lett_eq, gR_46_2 hC, Option.bind_some, lI_47 hC (show a < 8 by omega), Option.bind_some, Option.bind_some, lI_47 hC (show b < 8 by omega), Option.bind_some, h.2 a ha, h.2 b hb, zjn_eq, zjn_eq, sh1 (show a < 32 by omega), sh1 (show b < 32 by omega), n_or, n_not, n_not]
      dsimp only
      have tl2 : zlI 100 M 47 (nI a) = some (nI (row n L a)) := by rw [lI_47 hC (show a < 8 by omega), h.2 a ha]
      rw [inc]
      have eF : lkF n L (w == 1) a b = (alk n L a b && (adj L a b == (w == 1))) := by
        unfold lkF
        rw [decide_eq_true (show a < b by omega), Bool.true_and]
      rw [cnt, eF] at ih
      have tb : (row n L a).testBit b = adj L a b := by rw [row_tb, decide_eq_true hb, Bool.true_and]
      by_cases hq : outs (row n L a) (1 <<< a ||| 1 <<< b) = outs (row n L b) (1 <<< a ||| 1 <<< b)
      · have hal : alk n L a b = true := by
          unfold alk
          rw [beq_iff_eq, ← outs_alk]; exact hq
        rw [hal, Bool.true_and] at ih
        rw [if_neg (by rw [hq]; exact fun z => z rfl), Option.bind_some, tl2, Option.bind_some, y_has1 r1 (by omega), Option.bind_some, zjn_eq, tb]
        by_cases hw1 : w = 1
        · rw [hw1] at ih ⊢
          rw [if_neg (show ¬ nI 1 ≠ 1 by decide)]
          dsimp only
          cases hA : adj L a b with
          | false =>
            rw [hA] at ih
            rw [b_ff, if_pos (show (0 : Int32) ≠ 1 by decide), lett_eq, n_0, n_add]
            exact ih
          | true =>
            rw [hA] at ih
            rw [b_tt, if_neg (show ¬ (1 : Int32) ≠ 1 by decide), lett_eq, inc]
            exact ih
        · have : w = 0 := by omega
          rw [this] at ih ⊢
          rw [if_pos (show nI 0 ≠ 1 by decide)]
          dsimp only
          cases hA : adj L a b with
          | false =>
            rw [hA] at ih
            rw [b_ff, if_neg (show ¬ (0 : Int32) ≠ 0 by decide), lett_eq, inc]
            exact ih
          | true =>
            rw [hA] at ih
            rw [b_tt, if_pos (show (1 : Int32) ≠ 0 by decide), lett_eq, n_0, n_add]
            exact ih
      · have hal : alk n L a b = false := by
          unfold alk
          rw [beq_eq_false_iff_ne, ne_eq, ← outs_alk]; exact hq
        rw [hal, Bool.false_and] at ih
        rw [if_pos (by rw [ne_eq, n_eq (by omega) (by omega)]; exact hq), lett_eq, n_0, n_add]
        exact ih
  · rw [if_neg hw2, nn, fp_X11_twins_L58, gI_46 hC, Option.bind_some, h.1]
    by_cases hb : a + 1 < n
    · rw [go hb (by omega), if_pos (by rw [n_2, ge_iff_le, n_le (by omega) (by omega)]; omega)]
    · have : a + 1 = n := by omega
      rw [this, stp]
theorem y_twOuter {n L w : Nat} {M : zM} (K : Int32 → Option (Int32 × zM)) (hC : zC M) (h : NrH n L M) (hn : n < 8) (hw : w < 4) :
    fp_X11_twins_L19 K 46 (nI w) M FU 0 0 = K (nI (twG n L w n)) := by
  have e0 : twG n L w 0 = 0 := by unfold twG; split; rfl; split <;> rfl
  refine Eq.trans (b := fp_X11_twins_L19 K 46 (nI w) M FU (nI (twG n L w 0)) (nI 0)) (by rw [e0, n_0]) ?_
  refine up (P := fun a f => fp_X11_twins_L19 K 46 (nI w) M f (nI (twG n L w a)) (nI a) = K (nI (twG n L w n))) (a := 0) (n := n) ?_ ?_ FU (by omega) (FU_gt (by omega))
  · intro f
    rw [fp_X11_twins_L19, gI_46 hC, Option.bind_some, h.1, stp]
  · intro a f _ ha ih
    have h21 := pc_le21 (row n L a)
    rw [fp_X11_twins_L19, gI_46 hC, Option.bind_some, h.1, go ha (by omega), zjn_eq, zjn_eq, gR_46_2 hC, Option.bind_some, lI_47 hC (show a < 8 by omega), Option.bind_some, h.2 a ha, y_bits (row21 hn), Option.bind_some, inc]
    have fin : ∀ b0, twG n L w (a + 1) = (if w < 2 then b0 + cnt (lkF n L (w == 1) a) n else b0) → fp_X11_twins_L58 (fun v2_23 => fp_X11_twins_L19 K 46 (nI w) M f v2_23 (nI (a + 1))) 46 (nI w) (nI a) M FU (nI b0) (nI (a + 1)) = K (nI (twG n L w n)) := by
      intro b0 hb0
      rw [y_twInner (α := Nat) _ hC h hn hw ha, ← hb0]
      exact ih
    by_cases hw2 : w = 2
    · rw [hw2] at fin ⊢
      have et : twG n L 2 (a + 1) = twG n L 2 a + (pc (row n L a) == 1).toNat := by unfold twG; rw [if_neg (by decide), if_pos rfl, if_neg (by decide), if_pos rfl, cnt]
      rw [if_neg (show ¬ nI 2 ≠ 2 by decide)]
      by_cases hp : pc (row n L a) = 1
      · rw [if_neg (by rw [hp]; decide)]
        dsimp only
        rw [lett_eq, lett_eq, inc]
        exact fin _ (by rw [et, hp, if_neg (by decide)]; rfl)
      · have : (pc (row n L a) == 1) = false := by simpa using hp
        rw [if_pos (by rw [n_1, ne_eq, n_eq (by omega) (by omega)]; exact hp)]
        dsimp only
        rw [lett_eq, lett_eq, n_0, n_add]
        exact fin _ (by rw [et, this, if_neg (by decide)]; rfl)
    · rw [if_pos (by rw [n_2, ne_eq, n_eq (by omega) (by omega)]; exact hw2)]
      dsimp only
      rw [lett_eq, lett_eq, n_0, n_add]
      refine fin _ ?_
      unfold twG
      rw [Nat.add_zero]
      by_cases hw3 : w < 2
      · rw [if_pos hw3, if_pos hw3, if_pos hw3]; rfl
      · rw [if_neg hw3, if_neg hw2, if_neg hw3, if_neg hw3, if_neg hw2]
theorem twG_twn {n L w : Nat} (hw : w < 3) : twG n L w n = twn n L w := by
  unfold twG twn
  by_cases h2 : w < 2
  · rw [if_pos h2, if_pos h2]; rfl
  · rw [if_neg h2, if_neg h2, if_pos (by omega), if_pos (by omega)]; rfl
theorem sons_le {n : Nat} {l : List Nat} : ∀ i, (l.take i).countP (strg n l) ≤ l.length := fun i => by
  have h1 := List.countP_le_length (p := strg n l) (l := l.take i)
  rw [List.length_take] at h1
  omega
theorem y_twins {S : zSt} {M : zM} (h : IR S M) (v : Int32) : RM (q_twins S v) (fp_X11_twins 46 v M) M := by
  unfold fp_X11_twins q_twins
  have hC := IR_C h
  obtain ⟨g1, g2⟩ := IR_n h
  have hN := IR_N h
  rw [ts_46 hC, show (3 : Int32) = nI 3 from n_3, y_from0 (by decide), Option.bind_some]
  cases hv : asN v (3 + 1) with
  | none => rw [b_no, if_neg (by decide)]; exact y_rf h Fc_refl
  | some w =>
    obtain ⟨rfl, hw, hwb⟩ := asN_some hv
    rw [b_so, if_pos (show (1 : Int32) ≠ 0 by decide), y_twOuter _ hC hN g2 hw]
    dsimp only
    rw [zjn_eq, zjn_eq]
    have nn : FU = 999999999 + 1 := rfl
    have none' : twG (sN S) (sL S) w (sN S) = twn (sN S) (sL S) w → RM (gv S (nI (twn (sN S) (sL S) w))) (fp_X11_twins_L177 46 0 FU (nI (twG (sN S) (sL S) w (sN S))) 0 M) M := by
      intro e
      rw [nn, fp_X11_twins_L177, if_pos (by decide), e]
      exact y_gv h Fc_refl
    by_cases h3 : w = 3
    · subst h3
      have e0 : twG (sN S) (sL S) 3 (sN S) = 0 := rfl
      rw [if_neg (show ¬ nI 3 ≠ nI 3 from fun z => z rfl), y_areJoined hC hN g2 (IR_L h), Option.bind_some]
      have et : twn (sN S) (sL S) 3 = sons (sN S) (spls (sN S) (sL S)) := rfl
      cases hj : joi (sN S) (sL S) with
      | false =>
        rw [b_ff, if_pos rfl]
        refine none' ?_
        rw [e0, et]
        unfold spls
        rw [hj, if_neg Bool.false_ne_true]; rfl
      | true =>
        obtain ⟨M1, e1, e2, e3⟩ := y_splits (-1) hC hN g2
        have hl := spl_len2 (L := sL S) g2
        rw [b_tt, if_neg (by decide), e1, Option.bind_some, e0]
        unfold zpp
        dsimp only
        have es : spls (sN S) (sL S) = spl (sN S) (sL S) := by unfold spls; rw [hj]; rfl
        rw [et, es]
        have hle := fun i => sons_le (n := sN S) (l := spl (sN S) (sL S)) i
        refine Eq.mp ?_ (up (P := fun i f => ∀ M2, Fz atS M M2 → RM (gv S (nI (sons (sN S) (spl (sN S) (sL S))))) (fp_X11_twins_L177 46 (nI (spl (sN S) (sL S)).length) f (nI (((spl (sN S) (sL S)).take i).countP (strg (sN S) (spl (sN S) (sL S))))) (nI i) M2) M) (a := 0) (n := (spl (sN S) (sL S)).length) ?_ ?_ FU (by omega) (FU_gt (by omega)) M1 e2)
        · rw [List.take_zero, List.countP_nil, n_0]
        · intro f M2 f1
          rw [fp_X11_twins_L177, stp, List.take_length]
          exact y_gv (IR_z h (scS f1)) (scR_c (scS f1))
        · intro i f _ hi ih M2 f1
          have hC2 := Fz_C f1 hC
          obtain ⟨M3, a1, a2, a3⟩ := y_splits (nI i) hC2 (NrS hN f1) g2
          have hC3 := Fz_C a2 hC2
          have hlt : (spl (sN S) (sL S)).getD i 0 < 2 ^ sN S := spl_lt (getD_mem hi)
          obtain ⟨M4, b1, b2⟩ := y_isStrong hC3 (NrS hN (Fz_trans f1 a2)) g2 hlt
          have et2 : zI M3 46 22 = nI ((spl (sN S) (sL S)).getD i 0) := by rw [a3]; unfold tld; rw [asN_n hi (by omega)]
          rw [fp_X11_twins_L177, go hi (by omega), a1, Option.bind_some]
          unfold zpp
          dsimp only
          rw [gI_46 hC3, Option.bind_some, et2, b1, Option.bind_some]
          dsimp only
          rw [zjn_eq]
          dsimp only
          rw [inc]
          have ih' := ih M4 (Fz_trans f1 (Fz_trans a2 b2))
          rw [tk hi, List.countP_append, List.countP_singleton] at ih'
          cases hs : strg (sN S) (spl (sN S) (sL S)) ((spl (sN S) (sL S)).getD i 0) with
          | false => rw [hs, if_neg Bool.false_ne_true] at ih'; rw [b_ff, if_pos rfl, lett_eq, n_0, n_add]; exact ih'
          | true => rw [hs, if_pos rfl] at ih'; rw [b_tt, if_neg (by decide), lett_eq, inc]; exact ih'
    · rw [if_pos (by rw [ne_eq, n_eq hwb (by decide)]; exact h3)]
      exact none' (twG_twn (by omega))
/-! the largest set -/
def nrB (n L : Nat) (t : Bool) (s : Nat) : Bool := (List.range n).all fun p => !s.testBit p || (row n L p &&& s == if t then outs s (1 <<< p) else 0)
theorem okS_iff {n L s : Nat} {t : Bool} (hn : n < 8) (hs : s < 2 ^ n) : okS L t s = true ↔ ∀ a, a < n → ∀ b, b < a → s.testBit a = true → s.testBit b = true → adj L a b = t := by
  unfold okS
  rw [beq_iff_eq]
  constructor
  · intro h a ha b hb h1 h2
    have := congrArg (fun x => x.testBit (pr a b)) h
    rw [Nat.testBit_and, prs_tb (by omega) hb, h1, h2] at this
    rw [adj_hi hb]
    cases t with
    | true => rw [if_pos rfl, prs_tb (by omega) hb, h1, h2] at this; simpa using this
    | false => rw [if_neg Bool.false_ne_true, Nat.zero_testBit] at this; simpa using this
  · intro h
    apply Nat.eq_of_testBit_eq
    intro k
    rw [Nat.testBit_and]
    by_cases hk : k < 21
    · obtain ⟨p1, p2, p3⟩ := pr_surj 7 (by decide) k hk
      have hp := prs_tb (s := s) p1 p2
      rw [p3] at hp
      by_cases hab : s.testBit (pi1 k) = true ∧ s.testBit (pi2 k) = true
      · have ha : pi1 k < n := by
          by_cases z : pi1 k < n
          · exact z
          · rw [tb_of_lt hs (by omega)] at hab; exact absurd hab.1 (by decide)
        have := h _ ha _ p2 hab.1 hab.2
        rw [adj_hi p2, p3] at this
        rw [hp, this, hab.1, hab.2]
        cases t with
        | true => rw [if_pos rfl, hp, hab.1, hab.2]; rfl
        | false => rw [if_neg Bool.false_ne_true, Nat.zero_testBit]; rfl
      · have hf : (prs s).testBit k = false := by
          rw [hp]
          cases h1 : s.testBit (pi1 k) with
          | false => rfl
          | true =>
            cases h2 : s.testBit (pi2 k) with
            | false => rfl
            | true => exact absurd ⟨h1, h2⟩ hab
        rw [hf, Bool.and_false]
        cases t with
        | true => rw [if_pos rfl, hf]
        | false => rw [if_neg Bool.false_ne_true, Nat.zero_testBit]
    · have hf : (prs s).testBit k = false := tb_of_lt (prs_lt s) (by omega)
      rw [hf, Bool.and_false]
      cases t with
      | true => rw [if_pos rfl, hf]
      | false => rw [if_neg Bool.false_ne_true, Nat.zero_testBit]
theorem nrB_okS {n L s : Nat} {t : Bool} (hn : n < 8) (hs : s < 2 ^ n) : nrB n L t s = okS L t s := by
  rw [Bool.eq_iff_iff, okS_iff hn hs]
  unfold nrB
  rw [List.all_eq_true]
  constructor
  · intro h a ha b hb h1 h2
    have := h a (List.mem_range.mpr ha)
    rw [h1, Bool.not_true, Bool.false_or, beq_iff_eq] at this
    have := congrArg (fun x => x.testBit b) this
    rw [Nat.testBit_and, row_tb, decide_eq_true (show b < n by omega), h2, Bool.true_and, Bool.and_true] at this
    rw [this]
    cases t with
    | true => rw [if_pos rfl, outs_tb, h2, tb_set, decide_eq_false (show ¬ b = a by omega)]; rfl
    | false => rw [if_neg Bool.false_ne_true, Nat.zero_testBit]
  · intro h p hp
    have hp := List.mem_range.mp hp
    cases h1 : s.testBit p with
    | false => rfl
    | true =>
      rw [Bool.not_true, Bool.false_or, beq_iff_eq]
      apply Nat.eq_of_testBit_eq
      intro i
      rw [Nat.testBit_and, row_tb]
      cases h2 : s.testBit i with
      | false =>
        rw [Bool.and_false]
        cases t with
        | true => rw [if_pos rfl, outs_tb, h2]; rfl
        | false => rw [if_neg Bool.false_ne_true, Nat.zero_testBit]
      | true =>
        have hi : i < n := by
          by_cases z : i < n
          · exact z
          · rw [tb_of_lt hs (by omega)] at h2; cases h2
        rw [decide_eq_true hi, Bool.true_and, Bool.and_true]
        by_cases hpi : i = p
        · rw [hpi, adj_self]
          cases t with
          | true => rw [if_pos rfl, outs_tb, tb_set, decide_eq_true rfl, Bool.not_true, Bool.and_false]
          | false => rw [if_neg Bool.false_ne_true, Nat.zero_testBit]
        · have : adj L p i = t := by
            by_cases z : i < p
            · exact h p hp i z h1 h2
            · rw [adj_comm]; exact h i hi p (by omega) h2 h1
          rw [this]
          cases t with
          | true => rw [if_pos rfl, outs_tb, h2, tb_set, decide_eq_false hpi]; rfl
          | false => rw [if_neg Bool.false_ne_true, Nat.zero_testBit]
theorem y_areAllNear {n L s : Nat} {t : Bool} {M : zM} (hC : zC M) (h : NrH n L M) (hn : n < 8) (hs : s < 2 ^ n) : fp_X11_areAllNear 46 (nI s) (bI t) M = some (bI (nrB n L t s)) := by
  unfold fp_X11_areAllNear
  have hs1 := lt128 hn hs
  rw [ts_46 hC, n_0]
  let G : Nat → Bool := fun p => !s.testBit p || (row n L p &&& s == if t then outs s (1 <<< p) else 0)
  refine up (P := fun i f => (∀ p, p < i → G p = true) → fp_X11_areAllNear_L2 46 (nI s) (bI t) M f (nI i) = some (bI (nrB n L t s))) (a := 0) (n := n) ?_ ?_ FU (by omega) (FU_gt (by omega)) (fun p hp => absurd hp (Nat.not_lt_zero _))
  · intro f hG
    rw [fp_X11_areAllNear_L2, gI_46 hC, Option.bind_some, h.1, stp]
    have : nrB n L t s = true := by
      unfold nrB
      rw [List.all_eq_true]
      exact fun p hp => hG p (List.mem_range.mp hp)
    rw [this]; rfl
  · intro i f _ hi ih hG
    have hr := lt128 hn (row_lt n L i)
    have ho := outs_le s (1 <<< i)
    have ha : row n L i &&& s ≤ row n L i := Nat.and_le_left
    rw [fp_X11_areAllNear_L2, gI_46 hC, Option.bind_some, h.1, go hi (by omega), y_has1 hs1 (by omega), Option.bind_some, zjn_eq, inc]
    have nx : G i = true → fp_X11_areAllNear_L2 46 (nI s) (bI t) M f (nI (i + 1)) = some (bI (nrB n L t s)) := fun hg => ih fun p hp => by
      by_cases hpi : p = i
      · rw [hpi]; exact hg
      · exact hG p (by omega)
    have no : G i = false → some (0 : Int32) = some (bI (nrB n L t s)) := fun hg => by
      have : nrB n L t s = false := by
        unfold nrB
        rw [List.all_eq_false]
        exact ⟨i, List.mem_range.mpr hi, by rw [show (!s.testBit i || (row n L i &&& s == if t then outs s (1 <<< i) else 0)) = false from hg]; decide⟩
      rw [this]; rfl
    cases hsi : s.testBit i with
    | false =>
      rw [b_ff, if_pos rfl]
      exact nx (by show (!s.testBit i || _) = true; rw [hsi]; rfl)
    | true =>
      have hGi : G i = (row n L i &&& s == if t then outs s (1 <<< i) else 0) := by
        show (!s.testBit i || _) = _
        rw [hsi]; rfl
      rw [b_tt, if_neg (by decide), gR_46_2 hC, Option.bind_some, lI_47 hC (show i < 8 by omega), Option.bind_some, h.2 i hi, zjn_eq, n_and]
      have fin : ∀ v, v < 128 → v = (if t then outs s (1 <<< i) else 0) → (if nI (row n L i &&& s) = nI v then fp_X11_areAllNear_L2 46 (nI s) (bI t) M f (nI (i + 1)) else some 0) = some (bI (nrB n L t s)) := by
        intro v hv1 hv
        by_cases hq : row n L i &&& s = v
        · rw [if_pos (by rw [hq])]
          exact nx (by rw [hGi, ← hv, hq]; exact beq_self_eq_true _)
        · rw [if_neg (by rw [n_eq (by omega) (by omega)]; exact hq)]
          exact no (by rw [hGi, ← hv]; simpa using hq)
      cases t with
      | false =>
        rw [b_ff, if_pos rfl]
        have := fin 0 (by decide) (by rw [if_neg Bool.false_ne_true])
        rw [← n_0] at this
        exact this
      | true =>
        rw [b_tt, if_neg (by decide), sh1 (by omega), n_not]
        exact fin _ (by omega) (by rw [if_pos rfl])
theorem y_most {S : zSt} {M : zM} (h : IR S M) (v : Int32) : RM (q_most S v) (fp_X11_most 46 v M) M := by
  unfold fp_X11_most q_most
  have hC := IR_C h
  obtain ⟨g1, g2⟩ := IR_n h
  have hN := IR_N h
  have p2 := two_pow7 g2
  have hpos := Nat.two_pow_pos (sN S)
  rw [ts_46 hC, show (1 : Int32) = nI 1 from n_1, y_from0 (by decide), Option.bind_some]
  cases hv : asN v (1 + 1) with
  | none => rw [b_no, if_neg (by decide)]; exact y_rf h Fc_refl
  | some w =>
    obtain ⟨rfl, hw, hwb⟩ := asN_some hv
    rw [b_so, if_pos (show (1 : Int32) ≠ 0 by decide)]
    dsimp only
    refine Eq.mp ?_ (up (P := fun s f => RM (gv S (nI (bst (okS (sL S) (w == 0)) (2 ^ sN S)))) (fp_X11_most_L19 46 (nI w) M f (nI (bst (okS (sL S) (w == 0)) s)) (nI s)) M) (a := 0) (n := 2 ^ sN S) ?_ ?_ FU (by omega) (FU_gt (by omega)))
    · rw [show bst (okS (sL S) (w == 0)) 0 = 0 from rfl, n_0]
    · intro f
      rw [fp_X11_most_L19, y_all hC g2 hN, Option.bind_some, all_eq, if_pos (by rw [gt_iff_lt, n_lt (by omega) (by omega)]; omega)]
      exact y_gv h Fc_refl
    · intro s f _ hs ih
      have hb := bst_lt (g := okS (sL S) (w == 0)) (m := s)
      have c1 := pc_le21 s
      have c2 := pc_le21 (bst (okS (sL S) (w == 0)) s)
      rw [fp_X11_most_L19, y_all hC g2 hN, Option.bind_some, all_eq, if_neg (by rw [gt_iff_lt, n_lt (by omega) (by omega)]; omega), y_bits (by omega), Option.bind_some, y_bits (by omega), Option.bind_some, zjn_eq, inc]
      rw [bst] at ih
      dsimp only
      by_cases hc : pc s ≤ pc (bst (okS (sL S) (w == 0)) s)
      · rw [if_pos (by rw [n_le (by omega) (by omega)]; exact hc)]
        rw [decide_eq_false (by omega), Bool.and_false, if_neg Bool.false_ne_true] at ih
        exact ih
      · rw [if_neg (by rw [n_le (by omega) (by omega)]; exact hc), zjn_eq]
        rw [decide_eq_true (by omega), Bool.and_true] at ih
        have hA := y_areAllNear (t := w == 0) hC hN g2 hs
        rw [nrB_okS g2 hs] at hA
        have fin : ((fp_X11_areAllNear 46 (nI s) (bI (w == 0)) M).bind fun (y12 : Int32) => if y12 = 0 then fp_X11_most_L19 46 (nI w) M f (nI (bst (okS (sL S) (w == 0)) s)) (nI (s + 1)) else fp_X11_most_L19 46 (nI w) M f (nI s) (nI (s + 1))) = fp_X11_most_L19 46 (nI w) M f (nI (if okS (sL S) (w == 0) s = true then s else bst (okS (sL S) (w == 0)) s)) (nI (s + 1)) := by
          rw [hA, Option.bind_some]
          cases okS (sL S) (w == 0) s with
          | false => rw [b_ff, if_pos rfl, if_neg Bool.false_ne_true]
          | true => rw [b_tt, if_neg (by decide), if_pos rfl]
        rw [← fin] at ih
        by_cases h0 : w = 0
        · rw [h0] at ih ⊢
          rw [if_neg (show ¬ nI 0 ≠ 0 by decide)]
          exact ih
        · have h1 : w = 1 := by omega
          rw [h1] at ih ⊢
          rw [if_pos (show nI 1 ≠ 0 by decide)]
          exact ih
/-! paintings -/
abbrev at63 : Nat → Nat → Prop := fun a _ => a = 63
theorem sc63 {M M' : zM} (h : Fz at63 M M') : Fz scR M M' := Fz_mono h fun a k q => by show (a = 46 ∧ _) ∨ _; omega
def gdB (L : Nat) (col : Nat → Nat) (p g i : Nat) : Bool := (List.range i).all fun o => !(adj L p o && (col o == g))
theorem gdB_s (L : Nat) (col : Nat → Nat) (p g i : Nat) : gdB L col p g (i + 1) = (gdB L col p g i && !(adj L p i && (col i == g))) := by
  unfold gdB
  rw [List.range_succ, List.all_append, List.all_cons, List.all_nil, Bool.and_true]
theorem blk_gd {n L : Nat} {col : Nat → Nat} {p g : Nat} (hp : p ≤ n) : blk n L col p g = !gdB L col p g p := by
  unfold blk gdB
  cases hb : (List.range p).all fun o => !(adj L p o && (col o == g)) with
  | true =>
    rw [List.all_eq_true] at hb
    have : bs (fun o => col o == g) p &&& row n L p = 0 := by
      apply Nat.eq_of_testBit_eq
      intro i
      rw [Nat.testBit_and, bs_tb, row_tb, Nat.zero_testBit]
      by_cases hi : i < p
      · have := hb i (List.mem_range.mpr hi)
        rw [decide_eq_true hi, decide_eq_true (show i < n by omega), Bool.true_and, Bool.true_and]
        revert this
        cases adj L p i <;> cases (col i == g) <;> decide
      · rw [decide_eq_false hi]; rfl
    rw [this]; rfl
  | false =>
    rw [List.all_eq_false] at hb
    obtain ⟨o, ho, hq⟩ := hb
    have ho := List.mem_range.mp ho
    have hq' : adj L p o = true ∧ (col o == g) = true := by
      revert hq
      cases adj L p o <;> cases (col o == g) <;> decide
    have : bs (fun o => col o == g) p &&& row n L p ≠ 0 := fun z => by
      have := congrArg (fun x => x.testBit o) z
      rw [Nat.testBit_and, bs_tb, row_tb, decide_eq_true ho, decide_eq_true (show o < n by omega), hq'.1, hq'.2] at this
      simp at this
    simpa using this
theorem gdB_new {L : Nat} {col : Nat → Nat} {p u : Nat} (h : ∀ o, o < p → col o < u) : gdB L col p u p = true := by
  unfold gdB
  rw [List.all_eq_true]
  intro o ho
  have := h o (List.mem_range.mp ho)
  have e : (col o == u) = false := by rw [beq_eq_false_iff_ne]; omega
  rw [e, Bool.and_false]; rfl
theorem y_good {n L p g u c : Nat} {col : Nat → Nat} {sum : Int64} {M : zM} (K : Int32 → Option (Int64 × zM)) (hC : zC M) (h : NrH n L M) (hn : n < 8) (hp : p < n) (hg : g < 100) (hcol : ∀ o, o < p → zI M 63 o = nI (col o) ∧ col o < 100) :
    fp_X11_ways_L34 K 46 (nI p) (nI u) (nI c) sum (nI g) M FU 1 0 = K (bI (gdB L col p g p)) := by
  rw [show (1 : Int32) = bI (gdB L col p g 0) from rfl, n_0]
  refine up (P := fun o f => fp_X11_ways_L34 K 46 (nI p) (nI u) (nI c) sum (nI g) M f (bI (gdB L col p g o)) (nI o) = K (bI (gdB L col p g p))) (a := 0) (n := p) ?_ ?_ FU (by omega) (FU_gt (by omega))
  · intro f
    rw [fp_X11_ways_L34, stp]
  · intro o f _ ho ih
    obtain ⟨c1, c2⟩ := hcol o ho
    rw [gdB_s] at ih
    rw [fp_X11_ways_L34, go ho (by omega), zjn_eq, zjn_eq, inc]
    cases hb : gdB L col p g o with
    | false =>
      rw [hb, Bool.false_and] at ih
      rw [b_ff, if_pos rfl]; exact ih
    | true =>
      rw [hb, Bool.true_and] at ih
      rw [b_tt, if_neg (by decide), gR_46_2 hC, Option.bind_some, lI_47 hC (show p < 8 by omega), Option.bind_some, h.2 p hp, y_has1 (lt128 hn (row_lt _ _ _)) (by omega), Option.bind_some, zjn_eq, row_tb, decide_eq_true (show o < n by omega), Bool.true_and]
      cases hA : adj L p o with
      | false =>
        rw [hA] at ih
        rw [b_ff, if_pos rfl]; exact ih
      | true =>
        rw [hA, Bool.true_and] at ih
        rw [b_tt, if_neg (by decide), gR_46_30 hC, Option.bind_some, lI_63 hC (show o < 8 by omega), Option.bind_some, c1]
        by_cases hq : col o = g
        · rw [hq, beq_self_eq_true] at ih
          rw [hq, if_pos rfl]; exact ih
        · have : (col o == g) = false := by simpa using hq
          rw [this] at ih
          rw [if_neg (by rw [n_eq (by omega) (by omega)]; exact hq)]; exact ih
theorem y_ways {n L c : Nat} (hn : n < 8) (hc : c < 10) : ∀ d f used col M, d ≤ n → d < f → used ≤ n - d → used ≤ c → (∀ o, o < n - d → col o < used) → zC M → NrH n L M → (∀ o, o < n - d → zI M 63 o = nI (col o)) →
    ∃ M', fp_X11_ways f 46 (nI (n - d)) (nI used) (nI c) M = some (wys n L c d col used, M') ∧ Fz at63 M M' ∧ ∀ o, o < n - d → zI M' 63 o = zI M 63 o := by
  intro d
  induction d with
  | zero =>
    intro f used col M hd hf hu huc hcol hC hN hG
    obtain ⟨f, rfl⟩ : ∃ g, f = g + 1 := ⟨f - 1, by omega⟩
    refine ⟨M, ?_, Fz_refl, fun _ _ => rfl⟩
    rw [fp_X11_ways, ts_46 hC, gI_46 hC, Option.bind_some, hN.1, Nat.sub_zero, if_neg (fun z => z rfl)]
    rfl
  | succ d ih =>
    intro f used col M hd hf hu huc hcol hC hN hG
    obtain ⟨f, rfl⟩ : ∃ g, f = g + 1 := ⟨f - 1, by omega⟩
    obtain ⟨p, hp⟩ : ∃ p, p = n - (d + 1) := ⟨_, rfl⟩
    have hp1 : n - d = p + 1 := by omega
    have hpn : p < n := by omega
    rw [← hp] at hu hG hcol ⊢
    rw [hp1] at ih
    let W : Nat → Int64 := fun g => if blk n L col p g then 0 else wys n L c d (putN col p g) used
    have hW : wys n L c (d + 1) col used = if used < c then smL W used + (nI (c - used)).toInt64 * wys n L c d (putN col p used) (used + 1) else smL W used := by rw [wys, ← hp]
    rw [fp_X11_ways, ts_46 hC, gI_46 hC, Option.bind_some, hN.1, if_pos (by rw [ne_eq, n_eq (by omega) (by omega)]; omega)]
    -- one colour tried
    have onec : ∀ g u' M1, zC M1 → NrH n L M1 → (∀ o, o < p → zI M1 63 o = nI (col o)) → g < u' → u' ≤ p + 1 → u' ≤ c → (∀ o, o < p → col o < u') → ∃ M', fp_X11_ways f 46 (nI (p + 1)) (nI u') (nI c) (zsI M1 63 p (nI g)) = some (wys n L c d (putN col p g) u', M') ∧ Fz at63 M1 M' ∧ ∀ o, o < p → zI M' 63 o = nI (col o) := by
      intro g u' M1 h1 h2 h3 h4 h5 h6 h7
      obtain ⟨M', a1, a2, a3⟩ := ih f u' (putN col p g) (zsI M1 63 p (nI g)) (by omega) (by omega) h5 h6 (fun o ho => by
        unfold putN
        split
        · exact h4
        · exact h7 o (by omega)) h1 (NrH_z (P := at63) h2 (Fz_sI rfl) (by omega) (fun k => by omega)) (fun o ho => by
        unfold putN
        by_cases hop : o = p
        · rw [if_pos hop, hop, zI_same]
        · rw [if_neg hop, zI_other _ _ (Or.inr hop)]; exact h3 o (by omega))
      refine ⟨M', a1, Fz_trans (Fz_sI rfl) a2, fun o ho => ?_⟩
      rw [a3 o (by omega), zI_other _ _ (Or.inr (by omega))]
      exact h3 o ho
    -- the colours that there are, and a new one
    have loop : ∀ e g i M1, i + e = used → e + 2 < g → Fz at63 M M1 → (∀ o, o < p → zI M1 63 o = nI (col o)) → ∃ M', fp_X11_ways_L16 (fun w0 w1 w2 w3 Mw => fp_X11_ways f w0 w1 w2 w3 Mw) 46 (nI p) (nI used) (nI c) g (smL W i) (nI i) M1 = some (wys n L c (d + 1) col used, M') ∧ Fz at63 M M' ∧ ∀ o, o < p → zI M' 63 o = nI (col o) := by
      intro e
      induction e with
      | zero =>
        intro g i M1 h1 h2 h3 h4
        obtain ⟨g, rfl⟩ : ∃ q, g = q + 2 := ⟨g - 2, by omega⟩
        have hi : i = used := by omega
        subst hi
        have hC1 := Fz_C h3 hC
        have hN1 : NrH n L M1 := NrH_z hN h3 (by omega) (fun k => by omega)
        rw [fp_X11_ways_L16, if_neg (by rw [gt_iff_lt, n_lt (by omega) (by omega)]; omega), hW]
        by_cases hcc : i < c
        · rw [if_pos hcc, go hcc (by omega), y_good (col := col) _ hC1 hN1 hn hpn (by omega) (fun o ho => ⟨h4 o ho, by have := hcol o ho; omega⟩), zjn_eq, gdB_new hcol, b_tt]
          obtain ⟨M2, a1, a2, a3⟩ := onec i (i + 1) M1 hC1 hN1 h4 (by omega) (by omega) (by omega) (fun o ho => by have := hcol o ho; omega)
          rw [if_pos (by decide), gR_46_30 hC1, Option.bind_some, tI_63 hC1 (show p < 8 by omega), Option.bind_some, zjn_eq, if_pos (by rw [ge_iff_le, n_le (by omega) (by omega)]; omega), inc, inc, a1, Option.bind_some]
          unfold zpp
          dsimp only
          rw [lett_eq, n_sub (by omega), fp_X11_ways_L16, if_pos (by rw [gt_iff_lt, n_lt (by omega) (by omega)]; omega)]
          exact ⟨M2, rfl, Fz_trans h3 a2, a3⟩
        · rw [if_neg hcc, if_pos (by rw [ge_iff_le, n_le (by omega) (by omega)]; omega)]
          exact ⟨M1, rfl, h3, h4⟩
      | succ e ih2 =>
        intro g i M1 h1 h2 h3 h4
        obtain ⟨g, rfl⟩ : ∃ q, g = q + 1 := ⟨g - 1, by omega⟩
        have hi : i < used := by omega
        have hC1 := Fz_C h3 hC
        have hN1 : NrH n L M1 := NrH_z hN h3 (by omega) (fun k => by omega)
        rw [fp_X11_ways_L16, if_neg (by rw [gt_iff_lt, n_lt (by omega) (by omega)]; omega), go (show i < c by omega) (by omega), y_good (col := col) _ hC1 hN1 hn hpn (by omega) (fun o ho => ⟨h4 o ho, by have := hcol o ho; omega⟩), zjn_eq]
        have eb := blk_gd (n := n) (L := L) (col := col) (p := p) (g := i) (by omega)
        cases hgd : gdB L col p i p with
        | false =>
          rw [hgd] at eb
          rw [b_ff, if_neg (by decide)]
          dsimp only
          rw [inc]
          have : smL W (i + 1) = smL W i := by
            show smL W i + W i = _
            have : W i = 0 := by show (if _ then _ else _) = _; rw [if_pos (by rw [eb]; rfl)]
            rw [this, Int64.add_zero]
          have r := ih2 g (i + 1) M1 (by omega) (by omega) h3 h4
          rw [this] at r
          exact r
        | true =>
          rw [hgd] at eb
          obtain ⟨M2, a1, a2, a3⟩ := onec i used M1 hC1 hN1 h4 hi (by omega) huc hcol
          rw [b_tt, if_pos (by decide), gR_46_30 hC1, Option.bind_some, tI_63 hC1 (show p < 8 by omega), Option.bind_some, zjn_eq, go hi (by omega), inc, a1, Option.bind_some]
          unfold zpp
          dsimp only
          rw [lett_eq, inc]
          have : smL W (i + 1) = smL W i + wys n L c d (putN col p i) used := by
            show smL W i + W i = _
            have : W i = wys n L c d (putN col p i) used := by show (if _ then _ else _) = _; rw [if_neg (by rw [eb]; decide)]
            rw [this]
          have r := ih2 g (i + 1) M2 (by omega) (by omega) (Fz_trans h3 a2) a3
          rw [this] at r
          exact r
    obtain ⟨M', a1, a2, a3⟩ := loop used FU 0 M (by omega) (FU_gt (by omega)) Fz_refl hG
    rw [← n_0] at a1
    exact ⟨M', a1, a2, fun o ho => by rw [a3 o ho, hG o ho]⟩
theorem y_paint {S : zSt} {c : Nat} {M : zM} (h : IR S M) (hc : c < 10) : ∃ M', fp_X11_ways FD 46 0 0 (nI c) M = some (pnt (sN S) (sL S) c, M') ∧ IR S M' ∧ Fc atR M M' := by
  obtain ⟨M', e1, e2, e3⟩ := y_ways (L := sL S) (IR_n h).2 hc (sN S) FD 0 (fun _ => 0) M (Nat.le_refl _) (by have := (IR_n h).2; show _ < 20; omega) (Nat.zero_le _) (Nat.zero_le _) (fun o ho => by omega) (IR_C h) (IR_N h) (fun g hg => by omega)
  rw [Nat.sub_self, ← n_0] at e1
  exact ⟨M', e1, IR_z h (sc63 e2), scR_c (sc63 e2)⟩
theorem y_paintings {S : zSt} {M : zM} (h : IR S M) (v : Int32) : RM (q_paintings S v) (fp_X11_paintings 46 v M) M := by
  unfold fp_X11_paintings q_paintings
  have hC := IR_C h
  rw [ts_46 hC, show (9 : Int32) = nI 9 from by decide, y_from0 (by decide), Option.bind_some, y_refuse hC]
  cases hv : asN v (9 + 1) with
  | none =>
    rw [b_no, if_neg (by decide)]
    exact ⟨_, rfl, IR_st h, Fc_1 (by decide)⟩
  | some c =>
    obtain ⟨rfl, hw, hb⟩ := asN_some hv
    dsimp only
    have h1 : IR (stS S 0) (zsI M 46 1 0) := IR_st h
    obtain ⟨M', e1, e2, e3⟩ := y_paint h1 hw
    rw [b_so, if_pos (show (1 : Int32) ≠ 0 by decide), pI_46 hC, Option.bind_some, e1]
    exact ⟨M', rfl, e2, Fc_trans (Fc_1 (by decide)) e3⟩
/-! as many colours as points do -/
def wyN (n L c : Nat) : Nat → (Nat → Nat) → Nat → Nat
  | 0, _, _ => 1
  | d + 1, col, used =>
    let s := smN (fun g => if blk n L col (n - (d + 1)) g then 0 else wyN n L c d (putN col (n - (d + 1)) g) used) used
    if used < c then s + (c - used) * wyN n L c d (putN col (n - (d + 1)) used) (used + 1) else s
theorem smL_N {f : Nat → Int64} {g : Nat → Nat} {n : Nat} (h : ∀ i, i < n → f i = jI (g i)) : smL f n = jI (smN g n) := by
  induction n with
  | zero => exact j_0
  | succ n ih => rw [smL, smN, ih fun i hi => h i (by omega), h n (Nat.lt_succ_self _), j_add]
theorem wyN_eq {n L c : Nat} (hc : c < 10) : ∀ d col used, wys n L c d col used = jI (wyN n L c d col used) := by
  intro d
  induction d with
  | zero => intro col used; exact j_1
  | succ d ih =>
    intro col used
    rw [wys, wyN]
    have e : smL (fun g => if blk n L col (n - (d + 1)) g then 0 else wys n L c d (putN col (n - (d + 1)) g) used) used = jI (smN (fun g => if blk n L col (n - (d + 1)) g then 0 else wyN n L c d (putN col (n - (d + 1)) g) used) used) := smL_N fun i _ => by
      split
      · exact j_0
      · exact ih _ _
    try dsimp only
    rw [e]
    split
    · rw [ih, j_of (by omega), j_mul, j_add]
    · rfl
theorem smN_ub {f : Nat → Nat} {n b : Nat} (h : ∀ i, i < n → f i ≤ b) : smN f n ≤ n * b := by
  induction n with
  | zero => exact Nat.zero_le _
  | succ n ih =>
    have h1 := ih fun i hi => h i (by omega)
    have h2 := h n (Nat.lt_succ_self _)
    rw [smN, Nat.succ_mul]; omega
theorem wyN_le {n L c : Nat} : ∀ d col used, used ≤ c → wyN n L c d col used ≤ c ^ d := by
  intro d
  induction d with
  | zero => intro col used _; exact Nat.le_refl _
  | succ d ih =>
    intro col used hu
    rw [wyN]
    try dsimp only
    have h1 := smN_ub (f := fun g => if blk n L col (n - (d + 1)) g then 0 else wyN n L c d (putN col (n - (d + 1)) g) used) (n := used) (b := c ^ d) fun i _ => by
      try dsimp only
      split
      · exact Nat.zero_le _
      · exact ih _ _ hu
    rw [Nat.pow_succ, Nat.mul_comm (c ^ d) c]
    split
    · rename_i hc
      have h2 := Nat.mul_le_mul_left (c - used) (ih (putN col (n - (d + 1)) used) (used + 1) (by omega))
      have h3 : c * c ^ d = used * c ^ d + (c - used) * c ^ d := by rw [← Nat.add_mul]; congr 1; omega
      omega
    · have : used = c := by omega
      rw [this] at h1 ⊢
      exact h1
theorem wyN_pos {n L c : Nat} (hc : n ≤ c) : ∀ d col used, d ≤ n → used ≤ n - d → 0 < wyN n L c d col used := by
  intro d
  induction d with
  | zero => intro col used _ _; exact Nat.lt_succ_self 0
  | succ d ih =>
    intro col used hd hu
    rw [wyN]
    try dsimp only
    rw [if_pos (show used < c by omega)]
    have := Nat.mul_pos (show 0 < c - used by omega) (ih (putN col (n - (d + 1)) used) (used + 1) (by omega) (by omega))
    omega
theorem pnt_n {n L : Nat} (hn : n < 8) : pnt n L n ≠ 0 := by
  unfold pnt
  rw [wyN_eq (by omega), j_0]
  intro h
  have h1 := wyN_pos (n := n) (L := L) (c := n) (Nat.le_refl _) n (fun _ => 0) 0 (Nat.le_refl _) (Nat.zero_le _)
  have h2 := wyN_le (n := n) (L := L) (c := n) n (fun _ => 0) 0 (Nat.zero_le _)
  have h3 : ∀ k, k < 8 → k ^ k < 2 ^ 63 := by decide
  have := j_inj (Nat.lt_of_le_of_lt h2 (h3 n hn)) (by decide) h
  omega
theorem y_colours {S : zSt} {M : zM} (h : IR S M) : RM (q_colours S) (fp_X11_colours 46 M) M := by
  unfold fp_X11_colours q_colours
  have g2 := (IR_n h).2
  rw [ts_46 (IR_C h)]
  have key : ∀ d c f M1, c + d = sN S → d < f → IR S M1 → Fc atR M M1 → RM (gv S (nI (fwC (sN S) (sL S) d c))) (fp_X11_colours_L2 46 f (nI c) M1) M := by
    intro d
    induction d with
    | zero =>
      intro c f M1 h1 h2 h3 h4
      obtain ⟨f, rfl⟩ : ∃ g, f = g + 1 := ⟨f - 1, by omega⟩
      have hc : c = sN S := by omega
      obtain ⟨M2, e1, e2, e3⟩ := y_paint (c := c) h3 (by omega)
      rw [fp_X11_colours_L2, e1, Option.bind_some]
      unfold zpp
      dsimp only
      rw [if_pos (show lg_cmp (pnt (sN S) (sL S) c) 0 ≠ 0 by rw [cmp_0, hc]; exact pnt_n g2), fwC]
      exact y_gv e2 (Fc_trans h4 e3)
    | succ d ih =>
      intro c f M1 h1 h2 h3 h4
      obtain ⟨f, rfl⟩ : ∃ g, f = g + 1 := ⟨f - 1, by omega⟩
      obtain ⟨M2, e1, e2, e3⟩ := y_paint (c := c) h3 (by omega)
      rw [fp_X11_colours_L2, e1, Option.bind_some]
      unfold zpp
      dsimp only
      rw [fwC]
      by_cases hz : pnt (sN S) (sL S) c = 0
      · rw [if_neg (show ¬ lg_cmp (pnt (sN S) (sL S) c) 0 ≠ 0 by rw [cmp_0]; exact fun q => q hz), if_pos hz, inc]
        exact ih (c + 1) f M2 (by omega) (by omega) e2 (Fc_trans h4 e3)
      · rw [if_pos (show lg_cmp (pnt (sN S) (sL S) c) 0 ≠ 0 by rw [cmp_0]; exact hz), if_neg hz]
        exact y_gv e2 (Fc_trans h4 e3)
  rw [n_0]
  exact key (sN S) 0 FU M (by omega) (FU_gt (by omega)) h Fc_refl

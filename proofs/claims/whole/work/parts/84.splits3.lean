/-! ===== 84: the reference: splits, strong, prime ===== -/
theorem rk_le (n L s : Nat) : rk n L s ≤ n := by
  unfold rk
  have : ∀ (g : Nat → Nat) m, (gns s.testBit g m).length ≤ m := by
    intro g m
    induction m with
    | zero => exact Nat.le_refl _
    | succ m ih3 =>
      rw [gns]
      split
      · rw [List.length_cons]; omega
      · omega
  exact this _ n
def canB (n s : Nat) : Bool := s.testBit 0 && (decide (2 ≤ pc s) && decide (2 ≤ n - pc s))
theorem y_canSplit {n s : Nat} (hn : n < 9) (hs : s < 256) : fp_X11_canSplit (nI s) (nI n) = some (bI (canB n s)) := by
  unfold fp_X11_canSplit canB
  have h8 : pc s ≤ 8 := pc_le (n := 8) hs (by decide)
  rw [show (0 : Int32) = nI 0 from n_0, y_has (by omega) (by decide), Option.bind_some]
  cases s.testBit 0 with
  | false => rw [b_ff, if_pos n_0]; rfl
  | true =>
    rw [b_tt, if_neg (by decide), y_bits (by omega), Option.bind_some, n_1]
    by_cases h2 : pc s ≤ 1
    · rw [if_pos (by rw [n_le (by omega) (by decide)]; exact h2), decide_eq_false (by omega)]; rfl
    · rw [if_neg (by rw [n_le (by omega) (by decide)]; exact h2), decide_eq_true (by omega), Option.bind_some]
      by_cases h0 : n = 0
      · rw [h0, if_pos (by
          have : ∀ k, k < 9 → 1 < k → (nI k ≥ nI 0 - nI 1) := by decide
          exact this _ (by omega) (by omega)), decide_eq_false (by omega)]; rfl
      · rw [n_sub (by omega)]
        by_cases h3 : n - 1 ≤ pc s
        · rw [if_pos (by rw [ge_iff_le, n_le (by omega) (by omega)]; exact h3), decide_eq_false (by omega)]; rfl
        · rw [if_neg (by rw [ge_iff_le, n_le (by omega) (by omega)]; exact h3), decide_eq_true (by omega)]; rfl
def pS (n L s : Nat) : Bool := canB n s && rk n L s == 1
theorem pS_eq (n L s : Nat) : pS n L s = (s.testBit 0 && isSp n L s) := by
  unfold pS canB isSp
  simp only [Bool.and_assoc]
def fl (n L k : Nat) : List Nat := (List.range k).filter (pS n L)
theorem fl_s (n L k : Nat) : fl n L (k + 1) = fl n L k ++ (if pS n L k then [k] else []) := by
  unfold fl
  rw [List.range_succ, List.filter_append]
  congr 1
  cases h : pS n L k <;> simp [h]
theorem fl_odd (n L : Nat) : ∀ j, fl n L (2 * j) = oddl (isSp n L) j := by
  intro j
  induction j with
  | zero => rfl
  | succ j ih =>
    rw [show 2 * (j + 1) = 2 * j + 1 + 1 by omega, fl_s, fl_s, ih, oddl]
    have h1 : pS n L (2 * j) = false := by rw [pS_eq, Nat.testBit_zero, show 2 * j % 2 = 0 by omega]; rfl
    have h2 : pS n L (2 * j + 1) = isSp n L (2 * j + 1) := by rw [pS_eq, Nat.testBit_zero, show (2 * j + 1) % 2 = 1 by omega]; rfl
    rw [h1, h2]
    cases isSp n L (2 * j + 1) <;> simp
theorem fl_all (n L : Nat) : fl n L (2 ^ n) = spl n L := by
  unfold spl
  cases n with
  | zero =>
    show fl 0 L 1 = _
    rw [fl_s]
    have : pS 0 L 0 = false := rfl
    rw [this]; rfl
  | succ n =>
    rw [Nat.pow_succ, Nat.mul_div_cancel _ (by decide), Nat.mul_comm, fl_odd]
theorem fl_len (n L k : Nat) : (fl n L k).length ≤ k := by
  have := List.length_filter_le (pS n L) (List.range k)
  rw [List.length_range] at this
  exact this
theorem spl_len2 {n L : Nat} (hn : n < 8) : (spl n L).length < 128 := by
  have h1 := oddl_len (isSp n L) (2 ^ n / 2)
  have h2 := two_pow7 hn
  unfold spl; omega
abbrev atS : Nat → Nat → Prop := fun a k => a = 57 ∨ (a = 46 ∧ k = 22)
theorem scS {M M' : zM} (h : Fz atS M M') : Fz scR M M' := Fz_mono h fun a k q => by show (a = 46 ∧ _) ∨ _; omega
def tld (l : List Nat) (v : Int32) : Int32 := match asN v l.length with | some k => nI (l.getD k 0) | none => -1
theorem NrS {n L : Nat} {M M' : zM} (h : NrH n L M) (hf : Fz atS M M') : NrH n L M' := NrH_z h hf (by omega) (fun k => by omega)
theorem y_splits {n L : Nat} {M : zM} (v : Int32) (hC : zC M) (h : NrH n L M) (hn : n < 8) : ∃ M', fp_X11_splits 46 v M = some (nI (spl n L).length, M') ∧ Fz atS M M' ∧ zI M' 46 22 = tld (spl n L) v := by
  unfold fp_X11_splits
  have h2 := two_pow7 hn
  have hpos := Nat.two_pow_pos n
  rw [ts_46 hC, pI_46 hC, Option.bind_some]
  have key : ∀ s0, s0 = 0 → ∀ M1, Fz atS M M1 → zI M1 46 22 = tld (fl n L s0) v → ∃ M', fp_X11_splits_L9 46 v FU (nI (fl n L s0).length) (nI s0) M1 = some (nI (spl n L).length, M') ∧ Fz atS M M' ∧ zI M' 46 22 = tld (spl n L) v := by
    intro s0 hs0
    refine up (P := fun s f => ∀ M1, Fz atS M M1 → zI M1 46 22 = tld (fl n L s) v → ∃ M', fp_X11_splits_L9 46 v f (nI (fl n L s).length) (nI s) M1 = some (nI (spl n L).length, M') ∧ Fz atS M M' ∧ zI M' 46 22 = tld (spl n L) v) (a := s0) (n := 2 ^ n) ?_ ?_ FU (by omega) (FU_gt (by omega))
    · intro f M1 f1 f2
      have hC1 := Fz_C f1 hC
      rw [fl_all] at f2 ⊢
      have hp := Nat.two_pow_pos n
      refine ⟨M1, by rw [fp_X11_splits_L9, y_all hC1 hn (NrS h f1), Option.bind_some, all_eq, if_pos (by rw [gt_iff_lt, n_lt (by omega) (by omega)]; omega)], f1, f2⟩
    · intro s f _ hs ih M1 f1 f2
      have hC1 := Fz_C f1 hC
      have hN1 := NrS h f1
      have hl := fl_len n L s
      rw [fp_X11_splits_L9, y_all hC1 hn hN1, Option.bind_some, all_eq, if_neg (by rw [gt_iff_lt, n_lt (by omega) (by omega)]; omega), gI_46 hC1, Option.bind_some, hN1.1, y_canSplit (by omega) (by omega), Option.bind_some, zjn_eq, inc]
      have skip : pS n L s = false → ∀ M2, Fz atS M M2 → zI M2 46 22 = tld (fl n L s) v → ∃ M', fp_X11_splits_L9 46 v f (nI (fl n L s).length) (nI (s + 1)) M2 = some (nI (spl n L).length, M') ∧ Fz atS M M' ∧ zI M' 46 22 = tld (spl n L) v := by
        intro hq M2 q1 q2
        have e : fl n L (s + 1) = fl n L s := by rw [fl_s, hq, if_neg (by decide), List.append_nil]
        have := ih M2 q1 (by rw [e]; exact q2)
        rw [e] at this
        exact this
      cases hc : canB n s with
      | false =>
        rw [b_ff, if_pos rfl]
        exact skip (by unfold pS; rw [hc]; rfl) M1 f1 f2
      | true =>
        obtain ⟨M2, e1, e2⟩ := y_rank0 (s := s) hC1 hN1 hn (by omega)
        have hC2 := Fz_C e2 hC1
        have f3 : Fz atS M M2 := Fz_trans f1 (Fz_mono e2 fun a k q => Or.inl q)
        have t2 : zI M2 46 22 = tld (fl n L s) v := (e2.2 _ _ (by decide)).trans f2
        have hrk : rk n L s < 128 := by have := rk_le n L s; omega
        rw [b_tt, if_neg (by decide), gR_46_2 hC1, Option.bind_some, Option.bind_some, e1, Option.bind_some]
        unfold zpp
        dsimp only
        by_cases hr : rk n L s = 1
        · have hp : pS n L s = true := by unfold pS; rw [hc, hr]; rfl
          have e : fl n L (s + 1) = fl n L s ++ [s] := by rw [fl_s, hp, if_pos rfl]
          have el : (fl n L (s + 1)).length = (fl n L s).length + 1 := by rw [e, List.length_append]; rfl
          rw [hr, if_pos (by decide), zjn_eq, inc, ← el]
          by_cases hv : nI (fl n L s).length = v
          · rw [if_neg (by intro z; exact z hv)]
            dsimp only
            rw [pI_46 hC2, Option.bind_some]
            refine ih _ (Fz_trans f3 (Fz_sI (Or.inr ⟨rfl, rfl⟩))) ?_
            rw [zI_same]
            unfold tld
            rw [el, ← hv, asN_n (Nat.lt_succ_self _) (by omega), e]
            dsimp only
            rw [show (fl n L s ++ [s]).getD (fl n L s).length 0 = s from getD_snoc]
          · rw [if_pos hv, gI_46 hC2, Option.bind_some]
            dsimp only
            rw [pI_46 hC2, Option.bind_some]
            refine ih _ (Fz_trans f3 (Fz_sI (Or.inr ⟨rfl, rfl⟩))) ?_
            rw [zI_same, t2]
            unfold tld
            rw [el, e]
            cases ha : asN v (fl n L s).length with
            | some k =>
              obtain ⟨rfl, hk, hb⟩ := asN_some ha
              rw [asN_n (show k < (fl n L s).length + 1 by omega) hb]
              dsimp only
              rw [getD_app_l hk]
            | none =>
              rcases asN_none ha with h0 | ⟨j, rfl, hj, hb⟩
              · cases hb : asN v ((fl n L s).length + 1) with
                | none => rfl
                | some k =>
                  obtain ⟨rfl, hk, hb⟩ := asN_some hb
                  rw [n_lt0 hb] at h0; exact h0.elim
              · cases hb2 : asN (nI j) ((fl n L s).length + 1) with
                | none => rfl
                | some k =>
                  obtain ⟨q1, q2, q3⟩ := asN_some hb2
                  rw [n_eq hb q3] at q1
                  exact absurd (by rw [show (fl n L s).length = j by omega]) hv
        · rw [if_neg (by rw [n_1, n_eq (by omega) (by decide)]; exact hr)]
          exact skip (by unfold pS; rw [hc]; simpa using hr) M2 f3 t2
  have e0 : fl n L 0 = [] := rfl
  have := key 0 rfl (zsI M 46 22 (-1)) (Fz_sI (Or.inr ⟨rfl, rfl⟩)) (by
    rw [zI_same, e0]; unfold tld
    cases hv : asN v ([] : List Nat).length with
    | none => rfl
    | some k => exact absurd (asN_some hv).2.1 (Nat.not_lt_zero _))
  rw [e0] at this
  rw [n_0]
  exact this
theorem spt_pos {S : zSt} {v k : Int32} (h : spt S v = .inl k) : k = 1 ∨ k = 6 ∨ k = 7 := by
  unfold spt at h
  split at h
  · cases h; decide
  · split at h
    · split at h
      · cases h; decide
      · cases h
    · cases h; decide
theorem y_wrongSplit {S : zSt} {M : zM} (h : IR S M) (v : Int32) : ∃ M', fp_X11_wrongSplit 46 v M = some ((match spt S v with | .inl k => k | .inr _ => 0), M') ∧ IR S M' ∧ Fc atR M M' ∧ ∀ k, spt S v = .inr k → zI M' 46 22 = nI ((spls (sN S) (sL S)).getD k 0) := by
  unfold fp_X11_wrongSplit spt
  have hC := IR_C h
  obtain ⟨g1, g2⟩ := IR_n h
  rw [ts_46 hC]
  by_cases h0 : v < 0
  · rw [if_neg (by rw [ge_iff_le, Int32.not_le]; exact h0), if_pos h0]
    exact ⟨M, rfl, h, Fc_refl, fun k q => by cases q⟩
  · rw [if_pos (by rw [ge_iff_le]; exact Int32.not_lt.mp h0), if_neg h0, y_areJoined hC (IR_N h) g2 (IR_L h), Option.bind_some]
    cases hj : joi (sN S) (sL S) with
    | false =>
      rw [b_ff, if_neg (by decide), if_neg (by decide)]
      exact ⟨M, rfl, h, Fc_refl, fun k q => by cases q⟩
    | true =>
      obtain ⟨M1, e1, e2, e3⟩ := y_splits v hC (IR_N h) g2
      have hs : spls (sN S) (sL S) = spl (sN S) (sL S) := by unfold spls; rw [hj]; rfl
      have hl := spl_len2 (L := sL S) g2
      rw [b_tt, if_pos (by decide), e1, Option.bind_some, if_pos rfl, hs]
      unfold zpp
      dsimp only
      unfold tld at e3
      cases ha : asN v (spl (sN S) (sL S)).length with
      | none =>
        rcases asN_none ha with h1 | ⟨j, rfl, hj2, hb⟩
        · exact absurd h1 h0
        · rw [if_pos (by rw [ge_iff_le, n_le (by omega) hb]; exact hj2)]
          exact ⟨M1, rfl, IR_z h (scS e2), scR_c (scS e2), fun k q => by cases q⟩
      | some k =>
        obtain ⟨rfl, hk, hb⟩ := asN_some ha
        rw [ha] at e3
        rw [go hk (by omega)]
        exact ⟨M1, rfl, IR_z h (scS e2), scR_c (scS e2), fun k' q => by cases q; exact e3⟩
theorem y_split {S : zSt} {M : zM} (h : IR S M) (v : Int32) : RM (q_split S v) (fp_X11_split 46 v M) M := by
  unfold fp_X11_split q_split
  obtain ⟨M1, e1, e2, e3, e4⟩ := y_wrongSplit h v
  rw [ts_46 (IR_C h), e1, Option.bind_some]
  unfold zpp
  dsimp only
  cases hs : spt S v with
  | inl k =>
    dsimp only
    rw [if_neg (by rcases spt_pos hs with rfl | rfl | rfl <;> decide)]
    exact y_rf e2 e3
  | inr k =>
    dsimp only
    rw [if_pos (by decide), gI_46 (IR_C e2), Option.bind_some, e4 k hs]
    exact y_gv e2 e3
theorem outs_side {n o s : Nat} (ho : o < 2 ^ n) : outs o s = o &&& outs (1 <<< n - 1) s := by
  apply Nat.eq_of_testBit_eq
  intro i
  rw [outs_tb, Nat.testBit_and, outs_tb, all_tb]
  by_cases hi : i < n
  · rw [decide_eq_true hi, Bool.true_and]
  · rw [tb_of_lt ho (by omega)]; rfl
theorem outs_away {n o s : Nat} (ho : o < 2 ^ n) : outs o ((1 <<< n - 1) ^^^ s) = o &&& s := by
  apply Nat.eq_of_testBit_eq
  intro i
  rw [outs_tb, Nat.testBit_xor, Nat.testBit_and, all_tb]
  by_cases hi : i < n
  · rw [decide_eq_true hi]; cases o.testBit i <;> cases s.testBit i <;> rfl
  · rw [tb_of_lt ho (by omega)]; rfl
theorem all_out {n o : Nat} (ho : o < 2 ^ n) : outs (1 <<< n - 1) o = (1 <<< n - 1) ^^^ o := by
  apply Nat.eq_of_testBit_eq
  intro i
  rw [outs_tb, Nat.testBit_xor, all_tb]
  by_cases hi : i < n
  · rw [decide_eq_true hi]; cases o.testBit i <;> rfl
  · rw [decide_eq_false hi, tb_of_lt ho (by omega)]; rfl
theorem bsd_eq {n side o : Nat} (ho : o < 2 ^ n) : bsd n side o = ((o &&& outs (1 <<< n - 1) side == 0) || ((o &&& side == 0) || ((outs (1 <<< n - 1) o &&& outs (1 <<< n - 1) side == 0) || (outs (1 <<< n - 1) o &&& side == 0)))) := by
  have hl : outs (1 <<< n - 1) o < 2 ^ n := Nat.lt_of_le_of_lt (outs_le _ _) (all_lt n)
  unfold bsd wth
  rw [← all_out ho, outs_side ho, outs_away ho, outs_side hl, outs_away hl]
theorem y_isStrong {n L side : Nat} {M : zM} (hC : zC M) (h : NrH n L M) (hn : n < 8) (hs : side < 2 ^ n) : ∃ M', fp_X11_isStrong 46 (nI side) M = some (bI (strg n (spl n L) side), M') ∧ Fz atS M M' := by
  unfold fp_X11_isStrong
  have h2 := two_pow7 hn
  have hp := Nat.two_pow_pos n
  rw [ts_46 hC, y_all hC hn h, Option.bind_some, lett_eq, n_not]
  have key : ∀ s0, s0 = 0 → ∀ M1, Fz atS M M1 → (fl n L s0).all (fun o => bsd n side o) = true → ∃ M', fp_X11_isStrong_L11 46 (nI side) (nI (outs (1 <<< n - 1) side)) FU (nI s0) M1 = some (bI (strg n (spl n L) side), M') ∧ Fz atS M M' := by
    intro s0 hs0
    refine up (P := fun s f => ∀ M1, Fz atS M M1 → (fl n L s).all (fun o => bsd n side o) = true → ∃ M', fp_X11_isStrong_L11 46 (nI side) (nI (outs (1 <<< n - 1) side)) f (nI s) M1 = some (bI (strg n (spl n L) side), M') ∧ Fz atS M M') (a := s0) (n := 2 ^ n) ?_ ?_ FU (by omega) (FU_gt (by omega))
    · intro f M1 f1 f2
      have hC1 := Fz_C f1 hC
      rw [fl_all] at f2
      refine ⟨M1, ?_, f1⟩
      rw [fp_X11_isStrong_L11, y_all hC1 hn (NrS h f1), Option.bind_some, all_eq, if_pos (by rw [gt_iff_lt, n_lt (by omega) (by omega)]; omega)]
      unfold strg
      rw [f2]; rfl
    · intro s f _ hs1 ih M1 f1 f2
      have hC1 := Fz_C f1 hC
      have hN1 := NrS h f1
      rw [fp_X11_isStrong_L11, y_all hC1 hn hN1, Option.bind_some, if_neg (by rw [gt_iff_lt, all_eq, n_lt (by omega) (by omega)]; omega), gI_46 hC1, Option.bind_some, hN1.1, y_canSplit (by omega) (by omega), Option.bind_some, zjn_eq, inc]
      have skip : (pS n L s = true → bsd n side s = true) → ∀ M2, Fz atS M M2 → ∃ M', fp_X11_isStrong_L11 46 (nI side) (nI (outs (1 <<< n - 1) side)) f (nI (s + 1)) M2 = some (bI (strg n (spl n L) side), M') ∧ Fz atS M M' := by
        intro hq M2 q1
        refine ih M2 q1 ?_
        rw [fl_s, List.all_append, f2, Bool.true_and]
        cases hp : pS n L s with
        | false => rfl
        | true => simp [hq hp]
      cases hc : canB n s with
      | false =>
        rw [b_ff, if_pos rfl]
        exact skip (fun z => by unfold pS at z; rw [hc] at z; cases z) M1 f1
      | true =>
        obtain ⟨M2, e1, e2⟩ := y_rank0 (s := s) hC1 hN1 hn (by omega)
        have hC2 := Fz_C e2 hC1
        have f3 : Fz atS M M2 := Fz_trans f1 (Fz_mono e2 fun a k q => Or.inl q)
        have hrk : rk n L s < 128 := by have := rk_le n L s; omega
        rw [b_tt, if_neg (by decide), gR_46_2 hC1, Option.bind_some, Option.bind_some, e1, Option.bind_some]
        unfold zpp
        dsimp only
        by_cases hr : rk n L s = 1
        · have hpS : pS n L s = true := by unfold pS; rw [hc, hr]; rfl
          have al := all_lt n
          have o1 : s &&& side < 2 ^ 31 := Nat.lt_of_le_of_lt Nat.and_le_left (by omega)
          have o2 : s &&& outs (1 <<< n - 1) side < 2 ^ 31 := Nat.lt_of_le_of_lt Nat.and_le_left (by omega)
          have ol : outs (1 <<< n - 1) s ≤ 1 <<< n - 1 := outs_le _ _
          have o3 : outs (1 <<< n - 1) s &&& side < 2 ^ 31 := Nat.lt_of_le_of_lt Nat.and_le_left (by omega)
          have o4 : outs (1 <<< n - 1) s &&& outs (1 <<< n - 1) side < 2 ^ 31 := Nat.lt_of_le_of_lt Nat.and_le_left (by omega)
          have hb := bsd_eq (side := side) hs1
          rw [hr, if_pos (by decide), y_all hC2 hn (NrS h f3), Option.bind_some, lett_eq, n_not, n_and, n_and, n_and, n_and, n_0]
          have k1 : ∀ z : bsd n side s = true, ∃ M', fp_X11_isStrong_L11 46 (nI side) (nI (outs (1 <<< n - 1) side)) f (nI (s + 1)) M2 = some (bI (strg n (spl n L) side), M') ∧ Fz atS M M' := fun z => skip (fun _ => z) M2 f3
          by_cases c1 : s &&& side = 0
          · rw [if_pos (by rw [n_eq o1 (by decide)]; exact c1)]; exact k1 (by rw [hb, c1]; simp)
          · rw [if_neg (by rw [n_eq o1 (by decide)]; exact c1)]
            by_cases c2 : s &&& outs (1 <<< n - 1) side = 0
            · rw [if_pos (by rw [n_eq o2 (by decide)]; exact c2)]; exact k1 (by rw [hb, c2]; simp)
            · rw [if_neg (by rw [n_eq o2 (by decide)]; exact c2)]
              by_cases c3 : outs (1 <<< n - 1) s &&& side = 0
              · rw [if_pos (by rw [n_eq o3 (by decide)]; exact c3)]; exact k1 (by rw [hb, c3]; simp)
              · rw [if_neg (by rw [n_eq o3 (by decide)]; exact c3)]
                by_cases c4 : outs (1 <<< n - 1) s &&& outs (1 <<< n - 1) side = 0
                · rw [if_pos (by rw [n_eq o4 (by decide)]; exact c4)]; exact k1 (by rw [hb, c4]; simp)
                · rw [if_neg (by rw [n_eq o4 (by decide)]; exact c4)]
                  have hbf : bsd n side s = false := by rw [hb]; simp [c1, c2, c3, c4]
                  have hm : s ∈ spl n L := by
                    rw [← fl_all]
                    unfold fl
                    rw [List.mem_filter, List.mem_range]
                    exact ⟨hs1, hpS⟩
                  have : strg n (spl n L) side = false := by
                    unfold strg
                    rw [List.all_eq_false]
                    exact ⟨s, hm, by rw [hbf]; decide⟩
                  rw [this]
                  exact ⟨M2, rfl, f3⟩
        · rw [if_neg (by rw [n_1, n_eq (by omega) (by decide)]; exact hr)]
          exact skip (fun z => by unfold pS at z; rw [hc] at z; simp at z; exact absurd z hr) M2 f3
  rw [n_0]
  exact key 0 rfl M Fz_refl rfl
theorem y_strong {S : zSt} {M : zM} (h : IR S M) (v : Int32) : RM (q_strong S v) (fp_X11_strong 46 v M) M := by
  unfold fp_X11_strong q_strong
  have g2 := (IR_n h).2
  obtain ⟨M1, e1, e2, e3, e4⟩ := y_wrongSplit h v
  rw [ts_46 (IR_C h), e1, Option.bind_some]
  unfold zpp
  dsimp only
  cases hs : spt S v with
  | inl k =>
    dsimp only
    rw [if_neg (by rcases spt_pos hs with rfl | rfl | rfl <;> decide)]
    exact y_rf e2 e3
  | inr k =>
    dsimp only
    obtain ⟨q1, q2⟩ := spt_ok hs
    have hj : spls (sN S) (sL S) = spl (sN S) (sL S) := by
      unfold spt at hs
      split at hs
      · cases hs
      · split at hs
        · rename_i hj; unfold spls; rw [hj]; rfl
        · cases hs
    have hlt : (spls (sN S) (sL S)).getD k 0 < 2 ^ sN S := spls_lt _ (getD_mem q2)
    obtain ⟨M2, f1, f2⟩ := y_isStrong (IR_C e2) (IR_N e2) g2 hlt
    rw [if_pos (by decide), gI_46 (IR_C e2), Option.bind_some, e4 k hs, f1, Option.bind_some]
    have hI := IR_z e2 (scS f2)
    have hF := Fc_trans e3 (scR_c (scS f2))
    rw [← hj]
    dsimp only
    cases strg (sN S) (spls (sN S) (sL S)) ((spls (sN S) (sL S)).getD k 0) with
    | false => rw [b_ff, if_pos rfl]; exact y_gv hI hF
    | true => rw [b_tt, if_neg (by decide)]; exact y_gv hI hF
theorem len_0 {l : List Nat} : (l.length = 0) = (l.isEmpty = true) := by cases l <;> simp
theorem y_prm {n L : Nat} {M : zM} (hC : zC M) (h : NrH n L M) (hn : n < 8) (hL : L < 2 ^ tri n) (h4 : 4 < n) (hj : joi n L = true) : ∃ M', fp_X11_splits 46 (-1) M = some (nI (spl n L).length, M') ∧ Fz atS M M' ∧ ((spl n L).length = 0) = (prm n L = true) := by
  obtain ⟨M1, e1, e2, e3⟩ := y_splits (-1) hC h hn
  refine ⟨M1, e1, e2, ?_⟩
  unfold prm
  rw [decide_eq_true (show 5 ≤ n by omega), hj, Bool.true_and, Bool.true_and, len_0]
theorem y_prime {S : zSt} {M : zM} (h : IR S M) : RM (q_prime S) (fp_X11_prime 46 M) M := by
  unfold fp_X11_prime q_prime
  have hC := IR_C h
  obtain ⟨g1, g2⟩ := IR_n h
  rw [ts_46 hC, gI_46 hC, Option.bind_some, g1, n_4]
  by_cases h4 : sN S ≤ 4
  · rw [if_pos (by rw [n_le (by omega) (by decide)]; exact h4)]
    have : prm (sN S) (sL S) = false := by unfold prm; rw [decide_eq_false (by omega)]; rfl
    rw [this]
    exact y_gv h Fc_refl
  · rw [if_neg (by rw [n_le (by omega) (by decide)]; exact h4), y_areJoined hC (IR_N h) g2 (IR_L h), Option.bind_some]
    cases hj : joi (sN S) (sL S) with
    | false =>
      rw [b_ff, if_pos rfl]
      have : prm (sN S) (sL S) = false := by unfold prm; rw [hj]; simp
      rw [this]
      exact y_gv h Fc_refl
    | true =>
      obtain ⟨M1, e1, e2, e3⟩ := y_prm hC (IR_N h) g2 (IR_L h) (by omega) hj
      have hl := spl_len2 (L := sL S) g2
      rw [b_tt, if_neg (by decide), e1, Option.bind_some]
      unfold zpp
      dsimp only
      cases hp : prm (sN S) (sL S) with
      | true =>
        rw [hp] at e3
        rw [of_eq_true (e3.trans (eq_self true)), if_neg (by decide)]
        exact y_gv (IR_z h (scS e2)) (scR_c (scS e2))
      | false =>
        rw [hp] at e3
        have : (spl (sN S) (sL S)).length ≠ 0 := fun z => by rw [e3] at z; cases z
        rw [if_pos (by rw [n_0, ne_eq, n_eq (by omega) (by omega)]; exact this)]
        exact y_gv (IR_z h (scS e2)) (scR_c (scS e2))

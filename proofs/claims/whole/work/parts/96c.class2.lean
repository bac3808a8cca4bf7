/-! ===== 96c: the reference: all that comes of turning ===== -/
theorem y_pair : ∀ a, a < 8 → ∀ b, b < 8 → fp_X11_pair (nI a) (nI b) = some (nI (pr a b)) := by decide +kernel
theorem y_codeOf {a from0 len n L : Nat} {M : zM} (hC : zC M) (hn : n < 8) (hL : L < 2 ^ tri n) (ha : a < 72) (hk : kd a = 100) (hl : zL M a = len) (hlen : len < 3000) (hb : from0 + n ≤ len) (hr : ∀ p, p < n → zI M a (from0 + p) = nI (row n L p)) : fp_X11_codeOf a (nI from0) (nI n) M = some (nI L) := by
  unfold fp_X11_codeOf
  have st0 : fp_X11_codeOf_L5 a (nI from0) (nI n) M FU 0 0 = fp_X11_codeOf_L5 a (nI from0) (nI n) M FU (nI (bs L.testBit (tri 0))) (nI 0) := by rw [show bs L.testBit (tri 0) = 0 from rfl, ← n_0]
  rw [st0]
  refine up (P := fun x f => fp_X11_codeOf_L5 a (nI from0) (nI n) M f (nI (bs L.testBit (tri x))) (nI x) = some (nI L)) (a := 0) (n := n) ?_ ?_ FU (by omega) (FU_gt (by omega))
  · intro f
    rw [fp_X11_codeOf_L5, stp, ← bs_of hL]
  · intro x f _ hx ih
    rw [fp_X11_codeOf_L5, go hx (by omega), inc]
    refine Eq.trans (b := fp_X11_codeOf_L14 (fun v3_7 => fp_X11_codeOf_L5 a (nI from0) (nI n) M f v3_7 (nI (x + 1))) a (nI from0) (nI n) (nI x) M FU (nI (bs L.testBit (tri x + 0))) (nI 0)) (by rw [← n_0]; rfl) ?_
    refine up (P := fun y g => fp_X11_codeOf_L14 (fun v3_7 => fp_X11_codeOf_L5 a (nI from0) (nI n) M f v3_7 (nI (x + 1))) a (nI from0) (nI n) (nI x) M g (nI (bs L.testBit (tri x + y))) (nI y) = some (nI L)) (a := 0) (n := x) ?_ ?_ FU (by omega) (FU_gt (by omega))
    · intro g
      rw [fp_X11_codeOf_L14, stp, ← tri_s]
      exact ih
    · intro y g _ hy ih2
      have hbit : adj L x y = L.testBit (tri x + y) := by rw [adj_hi hy, pr_tri hy]
      have htr := pr_lt n hn x hx y hy
      rw [pr_tri hy] at htr
      have ht21 := tri_le n hn
      rw [fp_X11_codeOf_L14, go hy (by omega), n_add, lI_x hC ha hk hl hlen (show from0 + x < len by omega), Option.bind_some, hr x hx, y_has1 (lt128 hn (row_lt _ _ _)) (by omega), Option.bind_some, row_tb, decide_eq_true (show y < n by omega), Bool.true_and, hbit, zjn_eq, inc]
      cases hb2 : L.testBit (tri x + y) with
      | false =>
        rw [b_ff, if_pos rfl]
        dsimp only
        rw [lett_eq, n_0, n_or, Nat.or_zero]
        rw [show tri x + (y + 1) = tri x + y + 1 by omega, bs_skip hb2] at ih2
        exact ih2
      | true =>
        rw [b_tt, if_neg (by decide), y_pair x (by omega) y (by omega), Option.bind_some, pr_tri hy]
        dsimp only
        rw [lett_eq, sh1 (by omega), n_or]
        rw [show tri x + (y + 1) = tri x + y + 1 by omega, bs_take hb2] at ih2
        exact ih2
/-! turned, as a number -/
def tcd (n L p k : Nat) : Nat := bs (fun j => L.testBit j != (decide (j < k) && (adj L p (pi1 j) && adj L p (pi2 j)))) (tri n)
theorem tcd_0 {n L p : Nat} (hL : L < 2 ^ tri n) : tcd n L p 0 = L := by
  unfold tcd
  rw [bs_of hL]
  refine bs_congr fun i hi => ?_
  rw [decide_eq_false (Nat.not_lt_zero _), Bool.false_and, bs_tb, decide_eq_true hi, Bool.true_and]
  cases L.testBit i <;> rfl
theorem tcd_n {n L p : Nat} (hn : n < 8) : tcd n L p (tri n) = turn n L p := by
  unfold tcd turn mk
  refine bs_congr fun i hi => ?_
  obtain ⟨p1, p2, p3⟩ := pr_surj n hn i hi
  dsimp only
  rw [decide_eq_true hi, Bool.true_and, adj_hi p2, p3]
theorem tcd_s {n L p k : Nat} (hk : k < tri n) : tcd n L p (k + 1) = if (adj L p (pi1 k) && adj L p (pi2 k)) = true then tcd n L p k ^^^ 1 <<< k else tcd n L p k := by
  unfold tcd
  apply Nat.eq_of_testBit_eq
  intro i
  by_cases hc : (adj L p (pi1 k) && adj L p (pi2 k)) = true
  · rw [if_pos hc, Nat.testBit_xor, bs_tb, bs_tb, tb_set]
    by_cases hik : i = k
    · rw [hik, decide_eq_true hk, decide_eq_true (Nat.lt_succ_self k), decide_eq_false (Nat.lt_irrefl k), hc, decide_eq_true rfl]
      cases L.testBit k <;> rfl
    · rw [decide_eq_false hik, Bool.xor_false, show decide (i < k + 1) = decide (i < k) from decide_eq_decide.mpr (by omega)]
  · rw [if_neg hc, bs_tb, bs_tb]
    by_cases hik : i = k
    · have hc' : (adj L p (pi1 k) && adj L p (pi2 k)) = false := by simpa using hc
      rw [hik, hc', Bool.and_false, Bool.and_false]
    · rw [show decide (i < k + 1) = decide (i < k) from decide_eq_decide.mpr (by omega)]
theorem tcd_lt (n L p k : Nat) : tcd n L p k < 2 ^ tri n := bs_lt _ _
theorem y_turnedCode {n L p : Nat} (hn : n < 8) (hL : L < 2 ^ tri n) (hp : p < n) : fp_X11_turnedCode (nI L) (nI p) (nI n) = some (nI (turn n L p)) := by
  unfold fp_X11_turnedCode
  have hL21 := lt21 hn hL
  have st0 : fp_X11_turnedCode_L5 (nI L) (nI p) (nI n) FU (nI L) 0 = fp_X11_turnedCode_L5 (nI L) (nI p) (nI n) FU (nI (tcd n L p (tri 0))) (nI 0) := by rw [show tri 0 = 0 from rfl, tcd_0 hL, n_0]
  rw [st0]
  have adjb : ∀ a, a < n → a ≠ p → L.testBit (pr a p) = adj L p a := fun a ha hap => by
    rw [adj_comm]; unfold adj; rw [decide_eq_true hap, Bool.true_and]
  have prlt : ∀ a, a < n → a ≠ p → pr a p < 21 := fun a ha hap => pr_lt21 a (by omega) p (by omega) hap
  refine up (P := fun x f => fp_X11_turnedCode_L5 (nI L) (nI p) (nI n) f (nI (tcd n L p (tri x))) (nI x) = some (nI (turn n L p))) (a := 0) (n := n) ?_ ?_ FU (by omega) (FU_gt (by omega))
  · intro f
    rw [fp_X11_turnedCode_L5, stp, tcd_n hn]
  · intro x f _ hx ih
    rw [fp_X11_turnedCode_L5, go hx (by omega), inc]
    refine Eq.trans (b := fp_X11_turnedCode_L14 (fun v3_8 => fp_X11_turnedCode_L5 (nI L) (nI p) (nI n) f v3_8 (nI (x + 1))) (nI L) (nI p) (nI n) (nI x) FU (nI (tcd n L p (tri x + 0))) (nI 0)) (by rw [← n_0]; rfl) ?_
    refine up (P := fun y g => fp_X11_turnedCode_L14 (fun v3_8 => fp_X11_turnedCode_L5 (nI L) (nI p) (nI n) f v3_8 (nI (x + 1))) (nI L) (nI p) (nI n) (nI x) g (nI (tcd n L p (tri x + y))) (nI y) = some (nI (turn n L p))) (a := 0) (n := x) ?_ ?_ FU (by omega) (FU_gt (by omega))
    · intro g
      rw [fp_X11_turnedCode_L14, stp, ← tri_s]
      exact ih
    · intro y g _ hy ih2
      have htr := pr_lt n hn x hx y hy
      rw [pr_tri hy] at htr
      obtain ⟨i1, i2⟩ := pr_inv x (by omega) y hy
      rw [pr_tri hy] at i1 i2
      have hs := tcd_s (L := L) (p := p) htr
      rw [i1, i2] at hs
      rw [show tri x + (y + 1) = tri x + y + 1 by omega] at ih2
      rw [fp_X11_turnedCode_L14, go hy (by omega), zjn_eq, inc]
      have no : (adj L p x && adj L p y) = false → fp_X11_turnedCode_L14 (fun v3_8 => fp_X11_turnedCode_L5 (nI L) (nI p) (nI n) f v3_8 (nI (x + 1))) (nI L) (nI p) (nI n) (nI x) g (nI (tcd n L p (tri x + y))) (nI (y + 1)) = some (nI (turn n L p)) := fun hq => by
        rw [hq, if_neg Bool.false_ne_true] at hs
        rw [hs] at ih2
        exact ih2
      by_cases hxp : x = p
      · rw [if_pos (show nI x = nI p by rw [hxp])]
        exact no (by rw [hxp, adj_self]; rfl)
      · rw [if_neg (show ¬ nI x = nI p by rw [n_eq (by omega) (by omega)]; exact hxp)]
        by_cases hyp : y = p
        · rw [if_pos (show nI y = nI p by rw [hyp])]
          exact no (by rw [hyp, adj_self, Bool.and_false])
        · have l1 := prlt x hx hxp
          have l2 := prlt y (by omega) hyp
          rw [if_neg (show ¬ nI y = nI p by rw [n_eq (by omega) (by omega)]; exact hyp), y_pair x (by omega) p (by omega), Option.bind_some, y_has (by omega) (by omega), Option.bind_some, adjb x hx hxp]
          cases hA : adj L p x with
          | false => rw [b_ff, if_pos rfl]; exact no (by rw [hA]; rfl)
          | true =>
            rw [b_tt, if_neg (by decide), y_pair y (by omega) p (by omega), Option.bind_some, y_has (by omega) (by omega), Option.bind_some, adjb y (by omega) hyp]
            cases hB : adj L p y with
            | false => rw [b_ff, if_pos rfl]; exact no (by rw [hA, hB]; rfl)
            | true =>
              have ht21 := tri_le n hn
              rw [b_tt, if_neg (by decide), y_pair x (by omega) y (by omega), Option.bind_some, pr_tri hy, lett_eq, sh1 (by omega), n_xor]
              rw [hA, hB, if_pos (by decide)] at hs
              rw [hs] at ih2
              exact ih2
/-! the class -/
def ClH (l : List (Nat × Nat)) (M : zM) : Prop := zI M 46 49 = nI l.length ∧ ∀ i, i < l.length → zI M 70 i = nI (l.getD i (0, 0)).1 ∧ zI M 71 i = nI (l.getD i (0, 0)).2
def rchI (l : List (Nat × Nat)) (v : Int32) : Int32 := match l.find? (fun q => decide (nI q.1 = v)) with | none => -1 | some q => nI q.2
abbrev atC : Nat → Nat → Prop := fun a k => a = 70 ∨ a = 71 ∨ (a = 46 ∧ (k = 49 ∨ k = 50))
theorem scC {M M' : zM} (h : Fz atC M M') : Fz scR M M' := Fz_mono h fun a k q => by show (a = 46 ∧ _) ∨ _; omega
theorem NrC {n L : Nat} {M M' : zM} (h : NrH n L M) (hf : Fz atC M M') : NrH n L M' := NrH_z h hf (by omega) (fun k => by omega)
theorem y_isNew {l : List (Nat × Nat)} {x : Nat} {M : zM} (hC : zC M) (h : ClH l M) (hl : l.length < 2187) (hx : x < 2 ^ 31) (hb : ∀ q ∈ l, q.1 < 2 ^ 31) : fp_X11_isNew 46 (nI x) M = some (bI (!hasT l x)) := by
  unfold fp_X11_isNew
  rw [ts_46 hC, n_0]
  refine up (P := fun i f => (∀ j, j < i → (l.getD j (0, 0)).1 ≠ x) → fp_X11_isNew_L2 46 (nI x) M f (nI i) = some (bI (!hasT l x))) (a := 0) (n := l.length) ?_ ?_ FU (by omega) (FU_gt (by omega)) (fun j hj => absurd hj (Nat.not_lt_zero _))
  · intro f hG
    have : hasT l x = false := by
      unfold hasT
      rw [List.any_eq_false]
      intro q hq
      obtain ⟨j, hj, e⟩ := List.getElem_of_mem hq
      have := hG j hj
      rw [show l.getD j (0, 0) = q by simp [List.getD, hj, e]] at this
      simpa using this
    rw [fp_X11_isNew_L2, gI_46 hC, Option.bind_some, h.1, stp, this]; rfl
  · intro i f _ hi ih hG
    have hm := getT_mem hi
    have hlt := hb _ hm
    rw [fp_X11_isNew_L2, gI_46 hC, Option.bind_some, h.1, go hi (by omega), gR_46_47 hC, Option.bind_some, lI_70 hC (show i < 2187 by omega), Option.bind_some, (h.2 i hi).1]
    by_cases hq : (l.getD i (0, 0)).1 = x
    · have : hasT l x = true := by
        unfold hasT
        rw [List.any_eq_true]
        exact ⟨_, hm, by rw [hq]; exact beq_self_eq_true _⟩
      rw [if_neg (by rw [hq]; exact fun z => z rfl), this]; rfl
    · rw [if_pos (by rw [ne_eq, n_eq hlt hx]; exact hq), inc]
      refine ih fun j hj => ?_
      by_cases z : j = i
      · rw [z]; exact hq
      · exact hG j (by omega)
theorem addT_get {l : List (Nat × Nat)} {x t i : Nat} (hi : i < l.length) : (addT l x t).getD i (0, 0) = l.getD i (0, 0) := by
  unfold addT
  split
  · rfl
  · exact getT_app_l hi
theorem expT_len (n x t : Nat) (l : List (Nat × Nat)) : ∀ m, l.length ≤ (expT n x t l m).length := by
  intro m
  induction m with
  | zero => exact Nat.le_refl _
  | succ m ih => exact Nat.le_trans ih (addT_len _ _ _)
theorem expT_get {n x t i : Nat} {l : List (Nat × Nat)} (hi : i < l.length) : ∀ m, (expT n x t l m).getD i (0, 0) = l.getD i (0, 0) := by
  intro m
  induction m with
  | zero => rfl
  | succ m ih =>
    rw [expT, addT_get (by have := expT_len n x t l m; omega), ih]
theorem rch_push {l : List (Nat × Nat)} {x t : Nat} {v : Int32} (hh : hasT l x = false) (hx : x < 2 ^ 31) (hb : ∀ q ∈ l, q.1 < 2 ^ 31) : rchI (l ++ [(x, t)]) v = if nI x ≠ v then rchI l v else nI t := by
  unfold rchI
  rw [List.find?_append]
  by_cases hv : nI x = v
  · rw [if_neg (fun z => z hv)]
    have : l.find? (fun q => decide (nI q.1 = v)) = none := by
      rw [List.find?_eq_none]
      intro q hq
      rw [decide_eq_true_iff, ← hv, n_eq (hb q hq) hx]
      intro z
      unfold hasT at hh
      rw [List.any_eq_false] at hh
      exact hh q hq (by rw [z]; exact beq_self_eq_true _)
    rw [this, List.find?_singleton, if_pos (decide_eq_true hv)]
    rfl
  · rw [if_pos hv, List.find?_singleton, if_neg (by rw [decide_eq_true_iff]; exact hv)]
    cases l.find? (fun q => decide (nI q.1 = v)) <;> rfl
theorem y_expand {n i : Nat} {v : Int32} {C : List Nat} {l : List (Nat × Nat)} {M0 : zM} (K : zM → Option (Int32 × zM)) (hn : n < 8) (hCl : ∀ x ∈ C, x < 2 ^ tri n ∧ ∀ p, p < n → turn n x p ∈ C) (hlen : C.length ≤ 1096) (hO : OT C i l) (hi : i < l.length) (hi1 : i < 1097) (hC0 : zC M0) (hN0 : NrH n (l.getD i (0, 0)).1 M0 ∨ zI M0 46 0 = nI n) {M : zM} (hf : Fz atC M0 M) (hH : ClH l M) (hr : zI M 46 50 = rchI l v) :
    ∃ M', fp_X11_laysClass_L61 K 46 v (nI i) FU 0 M = K M' ∧ Fz atC M0 M' ∧ ClH (expT n (l.getD i (0, 0)).1 (l.getD i (0, 0)).2 l n) M' ∧ zI M' 46 50 = rchI (expT n (l.getD i (0, 0)).1 (l.getD i (0, 0)).2 l n) v := by
  have hn0 : zI M0 46 0 = nI n := by
    rcases hN0 with z | z
    · exact z.1
    · exact z
  obtain ⟨x, hx⟩ : ∃ x, x = (l.getD i (0, 0)).1 := ⟨_, rfl⟩
  obtain ⟨t, ht⟩ : ∃ t, t = (l.getD i (0, 0)).2 := ⟨_, rfl⟩
  rw [← hx, ← ht]
  have hm := hO.1 _ (getT_mem hi)
  rw [← hx, ← ht] at hm
  have hxlt := (hCl x hm.1).1
  rw [n_0]
  have key : ∀ d p f M1, p + d = n → d < f → Fz atC M0 M1 → ClH (expT n x t l p) M1 → zI M1 46 50 = rchI (expT n x t l p) v → ∃ M', fp_X11_laysClass_L61 K 46 v (nI i) f (nI p) M1 = K M' ∧ Fz atC M0 M' ∧ ClH (expT n x t l n) M' ∧ zI M' 46 50 = rchI (expT n x t l n) v := by
    intro d
    induction d with
    | zero =>
      intro p f M1 h1 h2 h3 h4 h5
      obtain ⟨f, rfl⟩ : ∃ g, f = g + 1 := ⟨f - 1, by omega⟩
      have hC1 := Fz_C h3 hC0
      have hp : p = n := by omega
      rw [hp] at h4 h5
      exact ⟨M1, by rw [fp_X11_laysClass_L61, gI_46 hC1 0, Option.bind_some, h3.2 46 0 (by omega), hn0, hp, stp], h3, h4, h5⟩
    | succ d ih =>
      intro p f M1 h1 h2 h3 h4 h5
      obtain ⟨f, rfl⟩ : ∃ g, f = g + 1 := ⟨f - 1, by omega⟩
      have hC1 := Fz_C h3 hC0
      have hp : p < n := by omega
      obtain ⟨ls, hls⟩ : ∃ ls, ls = expT n x t l p := ⟨_, rfl⟩
      have hOT : OT C (i + 1) ls := by rw [hls]; exact OT_exp (fun x hx => (hCl x hx).2) (OT_mono hO (Nat.le_succ i)) hm.1 (by omega) p (by omega)
      have hOT2 : OT C (i + 1) (addT ls (turn n x p) (t + 1)) := OT_add hOT ((hCl x hm.1).2 p hp) (by omega)
      have hl1 := OT_len hOT
      have hl2 := OT_len hOT2
      have hil : i < ls.length := by rw [hls]; have := expT_len n x t l p; omega
      have hgi : ls.getD i (0, 0) = (x, t) := by rw [hls, expT_get hi, hx, ht]
      rw [← hls] at h4 h5
      have hb : ∀ q ∈ ls, q.1 < 2 ^ 31 := fun q hq => lt31 hn (hCl _ (hOT.1 q hq).1).1
      have htl : turn n x p < 2 ^ 31 := lt31 hn (turn_lt n x p)
      have v70 : zI M1 70 i = nI x := by rw [(h4.2 i hil).1, hgi]
      have v71 : zI M1 71 i = nI t := by rw [(h4.2 i hil).2, hgi]
      have en : expT n x t l (p + 1) = addT ls (turn n x p) (t + 1) := by rw [expT, hls]
      have h0 : zI M1 46 0 = nI n := (h3.2 46 0 (by omega)).trans hn0
      have c0 : zgI 9 M1 46 0 = some (nI n) := by rw [gI_46 hC1, h0]
      rw [fp_X11_laysClass_L61, c0, Option.bind_some, go hp (by omega), gR_46_47 hC1, Option.bind_some, lI_70 hC1 (show i < 2187 by omega), Option.bind_some, v70, Option.bind_some, y_turnedCode hn hxlt hp, Option.bind_some, y_isNew hC1 h4 (by omega) htl hb, Option.bind_some, zjn_eq]
      cases hh : hasT ls (turn n x p) with
      | true =>
        rw [Bool.not_true, b_ff, if_neg (show ¬ (0 : Int32) ≠ 0 by decide)]
        have e2 : expT n x t l (p + 1) = ls := by rw [en]; unfold addT; rw [hh, if_pos rfl]
        dsimp only
        rw [inc]
        exact ih (p + 1) f M1 (by omega) (by omega) h3 (by rw [e2]; exact h4) (by rw [e2]; exact h5)
      | false =>
        have e2 : expT n x t l (p + 1) = ls ++ [(turn n x p, t + 1)] := by rw [en]; unfold addT; rw [hh, if_neg Bool.false_ne_true]
        have hll : ls.length < 1096 := by
          have : addT ls (turn n x p) (t + 1) = ls ++ [(turn n x p, t + 1)] := by rw [← en, e2]
          rw [this, List.length_append] at hl2
          have : ls.length + 1 ≤ C.length := hl2
          omega
        have hC2 : zC (zsI M1 70 ls.length (nI (turn n x p))) := hC1
        obtain ⟨M30, hM30⟩ : ∃ M30, M30 = zsI (zsI M1 70 ls.length (nI (turn n x p))) 71 ls.length (nI (t + 1)) := ⟨_, rfl⟩
        have hC30 : zC M30 := by rw [hM30]; exact hC1
        have w49 : zI M30 46 49 = nI ls.length := by rw [hM30, zI_other _ _ (Or.inl (by decide)), zI_other _ _ (Or.inl (by decide))]; exact h4.1
        have w50 : zI M30 46 50 = rchI ls v := by rw [hM30, zI_other _ _ (Or.inl (by decide)), zI_other _ _ (Or.inl (by decide))]; exact h5
        have f30 : Fz atC M0 M30 := by rw [hM30]; exact Fz_trans h3 (Fz_trans (Fz_sI (Or.inl rfl)) (Fz_sI (Or.inr (Or.inl rfl))))
        have a49 : zgI 9 M1 46 49 = some (nI ls.length) := by rw [gI_46 hC1, h4.1]
        have b49 : zgI 9 (zsI M1 70 ls.length (nI (turn n x p))) 46 49 = some (nI ls.length) := by rw [gI_46 hC2, zI_other _ _ (Or.inl (by decide)), h4.1]
        have b71 : zlI 100 (zsI M1 70 ls.length (nI (turn n x p))) 71 (nI i) = some (nI t) := by rw [lI_71 hC2 (show i < 2187 by omega), zI_other _ _ (Or.inl (by decide)), v71]
        rw [Bool.not_false, b_tt, if_pos (show (1 : Int32) ≠ 0 by decide), Option.bind_some, a49, Option.bind_some, tI_70 hC1 (show ls.length < 2187 by omega), Option.bind_some, gR_46_48 hC2, Option.bind_some, b49, Option.bind_some, Option.bind_some, b71, Option.bind_some, inc, tI_71 hC2 (show ls.length < 2187 by omega), ← hM30, Option.bind_some, zjn_eq]
        have lay : ∀ M31, (M31 = M30 ∨ ∃ u, M31 = zsI M30 46 50 u) → zI M31 46 50 = rchI (ls ++ [(turn n x p, t + 1)]) v → ∃ M', ((zgI 9 M31 46 49).bind fun (y32 : Int32) =>
                (zpI 9 M31 46 49 (y32 + 1)).bind fun (M33 : zM) =>
                fp_X11_laysClass_L61 K 46 v (nI i) f (nI p + 1) M33) = K M' ∧ Fz atC M0 M' ∧ ClH (expT n x t l n) M' ∧ zI M' 46 50 = rchI (expT n x t l n) v := by
          intro M31 hM31 h50
          have g : ∀ a k, ¬ (a = 46 ∧ k = 50) → zI M31 a k = zI M30 a k := fun a k hak => by
            rcases hM31 with rfl | ⟨u, rfl⟩
            · rfl
            · exact zI_other _ _ (by by_cases z : a = 46; exact Or.inr (fun y => hak ⟨z, y⟩); exact Or.inl z)
          have f31 : Fz atC M30 M31 := by
            rcases hM31 with rfl | ⟨u, rfl⟩
            · exact Fz_refl
            · exact Fz_sI (Or.inr (Or.inr ⟨rfl, Or.inr rfl⟩))
          have hC31 := Fz_C f31 hC30
          rw [gI_46 hC31, Option.bind_some, g 46 49 (by decide), w49, inc, pI_46 hC31, Option.bind_some, inc]
          refine ih (p + 1) f _ (by omega) (by omega) (Fz_trans f30 (Fz_trans f31 (Fz_sI (Or.inr (Or.inr ⟨rfl, Or.inl rfl⟩))))) ?_ ?_
          · rw [e2]
            refine ⟨by rw [zI_same, List.length_append]; rfl, fun j hj => ?_⟩
            rw [List.length_append] at hj
            have hj2 : j < ls.length + 1 := hj
            by_cases hjl : j < ls.length
            · rw [getT_app_l hjl]
              obtain ⟨k1, k2⟩ := h4.2 j hjl
              refine ⟨?_, ?_⟩
              · rw [zI_other _ _ (Or.inl (by decide)), g 70 j (by omega), hM30, zI_other _ _ (Or.inl (by decide)), zI_other _ _ (Or.inr (by omega))]; exact k1
              · rw [zI_other _ _ (Or.inl (by decide)), g 71 j (by omega), hM30, zI_other _ _ (Or.inr (by omega)), zI_other _ _ (Or.inl (by decide))]; exact k2
            · have hje : j = ls.length := by omega
              rw [hje, getT_app_r]
              refine ⟨?_, ?_⟩
              · rw [zI_other _ _ (Or.inl (by decide)), g 70 _ (by omega), hM30, zI_other _ _ (Or.inl (by decide)), zI_same]
              · rw [zI_other _ _ (Or.inl (by decide)), g 71 _ (by omega), hM30, zI_same]
          · rw [e2, zI_other _ _ (Or.inr (by decide))]; exact h50
        have hrp := rch_push (t := t + 1) (v := v) hh htl hb
        by_cases hv : nI (turn n x p) = v
        · rw [if_neg (fun z => z hv)] at hrp
          rw [if_neg (show ¬ nI (turn n x p) ≠ v from fun z => z hv), gR_46_48 hC30, Option.bind_some, gI_46 hC30, Option.bind_some, w49, lI_71 hC30 (show ls.length < 2187 by omega), Option.bind_some, show zI M30 71 ls.length = nI (t + 1) from by rw [hM30, zI_same], pI_46 hC30, Option.bind_some]
          exact lay _ (Or.inr ⟨_, rfl⟩) (by rw [zI_same, hrp])
        · rw [if_pos hv] at hrp
          rw [if_pos (show nI (turn n x p) ≠ v from hv)]
          exact lay _ (Or.inl rfl) (by rw [w50, hrp])
  exact key n 0 FU M (by omega) (FU_gt (by omega)) hf hH hr
theorem y_laysClass {n L : Nat} {v : Int32} {M : zM} (hC : zC M) (hN : NrH n L M) (hn : n < 8) (hL : L < 2 ^ tri n) : ∃ M', fp_X11_laysClass 46 v M = some (nI (Tl n L).length, M') ∧ Fz atC M M' ∧ ClH (Tl n L) M' ∧ zI M' 46 50 = rchI (Tl n L) v := by
  unfold fp_X11_laysClass
  obtain ⟨C, c1, c2, c3⟩ := orb_bnd hn hL
  have hcode : fp_X11_codeOf 47 0 (nI n) M = some (nI L) := by
    rw [n_0]
    exact y_codeOf hC hn hL (by decide) rfl (L47 hC) (by decide) (by omega) (fun p hp => by rw [Nat.zero_add]; exact hN.2 p hp)
  have hL31 := lt31 hn hL
  obtain ⟨M8, hM8⟩ : ∃ M8, M8 = zsI (zsI (zsI M 70 0 (nI L)) 71 0 0) 46 49 1 := ⟨_, rfl⟩
  have hC5 : zC (zsI M 70 0 (nI L)) := hC
  have hC7 : zC (zsI (zsI M 70 0 (nI L)) 71 0 0) := hC
  have hC8 : zC M8 := by rw [hM8]; exact hC
  have f8 : Fz atC M M8 := by rw [hM8]; exact Fz_trans (Fz_sI (Or.inl rfl)) (Fz_trans (Fz_sI (Or.inr (Or.inl rfl))) (Fz_sI (Or.inr (Or.inr ⟨rfl, Or.inl rfl⟩))))
  have t70 : ztI M 70 0 (nI L) = some (zsI M 70 0 (nI L)) := by have := tI_70 (i := 0) hC (by decide) (nI L); rw [← n_0] at this; exact this
  have t71 : ztI (zsI M 70 0 (nI L)) 71 0 0 = some (zsI (zsI M 70 0 (nI L)) 71 0 0) := by have := tI_71 (i := 0) hC5 (by decide) 0; rw [← n_0] at this; exact this
  have w70 : zI M8 70 0 = nI L := by rw [hM8]; simp [zI_sI]
  have w71 : zI M8 71 0 = 0 := by rw [hM8]; simp [zI_sI]
  have w49 : zI M8 46 49 = 1 := by rw [hM8]; simp [zI_sI]
  have l70 : zlI 100 M8 70 0 = some (nI L) := by have := lI_70 (i := 0) hC8 (by decide); rw [← n_0, w70] at this; exact this
  rw [ts_46 hC, gR_46_47 hC, Option.bind_some, gR_46_2 hC, Option.bind_some, gI_46 hC 0, Option.bind_some, hN.1, hcode, Option.bind_some, t70, Option.bind_some, gR_46_48 hC5, Option.bind_some, t71, Option.bind_some, pI_46 hC7, ← hM8, Option.bind_some, gR_46_47 hC8, Option.bind_some, l70, Option.bind_some, zjn_eq]
  -- the rows
  have loop : ∀ f i l M1 g, f + i = 1097 → f < g → OT C i l → i ≤ 1097 → Fz atC M M1 → ClH l M1 → zI M1 46 50 = rchI l v → ∃ M', fp_X11_laysClass_L51 46 v g (nI i) M1 = some (nI (bfsT n f i l).length, M') ∧ Fz atC M M' ∧ ClH (bfsT n f i l) M' ∧ zI M' 46 50 = rchI (bfsT n f i l) v := by
    intro f
    induction f with
    | zero =>
      intro i l M1 g h1 h2 h3 h3b h4 h5 h6
      obtain ⟨g, rfl⟩ : ∃ z, g = z + 1 := ⟨g - 1, by omega⟩
      have hC1 := Fz_C h4 hC
      have hl := OT_len h3
      refine ⟨M1, ?_, h4, h5, h6⟩
      rw [fp_X11_laysClass_L51, gI_46 hC1, Option.bind_some, h5.1, if_pos (show nI i ≥ nI l.length by rw [ge_iff_le, n_le (by omega) (by omega)]; omega), Option.bind_some]; rfl
    | succ f ih =>
      intro i l M1 g h1 h2 h3 h3b h4 h5 h6
      obtain ⟨g, rfl⟩ : ∃ z, g = z + 1 := ⟨g - 1, by omega⟩
      have hC1 := Fz_C h4 hC
      have hl := OT_len h3
      rw [fp_X11_laysClass_L51, gI_46 hC1, Option.bind_some, h5.1, bfsT]
      by_cases hi : i < l.length
      · obtain ⟨M2, a1, a2, a3, a4⟩ := y_expand (v := v) (fun M38 => fp_X11_laysClass_L51 46 v g (nI i + 1) M38) hn c2 c3 h3 hi (by omega) hC (Or.inr hN.1) h4 h5 h6
        rw [go hi (by omega), a1, inc, if_pos hi]
        have hm := h3.1 _ (getT_mem hi)
        exact ih (i + 1) _ M2 g (by omega) (by omega) (OT_exp (fun x hx => (c2 x hx).2) (OT_mono h3 (Nat.le_succ i)) hm.1 (by omega) n (Nat.le_refl _)) (by omega) a2 a3 a4
      · rw [if_pos (show nI i ≥ nI l.length by rw [ge_iff_le, n_le (by omega) (by omega)]; omega), Option.bind_some, if_neg hi]
        exact ⟨M1, rfl, h4, h5, h6⟩
  have start : ∀ u, u = rchI [(L, 0)] v → ∃ M', ((zpI 9 M8 46 50 u).bind fun (M13 : zM) => fp_X11_laysClass_L51 46 v FU 0 M13) = some (nI (Tl n L).length, M') ∧ Fz atC M M' ∧ ClH (Tl n L) M' ∧ zI M' 46 50 = rchI (Tl n L) v := by
    intro u hu
    rw [pI_46 hC8, Option.bind_some, n_0]
    have hl1 : ([(L, 0)] : List (Nat × Nat)).length = 1 := rfl
    refine loop 1097 0 [(L, 0)] _ FU (by omega) (FU_gt (by omega)) ⟨fun q hq => ?_, by simp⟩ (by omega) (Fz_trans f8 (Fz_sI (Or.inr (Or.inr ⟨rfl, Or.inr rfl⟩)))) ⟨?_, fun j hj => ?_⟩ (by rw [zI_same, hu])
    · have : q = (L, 0) := by simpa using hq
      subst this
      exact ⟨c1, Nat.le_refl _⟩
    · rw [zI_other _ _ (Or.inr (by decide)), w49, hl1, n_1]
    · have : j = 0 := by omega
      rw [this]
      refine ⟨?_, ?_⟩
      · rw [zI_other _ _ (Or.inl (by decide)), w70]; rfl
      · rw [zI_other _ _ (Or.inl (by decide)), w71, n_0]; rfl
  by_cases hv : nI L = v
  · rw [if_neg (show ¬ nI L ≠ v from fun z => z hv)]
    refine start 0 ?_
    unfold rchI
    rw [List.find?_singleton, if_pos (decide_eq_true hv)]
    exact n_0
  · rw [if_pos (show nI L ≠ v from hv)]
    refine start (-1) ?_
    unfold rchI
    rw [List.find?_singleton, if_neg (by rw [decide_eq_true_iff]; exact hv)]

/-! ===== 75: the class: splits, pieces, twins, turnings, drawn ones, cross ===== -/
theorem spls_len {n L : Nat} (hn : n < 8) : (spls n L).length ≤ 64 := by
  unfold spls
  split
  · have := oddl_len (isSp n L) (2 ^ n / 2)
    have h2 := two_pow7 hn
    unfold spl; omega
  · exact Nat.zero_le _
theorem spls_lt {n L : Nat} : ∀ x ∈ spls n L, x < 2 ^ n := by
  intro x hx
  unfold spls at hx
  split at hx
  · exact spl_lt hx
  · cases hx
theorem at9_scr : ∀ a, at9 a → scr a := fun a q => by rcases q with q | q <;> exact Or.inl (by omega)
theorem at11_scr : ∀ a, at11 a → scr a := fun a q => by rcases q with q | q <;> exact Or.inl (by omega)
theorem at42_scr : ∀ a, at42 a → scr a := fun a q => by rcases q with q | q <;> exact Or.inr (by omega)
theorem x_sgather {S : zSt} {t : Nat} {M : zM} (h : IC S t M) : ∃ M', fp_X6_gather 9 (nI (sN S)) (nI (sL S)) M = some M' ∧ IC S t M' ∧ Rk M M' ∧ SpH (spls (sN S) (sL S)) M' := by
  obtain ⟨M', e1, e2, e3⟩ := c_gather (IC_n h).2 (IC_L h).2 (IC_C h)
  exact ⟨M', e1, IC_c h e2 at9_scr, Rk_k (Fk_of e2) fun a h1 h2 q => by omega, e3⟩
/-- a split that is there -/
def spt (S : zSt) (v : Int32) : Sum Int32 Nat := if v < 0 then .inl 1 else if joi (sN S) (sL S) = true then
    match asN v (spls (sN S) (sL S)).length with
    | none => .inl 6
    | some k => .inr k
  else .inl 7
theorem spt_ne {S : zSt} {v k : Int32} (h : spt S v = .inl k) : k ≠ 0 := by
  unfold spt at h
  split at h
  · cases h; decide
  · split at h
    · split at h
      · cases h; decide
      · cases h
    · cases h; decide
theorem spt_ok {S : zSt} {v : Int32} {k : Nat} (h : spt S v = .inr k) : v = nI k ∧ k < (spls (sN S) (sL S)).length := by
  unfold spt at h
  split at h
  · cases h
  · split at h
    · split at h
      · cases h
      · rename_i h1
        cases h
        exact ⟨(asN_some h1).1, (asN_some h1).2.1⟩
    · cases h
theorem x_badSplit {S : zSt} {t : Nat} {M : zM} (h : IC S t M) (v : Int32) : ∃ M', fp_X10_badSplit 0 v M = some ((match spt S v with | .inl k => k | .inr _ => 0), M') ∧ IC S t M' ∧ Rk M M' ∧ ((∃ k, spt S v = .inr k) → SpH (spls (sN S) (sL S)) M') := by
  unfold fp_X10_badSplit spt
  have hC := IC_C h
  have g2 := (IC_n h).2
  have l64 := spls_len (L := sL S) g2
  rw [ts_0 hC]
  by_cases h0 : v < 0
  · rw [if_neg (by rw [ge_iff_le, Int32.not_le]; exact h0), if_pos h0]
    exact ⟨M, rfl, h, Rk_refl, fun ⟨k, q⟩ => by cases q⟩
  · rw [if_pos (by rw [ge_iff_le]; exact Int32.not_lt.mp h0), if_neg h0, gI_0 hC, Option.bind_some, gI_0 hC, Option.bind_some, (IC_n h).1, (IC_L h).1, c_joined g2 (IC_L h).2, Option.bind_some]
    cases hj : joi (sN S) (sL S) with
    | false =>
      rw [b_ff, if_neg (show ¬ ((0 : Int32) ≠ 0) by decide), if_neg Bool.false_ne_true]
      exact ⟨M, rfl, h, Rk_refl, fun ⟨k, q⟩ => by cases q⟩
    | true =>
      obtain ⟨M', e1, e2, e3, e4⟩ := x_sgather h
      have hC' := IC_C e2
      rw [b_tt, if_pos (show (1 : Int32) ≠ 0 by decide), if_pos rfl, gR_0_8 hC, Option.bind_some, Option.bind_some, Option.bind_some, e1, Option.bind_some, gR_0_8 hC', Option.bind_some, gI_9 hC', Option.bind_some, e4.1]
      cases hv : asN v (spls (sN S) (sL S)).length with
      | none =>
        rcases asN_none hv with h1 | ⟨j, rfl, hj', hb⟩
        · exact absurd h1 h0
        · rw [if_neg (by rw [n_lt hb (by omega)]; omega)]
          exact ⟨M', rfl, e2, e3, fun ⟨k, q⟩ => by cases q⟩
      | some k =>
        obtain ⟨rfl, hk, hb⟩ := asN_some hv
        rw [if_pos (by rw [n_lt hb (by omega)]; exact hk)]
        exact ⟨M', rfl, e2, e3, fun _ => e4⟩
def q_split (S : zSt) (v : Int32) : Int32 × zSt := match spt S v with
  | .inl k => rf S k
  | .inr k => gv S (nI ((spls (sN S) (sL S)).getD k 0))
theorem x_split {S : zSt} {t : Nat} {M : zM} (h : IC S t M) (v : Int32) : CM t (q_split S v) (fp_X10_split 0 v M) M := by
  unfold fp_X10_split q_split
  have g2 := (IC_n h).2
  obtain ⟨M', e1, e2, e3, e4⟩ := x_badSplit h v
  rw [ts_0 (IC_C h), e1, Option.bind_some]
  unfold zpp
  dsimp only
  cases hs : spt S v with
  | inl k => dsimp only; rw [if_neg (spt_ne hs)]; exact x_rf e2 (Nat.le_succ _) e3
  | inr k =>
    obtain ⟨rfl, hk⟩ := spt_ok hs
    have hC' := IC_C e2
    dsimp only
    rw [if_pos rfl, gR_0_8 hC', Option.bind_some, c_setAt hC' (e4 ⟨k, hs⟩) hk (spls_len g2), Option.bind_some]
    exact x_gv e2 (Nat.le_succ _) e3
def q_strong (S : zSt) (v : Int32) : Int32 × zSt := match spt S v with
  | .inl k => rf S k
  | .inr k => gv S (bI (strg (sN S) (spls (sN S) (sL S)) ((spls (sN S) (sL S)).getD k 0)))
theorem x_strong {S : zSt} {t : Nat} {M : zM} (h : IC S t M) (v : Int32) : CM t (q_strong S v) (fp_X10_strong 0 v M) M := by
  unfold fp_X10_strong q_strong
  have g2 := (IC_n h).2
  obtain ⟨M', e1, e2, e3, e4⟩ := x_badSplit h v
  rw [ts_0 (IC_C h), e1, Option.bind_some]
  unfold zpp
  dsimp only
  cases hs : spt S v with
  | inl k => dsimp only; rw [if_neg (spt_ne hs)]; exact x_rf e2 (Nat.le_succ _) e3
  | inr k =>
    obtain ⟨rfl, hk⟩ := spt_ok hs
    have hC' := IC_C e2
    dsimp only
    rw [if_pos rfl, gR_0_8 hC', Option.bind_some, gI_0 hC', Option.bind_some, (IC_n e2).1, c_isStrong g2 hC' (e4 ⟨k, hs⟩) hk (spls_len g2) spls_lt, Option.bind_some]
    have := x_bit (strg (sN S) (spls (sN S) (sL S)) ((spls (sN S) (sL S)).getD k 0)) (fun w => (fp_X10_answer 0 w M').bind fun p => zpp p fun (y : Int32) (M2 : zM) => some (y, M2))
    unfold zpp at this
    rw [this]
    exact x_gv e2 (Nat.le_succ _) e3
/-- how many splits are strong -/
def sons (n : Nat) (l : List Nat) : Nat := l.countP (strg n l)
theorem c_strongOnes {n : Nat} {l : List Nat} {M : zM} (hn : n < 8) (hC : zC M) (h : SpH l M) (h64 : l.length ≤ 64) (hl : ∀ x ∈ l, x < 2 ^ n) : fp_X6_strongOnes 9 (nI n) M = some (nI (sons n l)) := by
  unfold fp_X6_strongOnes
  rw [ts_9 hC]
  have key : fp_X6_strongOnes_L4 9 (nI n) M FU (nI ((l.take 0).countP (strg n l))) (nI 0) = some (nI (sons n l)) := by
    refine up (P := fun i f => fp_X6_strongOnes_L4 9 (nI n) M f (nI ((l.take i).countP (strg n l))) (nI i) = some (nI (sons n l))) (a := 0) (n := l.length) ?_ ?_ FU (by omega) (FU_gt (by omega))
    · intro f
      rw [fp_X6_strongOnes_L4, gI_9 hC, Option.bind_some, h.1, stp, List.take_length]; rfl
    · intro i f _ hi ih
      rw [fp_X6_strongOnes_L4, gI_9 hC, Option.bind_some, h.1, go hi (by omega), c_isStrong hn hC h hi h64 hl, Option.bind_some, zjn_eq]
      dsimp only
      rw [inc]
      rw [tk hi, List.countP_append, List.countP_singleton] at ih
      cases hs : strg n l (l.getD i 0) with
      | false => rw [b_ff, if_pos rfl]; rw [hs, if_neg Bool.false_ne_true] at ih; exact ih
      | true => rw [b_tt, if_neg (show ¬ (1 : Int32) = 0 by decide), inc]; rw [hs, if_pos rfl] at ih; exact ih
  rw [n_0]; exact key
/-! pieces -/
theorem x_pgather {S : zSt} {t : Nat} {M : zM} (h : IC S t M) : ∃ M' mk', fp_X3_gather 11 (nI (sN S)) (nI (sL S)) M = some M' ∧ IC S t M' ∧ Rk M M' ∧ PsH (pcs (sN S) (sL S)) mk' M' := by
  obtain ⟨M', mk', e1, e2, e3⟩ := c_pgather (IC_n h).2 (IC_L h).2 (IC_C h)
  exact ⟨M', mk', e1, IC_c h e2 at11_scr, Rk_k (Fk_of e2) fun a h1 h2 q => by omega, e3⟩
theorem getD_le {l : List Nat} {b k : Nat} (h : ∀ x ∈ l, x < b) (hb : 0 < b) : l.getD k 0 < b := by
  by_cases hk : k < l.length
  · exact h _ (getD_mem hk)
  · rw [List.getD, List.getElem?_eq_none (by omega)]; exact hb
theorem cutP_low {q : Pc} {s mark : Nat} (h : ∀ k, q.1.getD k 0 < 1000) (hm : mark < 1000) : ∀ k, (cutP q s mark).1.getD k 0 < 1000 := by
  intro k
  refine getD_le (fun x hx => ?_) (by decide)
  unfold cutP selL at hx
  rw [List.mem_append, List.mem_map] at hx
  rcases hx with ⟨j, _, rfl⟩ | hx
  · exact h _
  · rw [List.mem_singleton] at hx; omega
theorem takeP_low {ps ps' : List Pc} {mark : Nat} (h : lowK ps) (hm : mark < 1000) (ht : takeP ps mark = some ps') : lowK ps' := by
  unfold takeP at ht
  simp only [Option.map_eq_some_iff] at ht
  obtain ⟨⟨i, s⟩, h1, rfl⟩ := ht
  have hq : ∀ k, (ps.getD i q0).1.getD k 0 < 1000 := by
    by_cases hi : i < ps.length
    · exact h _ (by simp [List.getD, List.getElem?_eq_getElem hi])
    · intro k; rw [show ps.getD i q0 = q0 by rw [List.getD, List.getElem?_eq_none (by omega)]; rfl]; simp [q0]
  intro q hqm
  rw [List.mem_append, List.mem_singleton] at hqm
  rcases hqm with hqm | rfl
  · rcases List.mem_or_eq_of_mem_set hqm with hqm | rfl
    · exact h q hqm
    · exact cutP_low hq hm
  · exact cutP_low hq hm
theorem itP_low {k m : Nat} {ps : List Pc} (h : lowK ps) (hm : k + m ≤ 100) : lowK (itP k ps m) := by
  induction k generalizing ps m with
  | zero => exact h
  | succ k ih =>
    rw [itP]
    cases ht : takeP ps (10 + m) with
    | none => exact h
    | some ps' => exact ih (takeP_low h (by omega) ht) (by omega)
theorem comps_low {n L : Nat} (hn : n < 8) : ∀ m, lowK (compsN n L m) := by
  intro m
  induction m with
  | zero => intro q hq; cases hq
  | succ p ih =>
    intro q hq
    rw [compsN, List.mem_append] at hq
    rcases hq with hq | hq
    · exact ih q hq
    · split at hq
      · rw [List.mem_singleton] at hq
        subst hq
        intro k
        refine getD_le (fun x hx => ?_) (by decide)
        unfold elsL at hx
        rw [List.mem_map] at hx
        obtain ⟨j, hj, rfl⟩ := hx
        have := sel_lt (f := (jt n L p).testBit) (n := n) (i := j) (List.mem_range.mp hj)
        omega
      · cases hq
theorem pcs_low {n L : Nat} (hn : n < 8) : lowK (pcs n L) := itP_low (comps_low hn n) (by decide)
def pcO (S : zSt) (w i : Nat) : Int32 := if w = 0 then nI (kindP ((pcs (sN S) (sL S)).getD i q0)) else if w = 1 then nI ((pcs (sN S) (sL S)).getD i q0).1.length else nI (marksP ((pcs (sN S) (sL S)).getD i q0))
def q_piece (S : zSt) (i what : Int32) : Int32 × zSt := if i < 0 then rf S 1 else match asN what 3 with
  | none => rf S 1
  | some w => match asN i (pcs (sN S) (sL S)).length with
    | none => rf S 6
    | some i => gv S (pcO S w i)
theorem x_piece {S : zSt} {t : Nat} {M : zM} (h : IC S t M) (i what : Int32) : CM t (q_piece S i what) (fp_X10_piece 0 i what M) M := by
  unfold fp_X10_piece q_piece
  have hC := IC_C h
  have g2 := (IC_n h).2
  have hok := pcs_ok g2 (IC_L h).2
  have h8 := okPs_len hok
  rw [ts_0 hC]
  by_cases h0 : i < 0
  · rw [if_pos h0, if_pos h0]; exact x_rf h (Nat.le_succ _) Rk_refl
  · rw [if_neg h0, if_neg h0, show (2 : Int32) = nI 2 from n_2, x_what (by decide)]
    cases hw : asN what (2 + 1) with
    | none => exact x_rf h (Nat.le_succ _) Rk_refl
    | some w =>
      obtain ⟨rfl, hw3, hwb⟩ := asN_some hw
      obtain ⟨M', mk', e1, e2, e3, e4⟩ := x_pgather h
      have hC' := IC_C e2
      dsimp only
      rw [gR_0_9 hC, Option.bind_some, gI_0 hC, Option.bind_some, gI_0 hC, Option.bind_some, (IC_n h).1, (IC_L h).1, e1, Option.bind_some, gR_0_9 hC', Option.bind_some, gI_11 hC', Option.bind_some, e4.1]
      cases hv : asN i (pcs (sN S) (sL S)).length with
      | none =>
        rcases asN_none hv with h1 | ⟨j, rfl, hj, hb⟩
        · exact absurd h1 h0
        · rw [if_neg (by rw [n_lt hb (by omega)]; omega)]
          exact x_rf e2 (Nat.le_succ _) e3
      | some k =>
        obtain ⟨rfl, hk, hb⟩ := asN_some hv
        rw [if_pos (by rw [n_lt hb (by omega)]; exact hk), Option.bind_some]
        dsimp only
        unfold pcO
        have w3 : w = 0 ∨ w = 1 ∨ w = 2 := by omega
        rcases w3 with rfl | rfl | rfl
        · rw [if_neg (show ¬ nI 0 ≠ 0 by decide), Option.bind_some, c_kindOf hC' e4 hk hok, Option.bind_some]
          exact x_gv e2 (Nat.le_succ _) e3
        · rw [if_pos (show nI 1 ≠ 0 by decide), if_neg (show ¬ nI 1 ≠ 1 by decide), Option.bind_some, c_sizeOf hC' e4 hk h8, Option.bind_some]
          exact x_gv e2 (Nat.le_succ _) e3
        · rw [if_pos (show nI 2 ≠ 0 by decide), if_pos (show nI 2 ≠ 1 by decide), c_marksIn hC' e4 hk hok (pcs_low g2), Option.bind_some]
          exact x_gv e2 (Nat.le_succ _) e3
/-- a knot that is there -/
def knt (S : zSt) (i k : Int32) : Sum Int32 (Nat × Nat) := if i < 0 then .inl 1 else if k < 0 then .inl 1 else match asN i (pcs (sN S) (sL S)).length with
  | none => .inl 6
  | some i => match asN k ((pcs (sN S) (sL S)).getD i q0).1.length with
    | none => .inl 6
    | some k => .inr (i, k)
theorem knt_ne {S : zSt} {i k e : Int32} (h : knt S i k = .inl e) : e ≠ 0 := by
  unfold knt at h
  split at h
  · cases h; decide
  · split at h
    · cases h; decide
    · split at h
      · cases h; decide
      · split at h
        · cases h; decide
        · cases h
theorem knt_ok {S : zSt} {i k : Int32} {q : Nat × Nat} (h : knt S i k = .inr q) : i = nI q.1 ∧ k = nI q.2 ∧ q.1 < (pcs (sN S) (sL S)).length ∧ q.2 < ((pcs (sN S) (sL S)).getD q.1 q0).1.length := by
  unfold knt at h
  split at h
  · cases h
  · split at h
    · cases h
    · split at h
      · cases h
      · rename_i h1
        split at h
        · cases h
        · rename_i h2
          cases h
          exact ⟨(asN_some h1).1, (asN_some h2).1, (asN_some h1).2.1, (asN_some h2).2.1⟩
theorem x_badKnot {S : zSt} {t : Nat} {M : zM} (h : IC S t M) (i k : Int32) : ∃ M' mk', fp_X10_badKnot 0 i k M = some ((match knt S i k with | .inl e => e | .inr _ => 0), M') ∧ IC S t M' ∧ Rk M M' ∧ ((∃ q, knt S i k = .inr q) → PsH (pcs (sN S) (sL S)) mk' M') := by
  unfold fp_X10_badKnot knt
  have hC := IC_C h
  have g2 := (IC_n h).2
  have hok := pcs_ok g2 (IC_L h).2
  have h8 := okPs_len hok
  rw [ts_0 hC]
  by_cases h0 : i < 0
  · rw [if_pos h0, if_pos h0]; exact ⟨M, 0, rfl, h, Rk_refl, fun ⟨q, e⟩ => by cases e⟩
  · rw [if_neg h0, if_neg h0]
    by_cases h1 : k < 0
    · rw [if_neg (by rw [ge_iff_le, Int32.not_le]; exact h1), if_pos h1]; exact ⟨M, 0, rfl, h, Rk_refl, fun ⟨q, e⟩ => by cases e⟩
    · obtain ⟨M', mk', e1, e2, e3, e4⟩ := x_pgather h
      have hC' := IC_C e2
      rw [if_pos (by rw [ge_iff_le]; exact Int32.not_lt.mp h1), if_neg h1, gR_0_9 hC, Option.bind_some, gI_0 hC, Option.bind_some, gI_0 hC, Option.bind_some, (IC_n h).1, (IC_L h).1, e1, Option.bind_some, gR_0_9 hC', Option.bind_some, gI_11 hC', Option.bind_some, e4.1, zjn_eq]
      refine ⟨M', mk', ?_, e2, e3, fun _ => e4⟩
      cases hv : asN i (pcs (sN S) (sL S)).length with
      | none =>
        rcases asN_none hv with h2 | ⟨j, rfl, hj, hb⟩
        · exact absurd h2 h0
        · rw [if_pos (by rw [ge_iff_le, n_le (by omega) hb]; exact hj)]
      | some j =>
        obtain ⟨rfl, hj, hb⟩ := asN_some hv
        rw [go hj (by omega), Option.bind_some, c_sizeOf hC' e4 hj h8, Option.bind_some]
        dsimp only
        have hlen : ((pcs (sN S) (sL S)).getD j q0).1.length < 8 := (hok.1 _ (by simp [List.getD, List.getElem?_eq_getElem hj])).1.1
        cases hv2 : asN k ((pcs (sN S) (sL S)).getD j q0).1.length with
        | none =>
          rcases asN_none hv2 with h2 | ⟨j2, rfl, hj2, hb2⟩
          · exact absurd h2 h1
          · rw [if_neg (by rw [n_lt hb2 (by omega)]; omega)]
        | some j2 =>
          obtain ⟨rfl, hj2, hb2⟩ := asN_some hv2
          rw [if_pos (by rw [n_lt hb2 (by omega)]; exact hj2)]
def q_knot (S : zSt) (i k : Int32) : Int32 × zSt := match knt S i k with
  | .inl e => rf S e
  | .inr q => gv S (nI (((pcs (sN S) (sL S)).getD q.1 q0).1.getD q.2 0))
theorem x_knot {S : zSt} {t : Nat} {M : zM} (h : IC S t M) (i k : Int32) : CM t (q_knot S i k) (fp_X10_knot 0 i k M) M := by
  unfold fp_X10_knot q_knot
  have hok := pcs_ok (IC_n h).2 (IC_L h).2
  obtain ⟨M', mk', e1, e2, e3, e4⟩ := x_badKnot h i k
  rw [ts_0 (IC_C h), e1, Option.bind_some]
  unfold zpp
  dsimp only
  cases hs : knt S i k with
  | inl k => dsimp only; rw [if_neg (knt_ne hs)]; exact x_rf e2 (Nat.le_succ _) e3
  | inr q =>
    obtain ⟨rfl, rfl, h1, h2⟩ := knt_ok hs
    have hC' := IC_C e2
    dsimp only
    rw [if_pos rfl, gR_0_9 hC', Option.bind_some, c_knotAt hC' (e4 ⟨q, hs⟩) h1 hok h2, Option.bind_some]
    exact x_gv e2 (Nat.le_succ _) e3
def q_ties (S : zSt) (i k : Int32) : Int32 × zSt := match knt S i k with
  | .inl e => rf S e
  | .inr q => gv S (nI (row ((pcs (sN S) (sL S)).getD q.1 q0).1.length ((pcs (sN S) (sL S)).getD q.1 q0).2 q.2))
theorem x_ties {S : zSt} {t : Nat} {M : zM} (h : IC S t M) (i k : Int32) : CM t (q_ties S i k) (fp_X10_ties 0 i k M) M := by
  unfold fp_X10_ties q_ties
  have hok := pcs_ok (IC_n h).2 (IC_L h).2
  obtain ⟨M', mk', e1, e2, e3, e4⟩ := x_badKnot h i k
  rw [ts_0 (IC_C h), e1, Option.bind_some]
  unfold zpp
  dsimp only
  cases hs : knt S i k with
  | inl k => dsimp only; rw [if_neg (knt_ne hs)]; exact x_rf e2 (Nat.le_succ _) e3
  | inr q =>
    obtain ⟨rfl, rfl, h1, h2⟩ := knt_ok hs
    have hC' := IC_C e2
    dsimp only
    rw [if_pos rfl, gR_0_9 hC', Option.bind_some, c_tiesOf hC' (e4 ⟨q, hs⟩) h1 hok h2, Option.bind_some]
    exact x_gv e2 (Nat.le_succ _) e3
def q_plain (S : zSt) : Int32 × zSt := gv S (bI (plainP (pcs (sN S) (sL S))))
theorem x_plain {S : zSt} {t : Nat} {M : zM} (h : IC S t M) : CM t (q_plain S) (fp_X10_plain 0 M) M := by
  unfold fp_X10_plain q_plain
  have hC := IC_C h
  have hok := pcs_ok (IC_n h).2 (IC_L h).2
  obtain ⟨M', mk', e1, e2, e3, e4⟩ := x_pgather h
  have hC' := IC_C e2
  rw [ts_0 hC, gR_0_9 hC, Option.bind_some, gI_0 hC, Option.bind_some, gI_0 hC, Option.bind_some, (IC_n h).1, (IC_L h).1, e1, Option.bind_some, gR_0_9 hC', Option.bind_some, c_isPlain hC' e4 hok, Option.bind_some, x_bit _ (fun w => (fp_X10_answer 0 w M').bind fun p => zpp p fun (y : Int32) (M2 : zM) => some (y, M2))]
  exact x_gv e2 (Nat.le_succ _) e3
/-! twins -/
def twn (n L w : Nat) : Nat := if w < 2 then likeC n L (w == 1) else if w = 2 then loneC n L else sons n (spls n L)
def q_twins (S : zSt) (v : Int32) : Int32 × zSt := match asN v 4 with
  | none => rf S 1
  | some w => gv S (nI (twn (sN S) (sL S) w))
theorem x_twins {S : zSt} {t : Nat} {M : zM} (h : IC S t M) (v : Int32) : CM t (q_twins S v) (fp_X10_twins 0 v M) M := by
  unfold fp_X10_twins q_twins
  have hC := IC_C h
  have g2 := (IC_n h).2
  have g4 := (IC_L h).2
  rw [ts_0 hC, show (3 : Int32) = nI 3 from n_3, x_what (by decide)]
  cases hv : asN v (3 + 1) with
  | none => exact x_rf h (Nat.le_succ _) Rk_refl
  | some w =>
    obtain ⟨rfl, hw, hb⟩ := asN_some hv
    dsimp only
    rw [gR_0_8 hC, Option.bind_some, gI_0 hC, Option.bind_some, gI_0 hC, Option.bind_some, (IC_n h).1, (IC_L h).1, Option.bind_some, Option.bind_some, Option.bind_some, Option.bind_some, zjn_eq]
    dsimp only
    unfold twn
    have w4 : w = 0 ∨ w = 1 ∨ w = 2 ∨ w = 3 := by omega
    rcases w4 with rfl | rfl | rfl | rfl
    · rw [if_neg (show ¬ (nI 0 ≥ 2) by decide), if_pos (show nI 0 ≠ 1 by decide), show fp_X2_likeCouples (nI (sN S)) (nI (sL S)) 0 = _ from c_likeCouples false g2 g4, Option.bind_some]
      exact x_gv h (Nat.le_succ _) Rk_refl
    · rw [if_neg (show ¬ (nI 1 ≥ 2) by decide), if_neg (show ¬ (nI 1 ≠ 1) by decide), show fp_X2_likeCouples (nI (sN S)) (nI (sL S)) 1 = _ from c_likeCouples true g2 g4, Option.bind_some]
      exact x_gv h (Nat.le_succ _) Rk_refl
    · rw [if_pos (show nI 2 ≥ 2 by decide), if_neg (show ¬ (nI 2 ≠ 2) by decide), c_lonePoints g2 g4, Option.bind_some]
      exact x_gv h (Nat.le_succ _) Rk_refl
    · obtain ⟨M', e1, e2, e3, e4⟩ := x_sgather h
      have hC' := IC_C e2
      rw [if_pos (show nI 3 ≥ 2 by decide), if_pos (show nI 3 ≠ 2 by decide), e1, Option.bind_some, gR_0_8 hC', Option.bind_some, gI_0 hC', Option.bind_some, (IC_n e2).1, c_strongOnes g2 hC' e4 (spls_len g2) spls_lt, Option.bind_some]
      exact x_gv e2 (Nat.le_succ _) e3
/-! turnings -/
theorem IC_t {S : zSt} {t : Nat} {M M' : zM} (h : IC S t M) (hf : Fc at38 M M') (hO : TuO M') : IC S t M' := by
  obtain ⟨h1, h2, h3, h4, r, st, h5⟩ := h
  have hk := Fk_of hf
  exact ⟨h1, Fk_C hk h2, IB_k hk (fun a ha q => by omega) h3, hO, r, st, IM_k hk (fun a h1 h2 q => by omega) h5⟩
theorem x_tgather {S : zSt} {t : Nat} {M : zM} (h : IC S t M) : ∃ M', fp_X8_gather 38 (nI (sN S)) (nI (sL S)) M = some M' ∧ IC S t M' ∧ Rk M M' ∧ TG (sN S) (sL S) M' := by
  have g2 := (IC_n h).2
  have g4 := (IC_L h).2
  obtain ⟨M', e1, e2, e3⟩ := c_tgather g2 g4 (IC_C h) h.2.2.2.1
  exact ⟨M', e1, IC_t h e3 (Or.inr ⟨_, _, g2, g4, e2⟩), Rk_k (Fk_of e3) fun a h1 h2 q => by omega, e2⟩
def fmy (n L w : Nat) : Nat := if w = 0 then mnT (Tl n L) (pc L) else if w = 1 then mxT (Tl n L) else if w = 2 then cwT (Tl n L) (mnT (Tl n L) (pc L)) else smT (Tl n L)
def q_family (S : zSt) (v : Int32) : Int32 × zSt := match asN v 4 with
  | none => rf S 1
  | some w => gv S (nI (fmy (sN S) (sL S) w))
theorem x_family {S : zSt} {t : Nat} {M : zM} (h : IC S t M) (v : Int32) : CM t (q_family S v) (fp_X10_family 0 v M) M := by
  unfold fp_X10_family q_family
  have hC := IC_C h
  have g2 := (IC_n h).2
  have g4 := (IC_L h).2
  have hok := Tl_okT g2 g4
  have hmn := mnT_le (Tl (sN S) (sL S)) (pc (sL S))
  have hpc := pc_le21 (sL S)
  rw [ts_0 hC, show (3 : Int32) = nI 3 from n_3, x_what (by decide)]
  cases hv : asN v (3 + 1) with
  | none => exact x_rf h (Nat.le_succ _) Rk_refl
  | some w =>
    obtain ⟨rfl, hw, hb⟩ := asN_some hv
    dsimp only
    obtain ⟨M', e1, e2, e3, e4⟩ := x_tgather h
    have hC' := IC_C e2
    rw [gR_0_13 hC, Option.bind_some, gI_0 hC, Option.bind_some, gI_0 hC, Option.bind_some, (IC_n h).1, (IC_L h).1, e1, Option.bind_some, gR_0_13 hC', Option.bind_some, Option.bind_some, Option.bind_some, Option.bind_some, Option.bind_some]
    unfold fmy
    have w4 : w = 0 ∨ w = 1 ∨ w = 2 ∨ w = 3 := by omega
    rcases w4 with rfl | rfl | rfl | rfl
    · rw [if_pos (show nI 0 = 0 by decide), c_fewest hC' (lt21 g2 g4) e4 hok, Option.bind_some]
      exact x_gv e2 (Nat.le_succ _) e3
    · rw [if_neg (show ¬ nI 1 = 0 by decide), if_pos (show nI 1 = 1 by decide), c_mostL hC' e4 hok, Option.bind_some]
      exact x_gv e2 (Nat.le_succ _) e3
    · rw [if_neg (show ¬ nI 2 = 0 by decide), if_neg (show ¬ nI 2 = 1 by decide), if_pos (show nI 2 = 2 by decide), c_fewest hC' (lt21 g2 g4) e4 hok, Option.bind_some, c_countWith hC' e4 hok (by omega), Option.bind_some]
      exact x_gv e2 (Nat.le_succ _) e3
    · rw [if_neg (show ¬ nI 3 = 0 by decide), if_neg (show ¬ nI 3 = 1 by decide), if_neg (show ¬ nI 3 = 2 by decide), c_allLines hC' e4 hok, Option.bind_some]
      exact x_gv e2 (Nat.le_succ _) e3
def q_turns (S : zSt) (v : Int32) : Int32 × zSt := match img S v with
  | .inl k => rf S k
  | .inr q => if q.1 = sN S then match toT (Tl (sN S) (sL S)) q.2 with
      | none => rf S 6
      | some d => gv S (nI d)
    else rf S 7
theorem toT_le {l : List (Nat × Nat)} {x d : Nat} (ho : okT l) (h : toT l x = some d) : d ≤ 1097 := by
  unfold toT at h
  rw [Option.map_eq_some_iff] at h
  obtain ⟨q, h1, rfl⟩ := h
  exact (ho.2 q (List.mem_of_find?_eq_some h1)).2
theorem x_turns {S : zSt} {t : Nat} {M : zM} (h : IC S t M) (v : Int32) : CM t (q_turns S v) (fp_X10_turns 0 v M) M := by
  unfold fp_X10_turns q_turns
  have hC := IC_C h
  have g2 := (IC_n h).2
  have g4 := (IC_L h).2
  have hok := Tl_okT g2 g4
  obtain ⟨k1, k2⟩ := x_badImage h v
  rw [ts_0 hC, k1, Option.bind_some]
  cases hi : img S v with
  | inl k => dsimp only; rw [if_neg (img_ne hi)]; exact x_rf h (Nat.le_succ _) Rk_refl
  | inr q =>
    dsimp only
    have ok := img_ok h.1 hi
    have hq1 : fp_X2_pointsOf (nI (cdN q)) = some (nI q.1) := c_pointsOf ok.1 (lt21 ok.1 ok.2)
    have hq2 : fp_X2_linesOf (nI (cdN q)) = some (nI q.2) := c_linesOf ok.1 (lt21 ok.1 ok.2)
    have o1 := ok.1
    rw [if_pos rfl, k2 q hi, Option.bind_some, hq1, Option.bind_some, gI_0 hC, Option.bind_some, (IC_n h).1]
    by_cases c : q.1 = sN S
    · obtain ⟨M', e1, e2, e3, e4⟩ := x_tgather h
      have hC' := IC_C e2
      rw [if_pos c, if_pos (by rw [c]), gR_0_13 hC, Option.bind_some, Option.bind_some, gI_0 hC, Option.bind_some, (IC_L h).1, e1, Option.bind_some, gR_0_13 hC', Option.bind_some, hq2, Option.bind_some, c_turnsTo hC' e4 hok (lt31 ok.1 ok.2), Option.bind_some]
      cases hd : toT (Tl (sN S) (sL S)) q.2 with
      | none => dsimp only; rw [if_neg (show ¬ (-1 : Int32) ≥ 0 by decide)]; exact x_rf e2 (Nat.le_succ _) e3
      | some d =>
        have := toT_le hok hd
        dsimp only
        rw [if_pos (by rw [n_0, ge_iff_le, n_le (by omega) (by omega)]; omega)]
        exact x_gv e2 (Nat.le_succ _) e3
    · rw [if_neg c, if_neg (by rw [n_eq (by omega) (by omega)]; exact c)]; exact x_rf h (Nat.le_succ _) Rk_refl
def q_within (S : zSt) (v : Int32) : Int32 × zSt := match img S v with
  | .inl k => rf S k
  | .inr q => if q.1 ≤ sN S then gv S (bI (abT (Tl (sN S) (sL S)) (prs (1 <<< q.1 - 1)) q.2)) else rf S 7
theorem x_within {S : zSt} {t : Nat} {M : zM} (h : IC S t M) (v : Int32) : CM t (q_within S v) (fp_X10_within 0 v M) M := by
  unfold fp_X10_within q_within
  have hC := IC_C h
  have g2 := (IC_n h).2
  have g4 := (IC_L h).2
  have hok := Tl_okT g2 g4
  obtain ⟨k1, k2⟩ := x_badImage h v
  rw [ts_0 hC, k1, Option.bind_some]
  cases hi : img S v with
  | inl k => dsimp only; rw [if_neg (img_ne hi)]; exact x_rf h (Nat.le_succ _) Rk_refl
  | inr q =>
    dsimp only
    have ok := img_ok h.1 hi
    have hq1 : fp_X2_pointsOf (nI (cdN q)) = some (nI q.1) := c_pointsOf ok.1 (lt21 ok.1 ok.2)
    have hq2 : fp_X2_linesOf (nI (cdN q)) = some (nI q.2) := c_linesOf ok.1 (lt21 ok.1 ok.2)
    have o1 := ok.1
    rw [if_pos rfl, k2 q hi, Option.bind_some, hq1, Option.bind_some, gI_0 hC, Option.bind_some, (IC_n h).1]
    by_cases c : q.1 ≤ sN S
    · obtain ⟨M', e1, e2, e3, e4⟩ := x_tgather h
      have hC' := IC_C e2
      rw [if_pos c, if_pos (by rw [n_le (by omega) (by omega)]; exact c), gR_0_13 hC, Option.bind_some, Option.bind_some, gI_0 hC, Option.bind_some, (IC_L h).1, e1, Option.bind_some, gR_0_13 hC', Option.bind_some, Option.bind_some, hq2, Option.bind_some, c_anyBegins hC' e4 hok ok.1 (lt31 ok.1 ok.2), Option.bind_some, x_bit _ (fun w => (fp_X10_answer 0 w M').bind fun p => zpp p fun (y : Int32) (M2 : zM) => some (y, M2))]
      exact x_gv e2 (Nat.le_succ _) e3
    · rw [if_neg c, if_neg (by rw [n_le (by omega) (by omega)]; exact c)]; exact x_rf h (Nat.le_succ _) Rk_refl

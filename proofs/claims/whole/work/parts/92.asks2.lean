/-! ===== 92: the reference: what is asked of models ===== -/
abbrev qq0 : Qst := (0, 0, 0, [])
theorem PQ_mod {n L : Nat} {qq : Qst} (h4 : qq.1 ≠ 4) : Ex (PQ n L qq) n [] (2 * n) = Mods n L := by
  have : PQ n L qq = modB n L := funext fun w => by unfold PQ; rw [if_neg h4]
  rw [this]; rfl
theorem y_goesS {S : zSt} {qq : Qst} {wv : Int32} {M : zM} (h : IR S M) (hQ : QH (sN S) qq M) (h4 : qq.1 ≠ 4) : ∃ M', fp_X11_goes 46 wv M = some ((g0 qq wv (mds S)).1, M') ∧ IR S M' ∧ Fc atR M M' ∧ SMh (g0 qq wv (mds S)) M' := by
  obtain ⟨M', e1, e2, e3⟩ := y_goes (wv := wv) (IR_C h) (IR_N h) (IR_n h).2 hQ
  rw [PQ_mod h4] at e1 e3
  exact ⟨M', e1, IR_z h (scV e2), scR_c (scV e2), e3⟩
theorem sc39 {M : zM} {k : Nat} {v : Int32} (hk : k = 39 ∨ k = 40 ∨ k = 41) : Fz scR M (zsI M 46 k v) := Fz_sI (by show (46 = 46 ∧ _) ∨ _; omega)
theorem mds_lt {S : zSt} (h : okZ S) : (mds S).length < 80000 := Mods_len h.1.1
theorem y_models {S : zSt} {M : zM} (h : IR S M) (v : Int32) : ∃ M', fp_X11_models 46 v M = some ((g0 qq0 v (mds S)).1, M') ∧ IR S M' ∧ Fc atR M M' ∧ SMh (g0 qq0 v (mds S)) M' := by
  unfold fp_X11_models
  have hC := IR_C h
  have h1 : IR S (zsI M 46 39 0) := IR_z h (sc39 (Or.inl rfl))
  obtain ⟨M', e1, e2, e3, e4⟩ := y_goesS (qq := qq0) (wv := v) h1 ⟨by rw [zI_same]; exact n_0, by decide, fun q => absurd q (by decide), fun q => absurd q (by decide), fun q => absurd q (by decide)⟩ (by decide)
  rw [ts_46 hC, pI_46 hC, Option.bind_some, e1, Option.bind_some]
  exact ⟨M', rfl, e2, Fc_trans (scR_c (sc39 (Or.inl rfl))) e3, e4⟩
theorem y_wrongModel {S : zSt} {M : zM} (h : IR S M) (i : Int32) (h0 : ¬ i < 0) : ∃ M', fp_X11_wrongModel 46 i M = some ((match asN i (mds S).length with | none => 6 | some _ => 0), M') ∧ IR S M' ∧ Fc atR M M' ∧ ∀ j, asN i (mds S).length = some j → AN M' 67 ((mds S).getD j []) := by
  unfold fp_X11_wrongModel
  have hl := mds_lt h.1
  have g2 := (IR_n h).2
  obtain ⟨M', e1, e2, e3, e4⟩ := y_models h i
  rw [ts_46 (IR_C h), e1, Option.bind_some]
  unfold zpp
  dsimp only
  cases hv : asN i (mds S).length with
  | none =>
    rcases asN_none hv with h1 | ⟨j, rfl, hj, hb⟩
    · exact absurd h1 h0
    · obtain ⟨a1, a2⟩ := (g0_one (qq := qq0) (i := j) (by decide) hb (mds S) (by omega)).1 hj
      refine ⟨M', ?_, e2, e3, fun j q => by cases q⟩
      rw [a1, if_pos (by rw [n_le (by omega) hb]; exact hj)]
  | some j =>
    obtain ⟨rfl, hj, hb⟩ := asN_some hv
    obtain ⟨a1, a2⟩ := (g0_one (qq := qq0) (i := j) (by decide) hb (mds S) (by omega)).2 hj
    refine ⟨M', ?_, e2, e3, fun j' q => ?_⟩
    · rw [a1, if_neg (by rw [n_le (by omega) hb]; omega)]
    · cases q
      have hlen := (mds_get hj).1.1.1
      have ht : (g0 qq0 (nI j) (mds S)).2.2.1 = (mds S).getD j [] := by rw [a2]
      have := e4.2.2.1
      rw [ht] at this
      exact AN_of (IR_C e2) (Or.inr (Or.inl rfl)) (by omega) this
theorem y_letter {S : zSt} {M : zM} (h : IR S M) (i pl : Int32) : RM (q_letter S i pl) (fp_X11_letter 46 i pl M) M := by
  unfold fp_X11_letter q_letter
  have hC := IR_C h
  have g2 := (IR_n h).2
  rw [ts_46 hC]
  by_cases h0 : i < 0
  · rw [if_pos h0, if_pos h0]; exact y_rf h Fc_refl
  · rw [if_neg h0, if_neg h0]
    by_cases h1 : pl < 0
    · rw [if_pos h1, if_neg (show ¬ pl ≥ 0 by rw [ge_iff_le, Int32.not_le]; exact h1)]; exact y_rf h Fc_refl
    · obtain ⟨M', e1, e2, e3, e4⟩ := y_wrongModel h i h0
      have hC' := IR_C e2
      rw [if_neg h1, if_pos (show pl ≥ 0 by rw [ge_iff_le]; exact Int32.not_lt.mp h1), e1, Option.bind_some]
      unfold zpp
      dsimp only
      rw [zjn_eq]
      cases hv : asN i (mds S).length with
      | none => dsimp only; rw [if_pos (by decide), if_neg (by decide)]; exact y_rf e2 e3
      | some j =>
        dsimp only
        have hA := e4 j hv
        obtain ⟨rfl, hj, hb⟩ := asN_some hv
        have hlen := (mds_get hj).1.1.1
        rw [if_neg (by decide), y_length hC' (IR_N e2), Option.bind_some]
        cases hk : asN pl (2 * sN S) with
        | none =>
          rcases asN_none hk with h2 | ⟨k, rfl, hk2, hb2⟩
          · exact absurd h2 h1
          · rw [if_neg (by rw [n_lt hb2 (by omega)]; omega), if_neg (by decide)]; exact y_rf e2 e3
        | some k =>
          obtain ⟨rfl, hk2, hb2⟩ := asN_some hk
          rw [if_pos (by rw [n_lt hb2 (by omega)]; exact hk2), if_pos (by decide), gR_46_34 hC', Option.bind_some, AN_l hA (by omega), Option.bind_some]
          exact y_gv e2 e3
/-! spans -/
theorem two_pos {A B C : List Nat} {p k : Nat} (hA : p ∉ A) (hB : p ∉ B) (hC : p ∉ C) (hk : k < (A ++ p :: (B ++ p :: C)).length) : (A ++ p :: (B ++ p :: C)).getD k 0 = p ↔ (k = A.length ∨ k = A.length + 1 + B.length) := by
  simp only [List.length_append, List.length_cons] at hk
  by_cases h1 : k < A.length
  · rw [gA h1]
    exact ⟨fun z => absurd z (nin hA h1), fun z => by omega⟩
  · obtain ⟨j, rfl⟩ : ∃ j, k = A.length + j := ⟨k - A.length, by omega⟩
    rw [gR']
    cases j with
    | zero => exact ⟨fun _ => Or.inl rfl, fun _ => rfl⟩
    | succ j =>
      have e : (p :: (B ++ p :: C)).getD (j + 1) 0 = (B ++ p :: C).getD j 0 := rfl
      rw [e]
      by_cases h2 : j < B.length
      · rw [gA h2]
        exact ⟨fun z => absurd z (nin hB h2), fun z => by omega⟩
      · obtain ⟨i, rfl⟩ : ∃ i, j = B.length + i := ⟨j - B.length, by omega⟩
        rw [gR']
        cases i with
        | zero => exact ⟨fun _ => Or.inr (by omega), fun _ => rfl⟩
        | succ i =>
          have e2 : (p :: C).getD (i + 1) 0 = C.getD i 0 := rfl
          rw [e2]
          exact ⟨fun z => absurd z (nin hC (by omega)), fun z => by omega⟩
theorem y_spanOf {n L p : Nat} {w : List Nat} {M : zM} (hC : zC M) (hN : NrH n L M) (hn : n < 8) (hA : AN M 67 w) (hW : WD n w) (hp : p < n) : fp_X11_spanOf 46 (nI p) M = some (nI (spn p w)) := by
  unfold fp_X11_spanOf
  have hlen := hW.1
  have hlt := WD_lt hW
  obtain ⟨A, B, C, e, h1, h2, h3⟩ := two_of (hW.2 p hp)
  have hL : w.length = A.length + 1 + B.length + 1 + C.length := by rw [e]; simp; omega
  have hpos : ∀ k, k < w.length → (w.getD k 0 = p ↔ (k = A.length ∨ k = A.length + 1 + B.length)) := fun k hk => by
    rw [e] at hk ⊢; exact two_pos h1 h2 h3 hk
  have hsp : spn p w = min (B.length + 1) (w.length - (B.length + 1)) := by unfold spn; rw [e, dst_split h1 h2]
  let a : Nat → Int32 := fun k => if k ≤ A.length then -1 else nI A.length
  let b : Nat → Int32 := fun k => if k ≤ A.length then -1 else if k ≤ A.length + 1 + B.length then nI A.length else nI (A.length + 1 + B.length)
  rw [ts_46 hC, n_0]
  have a0 : (-1 : Int32) = a 0 := by show _ = if 0 ≤ A.length then (-1 : Int32) else _; rw [if_pos (Nat.zero_le _)]
  have b0 : a 0 = b 0 := by show (if 0 ≤ A.length then (-1 : Int32) else _) = if 0 ≤ A.length then (-1 : Int32) else _; rw [if_pos (Nat.zero_le _), if_pos (Nat.zero_le _)]
  obtain ⟨K, hK⟩ : ∃ K : Int32 → Int32 → Option Int32, K = fun v2_7 v3_8 =>
        (fp_X11_length 46 M).bind fun (y9 : Int32) =>
        some (kmin (v3_8 - v2_7) ((y9 - v3_8) + v2_7)) := ⟨_, rfl⟩
  rw [← hK]
  refine Eq.trans (b := fp_X11_spanOf_L7 K 46 (nI p) M FU (a 0) (b 0) (nI 0)) (by rw [← b0, ← a0]) ?_
  refine up (P := fun k f => fp_X11_spanOf_L7 K 46 (nI p) M f (a k) (b k) (nI k) = some (nI (spn p w))) (a := 0) (n := w.length) ?_ ?_ FU (by omega) (FU_gt (by omega))
  · intro f
    have ea : a w.length = nI A.length := by show (if w.length ≤ A.length then (-1 : Int32) else _) = _; rw [if_neg (by omega)]
    have eb : b w.length = nI (A.length + 1 + B.length) := by show (if w.length ≤ A.length then (-1 : Int32) else if w.length ≤ A.length + 1 + B.length then _ else _) = _; rw [if_neg (by omega), if_neg (by omega)]
    rw [fp_X11_spanOf_L7, y_length hC hN, Option.bind_some, ← hlen, stp, hK]
    dsimp only
    rw [y_length hC hN, Option.bind_some, ← hlen, ea, eb, n_sub (by omega), n_sub (by omega), n_add, n_min (by omega) (by omega), hsp]
    congr 2
    omega
  · intro k f _ hk ih
    have hg := hlt _ (getD_mem hk)
    rw [fp_X11_spanOf_L7, y_length hC hN, Option.bind_some, ← hlen, go hk (by omega), gR_46_34 hC, Option.bind_some, AN_l hA hk, Option.bind_some, zjn_eq, inc]
    by_cases hq : w.getD k 0 = p
    · rw [hq, if_pos rfl, zjn_eq]
      rcases (hpos k hk).mp hq with hz | hz
      · have ea : a k = -1 := by show (if k ≤ A.length then (-1 : Int32) else _) = _; rw [if_pos (by omega)]
        have ea1 : a (k + 1) = nI k := by show (if k + 1 ≤ A.length then (-1 : Int32) else nI A.length) = _; rw [if_neg (by omega), hz]
        have eb1 : b (k + 1) = nI k := by show (if k + 1 ≤ A.length then (-1 : Int32) else if k + 1 ≤ A.length + 1 + B.length then nI A.length else _) = _; rw [if_neg (by omega), if_pos (by omega), hz]
        rw [ea, if_neg (fun z => z rfl)]
        rw [ea1, eb1] at ih
        exact ih
      · have ea : a k = nI A.length := by show (if k ≤ A.length then (-1 : Int32) else _) = _; rw [if_neg (by omega)]
        have ea1 : a (k + 1) = nI A.length := by show (if k + 1 ≤ A.length then (-1 : Int32) else nI A.length) = _; rw [if_neg (by omega)]
        have eb1 : b (k + 1) = nI k := by show (if k + 1 ≤ A.length then (-1 : Int32) else if k + 1 ≤ A.length + 1 + B.length then nI A.length else nI (A.length + 1 + B.length)) = _; rw [if_neg (by omega), if_neg (by omega), hz]
        rw [ea, if_pos (by rw [ne_eq, n_neg (by omega)]; exact id)]
        rw [ea1, eb1] at ih
        exact ih
    · have hz := fun z => hq ((hpos k hk).mpr z)
      have ea : a (k + 1) = a k := by
        show (if k + 1 ≤ A.length then (-1 : Int32) else nI A.length) = if k ≤ A.length then (-1 : Int32) else nI A.length
        by_cases c : k + 1 ≤ A.length
        · rw [if_pos c, if_pos (by omega)]
        · have : k ≠ A.length := fun y => hz (Or.inl y)
          rw [if_neg c, if_neg (by omega)]
      have eb : b (k + 1) = b k := by
        show (if k + 1 ≤ A.length then (-1 : Int32) else if k + 1 ≤ A.length + 1 + B.length then nI A.length else nI (A.length + 1 + B.length)) = if k ≤ A.length then (-1 : Int32) else if k ≤ A.length + 1 + B.length then nI A.length else nI (A.length + 1 + B.length)
        have n1 : k ≠ A.length := fun y => hz (Or.inl y)
        have n2 : k ≠ A.length + 1 + B.length := fun y => hz (Or.inr y)
        by_cases c : k + 1 ≤ A.length
        · rw [if_pos c, if_pos (by omega)]
        · rw [if_neg c, if_neg (show ¬ k ≤ A.length by omega)]
          by_cases c2 : k + 1 ≤ A.length + 1 + B.length
          · rw [if_pos c2, if_pos (by omega)]
          · rw [if_neg c2, if_neg (by omega)]
      rw [if_neg (by rw [n_eq (by omega) (by omega)]; exact hq)]
      rw [ea, eb] at ih
      exact ih
theorem y_span {S : zSt} {M : zM} (h : IR S M) (i p : Int32) : RM (q_span S i p) (fp_X11_span 46 i p M) M := by
  unfold fp_X11_span q_span mpt
  have hC := IR_C h
  have g2 := (IR_n h).2
  rw [ts_46 hC]
  by_cases h0 : i < 0
  · rw [if_pos h0, if_neg (by rw [ge_iff_le, Int32.not_le]; exact h0)]; exact y_rf h Fc_refl
  · rw [if_neg h0, if_pos (by rw [ge_iff_le]; exact Int32.not_lt.mp h0), y_isPoint h, Option.bind_some]
    cases hp : asN p (sN S) with
    | none => rw [b_no, if_neg (by decide)]; exact y_rf h Fc_refl
    | some q =>
      obtain ⟨rfl, hq, hqb⟩ := asN_some hp
      obtain ⟨M', e1, e2, e3, e4⟩ := y_wrongModel h i h0
      have hC' := IR_C e2
      rw [b_so, if_pos (by decide), e1, Option.bind_some]
      unfold zpp
      dsimp only
      cases hv : asN i (mds S).length with
      | none => dsimp only; rw [if_neg (by decide)]; exact y_rf e2 e3
      | some j =>
        have hA := e4 j hv
        obtain ⟨rfl, hj, hb⟩ := asN_some hv
        dsimp only
        rw [if_pos (by decide), y_spanOf hC' (IR_N e2) g2 hA (mds_get hj).1.1 hq, Option.bind_some]
        exact y_gv e2 e3
theorem y_meanLoop {n L : Nat} {w : List Nat} {v : Int32} {M : zM} {K : Int32 → Int32 → Int32 → Option (Int32 × zM)} (hC : zC M) (hN : NrH n L M) (hn : n < 8) (hA : AN M 67 w) (hW : WD n w) : fp_X11_mean_L46 K 46 v M FU 0 14 0 0 = K (nI (smN (fun p => spn p w) n)) (nI (mns w n)) (nI (mxs w n)) := by
  have small : ∀ i, i ≤ n → mns w i ≤ 14 ∧ mxs w i ≤ n := fun i hi => by
    by_cases h0 : i = 0
    · subst h0; exact ⟨Nat.le_refl _, Nat.zero_le _⟩
    · have := mns_le hW i hi (by omega); omega
  refine Eq.trans (b := fp_X11_mean_L46 K 46 v M FU (nI (smN (fun p => spn p w) 0)) (nI (mns w 0)) (nI (mxs w 0)) (nI 0)) rfl ?_
  refine up (P := fun i f => fp_X11_mean_L46 K 46 v M f (nI (smN (fun p => spn p w) i)) (nI (mns w i)) (nI (mxs w i)) (nI i) = K (nI (smN (fun p => spn p w) n)) (nI (mns w n)) (nI (mxs w n))) (a := 0) (n := n) ?_ ?_ FU (by omega) (FU_gt (by omega))
  · intro f
    rw [fp_X11_mean_L46, gI_46 hC, Option.bind_some, hN.1, stp]
  · intro i f _ hi ih
    have hs := spn_le hW hi
    have hb := small i (by omega)
    have hsp := y_spanOf hC hN hn hA hW hi
    rw [fp_X11_mean_L46, gI_46 hC, Option.bind_some, hN.1, go hi (by omega), hsp, Option.bind_some, lett_eq, Option.bind_some, lett_eq, Option.bind_some, lett_eq, n_add, n_min (by omega) (by omega), n_max (by omega) (by omega), inc]
    exact ih
theorem y_mean {S : zSt} {M : zM} (h : IR S M) (i what : Int32) : RM (q_mean S i what) (fp_X11_mean 46 i what M) M := by
  unfold fp_X11_mean q_mean
  have hC := IR_C h
  have g2 := (IR_n h).2
  rw [ts_46 hC]
  by_cases h0 : i < 0
  · rw [if_pos h0, if_pos h0]; exact y_rf h Fc_refl
  · rw [if_neg h0, if_neg h0, show fp_X11_isFrom what 0 1 = some (bI (asN what (1 + 1)).isSome) from by rw [n_1]; exact y_from0 (by decide), Option.bind_some]
    cases hw : asN what (1 + 1) with
    | none => rw [b_no, if_neg (by decide)]; exact y_rf h Fc_refl
    | some k =>
      obtain ⟨rfl, hk, hkb⟩ := asN_some hw
      obtain ⟨M', e1, e2, e3, e4⟩ := y_wrongModel h i h0
      have hC' := IR_C e2
      dsimp only
      rw [b_so, if_pos (show (1 : Int32) ≠ 0 by decide), e1, Option.bind_some]
      unfold zpp
      dsimp only
      cases hv : asN i (mds S).length with
      | none => dsimp only; rw [if_neg (by decide)]; exact y_rf e2 e3
      | some j =>
        have hA := e4 j hv
        obtain ⟨rfl, hj, hb⟩ := asN_some hv
        dsimp only
        have hW := (mds_get hj).1.1
        obtain ⟨w, hw⟩ : ∃ w, w = (mds S).getD j [] := ⟨_, rfl⟩
        rw [← hw] at hA hW ⊢
        have small : ∀ i, i ≤ sN S → mns w i ≤ 14 ∧ mxs w i ≤ sN S := fun i hi => by
          by_cases h0 : i = 0
          · subst h0; exact ⟨Nat.le_refl _, Nat.zero_le _⟩
          · have := mns_le hW i hi (by omega); omega
        rw [if_pos (by decide)]
        have hs := smS_le hW (sN S) (Nat.le_refl _)
        have hnn : sN S * sN S ≤ 49 := Nat.mul_le_mul (show sN S ≤ 7 by omega) (show sN S ≤ 7 by omega)
        have hsm := small (sN S) (Nat.le_refl _)
        rw [y_meanLoop hC' (IR_N e2) g2 hA hW]
        unfold men
        by_cases hk0 : k = 0
        · rw [hk0, if_neg (show ¬ nI 0 ≠ 0 by decide), if_pos rfl, gI_46 hC', Option.bind_some, (IR_n e2).1, n_1, n_max (by decide) (by omega), j_of (by omega), j_of (by omega), rq_quot (by omega) (by omega) (by omega), Option.bind_some]
          exact y_gv e2 e3
        · rw [if_pos (show nI k ≠ 0 by rw [n_0, ne_eq, n_eq hkb (by omega)]; exact hk0), if_neg hk0, gI_46 hC', Option.bind_some, (IR_n e2).1]
          by_cases hn0 : sN S = 0
          · rw [hn0, if_neg (show ¬ nI 0 ≠ 0 by decide), if_pos rfl, show fp_X11_quotient 1 1 = some 1065353216 from by decide +kernel, Option.bind_some]
            exact y_gv e2 e3
          · have := mns_le hW (sN S) (Nat.le_refl _) (by omega)
            rw [if_pos (show nI (sN S) ≠ 0 by rw [n_0, ne_eq, n_eq (by omega) (by decide)]; exact hn0), if_neg hn0, j_of (by omega), j_of (by omega), rq_quot (by omega) (by omega) (by omega), Option.bind_some]
            exact y_gv e2 e3
/-! gaps -/
theorem scG {M M' : zM} (h : Fz atG M M') : Fz scR M M' := Fz_mono h fun a k q => by show (a = 46 ∧ _) ∨ _; omega
theorem cpl_len {w : List Nat} {s : Nat} (h : w.length ≤ 14) : (cpl w s).length ≤ 225 := by
  have hcl := cpN_len w s (w.length + 1)
  have hcl2 : (w.length + 1) * (w.length + 1) ≤ 15 * 15 := Nat.mul_le_mul (by omega) (by omega)
  unfold cpl; omega
theorem y_gapsS {S : zSt} {w : List Nat} {s : Nat} {M : zM} (jv : Int32) (h : IR S M) (hA : AN M 67 w) (hW : WD (sN S) w) (hs : s < 2 ^ sN S) : ∃ M', fp_X11_gaps 46 67 (nI s) jv M = some (nI (cpl w s).length, M') ∧ IR S M' ∧ Fc atR M M' ∧ gapH jv (cpl w s) M' := by
  have g2 := (IR_n h).2
  have p2 := two_pow7 g2
  obtain ⟨M', e1, e2, e3⟩ := y_gaps (jv := jv) (set := s) (IR_C h) (IR_N h) g2 (by decide) hA hW.1 (WD7 g2 hW) (by omega)
  exact ⟨M', e1, IR_z h (scG e2), scR_c (scG e2), e3⟩
theorem y_fits {S : zSt} {M : zM} (h : IR S M) (i set : Int32) : RM (q_fits S i set) (fp_X11_fits 46 i set M) M := by
  unfold fp_X11_fits q_fits
  have hC := IR_C h
  have g2 := (IR_n h).2
  rw [ts_46 hC, y_isSet h, Option.bind_some]
  by_cases h0 : i < 0
  · rw [if_pos h0, if_pos h0]; exact y_rf h Fc_refl
  · rw [if_neg h0, if_neg h0]
    cases hs : asN set (2 ^ sN S) with
    | none => rw [b_no, if_neg (show ¬ ((0 : Int32) ≠ 0) by decide)]; exact y_rf h Fc_refl
    | some s =>
      obtain ⟨rfl, hs2, hsb⟩ := asN_some hs
      obtain ⟨M', e1, e2, e3, e4⟩ := y_wrongModel h i h0
      have hC' := IR_C e2
      dsimp only
      rw [b_so, if_pos (show (1 : Int32) ≠ 0 by decide), e1, Option.bind_some]
      unfold zpp
      dsimp only
      cases hv : asN i (mds S).length with
      | none => dsimp only; rw [if_neg (by decide)]; exact y_rf e2 e3
      | some j =>
        have hA := e4 j hv
        obtain ⟨rfl, hj, hb⟩ := asN_some hv
        obtain ⟨M2, k1, k2, k3, k4⟩ := y_gapsS (-1) e2 hA (mds_get hj).1.1 hs2
        dsimp only
        rw [if_pos (by decide), gR_46_34 hC', Option.bind_some, k1, Option.bind_some]
        exact y_gv k2 (Fc_trans e3 k3)
theorem y_gap {S : zSt} {M : zM} (h : IR S M) (i set j what : Int32) : RM (q_gap S i set j what) (fp_X11_gap 46 i set j what M) M := by
  unfold fp_X11_gap q_gap
  have hC := IR_C h
  have g2 := (IR_n h).2
  rw [ts_46 hC, y_isSet h, Option.bind_some]
  by_cases h0 : i < 0
  · rw [if_pos h0, if_pos h0]; exact y_rf h Fc_refl
  · rw [if_neg h0, if_neg h0]
    cases hs : asN set (2 ^ sN S) with
    | none => rw [b_no, if_pos rfl]; exact y_rf h Fc_refl
    | some s =>
      obtain ⟨rfl, hs2, hsb⟩ := asN_some hs
      rw [b_so, if_neg (show ¬ (1 : Int32) = 0 by decide)]
      dsimp only
      by_cases h1 : j < 0
      · rw [if_pos h1, if_pos h1]; exact y_rf h Fc_refl
      · rw [if_neg h1, if_neg h1, show fp_X11_isFrom what 0 1 = some (bI (asN what (1 + 1)).isSome) from by rw [n_1]; exact y_from0 (by decide), Option.bind_some]
        cases hw : asN what (1 + 1) with
        | none => rw [b_no, if_neg (by decide)]; exact y_rf h Fc_refl
        | some k =>
          obtain ⟨rfl, hk, hkb⟩ := asN_some hw
          obtain ⟨M', e1, e2, e3, e4⟩ := y_wrongModel h i h0
          have hC' := IR_C e2
          dsimp only
          rw [b_so, if_pos (show (1 : Int32) ≠ 0 by decide), e1, Option.bind_some]
          unfold zpp
          dsimp only
          cases hv : asN i (mds S).length with
          | none => dsimp only; rw [if_pos (by decide)]; exact y_rf e2 e3
          | some m =>
            have hA := e4 m hv
            obtain ⟨rfl, hm, hb⟩ := asN_some hv
            have hW := (mds_get hm).1.1
            obtain ⟨M2, k1, k2, k3, k4⟩ := y_gapsS j e2 hA hW hs2
            have hC2 := IR_C k2
            have hcl := cpl_len (w := (mds S).getD m []) (s := s) (by have := hW.1; omega)
            dsimp only
            rw [if_neg (by decide), gR_46_34 hC', Option.bind_some, k1, Option.bind_some]
            dsimp only
            cases hj : asN j (cpl ((mds S).getD m []) s).length with
            | none =>
              rcases asN_none hj with h2 | ⟨x, rfl, hx, hxb⟩
              · exact absurd h2 h1
              · rw [if_neg (by rw [gt_iff_lt, n_lt hxb (by omega)]; omega)]; exact y_rf k2 (Fc_trans e3 k3)
            | some x =>
              obtain ⟨rfl, hx, hxb⟩ := asN_some hj
              obtain ⟨z1, z2⟩ := k4 x rfl hxb hx
              rw [if_pos (by rw [gt_iff_lt, n_lt hxb (by omega)]; exact hx)]
              dsimp only
              by_cases hk0 : k = 0
              · rw [hk0, if_neg (show ¬ nI 0 ≠ 0 by decide), if_pos rfl, gI_46 hC2, Option.bind_some, z1]
                exact y_gv k2 (Fc_trans e3 k3)
              · rw [if_pos (show nI k ≠ 0 by rw [n_0, ne_eq, n_eq hkb (by omega)]; exact hk0), if_neg hk0, gI_46 hC2, Option.bind_some, z2]
                exact y_gv k2 (Fc_trans e3 k3)
/-! in how many -/
theorem y_could {S : zSt} {M : zM} (h : IR S M) (v : Int32) : RM (q_could S v) (fp_X11_could 46 v M) M := by
  unfold fp_X11_could q_could
  have hC := IR_C h
  have g2 := (IR_n h).2
  have p2 := two_pow7 g2
  have hl := mds_lt h.1
  rw [ts_46 hC, y_isSet h, Option.bind_some]
  cases hv : asN v (2 ^ sN S) with
  | none => rw [b_no, if_neg (by decide)]; exact y_rf h Fc_refl
  | some s =>
    obtain ⟨rfl, hs, hb⟩ := asN_some hv
    dsimp only
    have f1 : Fz scR M (zsI M 46 39 2) := sc39 (Or.inl rfl)
    have f2 : Fz scR M (zsI (zsI M 46 39 2) 46 40 (nI s)) := Fz_trans f1 (sc39 (Or.inr (Or.inl rfl)))
    have h2 := IR_z h f2
    have h4 : ((2, s, 0, []) : Qst).1 ≠ 4 := by show (2 : Nat) ≠ 4; decide
    obtain ⟨M', e1, e2, e3, e4⟩ := y_goesS (qq := (2, s, 0, [])) (wv := -1) h2 ⟨by rw [zI_other _ _ (Or.inr (by decide)), zI_same]; exact n_2, by show 2 < 5; decide, fun q => absurd q (by show ¬ 2 = 1; decide), fun _ => ⟨zI_same _ _ _ _, by show s < 128; omega⟩, fun q => absurd q (by show ¬ 2 = 3; decide)⟩ h4
    have hg := g0_all h4 (mds S) (by omega)
    rw [b_so, if_pos (show (1 : Int32) ≠ 0 by decide), pI_46 hC, Option.bind_some, pI_46 (by exact hC), Option.bind_some, e1, Option.bind_some]
    unfold zpp
    dsimp only
    rw [gI_46 (IR_C e2), Option.bind_some, e4.2.1, hg]
    dsimp only
    have ec : (mds S).countP (ckB (2, s, 0, [])) = (mds S).countP fun w => anyC w s := rfl
    rw [ec]
    exact y_gv e2 (Fc_trans (scR_c f2) e3)
theorem y_beside {S : zSt} {M : zM} (h : IR S M) (a b : Int32) : RM (q_beside S a b) (fp_X11_beside 46 a b M) M := by
  unfold fp_X11_beside q_beside
  have hC := IR_C h
  have g2 := (IR_n h).2
  have hl := mds_lt h.1
  rw [ts_46 hC, y_wrongTwo h, Option.bind_some]
  rcases tw_cases g2 a b with ⟨k, e, hk⟩ | ⟨x, y, e, rfl, rfl, hx, hy, hxy⟩
  · rw [e]
    dsimp only
    rw [if_neg (by rcases tw_pos e with rfl | rfl <;> decide)]
    exact y_rf h Fc_refl
  · rw [e]
    dsimp only
    have f1 : Fz scR M (zsI M 46 39 1) := sc39 (Or.inl rfl)
    have f2 : Fz scR M (zsI (zsI M 46 39 1) 46 40 (nI x)) := Fz_trans f1 (sc39 (Or.inr (Or.inl rfl)))
    have f3 : Fz scR M (zsI (zsI (zsI M 46 39 1) 46 40 (nI x)) 46 41 (nI y)) := Fz_trans f2 (sc39 (Or.inr (Or.inr rfl)))
    have h2 := IR_z h f3
    have h4 : ((1, x, y, []) : Qst).1 ≠ 4 := by show (1 : Nat) ≠ 4; decide
    obtain ⟨M', e1, e2, e3, e4⟩ := y_goesS (qq := (1, x, y, [])) (wv := -1) h2 ⟨by rw [zI_other _ _ (Or.inr (by decide)), zI_other _ _ (Or.inr (by decide)), zI_same]; exact n_1, by show 1 < 5; decide, fun _ => ⟨by rw [zI_other _ _ (Or.inr (by decide)), zI_same], zI_same _ _ _ _, by show x < 7; omega, by show y < 7; omega⟩, fun q => absurd q (by show ¬ 1 = 2; decide), fun q => absurd q (by show ¬ 1 = 3; decide)⟩ h4
    have hg := g0_all h4 (mds S) (by omega)
    rw [if_pos (by decide), pI_46 hC, Option.bind_some, pI_46 (by exact hC), Option.bind_some, pI_46 (by exact hC), Option.bind_some, e1, Option.bind_some]
    unfold zpp
    dsimp only
    rw [gI_46 (IR_C e2), Option.bind_some, e4.2.1, hg]
    dsimp only
    have ec : (mds S).countP (ckB (1, x, y, [])) = (mds S).countP fun w => besB w x y := rfl
    rw [ec]
    exact y_gv e2 (Fc_trans (scR_c f3) e3)

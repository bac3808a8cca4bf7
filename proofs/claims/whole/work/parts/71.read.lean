/-! ===== 71: the class' Reader: a whole text ===== -/
theorem okW_iff {w : List Nat} : okW w = true ↔ (w.length ≤ 14 ∧ WD (unl w) w) := by
  unfold okW
  exact @decide_eq_true_iff _ (Classical.propDecidable _)
theorem okW_f {w : List Nat} (h : ¬ (w.length ≤ 14 ∧ WD (unl w) w)) : okW w = false := by
  cases hb : okW w with
  | false => rfl
  | true => exact absurd (okW_iff.mp hb) h
theorem c_readCross {T : List Nat} {n L e : Nat} {M : zM} (h : TxH T M) (hT : ∀ x ∈ T, x < 256) (hn : n < 8) (hL : L < 2 ^ tri n) (hR : RdH n L M) (he : zI M 3 8 = nI e) (hle : e ≤ T.length) : ∃ M', fp_X4_readCross 3 M = some M' ∧ RsH T (crS T n L e) M' ∧ Fc at3 M M' := by
  unfold fp_X4_readCross crS
  have h200 := h.2.2.2.1
  obtain ⟨b1, b2, b3, b4, b5⟩ := tok_le hle
  obtain ⟨x1, x2⟩ := c_expect (k := 1) h hT hR he hle (by decide)
  rw [ts_3 h.1, n_1]
  cases hx : exS T e 1 with
  | some q =>
    obtain ⟨M1, d1, d2, d3, d4, d5⟩ := x1 q hx
    rw [d1, Option.bind_some]
    exact ⟨M1, rfl, ⟨d2, d3, d4⟩, d5⟩
  | none =>
    obtain ⟨M1, d1, d2, d3, dk, d4, d5, d6, d7⟩ := x2 hx
    have hw := word_of hle dk
    obtain ⟨s, hs⟩ : ∃ s, s = (tokS T e).2.1 := ⟨_, rfl⟩
    obtain ⟨e2, he2⟩ : ∃ e2, e2 = (tokS T e).2.2 := ⟨_, rfl⟩
    rw [← hs] at d5 hw b1 b2 b4 ⊢
    rw [← he2] at d6 hw b2 b3 b4 ⊢
    have hlen := wdS_len (T := T) (s := s) b3
    have hu26 : unl (wdS T s e2) ≤ 26 := cnt_le _ _
    obtain ⟨W, hW⟩ : ∃ W, W = wdS T s e2 := ⟨_, rfl⟩
    obtain ⟨u, hu⟩ : ∃ u, u = unl W := ⟨_, rfl⟩
    have hun := c_unlike d2 d5 d6 b2 b3 hw
    rw [← hW] at hlen hu26 hun ⊢
    rw [← hu] at hu26 hun ⊢
    rw [d1, Option.bind_some]
    unfold zpp
    dsimp only
    rw [if_pos (show (1 : Int32) ≠ 0 by decide), hun, Option.bind_some, gI_3 d2.1, Option.bind_some, d3.1, n_add, n_7]
    by_cases c7 : n + u ≤ 7
    · rw [if_pos c7, if_pos (by rw [n_le (by omega) (by omega)]; exact c7)]
      obtain ⟨w1, w2⟩ := c_copyWord d2 d3 d5 d6 b2 b3 hw
      have failed : ∀ M7, TxH T M7 → RdH n L M7 → zI M7 3 7 = nI s → Fc at3 M M7 → ∃ M', (fp_X4_fail 3 (nI 7) M7).bind (fun (M9 : zM) => some M9) = some M' ∧ RsH T (.inl (7, s)) M' ∧ Fc at3 M M' := by
        intro M7 t1 t2 t3 t4
        obtain ⟨M3, g1, g2, g3, g4, g5⟩ := c_fail (kind := 7) t1 t2 t3 (by omega) (by decide) (by decide)
        exact ⟨M3, by rw [g1, Option.bind_some], ⟨g2, g3, g4⟩, Fc_trans t4 g5⟩
      by_cases c14 : 14 < e2 - s
      · have hno : okW W = false := okW_f fun z => by omega
        rw [hno, if_neg Bool.false_ne_true, w1 c14, Option.bind_some]
        dsimp only
        rw [zjn_eq, if_pos rfl]
        exact failed M1 d2 d3 d5 d7
      · obtain ⟨M2, y1, y2, y3, y4, y5, y6, y7⟩ := w2 (by omega)
        have hf2 := Fc_trans d7 y7
        rw [← hW] at y4
        have h32 : ∀ y ∈ W, y < 2 ^ 32 := fun y hy => by
          have := wdS_lt b3 hw y (by rw [← hW]; exact hy)
          omega
        rw [y1, Option.bind_some]
        dsimp only
        rw [zjn_eq, if_neg (show ¬ ((1 : Int32) = 0) by decide), gR_3_9 y2.1, Option.bind_some, gI_3 y2.1, Option.bind_some, gI_3 y2.1, Option.bind_some, y5, y6, n_sub b2, ← hlen]
        by_cases cl : W.length = 2 * u
        · rcases c_isChordWord (n := u) (by omega) y4 h32 cl with ⟨z1, z2⟩ | ⟨z1, z2⟩
          · have hyes : okW W = true := okW_iff.mpr ⟨by omega, by rw [← hu]; exact z1⟩
            rw [z2, Option.bind_some, if_pos (show (1 : Int32) ≠ 0 by decide), Option.bind_some, c_crossings (by omega) y4 z1, Option.bind_some, hyes, if_pos rfl]
            obtain ⟨M3, a1, a2, a3, a4, a5⟩ := c_addCrossing (by omega) y2 y3 hL (mk_lt u (fun h k => crs k h W)) y6
            rw [show wnet u W = mk u fun h k => crs k h W from rfl, a1, Option.bind_some]
            exact ⟨M3, rfl, ⟨a2, a3, a4⟩, Fc_trans hf2 a5⟩
          · have hno : okW W = false := okW_f fun z => z1 (by rw [hu]; exact z.2)
            rw [z2, Option.bind_some, if_neg (show ¬ ((0 : Int32) ≠ 0) by decide), hno, if_neg Bool.false_ne_true]
            exact failed M2 y2 y3 y5 hf2
        · have hno : okW W = false := okW_f fun z => cl (by rw [hu]; exact z.2.1)
          have z2 : fp_X5_isChordWord 5 (nI W.length) (nI u) M2 = some 0 := by
            unfold fp_X5_isChordWord
            rw [if_neg (by rw [n_2, n_mul, n_eq (by omega) (by omega)]; exact cl)]
          rw [z2, Option.bind_some, if_neg (show ¬ ((0 : Int32) ≠ 0) by decide), hno, if_neg Bool.false_ne_true]
          exact failed M2 y2 y3 y5 hf2
    · rw [if_neg c7, if_neg (by rw [n_le (by omega) (by omega)]; exact c7)]
      obtain ⟨M3, g1, g2, g3, g4, g5⟩ := c_fail (kind := 6) d2 d3 d5 (by omega) (by decide) (by decide)
      rw [show fp_X4_fail 3 6 M1 = some M3 from by rw [n_6]; exact g1, Option.bind_some]
      exact ⟨M3, rfl, ⟨g2, g3, g4⟩, Fc_trans d7 g5⟩
theorem kw_d : ∀ j, j < 5 → zsl j = some (nI (kws.getD j []).length) ∧ (kws.getD j []).length < 10 ∧ ∀ i, i < (kws.getD j []).length → zsc j (nI i) = some (nI ((kws.getD j []).getD i 0)) ∧ (kws.getD j []).getD i 0 < 200 := by decide +kernel
theorem c_says {T : List Nat} {t s e j : Nat} {M : zM} (h : TxH T M) (hT : ∀ x ∈ T, x < 256) (hj : j < 5) (ht : zI M 3 6 = nI t) (ht2 : t < 10) (hs : zI M 3 7 = nI s) (he : zI M 3 8 = nI e) (hse : s ≤ e) (hel : e ≤ T.length) : fp_X4_says 3 j M = some (bI (decide (t = 1) && isK T s e j)) := by
  unfold fp_X4_says
  have hC := h.1
  have h200 := h.2.2.2.1
  obtain ⟨k1, k2, k3⟩ := kw_d j hj
  rw [ts_3 hC, gI_3 hC, Option.bind_some, ht]
  by_cases c1 : t = 1
  · rw [if_neg (by rw [c1, n_1]; exact fun z => z rfl), decide_eq_true c1, Bool.true_and, gI_3 hC, Option.bind_some, gI_3 hC, Option.bind_some, he, hs, n_sub hse, k1, Option.bind_some]
    have hlen : ((T.drop s).take (e - s)).length = e - s := by simp; omega
    by_cases c2 : e - s = (kws.getD j []).length
    · rw [if_pos (by rw [c2])]
      have key : (∀ i, i < 0 → T.getD (s + i) 0 = (kws.getD j []).getD i 0) → fp_X4_says_L28 3 j M FU (nI 0) = some (bI (isK T s e j)) := by
        refine up (P := fun i f => (∀ i', i' < i → T.getD (s + i') 0 = (kws.getD j []).getD i' 0) → fp_X4_says_L28 3 j M f (nI i) = some (bI (isK T s e j))) (a := 0) (n := (kws.getD j []).length) ?_ ?_ FU (by omega) (FU_gt (by omega))
        · intro f hall
          rw [fp_X4_says_L28, k1, Option.bind_some, stp]
          have : isK T s e j = true := by
            unfold isK
            rw [beq_iff_eq]
            apply List.ext_getElem?
            intro i
            by_cases hi : i < e - s
            · have h1 := hall i (by omega)
              have h2 : s + i < T.length := by omega
              have h3 : i < (kws.getD j []).length := by omega
              rw [List.getElem?_take, if_pos hi, List.getElem?_drop, List.getElem?_eq_getElem h2, List.getElem?_eq_getElem h3]
              have e1 : T.getD (s + i) 0 = T[s + i] := by simp [List.getD, h2]
              have e2 : (kws.getD j []).getD i 0 = (kws.getD j [])[i] := by
                generalize kws.getD j [] = q at h3 ⊢
                simp [List.getD, h3]
              rw [e1, e2] at h1
              rw [h1]
            · rw [List.getElem?_eq_none (by omega), List.getElem?_eq_none (by omega)]
          rw [this]; rfl
        · intro i f _ hi ih hall
          obtain ⟨q1, q2⟩ := k3 i hi
          have h2 : s + i < T.length := by omega
          have hx := hT _ (getD_mem h2)
          rw [fp_X4_says_L28, k1, Option.bind_some, go hi (by omega), gI_3 hC, Option.bind_some, hs, n_add, c_byteAt h (by omega), Option.bind_some, if_pos h2, q1, Option.bind_some, inc]
          by_cases c3 : T.getD (s + i) 0 = (kws.getD j []).getD i 0
          · rw [if_pos (by rw [c3])]
            exact ih fun i' hi' => by
              by_cases z : i' = i
              · rw [z]; exact c3
              · exact hall i' (by omega)
          · rw [if_neg (by rw [n_eq (by omega) (by omega)]; exact c3)]
            have : isK T s e j = false := by
              unfold isK
              rw [beq_eq_false_iff_ne]
              intro z
              apply c3
              have h3 : i < e - s := by omega
              have := congrArg (fun l : List Nat => l.getD i 0) z
              rw [← this]
              simp [List.getD, List.getElem?_take, h3, List.getElem?_drop]
            rw [this]; rfl
      rw [n_0]
      exact key fun i hi => by omega
    · rw [if_neg (by rw [n_eq (by omega) (by omega)]; exact c2)]
      have : isK T s e j = false := by
        unfold isK
        rw [beq_eq_false_iff_ne]
        intro z
        have := congrArg List.length z
        rw [hlen] at this
        exact c2 this
      rw [this]; rfl
  · rw [if_pos (by rw [n_1, ne_eq, n_eq (by omega) (by omega)]; exact c1), decide_eq_false c1, Bool.false_and]; rfl
/-- what a line gives stands -/
def okRs (T : List Nat) (e : Nat) (r : Rs) : Prop := ∀ q, r = .inr q → q.1 < 8 ∧ q.2.1 < 2 ^ tri q.1 ∧ e ≤ q.2.2 ∧ q.2.2 ≤ T.length
theorem ptS_le {T : List Nat} {n e : Nat} {q : Nat × Nat} (he : e ≤ T.length) (h : ptS T n e = .inr q) : q.1 < n ∧ e ≤ q.2 ∧ q.2 ≤ T.length := by
  obtain ⟨b1, b2, b3, b4, b5⟩ := tok_le he
  unfold ptS at h
  split at h
  · cases h
  · split at h
    · rename_i hp
      cases h
      exact ⟨hp, by dsimp only; omega, b3⟩
    · cases h
theorem swing_lt (n L a b : Nat) : swing n L a b < 2 ^ tri n := turn_lt _ _ _
theorem tri_le' {n m : Nat} (h : n ≤ m) : tri n ≤ tri m := by
  obtain ⟨d, rfl⟩ : ∃ d, m = n + d := ⟨m - n, by omega⟩
  clear h
  induction d with
  | zero => exact Nat.le_refl _
  | succ d ih => rw [← Nat.add_assoc, tri_s]; omega
theorem lnB_ok {T : List Nat} {n L : Nat} {t : Nat × Nat × Nat} (hn : n < 8) (hL : L < 2 ^ tri n) (ht : t.2.2 ≤ T.length) : okRs T t.2.2 (lnB T n L t) := by
  have cp : ∀ sw, okRs T t.2.2 (cpS T n L t.2.2 sw) := by
    intro sw q hq
    unfold cpS at hq
    split at hq
    · cases hq
    · rename_i a ha
      obtain ⟨a1, a2, a3⟩ := ptS_le ht ha
      split at hq
      · cases hq
      · rename_i b hb
        obtain ⟨c1, c2, c3⟩ := ptS_le a3 hb
        split at hq
        · cases hq
        · rename_i hne
          split at hq
          · cases hq
          · cases hq
            refine ⟨hn, ?_, by dsimp only; omega, c3⟩
            dsimp only
            split
            · exact swing_lt _ _ _ _
            · refine Nat.or_lt_two_pow hL (set_lt ?_)
              by_cases hlt : b.1 < a.1
              · exact pr_lt n hn a.1 a1 b.1 hlt
              · rw [pr_comm]; exact pr_lt n hn b.1 c1 a.1 (by omega)
  intro q hq
  unfold lnB at hq
  obtain ⟨b1, b2, b3, b4, b5⟩ := tok_le ht
  split at hq
  · unfold poS at hq
    split at hq
    · cases hq
    · split at hq
      · rename_i h7
        cases hq
        refine ⟨by dsimp only; omega, ?_, by dsimp only; omega, b3⟩
        dsimp only
        exact Nat.lt_of_lt_of_le hL (Nat.pow_le_pow_right (by decide) (tri_le' (by omega)))
      · cases hq
  · split at hq
    · exact cp false q hq
    · split at hq
      · unfold crS at hq
        split at hq
        · cases hq
        · split at hq
          · split at hq
            · cases hq
              exact ⟨by dsimp only; omega, jnN_lt _ _ _ _, by dsimp only; omega, b3⟩
            · cases hq
          · cases hq
      · split at hq
        · unfold tuS at hq
          split at hq
          · cases hq
          · rename_i a ha
            obtain ⟨a1, a2, a3⟩ := ptS_le ht ha
            cases hq
            exact ⟨hn, turn_lt _ _ _, a2, a3⟩
        · split at hq
          · exact cp true q hq
          · cases hq
theorem lnS_ok {T : List Nat} {n L e : Nat} (hn : n < 8) (hL : L < 2 ^ tri n) (he : e ≤ T.length) (h0 : (tokS T e).1 ≠ 0) : okRs T (e + 1) (lnS T n L (tokS T e)) := by
  obtain ⟨b1, b2, b3, b4, b5⟩ := tok_le he
  have b4' := b4 h0
  intro q hq
  unfold lnS at hq
  cases hr : lnB T n L (tokS T e) with
  | inl f => rw [hr] at hq; cases hq
  | inr r =>
    obtain ⟨r1, r2, r3, r4⟩ := lnB_ok hn hL b3 r hr
    rw [hr] at hq
    dsimp only at hq
    obtain ⟨c1, c2, c3, c4, c5⟩ := tok_le r4
    unfold clS at hq
    split at hq
    · cases hq
    · cases hq
      exact ⟨r1, r2, by dsimp only; omega, c3⟩
theorem FlH_ne {q : Nat × Nat} {M : zM} (h : FlH q M) : zI M 3 2 ≠ 0 := by
  rw [h.1, n_0, ne_eq, n_eq (by have := h.2.2.2.1; omega) (by decide)]
  exact h.2.2.1
theorem c_readLine {T : List Nat} {n L e : Nat} {M : zM} (h : TxH T M) (hT : ∀ x ∈ T, x < 256) (hn : n < 8) (hL : L < 2 ^ tri n) (hR : RdH n L M) (hle : e ≤ T.length) (ht : zI M 3 6 = nI (tokS T e).1) (hs : zI M 3 7 = nI (tokS T e).2.1) (he : zI M 3 8 = nI (tokS T e).2.2) : ∃ M', fp_X4_readLine 3 M = some M' ∧ RsH T (lnS T n L (tokS T e)) M' ∧ Fc at3 M M' := by
  unfold fp_X4_readLine
  have h200 := h.2.2.2.1
  obtain ⟨b1, b2, b3, b4, b5⟩ := tok_le hle
  have sy := fun j (hj : j < 5) => c_says h hT hj ht (by omega) hs he b2 b3
  -- the sign behind it
  have close : ∀ r, okRs T (tokS T e).2.2 r → (lnS T n L (tokS T e) = match r with | .inl f => .inl f | .inr q => clS T q.1 q.2.1 q.2.2) → ∀ M2, RsH T r M2 → Fc at3 M M2 → ∃ M', ((zgI 3 M2 3 2).bind fun (y3 : Int32) => if y3 ≠ 0 then some M2 else (fp_X4_expect 3 3 M2).bind fun p6 => zpp p6 fun (y4 : Int32) (M5 : zM) => some M5) = some M' ∧ RsH T (lnS T n L (tokS T e)) M' ∧ Fc at3 M M' := by
    intro r hok hr M2 hM hf
    cases r with
    | inl q =>
      have hr' : lnS T n L (tokS T e) = .inl q := hr
      rw [hr', gI_3 hM.2.1, Option.bind_some, if_pos (FlH_ne hM.1)]
      exact ⟨M2, rfl, hM, hf⟩
    | inr q =>
      obtain ⟨q1, q2, q3, q4⟩ := hok q rfl
      obtain ⟨m1, m2, m3⟩ := hM
      have hr' : lnS T n L (tokS T e) = clS T q.1 q.2.1 q.2.2 := hr
      rw [hr', gI_3 m1.1, Option.bind_some, m2.2.2.1, if_neg (show ¬ nI 0 ≠ 0 by decide)]
      obtain ⟨x1, x2⟩ := c_expect (k := 3) m1 hT m2 m3 q4 (by decide)
      unfold clS
      rw [n_3]
      cases hx : exS T q.2.2 3 with
      | some g =>
        obtain ⟨M3, d1, d2, d3, d4, d5⟩ := x1 g hx
        rw [d1, Option.bind_some]
        exact ⟨M3, rfl, ⟨d2, d3, d4⟩, Fc_trans hf d5⟩
      | none =>
        obtain ⟨M3, d1, d2, d3, dk, d4, d5, d6, d7⟩ := x2 hx
        rw [d1, Option.bind_some]
        exact ⟨M3, rfl, ⟨d2, d3, d6⟩, Fc_trans hf d7⟩
  have hB := lnB_ok hn hL b3 (T := T) (t := tokS T e)
  have hS : lnS T n L (tokS T e) = match lnB T n L (tokS T e) with | .inl f => .inl f | .inr q => clS T q.1 q.2.1 q.2.2 := rfl
  rw [ts_3 h.1, sy 0 (by decide), Option.bind_some, zjn_eq]
  dsimp only
  by_cases k0 : (tokS T e).1 = 1 ∧ isK T (tokS T e).2.1 (tokS T e).2.2 0 = true
  · rw [decide_eq_true k0.1, k0.2, if_neg (show ¬ (bI (true && true) = 0) by decide)]
    obtain ⟨M2, d1, d2, d3⟩ := c_readPoints h hT hn hR he b3
    have e1 : lnB T n L (tokS T e) = poS T n L (tokS T e).2.2 := by unfold lnB; rw [if_pos k0]
    rw [e1] at hB hS
    rw [d1, Option.bind_some]
    exact close _ hB hS M2 d2 d3
  · have z0 : (decide ((tokS T e).1 = 1) && isK T (tokS T e).2.1 (tokS T e).2.2 0) = false := by
      cases q : isK T (tokS T e).2.1 (tokS T e).2.2 0 <;> simp_all
    rw [z0, if_pos (show bI false = 0 from rfl), sy 1 (by decide), Option.bind_some]
    by_cases k1 : (tokS T e).1 = 1 ∧ isK T (tokS T e).2.1 (tokS T e).2.2 1 = true
    · rw [decide_eq_true k1.1, k1.2, if_neg (show ¬ (bI (true && true) = 0) by decide)]
      obtain ⟨M2, d1, d2, d3⟩ := c_readCouple (sw := false) h hT hn hL hR he b3
      have e1 : lnB T n L (tokS T e) = cpS T n L (tokS T e).2.2 false := by unfold lnB; rw [if_neg k0, if_pos k1]
      rw [e1] at hB hS
      rw [show fp_X4_readCouple 3 0 M = some M2 from d1, Option.bind_some]
      exact close _ hB hS M2 d2 d3
    · have z1 : (decide ((tokS T e).1 = 1) && isK T (tokS T e).2.1 (tokS T e).2.2 1) = false := by
        cases q : isK T (tokS T e).2.1 (tokS T e).2.2 1 <;> simp_all
      rw [z1, if_pos (show bI false = 0 from rfl), sy 2 (by decide), Option.bind_some]
      by_cases k2 : (tokS T e).1 = 1 ∧ isK T (tokS T e).2.1 (tokS T e).2.2 2 = true
      · rw [decide_eq_true k2.1, k2.2, if_neg (show ¬ (bI (true && true) = 0) by decide)]
        obtain ⟨M2, d1, d2, d3⟩ := c_readCross h hT hn hL hR he b3
        have e1 : lnB T n L (tokS T e) = crS T n L (tokS T e).2.2 := by unfold lnB; rw [if_neg k0, if_neg k1, if_pos k2]
        rw [e1] at hB hS
        rw [d1, Option.bind_some]
        exact close _ hB hS M2 d2 d3
      · have z2 : (decide ((tokS T e).1 = 1) && isK T (tokS T e).2.1 (tokS T e).2.2 2) = false := by
          cases q : isK T (tokS T e).2.1 (tokS T e).2.2 2 <;> simp_all
        rw [z2, if_pos (show bI false = 0 from rfl), sy 3 (by decide), Option.bind_some]
        by_cases k3 : (tokS T e).1 = 1 ∧ isK T (tokS T e).2.1 (tokS T e).2.2 3 = true
        · rw [decide_eq_true k3.1, k3.2, if_neg (show ¬ (bI (true && true) = 0) by decide)]
          obtain ⟨M2, d1, d2, d3⟩ := c_readTurn h hT hn hL hR he b3
          have e1 : lnB T n L (tokS T e) = tuS T n L (tokS T e).2.2 := by unfold lnB; rw [if_neg k0, if_neg k1, if_neg k2, if_pos k3]
          rw [e1] at hB hS
          rw [d1, Option.bind_some]
          exact close _ hB hS M2 d2 d3
        · have z3 : (decide ((tokS T e).1 = 1) && isK T (tokS T e).2.1 (tokS T e).2.2 3) = false := by
            cases q : isK T (tokS T e).2.1 (tokS T e).2.2 3 <;> simp_all
          rw [z3, if_pos (show bI false = 0 from rfl), sy 4 (by decide), Option.bind_some]
          by_cases k4 : (tokS T e).1 = 1 ∧ isK T (tokS T e).2.1 (tokS T e).2.2 4 = true
          · rw [decide_eq_true k4.1, k4.2, if_neg (show ¬ (bI (true && true) = 0) by decide)]
            obtain ⟨M2, d1, d2, d3⟩ := c_readCouple (sw := true) h hT hn hL hR he b3
            have e1 : lnB T n L (tokS T e) = cpS T n L (tokS T e).2.2 true := by unfold lnB; rw [if_neg k0, if_neg k1, if_neg k2, if_neg k3, if_pos k4]
            rw [e1] at hB hS
            rw [show fp_X4_readCouple 3 1 M = some M2 from d1, Option.bind_some]
            exact close _ hB hS M2 d2 d3
          · have z4 : (decide ((tokS T e).1 = 1) && isK T (tokS T e).2.1 (tokS T e).2.2 4) = false := by
              cases q : isK T (tokS T e).2.1 (tokS T e).2.2 4 <;> simp_all
            have e1 : lnB T n L (tokS T e) = .inl (2, (tokS T e).2.1) := by unfold lnB; rw [if_neg k0, if_neg k1, if_neg k2, if_neg k3, if_neg k4]
            rw [e1] at hB hS
            obtain ⟨M3, g1, g2, g3, g4, g5⟩ := c_fail (kind := 2) h hR hs (by omega) (by decide) (by decide)
            rw [z4, if_pos (show bI false = 0 from rfl), show fp_X4_fail 3 2 M = some M3 from by rw [n_2]; exact g1, Option.bind_some]
            exact close _ hB hS M3 ⟨g2, g3, g4⟩ g5
/-- a whole text -/
noncomputable def txS (T : List Nat) : Sum (Nat × Nat) (Nat × Nat) := prS T (T.length + 2) 0 0 0
def EdH (r : Sum (Nat × Nat) (Nat × Nat)) (M : zM) : Prop := match r with
  | .inl q => FlH q M ∧ zC M
  | .inr q => zC M ∧ RdH q.1 q.2 M ∧ q.1 < 8 ∧ q.2 < 2 ^ tri q.1
theorem c_readAll {T : List Nat} (hT : ∀ x ∈ T, x < 256) : ∀ d i f n L e M, i + d = T.length → d < f → i ≤ e → e ≤ T.length → TxH T M → RdH n L M → n < 8 → L < 2 ^ tri n → zI M 3 8 = nI e → ∃ M', fp_X4_read_L42 3 (f + 1) (nI i) M = some M' ∧ EdH (prS T (d + 2) n L e) M' ∧ Fc at3 M M' := by
  intro d
  induction d with
  | zero =>
    intro i f n L e M h1 h2 h3 h4 h5 h6 h7 h8 h9
    have h200 := h5.2.2.2.1
    have he : e = T.length := by omega
    -- nothing is left
    have tk : (tokS T e).1 = 0 := by
      have hb : blkT T e = false := by
        cases hb : blkT T e with
        | false => rfl
        | true => have := blk_lt e hb; omega
      unfold tokS
      dsimp only
      rw [skp_f h4 hb, if_pos (by omega)]
    obtain ⟨n1, n2⟩ := c_nextToken h5 hT h6 h9 h4
    obtain ⟨M1, d1, d2, d3, d4, d5, d6, d7⟩ := n2 (by rw [tk]; decide)
    refine ⟨M1, ?_, ?_, d7⟩
    · rw [fp_X4_read_L42, gI_3 h5.1, Option.bind_some, h5.2.2.1, gt_go (by omega) (by omega), gI_3 h5.1, Option.bind_some, h6.2.2.1, if_neg (show ¬ nI 0 ≠ 0 by decide), d1, Option.bind_some]
      unfold zpp
      dsimp only
      rw [if_neg (show ¬ ((1 : Int32) = 0) by decide), gI_3 d2.1, Option.bind_some, d4, tk, if_pos n_0.symm]
    · rw [prS, tk, if_neg (by decide), if_pos rfl]
      exact ⟨d2.1, d3, h7, h8⟩
  | succ d ih =>
    intro i f n L e M h1 h2 h3 h4 h5 h6 h7 h8 h9
    have h200 := h5.2.2.2.1
    obtain ⟨f, rfl⟩ : ∃ g, f = g + 1 := ⟨f - 1, by omega⟩
    obtain ⟨n1, n2⟩ := c_nextToken h5 hT h6 h9 h4
    obtain ⟨b1, b2, b3, b4, b5⟩ := tok_le h4
    rw [fp_X4_read_L42, gI_3 h5.1, Option.bind_some, h5.2.2.1, gt_go (by omega) (by omega), gI_3 h5.1, Option.bind_some, h6.2.2.1, if_neg (show ¬ nI 0 ≠ 0 by decide), prS]
    by_cases c4 : (tokS T e).1 = 4
    · obtain ⟨M1, d1, d2, d3, d4, d5⟩ := n1 c4
      rw [if_pos c4, d1, Option.bind_some]
      exact ⟨M1, rfl, ⟨d2, d3⟩, d5⟩
    · obtain ⟨M1, d1, d2, d3, d4, d5, d6, d7⟩ := n2 c4
      rw [if_neg c4, d1, Option.bind_some]
      unfold zpp
      dsimp only
      rw [if_neg (show ¬ ((1 : Int32) = 0) by decide), gI_3 d2.1, Option.bind_some, d4]
      by_cases c0 : (tokS T e).1 = 0
      · rw [if_pos c0, c0, if_pos n_0.symm]
        exact ⟨M1, rfl, ⟨d2.1, d3, h7, h8⟩, d7⟩
      · rw [if_neg c0, if_neg (by rw [n_0, n_eq (by omega) (by omega)]; exact c0)]
        obtain ⟨M2, e1, e2, e3⟩ := c_readLine d2 hT h7 h8 d3 h4 d4 d5 d6
        have hok := lnS_ok h7 h8 h4 c0
        rw [e1, Option.bind_some, inc]
        cases hr : lnS T n L (tokS T e) with
        | inl q =>
          rw [hr] at e2
          dsimp only
          refine ⟨M2, ?_, ⟨e2.1, e2.2.1⟩, Fc_trans d7 e3⟩
          rw [fp_X4_read_L42, gI_3 e2.2.1, Option.bind_some]
          by_cases q : nI (i + 1) > zI M2 3 5
          · rw [if_pos q]
          · rw [if_neg q, gI_3 e2.2.1, Option.bind_some, if_pos (FlH_ne e2.1)]
        | inr q =>
          rw [hr] at e2
          obtain ⟨o1, o2, o3, o4⟩ := hok q hr
          obtain ⟨M3, g1, g2, g3⟩ := ih (i + 1) f q.1 q.2.1 q.2.2 M2 (by omega) (by omega) (by omega) o4 e2.1 e2.2.1 o1 o2 e2.2.2
          exact ⟨M3, g1, g2, Fc_trans (Fc_trans d7 e3) g3⟩

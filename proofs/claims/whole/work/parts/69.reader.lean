/-! ===== 69: the class' Reader: lines ===== -/
def RsH (T : List Nat) (r : Rs) (M : zM) : Prop := match r with
  | .inl q => FlH q M ∧ zC M ∧ zR M 3 4 = some 2
  | .inr q => TxH T M ∧ RdH q.1 q.2.1 M ∧ zI M 3 8 = nI q.2.2
theorem c_expect {T : List Nat} {n L e k : Nat} {M : zM} (h : TxH T M) (hT : ∀ x ∈ T, x < 256) (hR : RdH n L M) (he : zI M 3 8 = nI e) (hle : e ≤ T.length) (hk : k < 4) :
    (∀ q, exS T e k = some q → ∃ M', fp_X4_expect 3 (nI k) M = some (0, M') ∧ FlH q M' ∧ zC M' ∧ zR M' 3 4 = some 2 ∧ Fc at3 M M') ∧
    (exS T e k = none → ∃ M', fp_X4_expect 3 (nI k) M = some (1, M') ∧ TxH T M' ∧ RdH n L M' ∧ (tokS T e).1 = k ∧ zI M' 3 6 = nI k ∧ zI M' 3 7 = nI (tokS T e).2.1 ∧ zI M' 3 8 = nI (tokS T e).2.2 ∧ Fc at3 M M') := by
  unfold fp_X4_expect exS
  have hC := h.1
  have h200 := h.2.2.2.1
  obtain ⟨b1, b2, b3, b4, b5⟩ := tok_le hle
  obtain ⟨n1, n2⟩ := c_nextToken h hT hR he hle
  rw [ts_3 hC]
  by_cases c4 : (tokS T e).1 = 4
  · rw [if_pos c4]
    obtain ⟨M1, d1, d2, d3, d4, d5⟩ := n1 c4
    refine ⟨fun q hq => ?_, fun z => by cases z⟩
    cases hq
    rw [d1, Option.bind_some]
    exact ⟨M1, rfl, d2, d3, d4, d5⟩
  · rw [if_neg c4]
    obtain ⟨M1, d1, d2, d3, d4, d5, d6, d7⟩ := n2 c4
    by_cases ck : (tokS T e).1 = k
    · rw [if_neg (show ¬ (tokS T e).1 ≠ k from fun z => z ck)]
      refine ⟨fun q z => (by cases z), fun _ => ⟨M1, ?_, d2, d3, ck, by rw [d4, ck], d5, d6, d7⟩⟩
      rw [d1, Option.bind_some]
      unfold zpp
      dsimp only
      rw [if_pos (show (1 : Int32) ≠ 0 by decide), gI_3 d2.1, Option.bind_some, d4, zjn_eq, ck, if_pos rfl]
      dsimp only
      rw [gI_3 d2.1, Option.bind_some, d3.2.2.1, if_neg (show ¬ nI 0 ≠ 0 by decide)]
    · rw [if_pos ck]
      refine ⟨fun q hq => ?_, fun z => by cases z⟩
      cases hq
      obtain ⟨M2, g1, g2, g3, g4, g5⟩ := c_fail (kind := 2) d2 d3 d5 (by omega) (by decide) (by decide)
      refine ⟨M2, ?_, g2, g3, g4, Fc_trans d7 g5⟩
      rw [d1, Option.bind_some]
      unfold zpp
      dsimp only
      rw [if_pos (show (1 : Int32) ≠ 0 by decide), gI_3 d2.1, Option.bind_some, d4, zjn_eq, if_neg (by rw [n_eq (by omega) (by omega)]; exact ck), show fp_X4_fail 3 2 M1 = some M2 from by rw [n_2]; exact g1, Option.bind_some]
      dsimp only
      rw [gI_3 g3, Option.bind_some, g2.1, if_pos (show nI 2 ≠ 0 by decide)]
theorem dgt_of {T : List Nat} {e : Nat} (h : (tokS T e).1 = 2) : (tokS T e).2.1 < T.length ∧ 48 ≤ T.getD (tokS T e).2.1 0 ∧ T.getD (tokS T e).2.1 0 ≤ 57 := by
  unfold tokS at h ⊢
  dsimp only at h ⊢
  by_cases c1 : T.length ≤ skp (blkT T) T.length e
  · rw [if_pos c1] at h; cases h
  · rw [if_neg c1] at h ⊢
    by_cases c2 : smlT T (skp (blkT T) T.length e) = true
    · rw [if_pos c2] at h; cases h
    · rw [if_neg c2] at h ⊢
      by_cases c3 : (dgtT T (skp (blkT T) T.length e) && !dgtT T (skp (blkT T) T.length e + 1)) = true
      · rw [if_pos c3] at h ⊢
        rw [Bool.and_eq_true] at c3
        have := c3.1
        unfold dgtT at this
        simp only [Bool.and_eq_true, decide_eq_true_eq] at this
        exact ⟨this.1, this.2.1, this.2.2⟩
      · rw [if_neg c3] at h
        split at h <;> cases h
theorem c_dig {T : List Nat} {e : Nat} {M : zM} (h : TxH T M) (hd : (tokS T e).1 = 2) (hs : (tokS T e).2.1 < T.length) : fp_X4_byteAt 3 (nI (tokS T e).2.1) M = some (nI (T.getD (tokS T e).2.1 0)) := by
  have h200 := h.2.2.2.1
  rw [c_byteAt h (by omega), if_pos hs]
theorem FlH_of {T : List Nat} {q : Nat × Nat} {M : zM} (h : FlH q M ∧ zC M ∧ zR M 3 4 = some 2) : RsH T (.inl q) M := h
theorem c_readPoints {T : List Nat} {n L e : Nat} {M : zM} (h : TxH T M) (hT : ∀ x ∈ T, x < 256) (hn : n < 8) (hR : RdH n L M) (he : zI M 3 8 = nI e) (hle : e ≤ T.length) : ∃ M', fp_X4_readPoints 3 M = some M' ∧ RsH T (poS T n L e) M' ∧ Fc at3 M M' := by
  unfold fp_X4_readPoints poS
  have hC := h.1
  have h200 := h.2.2.2.1
  obtain ⟨b1, b2, b3, b4, b5⟩ := tok_le hle
  obtain ⟨x1, x2⟩ := c_expect (k := 2) h hT hR he hle (by decide)
  rw [ts_3 hC, n_2]
  cases hx : exS T e 2 with
  | some q =>
    obtain ⟨M1, d1, d2, d3, d4, d5⟩ := x1 q hx
    rw [d1, Option.bind_some]
    exact ⟨M1, rfl, ⟨d2, d3, d4⟩, d5⟩
  | none =>
    obtain ⟨M1, d1, d2, d3, dk, d4, d5, d6, d7⟩ := x2 hx
    obtain ⟨g1, g2, g3⟩ := dgt_of dk
    rw [d1, Option.bind_some]
    unfold zpp
    dsimp only
    rw [if_pos (by decide), gI_3 d2.1, Option.bind_some, d5, c_dig d2 dk g1, Option.bind_some, lett_eq, n_48, n_sub g2, gI_3 d2.1, Option.bind_some, d3.1, n_add, n_7]
    by_cases c7 : n + (T.getD (tokS T e).2.1 0 - 48) ≤ 7
    · rw [if_pos (by rw [n_le (by omega) (by omega)]; exact c7), Option.bind_some, n_add, pI_3 d2.1, Option.bind_some, if_pos c7]
      refine ⟨_, rfl, ⟨TxH_sI d2 (by decide), ⟨zI_same _ _ _ _, ?_, ?_, ?_⟩, ?_⟩, Fc_trans d7 (Fc_sI (Or.inl rfl))⟩
      · rw [zI_other _ _ (Or.inr (by decide))]; exact d3.2.1
      · rw [zI_other _ _ (Or.inr (by decide))]; exact d3.2.2.1
      · rw [zI_other _ _ (Or.inr (by decide))]; exact d3.2.2.2
      · rw [zI_other _ _ (Or.inr (by decide))]; exact d6
    · rw [if_neg (by rw [n_le (by omega) (by omega)]; exact c7), if_neg c7]
      obtain ⟨M2, e1, e2, e3, e4, e5⟩ := c_fail (kind := 6) d2 d3 d5 (by omega) (by decide) (by decide)
      rw [show fp_X4_fail 3 6 M1 = some M2 from by rw [n_6]; exact e1, Option.bind_some]
      exact ⟨M2, rfl, ⟨e2, e3, e4⟩, Fc_trans d7 e5⟩
theorem c_readPoint {T : List Nat} {n L e : Nat} {M : zM} (h : TxH T M) (hT : ∀ x ∈ T, x < 256) (hn : n < 8) (hR : RdH n L M) (he : zI M 3 8 = nI e) (hle : e ≤ T.length) :
    (∀ q, ptS T n e = .inl q → ∃ M', fp_X4_readPoint 3 M = some (-1, M') ∧ FlH q M' ∧ zC M' ∧ zR M' 3 4 = some 2 ∧ Fc at3 M M') ∧
    (∀ q, ptS T n e = .inr q → q.1 < n ∧ q.2 = (tokS T e).2.2 ∧ q.2 ≤ T.length ∧ ∃ M', fp_X4_readPoint 3 M = some (nI q.1, M') ∧ TxH T M' ∧ RdH n L M' ∧ zI M' 3 7 = nI (tokS T e).2.1 ∧ zI M' 3 8 = nI q.2 ∧ Fc at3 M M') := by
  unfold fp_X4_readPoint ptS
  have hC := h.1
  have h200 := h.2.2.2.1
  obtain ⟨b1, b2, b3, b4, b5⟩ := tok_le hle
  obtain ⟨x1, x2⟩ := c_expect (k := 2) h hT hR he hle (by decide)
  rw [ts_3 hC, n_2]
  cases hx : exS T e 2 with
  | some q =>
    obtain ⟨M1, d1, d2, d3, d4, d5⟩ := x1 q hx
    rw [d1, Option.bind_some]
    refine ⟨fun q' hq => ?_, fun q' hq => by cases hq⟩
    cases hq
    exact ⟨M1, rfl, d2, d3, d4, d5⟩
  | none =>
    obtain ⟨M1, d1, d2, d3, dk, d4, d5, d6, d7⟩ := x2 hx
    obtain ⟨g1, g2, g3⟩ := dgt_of dk
    by_cases c7 : T.getD (tokS T e).2.1 0 - 48 < n
    · rw [if_pos c7]
      refine ⟨fun q' hq => (by cases hq), fun q' hq => ?_⟩
      cases hq
      refine ⟨c7, rfl, b3, M1, ?_, d2, d3, d5, d6, d7⟩
      rw [d1, Option.bind_some]
      unfold zpp
      dsimp only
      rw [if_pos (show (1 : Int32) ≠ 0 by decide), gI_3 d2.1, Option.bind_some, d5, c_dig d2 dk g1, Option.bind_some, lett_eq, n_48, n_sub g2, gI_3 d2.1, Option.bind_some, d3.1, if_pos (by rw [n_lt (by omega) (by omega)]; exact c7)]
    · rw [if_neg c7]
      refine ⟨fun q' hq => ?_, fun q' hq => by cases hq⟩
      cases hq
      obtain ⟨M2, e1, e2, e3, e4, e5⟩ := c_fail (kind := 3) d2 d3 d5 (by omega) (by decide) (by decide)
      refine ⟨M2, ?_, e2, e3, e4, Fc_trans d7 e5⟩
      rw [d1, Option.bind_some]
      unfold zpp
      dsimp only
      rw [if_pos (show (1 : Int32) ≠ 0 by decide), gI_3 d2.1, Option.bind_some, d5, c_dig d2 dk g1, Option.bind_some, lett_eq, n_48, n_sub g2, gI_3 d2.1, Option.bind_some, d3.1, if_neg (by rw [n_lt (by omega) (by omega)]; exact c7), show fp_X4_fail 3 3 M1 = some M2 from by rw [n_3]; exact e1, Option.bind_some]
theorem RdH_L {n L L' : Nat} {M : zM} (h : RdH n L M) : RdH n L' (zsI M 3 1 (nI L')) :=
  ⟨by rw [zI_other _ _ (Or.inr (by decide))]; exact h.1, zI_same _ _ _ _, by rw [zI_other _ _ (Or.inr (by decide))]; exact h.2.2.1, by rw [zI_other _ _ (Or.inr (by decide))]; exact h.2.2.2⟩
theorem c_readTurn {T : List Nat} {n L e : Nat} {M : zM} (h : TxH T M) (hT : ∀ x ∈ T, x < 256) (hn : n < 8) (hL : L < 2 ^ tri n) (hR : RdH n L M) (he : zI M 3 8 = nI e) (hle : e ≤ T.length) : ∃ M', fp_X4_readTurn 3 M = some M' ∧ RsH T (tuS T n L e) M' ∧ Fc at3 M M' := by
  unfold fp_X4_readTurn tuS
  obtain ⟨x1, x2⟩ := c_readPoint h hT hn hR he hle
  rw [ts_3 h.1]
  cases hx : ptS T n e with
  | inl q =>
    obtain ⟨M1, d1, d2, d3, d4, d5⟩ := x1 q hx
    rw [d1, Option.bind_some]
    exact ⟨M1, rfl, ⟨d2, d3, d4⟩, d5⟩
  | inr q =>
    obtain ⟨p1, p2, p3, M1, d1, d2, d3, d4, d5, d6⟩ := x2 q hx
    rw [d1, Option.bind_some]
    unfold zpp
    dsimp only
    rw [if_neg (by rw [n_lt0 (by omega)]; exact id), gI_3 d2.1, Option.bind_some, gI_3 d2.1, Option.bind_some, d3.1, d3.2.1, c_turnedAt hn hL p1, Option.bind_some, pI_3 d2.1, Option.bind_some]
    exact ⟨_, rfl, ⟨TxH_sI d2 (by decide), RdH_L d3, by rw [zI_other _ _ (Or.inr (by decide))]; exact d5⟩, Fc_trans d6 (Fc_sI (Or.inl rfl))⟩
theorem c_readCouple {T : List Nat} {n L e : Nat} {sw : Bool} {M : zM} (h : TxH T M) (hT : ∀ x ∈ T, x < 256) (hn : n < 8) (hL : L < 2 ^ tri n) (hR : RdH n L M) (he : zI M 3 8 = nI e) (hle : e ≤ T.length) : ∃ M', fp_X4_readCouple 3 (bI sw) M = some M' ∧ RsH T (cpS T n L e sw) M' ∧ Fc at3 M M' := by
  unfold fp_X4_readCouple cpS
  have h200 := h.2.2.2.1
  obtain ⟨x1, x2⟩ := c_readPoint h hT hn hR he hle
  rw [ts_3 h.1]
  cases hx : ptS T n e with
  | inl q =>
    obtain ⟨M1, d1, d2, d3, d4, d5⟩ := x1 q hx
    rw [d1, Option.bind_some]
    unfold zpp
    dsimp only
    rw [zjn_eq]
    dsimp only
    rw [if_neg (show ¬ ((-1 : Int32) ≥ 0) by decide)]
    exact ⟨M1, rfl, ⟨d2, d3, d4⟩, d5⟩
  | inr q =>
    obtain ⟨p1, p2, p3, M1, d1, d2, d3, d4, d5, d6⟩ := x2 q hx
    rw [d1, Option.bind_some]
    unfold zpp
    dsimp only
    rw [zjn_eq, if_pos (by rw [n_0, ge_iff_le, n_le (by omega) (by omega)]; omega)]
    obtain ⟨y1, y2⟩ := c_readPoint (e := q.2) d2 hT hn d3 d5 p3
    obtain ⟨b1, b2, b3, b4, b5⟩ := tok_le p3
    cases hy : ptS T n q.2 with
    | inl r =>
      obtain ⟨M2, e1, e2, e3, e4, e5⟩ := y1 r hy
      rw [e1, Option.bind_some]
      exact ⟨M2, rfl, ⟨e2, e3, e4⟩, Fc_trans d6 e5⟩
    | inr r =>
      obtain ⟨r1, r2, r3, M2, e1, e2, e3, e4, e5, e6⟩ := y2 r hy
      have hf := Fc_trans d6 e6
      rw [e1, Option.bind_some]
      dsimp only
      rw [if_pos (by rw [n_0, ge_iff_le, n_le (by omega) (by omega)]; omega)]
      by_cases ca : q.1 = r.1
      · rw [if_neg (by rw [ca]; exact fun z => z rfl), if_pos ca]
        obtain ⟨M3, g1, g2, g3, g4, g5⟩ := c_fail (kind := 4) e2 e3 e4 (by omega) (by decide) (by decide)
        rw [show fp_X4_fail 3 4 M2 = some M3 from by rw [n_4]; exact g1, Option.bind_some]
        exact ⟨M3, rfl, ⟨g2, g3, g4⟩, Fc_trans hf g5⟩
      · rw [if_pos (by rw [ne_eq, n_eq (by omega) (by omega)]; exact ca), if_neg ca, gI_3 e2.1, Option.bind_some, e3.2.1, c_tied (lt31 hn hL) (by omega) (by omega) ca, Option.bind_some]
        by_cases cb : adj L q.1 r.1 = sw
        · rw [if_neg (show ¬ (adj L q.1 r.1 ≠ sw) from fun z => z cb), cb, if_pos rfl]
          cases sw with
          | false =>
            have h21 := pr_lt21 q.1 (by omega) r.1 (by omega) ca
            rw [ifF, Option.bind_some, c_pair _ (by omega) _ (by omega), Option.bind_some, n_1, n_shl (by omega), n_or, pI_3 e2.1, Option.bind_some, if_neg Bool.false_ne_true]
            exact ⟨_, rfl, ⟨TxH_sI e2 (by decide), RdH_L e3, by rw [zI_other _ _ (Or.inr (by decide))]; exact e5⟩, Fc_trans hf (Fc_sI (Or.inl rfl))⟩
          | true =>
            rw [ifT, gI_3 e2.1, Option.bind_some, Option.bind_some, e3.1, c_swungOver hn hL p1 r1, Option.bind_some, pI_3 e2.1, Option.bind_some, if_pos rfl]
            exact ⟨_, rfl, ⟨TxH_sI e2 (by decide), RdH_L e3, by rw [zI_other _ _ (Or.inr (by decide))]; exact e5⟩, Fc_trans hf (Fc_sI (Or.inl rfl))⟩
        · rw [if_pos cb, if_neg (by cases ha : adj L q.1 r.1 <;> cases sw <;> simp_all [bI])]
          obtain ⟨M3, g1, g2, g3, g4, g5⟩ := c_fail (kind := 5) e2 e3 e4 (by omega) (by decide) (by decide)
          rw [show fp_X4_fail 3 5 M2 = some M3 from by rw [n_5]; exact g1, Option.bind_some]
          exact ⟨M3, rfl, ⟨g2, g3, g4⟩, Fc_trans hf g5⟩

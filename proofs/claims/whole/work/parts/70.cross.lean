/-! ===== 70: the class' Reader: cross, keywords, the text ===== -/
theorem word_of {T : List Nat} {e : Nat} (he : e ≤ T.length) (h : (tokS T e).1 = 1) : ∀ i, (tokS T e).2.1 ≤ i → i < (tokS T e).2.2 → smlT T i = true := by
  have hall : ∀ d i, i + d = T.length → ∀ j, i ≤ j → j < skp (smlT T) T.length i → smlT T j = true := by
    intro d
    induction d with
    | zero =>
      intro i hi j h1 h2
      have hb : smlT T i = false := by
        cases hb : smlT T i with
        | false => rfl
        | true => have := sml_lt i hb; omega
      rw [skp_f (by omega) hb] at h2; omega
    | succ d ih =>
      intro i hi j h1 h2
      cases hb : smlT T i with
      | false => rw [skp_f (by omega) hb] at h2; omega
      | true =>
        rw [skp_t sml_lt hb] at h2
        by_cases hij : j = i
        · rw [hij]; exact hb
        · exact ih (i + 1) (by omega) j (by omega) h2
  unfold tokS at h ⊢
  dsimp only at h ⊢
  by_cases c1 : T.length ≤ skp (blkT T) T.length e
  · rw [if_pos c1] at h; cases h
  · rw [if_neg c1] at h ⊢
    by_cases c2 : smlT T (skp (blkT T) T.length e) = true
    · rw [if_pos c2]
      dsimp only
      intro i h1 h2
      by_cases hi : i = skp (blkT T) T.length e
      · rw [hi]; exact c2
      · exact hall (T.length - (skp (blkT T) T.length e + 1)) _ (by omega) i (by omega) h2
    · rw [if_neg c2] at h
      split at h
      · cases h
      · split at h <;> cases h
theorem sml_d {T : List Nat} {i : Nat} (h : smlT T i = true) : i < T.length ∧ 97 ≤ T.getD i 0 ∧ T.getD i 0 ≤ 122 := by
  unfold smlT at h
  simp only [Bool.and_eq_true, decide_eq_true_eq] at h
  exact ⟨h.1, h.2.1, h.2.2⟩
theorem wdS_len {T : List Nat} {s e : Nat} (he : e ≤ T.length) : (wdS T s e).length = e - s := by unfold wdS; simp; omega
theorem wdS_get {T : List Nat} {s e j : Nat} (he : e ≤ T.length) (hj : s + j < e) : (wdS T s e).getD j 0 = T.getD (s + j) 0 - 97 := by
  unfold wdS
  have h1 : j < e - s := by omega
  have h2 : s + j < T.length := by omega
  simp [List.getD, List.getElem?_map, List.getElem?_take, h1, List.getElem?_drop, h2]
theorem mem_get {l : List Nat} {x : Nat} (h : x ∈ l) : ∃ j, j < l.length ∧ l.getD j 0 = x := by
  obtain ⟨j, hj, e⟩ := List.getElem_of_mem h
  exact ⟨j, hj, by simp [List.getD, hj, e]⟩
theorem wdS_lt {T : List Nat} {s e : Nat} (he : e ≤ T.length) (h : ∀ i, s ≤ i → i < e → smlT T i = true) : ∀ x ∈ wdS T s e, x < 26 := by
  intro x hx
  obtain ⟨j, hj, rfl⟩ := mem_get hx
  rw [wdS_len he] at hj
  rw [wdS_get he (by omega)]
  have := sml_d (h (s + j) (by omega) (by omega))
  omega
theorem take_contains {w : List Nat} {i : Nat} (h : i < w.length) (c : Nat) : (w.take (i + 1)).contains c = ((w.take i).contains c || (w.getD i 0 == c)) := by
  rw [tk h, Bool.eq_iff_iff]
  simp only [List.contains_iff_mem, List.mem_append, List.mem_singleton, Bool.or_eq_true, beq_iff_eq]
  constructor
  · rintro (h | h)
    · exact Or.inl h
    · exact Or.inr h.symm
  · rintro (h | h)
    · exact Or.inl h
    · exact Or.inr h.symm
theorem c_unlike {T : List Nat} {s e : Nat} {M : zM} (h : TxH T M) (hs : zI M 3 7 = nI s) (he : zI M 3 8 = nI e) (hse : s ≤ e) (hel : e ≤ T.length) (hw : ∀ i, s ≤ i → i < e → smlT T i = true) : fp_X4_unlikeLetters 3 M = some (nI (unl (wdS T s e))) := by
  unfold fp_X4_unlikeLetters
  have hC := h.1
  have h200 := h.2.2.2.1
  have hlen := wdS_len (T := T) (s := s) hel
  have hlt := wdS_lt hel hw
  rw [ts_3 hC, gI_3 hC, Option.bind_some, hs]
  have key : ∀ d j f, j + d = e - s → d < f → fp_X4_unlikeLetters_L7 3 M f (nI (bs ((wdS T s e).take j).contains 26)) (nI (s + j)) = some (nI (unl (wdS T s e))) := by
    intro d
    induction d with
    | zero =>
      intro j f h1 h2
      obtain ⟨f, rfl⟩ : ∃ g, f = g + 1 := ⟨f - 1, by omega⟩
      have hj : s + j = e := by omega
      rw [fp_X4_unlikeLetters_L7, gI_3 hC, Option.bind_some, he, hj, stp, c_bitCount26 (bs_lt _ _), Option.bind_some, List.take_of_length_le (by omega)]
      have e2 : cnt (bs (wdS T s e).contains 26).testBit 26 = unl (wdS T s e) := cnt_congr fun i hi => by rw [bs_tb]; simp [hi]
      rw [e2]
    | succ d ih =>
      intro j f h1 h2
      obtain ⟨f, rfl⟩ : ∃ g, f = g + 1 := ⟨f - 1, by omega⟩
      have hx := sml_d (hw (s + j) (by omega) (by omega))
      have hg := wdS_get (T := T) (s := s) (j := j) hel (by omega)
      rw [fp_X4_unlikeLetters_L7, gI_3 hC, Option.bind_some, he, go (by omega) (by omega), c_byteAt h (by omega), Option.bind_some, if_pos hx.1, lett_eq, n_97, n_sub hx.2.1, n_1, n_shl (by omega), n_or, n_add, Nat.add_assoc]
      have e2 : bs ((wdS T s e).take j).contains 26 ||| 1 <<< (T.getD (s + j) 0 - 97) = bs ((wdS T s e).take (j + 1)).contains 26 := by
        apply Nat.eq_of_testBit_eq
        intro i
        rw [Nat.testBit_or, bs_tb, bs_tb, tb_set, take_contains (by omega), hg]
        by_cases hi : i = T.getD (s + j) 0 - 97
        · have : i < 26 := by omega
          subst hi
          rw [decide_eq_true this]
          simp
        · have hb : (T.getD (s + j) 0 - 97 == i) = false := by simpa using fun z : T.getD (s + j) 0 - 97 = i => hi z.symm
          rw [hb, decide_eq_false hi]; simp
      rw [e2]
      exact ih (j + 1) f (by omega) (by omega)
  have := key (e - s) 0 FU (by omega) (FU_gt (by omega))
  rw [Nat.add_zero] at this
  have e0 : nI (bs ((wdS T s e).take 0).contains 26) = 0 := by
    rw [bs_0 (fun i _ => by simp)]; rfl
  rw [e0] at this
  exact this
theorem RdH_5 {n L k : Nat} {v : Int32} {M : zM} (h : RdH n L M) : RdH n L (zsI M 5 k v) :=
  ⟨by rw [zI_other _ _ (Or.inl (by decide))]; exact h.1, by rw [zI_other _ _ (Or.inl (by decide))]; exact h.2.1, by rw [zI_other _ _ (Or.inl (by decide))]; exact h.2.2.1, by rw [zI_other _ _ (Or.inl (by decide))]; exact h.2.2.2⟩
theorem TxH_5 {T : List Nat} {M : zM} {k : Nat} {v : Int32} (h : TxH T M) : TxH T (zsI M 5 k v) :=
  ⟨h.1, h.2.1, by rw [zI_other _ _ (Or.inl (by decide))]; exact h.2.2.1, h.2.2.2.1, fun i hi => by rw [zI_other _ _ (Or.inl (by decide))]; exact h.2.2.2.2 i hi⟩
theorem c_copyWord {T : List Nat} {n L s e : Nat} {M : zM} (h : TxH T M) (hR : RdH n L M) (hs : zI M 3 7 = nI s) (he : zI M 3 8 = nI e) (hse : s ≤ e) (hel : e ≤ T.length) (hw : ∀ i, s ≤ i → i < e → smlT T i = true) :
    (14 < e - s → fp_X4_copyWord 3 M = some (0, M)) ∧ (e - s ≤ 14 → ∃ M', fp_X4_copyWord 3 M = some (1, M') ∧ TxH T M' ∧ RdH n L M' ∧ AN M' 5 (wdS T s e) ∧ zI M' 3 7 = nI s ∧ zI M' 3 8 = nI e ∧ Fc at3 M M') := by
  unfold fp_X4_copyWord
  have hC := h.1
  have h200 := h.2.2.2.1
  have hlen := wdS_len (T := T) (s := s) hel
  rw [ts_3 hC, gI_3 hC, Option.bind_some, gI_3 hC, Option.bind_some, gR_3_9 hC, Option.bind_some, ln_5 hC, Option.bind_some, hs, he, n_sub hse]
  refine ⟨fun h14 => ?_, fun h14 => ?_⟩
  · rw [if_neg (by rw [n_le (by omega) (by omega)]; omega)]
  · rw [if_pos (by rw [n_le (by omega) (by omega)]; omega)]
    have key : ∀ d j f M1, j + d = e - s → d < f → TxH T M1 → RdH n L M1 → zI M1 3 7 = nI s → zI M1 3 8 = nI e → Fc at3 M M1 → (∀ i, i < j → zI M1 5 i = nI ((wdS T s e).getD i 0)) → ∃ M', fp_X4_copyWord_L21 3 f (nI j) M1 = some (1, M') ∧ TxH T M' ∧ RdH n L M' ∧ AN M' 5 (wdS T s e) ∧ zI M' 3 7 = nI s ∧ zI M' 3 8 = nI e ∧ Fc at3 M M' := by
      intro d
      induction d with
      | zero =>
        intro j f M1 a1 a2 a3 a4 a5 a6 a7 a8
        obtain ⟨f, rfl⟩ : ∃ g, f = g + 1 := ⟨f - 1, by omega⟩
        have L5 : zL M1 5 = 14 := a3.1.2.2 (5, 14) (by decide +kernel)
        refine ⟨M1, ?_, a3, a4, ⟨zC_lt a3.1 (by decide), rfl, by omega, by omega, fun i hi => a8 i (by omega)⟩, a5, a6, a7⟩
        rw [fp_X4_copyWord_L21, gI_3 a3.1, Option.bind_some, gI_3 a3.1, Option.bind_some, a5, a6, n_sub hse, if_pos (by rw [ge_iff_le, n_le (by omega) (by omega)]; omega)]
      | succ d ih =>
        intro j f M1 a1 a2 a3 a4 a5 a6 a7 a8
        obtain ⟨f, rfl⟩ : ∃ g, f = g + 1 := ⟨f - 1, by omega⟩
        have hx := sml_d (hw (s + j) (by omega) (by omega))
        rw [fp_X4_copyWord_L21, gI_3 a3.1, Option.bind_some, gI_3 a3.1, Option.bind_some, a5, a6, n_sub hse, go (by omega) (by omega), gR_3_9 a3.1, Option.bind_some, ln_5 a3.1, Option.bind_some, go (show j < 14 by omega) (by omega), Option.bind_some, Option.bind_some, n_add, c_byteAt a3 (by omega), Option.bind_some, if_pos hx.1, n_97, n_sub hx.2.1, tI_5 a3.1 (by omega), Option.bind_some, inc]
        exact ih (j + 1) f _ (by omega) (by omega) (TxH_5 a3) (RdH_5 a4) (by rw [zI_other _ _ (Or.inl (by decide))]; exact a5) (by rw [zI_other _ _ (Or.inl (by decide))]; exact a6) (Fc_trans a7 (Fc_sI (Or.inr rfl))) fun i hi => by
          by_cases hij : i = j
          · rw [hij, zI_same, wdS_get hel (by omega)]
          · rw [zI_other _ _ (Or.inr hij), a8 i (by omega)]
    rw [n_0]
    exact key (e - s) 0 FU M (by omega) (FU_gt (by omega)) h hR hs he Fc_refl (fun i hi => by omega)
theorem jnN_lt (n L u C : Nat) : jnN n L u C < 2 ^ tri (n + u) := mk_lt _ _
theorem cnt_true (n : Nat) : cnt (fun _ => true) n = n := by
  induction n with
  | zero => rfl
  | succ n ih => simp only [cnt, ih]; rfl
/-- the network of a text gets another one beside it -/
theorem c_addCrossing {T : List Nat} {n L u C e : Nat} {M : zM} (hnu : n + u < 8) (h : TxH T M) (hR : RdH n L M) (hL : L < 2 ^ tri n) (hC : C < 2 ^ tri u) (he : zI M 3 8 = nI e) : ∃ M', fp_X4_addCrossing 3 (nI u) (nI C) M = some M' ∧ TxH T M' ∧ RdH (n + u) (jnN n L u C) M' ∧ zI M' 3 8 = nI e ∧ Fc at3 M M' := by
  unfold fp_X4_addCrossing
  rw [ts_3 h.1]
  let G : Nat → Bool := fun k => if n ≤ pi2 k then adj C (pi1 k - n) (pi2 k - n) else if n ≤ pi1 k then false else adj L (pi1 k) (pi2 k)
  -- the lines are as far as: all of the rows below h, and of row h those below l
  have hG : ∀ a b, a < 7 → b < a → G (pr a b) = if n ≤ b then adj C (a - n) (b - n) else if n ≤ a then false else adj L a b := by
    intro a b ha hb
    obtain ⟨i1, i2⟩ := pr_inv a ha b hb
    show (if n ≤ pi2 (pr a b) then _ else _) = _
    rw [i1, i2]
  have start : L = bs G (tri (n + 1)) := by
    have hLn : L = bs G (tri n) := by
      refine bs_eq hL fun k hk => ?_
      obtain ⟨q1, q2, q3⟩ := pr_surj n (by omega) k hk
      rw [← q3, hG _ _ (by omega) q2, if_neg (by omega), if_neg (by omega), adj_hi q2]
    have : bs G (tri (n + 1)) = bs G (tri n) := by
      rw [tri_s]
      have : ∀ m, m ≤ n → bs G (tri n + m) = bs G (tri n) := by
        intro m
        induction m with
        | zero => intro _; rfl
        | succ m ih =>
          intro hm
          rw [← Nat.add_assoc, bs_skip, ih (by omega)]
          by_cases h7 : n = 7
          · have o1 : ∀ k, 21 ≤ k → pi1 k = 0 ∧ pi2 k = 0 := fun k hk => by
              have : prl.getD k (0, 0) = (0, 0) := by
                simp only [List.getD]
                rw [List.getElem?_eq_none (by show 21 ≤ k; exact hk)]; rfl
              unfold pi1 pi2
              rw [this]; exact ⟨rfl, rfl⟩
            obtain ⟨z1, z2⟩ := o1 (tri n + m) (by rw [h7]; show 21 ≤ 21 + m; omega)
            show (if n ≤ pi2 (tri n + m) then _ else _) = _
            rw [z1, z2, if_neg (by omega), if_neg (by omega), adj_self]
          · rw [← pr_tri (show m < n by omega), hG n m (by omega) (by omega), if_neg (by omega), if_pos (Nat.le_refl _)]
      exact this n (Nat.le_refl _)
    rw [this]; exact hLn
  have rowskip : ∀ hgh, hgh < u → bs G (tri (n + hgh) + n) = bs G (tri (n + hgh)) ∨ hgh = 0 ∧ True := by
    intro hgh hu
    by_cases h0 : hgh = 0
    · exact Or.inr ⟨h0, trivial⟩
    · left
      have : ∀ m, m ≤ n → bs G (tri (n + hgh) + m) = bs G (tri (n + hgh)) := by
        intro m
        induction m with
        | zero => intro _; rfl
        | succ m ih =>
          intro hm
          rw [← Nat.add_assoc, bs_skip, ih (by omega)]
          rw [← pr_tri (show m < n + hgh by omega), hG _ _ (by omega) (by omega), if_neg (by omega), if_pos (by omega)]
      exact this n (Nat.le_refl _)
  have fin : bs G (tri (n + u)) = jnN n L u C := by
    unfold jnN mk
    rfl
  have outer : ∀ (K : zM → Option zM) d q f M1, q + d = max 1 u → 1 ≤ q → d < f → TxH T M1 → RdH n (bs G (tri (n + q))) M1 → zI M1 3 8 = nI e → Fc at3 M M1 → ∃ M2, fp_X4_addCrossing_L2 K 3 (nI u) (nI C) f (nI q) M1 = K M2 ∧ TxH T M2 ∧ RdH n (bs G (tri (n + max 1 u))) M2 ∧ zI M2 3 8 = nI e ∧ Fc at3 M M2 := by
    intro K d
    induction d with
    | zero =>
      intro q f M1 a1 a1' a2 a3 a4 a5 a6
      obtain ⟨f, rfl⟩ : ∃ g, f = g + 1 := ⟨f - 1, by omega⟩
      have hq : q = max 1 u := by omega
      refine ⟨M1, ?_, a3, by rw [← hq]; exact a4, a5, a6⟩
      rw [fp_X4_addCrossing_L2, if_pos (by rw [ge_iff_le, n_le (by omega) (by omega)]; omega)]
    | succ d ih =>
      intro q f M1 a1 a1' a2 a3 a4 a5 a6
      obtain ⟨f, rfl⟩ : ∃ g, f = g + 1 := ⟨f - 1, by omega⟩
      have hqu : q < u := by omega
      rw [fp_X4_addCrossing_L2, go hqu (by omega), inc]
      have inner : ∀ dd l g M2, l + dd = q → dd < g → TxH T M2 → RdH n (bs G (tri (n + q) + (n + l))) M2 → zI M2 3 8 = nI e → Fc at3 M M2 → ∃ M3, fp_X4_addCrossing_L10 (fun M8 => fp_X4_addCrossing_L2 K 3 (nI u) (nI C) f (nI (q + 1)) M8) 3 (nI u) (nI C) (nI q) g (nI l) M2 = fp_X4_addCrossing_L2 K 3 (nI u) (nI C) f (nI (q + 1)) M3 ∧ TxH T M3 ∧ RdH n (bs G (tri (n + q) + (n + q))) M3 ∧ zI M3 3 8 = nI e ∧ Fc at3 M M3 := by
        intro dd
        induction dd with
        | zero =>
          intro l g M2 b1 b2 b3 b4 b5 b6
          obtain ⟨g, rfl⟩ : ∃ z, g = z + 1 := ⟨g - 1, by omega⟩
          have hl : l = q := by omega
          subst hl
          exact ⟨M2, by rw [fp_X4_addCrossing_L10, stp], b3, b4, b5, b6⟩
        | succ dd ihd =>
          intro l g M2 b1 b2 b3 b4 b5 b6
          obtain ⟨g, rfl⟩ : ∃ z, g = z + 1 := ⟨g - 1, by omega⟩
          have hlq : l < q := by omega
          have hp := pr_tri (show n + l < n + q by omega)
          have h21 := pr_lt21 (n + q) (by omega) (n + l) (by omega) (by omega)
          have hGv : G (tri (n + q) + (n + l)) = adj C q l := by
            rw [← hp, hG _ _ (by omega) (by omega), if_pos (by omega), show n + q - n = q by omega, show n + l - n = l by omega]
          rw [fp_X4_addCrossing_L10, go hlq (by omega), c_tied (lt31 (show u < 8 by omega) hC) (by omega) (by omega) (by omega), Option.bind_some, zjn_eq, adj_comm C l q, ← hGv]
          dsimp only
          cases hb : G (tri (n + q) + (n + l)) with
          | false =>
            rw [ifF, inc]
            exact ihd (l + 1) g M2 (by omega) (by omega) b3 (by rw [show n + (l + 1) = (n + l) + 1 by omega, ← Nat.add_assoc, bs_skip hb]; exact b4) b5 b6
          | true =>
            rw [ifT, gI_3 b3.1, Option.bind_some, gI_3 b3.1, Option.bind_some, Option.bind_some, b4.1, b4.2.1, n_add, n_add, c_pair _ (by omega) _ (by omega), Option.bind_some, pr_comm, hp, n_1, n_shl (by omega), n_or, pI_3 b3.1, Option.bind_some, n_add]
            exact ihd (l + 1) g _ (by omega) (by omega) (TxH_sI (k := 1) b3 (by decide)) (by rw [show n + (l + 1) = (n + l) + 1 by omega, ← Nat.add_assoc, bs_take hb]; exact RdH_L b4) (by rw [zI_other _ _ (Or.inr (by decide))]; exact b5) (Fc_trans b6 (Fc_sI (Or.inl rfl)))
      have h0 : bs G (tri (n + q) + (n + 0)) = bs G (tri (n + q)) := by
        rw [Nat.add_zero]
        rcases rowskip q hqu with z | z
        · exact z
        · omega
      obtain ⟨M3, c1, c2, c3, c4, c5⟩ := inner q 0 FU M1 (by omega) (FU_gt (by omega)) a3 (by rw [h0]; exact a4) a5 a6
      rw [n_0, c1]
      exact ih (q + 1) f M3 (by omega) (by omega) (by omega) c2 (by rw [show n + (q + 1) = (n + q) + 1 by omega, tri_s]; exact c3) c4 c5
  obtain ⟨M2, d1, d2, d3, d4, d5⟩ := outer (fun M9 => (zgI 3 M9 3 0).bind fun (y10 : Int32) => (zpI 3 M9 3 0 (y10 + nI u)).bind fun (M11 : zM) => some M11) (max 1 u - 1) 1 FU M (by omega) (Nat.le_refl _) (FU_gt (by omega)) h (by rw [← start]; exact hR) he Fc_refl
  rw [n_1, d1, gI_3 d2.1, Option.bind_some, d3.1, n_add, pI_3 d2.1, Option.bind_some]
  have hlast : bs G (tri (n + max 1 u)) = jnN n L u C := by
    by_cases hu : u = 0
    · subst hu
      rw [show max 1 0 = 1 from rfl, ← start, ← fin, Nat.add_zero]
      refine bs_eq hL fun k hk => ?_
      obtain ⟨q1, q2, q3⟩ := pr_surj n (by omega) k hk
      rw [← q3, hG _ _ (by omega) q2, if_neg (by omega), if_neg (by omega), adj_hi q2]
    · rw [show max 1 u = u by omega, fin]
  rw [hlast] at d3
  refine ⟨_, rfl, TxH_sI d2 (by decide), ⟨zI_same _ _ _ _, ?_, ?_, ?_⟩, ?_, Fc_trans d5 (Fc_sI (Or.inl rfl))⟩
  · rw [zI_other _ _ (Or.inr (by decide))]; exact d3.2.1
  · rw [zI_other _ _ (Or.inr (by decide))]; exact d3.2.2.1
  · rw [zI_other _ _ (Or.inr (by decide))]; exact d3.2.2.2
  · rw [zI_other _ _ (Or.inr (by decide))]; exact d4

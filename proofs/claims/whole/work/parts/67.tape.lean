/-! ===== 67: the class' Tape, Undos, Draws ===== -/
/-- a byte of an int -/
def byt (v : Int32) (s : Nat) : Nat := (v.toBitVec.toNat >>> s) % 256
theorem byt_lt (v : Int32) (s : Nat) : byt v s < 256 := Nat.mod_lt _ (by decide)
theorem c_byt (v : Int32) {s : Nat} (hs : s ≤ 24) : (v >>> (nI s &&& 31)) &&& 255 = nI (byt v s) := n_ext fun i hi => by
  have h255 : (255 : Int32) = nI (2 ^ 8 - 1) := by decide
  rw [h255, Int32.toBitVec_and, BitVec.getLsbD_and, Int32.toBitVec_shiftRight, BitVec.sshiftRight_eq', BitVec.getLsbD_sshiftRight, n_sl s (by omega), n_b, Nat.testBit_two_pow_sub_one]
  unfold byt
  rw [show 256 = 2 ^ 8 from rfl, Nat.testBit_mod_two_pow, Nat.testBit_shiftRight]
  by_cases h8 : i < 8
  · have h3 : ¬ 32 ≤ i := by omega
    have h4 : s + i < 32 := by omega
    simp [hi, h8, h3, h4, BitVec.getLsbD]
  · simp [h8]
def four (v : Int32) : List Nat := [byt v 24, byt v 16, byt v 8, byt v 0]
/-- the tape holds these -/
def TpH (l : List Nat) (M : zM) : Prop := zI M 1 1 = nI l.length ∧ ∀ i, i < l.length → zI M 2 i = nI (l.getD i 0)
abbrev at1 : Nat → Prop := fun a => a = 1 ∨ a = 2
theorem getD_snoc {l : List Nat} {x : Nat} : (l ++ [x]).getD l.length 0 = x := by simp [List.getD]
theorem Tp_push {l : List Nat} {x : Nat} {M : zM} (h : TpH l M) : TpH (l ++ [x]) (zsI (zsI M 2 l.length (nI x)) 1 1 (nI (l.length + 1))) := by
  refine ⟨by rw [zI_same, List.length_append]; rfl, fun i hi => ?_⟩
  rw [List.length_append, List.length_singleton] at hi
  rw [zI_other _ _ (Or.inl (by decide))]
  by_cases hil : i = l.length
  · rw [hil, zI_same, getD_snoc]
  · rw [zI_other _ _ (Or.inr hil), h.2 i (by omega), getD_app_l (by omega)]
theorem n_m8 (k : Nat) : nI (k + 8) + (-8) = nI k := by
  rw [← n_add, Int32.add_assoc, show nI 8 + (-8) = 0 from by decide, Int32.add_zero]
theorem c_take4 {l : List Nat} {v : Int32} {M : zM} (hC : zC M) (h : TpH l M) (hl : l.length + 4 ≤ 200) : ∃ M', fp_X7_take 1 v M = some M' ∧ TpH (l ++ four v) M' ∧ Fc at1 M M' := by
  unfold fp_X7_take
  rw [ts_1 hC]
  have step : ∀ (s f : Nat) (l : List Nat) (M : zM), zC M → TpH l M → l.length < 200 → s ≤ 24 → ∃ M', fp_X7_take_L3 1 v (f + 1) (nI s) M = fp_X7_take_L3 1 v f (nI s + (-8)) M' ∧ TpH (l ++ [byt v s]) M' ∧ Fc at1 M M' := by
    intro s f l M hC h hl hs
    refine ⟨_, ?_, Tp_push h, Fc_trans (Fc_sI (Or.inr rfl)) (Fc_sI (Or.inl rfl))⟩
    have hne : zI (zsI M 2 l.length (nI (byt v s))) 1 1 = nI l.length := by rw [zI_other _ _ (Or.inl (by decide))]; exact h.1
    rw [fp_X7_take_L3, if_neg (by rw [n_lt0 (by omega)]; exact id), gI_1 hC, Option.bind_some, gR_1_0 hC, Option.bind_some, ln_2 hC, Option.bind_some, h.1, go hl (by omega), Option.bind_some, Option.bind_some, c_byt v hs, tI_2 hC hl, Option.bind_some, gI_1 (by exact hC), Option.bind_some, hne, pI_1 (by exact hC), Option.bind_some, inc]
  have h24 : (24 : Int32) = nI 24 := by decide
  rw [h24, show FU = 999999995 + 1 + 1 + 1 + 1 + 1 from rfl]
  obtain ⟨M1, e1, t1, f1⟩ := step 24 _ l M hC h (by omega) (by omega)
  obtain ⟨M2, e2, t2, f2⟩ := step 16 _ _ M1 (Fc_C f1 hC) t1 (by simp; omega) (by omega)
  obtain ⟨M3, e3, t3, f3⟩ := step 8 _ _ M2 (Fc_C (Fc_trans f1 f2) hC) t2 (by simp; omega) (by omega)
  obtain ⟨M4, e4, t4, f4⟩ := step 0 999999996 _ M3 (Fc_C (Fc_trans (Fc_trans f1 f2) f3) hC) t3 (by simp; omega) (by omega)
  refine ⟨M4, ?_, by unfold four; simpa using t4, Fc_trans (Fc_trans (Fc_trans f1 f2) f3) f4⟩
  rw [e1, show nI 24 + (-8) = nI 16 from n_m8 16, e2, show nI 16 + (-8) = nI 8 from n_m8 8, e3, show nI 8 + (-8) = nI 0 from n_m8 0, e4, fp_X7_take_L3, if_pos (by decide)]
/-- an int that is from 0 to so many -/
theorem c_holds {l : List Nat} {v : Int32} {M : zM} (hC : zC M) (h : TpH l M) (hl : l.length ≤ 200) : fp_X7_holds 1 v M = some (bI (decide (¬ v < 0 ∧ v.toNatClampNeg ≤ l.length))) := by
  unfold fp_X7_holds
  rw [ts_1 hC]
  by_cases h0 : v < 0
  · rw [if_pos h0, decide_eq_false (fun q => q.1 h0)]; rfl
  · rw [if_neg h0, gI_1 hC, Option.bind_some, h.1]
    obtain ⟨j, hj, rfl⟩ := n_of h0
    rw [n_clamp hj]
    by_cases h1 : j ≤ l.length
    · rw [gt_go h1 (by omega), decide_eq_true ⟨h0, h1⟩]; rfl
    · rw [if_pos (by rw [gt_iff_lt, n_lt (by omega) hj]; omega), decide_eq_false (fun q => h1 q.2)]; rfl
/-! undos -/
def cdN (q : Nat × Nat) : Nat := q.1 <<< 21 ||| q.2
def UnH (l : List (Nat × Nat)) (M : zM) : Prop := zI M 6 1 = nI l.length ∧ ∀ i, i < l.length → zI M 7 i = nI (cdN (l.getD i (0, 0)))
def pushA (l : List (Nat × Nat)) (q : Nat × Nat) : List (Nat × Nat) := (if l.length < 12 then l else l.drop 1) ++ [q]
abbrev at6 : Nat → Prop := fun a => a = 6 ∨ a = 7
theorem Un_push {l : List (Nat × Nat)} {q : Nat × Nat} {M : zM} (h : UnH l M) : UnH (l ++ [q]) (zsI (zsI M 7 l.length (nI (cdN q))) 6 1 (nI (l.length + 1))) := by
  refine ⟨by rw [zI_same, List.length_append]; rfl, fun i hi => ?_⟩
  rw [List.length_append, List.length_singleton] at hi
  rw [zI_other _ _ (Or.inl (by decide))]
  by_cases hil : i = l.length
  · rw [hil, zI_same, getT_app_r]
  · rw [zI_other _ _ (Or.inr hil), h.2 i (by omega), getT_app_l (by omega)]
theorem c_ukeep {l : List (Nat × Nat)} {q : Nat × Nat} {M : zM} (hC : zC M) (h : UnH l M) (hl : l.length ≤ 12) : ∃ M', fp_X9_keep 6 (nI (cdN q)) M = some M' ∧ UnH (pushA l q) M' ∧ Fc at6 M M' := by
  unfold fp_X9_keep
  rw [ts_6 hC, gI_6 hC, Option.bind_some, gR_6_0 hC, Option.bind_some, ln_7 hC, Option.bind_some, zjn_eq, h.1]
  have fin : ∀ (l : List (Nat × Nat)) (M : zM), zC M → UnH l M → l.length < 12 → ∃ M', ((zgR 7 M 6 0).bind fun (y5 : Nat) =>
        (zgI 7 M 6 1).bind fun (y6 : Int32) =>
        (ztI M y5 y6 (nI (cdN q))).bind fun (M7 : zM) =>
        (zgI 7 M7 6 1).bind fun (y8 : Int32) =>
        (zpI 7 M7 6 1 (y8 + 1)).bind fun (M9 : zM) =>
        some M9) = some M' ∧ UnH (l ++ [q]) M' ∧ Fc at6 M M' := by
    intro l M hC h hl
    refine ⟨_, ?_, Un_push h, Fc_trans (Fc_sI (Or.inr rfl)) (Fc_sI (Or.inl rfl))⟩
    have hne : zI (zsI M 7 l.length (nI (cdN q))) 6 1 = nI l.length := by rw [zI_other _ _ (Or.inl (by decide))]; exact h.1
    rw [gR_6_0 hC, Option.bind_some, gI_6 hC, Option.bind_some, h.1, tI_7 hC hl, Option.bind_some, gI_6 (by exact hC), Option.bind_some, hne, pI_6 (by exact hC), Option.bind_some, inc]
  by_cases hl2 : l.length < 12
  · rw [if_pos (by rw [n_lt (by omega) (by omega)]; exact hl2)]
    unfold pushA
    rw [if_pos hl2]
    exact fin l M hC h hl2
  · have h12 : l.length = 12 := by omega
    rw [if_neg (by rw [n_lt (by omega) (by omega)]; exact hl2), Option.bind_some, Option.bind_some, Option.bind_some, ln_7 hC, Option.bind_some, n_1, n_sub (by omega)]
    have L7 : zL M 7 = 12 := hC.2.2 (7, 12) (by decide +kernel)
    obtain ⟨Q, hQ⟩ : ∃ Q, Q = zcpI M 7 1 7 0 11 := ⟨_, rfl⟩
    have eQ : zcp 100 M 7 (nI 1) 7 0 (nI (12 - 1)) = some Q := by
      unfold zcp
      have c0 : (0 : Int32).toNatClampNeg = 0 := by decide
      rw [n_clamp (by omega), n_clamp (by omega), c0, L7, if_pos ⟨⟨zC_lt hC (by decide), rfl⟩, ⟨zC_lt hC (by decide), rfl⟩, ⟨by decide, by decide, by decide⟩, by decide, by decide⟩, if_neg (by decide), hQ]
    rw [eQ, Option.bind_some]
    have hCQ : zC Q := by rw [hQ]; exact hC
    rw [gR_6_0 hCQ, Option.bind_some, ln_7 hCQ, Option.bind_some, n_sub (by omega), pI_6 hCQ, Option.bind_some]
    unfold pushA
    rw [if_neg hl2]
    obtain ⟨M', e1, e2, e3⟩ := fin (l.drop 1) (zsI Q 6 1 (nI (12 - 1))) (by exact hCQ) ⟨by rw [zI_same, List.length_drop, h12], fun i hi => by
      rw [List.length_drop, h12] at hi
      rw [zI_other _ _ (Or.inl (by decide)), hQ]
      have e7 : zI (zcpI M 7 1 7 0 11) 7 i = va_cpy (M.1 7) (M.1 7) 1 0 11 i := by
        show (if (7 : Nat) = 7 then va_cpy (M.1 7) (M.1 7) 1 0 11 i else M.1 7 i) = _
        rw [if_pos rfl]
      rw [e7]
      unfold va_cpy
      rw [if_pos (by omega), Nat.sub_zero]
      show zI M 7 (1 + i) = _
      rw [h.2 (1 + i) (by omega)]
      congr 2
      simp [List.getD, List.getElem?_drop, Nat.add_comm]⟩ (by rw [List.length_drop]; omega)
    refine ⟨M', e1, e2, Fc_trans ?_ e3⟩
    rw [hQ]
    refine ⟨rfl, fun a ha => ?_⟩
    funext k
    show (if a = 6 ∧ k = 1 then _ else if a = 7 then _ else M.1 a k) = _
    have h6 : a ≠ 6 := fun z => ha (Or.inl z)
    have h7 : a ≠ 7 := fun z => ha (Or.inr z)
    rw [if_neg (fun z => h6 z.1), if_neg h7]
theorem c_takeBack {l : List (Nat × Nat)} {q : Nat × Nat} {M : zM} (hC : zC M) (h : UnH (l ++ [q]) M) (hl : l.length < 12) : fp_X9_takeBack 6 M = some (nI (cdN q), zsI M 6 1 (nI l.length)) ∧ UnH l (zsI M 6 1 (nI l.length)) := by
  unfold fp_X9_takeBack
  have h1 : zI M 6 1 = nI (l.length + 1) := by rw [h.1, List.length_append]; rfl
  have h2 := h.2 l.length (by simp)
  rw [getT_app_r] at h2
  refine ⟨?_, by rw [zI_same], fun i hi => ?_⟩
  · rw [ts_6 hC, gI_6 hC, Option.bind_some, h1, if_pos (by rw [n_0, gt_iff_lt, n_lt (by omega) (by omega)]; omega), Option.bind_some, n_1, n_sub (by omega), Nat.add_sub_cancel, pI_6 hC, Option.bind_some, gR_6_0 (by exact hC), Option.bind_some, gI_6 (by exact hC), Option.bind_some, zI_same, lI_7 (by exact hC) hl, Option.bind_some, zI_other _ _ (Or.inl (by decide)), h2]
  · rw [zI_other _ _ (Or.inl (by decide)), h.2 i (by simp; omega), getT_app_l hi]
/-! draws -/
def lcg (s : Nat) : Nat := (s * 4093 + 18257) % 65536
def swpL (l : List Nat) (a b : Nat) : List Nat := (l.set a (l.getD b 0)).set b (l.getD a 0)
def shuf : Nat → List Nat → Nat → List Nat × Nat
  | 0, l, s => (l, s)
  | k + 1, l, s => shuf k (swpL l (k + 1) (lcg s / 8 % (k + 2))) (lcg s)
def twos (n : Nat) : List Nat := (List.range (2 * n)).map (· / 2)
def shN (n s : Nat) : List Nat × Nat := shuf (2 * n - 1) (twos n) s
theorem twos_WD : ∀ n, n < 8 → (twos n).length = 2 * n ∧ ∀ p, p < n → (twos n).count p = 2 := by decide +kernel
theorem swpL_count {l : List Nat} {a b : Nat} (ha : a < l.length) (hb : b < l.length) (p : Nat) : (swpL l a b).count p = l.count p := by
  unfold swpL
  have ga : l.getD a 0 = l[a] := by simp [List.getD, ha]
  have gb : l.getD b 0 = l[b] := by simp [List.getD, hb]
  rw [List.count_set (by rw [List.length_set]; exact hb), List.count_set ha, ga, gb, List.getElem_set]
  have c1 : (if l[a] == p then 1 else 0) ≤ l.count p := by
    split
    · rename_i h
      have : l[a] = p := by simpa using h
      exact List.count_pos_iff.mpr (this ▸ List.getElem_mem ha)
    · exact Nat.zero_le _
  rw [ite_self]
  generalize (if l[a] == p then 1 else 0) = x at c1 ⊢
  generalize (if l[b] == p then 1 else 0) = y
  omega
theorem swpL_len (l : List Nat) (a b : Nat) : (swpL l a b).length = l.length := by unfold swpL; simp
theorem lcg_lt (s : Nat) : lcg s < 65536 := Nat.mod_lt _ (by decide)
theorem shuf_WD {n : Nat} : ∀ k l s, k < 2 * n → WD n l → WD n (shuf k l s).1 := by
  intro k
  induction k with
  | zero => intro l s _ h; exact h
  | succ k ih =>
    intro l s hk h
    rw [shuf]
    have hj : lcg s / 8 % (k + 2) < l.length := by
      have := Nat.mod_lt (lcg s / 8) (show 0 < k + 2 by omega)
      rw [h.1]; omega
    exact ih _ _ (by omega) (WD_perm h (swpL_len _ _ _) (swpL_count (by rw [h.1]; omega) hj))
theorem shN_WD {n : Nat} (hn : n < 8) (s : Nat) : WD n (shN n s).1 := by
  by_cases h0 : n = 0
  · subst h0; exact twos_WD 0 (by omega)
  · exact shuf_WD _ _ _ (by omega) (twos_WD n hn)
abbrev at42 : Nat → Prop := fun a => a = 42 ∨ a = 43
theorem c_draw {s by' : Nat} {M : zM} (hC : zC M) (hs : s < 65536) (h : zI M 42 3 = nI s) (hb : 0 < by') (hb2 : by' < 100) : fp_X0_draw 42 (nI by') M = some (nI (lcg s / 8 % by'), zsI M 42 3 (nI (lcg s))) := by
  unfold fp_X0_draw
  have hl := lcg_lt s
  rw [ts_42 hC, gI_42 hC, Option.bind_some, h, show (4093 : Int32) = nI 4093 from by decide, n_mul, show (18257 : Int32) = nI 18257 from by decide, n_add, show (65536 : Int32) = nI 65536 from by decide, n_rem (by omega) (by omega) (by omega), pI_42 hC, Option.bind_some, if_neg (by rw [n_0, n_le (by omega) (by omega)]; omega), gI_42 (by exact hC), Option.bind_some, zI_same]
  rw [show (s * 4093 + 18257) % 65536 = lcg s from rfl, n_8, n_div (by omega) (by omega) (by omega)]
  unfold zrm
  rw [if_neg (by rw [n_0, n_eq (by omega) (by omega)]; omega), n_rem (by omega) hb (by omega)]
  rfl
theorem AN_set {M : zM} {a k x : Nat} {l : List Nat} (h : AN M a l) (hk : k < l.length) : AN (zsI M a k (nI x)) a (l.set k x) := by
  obtain ⟨h1, h2, h3, h4, h5⟩ := h
  refine ⟨h1, h2, by rw [List.length_set]; exact h3, h4, fun i hi => ?_⟩
  rw [List.length_set] at hi
  by_cases hik : i = k
  · rw [hik, zI_same]
    simp [List.getD, List.getElem?_set, hk]
  · rw [zI_other _ _ (Or.inr hik), h5 i hi]
    have : k ≠ i := fun z => hik z.symm
    simp [List.getD, List.getElem?_set, this]
theorem AN_t {M : zM} {a k x : Nat} {l : List Nat} (h : AN M a l) (hk : k < l.length) : ztI M a (nI k) (nI x) = some (zsI M a k (nI x)) := by
  have := h.2.2.1
  exact ztI_ok h.1 h.2.1 rfl (AN_L h) (by omega) _
theorem AN_F {S : Nat → Prop} {M M' : zM} {a : Nat} {l : List Nat} (h : AN M a l) (hF : Fc S M M') (ha : ¬ S a) : AN M' a l := by
  obtain ⟨h1, h2, h3, h4, h5⟩ := h
  have e1 : zS M' = zS M := congrArg (fun x => x.2.2.2.1) hF.1
  have e2 : zL M' = zL M := congrArg (fun x => x.2.2.1) hF.1
  exact ⟨by rw [e1]; exact h1, h2, by rw [e2]; exact h3, by rw [e2]; exact h4, fun i hi => by rw [Fc_I hF ha, h5 i hi]⟩
theorem c_drawnLines {n s : Nat} {M : zM} (hn : n < 8) (hC : zC M) (hs : s < 65536) (h : zI M 42 3 = nI s) : ∃ M', fp_X0_drawnLines 42 (nI n) M = some (nI (wnet n (shN n s).1), M') ∧ zI M' 42 3 = nI (shN n s).2 ∧ (shN n s).2 < 65536 ∧ Fc at42 M M' ∧ ∀ k, k ≠ 3 → zI M' 42 k = zI M 42 k := by
  unfold fp_X0_drawnLines
  have L43 : zL M 43 = 14 := hC.2.2 (43, 14) (by decide +kernel)
  rw [ts_42 hC, gR_42_4 hC, Option.bind_some, ln_43 hC, Option.bind_some, lett_eq, n_2, n_mul, n_min (by omega) (by omega), Nat.min_eq_left (by omega)]
  -- the row at first
  have fill : ∀ (K : zM → Option (Int32 × zM)) d i f M1, i + d = 2 * n → d < f → Fc at42 M M1 → (∀ k, zI M1 42 k = zI M 42 k) → (∀ j, j < i → zI M1 43 j = nI (j / 2)) → ∃ M2, fp_X0_drawnLines_L14 K 42 (nI n) (nI (2 * n)) f (nI i) M1 = K M2 ∧ Fc at42 M M2 ∧ (∀ k, zI M2 42 k = zI M 42 k) ∧ ∀ j, j < 2 * n → zI M2 43 j = nI (j / 2) := by
    intro K d
    induction d with
    | zero =>
      intro i f M1 h1 h2 h3 h4 h5
      obtain ⟨f, rfl⟩ : ∃ g, f = g + 1 := ⟨f - 1, by omega⟩
      have : i = 2 * n := by omega
      subst this
      exact ⟨M1, by rw [fp_X0_drawnLines_L14, stp], h3, h4, h5⟩
    | succ d ih =>
      intro i f M1 h1 h2 h3 h4 h5
      obtain ⟨f, rfl⟩ : ∃ g, f = g + 1 := ⟨f - 1, by omega⟩
      have hC1 := Fc_C h3 hC
      rw [fp_X0_drawnLines_L14, go (by omega) (by omega), gR_42_4 hC1, Option.bind_some, n_2, n_div (by omega) (by omega) (by omega), tI_43 hC1 (by omega), Option.bind_some, inc]
      exact ih (i + 1) f _ (by omega) (by omega) (Fc_trans h3 (Fc_sI (Or.inr rfl))) (fun k => by rw [zI_other _ _ (Or.inl (by decide)), h4]) fun j hj => by
        by_cases hji : j = i
        · rw [hji, zI_same]
        · rw [zI_other _ _ (Or.inr hji), h5 j (by omega)]
  obtain ⟨M2, e1, e2, e3, e4⟩ := fill (fun M6 => lett (nI (2 * n) - 1) fun v3_7 => fp_X0_drawnLines_L38 42 (nI n) FU v3_7 M6) (2 * n) 0 FU M (by omega) (FU_gt (by omega)) Fc_refl (fun _ => rfl) (fun j hj => by omega)
  rw [n_0, e1, lett_eq]
  have hC2 := Fc_C e2 hC
  have A2 : AN M2 43 (twos n) := by
    have L43' : zL M2 43 = 14 := hC2.2.2 (43, 14) (by decide +kernel)
    have hl := (twos_WD n hn).1
    refine ⟨zC_lt hC2 (by decide), rfl, by omega, by omega, fun i hi => ?_⟩
    rw [e4 i (by omega)]
    rw [hl] at hi
    simp [twos, List.getD, List.getElem?_map, List.getElem?_range hi]
  have loop : ∀ k l s M1 f, k < f → k < 2 * n ∨ k = 0 → WD n l → AN M1 43 l → s < 65536 → zI M1 42 3 = nI s → Fc at42 M M1 → (∀ j, j ≠ 3 → zI M1 42 j = zI M 42 j) → ∃ M', fp_X0_drawnLines_L38 42 (nI n) f (nI (k + 1) - 1) M1 = some (nI (wnet n (shuf k l s).1), M') ∧ zI M' 42 3 = nI (shuf k l s).2 ∧ (shuf k l s).2 < 65536 ∧ Fc at42 M M' ∧ ∀ j, j ≠ 3 → zI M' 42 j = zI M 42 j := by
    intro k
    induction k with
    | zero =>
      intro l s M1 f h1 h2 h3 h4 h5 h6 h7 h8
      obtain ⟨f, rfl⟩ : ∃ g, f = g + 1 := ⟨f - 1, by omega⟩
      have hC1 := Fc_C h7 hC
      refine ⟨M1, ?_, h6, h5, h7, h8⟩
      rw [fp_X0_drawnLines_L38, if_pos (by decide), gR_42_4 hC1, Option.bind_some, c_crossings hn h4 h3, Option.bind_some]
      rfl
    | succ k ih =>
      intro l s M1 f h1 h2 h3 h4 h5 h6 h7 h8
      obtain ⟨f, rfl⟩ : ∃ g, f = g + 1 := ⟨f - 1, by omega⟩
      have hk : k + 1 < 2 * n := by omega
      have hC1 := Fc_C h7 hC
      have hj := Nat.mod_lt (lcg s / 8) (show 0 < k + 2 by omega)
      obtain ⟨j, hjd⟩ : ∃ j, j = lcg s / 8 % (k + 2) := ⟨_, rfl⟩
      rw [← hjd] at hj
      have hkl : k + 1 < l.length := by rw [h3.1]; exact hk
      have hjl : j < l.length := by rw [h3.1]; omega
      rw [n_1, n_sub (by omega), Nat.add_sub_cancel, fp_X0_drawnLines_L38, if_neg (by rw [n_1, n_lt (by omega) (by omega)]; omega), n_1, n_add, show k + 1 + 1 = k + 2 by omega, c_draw hC1 h5 h6 (by omega) (by omega), Option.bind_some]
      unfold zpp
      dsimp only
      have hC3 : zC (zsI M1 42 3 (nI (lcg s))) := hC1
      have A3 : AN (zsI M1 42 3 (nI (lcg s))) 43 l := AN_F h4 (Fc_sI (S := fun a => a = 42) rfl) (by decide)
      rw [zjn_eq, ← hjd, if_neg (by rw [n_lt0 (by omega)]; exact id), gR_42_4 hC3, Option.bind_some, ln_43 hC3, Option.bind_some, go (show j < 14 by omega) (by omega), Option.bind_some, AN_l A3 hkl, Option.bind_some, Option.bind_some, Option.bind_some, AN_l A3 hjl, Option.bind_some, AN_t A3 hkl, Option.bind_some]
      have A4 := AN_set (x := l.getD j 0) A3 hkl
      have hC4 : zC (zsI (zsI M1 42 3 (nI (lcg s))) 43 (k + 1) (nI (l.getD j 0))) := hC1
      rw [gR_42_4 hC4, Option.bind_some, AN_t A4 (by rw [List.length_set]; exact hjl), Option.bind_some]
      have A5 := AN_set (x := l.getD (k + 1) 0) A4 (k := j) (by rw [List.length_set]; exact hjl)
      have e : nI (k + 1) + (-1) = nI (k + 1) - 1 := by rw [Int32.sub_eq_add_neg]
      rw [← n_1, e]
      rw [shuf, ← hjd]
      exact ih (swpL l (k + 1) j) (lcg s) _ f (by omega) (Or.inl (by omega)) (WD_perm h3 (swpL_len _ _ _) (swpL_count hkl hjl)) A5 (lcg_lt s) (by rw [zI_other _ _ (Or.inl (by decide)), zI_other _ _ (Or.inl (by decide)), zI_same]) (Fc_trans h7 (Fc_trans (Fc_trans (Fc_sI (Or.inl rfl)) (Fc_sI (Or.inr rfl))) (Fc_sI (Or.inr rfl)))) fun q hq => by rw [zI_other _ _ (Or.inl (by decide)), zI_other _ _ (Or.inl (by decide)), zI_other _ _ (Or.inr hq), h8 q hq]
  by_cases h0 : n = 0
  · subst h0
    have := loop 0 (twos 0) s M2 (FU - 1 + 1) (by decide) (Or.inr rfl) (twos_WD 0 (by omega)) A2 hs (by rw [e3, h]) e2 (fun j _ => e3 j)
    -- with no letters the loop ends at once
    refine ⟨M2, ?_, by rw [e3, h]; rfl, hs, e2, fun j _ => e3 j⟩
    rw [show FU = 999999999 + 1 from rfl, fp_X0_drawnLines_L38, if_pos (by decide), gR_42_4 hC2, Option.bind_some, c_crossings (n := 0) (by omega) A2 (twos_WD 0 (by omega)), Option.bind_some]
    rfl
  · have := loop (2 * n - 1) (twos n) s M2 FU (FU_gt (by omega)) (Or.inl (by omega)) (twos_WD n hn) A2 hs (by rw [e3, h]) e2 (fun j _ => e3 j)
    rw [show 2 * n - 1 + 1 = 2 * n by omega] at this
    exact this

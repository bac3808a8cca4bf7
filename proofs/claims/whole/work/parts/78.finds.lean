/-! ===== 78: the class: find, could, beside, turned, obstructions, many ===== -/
theorem Mods_rise {n L : Nat} (hn : n < 8) : ∀ i j, i < j → j < (Mods n L).length → pw ((Mods n L).getD i []) < pw ((Mods n L).getD j []) := by
  intro i j hij hj
  have hp := List.pairwise_iff_getElem.mp (Mods_up n L) i j (by omega) hj hij
  have e : ∀ k (hk : k < (Mods n L).length), (Mods n L).getD k [] = (Mods n L)[k] := fun k hk => by simp [List.getD, hk]
  have w : ∀ k (hk : k < (Mods n L).length), WD n (Mods n L)[k] := fun k hk => (Mods_mem.mp (List.getElem_mem hk)).1.1
  rw [e i (by omega), e j hj]
  rw [pw_ltL (WD16 hn (w i (by omega))) (WD16 hn (w j hj)) (by rw [(w i (by omega)).1, (w j hj).1])] at hp
  exact hp
/-- where a word stands among the models -/
noncomputable def ixO (n L X : Nat) : Option Nat := (Mods n L).findIdx? fun w => pw w == X
noncomputable def ixV (n L X : Nat) : Int32 := match ixO n L X with | none => -1 | some i => nI i
theorem ixO_some {n L X i : Nat} (hn : n < 8) (hi : i < (Mods n L).length) (h : pw ((Mods n L).getD i []) = X) : ixO n L X = some i := by
  unfold ixO
  rw [List.findIdx?_eq_some_iff_getElem]
  have e : ∀ k (hk : k < (Mods n L).length), (Mods n L).getD k [] = (Mods n L)[k] := fun k hk => by simp [List.getD, hk]
  refine ⟨hi, by rw [← e i hi, h]; simp, fun j hj => ?_⟩
  have := Mods_rise hn j i hj hi
  rw [← e j (by omega)]
  intro z
  rw [beq_iff_eq] at z; omega
theorem ixO_none {n L X : Nat} (h : ∀ i, i < (Mods n L).length → pw ((Mods n L).getD i []) ≠ X) : ixO n L X = none := by
  unfold ixO
  rw [List.findIdx?_eq_none_iff]
  intro w hw
  obtain ⟨i, hi, rfl⟩ := List.getElem_of_mem hw
  have := h i hi
  simp only [List.getD, List.getElem?_eq_getElem hi, Option.getD_some] at this
  simpa using this
theorem ixO_lt {n L X i : Nat} (h : ixO n L X = some i) : i < (Mods n L).length := by
  unfold ixO at h
  rw [List.findIdx?_eq_some_iff_getElem] at h
  exact h.1
theorem x_indexOf {m r n L X : Nat} {M : zM} (hn : n < 8) (hm : zMo m) (hC : zC M) (h : MW m r (Mods n L) M) (hX : X < 2 ^ 63) : fp_X1_indexOf m (jI X) M = some (ixV n L X) := by
  have hlen := Mods_len (L := L) hn
  unfold ixV
  rcases c_indexOf hm hC h hX (fun w hw => by
    have := (Mods_mem.mp hw).1.1
    exact pw14 (WD16 hn this) (by have := this.1; omega)) (Mods_rise hn) (by omega) with ⟨h1, h2⟩ | ⟨i, h1, h2, h3⟩
  · rw [h1, ixO_none h2]
  · rw [h3, ixO_some hn h1 h2]
theorem lrp_lt {n : Nat} {w : List Nat} (hn : n < 8) (h : WD n w) : lrp w < 2 ^ 63 := by
  have : pw (rdg w (w.idxOf 0) true) < 2 ^ 63 := pw14 (fun z hz => by
    unfold rdg at hz
    obtain ⟨k, _, rfl⟩ := List.mem_map.mp hz
    exact getD_le (fun x hx => WD16 hn h x hx) (by decide)) (by rw [rdg_len]; have := h.1; omega)
  unfold lrp
  omega
/-! turned -/
noncomputable def q_turned (S : zSt) (i p : Int32) : Int32 × zSt := match mpt S i p with
  | .inl k => rf S k
  | .inr q => gv S (ixV (sN S) (turn (sN S) (sL S) q.2) (lrp (trW q.2 ((mds S).getD q.1 []))))
theorem trW_WD {n p : Nat} {w : List Nat} (h : WD n w) (hp : p < n) : WD n (trW p w) := by
  obtain ⟨A, B, C, rfl, hA, hB, hC⟩ := two_of (h.2 p hp)
  rw [trW_split hA hB]
  refine WD_perm h (by simp) fun q => ?_
  simp only [List.count_append, List.count_cons, List.count_reverse]
theorem x_turned {S : zSt} {t : Nat} {M : zM} (h : IC S t M) (i p : Int32) : CM t (q_turned S i p) (fp_X10_turned 0 i p M) M := by
  unfold fp_X10_turned q_turned
  have g2 := (IC_n h).2
  obtain ⟨r', M', e1, e2, e3, e4⟩ := x_badModelPoint h i p
  have hC' := IC_C e2
  rw [ts_0 (IC_C h), e1, Option.bind_some]
  unfold zpp
  dsimp only
  cases hs : mpt S i p with
  | inl k => dsimp only; rw [if_neg (mpt_ne hs)]; exact x_rf e2 (Nat.le_succ _) e3
  | inr q =>
    obtain ⟨rfl, rfl, h1, h2⟩ := mpt_ok hs
    obtain ⟨w1, w2⟩ := e4 ⟨q, hs⟩
    obtain ⟨M2, k1, k2, k3, k4⟩ := x_spell e2 w1 w2 h1
    have hC2 := IC_C k2
    have hw := (mds_get h1).1.1
    have hw2 := trW_WD hw h2
    obtain ⟨M3, a1, a2, a3⟩ := c_reverseBetween g2 k4 hw h2
    have hI3 := IC_c k2 a2 (fun a q => by rw [q]; exact Or.inr (by decide))
    have hC3 := IC_C hI3
    have rk3 : Rk M2 M3 := Rk_k (Fk_of a2) (fun a h1 h2 q => by omega)
    have hT := turn_lt (sN S) (sL S) q.2
    obtain ⟨r4, M4, b1, b2, b3, b4, b5⟩ := x_gath hI3 g2 hT (Or.inr (Or.inl rfl)) (Nat.le_refl 80000) (by decide)
    have hC4 := IC_C b3
    obtain ⟨c1, c2⟩ := MG_all g2 b2
    have b1' : fp_X1_gather 28 (nI (sN S)) (nI (turn (sN S) (sL S) q.2)) 80000 M3 = some M4 := b1
    dsimp only
    rw [if_pos rfl, gR_0_10 hC', Option.bind_some, gR_0_16 hC', Option.bind_some, k1, Option.bind_some, gR_0_16 hC2, Option.bind_some, gI_0 hC2, Option.bind_some, (IC_n k2).1, n_2, n_mul, a1, Option.bind_some, gR_0_11 hC3, Option.bind_some, gI_0 hC3, Option.bind_some, Option.bind_some, gI_0 hC3, Option.bind_some, (IC_n hI3).1, (IC_L hI3).1, c_turnedAt g2 (IC_L hI3).2 h2, Option.bind_some, b1', Option.bind_some, gR_0_11 hC4, Option.bind_some, gR_0_16 hC4, Option.bind_some, gI_0 hC4, Option.bind_some, (IC_n b3).1, n_mul, c_leastReading g2 (by omega) (b5 _ a3) hw2, Option.bind_some, x_indexOf g2 (Or.inr (Or.inl rfl)) hC4 c1 (lrp_lt g2 hw2), Option.bind_some]
    exact x_gv b3 (Nat.le_succ _) (Rk_trans (Rk_trans (Rk_trans e3 k3) rk3) b4)
/-! find -/
def lt97 (b : Nat) : Nat := (b + (2 ^ 32 - 97)) % 2 ^ 32
theorem n_mod (a : Nat) : nI (a % 2 ^ 32) = nI a := n_ext fun i hi => by
  rw [n_b, Nat.testBit_mod_two_pow]; simp [hi]
theorem s_97 (b : Nat) : nI b - 97 = nI (lt97 b) := by
  unfold lt97
  rw [n_mod, ← n_add, Int32.sub_eq_add_neg, show (-97 : Int32) = nI (2 ^ 32 - 97) from by decide]
theorem copyL {g : Nat → Nat} (hg : ∀ b, nI b - 97 = nI (g b)) {T : List Nat} {m : Nat} {M : zM} (hC : zC M) (h : TpH T M) (hl : T.length ≤ 200) (hm : m ≤ T.length) (h14 : m ≤ 14) : ∃ M', fp_X7_copyLetters 1 (nI m) 45 M = some (1, M') ∧ Fc (fun a => a = 45) M M' ∧ AN M' 45 ((T.take m).map g) := by
  unfold fp_X7_copyLetters
  have L45 : zL M 45 = 14 := hC.2.2 (45, 14) (by decide +kernel)
  have ln45 : zln M 45 = some (nI 14) := by rw [← L45]; exact zln_ok (zC_lt hC (by decide)) (by decide) (by decide) rfl
  have hh : fp_X7_holds 1 (nI m) M = some 1 := by
    rw [c_holds hC h hl, decide_eq_true ⟨nI_pos (by omega), by rw [n_clamp (by omega)]; exact hm⟩]; rfl
  rw [ts_1 hC, hh, Option.bind_some, if_neg (show ¬ (1 : Int32) = 0 by decide), ln45, Option.bind_some, if_pos (by rw [n_le (by omega) (by omega)]; exact h14)]
  have key : ∀ d i f M1, i + d = m → d < f → Fc (fun a => a = 45) M M1 → (∀ j, j < i → zI M1 45 j = nI (g (T.getD j 0))) → ∃ M', fp_X7_copyLetters_L18 1 (nI m) 45 f (nI i) M1 = some (1, M') ∧ Fc (fun a => a = 45) M M' ∧ ∀ j, j < m → zI M' 45 j = nI (g (T.getD j 0)) := by
    intro d
    induction d with
    | zero =>
      intro i f M1 h1 h2 h3 h4
      obtain ⟨f, rfl⟩ : ∃ g, f = g + 1 := ⟨f - 1, by omega⟩
      have : i = m := by omega
      subst this
      exact ⟨M1, by rw [fp_X7_copyLetters_L18, stp], h3, h4⟩
    | succ d ih =>
      intro i f M1 h1 h2 h3 h4
      obtain ⟨f, rfl⟩ : ∃ g, f = g + 1 := ⟨f - 1, by omega⟩
      have hC1 := Fc_C h3 hC
      have L45' : zL M1 45 = 14 := by
        have : zL M1 = zL M := congrArg (fun x => x.2.2.1) h3.1
        rw [this, L45]
      rw [fp_X7_copyLetters_L18, go (show i < m by omega) (by omega), gR_1_0 hC1, Option.bind_some, lI_2 hC1 (by omega), Option.bind_some, Fc_I h3 (by decide), h.2 i (by omega), hg, ztI_ok (zC_lt hC1 (by decide)) rfl L45' (by omega) (by omega), Option.bind_some, inc]
      exact ih (i + 1) f _ (by omega) (by omega) (Fc_trans h3 (Fc_sI rfl)) fun j hj => by
        by_cases hji : j = i
        · rw [hji, zI_same]
        · rw [zI_other _ _ (Or.inr hji), h4 j (by omega)]
  obtain ⟨M', e1, e2, e3⟩ := key m 0 FU M (by omega) (FU_gt (by omega)) Fc_refl (fun j hj => by omega)
  have hC' := Fc_C e2 hC
  have L45' : zL M' 45 = 14 := by
    have : zL M' = zL M := congrArg (fun x => x.2.2.1) e2.1
    rw [this, L45]
  have hlen : ((T.take m).map g).length = m := by rw [List.length_map, List.length_take]; omega
  refine ⟨M', by rw [n_0]; exact e1, e2, zC_lt hC' (by decide), rfl, by omega, by omega, fun j hj => ?_⟩
  rw [hlen] at hj
  rw [e3 j hj]
  simp [List.getD, List.getElem?_map, List.getElem?_take, hj, show j < T.length by omega]
theorem c_copyLetters {T : List Nat} {m : Nat} {M : zM} (hC : zC M) (h : TpH T M) (hl : T.length ≤ 200) (hm : m ≤ T.length) (h14 : m ≤ 14) : ∃ M', fp_X7_copyLetters 1 (nI m) 45 M = some (1, M') ∧ Fc (fun a => a = 45) M M' ∧ AN M' 45 ((T.take m).map lt97) := copyL s_97 hC h hl hm h14
theorem lr_0 {M : zM} {w : List Nat} (h : w.length = 0) : fp_X5_leastReading 45 (nI 0) M = some (jI (lrp w)) := by
  have : w = [] := List.eq_nil_of_length_eq_zero h
  subst this
  have pl : ∀ f v, nI 0 ≤ v → fp_X5_placeOf_L11 45 (nI 0) 0 M (f + 1) v = some 0 := fun f v hv => by rw [fp_X5_placeOf_L11, if_pos hv]
  have pk : ∀ f s, fp_X5_pack_L9 45 (nI 0) s M (f + 1) 0 0 0 = some 0 := fun f s => by rw [fp_X5_pack_L9, if_pos (by decide)]
  have e1 : fp_X5_placeOf 45 (nI 0) 0 0 M = some 0 := by
    unfold fp_X5_placeOf
    rw [zjn_eq, if_pos (by decide)]
    exact pl 999999999 _ (by decide)
  have e2 : fp_X5_placeOf 45 (nI 0) 0 (0 + 1) M = some 0 := by
    unfold fp_X5_placeOf
    rw [zjn_eq, if_pos (by decide)]
    exact pl 999999999 _ (by decide)
  have e3 : ∀ s, fp_X5_pack 45 (nI 0) 0 s M = some 0 := fun s => by
    unfold fp_X5_pack
    exact pk 999999999 s
  unfold fp_X5_leastReading
  rw [e1, Option.bind_some, e2, Option.bind_some, e3, Option.bind_some, e3, Option.bind_some, lett_eq, Option.bind_some, Option.bind_some]
  decide +kernel
noncomputable def wdB (n : Nat) (w : List Nat) : Bool := @decide (WD n w) (Classical.propDecidable _)
theorem wdB_iff {n : Nat} {w : List Nat} : wdB n w = true ↔ WD n w := by
  unfold wdB
  exact @decide_eq_true_iff _ (Classical.propDecidable _)
theorem wdB_f {n : Nat} {w : List Nat} (h : ¬ WD n w) : wdB n w = false := by
  cases hb : wdB n w with
  | false => rfl
  | true => exact absurd (wdB_iff.mp hb) h
noncomputable def q_find (S : zSt) (v : Int32) : Int32 × zSt := match asN v ((sT S).length + 1) with
  | none => rf S 1
  | some m => if m = 2 * sN S then if wdB (sN S) (((sT S).take m).map lt97) = true then
        match ixO (sN S) (sL S) (lrp (((sT S).take m).map lt97)) with
        | none => rf S 6
        | some j => gv (tpS S []) (nI j)
      else rf S 6 else rf S 6
theorem x_find {S : zSt} {t : Nat} {M : zM} (h : IC S t M) (v : Int32) : CM t (q_find S v) (fp_X10_find 0 v M) M := by
  unfold fp_X10_find q_find
  have hC := IC_C h
  have g2 := (IC_n h).2
  rw [ts_0 hC, gR_0_4 hC, Option.bind_some, x_holds h, Option.bind_some]
  cases hv : asN v ((sT S).length + 1) with
  | none => rw [b_no, if_neg (show ¬ ((0 : Int32) ≠ 0) by decide)]; exact x_rf h (Nat.le_succ _) Rk_refl
  | some m =>
    obtain ⟨rfl, hm, hb⟩ := asN_some hv
    dsimp only
    rw [b_so, if_pos (show (1 : Int32) ≠ 0 by decide), gI_0 hC, Option.bind_some, (IC_n h).1, n_2, n_mul]
    by_cases c1 : m = 2 * sN S
    · obtain ⟨M1, e1, e2, e3⟩ := c_copyLetters hC h.2.2.1.2.2.2.2.1 h.1.2.1 (show m ≤ (sT S).length by omega) (by omega)
      have hI1 := IC_c h e2 (fun a q => by rw [q]; exact Or.inr (by decide))
      have hC1 := IC_C hI1
      have rk1 : Rk M M1 := Rk_k (Fk_of e2) (fun a h1 h2 q => by omega)
      obtain ⟨w, hw⟩ : ∃ w, w = ((sT S).take m).map lt97 := ⟨_, rfl⟩
      rw [← hw] at e3 ⊢
      have hlen : w.length = 2 * sN S := by rw [hw, List.length_map, List.length_take]; have := h.1.2.1; omega
      have h32 : ∀ y ∈ w, y < 2 ^ 32 := by
        intro y hy
        rw [hw] at hy
        obtain ⟨x, _, rfl⟩ := List.mem_map.mp hy
        exact Nat.mod_lt _ (by decide)
      rw [if_pos c1, if_neg (show ¬ nI m ≠ nI (2 * sN S) by rw [c1]; exact fun q => q rfl), Option.bind_some, gR_0_16 hC, Option.bind_some, e1, Option.bind_some]
      unfold zpp
      dsimp only
      rw [if_neg (show ¬ (1 : Int32) = 0 by decide), gR_0_16 hC1, Option.bind_some, gI_0 hC1, Option.bind_some, (IC_n hI1).1, c1, ← hlen]
      rcases c_isChordWord g2 e3 h32 hlen with ⟨z1, z2⟩ | ⟨z1, z2⟩
      · obtain ⟨r', M2, k1, k2, k3, k4, k5, k6⟩ := x_mall hI1
        have hC2 := IC_C k4
        have hL : fp_X5_leastReading 45 (nI w.length) M2 = some (jI (lrp w)) := by
          by_cases h0 : sN S = 0
          · rw [show w.length = 0 by omega]; exact lr_0 (by omega)
          · rw [hlen]; exact c_leastReading g2 (by omega) (k6 _ e3) z1
        rw [z2, Option.bind_some, if_pos (show (1 : Int32) ≠ 0 by decide), wdB_iff.mpr z1, if_pos rfl, gR_0_10 hC1, Option.bind_some, Option.bind_some, gI_0 hC1, Option.bind_some, (IC_L hI1).1, k1, Option.bind_some, gR_0_10 hC2, Option.bind_some, gR_0_16 hC2, Option.bind_some, hL, Option.bind_some, x_indexOf g2 (Or.inl rfl) hC2 k2 (lrp_lt g2 z1), Option.bind_some]
        unfold ixV
        cases hx : ixO (sN S) (sL S) (lrp w) with
        | none => dsimp only; rw [if_neg (show ¬ (-1 : Int32) ≥ 0 by decide)]; exact x_rf k4 (Nat.le_succ _) (Rk_trans rk1 k5)
        | some j =>
          have hj := ixO_lt hx
          have := Mods_len (L := sL S) g2
          dsimp only
          rw [if_pos (show nI j ≥ 0 by rw [n_0, ge_iff_le, n_le (by omega) (by omega)]; omega), gR_0_4 hC2, Option.bind_some, pI_1 hC2, Option.bind_some]
          have f1 : Fc at1 M2 (zsI M2 1 1 0) := Fc_sI (Or.inl rfl)
          have hI3 : IC (tpS S []) t (zsI M2 1 1 0) := IC_tp k4 f1 ⟨by rw [zI_same]; rfl, fun i hi => absurd hi (Nat.not_lt_zero _)⟩ (Nat.zero_le _) fun x hx => absurd hx List.not_mem_nil
          exact x_gv hI3 (Nat.le_succ _) (Rk_trans (Rk_trans rk1 k5) (Rk_1 f1))
      · rw [z2, Option.bind_some, if_neg (show ¬ ((0 : Int32) ≠ 0) by decide), wdB_f z1, if_neg Bool.false_ne_true]
        exact x_rf hI1 (Nat.le_succ _) rk1
    · rw [if_neg c1, if_pos (by rw [ne_eq, n_eq (by omega) (by omega)]; exact c1)]; exact x_rf h (Nat.le_succ _) Rk_refl

/-! ===== 79: the class: could, beside, obstructions, many; all its calls ===== -/
theorem tkL {l : List (List Nat)} {i : Nat} (h : i < l.length) : l.take (i + 1) = l.take i ++ [l.getD i []] := by
  rw [List.take_succ_eq_append_getElem h]; simp [List.getD, h]
noncomputable def q_beside (S : zSt) (a b : Int32) : Int32 × zSt := match tw S a b with
  | .inl k => rf S k
  | .inr q => gv S (nI ((mds S).countP fun w => besB w q.1 q.2))
theorem x_beside {S : zSt} {t : Nat} {M : zM} (h : IC S t M) (a b : Int32) : CM t (q_beside S a b) (fp_X10_beside 0 a b M) M := by
  unfold fp_X10_beside q_beside
  have hC := IC_C h
  obtain ⟨g1, g2⟩ := IC_n h
  obtain ⟨g3, g4⟩ := IC_L h
  have hlen : (mds S).length < 80000 := Mods_len g2
  rw [ts_0 hC, x_badCouple h, Option.bind_some]
  rcases tw_cases g2 a b with ⟨k, e, hk⟩ | ⟨x, y, e, rfl, rfl, hx, hy, hxy⟩
  · rw [e]; dsimp only; rw [if_neg hk]; exact x_rf h (Nat.le_succ _) Rk_refl
  · rw [e]
    dsimp only
    obtain ⟨r', M', e1, e2, e3, e4, e5, e6⟩ := x_mall h
    have hC' := IC_C e4
    rw [if_pos rfl, gR_0_10 hC, Option.bind_some, gI_0 hC, Option.bind_some, gI_0 hC, Option.bind_some, g1, g3, e1, Option.bind_some]
    have key : CM t (gv S (nI ((mds S).countP fun w => besB w x y))) (fp_X10_beside_L40 0 (nI x) (nI y) M' FU (nI (((mds S).take 0).countP fun w => besB w x y)) (nI 0)) M := by
      refine up (P := fun i f => CM t (gv S (nI ((mds S).countP fun w => besB w x y))) (fp_X10_beside_L40 0 (nI x) (nI y) M' f (nI (((mds S).take i).countP fun w => besB w x y)) (nI i)) M) (a := 0) (n := (mds S).length) ?_ ?_ FU (by omega) (FU_gt (by omega))
      · intro f
        rw [fp_X10_beside_L40, gR_0_10 hC', Option.bind_some, mo_g hC' (Or.inl rfl), Option.bind_some, e2.2.2.2.2.1, stp, List.take_length]
        exact x_gv e4 (Nat.le_succ _) e5
      · intro i f _ hi ih
        have hw := (mds_get hi).1.1
        rw [fp_X10_beside_L40, gR_0_10 hC', Option.bind_some, mo_g hC' (Or.inl rfl), Option.bind_some, e2.2.2.2.2.1, go hi (by omega), Option.bind_some, c_setsBeside (Or.inl rfl) hC' e2 hi rfl e3 g2 (by omega) hw.1 (WD7 g2 hw) (by omega) (by omega) hxy, Option.bind_some, zjn_eq]
        dsimp only
        rw [inc]
        rw [tkL hi, List.countP_append, List.countP_singleton] at ih
        cases hs : besB ((mds S).getD i []) x y with
        | false => rw [b_ff, if_pos rfl]; rw [hs, if_neg Bool.false_ne_true] at ih; exact ih
        | true => rw [b_tt, if_neg (show ¬ (1 : Int32) = 0 by decide), inc]; rw [hs, if_pos rfl] at ih; exact ih
    exact key
noncomputable def q_could (S : zSt) (v : Int32) : Int32 × zSt := match asN v (2 ^ sN S) with
  | none => rf S 1
  | some s => gv S (nI ((mds S).countP fun w => anyC w s))
/-- the stamps went on -/
theorem IC_stamp {S : zSt} {t r' st k : Nat} {M M1 : zM} (ho : okZ S) (hC : zC M) (hB : IB S M) (hT : TuO M) {r : Nat × Nat × Nat} (hI : IM r st t M) (hk : k ≤ 80000) (hr : zR M 23 1 = some r')
    (hf : Fc (atM 23) M M1) (h9 : ∀ k, k ≠ 9 → zI M1 23 k = zI M 23 k) (hs : StH 23 (st + k) M1) : IC S (t + 1) M1 := by
  have hF := Fk_of hf
  obtain ⟨a1, a2, a3, a4, a5, a6, a7, a8⟩ := hI
  refine ⟨ho, Fc_C hf hC, IB_k hF (fun a ha q => by rcases q with q | q <;> omega) hB, TuO_k hF (fun a h1 h2 q => by rcases q with q | q <;> omega) hT, r, st + k, ?_, MO_k (Or.inr (Or.inl rfl)) hF (by omega) a2, MO_k (Or.inr (Or.inr rfl)) hF (by omega) a3, a4, hs, by omega, ?_, ?_⟩
  · rcases a1 with ⟨h1, ws, h2⟩ | ⟨n, L, w, b1, b2, b3, q1, q2, q3, q4, q5⟩
    · exact Or.inl ⟨by rw [h9 2 (by decide)]; exact h1, ws, MW_frame h2 hf.1 (h9 0 (by decide))⟩
    · exact Or.inr ⟨n, L, w, b1, b2, b3, by rw [h9 2 (by decide)]; exact q1, by rw [h9 3 (by decide)]; exact q2, by rw [h9 4 (by decide)]; exact q3, by rw [h9 5 (by decide)]; exact q4, MW_frame q5 hf.1 (h9 0 (by decide))⟩
  · rw [hF.2.1, hF.2.2.1]; exact a7
  · rw [hF.2.1, hF.2.2.2.1]; exact a8
theorem x_could {S : zSt} {t : Nat} {M : zM} (h : IC S t M) (ht : t ≤ 1000) (v : Int32) : CM t (q_could S v) (fp_X10_could 0 v M) M := by
  unfold fp_X10_could q_could
  have hC := IC_C h
  obtain ⟨g1, g2⟩ := IC_n h
  obtain ⟨g3, g4⟩ := IC_L h
  have p2 := two_pow7 g2
  have hlen : (mds S).length < 80000 := Mods_len g2
  rw [ts_0 hC, x_hasSet h, Option.bind_some]
  cases hv : asN v (2 ^ sN S) with
  | none => rw [b_no, if_neg (show ¬ ((0 : Int32) ≠ 0) by decide)]; exact x_rf h (Nat.le_succ _) Rk_refl
  | some s =>
    obtain ⟨rfl, hs, hb⟩ := asN_some hv
    obtain ⟨r', M', e1, e2, e3, e4, e5, e6⟩ := x_mall h
    have hC' := IC_C e4
    have e4b := e4
    obtain ⟨o1, -, o3, o4, r, st, o5⟩ := e4b
    have hstl := o5.2.2.2.2.2.1
    rw [b_so, if_pos (show (1 : Int32) ≠ 0 by decide), gR_0_10 hC, Option.bind_some, gI_0 hC, Option.bind_some, gI_0 hC, Option.bind_some, g1, g3, e1, Option.bind_some]
    dsimp only
    have key : ∀ d i f M1, i + d = (mds S).length → d < f → Fc (atM 23) M' M1 → (∀ k, k ≠ 9 → zI M1 23 k = zI M' 23 k) → StH 23 (st + i) M1 → CM t (gv S (nI ((mds S).countP fun w => anyC w s))) (fp_X10_could_L35 0 (nI s) f (nI (((mds S).take i).countP fun w => anyC w s)) (nI i) M1) M := by
      intro d
      induction d with
      | zero =>
        intro i f M1 h1 h2 h3 h4 h5
        obtain ⟨f, rfl⟩ : ∃ g, f = g + 1 := ⟨f - 1, by omega⟩
        have hi : i = (mds S).length := by omega
        have hC1 := Fc_C h3 hC'
        have hIC := IC_stamp o1 hC' o3 o4 o5 (show i ≤ 80000 by omega) e2.1 h3 h4 h5
        rw [fp_X10_could_L35, gR_0_10 hC1, Option.bind_some, mo_g hC1 (Or.inl rfl), Option.bind_some, h4 0 (by decide), e2.2.2.2.2.1, hi, stp, List.take_length]
        exact x_gv hIC (Nat.le_refl _) (Rk_trans e5 (Rk_k (Fk_of h3) fun a a1 a2 q => by rcases q with q | q <;> omega))
      | succ d ih =>
        intro i f M1 h1 h2 h3 h4 h5
        obtain ⟨f, rfl⟩ : ∃ g, f = g + 1 := ⟨f - 1, by omega⟩
        have hi : i < (mds S).length := by omega
        have hC1 := Fc_C h3 hC'
        have hw := (mds_get hi).1.1
        have hW := MW_frame e2 h3.1 (h4 0 (by decide))
        obtain ⟨M2, k1, k2, k3, k4⟩ := c_letsIn (set := s) (Or.inl rfl) hC1 hW hi rfl (by rw [h4 4 (by decide)]; exact e3) g2 hw.1 (WD7 g2 hw) (by omega) h5 (by omega)
        rw [fp_X10_could_L35, gR_0_10 hC1, Option.bind_some, mo_g hC1 (Or.inl rfl), Option.bind_some, h4 0 (by decide), e2.2.2.2.2.1, go hi (by omega), Option.bind_some, k1, Option.bind_some]
        unfold zpp
        dsimp only
        rw [zjn_eq]
        dsimp only
        rw [inc]
        have ih' := ih (i + 1) f M2 (by omega) (by omega) (Fc_trans h3 k2) (fun k hk => (k3 k hk).trans (h4 k hk)) k4
        rw [tkL hi, List.countP_append, List.countP_singleton] at ih'
        cases hs : anyC ((mds S).getD i []) s with
        | false => rw [b_ff, if_pos rfl]; rw [hs, if_neg Bool.false_ne_true] at ih'; exact ih'
        | true => rw [b_tt, if_neg (show ¬ (1 : Int32) = 0 by decide), inc]; rw [hs, if_pos rfl] at ih'; exact ih'
    rw [n_0]
    exact key (mds S).length 0 FU M' (by omega) (FU_gt (by omega)) Fc_refl (fun _ _ => rfl) o5.2.2.2.2.1
/-! obstructions -/
noncomputable def hasM (n L s : Nat) : Bool := !(Mods (cnt s.testBit n) (part n L s)).isEmpty
theorem x_partHas {S : zSt} {t s : Nat} {M : zM} (h : IC S t M) (hs : s < 2 ^ sN S) : ∃ M', fp_X10_partHasModel 0 (nI s) M = some (bI (hasM (sN S) (sL S) s), M') ∧ IC S t M' ∧ Rk M M' := by
  unfold fp_X10_partHasModel
  have hC := IC_C h
  obtain ⟨g1, g2⟩ := IC_n h
  obtain ⟨g3, g4⟩ := IC_L h
  have h128 := lt128 g2 hs
  have hc := cnt_le s.testBit (sN S)
  obtain ⟨r', M', e1, e2, e3, e4, e5⟩ := x_gath (want := 1) h (show cnt s.testBit (sN S) < 8 by omega) (part_lt' (sN S) (sL S) s) (Or.inr (Or.inr rfl)) (by decide) (by decide)
  have hC' := IC_C e3
  refine ⟨M', ?_, e3, e4⟩
  have e1' : fp_X1_gather 33 (nI (cnt s.testBit (sN S))) (nI (part (sN S) (sL S) s)) 1 M = some M' := e1
  rw [ts_0 hC, gR_0_12 hC, Option.bind_some, c_bitCount (by omega), Option.bind_some, gI_0 hC, Option.bind_some, gI_0 hC, Option.bind_some, g1, g3, c_part g2 (by omega) g4, Option.bind_some, pc_of hs (by omega), e1', Option.bind_some, gR_0_12 hC', Option.bind_some, mo_g hC' (Or.inr (Or.inr rfl)), Option.bind_some, e2.2.2.2.2.2.2.2.2.1]
  unfold hasM
  cases hm : Mods (cnt s.testBit (sN S)) (part (sN S) (sL S) s) with
  | nil => rw [if_pos (by decide)]; rfl
  | cons a l => rw [if_neg (show ¬ nI ((a :: l).take 1).length ≤ 0 from (by decide : ¬ nI 1 ≤ 0))]; rfl
/-- the least part of so many points that has none -/
noncomputable def obK (n L k : Nat) : Option Nat := (List.range (2 ^ n)).find? fun s => pc s == k && !hasM n L s
noncomputable def obF (n L : Nat) : Nat → Nat → Option Nat
  | 0, _ => none
  | d + 1, k => match obK n L k with
    | some s => some s
    | none => obF n L d (k + 1)
noncomputable def obs (n L : Nat) : Option Nat := if hasM n L (1 <<< n - 1) = true then none else obF n L n 1
noncomputable def q_obstruction (S : zSt) : Int32 × zSt := match obs (sN S) (sL S) with
  | none => rf S 6
  | some s => gv S (nI s)
noncomputable def q_obstructions (S : zSt) : Int32 × zSt := match obs (sN S) (sL S) with
  | none => rf S 6
  | some s => gv S (nI ((List.range (2 ^ sN S)).countP fun x => pc x == pc s && !hasM (sN S) (sL S) x))
theorem obK_some {n L k s : Nat} (h : obK n L k = some s) : s < 2 ^ n ∧ pc s = k ∧ hasM n L s = false ∧ ∀ x, x < s → (pc x == k && !hasM n L x) = false := by
  unfold obK at h
  rw [List.find?_range_eq_some] at h
  obtain ⟨h1, h2, h3⟩ := h
  rw [Bool.and_eq_true, beq_iff_eq] at h1
  refine ⟨List.mem_range.mp h2, h1.1, by simpa using h1.2, fun x hx => ?_⟩
  exact (Bool.not_eq_true' _).mp (h3 x hx)
theorem obK_none {n L k : Nat} (h : ∀ x, x < 2 ^ n → (pc x == k && !hasM n L x) = false) : obK n L k = none := by
  unfold obK
  rw [List.find?_eq_none]
  intro x hx
  rw [h x (List.mem_range.mp hx)]; decide
theorem obK_of {n L k s : Nat} (hs : s < 2 ^ n) (h1 : (pc s == k && !hasM n L s) = true) (h2 : ∀ x, x < s → (pc x == k && !hasM n L x) = false) : obK n L k = some s := by
  unfold obK
  rw [List.find?_range_eq_some]
  exact ⟨h1, List.mem_range.mpr hs, fun x hx => by rw [h2 x hx]; rfl⟩
theorem obF_some {n L d k s : Nat} (h : obF n L d k = some s) : ∃ k', obK n L k' = some s := by
  induction d generalizing k with
  | zero => cases h
  | succ d ih =>
    rw [obF] at h
    cases hk : obK n L k with
    | some x => rw [hk] at h; cases h; exact ⟨k, hk⟩
    | none => rw [hk] at h; exact ih h
theorem obs_some {n L s : Nat} (h : obs n L = some s) : ∃ k', obK n L k' = some s := by
  unfold obs at h
  split at h
  · cases h
  · exact obF_some h
theorem pc_0 : pc 0 = 0 := by decide
theorem all_lt (n : Nat) : 1 <<< n - 1 < 2 ^ n := by rw [all_eq]; have := Nat.two_pow_pos n; omega
theorem x_findOb {S : zSt} {t : Nat} {M : zM} (h : IC S t M) : ∃ M', fp_X10_findObstruction 0 M = some ((match obs (sN S) (sL S) with | none => -1 | some s => nI s), M') ∧ IC S t M' ∧ Rk M M' := by
  unfold fp_X10_findObstruction obs
  have hC := IC_C h
  obtain ⟨g1, g2⟩ := IC_n h
  have p2 := two_pow7 g2
  obtain ⟨M1, e1, e2, e3⟩ := x_partHas h (all_lt (sN S))
  rw [ts_0 hC, gI_0 hC, Option.bind_some, g1, c_everyPoint _ (by omega), Option.bind_some, e1, Option.bind_some]
  unfold zpp
  dsimp only
  cases hall : hasM (sN S) (sL S) (1 <<< sN S - 1) with
  | true => rw [b_tt, if_neg (show ¬ (1 : Int32) = 0 by decide)]; exact ⟨M1, rfl, e2, e3⟩
  | false =>
    rw [b_ff, if_pos rfl, if_neg Bool.false_ne_true]
    -- the sets of one size
    have inner : ∀ (K : zM → Option (Int32 × zM)) k, 0 < k → k < 100 → ∀ d s f M2, s + d = 2 ^ sN S → d < f → IC S t M2 → Rk M M2 → (∀ x, x < s → (pc x == k && !hasM (sN S) (sL S) x) = false) →
        ∃ M', IC S t M' ∧ Rk M M' ∧ fp_X10_findObstruction_L28 K 0 (nI k) f (nI s) M2 = match obK (sN S) (sL S) k with | some s' => some (nI s', M') | none => K M' := by
      intro K k hk hk2 d
      induction d with
      | zero =>
        intro s f M2 h1 h2 h3 h4 h5
        obtain ⟨f, rfl⟩ : ∃ g, f = g + 1 := ⟨f - 1, by omega⟩
        have hs : s = 2 ^ sN S := by omega
        refine ⟨M2, h3, h4, ?_⟩
        rw [fp_X10_findObstruction_L28, gI_0 (IC_C h3), Option.bind_some, (IC_n h3).1, pow_n _ (by omega), hs, stp, obK_none (by rw [← hs]; exact h5)]
      | succ d ih =>
        intro s f M2 h1 h2 h3 h4 h5
        obtain ⟨f, rfl⟩ : ∃ g, f = g + 1 := ⟨f - 1, by omega⟩
        have hs : s < 2 ^ sN S := by omega
        have hpc := pc_n g2 hs
        have next : ∀ M3, IC S t M3 → Rk M M3 → (pc s == k && !hasM (sN S) (sL S) s) = false → ∃ M', IC S t M' ∧ Rk M M' ∧ fp_X10_findObstruction_L28 K 0 (nI k) f (nI s + 1) M3 = match obK (sN S) (sL S) k with | some s' => some (nI s', M') | none => K M' := by
          intro M3 a1 a2 a3
          rw [inc]
          exact ih (s + 1) f M3 (by omega) (by omega) a1 a2 fun x hx => by
            by_cases hxs : x = s
            · rw [hxs]; exact a3
            · exact h5 x (by omega)
        rw [fp_X10_findObstruction_L28, gI_0 (IC_C h3), Option.bind_some, (IC_n h3).1, pow_n _ (by omega), go hs (by omega), c_bitCount (by omega), Option.bind_some, zjn_eq]
        dsimp only
        by_cases hk3 : pc s = k
        · obtain ⟨M3, b1, b2, b3⟩ := x_partHas h3 hs
          rw [if_neg (by rw [hk3]; exact fun q => q rfl), b1, Option.bind_some]
          unfold zpp
          dsimp only
          cases hm : hasM (sN S) (sL S) s with
          | true => rw [b_tt, if_pos (show (1 : Int32) ≠ 0 by decide)]; exact next M3 b2 (Rk_trans h4 b3) (by rw [hm]; simp)
          | false =>
            rw [b_ff, if_neg (show ¬ ((0 : Int32) ≠ 0) by decide)]
            refine ⟨M3, b2, Rk_trans h4 b3, ?_⟩
            rw [obK_of hs (by rw [hk3, hm]; simp) h5]
        · rw [if_pos (by rw [ne_eq, n_eq (by omega) (by omega)]; exact hk3)]
          exact next M2 h3 h4 (by simp [hk3])
    have outer : ∀ d k f M2, k + d = sN S + 1 → 0 < k → d < f → IC S t M2 → Rk M M2 → ∃ M', fp_X10_findObstruction_L18 0 f (nI k) M2 = some ((match obF (sN S) (sL S) d k with | none => -1 | some s => nI s), M') ∧ IC S t M' ∧ Rk M M' := by
      intro d
      induction d with
      | zero =>
        intro k f M2 h1 h2 h3 h4 h5
        obtain ⟨f, rfl⟩ : ∃ g, f = g + 1 := ⟨f - 1, by omega⟩
        exact ⟨M2, by rw [fp_X10_findObstruction_L18, gI_0 (IC_C h4), Option.bind_some, (IC_n h4).1, if_pos (by rw [gt_iff_lt, n_lt (by omega) (by omega)]; omega)]; rfl, h4, h5⟩
      | succ d ih =>
        intro k f M2 h1 h2 h3 h4 h5
        obtain ⟨f, rfl⟩ : ∃ g, f = g + 1 := ⟨f - 1, by omega⟩
        rw [fp_X10_findObstruction_L18, gI_0 (IC_C h4), Option.bind_some, (IC_n h4).1, if_neg (by rw [gt_iff_lt, n_lt (by omega) (by omega)]; omega), n_1, n_add]
        have hpos := Nat.two_pow_pos (sN S)
        obtain ⟨M3, a1, a2, a3⟩ := inner (fun M13 => fp_X10_findObstruction_L18 0 f (nI (k + 1)) M13) k h2 (by omega) (2 ^ sN S - 1) 1 FU M2 (by omega) (FU_gt (by omega)) h4 h5 (fun x hx => by
          have : x = 0 := by omega
          subst this
          rw [pc_0]
          have : (0 == k) = false := by rw [beq_eq_false_iff_ne]; omega
          rw [this]; rfl)
        rw [a3, obF]
        cases hk : obK (sN S) (sL S) k with
        | some s => exact ⟨M3, rfl, a1, a2⟩
        | none => exact ih (k + 1) f M3 (by omega) (by omega) (by omega) a1 a2
    rw [n_1]
    exact outer (sN S) 1 FU M1 (by omega) (by decide) (FU_gt (by omega)) e2 e3
theorem x_obstruction {S : zSt} {t : Nat} {M : zM} (h : IC S t M) : CM t (q_obstruction S) (fp_X10_obstruction 0 M) M := by
  unfold fp_X10_obstruction q_obstruction
  have g2 := (IC_n h).2
  have p2 := two_pow7 g2
  obtain ⟨M', e1, e2, e3⟩ := x_findOb h
  rw [ts_0 (IC_C h), e1, Option.bind_some]
  unfold zpp
  dsimp only
  cases ho : obs (sN S) (sL S) with
  | none => dsimp only; rw [if_neg (show ¬ (-1 : Int32) ≥ 0 by decide)]; exact x_rf e2 (Nat.le_succ _) e3
  | some s =>
    obtain ⟨k, hk⟩ := obs_some ho
    have hs := (obK_some hk).1
    dsimp only
    rw [if_pos (by rw [n_0, ge_iff_le, n_le (by omega) (by omega)]; omega)]
    exact x_gv e2 (Nat.le_succ _) e3
theorem range_cnt (f : Nat → Bool) (s n : Nat) (h : ∀ x, x < s → f x = false) (hs : s ≤ n) : ((List.range s).countP f) = 0 := by
  rw [List.countP_eq_zero]
  intro x hx
  rw [h x (List.mem_range.mp hx)]; decide
theorem x_obstructions {S : zSt} {t : Nat} {M : zM} (h : IC S t M) : CM t (q_obstructions S) (fp_X10_obstructions 0 M) M := by
  unfold fp_X10_obstructions q_obstructions
  have g2 := (IC_n h).2
  have p2 := two_pow7 g2
  obtain ⟨M', e1, e2, e3⟩ := x_findOb h
  rw [ts_0 (IC_C h), e1, Option.bind_some]
  unfold zpp
  dsimp only
  cases ho : obs (sN S) (sL S) with
  | none => dsimp only; rw [if_neg (show ¬ (-1 : Int32) ≥ 0 by decide)]; exact x_rf e2 (Nat.le_succ _) e3
  | some s =>
    obtain ⟨k, hk⟩ := obs_some ho
    obtain ⟨hs, hpk, hsm, hlow⟩ := obK_some hk
    dsimp only
    rw [if_pos (by rw [n_0, ge_iff_le, n_le (by omega) (by omega)]; omega)]
    let F : Nat → Bool := fun x => pc x == pc s && !hasM (sN S) (sL S) x
    have hle : ∀ x, (List.range x).countP F ≤ x := fun x => by have := List.countP_le_length (p := F) (l := List.range x); simpa using this
    have hps := pc_n g2 hs
    have key : ∀ d x f M1, x + d = 2 ^ sN S → d < f → IC S t M1 → Rk M M1 → CM t (gv S (nI ((List.range (2 ^ sN S)).countP F))) (fp_X10_obstructions_L20 0 (nI s) f (nI ((List.range x).countP F)) (nI x) M1) M := by
      intro d
      induction d with
      | zero =>
        intro x f M1 h1 h2 h3 h4
        obtain ⟨f, rfl⟩ : ∃ g, f = g + 1 := ⟨f - 1, by omega⟩
        have : x = 2 ^ sN S := by omega
        rw [fp_X10_obstructions_L20, gI_0 (IC_C h3), Option.bind_some, (IC_n h3).1, pow_n _ (by omega), this, stp]
        exact x_gv h3 (Nat.le_succ _) h4
      | succ d ih =>
        intro x f M1 h1 h2 h3 h4
        obtain ⟨f, rfl⟩ : ∃ g, f = g + 1 := ⟨f - 1, by omega⟩
        have hx : x < 2 ^ sN S := by omega
        have hpx := pc_n g2 hx
        have next : ∀ M2 b, IC S t M2 → Rk M M2 → F x = b → CM t (gv S (nI ((List.range (2 ^ sN S)).countP F))) (fp_X10_obstructions_L20 0 (nI s) f (nI ((List.range x).countP F + b.toNat)) (nI x + 1) M2) M := by
          intro M2 b a1 a2 a3
          have := ih (x + 1) f M2 (by omega) (by omega) a1 a2
          rw [List.range_succ, List.countP_append, List.countP_singleton, a3] at this
          rw [inc]
          cases b
          · exact this
          · exact this
        rw [fp_X10_obstructions_L20, gI_0 (IC_C h3), Option.bind_some, (IC_n h3).1, pow_n _ (by omega), go hx (by omega), c_bitCount (by omega), Option.bind_some, c_bitCount (by omega), Option.bind_some, zjn_eq]
        dsimp only
        by_cases c : pc x = pc s
        · obtain ⟨M2, b1, b2, b3⟩ := x_partHas h3 hx
          rw [if_neg (by rw [c]; exact fun q => q rfl), b1, Option.bind_some]
          unfold zpp
          dsimp only
          cases hm : hasM (sN S) (sL S) x with
          | true =>
            rw [b_tt, if_pos (show (1 : Int32) ≠ 0 by decide)]
            exact next M2 false b2 (Rk_trans h4 b3) (by show (pc x == pc s && !hasM (sN S) (sL S) x) = false; rw [hm]; simp)
          | false =>
            rw [b_ff, if_neg (show ¬ ((0 : Int32) ≠ 0) by decide), inc]
            exact next M2 true b2 (Rk_trans h4 b3) (by show (pc x == pc s && !hasM (sN S) (sL S) x) = true; rw [hm, c]; simp)
        · rw [if_pos (by rw [ne_eq, n_eq (by omega) (by omega)]; exact c)]
          exact next M1 false h3 h4 (by show (pc x == pc s && !hasM (sN S) (sL S) x) = false; simp [c])
    have h0 := range_cnt F s (2 ^ sN S) (fun x hx => by rw [← hpk] at hlow; exact hlow x hx) (by omega)
    have := key (2 ^ sN S - s) s FU M' (by omega) (FU_gt (by omega)) e2 e3
    rw [h0] at this
    exact this
/-! many -/
noncomputable def mny (S : zSt) (w : Nat) : Nat :=
  if w = 0 then sN S else if w = 1 then pc (sL S) else if w = 2 then nsets (sN S) (sL S) else if w = 3 then (sA S).length else if w = 4 then (spls (sN S) (sL S)).length
  else if w = 5 then (pcs (sN S) (sL S)).length else if w = 6 then (mds S).length else (Tl (sN S) (sL S)).length
noncomputable def q_many (S : zSt) (v : Int32) : Int32 × zSt := match asN v 8 with
  | none => rf S 1
  | some w => gv S (nI (mny S w))
theorem x_many {S : zSt} {t : Nat} {M : zM} (h : IC S t M) (v : Int32) : CM t (q_many S v) (fp_X10_many 0 v M) M := by
  unfold fp_X10_many q_many
  have hC := IC_C h
  obtain ⟨g1, g2⟩ := IC_n h
  obtain ⟨g3, g4⟩ := IC_L h
  rw [ts_0 hC, show (7 : Int32) = nI 7 from by decide, x_what (by decide)]
  cases hv : asN v (7 + 1) with
  | none => exact x_rf h (Nat.le_succ _) Rk_refl
  | some w =>
    obtain ⟨rfl, hw, hb⟩ := asN_some hv
    dsimp only
    have ne : ∀ a, a < 8 → w ≠ a → ¬ nI w = nI a := fun a ha hwa => by rw [n_eq hb (by omega)]; exact hwa
    rw [gI_0 hC, Option.bind_some, gI_0 hC, Option.bind_some, g1, g3]
    unfold mny
    have w8 : w = 0 ∨ w = 1 ∨ w = 2 ∨ w = 3 ∨ w = 4 ∨ w = 5 ∨ w = 6 ∨ w = 7 := by omega
    rcases w8 with rfl | rfl | rfl | rfl | rfl | rfl | rfl | rfl
    · rw [if_pos (show nI 0 = 0 by decide)]; exact x_gv h (Nat.le_succ _) Rk_refl
    · rw [if_neg (show ¬ nI 1 = 0 by decide), if_pos (show nI 1 = 1 by decide), c_bitCount (lt21 g2 g4), Option.bind_some]; exact x_gv h (Nat.le_succ _) Rk_refl
    · rw [if_neg (show ¬ nI 2 = 0 by decide), if_neg (show ¬ nI 2 = 1 by decide), if_pos (show nI 2 = 2 by decide), Option.bind_some, Option.bind_some, c_joinedSets g2 g4, Option.bind_some]; exact x_gv h (Nat.le_succ _) Rk_refl
    · rw [if_neg (show ¬ nI 3 = 0 by decide), if_neg (show ¬ nI 3 = 1 by decide), if_neg (show ¬ nI 3 = 2 by decide), if_pos (show nI 3 = 3 by decide), gR_0_6 hC, Option.bind_some, gI_6 hC, Option.bind_some, h.2.2.1.2.2.2.2.2.1.1]; exact x_gv h (Nat.le_succ _) Rk_refl
    · obtain ⟨M', e1, e2, e3, e4⟩ := x_sgather h
      have hC' := IC_C e2
      rw [if_neg (show ¬ nI 4 = 0 by decide), if_neg (show ¬ nI 4 = 1 by decide), if_neg (show ¬ nI 4 = 2 by decide), if_neg (show ¬ nI 4 = 3 by decide), if_pos (show nI 4 = 4 by decide), gR_0_8 hC, Option.bind_some, Option.bind_some, Option.bind_some, e1, Option.bind_some, gR_0_8 hC', Option.bind_some, gI_9 hC', Option.bind_some, e4.1]
      exact x_gv e2 (Nat.le_succ _) e3
    · obtain ⟨M', mk', e1, e2, e3, e4⟩ := x_pgather h
      have hC' := IC_C e2
      rw [if_neg (show ¬ nI 5 = 0 by decide), if_neg (show ¬ nI 5 = 1 by decide), if_neg (show ¬ nI 5 = 2 by decide), if_neg (show ¬ nI 5 = 3 by decide), if_neg (show ¬ nI 5 = 4 by decide), if_pos (show nI 5 = 5 by decide), gR_0_9 hC, Option.bind_some, Option.bind_some, Option.bind_some, e1, Option.bind_some, gR_0_9 hC', Option.bind_some, gI_11 hC', Option.bind_some, e4.1]
      exact x_gv e2 (Nat.le_succ _) e3
    · obtain ⟨r', M', e1, e2, e3, e4, e5, e6⟩ := x_mall h
      have hC' := IC_C e4
      rw [if_neg (show ¬ nI 6 = 0 by decide), if_neg (show ¬ nI 6 = 1 by decide), if_neg (show ¬ nI 6 = 2 by decide), if_neg (show ¬ nI 6 = 3 by decide), if_neg (show ¬ nI 6 = 4 by decide), if_neg (show ¬ nI 6 = 5 by decide), if_pos (show nI 6 = 6 by decide), gR_0_10 hC, Option.bind_some, Option.bind_some, Option.bind_some, e1, Option.bind_some, gR_0_10 hC', Option.bind_some, mo_g hC' (Or.inl rfl), Option.bind_some, e2.2.2.2.2.1]
      exact x_gv e4 (Nat.le_succ _) e5
    · obtain ⟨M', e1, e2, e3, e4⟩ := x_tgather h
      have hC' := IC_C e2
      rw [if_neg (show ¬ nI 7 = 0 by decide), if_neg (show ¬ nI 7 = 1 by decide), if_neg (show ¬ nI 7 = 2 by decide), if_neg (show ¬ nI 7 = 3 by decide), if_neg (show ¬ nI 7 = 4 by decide), if_neg (show ¬ nI 7 = 5 by decide), if_neg (show ¬ nI 7 = 6 by decide), gR_0_13 hC, Option.bind_some, Option.bind_some, Option.bind_some, e1, Option.bind_some, gR_0_13 hC', Option.bind_some, gI_38 hC', Option.bind_some, e4.2.2.1]
      exact x_gv e2 (Nat.le_succ _) e3

/-! ===== 96b: the reference: obstructions (the calls) ===== -/
def fstI (o : Option Nat) : Int32 := match o with | none => -1 | some s => nI s
noncomputable def obP (n L k x : Nat) : Bool := pc x == k && !hasM n L x
noncomputable def obN (n L k x : Nat) : Nat := (List.range x).countP (obP n L k)
noncomputable def ob1 (n L k x : Nat) : Option Nat := (List.range x).find? (obP n L k)
theorem obN_s (n L k x : Nat) : obN n L k (x + 1) = obN n L k x + (obP n L k x).toNat := by
  unfold obN
  rw [List.range_succ, List.countP_append, List.countP_singleton]
  cases obP n L k x <;> rfl
theorem ob1_s (n L k x : Nat) : ob1 n L k (x + 1) = match ob1 n L k x with | some s => some s | none => if obP n L k x = true then some x else none := by
  unfold ob1
  rw [List.range_succ, List.find?_append]
  cases (List.range x).find? (obP n L k) with
  | some s => rfl
  | none =>
    rw [List.find?_singleton]
    rfl
theorem ob1_lt {n L k x s : Nat} (h : ob1 n L k x = some s) : s < x := by
  unfold ob1 at h
  rw [List.find?_range_eq_some] at h
  exact List.mem_range.mp h.2.1
theorem obK_1 (n L k : Nat) : obK n L k = ob1 n L k (2 ^ n) := rfl
abbrev atO : Nat → Nat → Prop := fun a k => atH a k ∨ (a = 46 ∧ k = 46)
theorem obN_le (n L k x : Nat) : obN n L k x ≤ x := by
  unfold obN
  have := List.countP_le_length (p := obP n L k) (l := List.range x)
  rw [List.length_range] at this
  exact this
theorem y_obSize {n L k : Nat} {M : zM} (K : Int32 → zM → Option (Int32 × zM)) (hn : n < 8) (hL : L < 2 ^ tri n) (hk : k < 100) (hC : zC M) (hN : NrH n L M) (h0 : zI M 46 46 = nI 0) :
    ∃ M', fp_X11_laysObstruction_L24 K 46 (nI k) FU (-1) 0 M = K (fstI (obK n L k)) M' ∧ Fz atO M M' ∧ NrH n L M' ∧ zI M' 46 46 = nI (obN n L k (2 ^ n)) := by
  have p2 := two_pow7 hn
  have hpos := Nat.two_pow_pos n
  have st0 : (-1 : Int32) = fstI (ob1 n L k 0) := rfl
  rw [st0, n_0]
  refine up (P := fun x f => ∀ M1, Fz atO M M1 → NrH n L M1 → zI M1 46 46 = nI (obN n L k x) → ∃ M', fp_X11_laysObstruction_L24 K 46 (nI k) f (fstI (ob1 n L k x)) (nI x) M1 = K (fstI (obK n L k)) M' ∧ Fz atO M M' ∧ NrH n L M' ∧ zI M' 46 46 = nI (obN n L k (2 ^ n))) (a := 0) (n := 2 ^ n) ?_ ?_ FU (by omega) (FU_gt (by omega)) M Fz_refl hN h0
  · intro f M1 f1 f2 f3
    have hC1 := Fz_C f1 hC
    refine ⟨M1, ?_, f1, f2, f3⟩
    rw [fp_X11_laysObstruction_L24, y_all hC1 hn f2, Option.bind_some, all_eq, if_pos (show nI (2 ^ n) > nI (2 ^ n - 1) by rw [gt_iff_lt, n_lt (by omega) (by omega)]; omega), obK_1]
  · intro x f _ hx ih M1 f1 f2 f3
    have hC1 := Fz_C f1 hC
    have hpx := pc_n hn hx
    have hcn := obN_le n L k x
    rw [fp_X11_laysObstruction_L24, y_all hC1 hn f2, Option.bind_some, all_eq, if_neg (show ¬ nI x > nI (2 ^ n - 1) by rw [gt_iff_lt, n_lt (by omega) (by omega)]; omega), y_bits (by omega), Option.bind_some, zjn_eq]
    -- not this one
    have no : ∀ M2, Fz atO M M2 → NrH n L M2 → zI M2 46 46 = nI (obN n L k x) → obP n L k x = false → ∃ M', fp_X11_laysObstruction_L24 K 46 (nI k) f (fstI (ob1 n L k x)) (nI x + 1) M2 = K (fstI (obK n L k)) M' ∧ Fz atO M M' ∧ NrH n L M' ∧ zI M' 46 46 = nI (obN n L k (2 ^ n)) := by
      intro M2 g1 g2 g3 hb
      have e1 : ob1 n L k (x + 1) = ob1 n L k x := by
        rw [ob1_s, hb]
        cases ob1 n L k x <;> rfl
      have e2 : obN n L k (x + 1) = obN n L k x := by rw [obN_s, hb]; rfl
      have := ih M2 g1 g2 (by rw [e2]; exact g3)
      rw [e1] at this
      rw [inc]; exact this
    by_cases hc : pc x = k
    · obtain ⟨M2, a1, a2, a3⟩ := y_hasModel hC1 f2 hn hL hx
      have hC2 := Fz_C a2 hC1
      have g1 : Fz atO M M2 := Fz_trans f1 (Fz_mono a2 fun a k q => Or.inl q)
      have g3 : zI M2 46 46 = nI (obN n L k x) := (a2.2 _ _ (by omega)).trans f3
      rw [if_neg (show ¬ nI (pc x) ≠ nI k by rw [hc]; exact fun z => z rfl), a1, Option.bind_some, zpp_mk]
      cases hm : hasM n L x with
      | true =>
        rw [b_tt, if_neg (show ¬ (1 : Int32) = 0 by decide)]
        exact no M2 g1 a3 g3 (by unfold obP; rw [hm, Bool.not_true, Bool.and_false])
      | false =>
        have hb : obP n L k x = true := by unfold obP; rw [hm, hc, beq_self_eq_true]; rfl
        have e2 : obN n L k (x + 1) = obN n L k x + 1 := by rw [obN_s, hb]; rfl
        have h46 : Fz atO M (zsI M2 46 46 (nI (obN n L k x + 1))) := Fz_trans g1 (Fz_sI (Or.inr ⟨rfl, rfl⟩))
        have hN4 : NrH n L (zsI M2 46 46 (nI (obN n L k x + 1))) := NrH_z (P := fun a k => a = 46 ∧ k = 46) a3 (Fz_sI ⟨rfl, rfl⟩) (by omega) (fun k => by omega)
        have nxt := ih _ h46 hN4 (by rw [zI_same, e2])
        rw [ob1_s, hb, if_pos rfl] at nxt
        rw [b_ff, if_pos rfl, zjn_eq]
        cases ho : ob1 n L k x with
        | some s =>
          rw [ho] at nxt
          have hsx := ob1_lt ho
          rw [if_pos (show fstI (some s) ≠ -1 by show nI s ≠ -1; rw [ne_eq, n_neg (by omega)]; exact id)]
          dsimp only
          rw [gI_46 hC2, Option.bind_some, g3, inc, pI_46 hC2, Option.bind_some, inc]
          exact nxt
        | none =>
          rw [ho] at nxt
          rw [if_neg (show ¬ fstI none ≠ -1 from fun z => z rfl)]
          dsimp only
          rw [gI_46 hC2, Option.bind_some, g3, inc, pI_46 hC2, Option.bind_some, inc]
          exact nxt
    · rw [if_pos (show nI (pc x) ≠ nI k by rw [ne_eq, n_eq (by omega) (by omega)]; exact hc)]
      have e : (pc x == k) = false := by simpa using hc
      exact no M1 f1 f2 f3 (by unfold obP; rw [e, Bool.false_and])
theorem obN_none {n L k : Nat} (h : obK n L k = none) : obN n L k (2 ^ n) = 0 := by
  unfold obN
  rw [List.countP_eq_zero]
  intro x hx
  unfold obK at h
  rw [List.find?_eq_none] at h
  exact h x hx
theorem y_laysOb {S : zSt} {M : zM} (h : IR S M) : ∃ M', fp_X11_laysObstruction 46 M = some (fstI (obs (sN S) (sL S)), M') ∧ IR S M' ∧ Fc atR M M' ∧ ∀ s, obs (sN S) (sL S) = some s → zI M' 46 46 = nI (obN (sN S) (sL S) (pc s) (2 ^ sN S)) := by
  unfold fp_X11_laysObstruction
  have hC := IR_C h
  have g2 := (IR_n h).2
  have hL := IR_L h
  have p2 := two_pow7 g2
  rw [ts_46 hC, pI_46 hC, Option.bind_some, obs_eq g2 hL]
  have fin : ∀ M1, Fz atO M M1 → NrH (sN S) (sL S) M1 → IR S M1 ∧ Fc atR M M1 := by
    intro M1 f1 f2
    refine ⟨?_, Fz_c f1 fun a k q => by show 46 ≤ a ∧ a < 72; rcases q with q | q <;> omega⟩
    obtain ⟨h1, h2, h3, h4, h5, h6, h7, h8⟩ := h
    exact ⟨h1, Fz_C f1 h2, f2, (f1.2 _ _ (by omega)).trans h4, ⟨(f1.2 _ _ (by omega)).trans h5.1, fun i hi => (f1.2 _ _ (by omega)).trans (h5.2 i hi)⟩, flR_z h6 f1 (by omega) (by omega), ⟨(f1.2 _ _ (by omega)).trans h7.1, fun i hi => NtH_z (h7.2 i hi) f1 (fun k => by omega)⟩, fun k hk => imR_z (h8 k hk) f1 (fun k => by omega) (fun k => by omega)⟩
  have loop : ∀ d k f M1, k + d = sN S + 1 → 0 < k → d + 2 < f → Fz atO M M1 → NrH (sN S) (sL S) M1 → zI M1 46 46 = nI 0 → ∃ M', fp_X11_laysObstruction_L9 46 f (-1) (nI k) M1 = some (fstI (obF (sN S) (sL S) d k), M') ∧ Fz atO M M' ∧ NrH (sN S) (sL S) M' ∧ ∀ s, obF (sN S) (sL S) d k = some s → zI M' 46 46 = nI (obN (sN S) (sL S) (pc s) (2 ^ sN S)) := by
    intro d
    induction d with
    | zero =>
      intro k f M1 h1 h2 h3 h4 h5 h6
      obtain ⟨f, rfl⟩ : ∃ g, f = g + 1 := ⟨f - 1, by omega⟩
      have hC1 := Fz_C h4 hC
      exact ⟨M1, by rw [fp_X11_laysObstruction_L9, gI_46 hC1 0, Option.bind_some, h5.1, if_pos (show nI k > nI (sN S) by rw [gt_iff_lt, n_lt (by omega) (by omega)]; omega)]; rfl, h4, h5, fun s q => by cases q⟩
    | succ d ih =>
      intro k f M1 h1 h2 h3 h4 h5 h6
      obtain ⟨f, rfl⟩ : ∃ g, f = g + 1 := ⟨f - 1, by omega⟩
      have hC1 := Fz_C h4 hC
      obtain ⟨M2, a1, a2, a3, a4⟩ := y_obSize (k := k) (fun v1_13 M14 => fp_X11_laysObstruction_L9 46 f v1_13 (nI k + 1) M14) g2 hL (by omega) hC1 h5 h6
      have f2 := Fz_trans h4 a2
      have hC2 := Fz_C f2 hC
      rw [fp_X11_laysObstruction_L9, gI_46 hC1 0, Option.bind_some, h5.1, if_neg (show ¬ nI k > nI (sN S) by rw [gt_iff_lt, n_lt (by omega) (by omega)]; omega), if_neg (show ¬ (-1 : Int32) ≠ -1 from fun z => z rfl), a1, inc, obF]
      cases ho : obK (sN S) (sL S) k with
      | none =>
        rw [obN_none ho] at a4
        exact ih (k + 1) f M2 (by omega) (by omega) (by omega) f2 a3 a4
      | some s =>
        obtain ⟨s1, s2, -⟩ := obK_some ho
        obtain ⟨f, rfl⟩ : ∃ g, f = g + 1 := ⟨f - 1, by omega⟩
        refine ⟨M2, ?_, f2, a3, fun s' q => by cases q; rw [s2]; exact a4⟩
        dsimp only
        rw [fp_X11_laysObstruction_L9, gI_46 hC2 0, Option.bind_some, a3.1]
        by_cases hk : k + 1 ≤ sN S
        · rw [if_neg (show ¬ nI (k + 1) > nI (sN S) by rw [gt_iff_lt, n_lt (by omega) (by omega)]; omega), if_pos (show fstI (some s) ≠ -1 by show nI s ≠ -1; rw [ne_eq, n_neg (by omega)]; exact id)]
        · rw [if_pos (show nI (k + 1) > nI (sN S) by rw [gt_iff_lt, n_lt (by omega) (by omega)]; omega)]
  have f1 : Fz atO M (zsI M 46 46 0) := Fz_sI (Or.inr ⟨rfl, rfl⟩)
  have hN1 : NrH (sN S) (sL S) (zsI M 46 46 0) := NrH_z (P := fun a k => a = 46 ∧ k = 46) (IR_N h) (Fz_sI ⟨rfl, rfl⟩) (by omega) (fun k => by omega)
  obtain ⟨M', k1, k2, k3, k4⟩ := loop (sN S) 1 FU _ (by omega) (by decide) (FU_gt (by omega)) f1 hN1 (by rw [zI_same]; exact n_0)
  have k1' : fp_X11_laysObstruction_L9 46 FU (-1) 1 (zsI M 46 46 0) = some (fstI (obF (sN S) (sL S) (sN S) 1), M') := by rw [n_1]; exact k1
  exact ⟨M', k1', (fin M' k2 k3).1, (fin M' k2 k3).2, k4⟩
theorem obs_lt {n L s : Nat} (h : obs n L = some s) : s < 2 ^ n := by
  obtain ⟨k, hk⟩ := obs_some h
  exact (obK_some hk).1
theorem y_obstruction {S : zSt} {M : zM} (h : IR S M) : RM (q_obstruction S) (fp_X11_obstruction 46 M) M := by
  unfold fp_X11_obstruction q_obstruction
  have g2 := (IR_n h).2
  have p2 := two_pow7 g2
  obtain ⟨M', e1, e2, e3, e4⟩ := y_laysOb h
  rw [ts_46 (IR_C h), e1, Option.bind_some, zpp_mk]
  cases ho : obs (sN S) (sL S) with
  | none => rw [if_neg (show ¬ fstI none ≠ -1 from fun z => z rfl)]; exact y_rf e2 e3
  | some s =>
    have hs := obs_lt ho
    rw [if_pos (show fstI (some s) ≠ -1 by show nI s ≠ -1; rw [ne_eq, n_neg (by omega)]; exact id)]
    exact y_gv e2 e3
theorem y_obstructions {S : zSt} {M : zM} (h : IR S M) : RM (q_obstructions S) (fp_X11_obstructions 46 M) M := by
  unfold fp_X11_obstructions q_obstructions
  have g2 := (IR_n h).2
  have p2 := two_pow7 g2
  obtain ⟨M', e1, e2, e3, e4⟩ := y_laysOb h
  rw [ts_46 (IR_C h), e1, Option.bind_some, zpp_mk]
  cases ho : obs (sN S) (sL S) with
  | none => rw [if_neg (show ¬ fstI none ≠ -1 from fun z => z rfl)]; exact y_rf e2 e3
  | some s =>
    have hs := obs_lt ho
    rw [if_pos (show fstI (some s) ≠ -1 by show nI s ≠ -1; rw [ne_eq, n_neg (by omega)]; exact id), gI_46 (IR_C e2), Option.bind_some, e4 s ho]
    exact y_gv e2 e3

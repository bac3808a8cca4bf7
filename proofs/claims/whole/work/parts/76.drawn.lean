/-! ===== 76: the class: drawn ones, cross ===== -/
theorem wnet_lt (n : Nat) (l : List Nat) : wnet n l < 2 ^ tri n := mk_lt _ _
/-- a quotient's bits -/
def qtS (a b : Nat) : Int32 := (fp_X11_quotient (jI a) (jI b)).getD 0
theorem x_quot {a b : Nat} {w : Int32} (ha : a < 1000) (hb : 0 < b) (hb2 : b < 1000) : ∃ v, fp_X10_ratio (nI a) (nI b) w = some v ∧ fp_X10_bitsOf v = some (qtS a b) := by
  obtain ⟨R, v, e1, e2, e3⟩ := both_quot (a := a) (b := b) (w := w) ha hb hb2
  refine ⟨v, e1, ?_⟩
  unfold qtS
  rw [e3]; exact e2
theorem rq_quot {a b : Nat} (ha : a < 1000) (hb : 0 < b) (hb2 : b < 1000) : fp_X11_quotient (jI a) (jI b) = some (qtS a b) := by
  obtain ⟨R, v, e1, e2, e3⟩ := both_quot (a := a) (b := b) (w := 0) ha hb hb2
  unfold qtS
  rw [e3]; rfl
/-- the sums of so many rows drawn, and the seed behind them -/
def smp (n s0 : Nat) : Nat → Nat × Nat × Nat × Nat
  | 0 => (0, 0, 0, s0)
  | k + 1 =>
    ((smp n s0 k).1 + pc (wnet n (shN n (smp n s0 k).2.2.2).1), (smp n s0 k).2.1 + (joi n (wnet n (shN n (smp n s0 k).2.2.2).1)).toNat,
     (smp n s0 k).2.2.1 + (prm n (wnet n (shN n (smp n s0 k).2.2.2).1)).toNat, (shN n (smp n s0 k).2.2.2).2)
theorem smp_le {n s0 : Nat} (hn : n < 8) (k : Nat) : (smp n s0 k).1 ≤ tri n * k ∧ (smp n s0 k).2.1 ≤ k ∧ (smp n s0 k).2.2.1 ≤ k := by
  induction k with
  | zero => exact ⟨Nat.le_refl _, Nat.le_refl _, Nat.le_refl _⟩
  | succ k ih =>
    obtain ⟨h1, h2, h3⟩ := ih
    have hp := pc_le (wnet_lt n (shN n (smp n s0 k).2.2.2).1) (tri_le n hn)
    have b1 : ∀ b : Bool, b.toNat ≤ 1 := fun b => by cases b <;> decide
    have c1 := b1 (joi n (wnet n (shN n (smp n s0 k).2.2.2).1))
    have c2 := b1 (prm n (wnet n (shN n (smp n s0 k).2.2.2).1))
    rw [smp, Nat.mul_succ]
    exact ⟨by omega, by dsimp only; omega, by dsimp only; omega⟩
def SmH (q : Nat × Nat × Nat × Nat) (M : zM) : Prop := zI M 42 0 = nI q.1 ∧ zI M 42 1 = nI q.2.1 ∧ zI M 42 2 = nI q.2.2.1 ∧ zI M 42 3 = nI q.2.2.2 ∧ q.2.2.2 < 65536
theorem c_count0 {n s m : Nat} {M : zM} (hn : n < 8) (hC : zC M) (hs : s < 65536) (h : zI M 42 3 = nI s) (hm : m ≤ 40) : ∃ M', fp_X0_count 42 (nI n) (nI m) M = some M' ∧ SmH (smp n s m) M' ∧ Fc at42 M M' := by
  unfold fp_X0_count
  have ht := tri_le n hn
  rw [ts_42 hC, pI_42 hC, Option.bind_some, pI_42 (by exact hC), Option.bind_some, pI_42 (by exact hC), Option.bind_some]
  obtain ⟨M1, hM1⟩ : ∃ M1, M1 = zsI (zsI (zsI M 42 0 0) 42 1 0) 42 2 0 := ⟨_, rfl⟩
  rw [← hM1]
  have f1 : Fc at42 M M1 := by rw [hM1]; exact Fc_trans (Fc_trans (Fc_sI (Or.inl rfl)) (Fc_sI (Or.inl rfl))) (Fc_sI (Or.inl rfl))
  have s1 : SmH (smp n s 0) M1 := by
    rw [hM1]
    refine ⟨?_, ?_, ?_, ?_, hs⟩
    · simp [zI_sI, smp]; rfl
    · simp [zI_sI, smp]; rfl
    · simp [zI_sI, smp]; rfl
    · simp [zI_sI, smp]; exact h
  have key : ∀ d k f M1, k + d = m → d < f → Fc at42 M M1 → SmH (smp n s k) M1 → ∃ M', fp_X0_count_L17 42 (nI n) (nI m) f (nI k) M1 = some M' ∧ SmH (smp n s m) M' ∧ Fc at42 M M' := by
    intro d
    induction d with
    | zero =>
      intro k f M1 h1 h2 h3 h4
      obtain ⟨f, rfl⟩ : ∃ g, f = g + 1 := ⟨f - 1, by omega⟩
      have : k = m := by omega
      subst this
      exact ⟨M1, by rw [fp_X0_count_L17, stp], h4, h3⟩
    | succ d ih =>
      intro k f M1 h1 h2 h3 h4
      obtain ⟨f, rfl⟩ : ∃ g, f = g + 1 := ⟨f - 1, by omega⟩
      have hC1 := Fc_C h3 hC
      obtain ⟨a1, a2, a3, a4, a5⟩ := h4
      obtain ⟨b1, b2, b3⟩ := smp_le (s0 := s) hn k
      obtain ⟨M2, e1, e2, e3, e4, e5⟩ := c_drawnLines hn hC1 a5 a4
      have hC2 := Fc_C e4 hC1
      obtain ⟨L, hL⟩ : ∃ L, L = wnet n (shN n (smp n s k).2.2.2).1 := ⟨_, rfl⟩
      have hlt : L < 2 ^ tri n := by rw [hL]; exact wnet_lt _ _
      rw [← hL] at e1
      rw [fp_X0_count_L17, go (show k < m by omega) (by omega), e1, Option.bind_some]
      unfold zpp
      dsimp only
      rw [gI_42 hC2, Option.bind_some, c_bitCount (lt21 hn hlt), Option.bind_some, e5 0 (by decide), a1, n_add, pI_42 hC2, Option.bind_some, c_joined hn hlt, Option.bind_some, zjn_eq]
      dsimp only
      obtain ⟨M3, hM3⟩ : ∃ M3, M3 = zsI M2 42 0 (nI ((smp n s k).1 + pc L)) := ⟨_, rfl⟩
      rw [← hM3]
      have hC3 : zC M3 := by rw [hM3]; exact hC2
      have f3 : Fc at42 M M3 := by rw [hM3]; exact Fc_trans (Fc_trans h3 e4) (Fc_sI (Or.inl rfl))
      have v1 : zI M3 42 1 = nI (smp n s k).2.1 := by rw [hM3, zI_other _ _ (Or.inr (by decide)), e5 1 (by decide), a2]
      have v2 : zI M3 42 2 = nI (smp n s k).2.2.1 := by rw [hM3, zI_other _ _ (Or.inr (by decide)), e5 2 (by decide), a3]
      have v3 : zI M3 42 3 = nI (shN n (smp n s k).2.2.2).2 := by rw [hM3, zI_other _ _ (Or.inr (by decide)), e2]
      have v0 : zI M3 42 0 = nI ((smp n s k).1 + pc L) := by rw [hM3, zI_same]
      -- joined
      have stepJ : ∃ M4, zC M4 ∧ Fc at42 M M4 ∧ zI M4 42 0 = nI ((smp n s k).1 + pc L) ∧ zI M4 42 1 = nI ((smp n s k).2.1 + (joi n L).toNat) ∧ zI M4 42 2 = nI (smp n s k).2.2.1 ∧ zI M4 42 3 = nI (shN n (smp n s k).2.2.2).2 ∧ ∀ K : zM → Option zM, (if bI (joi n L) = 0 then K M3 else (zgI 0 M3 42 1).bind fun (y16 : Int32) => (zpI 0 M3 42 1 (y16 + 1)).bind fun (M17 : zM) => K M17) = K M4 := by
        cases hj : joi n L with
        | false => exact ⟨M3, hC3, f3, v0, v1, v2, v3, fun K => by rw [b_ff, if_pos rfl]⟩
        | true =>
          refine ⟨zsI M3 42 1 (nI ((smp n s k).2.1 + 1)), hC3, Fc_trans f3 (Fc_sI (Or.inl rfl)), by rw [zI_other _ _ (Or.inr (by decide)), v0], by rw [zI_same]; rfl, by rw [zI_other _ _ (Or.inr (by decide)), v2], by rw [zI_other _ _ (Or.inr (by decide)), v3], fun K => ?_⟩
          rw [b_tt, if_neg (show ¬ (1 : Int32) = 0 by decide), gI_42 hC3, Option.bind_some, v1, inc, pI_42 hC3, Option.bind_some]
      obtain ⟨M4, hC4, f4, w0, w1, w2, w3, eJ⟩ := stepJ
      rw [eJ fun M11 => (fp_X6_isPrime (nI n) (nI L)).bind fun (y12 : Int32) =>
          zjn (fun (M13 : zM) => fp_X0_count_L17 42 (nI n) (nI m) f (nI k + 1) M13)
            (fun j81 => if y12 = 0 then (j81 M11) else (
                (zgI 0 M11 42 2).bind fun (y14 : Int32) =>
                (zpI 0 M11 42 2 (y14 + 1)).bind fun (M15 : zM) => j81 M15)), c_isPrime hn hlt, Option.bind_some, zjn_eq]
      dsimp only
      have stepP : ∃ M5, Fc at42 M M5 ∧ zI M5 42 0 = nI ((smp n s k).1 + pc L) ∧ zI M5 42 1 = nI ((smp n s k).2.1 + (joi n L).toNat) ∧ zI M5 42 2 = nI ((smp n s k).2.2.1 + (prm n L).toNat) ∧ zI M5 42 3 = nI (shN n (smp n s k).2.2.2).2 ∧ ∀ K : zM → Option zM, (if bI (prm n L) = 0 then K M4 else (zgI 0 M4 42 2).bind fun (y16 : Int32) => (zpI 0 M4 42 2 (y16 + 1)).bind fun (M17 : zM) => K M17) = K M5 := by
        cases hj : prm n L with
        | false => exact ⟨M4, f4, w0, w1, w2, w3, fun K => by rw [b_ff, if_pos rfl]⟩
        | true =>
          refine ⟨zsI M4 42 2 (nI ((smp n s k).2.2.1 + 1)), Fc_trans f4 (Fc_sI (Or.inl rfl)), by rw [zI_other _ _ (Or.inr (by decide)), w0], by rw [zI_other _ _ (Or.inr (by decide)), w1], by rw [zI_same]; rfl, by rw [zI_other _ _ (Or.inr (by decide)), w3], fun K => ?_⟩
          rw [b_tt, if_neg (show ¬ (1 : Int32) = 0 by decide), gI_42 hC4, Option.bind_some, w2, inc, pI_42 hC4, Option.bind_some]
      obtain ⟨M5, f5, u0, u1, u2, u3, eP⟩ := stepP
      rw [eP fun M13 => fp_X0_count_L17 42 (nI n) (nI m) f (nI k + 1) M13, inc]
      exact ih (k + 1) f M5 (by omega) (by omega) f5 ⟨by rw [u0, hL]; rfl, by rw [u1, hL]; rfl, by rw [u2, hL]; rfl, u3, e3⟩
  obtain ⟨M', k1, k2, k3⟩ := key m 0 FU M1 (by omega) (FU_gt (by omega)) f1 s1
  exact ⟨M', by rw [n_0]; exact k1, k2, k3⟩
theorem x_seed {α : Type} {v : Int32} (A B : α) : (if v < 0 then A else if v > 9999 then A else B) = match asN v 10000 with | none => A | some _ => B := by
  rw [show (9999 : Int32) = nI 9999 from by decide]
  cases hv : asN v 10000 with
  | none =>
    rcases asN_none hv with h0 | ⟨j, rfl, hj, hb⟩
    · rw [if_pos h0]
    · rw [if_neg (by rw [n_lt0 hb]; exact id), if_pos (by rw [gt_iff_lt, n_lt (by omega) hb]; omega)]
  | some j =>
    obtain ⟨rfl, hj, hb⟩ := asN_some hv
    rw [if_neg (by rw [n_lt0 hb]; exact id), if_neg (by rw [gt_iff_lt, n_lt (by omega) hb]; omega)]
def q_shuffle (S : zSt) (v n : Int32) : Int32 × zSt := match asN v 10000 with
  | none => rf S 1
  | some s => match asN n 8 with
    | none => rf S 1
    | some n => gv (bcS S n (wnet n (shN n s).1)) (nI (pc (wnet n (shN n s).1)))
theorem x_shuffle {S : zSt} {t : Nat} {M : zM} (h : IC S t M) (v n : Int32) : CM t (q_shuffle S v n) (fp_X10_shuffle 0 v n M) M := by
  unfold fp_X10_shuffle q_shuffle
  have hC := IC_C h
  rw [ts_0 hC, x_seed, show (7 : Int32) = nI 7 from by decide, x_what (by decide)]
  cases hv : asN v 10000 with
  | none => exact x_rf h (Nat.le_succ _) Rk_refl
  | some s =>
    dsimp only
    cases hn : asN n (7 + 1) with
    | none => exact x_rf h (Nat.le_succ _) Rk_refl
    | some k =>
      obtain ⟨rfl, hs, hb⟩ := asN_some hv
      obtain ⟨rfl, hk, hb2⟩ := asN_some hn
      have hb0 : fp_X0_begin 42 (nI s) M = some (zsI M 42 3 (nI s)) := by
        unfold fp_X0_begin
        rw [ts_42 hC, pI_42 hC, Option.bind_some]
      have f1 : Fc at42 M (zsI M 42 3 (nI s)) := Fc_sI (Or.inl rfl)
      have hC1 := Fc_C f1 hC
      obtain ⟨M2, e1, e2, e3, e4, e5⟩ := c_drawnLines hk hC1 (show s < 65536 by omega) (zI_same _ _ _ _)
      have hI := IC_c h (Fc_trans f1 e4) at42_scr
      have rk : Rk M M2 := Rk_k (Fk_of (Fc_trans f1 e4)) fun a h1 h2 q => by omega
      dsimp only
      rw [gR_0_14 hC, Option.bind_some, hb0, Option.bind_some, gR_0_14 hC1, Option.bind_some, e1, Option.bind_some]
      unfold zpp
      dsimp only
      obtain ⟨M', k1, k2, k3, k4, k5⟩ := x_become hI hk (wnet_lt k (shN k s).1)
      rw [k1, Option.bind_some, gI_0 (IC_C k2), Option.bind_some, (IC_L k2).1, k5, c_bitCount (lt21 hk (wnet_lt _ _)), Option.bind_some]
      exact x_gv k2 (Nat.le_succ _) (Rk_trans rk k3)
def smO (n s m w : Nat) : Int32 := if w = 0 then nI (smp n s m).1 else if w = 1 then nI (smp n s m).2.1 else if w = 2 then nI (smp n s m).2.2.1 else if m * tri n = 0 then 0 else qtS (smp n s m).1 (m * tri n)
def q_sample (S : zSt) (v n m what : Int32) : Int32 × zSt := match asN v 10000 with
  | none => rf S 1
  | some s => match asN n 8 with
    | none => rf S 1
    | some n => match asN m 41 with
      | none => rf S 1
      | some m => if m = 0 then rf S 1 else match asN what 4 with
        | none => rf S 1
        | some w => gv S (smO n s m w)
theorem ratio_00 (a : Int32) : fp_X10_ratio a (nI 0) 0 = some 0 := by
  unfold fp_X10_ratio
  rw [if_neg (by decide)]
  decide +kernel
theorem x_m {α : Type} {v : Int32} (A B : α) : (if v < 1 then A else if v > 40 then A else B) = match asN v 41 with | none => A | some m => if m = 0 then A else B := by
  rw [show (40 : Int32) = nI 40 from by decide, n_1]
  cases hv : asN v 41 with
  | none =>
    rcases asN_none hv with h0 | ⟨j, rfl, hj, hb⟩
    · rw [if_pos (by rw [← n_1]; exact Int32.lt_trans h0 (by decide))]
    · rw [if_neg (by rw [n_lt hb (by omega)]; omega), if_pos (by rw [gt_iff_lt, n_lt (by omega) hb]; omega)]
  | some j =>
    obtain ⟨rfl, hj, hb⟩ := asN_some hv
    dsimp only
    by_cases h0 : j = 0
    · rw [if_pos (by rw [n_lt hb (by omega)]; omega), if_pos h0]
    · rw [if_neg (by rw [n_lt hb (by omega)]; omega), if_neg (by rw [gt_iff_lt, n_lt (by omega) hb]; omega), if_neg h0]
theorem x_sample {S : zSt} {t : Nat} {M : zM} (h : IC S t M) (v n m what : Int32) : CM t (q_sample S v n m what) (fp_X10_sample 0 v n m what M) M := by
  unfold fp_X10_sample q_sample
  have hC := IC_C h
  rw [ts_0 hC, x_seed, show (7 : Int32) = nI 7 from by decide, x_what (by decide)]
  cases hv : asN v 10000 with
  | none => exact x_rf h (Nat.le_succ _) Rk_refl
  | some s =>
    dsimp only
    cases hn : asN n (7 + 1) with
    | none => exact x_rf h (Nat.le_succ _) Rk_refl
    | some k =>
      dsimp only
      rw [x_m, show (3 : Int32) = nI 3 from n_3, x_what (by decide)]
      cases hm : asN m 41 with
      | none => exact x_rf h (Nat.le_succ _) Rk_refl
      | some c =>
        dsimp only
        by_cases c0 : c = 0
        · rw [if_pos c0, if_pos c0]; exact x_rf h (Nat.le_succ _) Rk_refl
        · rw [if_neg c0, if_neg c0]
          cases hw : asN what (3 + 1) with
          | none => exact x_rf h (Nat.le_succ _) Rk_refl
          | some w =>
            obtain ⟨rfl, hs, hb⟩ := asN_some hv
            obtain ⟨rfl, hk, hb2⟩ := asN_some hn
            obtain ⟨rfl, hc, hb3⟩ := asN_some hm
            obtain ⟨rfl, hw3, hb4⟩ := asN_some hw
            have hb0 : fp_X0_begin 42 (nI s) M = some (zsI M 42 3 (nI s)) := by
              unfold fp_X0_begin
              rw [ts_42 hC, pI_42 hC, Option.bind_some]
            have f1 : Fc at42 M (zsI M 42 3 (nI s)) := Fc_sI (Or.inl rfl)
            have hC1 := Fc_C f1 hC
            obtain ⟨M2, e1, e2, e3⟩ := c_count0 (n := k) (m := c) hk hC1 (show s < 65536 by omega) (zI_same _ _ _ _) (by omega)
            have hI := IC_c h (Fc_trans f1 e3) at42_scr
            have hC2 := IC_C hI
            have rk : Rk M M2 := Rk_k (Fk_of (Fc_trans f1 e3)) fun a h1 h2 q => by omega
            dsimp only
            rw [gR_0_14 hC, Option.bind_some, hb0, Option.bind_some, gR_0_14 hC1, Option.bind_some, e1, Option.bind_some, gR_0_14 hC2, Option.bind_some, Option.bind_some, Option.bind_some, Option.bind_some, gI_42 hC2, Option.bind_some, gI_42 hC2, Option.bind_some, gI_42 hC2, Option.bind_some, Option.bind_some, e2.1, e2.2.1, e2.2.2.1]
            unfold smO
            have w4 : w = 0 ∨ w = 1 ∨ w = 2 ∨ w = 3 := by omega
            rcases w4 with rfl | rfl | rfl | rfl
            · rw [if_pos (show nI 0 = 0 by decide)]; exact x_gv hI (Nat.le_succ _) rk
            · rw [if_neg (show ¬ nI 1 = 0 by decide), if_pos (show nI 1 = 1 by decide)]; exact x_gv hI (Nat.le_succ _) rk
            · rw [if_neg (show ¬ nI 2 = 0 by decide), if_neg (show ¬ nI 2 = 1 by decide), if_pos (show nI 2 = 2 by decide)]; exact x_gv hI (Nat.le_succ _) rk
            · have ht := tri_le k hk
              have hle := (smp_le (s0 := s) hk c).1
              have h40 : tri k * c ≤ 21 * 40 := Nat.mul_le_mul ht (by omega)
              rw [if_neg (show ¬ nI 3 = 0 by decide), if_neg (show ¬ nI 3 = 1 by decide), if_neg (show ¬ nI 3 = 2 by decide), show fp_X2_pair 0 (nI k) = some (nI (pr 0 k)) from c_pair 0 (by decide) _ (by omega), Option.bind_some, pr_0 _ hk, n_mul]
              rw [if_neg (show ¬ 3 = 0 by decide), if_neg (show ¬ 3 = 1 by decide), if_neg (show ¬ 3 = 2 by decide)]
              by_cases hz : c * tri k = 0
              · rw [hz, ratio_00, Option.bind_some, ratio_0.2, Option.bind_some, if_pos rfl]
                exact x_gv hI (Nat.le_succ _) rk
              · rw [if_neg hz]
                have hcm := Nat.mul_comm c (tri k)
                obtain ⟨v, q1, q2⟩ := x_quot (a := (smp k s c).1) (b := c * tri k) (w := 0) (by omega) (by omega) (by omega)
                rw [q1, Option.bind_some, q2, Option.bind_some]
                exact x_gv hI (Nat.le_succ _) rk
/-! cross -/
theorem TpH_AN {l : List Nat} {m : Nat} {M : zM} (hC : zC M) (h : TpH l M) (hl : l.length ≤ 200) (hm : m ≤ l.length) : AN M 2 (l.take m) := by
  have L2 : zL M 2 = 200 := hC.2.2 (2, 200) (by decide +kernel)
  have hlen : (l.take m).length = m := by rw [List.length_take]; omega
  refine ⟨zC_lt hC (by decide), by decide, by omega, by omega, fun i hi => ?_⟩
  rw [hlen] at hi
  rw [h.2 i (by omega)]
  simp [List.getD, List.getElem?_take, hi]
def crB (l : List Nat) (x y : Nat) : Bool := (l.foldl (brs x y) (false, 0)).2 == 1
def q_cross (S : zSt) (v a b : Int32) : Int32 × zSt := match asN v ((sT S).length + 1) with
  | none => rf S 1
  | some m => match asN a 26 with
    | none => rf S 1
    | some a => match asN b 26 with
      | none => rf S 1
      | some b => if ((sT S).take m).count (a + 97) = 2 then if ((sT S).take m).count (b + 97) = 2 then if a = b then rf S 4 else gv (tpS S []) (bI (crB ((sT S).take m) (a + 97) (b + 97))) else rf S 2 else rf S 2
theorem x_26 {α : Type} {v : Int32} (A B : α) : (if v < 0 then A else if v ≥ 26 then A else B) = match asN v 26 with | none => A | some _ => B := by
  rw [show (26 : Int32) = nI 26 from by decide]
  cases hv : asN v 26 with
  | none =>
    rcases asN_none hv with h0 | ⟨j, rfl, hj, hb⟩
    · rw [if_pos h0]
    · rw [if_neg (by rw [n_lt0 hb]; exact id), if_pos (by rw [ge_iff_le, n_le (by omega) hb]; omega)]
  | some j =>
    obtain ⟨rfl, hj, hb⟩ := asN_some hv
    rw [if_neg (by rw [n_lt0 hb]; exact id), go hj (by omega)]
theorem x_26' {α : Type} {v : Int32} (A B : α) : (if v < 0 then A else if v < 26 then B else A) = match asN v 26 with | none => A | some _ => B := by
  rw [show (26 : Int32) = nI 26 from by decide]
  cases hv : asN v 26 with
  | none =>
    rcases asN_none hv with h0 | ⟨j, rfl, hj, hb⟩
    · rw [if_pos h0]
    · rw [if_neg (by rw [n_lt0 hb]; exact id), if_neg (by rw [n_lt hb (by omega)]; omega)]
  | some j =>
    obtain ⟨rfl, hj, hb⟩ := asN_some hv
    rw [if_neg (by rw [n_lt0 hb]; exact id), if_pos (by rw [n_lt hb (by omega)]; exact hj)]
theorem x_cross {S : zSt} {t : Nat} {M : zM} (h : IC S t M) (v a b : Int32) : CM t (q_cross S v a b) (fp_X10_cross 0 v a b M) M := by
  unfold fp_X10_cross q_cross
  have hC := IC_C h
  rw [ts_0 hC, gR_0_4 hC, Option.bind_some, x_holds h, Option.bind_some, x_26, x_26']
  cases hv : asN v ((sT S).length + 1) with
  | none => rw [b_no, if_pos rfl]; exact x_rf h (Nat.le_succ _) Rk_refl
  | some m =>
    rw [b_so, if_neg (show ¬ (1 : Int32) = 0 by decide)]
    dsimp only
    cases ha : asN a 26 with
    | none => exact x_rf h (Nat.le_succ _) Rk_refl
    | some x =>
      dsimp only
      cases hb : asN b 26 with
      | none => exact x_rf h (Nat.le_succ _) Rk_refl
      | some y =>
        obtain ⟨rfl, hm, hb1⟩ := asN_some hv
        obtain ⟨rfl, hx, hb2⟩ := asN_some ha
        obtain ⟨rfl, hy, hb3⟩ := asN_some hb
        dsimp only
        have o2 := h.1.2.1
        have hlen : ((sT S).take m).length = m := by rw [List.length_take]; omega
        have hA := TpH_AN (m := m) hC h.2.2.1.2.2.2.2.1 o2 (by omega)
        have h32 : ∀ z ∈ (sT S).take m, z < 2 ^ 32 := fun z hz => Nat.lt_trans (h.1.2.2.1 z (List.mem_of_mem_take hz)) (by decide)
        have cn := fun z (hz : z < 2 ^ 32) => c_count hA hz h32
        rw [hlen] at cn
        have cl : ∀ z, ((sT S).take m).count z ≤ 200 := fun z => by have := List.count_le_length (a := z) (l := (sT S).take m); omega
        have cx := cl (x + 97)
        have cy := cl (y + 97)
        rw [lett_eq, lett_eq, Option.bind_some, Option.bind_some, gR_1_0 hC, Option.bind_some, show (97 : Int32) = nI 97 from by decide, n_add, n_add, cn _ (by omega), Option.bind_some]
        by_cases c1 : ((sT S).take m).count (x + 97) = 2
        · rw [if_pos c1, c1, if_neg (show ¬ nI 2 ≠ 2 by decide), Option.bind_some, cn _ (by omega), Option.bind_some]
          by_cases c2 : ((sT S).take m).count (y + 97) = 2
          · rw [if_pos c2, c2, if_pos (show nI 2 = 2 by decide)]
            by_cases c3 : x = y
            · rw [if_pos c3, if_neg (by rw [c3]; exact fun q => q rfl)]; exact x_rf h (Nat.le_succ _) Rk_refl
            · rw [if_neg c3, if_pos (by rw [ne_eq, n_eq hb2 hb3]; exact c3), Option.bind_some, pI_1 hC, Option.bind_some]
              have f1 : Fc at1 M (zsI M 1 1 0) := Fc_sI (Or.inl rfl)
              have hC1 := Fc_C f1 hC
              have hI : IC (tpS S []) t (zsI M 1 1 0) := IC_tp h f1 ⟨by rw [zI_same]; rfl, fun i hi => absurd hi (Nat.not_lt_zero _)⟩ (Nat.zero_le _) fun x hx => absurd hx List.not_mem_nil
              have hA1 : AN (zsI M 1 1 0) 2 ((sT S).take m) := AN_F hA (S := fun a => a = 1) (Fc_sI rfl) (by decide)
              have hc := c_crossing hA1 (x := x + 97) (y := y + 97) (by omega) (by omega) h32
              rw [hlen] at hc
              rw [gR_0_4 hC1, Option.bind_some, gR_1_0 hC1, Option.bind_some, hc, Option.bind_some, x_bit _ (fun w => (fp_X10_answer 0 w (zsI M 1 1 0)).bind fun p => zpp p fun (y : Int32) (M2 : zM) => some (y, M2))]
              exact x_gv hI (Nat.le_succ _) (Rk_1 f1)
          · rw [if_neg c2, if_neg (by rw [n_2, n_eq (by omega) (by omega)]; exact c2)]; exact x_rf h (Nat.le_succ _) Rk_refl
        · rw [if_neg c1, if_pos (by rw [n_2, ne_eq, n_eq (by omega) (by omega)]; exact c1)]; exact x_rf h (Nat.le_succ _) Rk_refl

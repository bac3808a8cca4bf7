/-! ===== 59: the class' Models: gather, words told ===== -/
def MG (m r n L want : Nat) (M : zM) : Prop := zI M m 2 = nI n ∧ zI M m 3 = nI L ∧ zI M m 4 = nI (2 * n) ∧ zI M m 5 = nI want ∧ MW m r ((Mods n L).take want) M
def MO (m r : Nat) (M : zM) : Prop := (zI M m 2 = -1 ∧ ∃ ws, MW m r ws M) ∨ ∃ n L want, n < 8 ∧ L < 2 ^ tri n ∧ want ≤ 80000 ∧ MG m r n L want M
/-- what gather leaves as it was -/
def Fg (m r r' : Nat) (M M' : zM) : Prop :=
  (∀ a k, a < zS M → a ≠ m → a ≠ m + 2 → a ≠ m + 3 → zI M' a k = zI M a k) ∧ zI M' m 9 = zI M m 9 ∧
  (∀ a k, a < zS M → a ≠ r → zJ M' a k = zJ M a k) ∧ (∀ a k, a < zS M → (a ≠ m ∨ k ≠ 1) → zR M' a k = zR M a k) ∧ (∀ a, a < zS M → zL M' a = zL M a) ∧ zS M ≤ zS M' ∧ (r' = r ∨ zS M ≤ r') ∧
  zS M' + lv (zL M' r') = zS M + lv (zL M r) ∧ zU M' + lu (zL M' r') = zU M + lu (zL M r)
theorem Fg_refl {m r : Nat} {M : zM} : Fg m r r M M := ⟨fun _ _ _ _ _ _ => rfl, rfl, fun _ _ _ _ => rfl, fun _ _ _ _ => rfl, fun _ _ => rfl, Nat.le_refl _, Or.inl rfl, rfl, rfl⟩
theorem Fg_of {m r r' : Nat} {M M' : zM} (h : Fm m r r' M M') : Fg m r r' M M' := ⟨h.1, h.2.1 9 (by decide), h.2.2.2⟩
theorem Fg_trans {m r r' r'' : Nat} {M M' M'' : zM} (hr : r < zS M) (h : Fg m r r' M M') (h' : Fg m r' r'' M' M'') : Fg m r r'' M M'' := by
  obtain ⟨a1, a2, a4, a5, a6, a7, a8, a9, a10⟩ := h
  obtain ⟨b1, b2, b4, b5, b6, b7, b8, b9, b10⟩ := h'
  refine ⟨fun a k ha h1 h2 h3 => ?_, b2.trans a2, fun a k ha har => ?_, fun a k ha hk => ?_, fun a ha => ?_, Nat.le_trans a7 b7, ?_, b9.trans a9, b10.trans a10⟩
  · rw [b1 a k (by omega) h1 h2 h3, a1 a k ha h1 h2 h3]
  · rw [b4 a k (by omega) (by omega), a4 a k ha har]
  · rw [b5 a k (by omega) hk, a5 a k ha hk]
  · rw [b6 a (by omega), a6 a ha]
  · omega
theorem Fg_C {m r r' : Nat} {M M' : zM} (hm : zMo m) (h : Fg m r r' M M') (hC : zC M) : zC M' := by
  obtain ⟨a1, a2, a4, a5, a6, a7, a8, a9, a10⟩ := h
  refine ⟨Nat.le_trans hC.1 a7, fun q hq => ?_, fun q hq => ?_⟩
  · obtain ⟨h1, h2⟩ := zRc_m q hq
    have := hC.1
    rw [a5 q.1 q.2.1 (by omega) ?_]
    · exact hC.2.1 q hq
    · by_cases hk : q.2.1 = 1
      · left
        intro z
        have : q.1 = 23 ∨ q.1 = 28 ∨ q.1 = 33 := by rw [z]; exact hm
        exact h2 this hk
      · exact Or.inr hk
  · have h1 := zLc_lt q hq
    have := hC.1
    rw [a6 q.1 (by omega)]; exact hC.2.2 q hq
theorem Fg_sI {m r a k : Nat} {v : Int32} {M : zM} (h : (a = m ∧ k ≠ 9) ∨ a = m + 2 ∨ a = m + 3) : Fg m r r M (zsI M a k v) :=
  ⟨fun b j _ h1 h2 h3 => zI_other _ _ (Or.inl (by omega)), zI_other _ _ (by omega), fun _ _ _ _ => rfl, fun _ _ _ _ => rfl, fun _ _ => rfl, Nat.le_refl _, Or.inl rfl, rfl, rfl⟩
theorem modB_head {n L : Nat} : ∀ w, modB n L w = true → w.headD 0 = 0 := fun w h => (modB_iff.mp h).1.2.2
theorem Mods_first {n L : Nat} (hn0 : 0 < n) : Ex (modB n L) n [0] (2 * n - 1) = Mods n L := by
  unfold Mods
  rw [show 2 * n = (2 * n - 1) + 1 by omega, Ex_first hn0 modB_head, Nat.add_sub_cancel]
theorem Mods_0 (L : Nat) : Mods 0 L = [[]] := by
  unfold Mods
  have h : modB 0 L [] = true := modB_iff.mpr ⟨⟨⟨rfl, fun p hp => by omega⟩, fun a ha => by omega, rfl⟩, rfl⟩
  rw [show 2 * 0 = 0 from rfl, Ex_0, if_pos h]
theorem every_1 : ∀ n, n < 8 → 0 < n → (1 <<< n - 1) ^^^ 1 = bs (wtg [0]) n := by decide +kernel
theorem open_1 : ∀ n, n < 8 → 0 < n → bs ([0] : List Nat).contains n = 1 := by decide +kernel
theorem c_mgather {n L m r want : Nat} {M : zM} (hn : n < 8) (hL : L < 2 ^ tri n) (hm : zMo m) (hw : want ≤ 80000) (hw0 : 0 < want) (hC : zC M) (h : MO m r M) (hS : zS M + lv (zL M r) ≤ 600000) (hU : zU M + lu (zL M r) ≤ 7302250) :
    ∃ r' M', fp_X1_gather m (nI n) (nI L) (nI want) M = some M' ∧ MG m r' n L want M' ∧ Fg m r r' M M' := by
  obtain ⟨ws, hMW⟩ : ∃ ws, MW m r ws M := by
    rcases h with ⟨_, ws, h⟩ | ⟨n', L', w', _, _, _, h⟩
    · exact ⟨ws, h⟩
    · exact ⟨_, h.2.2.2.2⟩
  have hmr := mo_lt hm
  unfold fp_X1_gather
  obtain ⟨T, hT⟩ : ∃ T : Option zM, T = ((zpI 1 M m 2 (nI n)).bind fun (M2 : zM) =>
        (zpI 1 M2 m 3 (nI L)).bind fun (M3 : zM) =>
        (zpI 1 M3 m 5 (nI want)).bind fun (M4 : zM) =>
        (zgI 1 M4 m 2).bind fun (y5 : Int32) =>
        (zpI 1 M4 m 4 (2 * y5)).bind fun (M6 : zM) =>
        (zpI 1 M6 m 0 0).bind fun (M7 : zM) =>
        fp_X1_gather_L58
          (fun M16 =>
            (zgI 1 M16 m 2).bind fun (y17 : Int32) =>
            if y17 ≠ 0 then (
              (zgR 1 M16 m 7).bind fun (y18 : Nat) =>
              (ztI M16 y18 0 0).bind fun (M19 : zM) =>
              (zgI 1 M19 m 2).bind fun (y20 : Int32) =>
              (fp_X2_everyPoint y20).bind fun (y21 : Int32) =>
              (fp_X1_extend FD m 1 (y21 ^^^ 1) 1 0 0 M19).bind fun (M22 : zM) =>
              some M22)
            else (
              (fp_X1_keep m 0 M16).bind fun (M23 : zM) =>
              some M23)) m FU 0 M7) := ⟨_, rfl⟩
  have main : ∃ r' M', T = some M' ∧ MG m r' n L want M' ∧ Fg m r r' M M' := by
    rw [hT, mo_p hC hm, Option.bind_some, mo_p (by exact hC) hm, Option.bind_some, mo_p (by exact hC) hm, Option.bind_some, mo_g (by exact hC) hm, Option.bind_some, mo_p (by exact hC) hm, Option.bind_some, mo_p (by exact hC) hm, Option.bind_some]
    have e2 : zI (zsI (zsI (zsI M m 2 (nI n)) m 3 (nI L)) m 5 (nI want)) m 2 = nI n := by rw [zI_other _ _ (Or.inr (by decide)), zI_other _ _ (Or.inr (by decide)), zI_same]
    rw [e2, n_2, n_mul]
    obtain ⟨M7, hM7⟩ : ∃ M7, M7 = zsI (zsI (zsI (zsI (zsI M m 2 (nI n)) m 3 (nI L)) m 5 (nI want)) m 4 (nI (2 * n))) m 0 0 := ⟨_, rfl⟩
    rw [← hM7]
    have hC7 : zC M7 := by rw [hM7]; exact hC
    have g0 : zI M7 m 0 = nI 0 := by rw [hM7, zI_same]; rfl
    have g2 : zI M7 m 2 = nI n := by rw [hM7, zI_other _ _ (Or.inr (by decide)), zI_other _ _ (Or.inr (by decide)), e2]
    have g3 : zI M7 m 3 = nI L := by rw [hM7, zI_other _ _ (Or.inr (by decide)), zI_other _ _ (Or.inr (by decide)), zI_other _ _ (Or.inr (by decide)), zI_same]
    have g5 : zI M7 m 5 = nI want := by rw [hM7, zI_other _ _ (Or.inr (by decide)), zI_other _ _ (Or.inr (by decide)), zI_same]
    have g4 : zI M7 m 4 = nI (2 * n) := by rw [hM7, zI_other _ _ (Or.inr (by decide)), zI_same]
    have hF7 : Fg m r r M M7 := by
      rw [hM7]
      have hr := hMW.2.2.1
      exact Fg_trans hr (Fg_trans hr (Fg_trans hr (Fg_trans hr (Fg_sI (Or.inl ⟨rfl, by decide⟩)) (Fg_sI (Or.inl ⟨rfl, by decide⟩))) (Fg_sI (Or.inl ⟨rfl, by decide⟩))) (Fg_sI (Or.inl ⟨rfl, by decide⟩))) (Fg_sI (Or.inl ⟨rfl, by decide⟩))
    have hW7 : MW m r [] M7 := by
      obtain ⟨q1, q2, q3, q4, q5, q6, q7, q8⟩ := hMW
      rw [hM7] at g0 ⊢
      exact ⟨q1, q2, q3, q4, g0, fun i hi => by simp at hi, Nat.zero_le _, q8⟩
    -- near
    have loop : ∀ (K : zM → Option zM) d p f M1, p + d = n → d < f → zC M1 → (zI M1 m 2 = nI n ∧ zI M1 m 3 = nI L ∧ zI M1 m 4 = nI (2 * n) ∧ zI M1 m 5 = nI want) → (∀ q, q < p → zI M1 (m + 2) q = nI (row n L q)) → MW m r [] M1 → ∃ M2, fp_X1_gather_L58 K m f (nI p) M1 = K M2 ∧ zI M2 m 3 = nI L ∧ SB n L m want M2 ∧ MW m r [] M2 ∧ Fg m r r M1 M2 := by
      intro K d
      induction d with
      | zero =>
        intro p f M1 h1 h2 h3 h4 h5 h6
        obtain ⟨f, rfl⟩ : ∃ g, f = g + 1 := ⟨f - 1, by omega⟩
        have : p = n := by omega
        subst this
        exact ⟨M1, by rw [fp_X1_gather_L58, mo_g h3 hm, Option.bind_some, h4.1, stp], h4.2.1, ⟨h3, h4.1, h4.2.2.1, h4.2.2.2, h5⟩, h6, Fg_refl⟩
      | succ d ih =>
        intro p f M1 h1 h2 h3 h4 h5 h6
        obtain ⟨f, rfl⟩ : ∃ g, f = g + 1 := ⟨f - 1, by omega⟩
        have hp : p < n := by omega
        rw [fp_X1_gather_L58, mo_g h3 hm, Option.bind_some, h4.1, go hp (by omega), mo_R6 h3 hm, Option.bind_some, mo_n2 h3 hm, Option.bind_some, go (show p < 7 by omega) (by omega), Option.bind_some, Option.bind_some, mo_g h3 hm, Option.bind_some, h4.2.1, c_nearTo hn (lt21 hn hL) hp, Option.bind_some, mo_t2 h3 hm (by omega), Option.bind_some, inc]
        obtain ⟨M2, e1, e2, e3, e4, e5⟩ := ih (p + 1) f (zsI M1 (m + 2) p (nI (row n L p))) (by omega) (by omega) (by exact h3) ⟨by rw [zI_other _ _ (Or.inl (by omega))]; exact h4.1, by rw [zI_other _ _ (Or.inl (by omega))]; exact h4.2.1, by rw [zI_other _ _ (Or.inl (by omega))]; exact h4.2.2.1, by rw [zI_other _ _ (Or.inl (by omega))]; exact h4.2.2.2⟩ (fun q hq => by
          by_cases hqp : q = p
          · rw [hqp, zI_same]
          · rw [zI_other _ _ (Or.inr hqp), h5 q (by omega)]) (by
          obtain ⟨q1, q2, q3, q4, q5, q6, q7, q8⟩ := h6
          exact ⟨q1, q2, q3, q4, by rw [zI_other _ _ (Or.inl (by omega))]; exact q5, q6, q7, q8⟩)
        exact ⟨M2, e1, e2, e3, e4, Fg_trans h6.2.2.1 (Fg_sI (Or.inr (Or.inl rfl))) e5⟩
    rw [n_0]
    obtain ⟨M2, e1, e3', eSB, eMW, eF⟩ := loop (fun M16 =>
            (zgI 1 M16 m 2).bind fun (y17 : Int32) =>
            if y17 ≠ nI 0 then (
              (zgR 1 M16 m 7).bind fun (y18 : Nat) =>
              (ztI M16 y18 (nI 0) (nI 0)).bind fun (M19 : zM) =>
              (zgI 1 M19 m 2).bind fun (y20 : Int32) =>
              (fp_X2_everyPoint y20).bind fun (y21 : Int32) =>
              (fp_X1_extend FD m 1 (y21 ^^^ 1) 1 (nI 0) 0 M19).bind fun (M22 : zM) =>
              some M22)
            else (
              (fp_X1_keep m 0 M16).bind fun (M23 : zM) =>
              some M23)) n 0 FU M7 (by omega) (FU_gt (by omega)) hC7 ⟨g2, g3, g4, g5⟩ (fun q hq => by omega) hW7
    have hF2 := Fg_trans hMW.2.2.1 hF7 eF
    obtain ⟨b9, b10⟩ := hF2.2.2.2.2.2.2.2
    rw [e1, mo_g eSB.1 hm, Option.bind_some, eSB.2.1]
    by_cases hn0 : n = 0
    · subst hn0
      rw [if_neg (fun q => q rfl)]
      obtain ⟨r', M', k1, k2, k3, k4⟩ := c_keep (w := []) hm eSB.1 eMW (by simp) (by omega) (by omega)
      have k1' : fp_X1_keep m 0 M2 = some M' := k1
      have hSB' := SB_F hm eSB k3
      refine ⟨r', M', by rw [k1', Option.bind_some], ⟨hSB'.2.1, by rw [k3.2.1 3 (by decide)]; exact e3', hSB'.2.2.1, hSB'.2.2.2.1, ?_⟩, Fg_trans hMW.2.2.1 hF2 (Fg_of k3)⟩
      rw [Mods_0, List.take_of_length_le (by simp; omega)]
      exact k2
    · have hn0' : 0 < n := by omega
      have hF3 : Fm m r r M2 (zsI M2 (m + 3) 0 (nI 0)) := Fm_row
      have hSB3 := SB_F hm eSB hF3
      rw [if_pos (by rw [ne_eq, n_eq (by omega) (by omega)]; exact hn0), mo_R7 eSB.1 hm, Option.bind_some, mo_t3 eSB.1 hm (by omega), Option.bind_some, mo_g hSB3.1 hm, Option.bind_some, hSB3.2.1, c_everyPoint n (by omega), Option.bind_some, n_1, n_xor, every_1 n hn hn0']
      have h01 := wtg_0 hn0'
      obtain ⟨r', M', k1, k2, k3, k4⟩ := c_extend hn hn0' hm hL hw (2 * n - 1) [0] [0] r [] (zsI M2 (m + 3) 0 (nI 0)) FD (Gd_0 hn0') (by simp; omega) (by simp) rfl (by rw [h01]; simp; omega) (by show _ < 20; omega) hSB3 (by
        intro i hi
        have : i = 0 := by simpa using hi
        subst this
        rw [zI_same]; rfl) (MW_row eMW) hw0 (by show zS M2 + lv (zL M2 r) ≤ _; omega) (by show zU M2 + lu (zL M2 r) ≤ _; omega)
      rw [open_1 n hn hn0', Mods_first hn0', List.nil_append] at *
      have k1' : fp_X1_extend FD m (nI 1) (nI (bs (wtg [0]) n)) (nI 1) (nI 0) 0 (zsI M2 (m + 3) 0 (nI 0)) = some M' := k1
      have hSB' := SB_F hm hSB3 k4
      refine ⟨r', M', by rw [k1', Option.bind_some], ⟨hSB'.2.1, ?_, hSB'.2.2.1, hSB'.2.2.2.1, k3⟩, Fg_trans hMW.2.2.1 hF2 (Fg_of (Fm_trans eMW.2.2.1 hF3 k4))⟩
      rw [k4.2.1 3 (by decide), hF3.2.1 3 (by decide), e3']
  rw [mo_ts hC hm, mo_g hC hm, Option.bind_some, zjn_eq, ← hT]
  rcases h with ⟨h1, _⟩ | ⟨n', L', w', b1, b2, b3, h⟩
  · rw [if_pos (by rw [h1]; intro q; have := n_neg (a := n) (by omega); rw [← q] at this; exact this.mp rfl)]
    exact main
  · obtain ⟨q1, q2, q3, q4, q5⟩ := h
    rw [q1]
    by_cases c1 : n' = n
    · rw [if_neg (by rw [c1]; exact fun q => q rfl), mo_g hC hm, Option.bind_some, q2]
      have l1 := lt31 b1 b2
      have l2 := lt31 hn hL
      by_cases c2 : L' = L
      · rw [if_neg (by rw [c2]; exact fun q => q rfl), mo_g hC hm, Option.bind_some, q4]
        by_cases c3 : w' = want
        · rw [if_neg (by rw [c3]; exact fun q => q rfl)]
          subst c1 c2 c3
          exact ⟨r, M, rfl, ⟨q1, q2, q3, q4, q5⟩, Fg_refl⟩
        · rw [if_pos (by rw [ne_eq, n_eq (by omega) (by omega)]; exact c3)]
          exact main
      · rw [if_pos (by rw [ne_eq, n_eq l1 l2]; exact c2)]
        exact main
    · rw [if_pos (by rw [ne_eq, n_eq (by omega) (by omega)]; exact c1)]
      exact main
/-! what is told of the words -/
theorem c_wordAt {m r i : Nat} {ws : List (List Nat)} {M : zM} (hm : zMo m) (hC : zC M) (h : MW m r ws M) (hi : i < ws.length) : fp_X1_wordAt m (nI i) M = some (jI (pw (ws.getD i []))) := by
  unfold fp_X1_wordAt
  have hR := MW_R hC hm h
  obtain ⟨h1, h2, h3, h4, h5, h6, h7, h8⟩ := h
  rw [mo_ts hC hm, if_neg (by rw [n_lt0 (by omega)]; exact id), mo_g hC hm, Option.bind_some, h5, go hi (by omega), hR, Option.bind_some, zlnJ h3 h4, Option.bind_some, go (show i < zL M r by omega) (by omega), Option.bind_some, zlJ_ok h3 h4 rfl (by omega) (by omega), h6 i hi]
  rfl
theorem pw_last {a : List Nat} {x : Nat} (hx : x < 16) : pw (a ++ [x]) &&& 15 = x ∧ pw (a ++ [x]) >>> 4 = pw a := by
  rw [pw_snoc]
  refine ⟨?_, ?_⟩
  · rw [show 15 = 2 ^ 4 - 1 from rfl, Nat.and_two_pow_sub_one_eq_mod]
    omega
  · rw [Nat.shiftRight_eq_div_pow]; omega
theorem j_15 {a : Nat} : (jI a &&& 15).toInt32 = nI (a &&& 15) := by
  rw [show (15 : Int64) = jI 15 from by decide, j_and, j_to]
theorem j_sh4 {a : Nat} (h : a < 2 ^ 63) : jI a >>> ((4 : Int32).toInt64 &&& 63) = jI (a >>> 4) := by
  rw [n_4, j_shr h (by omega)]
theorem take_last {w : List Nat} {k : Nat} (h : k < w.length) : w.take (k + 1) = w.take k ++ [w.getD k 0] := tk h
theorem c_spell {m r i n : Nat} {ws : List (List Nat)} {w : List Nat} {M : zM} (hm : zMo m) (hC : zC M) (h : MW m r ws M) (hi : i < ws.length) (hw : ws.getD i [] = w) (hl : zI M m 4 = nI (2 * n)) (hn : n < 8) (hlen : w.length = 2 * n) (h16 : ∀ x ∈ w, x < 16) :
    ∃ M', fp_X1_spell m (nI i) 45 M = some M' ∧ Fc (fun a => a = 45) M M' ∧ AN M' 45 w := by
  unfold fp_X1_spell
  have L45 : zL M 45 = 14 := hC.2.2 (45, 14) (by decide +kernel)
  have ln45 : zln M 45 = some (nI 14) := by rw [← L45]; exact zln_ok (zC_lt hC (by decide)) (by decide) (by decide) rfl
  rw [mo_ts hC hm, c_wordAt hm hC h hi, Option.bind_some, mo_g hC hm, Option.bind_some, ln45, Option.bind_some, lett_eq, hl, n_min (by omega) (by omega), Nat.min_eq_left (by omega), hw]
  have key : ∀ k M1 f, k ≤ w.length → k < f → Fc (fun a => a = 45) M M1 → (∀ j, k ≤ j → j < w.length → zI M1 45 j = nI (w.getD j 0)) → ∃ M', fp_X1_spell_L19 45 f (jI (pw (w.take k))) (nI k - 1) M1 = some M' ∧ Fc (fun a => a = 45) M M' ∧ ∀ j, j < w.length → zI M' 45 j = nI (w.getD j 0) := by
    intro k
    induction k with
    | zero =>
      intro M1 f h1 h2 h3 h4
      obtain ⟨f, rfl⟩ : ∃ g, f = g + 1 := ⟨f - 1, by omega⟩
      exact ⟨M1, by rw [fp_X1_spell_L19, if_pos (by decide)], h3, fun j hj => h4 j (Nat.zero_le _) hj⟩
    | succ k ih =>
      intro M1 f h1 h2 h3 h4
      obtain ⟨f, rfl⟩ : ∃ g, f = g + 1 := ⟨f - 1, by omega⟩
      have hk : k < w.length := by omega
      have hx := h16 _ (getD_mem hk)
      have hC1 := Fc_C h3 hC
      have hpw : pw (w.take (k + 1)) < 2 ^ 63 := pw14 (fun z hz => h16 z (List.mem_of_mem_take hz)) (by rw [List.length_take]; omega)
      obtain ⟨l1, l2⟩ := pw_last (a := w.take k) hx
      have L45' : zL M1 45 = 14 := by
        have : zL M1 = zL M := congrArg (fun x => x.2.2.1) h3.1
        rw [this, L45]
      rw [n_1, n_sub (by omega), Nat.add_sub_cancel, fp_X1_spell_L19, if_neg (by rw [n_lt0 (by omega)]; exact id), j_15, take_last hk, l1, ztI_ok (zC_lt hC1 (by decide)) rfl L45' (by omega) (by omega), Option.bind_some, lett_eq, j_sh4 (by rw [← take_last hk]; exact hpw), l2]
      have e : nI k + (-1) = nI k - 1 := by rw [Int32.sub_eq_add_neg]
      rw [e]
      exact ih _ f (by omega) (by omega) (Fc_trans h3 (Fc_sI rfl)) fun j hj hjw => by
        by_cases hjk : j = k
        · rw [hjk, zI_same]
        · rw [zI_other _ _ (Or.inr hjk), h4 j (by omega) hjw]
  obtain ⟨M', e1, e2, e3⟩ := key w.length M FU (Nat.le_refl _) (FU_gt (by omega)) Fc_refl (fun j h1 h2 => by omega)
  rw [List.take_length, hlen] at e1
  refine ⟨M', e1, e2, ?_⟩
  have hC' := Fc_C e2 hC
  have L45' : zL M' 45 = 14 := by
    have : zL M' = zL M := congrArg (fun x => x.2.2.1) e2.1
    rw [this, L45]
  exact ⟨zC_lt hC' (by decide), rfl, by omega, by omega, e3⟩
/-- where a word stands in a list that rises -/
theorem c_indexOf {m r X : Nat} {ws : List (List Nat)} {M : zM} (hm : zMo m) (hC : zC M) (h : MW m r ws M) (hX : X < 2 ^ 63) (hb : ∀ w ∈ ws, pw w < 2 ^ 63) (hup : ∀ i j, i < j → j < ws.length → pw (ws.getD i []) < pw (ws.getD j [])) (hlen : ws.length < 2 ^ 17) :
    fp_X1_indexOf m (jI X) M = some (-1) ∧ (∀ i, i < ws.length → pw (ws.getD i []) ≠ X) ∨ ∃ i, i < ws.length ∧ pw (ws.getD i []) = X ∧ fp_X1_indexOf m (jI X) M = some (nI i) := by
  unfold fp_X1_indexOf
  have h5 := h.2.2.2.2.1
  rw [mo_ts hC hm, mo_g hC hm, Option.bind_some, lett_eq, h5]
  have gm : ∀ i, i < ws.length → ws.getD i [] ∈ ws := fun i hi => by
    simp only [List.getD, List.getElem?_eq_getElem hi, Option.getD_some]
    exact List.getElem_mem hi
  have key : ∀ d lo hi rd f, hi ≤ lo + 2 ^ d - 1 → rd + d ≤ 31 → d < f → lo ≤ hi → hi ≤ ws.length → (∀ i, i < lo → pw (ws.getD i []) < X) → (∀ i, hi ≤ i → i < ws.length → X < pw (ws.getD i [])) →
      (fp_X1_indexOf_L13 m (jI X) M f (nI lo) (nI hi - 1) (nI rd) = some (-1) ∧ ∀ i, i < ws.length → pw (ws.getD i []) ≠ X) ∨ ∃ i, i < ws.length ∧ pw (ws.getD i []) = X ∧ fp_X1_indexOf_L13 m (jI X) M f (nI lo) (nI hi - 1) (nI rd) = some (nI i) := by
    have stop : ∀ lo hi rd f, hi = lo → rd ≤ 31 → hi ≤ ws.length → (∀ i, i < lo → pw (ws.getD i []) < X) → (∀ i, hi ≤ i → i < ws.length → X < pw (ws.getD i [])) → (fp_X1_indexOf_L13 m (jI X) M (f + 1) (nI lo) (nI hi - 1) (nI rd) = some (-1) ∧ ∀ i, i < ws.length → pw (ws.getD i []) ≠ X) := by
      intro lo hi rd f h1 h2 h3 h4 h6
      subst h1
      refine ⟨?_, fun i hi' => ?_⟩
      · rw [fp_X1_indexOf_L13, if_neg (by rw [show (32 : Int32) = nI 32 from by decide, ge_iff_le, n_le (by omega) (by omega)]; omega)]
        rw [if_pos]
        cases hi with
        | zero => decide
        | succ k =>
          rw [n_1, n_sub (by omega), gt_iff_lt, n_lt (by omega) (by omega)]; omega
      · by_cases q : i < hi
        · exact Nat.ne_of_lt (h4 i q)
        · exact Nat.ne_of_gt (h6 i (by omega) hi')
    intro d
    induction d with
    | zero =>
      intro lo hi rd f h1 h2 h3 h4 h6 h7 h8
      obtain ⟨f, rfl⟩ : ∃ g, f = g + 1 := ⟨f - 1, by omega⟩
      rw [Nat.pow_zero] at h1
      exact Or.inl (stop lo hi rd f (by omega) (by omega) h6 h7 h8)
    | succ d ih =>
      intro lo hi rd f h1 h2 h3 h4 h6 h7 h8
      obtain ⟨f, rfl⟩ : ∃ g, f = g + 1 := ⟨f - 1, by omega⟩
      by_cases hz : hi = lo
      · exact Or.inl (stop lo hi rd f hz (by omega) h6 h7 h8)
      · have hmid : (lo + (hi - 1)) / 2 < ws.length := by omega
        obtain ⟨k, hk⟩ : ∃ k, k = (lo + (hi - 1)) / 2 := ⟨_, rfl⟩
        have hkl : lo ≤ k := by omega
        have hkh : k < hi := by omega
        have hkb := hb _ (gm k (by omega))
        have hpow : 2 ^ (d + 1) = 2 * 2 ^ d := by rw [Nat.pow_succ, Nat.mul_comm]
        have e1 : nI hi - 1 = nI (hi - 1) := by rw [n_1, n_sub (by omega)]
        rw [fp_X1_indexOf_L13, if_neg (by rw [show (32 : Int32) = nI 32 from by decide, ge_iff_le, n_le (by omega) (by omega)]; omega), e1, if_neg (by rw [gt_iff_lt, n_lt (by omega) (by omega)]; omega), lett_eq, n_add, n_2, n_div (by omega) (by omega) (by omega), ← hk, c_wordAt hm hC h (by omega), Option.bind_some, j_cmp hkb hX]
        by_cases hq : pw (ws.getD k []) = X
        · rw [if_pos hq, if_neg (fun q => q rfl)]
          exact Or.inr ⟨k, by omega, hq, rfl⟩
        · rw [if_neg hq, zjn_eq]
          by_cases hlt : pw (ws.getD k []) < X
          · rw [if_pos hlt, if_pos (by decide), if_neg (by decide), lett_eq, inc, inc, ← e1]
            exact ih (k + 1) hi (rd + 1) f (by omega) (by omega) (by omega) (by omega) h6 (fun i hi' => by
              by_cases q : i = k
              · rw [q]; exact hlt
              · have := hup i k (by omega) (by omega)
                omega) h8
          · rw [if_neg hlt, if_pos (by decide), if_pos (by decide), lett_eq, inc]
            exact ih lo k (rd + 1) f (by omega) (by omega) (by omega) (by omega) (by omega) h7 (fun i h9 h10 => by
              by_cases q : i = k
              · rw [q]; omega
              · have := hup k i (by omega) (by omega)
                omega)
  rw [n_0]
  exact key 17 0 ws.length 0 FU (by omega) (by omega) (FU_gt (by omega)) (by omega) (Nat.le_refl _) (fun i hi => by omega) (fun i h1 h2 => by omega)

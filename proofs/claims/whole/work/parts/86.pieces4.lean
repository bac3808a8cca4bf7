/-! ===== 86: the reference: all pieces, what is asked of them ===== -/
theorem sh1 {k : Nat} (hk : k < 32) : (1 : Int32) <<< (nI k &&& 31) = nI (1 <<< k) := by rw [n_1, n_shl hk]
theorem allm {m : Nat} (hm : m < 32) : ((1 : Int32) <<< (nI m &&& 31)) - (1 : Int32) = nI (1 <<< m - 1) := by rw [sh1 hm, n_1, n_sub (by rw [Nat.shiftLeft_eq, Nat.one_mul]; exact Nat.two_pow_pos _)]
def RpsH (ps : List Pc) (marks : Nat) (M : zM) : Prop := zI M 46 28 = nI ps.length ∧ zI M 46 29 = nI marks ∧ ∀ i, i < ps.length → RcH i (ps.getD i q0) M
abbrev atQ : Nat → Nat → Prop := fun a k => (57 ≤ a ∧ a ≤ 62) ∨ (a = 46 ∧ (k = 28 ∨ k = 29))
theorem scQ {M M' : zM} (h : Fz atQ M M') : Fz scR M M' := Fz_mono h fun a k q => by show (a = 46 ∧ _) ∨ _; omega
theorem NrQ {n L : Nat} {M M' : zM} (h : NrH n L M) (hf : Fz atQ M M') : NrH n L M' := NrH_z h hf (by decide) (fun k => by omega)
theorem atP_Q {t : Nat} : ∀ a k, atP t a k → atQ a k := fun a k q => by rcases q with q | q <;> exact Or.inl (by omega)
theorem okP_get {ps : List Pc} {i : Nat} (h : ∀ q ∈ ps, okP q) (hi : i < ps.length) : okP (ps.getD i q0) := h _ (by simp [List.getD, hi])
theorem RpsH_57 {ps : List Pc} {mk : Nat} {M M' : zM} (h : RpsH ps mk M) (hok : ∀ q ∈ ps, okP q) (hf : Fz (fun a _ => a = 57 ∨ a = 61 ∨ a = 62) M M') : RpsH ps mk M' :=
  ⟨(hf.2 _ _ (by omega)).trans h.1, (hf.2 _ _ (by omega)).trans h.2.1, fun i hi => RcH_z (h.2.2 i hi) hf (by have := (okP_get hok hi).1; omega) (by decide) (fun k _ _ => ⟨by omega, by omega⟩)⟩
theorem L60 {M : zM} (h : zC M) : zL M 60 = 64 := h.2.2 (60, 64) (by decide +kernel)
theorem find_oddl {f : Nat → Bool} {j : Nat} (h : ∀ i, i < j → f (2 * i + 1) = false) : oddl f j = [] := by
  induction j with
  | zero => rfl
  | succ j ih => rw [oddl, ih (fun i hi => h i (by omega)), h j (by omega)]; rfl
theorem oddl_pre (f : Nat → Bool) (j d : Nat) : ∃ t, oddl f (j + d) = oddl f j ++ t := by
  induction d with
  | zero => exact ⟨[], by simp⟩
  | succ d ih =>
    obtain ⟨t, ht⟩ := ih
    refine ⟨t ++ (if f (2 * (j + d) + 1) then [2 * (j + d) + 1] else []), ?_⟩
    rw [← Nat.add_assoc, oddl, ht]
    cases f (2 * (j + d) + 1) <;> simp
theorem head_oddl {f : Nat → Bool} {j n : Nat} (hj : j < n) (hf : f (2 * j + 1) = true) (h : ∀ i, i < j → f (2 * i + 1) = false) : (oddl f n).head? = some (2 * j + 1) := by
  obtain ⟨t, ht⟩ := oddl_pre f (j + 1) (n - (j + 1))
  rw [show j + 1 + (n - (j + 1)) = n by omega] at ht
  rw [ht, oddl, find_oddl h, hf]
  rfl
theorem y_firstSplit {ps : List Pc} {mk i : Nat} {M : zM} (hC : zC M) (h : RpsH ps mk M) (hok : ∀ q ∈ ps, okP q) (hi : i < ps.length) (hl : ps.length < 8) :
    ∃ M', fp_X11_firstSplit 46 (nI i) M = some ((match (spl (ps.getD i q0).1.length (ps.getD i q0).2).head? with | none => -1 | some s => nI s), M') ∧ Fz at57 M M' := by
  unfold fp_X11_firstSplit
  obtain ⟨q, hq⟩ : ∃ q, q = ps.getD i q0 := ⟨_, rfl⟩
  have hR := h.2.2 i hi
  have hokq := okP_get hok hi
  rw [← hq] at hR hokq ⊢
  obtain ⟨m, hm⟩ : ∃ m, m = q.1.length := ⟨_, rfl⟩
  rw [ts_46 hC, gR_46_23 hC, Option.bind_some, lI_58 hC (show i < 8 by omega), Option.bind_some, hR.1]
  unfold RcH at hR
  rw [← hm] at hR ⊢
  have hm8 : m < 8 := by rw [hm]; exact hokq.1
  have h2 := two_pow7 hm8
  have hpos := Nat.two_pow_pos m
  have key : ∀ j0, j0 = 0 → ∀ M1, Fz at57 M M1 → (∀ k, k < j0 → isSp m q.2 (2 * k + 1) = false) → ∃ M', fp_X11_firstSplit_L9 46 (nI i) (nI m) FU (nI (2 * j0 + 1)) M1 = some ((match (spl m q.2).head? with | none => -1 | some s => nI s), M') ∧ Fz at57 M M' := by
    intro j0 hj0
    refine up (P := fun j f => ∀ M1, Fz at57 M M1 → (∀ k, k < j → isSp m q.2 (2 * k + 1) = false) → ∃ M', fp_X11_firstSplit_L9 46 (nI i) (nI m) f (nI (2 * j + 1)) M1 = some ((match (spl m q.2).head? with | none => -1 | some s => nI s), M') ∧ Fz at57 M M') (a := j0) (n := 2 ^ m / 2) ?_ ?_ FU (by rw [hj0]; exact Nat.zero_le _) (FU_gt (by omega))
    · intro f M1 f1 f2
      have e : spl m q.2 = [] := find_oddl f2
      refine ⟨M1, ?_, f1⟩
      rw [fp_X11_firstSplit_L9, pow_n m (by omega), if_pos (by rw [ge_iff_le, n_le (by omega) (by omega)]; omega), e]
      rfl
    · intro j f _ hj ih M1 f1 f2
      have hC1 := Fz_C f1 hC
      have hlt := half_pow hj
      have ho : (2 * j + 1).testBit 0 = true := by rw [Nat.testBit_zero]; exact decide_eq_true (by omega)
      have hcan : canB m (2 * j + 1) = true → isSp m q.2 (2 * j + 1) = (rk m q.2 (2 * j + 1) == 1) := fun z => by
        unfold canB at z
        unfold isSp
        simp only [Bool.and_eq_true] at z
        rw [z.2.1, z.2.2]; rfl
      have hcan0 : canB m (2 * j + 1) = false → isSp m q.2 (2 * j + 1) = false := fun z => by
        unfold canB at z
        unfold isSp
        rw [ho, Bool.true_and] at z
        rw [← Bool.and_assoc, z]; rfl
      have nx : ∀ M2, Fz at57 M M2 → isSp m q.2 (2 * j + 1) = false → ∃ M', fp_X11_firstSplit_L9 46 (nI i) (nI m) f (nI (2 * (j + 1) + 1)) M2 = some ((match (spl m q.2).head? with | none => -1 | some s => nI s), M') ∧ Fz at57 M M' := fun M2 p1 p2 => ih M2 p1 fun k hk => by
        by_cases hkj : k = j
        · rw [hkj]; exact p2
        · exact f2 k (by omega)
      rw [fp_X11_firstSplit_L9, pow_n m (by omega), if_neg (by rw [ge_iff_le, n_le (by omega) (by omega)]; omega), y_canSplit (by omega) (by omega), Option.bind_some, zjn_eq, n_2, n_add, show 2 * j + 1 + 2 = 2 * (j + 1) + 1 by omega]
      cases hc : canB m (2 * j + 1) with
      | false => rw [b_ff, if_pos rfl]; exact nx M1 f1 (hcan0 hc)
      | true =>
        obtain ⟨M2, e1, e2⟩ := y_rank (a := 60) (b := 8 * i) (m := m) (s := 2 * j + 1) (r := row m q.2) hC1 hm8 (by decide) (by decide) rfl (L60 hC1) (by decide) (by omega) (fun p hp => ⟨(f1.2 _ _ (by omega)).trans (hR.2 p hp).2, lt128 hm8 (row_lt _ _ _)⟩) (by omega)
        have hrk := rk_le m q.2 (2 * j + 1)
        rw [b_tt, if_neg (by decide), gR_46_25 hC1, Option.bind_some, e8, e1, Option.bind_some]
        unfold zpp
        dsimp only
        rw [show (gns (2 * j + 1).testBit (fun p => outs (row m q.2 p) (2 * j + 1)) m).length = rk m q.2 (2 * j + 1) from rfl]
        by_cases hr : rk m q.2 (2 * j + 1) = 1
        · have hsp : isSp m q.2 (2 * j + 1) = true := by rw [hcan hc, hr]; rfl
          have e : (spl m q.2).head? = some (2 * j + 1) := head_oddl hj hsp f2
          rw [hr, if_neg (by decide), e]
          exact ⟨M2, rfl, Fz_trans f1 e2⟩
        · rw [if_pos (by rw [n_1, ne_eq, n_eq (by omega) (by decide)]; exact hr)]
          exact nx M2 (Fz_trans f1 e2) (by rw [hcan hc]; simpa using hr)
  have e0 : (1 : Int32) = nI (2 * 0 + 1) := n_1
  rw [e0]
  exact key 0 rfl M Fz_refl fun k hk => absurd hk (Nat.not_lt_zero _)
theorem compl_lt {m s : Nat} (hs : s < 2 ^ m) : outs (1 <<< m - 1) s < 2 ^ m := Nat.lt_of_le_of_lt (outs_le _ _) (all_lt m)
theorem y_takesApart {ps : List Pc} {marks : Nat} {M : zM} (hl : ps.length < 8) (hps : okPs ps) (hC : zC M) (hP : RpsH ps marks M) (hm100 : marks < 100) :
    ∃ M', fp_X11_takesApart 46 M = some (bI (takeP ps (10 + marks)).isSome, M') ∧ Fz atQ M M' ∧ (takeP ps (10 + marks) = none → RpsH ps marks M') ∧ ∀ ps', takeP ps (10 + marks) = some ps' → RpsH ps' (marks + 1) M' := by
  unfold fp_X11_takesApart
  have hok : ∀ q ∈ ps, okP q := fun q hq => (hps.1 q hq).1
  rw [ts_46 hC]
  have loop : ∀ (K : Int32 → Int32 → zM → Option (Int32 × zM)) d p f M1, p + d = ps.length → d < f → Fz at57 M M1 → (∀ j, j < p → spl (ps.getD j q0).1.length (ps.getD j q0).2 = []) →
      ∃ M2, Fz at57 M M2 ∧ fp_X11_takesApart_L2 K 46 f (nI p) M1 = match fstSp ps with
        | none => some (0, M2)
        | some r => K (nI r.1) (nI r.2) M2 := by
    intro K d
    induction d with
    | zero =>
      intro p f M1 h1 h2 h3 h4
      obtain ⟨f, rfl⟩ : ∃ g, f = g + 1 := ⟨f - 1, by omega⟩
      have hC1 := Fz_C h3 hC
      have : p = ps.length := by omega
      subst this
      refine ⟨M1, h3, ?_⟩
      rw [fp_X11_takesApart_L2, gI_46 hC1, Option.bind_some, (h3.2 _ _ (by omega)).trans hP.1, stp]
      cases hf : fstSp ps with
      | none => rfl
      | some r =>
        obtain ⟨i, s⟩ := r
        obtain ⟨a1, a2, a3⟩ := fstSp_some hf
        rw [h4 i a1] at a2; cases a2
    | succ d ih =>
      intro p f M1 h1 h2 h3 h4
      obtain ⟨f, rfl⟩ : ∃ g, f = g + 1 := ⟨f - 1, by omega⟩
      have hC1 := Fz_C h3 hC
      have hp : p < ps.length := by omega
      obtain ⟨M2, e1, e2⟩ := y_firstSplit hC1 (RpsH_57 hP hok (Fz_mono h3 fun a k q => Or.inl q)) hok hp hl
      rw [fp_X11_takesApart_L2, gI_46 hC1, Option.bind_some, (h3.2 _ _ (by omega)).trans hP.1, go hp (by omega), e1, Option.bind_some]
      unfold zpp
      dsimp only
      cases hh : (spl (ps.getD p q0).1.length (ps.getD p q0).2).head? with
      | none =>
        dsimp only
        rw [if_neg (fun z => z rfl), inc]
        refine ih (p + 1) f M2 (by omega) (by omega) (Fz_trans h3 e2) fun j hj => ?_
        by_cases hjp : j = p
        · rw [hjp]; exact List.head?_eq_none_iff.mp hh
        · exact h4 j (by omega)
      | some s =>
        obtain ⟨s1, s2, s3⟩ := head_sp hh
        have h2p := two_pow7 (okP_get hok hp).1
        dsimp only
        rw [if_pos (by rw [ne_eq, n_neg (by omega)]; exact id)]
        refine ⟨M2, Fz_trans h3 e2, ?_⟩
        have : fstSp ps = some (p, s) := by
          cases hf : fstSp ps with
          | none => rw [fstSp_none hf p hp] at hh; cases hh
          | some r =>
            obtain ⟨i, s'⟩ := r
            obtain ⟨a1, a2, a3⟩ := fstSp_some hf
            have : i = p := by
              by_cases z : i < p
              · rw [h4 i z] at a2; cases a2
              · by_cases z2 : p < i
                · rw [a3 p z2] at hh; cases hh
                · omega
            subst this
            rw [hh] at a2; cases a2; rfl
        rw [this]
  obtain ⟨M2, a1, a2⟩ := loop _ ps.length 0 FU M (by omega) (FU_gt (by omega)) Fz_refl (fun j hj => absurd hj (Nat.not_lt_zero _))
  rw [n_0, a2]
  unfold takeP
  have hC2 := Fz_C a1 hC
  have hP2 : RpsH ps marks M2 := RpsH_57 hP hok (Fz_mono a1 fun a k q => Or.inl q)
  have b1 : Fz atQ M M2 := Fz_mono a1 fun a k q => Or.inl (by omega)
  cases hf : fstSp ps with
  | none =>
    exact ⟨M2, rfl, b1, fun _ => hP2, fun ps' q => by cases q⟩
  | some r =>
    obtain ⟨i, s⟩ := r
    obtain ⟨c1, c2, c3⟩ := fstSp_some hf
    obtain ⟨s1, s2, s3⟩ := head_sp c2
    obtain ⟨q, hq⟩ : ∃ q, q = ps.getD i q0 := ⟨_, rfl⟩
    have hR := hP2.2.2 i c1
    have hokq := okP_get hok c1
    rw [Option.map_some]
    dsimp only
    rw [← hq] at hR hokq s1 s2 ⊢
    obtain ⟨d1, d2, d3⟩ := isSp_cnt hokq.1 s1 s2
    obtain ⟨m, hm⟩ : ∃ m, m = q.1.length := ⟨_, rfl⟩
    have hm8 : m < 8 := by rw [hm]; exact hokq.1
    have h2p := two_pow7 hm8
    rw [gR_46_23 hC2, Option.bind_some, lI_58 hC2 (show i < 8 by omega), Option.bind_some, hR.1, ← hm]
    rw [← hm] at s1 d1 d2
    obtain ⟨K, hK⟩ : ∃ K : zM → Option (Int32 × zM), K = fun M18 =>
            (zgI 9 M18 46 29).bind fun (y19 : Int32) =>
            (fp_X11_laysPiece 46 (nI i) (nI s) (10 + y19) M18).bind fun (M20 : zM) =>
            (zgI 9 M20 46 28).bind fun (y21 : Int32) =>
            (zgI 9 M20 46 29).bind fun (y22 : Int32) =>
            (fp_X11_laysPiece 46 y21 (((1 <<< (nI m &&& 31)) - 1) &&& (nI s ^^^ (-1))) (10 + y22) M20).bind fun (M23 : zM) =>
            (zgI 9 M23 46 28).bind fun (y24 : Int32) =>
            (zpI 9 M23 46 28 (y24 + 1)).bind fun (M25 : zM) =>
            (zgI 9 M25 46 29).bind fun (y26 : Int32) =>
            (zpI 9 M25 46 29 (y26 + 1)).bind fun (M27 : zM) =>
            some (1, M27) := ⟨_, rfl⟩
    rw [← hK]
    -- the old rows
    have old : ∀ k0, k0 = 0 → ∀ M3, Fz (fun a _ => a = 61 ∨ a = 62) M2 M3 → (∀ k, k < k0 → zI M3 61 k = nI (q.1.getD k 0) ∧ zI M3 62 k = nI (row m q.2 k)) → ∃ M4, Fz (fun a _ => a = 61 ∨ a = 62) M2 M4 ∧ (∀ k, k < m → zI M4 61 k = nI (q.1.getD k 0) ∧ zI M4 62 k = nI (row m q.2 k)) ∧ fp_X11_takesApart_L34 K 46 (nI i) (nI s) (nI m) FU (nI k0) M3 = K M4 := by
      intro k0 hk0
      refine up (P := fun k f => ∀ M3, Fz (fun a _ => a = 61 ∨ a = 62) M2 M3 → (∀ j, j < k → zI M3 61 j = nI (q.1.getD j 0) ∧ zI M3 62 j = nI (row m q.2 j)) → ∃ M4, Fz (fun a _ => a = 61 ∨ a = 62) M2 M4 ∧ (∀ k, k < m → zI M4 61 k = nI (q.1.getD k 0) ∧ zI M4 62 k = nI (row m q.2 k)) ∧ fp_X11_takesApart_L34 K 46 (nI i) (nI s) (nI m) f (nI k) M3 = K M4) (a := k0) (n := m) ?_ ?_ FU (by omega) (FU_gt (by omega))
      · intro f M3 f1 f2
        exact ⟨M3, f1, f2, by rw [fp_X11_takesApart_L34, stp]⟩
      · intro k f _ hk ih M3 f1 f2
        have hC3 := Fz_C f1 hC2
        have g := hR.2 k (by omega)
        have v1 : zI M3 59 (8 * i + k) = nI (q.1.getD k 0) := (f1.2 _ _ (by omega)).trans g.1
        have hC4 : zC (zsI M3 61 k (nI (q.1.getD k 0))) := hC3
        have v2 : zI (zsI M3 61 k (nI (q.1.getD k 0))) 60 (8 * i + k) = nI (row m q.2 k) := by
          rw [zI_other _ _ (Or.inl (by decide)), f1.2 _ _ (by omega), g.2, ← hm]
        rw [fp_X11_takesApart_L34, go hk (by omega), gR_46_26 hC3, Option.bind_some, gR_46_24 hC3, Option.bind_some, e8, n_add, lI_59 hC3 (show 8 * i + k < 64 by omega), Option.bind_some, v1, tI_61 hC3 (show k < 8 by omega), Option.bind_some, gR_46_27 hC4, Option.bind_some, gR_46_25 hC4, Option.bind_some, lI_60 hC4 (show 8 * i + k < 64 by omega), Option.bind_some, v2, tI_62 hC4 (show k < 8 by omega), Option.bind_some, inc]
        refine ih _ (Fz_trans f1 (Fz_trans (Fz_sI (Or.inl rfl)) (Fz_sI (Or.inr rfl)))) fun j hj => ?_
        by_cases hjk : j = k
        · rw [hjk, zI_other _ _ (Or.inl (by decide)), zI_same, zI_same]; exact ⟨rfl, rfl⟩
        · rw [zI_other _ _ (Or.inl (by decide)), zI_other _ _ (Or.inr hjk), zI_other _ _ (Or.inr hjk), zI_other _ _ (Or.inl (by decide))]
          exact f2 j (by omega)
    obtain ⟨M4, g1, g2, g3⟩ := old 0 rfl M2 Fz_refl fun k hk => absurd hk (Nat.not_lt_zero _)
    have hC4 := Fz_C g1 hC2
    have hP4 : RpsH ps marks M4 := RpsH_57 hP2 hok (Fz_mono g1 fun a k q => Or.inr q)
    have hO4 : ∀ k, k < q.1.length → zI M4 61 k = nI (q.1.getD k 0) ∧ zI M4 62 k = nI (row q.1.length q.2 k) := by rw [← hm]; exact g2
    obtain ⟨M5, p1, p2, p3⟩ := y_cutP (t := i) (mark := 10 + marks) hC4 hokq (by rw [← hm]; exact s1) (by omega) (by omega) (by rw [← hm]; omega) hO4
    have hC5 := Fz_C p2 hC4
    have hcc : cnt (outs (1 <<< m - 1) s).testBit m + cnt s.testBit m = m := by rw [all_out s1]; exact cnt_compl
    have hO5 : ∀ k, k < q.1.length → zI M5 61 k = nI (q.1.getD k 0) ∧ zI M5 62 k = nI (row q.1.length q.2 k) := fun k hk => ⟨(p2.2 _ _ (by omega)).trans (hO4 k hk).1, (p2.2 _ _ (by omega)).trans (hO4 k hk).2⟩
    obtain ⟨M6, r1, r2, r3⟩ := y_cutP (t := ps.length) (mark := 10 + marks) (s := outs (1 <<< m - 1) s) hC5 hokq (by rw [← hm]; exact compl_lt s1) (by omega) (by omega) (by rw [← hm]; omega) hO5
    have hC6 := Fz_C r2 hC5
    have v29 : zI M5 46 29 = nI marks := (p2.2 _ _ (by omega)).trans hP4.2.1
    have v28 : zI M5 46 28 = nI ps.length := (p2.2 _ _ (by omega)).trans hP4.1
    have w28 : zI M6 46 28 = nI ps.length := (r2.2 _ _ (by omega)).trans v28
    have w29 : zI M6 46 29 = nI marks := (r2.2 _ _ (by omega)).trans v29
    have hC7 : zC (zsI M6 46 28 (nI (ps.length + 1))) := hC6
    have e10 : ∀ x, (10 : Int32) + nI x = nI (10 + x) := fun x => by rw [show (10 : Int32) = nI 10 from by decide, n_add]
    refine ⟨zsI (zsI M6 46 28 (nI (ps.length + 1))) 46 29 (nI (marks + 1)), ?_, ?_, (fun z => by cases z), fun ps' hps' => ?_⟩
    · rw [g3, hK]
      dsimp only
      rw [gI_46 hC4, Option.bind_some, hP4.2.1, e10, p1, Option.bind_some, gI_46 hC5, Option.bind_some, gI_46 hC5, Option.bind_some, v28, v29, e10, allm (by omega), n_not, r1, Option.bind_some, gI_46 hC6, Option.bind_some, w28, inc, pI_46 hC6, Option.bind_some, gI_46 hC7, Option.bind_some, zI_other _ _ (Or.inr (by decide)), w29, inc, pI_46 hC7, Option.bind_some]
      rfl
    · refine Fz_trans b1 (Fz_trans (Fz_mono g1 fun a k q => Or.inl (by omega)) (Fz_trans (Fz_mono p2 atP_Q) (Fz_trans (Fz_mono r2 atP_Q) (Fz_trans (Fz_sI (Or.inr ⟨rfl, Or.inl rfl⟩)) (Fz_sI (Or.inr ⟨rfl, Or.inr rfl⟩))))))
    · cases hps'
      have f7 : Fz (fun a k => a = 46) M6 (zsI (zsI M6 46 28 (nI (ps.length + 1))) 46 29 (nI (marks + 1))) := Fz_trans (Fz_sI rfl) (Fz_sI rfl)
      have hl1 : (cutP q s (10 + marks)).1.length ≤ 8 := by rw [cutP_len, ← hm]; omega
      have hl2 : (cutP q (outs (1 <<< m - 1) s) (10 + marks)).1.length ≤ 8 := by rw [cutP_len, ← hm]; omega
      refine ⟨?_, zI_same _ _ _ _, fun j hj => ?_⟩
      · rw [zI_other _ _ (Or.inr (by decide)), zI_same, List.length_append, List.length_set]; rfl
      · rw [List.length_append, List.length_set] at hj
        have hj2 : j < ps.length + 1 := hj
        by_cases hjl : j < ps.length
        · rw [getD_app_l (by rw [List.length_set]; exact hjl)]
          by_cases hji : j = i
          · have e : (ps.set i (cutP q s (10 + marks))).getD j q0 = cutP q s (10 + marks) := by rw [hji]; simp [List.getD, List.getElem?_set, c1]
            rw [e, hji]
            refine RcH_z (RcH_z p3 r2 hl1 (by omega) (fun k _ _ => ⟨by omega, by omega⟩)) f7 hl1 (by decide) (fun k _ _ => ⟨by omega, by omega⟩)
          · have e : (ps.set i (cutP q s (10 + marks))).getD j q0 = ps.getD j q0 := by
              have hij : ¬ i = j := fun z => hji z.symm
              simp [List.getD, List.getElem?_set, hij]
            rw [e]
            have hl3 : (ps.getD j q0).1.length ≤ 8 := by have := (okP_get hok hjl).1; omega
            exact RcH_z (RcH_z (RcH_z (hP4.2.2 j hjl) p2 hl3 (by omega) (fun k _ _ => ⟨by omega, by omega⟩)) r2 hl3 (by omega) (fun k _ _ => ⟨by omega, by omega⟩)) f7 hl3 (by decide) (fun k _ _ => ⟨by omega, by omega⟩)
        · have hje : j = ps.length := by omega
          rw [hje, show (ps.set i (cutP q s (10 + marks)) ++ [cutP q ((1 <<< m - 1) ^^^ s) (10 + marks)]).getD ps.length q0 = cutP q ((1 <<< m - 1) ^^^ s) (10 + marks) from by
            have : ps.length = (ps.set i (cutP q s (10 + marks))).length := by rw [List.length_set]
            rw [this]; exact getD_app_r, ← all_out s1]
          exact RcH_z r3 f7 hl2 (by decide) (fun k _ _ => ⟨by omega, by omega⟩)

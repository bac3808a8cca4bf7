/-! ===== 85: the reference: pieces ===== -/
def mkV (mark : Option Nat) : Int32 := match mark with | none => -1 | some x => nI x
theorem e8 (t : Nat) : (8 : Int32) * nI t = nI (8 * t) := by rw [n_8, n_mul]
theorem cnt8 {s m : Nat} (hs : s < 2 ^ m) (hm : m ≤ 8) : cnt s.testBit 8 = cnt s.testBit m := cnt_more (fun i hi => tb_of_lt hs hi) hm
theorem y_pieceRow {s m t k x : Nat} {v3 v4 v5 : Int32} {M : zM} (K : Int32 → Option zM) (hC : zC M) (hm : m < 8) (hs : s < 2 ^ m) (hk : k < 8) (hx : x < 128) (h : zI M 62 k = nI x) :
    fp_X11_laysPiece_L53 K 46 (nI t) (nI s) v3 v4 v5 (nI k) M FU 0 0 0 = K (nI (bs (fun j => x.testBit (sel s.testBit m j)) (cnt s.testBit m))) := by
  have hs1 := lt128 hm hs
  rw [show fp_X11_laysPiece_L53 K 46 (nI t) (nI s) v3 v4 v5 (nI k) M FU 0 0 0 = fp_X11_laysPiece_L53 K 46 (nI t) (nI s) v3 v4 v5 (nI k) M FU (nI (bs (fun j => x.testBit (sel s.testBit m j)) (cnt s.testBit 0))) (nI (cnt s.testBit 0)) (nI 0) from by rw [show cnt s.testBit 0 = 0 from rfl, show bs (fun j => x.testBit (sel s.testBit m j)) 0 = 0 from rfl, n_0]]
  refine up (P := fun o f => fp_X11_laysPiece_L53 K 46 (nI t) (nI s) v3 v4 v5 (nI k) M f (nI (bs (fun j => x.testBit (sel s.testBit m j)) (cnt s.testBit o))) (nI (cnt s.testBit o)) (nI o) = K (nI (bs (fun j => x.testBit (sel s.testBit m j)) (cnt s.testBit m)))) (a := 0) (n := 8) ?_ ?_ FU (by omega) (FU_gt (by omega))
  · intro f
    rw [fp_X11_laysPiece_L53, if_pos (by decide), cnt8 hs (by omega)]
  · intro o f _ ho ih
    rw [fp_X11_laysPiece_L53, if_neg (by rw [n_8, ge_iff_le, n_le (by omega) (by omega)]; omega), y_has1 hs1 (by omega), Option.bind_some, zjn_eq, inc]
    cases hso : s.testBit o with
    | false =>
      have e : cnt s.testBit (o + 1) = cnt s.testBit o := by rw [cnt, hso]; rfl
      rw [if_neg (by decide)]
      rw [e] at ih; exact ih
    | true =>
      have e : cnt s.testBit (o + 1) = cnt s.testBit o + 1 := by rw [cnt, hso]; rfl
      have hom : o < m := by
        by_cases z : o < m
        · exact z
        · rw [tb_of_lt hs (by omega)] at hso; cases hso
      have hc := cnt_le s.testBit o
      rw [if_pos (by decide), gR_46_27 hC, Option.bind_some, lI_62 hC hk, Option.bind_some, h, y_has1 hx (by omega), Option.bind_some, zjn_eq]
      have hs2 : sel s.testBit m (cnt s.testBit o) = o := sel_at hom hso
      rw [e] at ih
      cases hxo : x.testBit o with
      | false =>
        rw [bs_skip (by rw [hs2]; exact hxo)] at ih
        rw [b_ff, if_pos rfl]
        dsimp only
        rw [lett_eq, n_0, n_or, Nat.or_zero, inc]
        exact ih
      | true =>
        rw [bs_take (by rw [hs2]; exact hxo)] at ih
        rw [b_tt, if_neg (by decide)]
        dsimp only
        rw [lett_eq, n_1, n_shl (by omega), n_or, n_add]
        exact ih
def lrw (s m : Nat) (rf : Nat → Nat) (mk : Bool) (j : Nat) : Nat := bs (fun i => (rf (sel s.testBit m j)).testBit (sel s.testBit m i)) (cnt s.testBit m) ||| (if mk && outs (rf (sel s.testBit m j)) s != 0 then 1 <<< cnt s.testBit m else 0)
def mrw (s m : Nat) (rf : Nat → Nat) (mk : Bool) (i : Nat) : Nat := bs (fun j => mk && outs (rf (sel s.testBit m j)) s != 0) i
abbrev atP (t : Nat) : Nat → Nat → Prop := fun a k => (a = 58 ∧ k = t) ∨ ((a = 59 ∨ a = 60) ∧ 8 * t ≤ k ∧ k < 8 * t + 8)
theorem y_laysPiece {m s t : Nat} {kf rf : Nat → Nat} {mark : Option Nat} {M : zM} (hC : zC M) (hm : m < 8) (hs : s < 2 ^ m) (ht : t < 8) (hmk : ∀ x, mark = some x → x < 1000 ∧ cnt s.testBit m < 7) (hO : ∀ k, k < m → zI M 61 k = nI (kf k) ∧ zI M 62 k = nI (rf k) ∧ rf k < 128) :
    ∃ M', fp_X11_laysPiece 46 (nI t) (nI s) (mkV mark) M = some M' ∧ Fz (atP t) M M' ∧ zI M' 58 t = nI (cnt s.testBit m + (if mark.isSome then 1 else 0)) ∧
      (∀ j, j < cnt s.testBit m → zI M' 59 (8 * t + j) = nI (kf (sel s.testBit m j)) ∧ zI M' 60 (8 * t + j) = nI (lrw s m rf mark.isSome j)) ∧
      ∀ x, mark = some x → zI M' 59 (8 * t + cnt s.testBit m) = nI x ∧ zI M' 60 (8 * t + cnt s.testBit m) = nI (mrw s m rf true (cnt s.testBit m)) := by
  unfold fp_X11_laysPiece
  have hs1 := lt128 hm hs
  have hpc : pc s = cnt s.testBit m := pc_of hs (by omega)
  obtain ⟨c, hc⟩ : ∃ c, c = cnt s.testBit m := ⟨_, rfl⟩
  have hcm : c ≤ m := by rw [hc]; exact cnt_le _ _
  rw [← hc] at hmk hpc ⊢
  rw [ts_46 hC, y_bits (by omega), Option.bind_some, gR_46_25 hC, Option.bind_some, e8, hpc, n_add, tI_60 hC (show 8 * t + c < 64 by omega), Option.bind_some]
  -- the end
  obtain ⟨K, hK⟩ : ∃ K : zM → Option zM, K = fun M31 =>
        zjn (fun (M32 : zM) =>
            (zgR 9 M32 46 23).bind fun (y33 : Nat) =>
            if mkV mark ≠ (-1) then (
              (ztI M32 y33 (nI t) (nI c + 1)).bind fun (M34 : zM) =>
              some M34)
            else (
              (ztI M32 y33 (nI t) (nI c)).bind fun (M35 : zM) =>
              some M35))
          (fun j216 =>
            if mkV mark = (-1) then (
              j216 M31)
            else (
              (zgR 9 M31 46 24).bind fun (y36 : Nat) =>
              (ztI M31 y36 (nI (8 * t + c)) (mkV mark)).bind fun (M37 : zM) =>
              j216 M37)) := ⟨_, rfl⟩
  rw [← hK]
  have hmv : ∀ x, mark = some x → mkV mark = nI x ∧ ¬ mkV mark = -1 := fun x e => by
    rw [e]; exact ⟨rfl, by show ¬ nI x = -1; rw [n_neg (by have := (hmk x e).1; omega)]; exact id⟩
  have fin : ∀ M1, Fz (atP t) M M1 → (∀ j, j < c → zI M1 59 (8 * t + j) = nI (kf (sel s.testBit m j)) ∧ zI M1 60 (8 * t + j) = nI (lrw s m rf mark.isSome j)) → zI M1 60 (8 * t + c) = nI (mrw s m rf mark.isSome c) → ∃ M', K M1 = some M' ∧ Fz (atP t) M M' ∧ zI M' 58 t = nI (c + (if mark.isSome then 1 else 0)) ∧
      (∀ j, j < c → zI M' 59 (8 * t + j) = nI (kf (sel s.testBit m j)) ∧ zI M' 60 (8 * t + j) = nI (lrw s m rf mark.isSome j)) ∧
      ∀ x, mark = some x → zI M' 59 (8 * t + c) = nI x ∧ zI M' 60 (8 * t + c) = nI (mrw s m rf true c) := by
    intro M1 f1 f2 f3
    have hC1 := Fz_C f1 hC
    rw [hK]
    dsimp only
    rw [zjn_eq]
    cases hma : mark with
    | none =>
      rw [show mkV (none : Option Nat) = -1 from rfl, if_pos rfl]
      dsimp only
      rw [gR_46_23 hC1, Option.bind_some, if_neg (fun z => z rfl), tI_58 hC1 ht, Option.bind_some]
      rw [hma] at f2
      refine ⟨_, rfl, Fz_trans f1 (Fz_sI (Or.inl ⟨rfl, rfl⟩)), zI_same _ _ _ _, fun j hj => ?_, fun x q => by cases q⟩
      rw [zI_other _ _ (Or.inl (by decide)), zI_other _ _ (Or.inl (by decide))]
      exact f2 j hj
    | some x =>
      obtain ⟨x1, x2⟩ := hmv x hma
      have x3 := (hmk x hma).2
      rw [hma] at x1 x2 f2 f3
      have hC2 : zC (zsI M1 59 (8 * t + c) (nI x)) := hC1
      rw [if_neg x2, gR_46_24 hC1, Option.bind_some, tI_59 hC1 (show 8 * t + c < 64 by omega), Option.bind_some, x1]
      dsimp only
      rw [gR_46_23 hC2, Option.bind_some, if_pos (by rw [← x1]; exact x2), inc, tI_58 hC2 ht, Option.bind_some]
      refine ⟨_, rfl, Fz_trans f1 (Fz_trans (Fz_sI (Or.inr ⟨Or.inl rfl, by omega, by omega⟩)) (Fz_sI (Or.inl ⟨rfl, rfl⟩))), zI_same _ _ _ _, fun j hj => ?_, fun y hy => ?_⟩
      · obtain ⟨k1, k2⟩ := f2 j hj
        exact ⟨by rw [zI_other _ _ (Or.inl (by decide)), zI_other _ _ (Or.inr (by omega))]; exact k1, by rw [zI_other _ _ (Or.inl (by decide)), zI_other _ _ (Or.inl (by decide))]; exact k2⟩
      · cases hy
        exact ⟨by rw [zI_other _ _ (Or.inl (by decide)), zI_same], by rw [zI_other _ _ (Or.inl (by decide)), zI_other _ _ (Or.inl (by decide))]; exact f3⟩
  have st0 : fp_X11_laysPiece_L25 K 46 (nI t) (nI s) (mkV mark) (nI c) FU 0 0 (zsI M 60 (8 * t + c) 0) = fp_X11_laysPiece_L25 K 46 (nI t) (nI s) (mkV mark) (nI c) FU (nI (cnt s.testBit 0)) (nI 0) (zsI M 60 (8 * t + c) 0) := by
    have : (0 : Int32) = nI (cnt s.testBit 0) := n_0
    rw [← this, ← n_0]
  rw [st0]
  refine up (P := fun k f => ∀ M1, Fz (atP t) M M1 → (∀ j, j < cnt s.testBit k → zI M1 59 (8 * t + j) = nI (kf (sel s.testBit m j)) ∧ zI M1 60 (8 * t + j) = nI (lrw s m rf mark.isSome j)) → zI M1 60 (8 * t + c) = nI (mrw s m rf mark.isSome (cnt s.testBit k)) → ∃ M', fp_X11_laysPiece_L25 K 46 (nI t) (nI s) (mkV mark) (nI c) f (nI (cnt s.testBit k)) (nI k) M1 = some M' ∧ Fz (atP t) M M' ∧ zI M' 58 t = nI (c + (if mark.isSome then 1 else 0)) ∧
      (∀ j, j < c → zI M' 59 (8 * t + j) = nI (kf (sel s.testBit m j)) ∧ zI M' 60 (8 * t + j) = nI (lrw s m rf mark.isSome j)) ∧
      ∀ x, mark = some x → zI M' 59 (8 * t + c) = nI x ∧ zI M' 60 (8 * t + c) = nI (mrw s m rf true c)) (a := 0) (n := 8) ?_ ?_ FU (by omega) (FU_gt (by omega)) (zsI M 60 (8 * t + c) 0) (Fz_sI (Or.inr ⟨Or.inr rfl, by omega, by omega⟩)) (fun j hj => absurd hj (Nat.not_lt_zero _)) (by rw [zI_same]; exact n_0)
  · intro f M1 f1 f2 f3
    rw [cnt8 hs (by omega), ← hc] at f2 f3
    rw [fp_X11_laysPiece_L25, if_pos (by decide)]
    exact fin M1 f1 f2 f3
  · intro k f _ hk ih M1 f1 f2 f3
    have hC1 := Fz_C f1 hC
    rw [fp_X11_laysPiece_L25, if_neg (by rw [n_8, ge_iff_le, n_le (by omega) (by omega)]; omega), y_has1 hs1 (by omega), Option.bind_some, zjn_eq, inc]
    cases hsk : s.testBit k with
    | false =>
      have e : cnt s.testBit (k + 1) = cnt s.testBit k := by rw [cnt, hsk]; rfl
      rw [if_neg (by decide)]
      rw [e] at ih
      exact ih M1 f1 f2 f3
    | true =>
      have hkm : k < m := by
        by_cases z : k < m
        · exact z
        · rw [tb_of_lt hs (by omega)] at hsk; cases hsk
      have e : cnt s.testBit (k + 1) = cnt s.testBit k + 1 := by rw [cnt, hsk]; rfl
      have hck : cnt s.testBit k < c := by
        have := cnt_pref s.testBit (show k + 1 ≤ m by omega)
        omega
      obtain ⟨o1, o2, o3⟩ := hO k hkm
      have v61 : zI M1 61 k = nI (kf k) := (f1.2 61 k (by omega)).trans o1
      have v62 : zI M1 62 k = nI (rf k) := (f1.2 62 k (by omega)).trans o2
      have hs2 : sel s.testBit m (cnt s.testBit k) = k := sel_at hkm hsk
      rw [b_tt, if_pos (by decide), y_pieceRow _ hC1 hm hs hk o3 v62, zjn_eq, e8]
      rw [e] at ih
      obtain ⟨i, hi⟩ : ∃ i, i = cnt s.testBit k := ⟨_, rfl⟩
      rw [← hi] at hck hs2 f2 f3 ih ⊢
      -- the knot laid
      have lay : ∀ r M2, Fz (atP t) M M2 → (∀ j, j < i → zI M2 59 (8 * t + j) = nI (kf (sel s.testBit m j)) ∧ zI M2 60 (8 * t + j) = nI (lrw s m rf mark.isSome j)) → zI M2 60 (8 * t + c) = nI (mrw s m rf mark.isSome (i + 1)) → r = lrw s m rf mark.isSome i → ∃ M', ((zgR 9 M2 46 24).bind fun (y19 : Nat) =>
                    (zgR 9 M2 46 26).bind fun (y20 : Nat) =>
                    (zlI 100 M2 y20 (nI k)).bind fun (y21 : Int32) =>
                    (ztI M2 y19 (nI (8 * t) + nI i) y21).bind fun (M22 : zM) =>
                    (zgR 9 M22 46 25).bind fun (y23 : Nat) =>
                    (ztI M22 y23 (nI (8 * t) + nI i) (nI r)).bind fun (M24 : zM) =>
                    fp_X11_laysPiece_L25 K 46 (nI t) (nI s) (mkV mark) (nI c) f (nI i + 1) (nI (k + 1)) M24) = some M' ∧ Fz (atP t) M M' ∧ zI M' 58 t = nI (c + (if mark.isSome then 1 else 0)) ∧
      (∀ j, j < c → zI M' 59 (8 * t + j) = nI (kf (sel s.testBit m j)) ∧ zI M' 60 (8 * t + j) = nI (lrw s m rf mark.isSome j)) ∧
      ∀ x, mark = some x → zI M' 59 (8 * t + c) = nI x ∧ zI M' 60 (8 * t + c) = nI (mrw s m rf true c) := by
        intro r M2 p1 p2 p3 p4
        have hC2 := Fz_C p1 hC
        have w61 : zI M2 61 k = nI (kf k) := (p1.2 61 k (by omega)).trans o1
        have hC3 : zC (zsI M2 59 (8 * t + i) (nI (kf k))) := hC2
        rw [gR_46_24 hC2, Option.bind_some, gR_46_26 hC2, Option.bind_some, lI_61 hC2 hk, Option.bind_some, w61, n_add, tI_59 hC2 (show 8 * t + i < 64 by omega), Option.bind_some, gR_46_25 hC3, Option.bind_some, tI_60 hC3 (show 8 * t + i < 64 by omega), Option.bind_some, inc]
        refine ih _ (Fz_trans p1 (Fz_trans (Fz_sI (Or.inr ⟨Or.inl rfl, by omega, by omega⟩)) (Fz_sI (Or.inr ⟨Or.inr rfl, by omega, by omega⟩)))) (fun j hj => ?_) ?_
        · by_cases hji : j = i
          · rw [hji, zI_other _ _ (Or.inl (by decide)), zI_same, zI_same, hs2, p4]
            exact ⟨rfl, rfl⟩
          · rw [zI_other _ _ (Or.inl (by decide)), zI_other _ _ (Or.inr (by omega)), zI_other _ _ (Or.inr (by omega)), zI_other _ _ (Or.inl (by decide))]
            exact p2 j (by omega)
        · rw [zI_other _ _ (Or.inr (by omega)), zI_other _ _ (Or.inl (by decide))]
          exact p3
      have er : ∀ b, (mark.isSome && outs (rf k) s != 0) = b → lrw s m rf mark.isSome i = bs (fun i => (rf k).testBit (sel s.testBit m i)) (cnt s.testBit m) ||| (if b then 1 <<< c else 0) := by
        intro b hb
        unfold lrw
        rw [hs2, hb, hc]
      have em0 : (mark.isSome && outs (rf k) s != 0) = false → mrw s m rf mark.isSome (i + 1) = mrw s m rf mark.isSome i := fun hb => by
        unfold mrw
        exact bs_skip (by rw [hs2]; exact hb)
      have em1 : (mark.isSome && outs (rf k) s != 0) = true → mrw s m rf mark.isSome (i + 1) = mrw s m rf mark.isSome i ||| 1 <<< i := fun hb => by
        unfold mrw
        exact bs_take (by rw [hs2]; exact hb)
      cases hma : mark with
      | none =>
        rw [hma] at lay er em0 f2 f3
        rw [show mkV (none : Option Nat) = -1 from rfl, if_pos rfl]
        exact lay _ M1 f1 f2 (by rw [em0 rfl]; exact f3) (by rw [er false rfl, if_neg (by decide), Nat.or_zero])
      | some x =>
        obtain ⟨x1, x2⟩ := hmv x hma
        have x3 := (hmk x hma).2
        rw [hma] at lay er em0 em1 x1 x2 f2 f3
        have ho : outs (rf k) s ≤ rf k := outs_le _ _
        rw [if_neg x2, gR_46_27 hC1, Option.bind_some, lI_62 hC1 hk, Option.bind_some, v62, n_not]
        by_cases hz : outs (rf k) s = 0
        · have hb : ((some x).isSome && outs (rf k) s != 0) = false := by rw [hz]; rfl
          rw [hz, if_pos n_0.symm]
          exact lay _ M1 f1 f2 (by rw [em0 hb]; exact f3) (by rw [er false hb, if_neg (by decide), Nat.or_zero])
        · have hb : ((some x).isSome && outs (rf k) s != 0) = true := by simp [hz]
          rw [if_neg (by rw [n_0, n_eq (by omega) (by decide)]; exact hz), lett_eq, n_1, n_shl (a := 1) (b := c) (by omega), n_shl (a := 1) (b := i) (by omega), n_or (bs (fun i => (rf k).testBit (sel s.testBit m i)) (cnt s.testBit m)), gR_46_25 hC1, Option.bind_some, n_add (8 * t) c, lI_60 hC1 (show 8 * t + c < 64 by omega), Option.bind_some, f3, n_or (mrw s m rf (some x).isSome i), tI_60 hC1 (show 8 * t + c < 64 by omega), Option.bind_some, ← n_1]
          refine lay _ _ (Fz_trans f1 (Fz_sI (Or.inr ⟨Or.inr rfl, by omega, by omega⟩))) (fun j hj => ?_) (by rw [zI_same, em1 hb]) (by rw [er true hb, if_pos rfl])
          obtain ⟨k1, k2⟩ := f2 j hj
          exact ⟨by rw [zI_other _ _ (Or.inl (by decide))]; exact k1, by rw [zI_other _ _ (Or.inr (by omega))]; exact k2⟩
/-- a piece as the reference holds it -/
def RcH (i : Nat) (q : Pc) (M : zM) : Prop := zI M 58 i = nI q.1.length ∧ ∀ j, j < q.1.length → zI M 59 (8 * i + j) = nI (q.1.getD j 0) ∧ zI M 60 (8 * i + j) = nI (row q.1.length q.2 j)
theorem RcH_z {i : Nat} {q : Pc} {P : Nat → Nat → Prop} {M M' : zM} (h : RcH i q M) (hf : Fz P M M') (hq : q.1.length ≤ 8) (h1 : ¬ P 58 i) (h2 : ∀ k, 8 * i ≤ k → k < 8 * i + 8 → ¬ P 59 k ∧ ¬ P 60 k) : RcH i q M' :=
  ⟨(hf.2 _ _ h1).trans h.1, fun j hj => ⟨(hf.2 _ _ (h2 _ (by omega) (by omega)).1).trans (h.2 j hj).1, (hf.2 _ _ (h2 _ (by omega) (by omega)).2).trans (h.2 j hj).2⟩⟩
theorem row_part {n L s j : Nat} (hn : n < 8) (hj : j < cnt s.testBit n) : row (cnt s.testBit n) (part n L s) j = bs (fun i => (row n L (sel s.testBit n j)).testBit (sel s.testBit n i)) (cnt s.testBit n) := by
  unfold row
  refine bs_congr fun i hi => ?_
  rw [part_adj hn hj hi]
  have := row_tb n L (sel s.testBit n j) (sel s.testBit n i)
  unfold row at this
  rw [this, decide_eq_true (sel_lt hi), Bool.true_and]
theorem cut_len (m s : Nat) (hc : cnt s.testBit m < 7) : cnt s.testBit m + 1 < 8 := by omega
theorem adj_cut {m T s a b : Nat} (hc : cnt s.testBit m < 7) (ha : a < cnt s.testBit m) (hb : b < cnt s.testBit m) : adj (cutT m T s) a b = adj T (sel s.testBit m a) (sel s.testBit m b) := by
  unfold cutT
  have key : ∀ a b, b < a → a < cnt s.testBit m → adj (mk (cnt s.testBit m + 1) (cutg m T s)) a b = adj T (sel s.testBit m a) (sel s.testBit m b) := fun a b h1 h2 => by
    rw [mk_adj (by omega) _ (by omega) h1, cutg_in h2]
  by_cases h : a = b
  · rw [h, adj_self, adj_self]
  · by_cases h1 : b < a
    · exact key a b h1 ha
    · rw [adj_comm, adj_comm T]; exact key b a (by omega) hb
theorem adj_cutm {m T s a : Nat} (hc : cnt s.testBit m < 7) (ha : a < cnt s.testBit m) : adj (cutT m T s) (cnt s.testBit m) a = (outs (row m T (sel s.testBit m a)) s != 0) := by
  unfold cutT
  rw [mk_adj (by omega) _ (by omega) ha]
  unfold cutg
  rw [if_pos rfl]
theorem row_cut {m T s j : Nat} (hc : cnt s.testBit m < 7) (hj : j < cnt s.testBit m) : row (cnt s.testBit m + 1) (cutT m T s) j = lrw s m (row m T) true j := by
  unfold lrw
  apply Nat.eq_of_testBit_eq
  intro i
  rw [row_tb, Nat.testBit_or, bs_tb, Bool.true_and]
  have e : (if (outs (row m T (sel s.testBit m j)) s != 0) = true then 1 <<< cnt s.testBit m else 0).testBit i = ((outs (row m T (sel s.testBit m j)) s != 0) && decide (i = cnt s.testBit m)) := by
    cases (outs (row m T (sel s.testBit m j)) s != 0)
    · simp
    · rw [if_pos rfl, tb_set, Bool.true_and]
  rw [e]
  by_cases hi : i < cnt s.testBit m
  · rw [decide_eq_true (show i < cnt s.testBit m + 1 by omega), Bool.true_and, adj_cut hc hj hi, decide_eq_true hi, Bool.true_and, row_tb, decide_eq_true (sel_lt hi), Bool.true_and, decide_eq_false (by omega), Bool.and_false, Bool.or_false]
  · rw [decide_eq_false hi, Bool.false_and, Bool.false_or]
    by_cases h2 : i = cnt s.testBit m
    · rw [h2, decide_eq_true (Nat.lt_succ_self _), Bool.true_and, adj_comm, adj_cutm hc hj, decide_eq_true rfl, Bool.and_true]
    · rw [decide_eq_false (by omega), decide_eq_false h2, Bool.false_and, Bool.and_false]
theorem row_cutm {m T s : Nat} (hc : cnt s.testBit m < 7) : row (cnt s.testBit m + 1) (cutT m T s) (cnt s.testBit m) = mrw s m (row m T) true (cnt s.testBit m) := by
  unfold mrw
  apply Nat.eq_of_testBit_eq
  intro i
  rw [row_tb, bs_tb]
  by_cases hi : i < cnt s.testBit m
  · rw [decide_eq_true (show i < cnt s.testBit m + 1 by omega), decide_eq_true hi, adj_cutm hc hi, Bool.true_and, Bool.true_and]
  · rw [decide_eq_false hi, Bool.false_and]
    by_cases h2 : i = cnt s.testBit m
    · rw [h2, adj_self, Bool.and_false]
    · rw [decide_eq_false (by omega), Bool.false_and]
theorem y_cutP {q : Pc} {s t mark : Nat} {M : zM} (hC : zC M) (hq : okP q) (hs : s < 2 ^ q.1.length) (ht : t < 8) (hmk : mark < 1000) (hc : cnt s.testBit q.1.length < 7) (hO : ∀ k, k < q.1.length → zI M 61 k = nI (q.1.getD k 0) ∧ zI M 62 k = nI (row q.1.length q.2 k)) :
    ∃ M', fp_X11_laysPiece 46 (nI t) (nI s) (nI mark) M = some M' ∧ Fz (atP t) M M' ∧ RcH t (cutP q s mark) M' := by
  obtain ⟨M', e1, e2, e3, e4, e5⟩ := y_laysPiece (mark := some mark) (kf := fun k => q.1.getD k 0) (rf := row q.1.length q.2) hC hq.1 hs ht (fun x hx => by cases hx; exact ⟨hmk, hc⟩) (fun k hk => ⟨(hO k hk).1, (hO k hk).2, lt128 hq.1 (row_lt _ _ _)⟩)
  refine ⟨M', e1, e2, ?_⟩
  unfold RcH
  rw [cutP_len]
  refine ⟨e3, fun j hj => ?_⟩
  by_cases hjc : j < cnt s.testBit q.1.length
  · obtain ⟨g1, g2⟩ := e4 j hjc
    refine ⟨?_, ?_⟩
    · rw [g1]
      unfold cutP
      rw [getD_app_l (by unfold selL; rw [List.length_map, List.length_range]; exact hjc), selL_get hjc]
    · rw [g2]; exact congrArg nI (row_cut hc hjc).symm
  · have hj2 : j = cnt s.testBit q.1.length := by omega
    obtain ⟨g1, g2⟩ := e5 mark rfl
    rw [hj2]
    refine ⟨?_, ?_⟩
    · rw [g1]
      unfold cutP
      have hl : (selL s q.1.length q.1).length = cnt s.testBit q.1.length := by unfold selL; rw [List.length_map, List.length_range]
      rw [show (selL s q.1.length q.1 ++ [mark]).getD (cnt s.testBit q.1.length) 0 = mark from by rw [← hl]; exact getD_snoc]
    · rw [g2]; exact congrArg nI (row_cutm hc).symm

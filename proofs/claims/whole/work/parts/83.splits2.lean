/-! ===== 83: the reference: rename, undo, images, rank, splits ===== -/
theorem y_so {S : zSt} {M M1 : zM} {k : Int32} (h : IR S M1) (hf : Fc atR M M1) : RM ((if k ≠ 0 then (0 : Int32) else 1), stS S k) ((fp_X11_isSo 46 k M1).bind fun p => zpp p fun (y : Int32) (M2 : zM) => (zb y).bind fun (r : Int32) => some (r, M2)) M := by
  unfold fp_X11_isSo
  rw [ts_46 (IR_C h), pI_46 (IR_C h), Option.bind_some]
  refine ⟨zsI M1 46 1 k, ?_, IR_st h, Fc_trans hf (Fc_1 (by decide))⟩
  by_cases hk : k = 0
  · subst hk; rfl
  · rw [if_pos hk, if_pos hk]; rfl
/-- two bits of a row change places -/
def swb (r a b : Nat) : Nat := if r.testBit a = r.testBit b then r else r ^^^ (1 <<< a ||| 1 <<< b)
theorem swb_tb {r a b i : Nat} (hab : a ≠ b) : (swb r a b).testBit i = r.testBit (exch a b i) := by
  unfold swb exch
  by_cases h : r.testBit a = r.testBit b
  · rw [if_pos h]
    by_cases h1 : i = a
    · rw [if_pos h1, h1, h]
    · rw [if_neg h1]
      by_cases h2 : i = b
      · rw [if_pos h2, h2, h]
      · rw [if_neg h2]
  · rw [if_neg h, Nat.testBit_xor, Nat.testBit_or, tb_set, tb_set]
    by_cases h1 : i = a
    · rw [if_pos h1, h1, decide_eq_true rfl, Bool.true_or]
      cases h5 : r.testBit a <;> cases h6 : r.testBit b <;> simp_all
    · rw [if_neg h1, decide_eq_false h1, Bool.false_or]
      by_cases h2 : i = b
      · rw [if_pos h2, h2, decide_eq_true rfl]
        cases h5 : r.testBit a <;> cases h6 : r.testBit b <;> simp_all
      · rw [if_neg h2, decide_eq_false h2, Bool.xor_false]
theorem row_exnet {n L a b p : Nat} (hn : n < 8) (ha : a < n) (hb : b < n) (hab : a ≠ b) (hp : p < n) : row n (exnet n L a b) p = swb (row n L (exch a b p)) a b := by
  apply Nat.eq_of_testBit_eq
  intro i
  rw [swb_tb hab, row_tb, row_tb]
  by_cases hi : i < n
  · rw [decide_eq_true hi, decide_eq_true (exch_lt ha hb hi), exnet_adj hn hp hi]
  · have : exch a b i = i := by unfold exch; rw [if_neg (by omega), if_neg (by omega)]
    rw [this, decide_eq_false hi, Bool.false_and, Bool.false_and]
theorem y_rename {S : zSt} {M : zM} (h : IR S M) (a b : Int32) : RM (q_rename S a b) (fp_X11_rename 46 a b M) M := by
  unfold fp_X11_rename q_rename
  have hC := IR_C h
  obtain ⟨g1, g2⟩ := IR_n h
  rw [ts_46 hC, y_wrongTwo h, Option.bind_some]
  rcases tw_cases g2 a b with ⟨k, e, hk⟩ | ⟨x, y, e, rfl, rfl, hx, hy, hxy⟩
  · rw [e]
    dsimp only
    rw [if_neg (by rcases tw_pos e with rfl | rfl <;> decide)]
    have := y_so (k := k) h (Fc_refl (S := atR) (M := M))
    rw [if_pos hk] at this
    exact this
  · rw [e]
    dsimp only
    rw [if_pos (by decide)]
    obtain ⟨M1, e1, e2, e3⟩ := y_begins h
    have hC1 := IR_C e2
    have hN1 : NrH (sN S) (sL S) M1 := IR_bgN e2
    rw [e1, Option.bind_some, n_0]
    refine up (P := fun i f => ∀ M2, Fz at47 M1 M2 → (∀ p, p < sN S → zI M2 47 p = nI (if p < i then swb (row (sN S) (sL S) p) x y else row (sN S) (sL S) p)) → RM (1, bcS (stS S 0) (sN S) (exnet (sN S) (sL S) x y)) (fp_X11_rename_L24
        (fun M14 =>
          (zgR 9 M14 46 2).bind fun (y15 : Nat) =>
          (zlI 100 M14 y15 (nI x)).bind fun (y16 : Int32) =>
          (zgR 9 M14 46 2).bind fun (y17 : Nat) =>
          (zgR 9 M14 46 2).bind fun (y18 : Nat) =>
          (zlI 100 M14 y18 (nI y)).bind fun (y19 : Int32) =>
          (ztI M14 y17 (nI x) y19).bind fun (M20 : zM) =>
          (zgR 9 M20 46 2).bind fun (y21 : Nat) =>
          (ztI M20 y21 (nI y) y16).bind fun (M22 : zM) =>
          (fp_X11_isSo 46 (nI 0) M22).bind fun p25 => zpp p25 fun (y23 : Int32) (M24 : zM) =>
          (zb y23).bind fun (r : Int32) => some (r, M24)) 46 (nI x) (nI y) f (nI i) M2) M) (a := 0) (n := sN S) ?_ ?_ FU (by omega) (FU_gt (by omega)) M1 Fz_refl (fun p hp => by rw [if_neg (by omega)]; exact hN1.2 p hp)
    · intro f M2 h1 h2
      have hC2 := Fz_C h1 hC1
      have e0 : zI M2 46 0 = nI (sN S) := (n47 h1).trans hN1.1
      have hC3 : zC (zsI M2 47 x (nI (swb (row (sN S) (sL S) y) x y))) := hC2
      rw [fp_X11_rename_L24, gI_46 hC2, Option.bind_some, e0, stp, gR_46_2 hC2, Option.bind_some, lI_47 hC2 (show x < 8 by omega), Option.bind_some, Option.bind_some, Option.bind_some, lI_47 hC2 (show y < 8 by omega), Option.bind_some, h2 x hx, if_pos hx, h2 y hy, if_pos hy, tI_47 hC2 (show x < 8 by omega), Option.bind_some, gR_46_2 hC3, Option.bind_some, tI_47 hC3 (show y < 8 by omega), Option.bind_some]
      have f3 : Fz at47 M1 (zsI (zsI M2 47 x (nI (swb (row (sN S) (sL S) y) x y))) 47 y (nI (swb (row (sN S) (sL S) x) x y))) := Fz_trans h1 (Fz_trans (Fz_sI rfl) (Fz_sI rfl))
      have f4 := Fz_mono (Q := atN) f3 fun a k q => Or.inl q
      have hI := IR_bc e2 f4 g2 (exnet_lt (sN S) (sL S) x y) ⟨(n47 f3).trans hN1.1, fun p hp => by
        rw [row_exnet g2 hx hy hxy hp]
        unfold exch
        by_cases hpy : p = y
        · rw [hpy, zI_same, if_neg (fun z => hxy z.symm), if_pos rfl]
        · rw [zI_other _ _ (Or.inr hpy)]
          by_cases hpx : p = x
          · rw [hpx, zI_same, if_pos rfl]
          · rw [zI_other _ _ (Or.inr hpx), h2 p hp, if_pos hp, if_neg hpx, if_neg hpy]⟩
      have := y_so (k := nI 0) hI (Fc_trans e3 (Fz_c f4 atN_R))
      rw [if_neg (by decide)] at this
      exact this
    · intro i f _ hi ih M2 h1 h2
      have hC2 := Fz_C h1 hC1
      have e0 : zI M2 46 0 = nI (sN S) := (n47 h1).trans hN1.1
      have hr := lt128 g2 (row_lt (sN S) (sL S) i)
      rw [fp_X11_rename_L24, gI_46 hC2, Option.bind_some, e0, go hi (by omega), gR_46_2 hC2, Option.bind_some, lI_47 hC2 (show i < 8 by omega), Option.bind_some, h2 i hi, if_neg (Nat.lt_irrefl _), y_has1 hr (by omega), Option.bind_some, Option.bind_some, lI_47 hC2 (show i < 8 by omega), Option.bind_some, h2 i hi, if_neg (Nat.lt_irrefl _), y_has1 hr (by omega), Option.bind_some, zjn_eq, inc]
      dsimp only
      have fin : ∀ v, v = swb (row (sN S) (sL S) i) x y → RM (1, bcS (stS S 0) (sN S) (exnet (sN S) (sL S) x y)) (fp_X11_rename_L24
        (fun M14 =>
          (zgR 9 M14 46 2).bind fun (y15 : Nat) =>
          (zlI 100 M14 y15 (nI x)).bind fun (y16 : Int32) =>
          (zgR 9 M14 46 2).bind fun (y17 : Nat) =>
          (zgR 9 M14 46 2).bind fun (y18 : Nat) =>
          (zlI 100 M14 y18 (nI y)).bind fun (y19 : Int32) =>
          (ztI M14 y17 (nI x) y19).bind fun (M20 : zM) =>
          (zgR 9 M20 46 2).bind fun (y21 : Nat) =>
          (ztI M20 y21 (nI y) y16).bind fun (M22 : zM) =>
          (fp_X11_isSo 46 (nI 0) M22).bind fun p25 => zpp p25 fun (y23 : Int32) (M24 : zM) =>
          (zb y23).bind fun (r : Int32) => some (r, M24)) 46 (nI x) (nI y) f (nI (i + 1)) (zsI M2 47 i (nI v))) M := by
        intro v hv
        refine ih _ (Fz_trans h1 (Fz_sI rfl)) fun p hp => ?_
        by_cases hpi : p = i
        · rw [hpi, zI_same, if_pos (Nat.lt_succ_self _), hv]
        · rw [zI_other _ _ (Or.inr hpi), h2 p hp]
          by_cases h4 : p < i
          · rw [if_pos h4, if_pos (by omega)]
          · rw [if_neg h4, if_neg (by omega)]
      unfold swb at fin
      by_cases hb : (row (sN S) (sL S) i).testBit x = (row (sN S) (sL S) i).testBit y
      · rw [if_neg (by rw [hb]; exact fun z => z rfl), Option.bind_some, lI_47 hC2 (show i < 8 by omega), Option.bind_some, h2 i hi, if_neg (Nat.lt_irrefl _), tI_47 hC2 (show i < 8 by omega), Option.bind_some, n_0, n_xor, Nat.xor_zero]
        exact fin _ (if_pos hb).symm
      · rw [if_pos (by intro z; apply hb; revert z; cases (row (sN S) (sL S) i).testBit x <;> cases (row (sN S) (sL S) i).testBit y <;> decide), Option.bind_some, lI_47 hC2 (show i < 8 by omega), Option.bind_some, h2 i hi, if_neg (Nat.lt_irrefl _), n_1, n_shl (by omega), n_shl (by omega), n_or, n_xor, tI_47 hC2 (show i < 8 by omega), Option.bind_some]
        exact fin _ (if_neg hb).symm
theorem y_undo {S : zSt} {M : zM} (h : IR S M) : RM (q_undo S) (fp_X11_undo 46 M) M := by
  unfold fp_X11_undo q_undo
  have hC := IR_C h
  have hA := IR_A h
  have h12 := h.1.2.2.2.1
  rw [ts_46 hC, gI_46 hC, Option.bind_some, hA.1]
  cases hq : (sA S).getLast? with
  | none =>
    have : sA S = [] := List.getLast?_eq_none_iff.mp hq
    rw [this, if_neg (by decide)]
    exact y_rf h Fc_refl
  | some q =>
    have hl := getLast_app hq
    obtain ⟨A, hAe⟩ : ∃ A, A = (sA S).dropLast := ⟨_, rfl⟩
    rw [← hAe] at hl ⊢
    have hlen : (sA S).length = A.length + 1 := by rw [hl, List.length_append]; rfl
    have hok : okN q := h.1.2.2.2.2.1 q (by rw [hl]; exact List.mem_append_right _ (List.mem_singleton.mpr rfl))
    have hC1 : zC (zsI M 46 20 (nI A.length)) := hC
    have f1 : Fz (fun a k => a = 46 ∧ k = 20) M (zsI M 46 20 (nI A.length)) := Fz_sI ⟨rfl, rfl⟩
    have hA1 : AcH A (zsI M 46 20 (nI A.length)) := ⟨zI_same _ _ _ _, fun i hi => by
      have := NtH_z (hA.2 i (by omega)) f1 (fun k => by omega)
      rw [hl, getD_app_l hi] at this
      exact this⟩
    have hI1 : IR (nwS S (sN S) (sL S) A) (zsI M 46 20 (nI A.length)) := IR_ac h (Fz_mono f1 fun a k z => Or.inl (Or.inr z)) hA1 (by omega) fun p hp => h.1.2.2.2.2.1 p (by rw [hl]; exact List.mem_append_left _ hp)
    have hq1 : NtH 53 (8 * A.length) q (zsI M 46 20 (nI A.length)) := by
      have := NtH_z (hA.2 A.length (by omega)) f1 (fun k => by omega)
      rw [hl, getD_app_r] at this
      exact this
    obtain ⟨M2, e1, e2, e3⟩ := y_brings hC1 hq1 hok.1 (by decide) (by decide) (by decide) rfl (L53 hC1) (by decide) (by omega)
    have hC2 := Fz_C e3 hC1
    rw [hlen, if_pos (by rw [n_0, ne_eq, n_eq (by omega) (by omega)]; omega), Option.bind_some, n_1, n_sub (by omega), Nat.add_sub_cancel, pI_46 hC, Option.bind_some, gR_46_16 hC1, Option.bind_some, gI_46 hC1, Option.bind_some, zI_same, n_8, n_mul, e1, Option.bind_some, gI_46 hC2, Option.bind_some, e3.2 46 20 (by decide), zI_same]
    exact y_gv (S := nwS S q.1 q.2 A) (IR_nw hI1 e3 hok.1 hok.2 e2) (Fc_trans (Fz_c f1 fun a k z => by show 46 ≤ a ∧ a < 72; omega) (Fz_c e3 atN_R))
theorem y_image {S : zSt} {M : zM} (h : IR S M) (v : Int32) : RM (q_image S v) (fp_X11_image 46 v M) M := by
  unfold fp_X11_image q_image
  have hC := IR_C h
  obtain ⟨g1, g2⟩ := IR_n h
  rw [ts_46 hC, show fp_X11_isFrom v 0 2 = some (bI (asN v 3).isSome) from y_from0 (b := 2) (by decide), Option.bind_some]
  cases hv : asN v 3 with
  | none =>
    rw [b_no, if_neg (by decide)]
    have := y_so (k := 1) h (Fc_refl (S := atR) (M := M))
    rw [if_pos (by decide)] at this
    exact this
  | some k =>
    obtain ⟨rfl, hk, hb⟩ := asN_some hv
    rw [b_so, if_pos (show (1 : Int32) ≠ 0 by decide)]
    dsimp only
    obtain ⟨M1, e1, e2, e3⟩ := y_puts (a := 55) (b := 8 * k) hC (IR_N h) g2 (by decide) (by decide) (by decide) rfl (L55 hC) (by decide) (by omega)
    have hC1 := Fz_C e3 hC
    rw [gR_46_18 hC, Option.bind_some, n_8, n_mul, e1, Option.bind_some, gR_46_19 hC1, Option.bind_some, tI_56 hC1 hk, Option.bind_some]
    obtain ⟨M2, hM2⟩ : ∃ M2, M2 = zsI M1 56 k (vp_nar .boolean 1) := ⟨_, rfl⟩
    rw [← hM2]
    have f2 : Fz (fun x j => (x = 55 ∧ 8 * k ≤ j ∧ j < 8 * k + 8) ∨ (x = 56 ∧ j = k)) M M2 := by
      rw [hM2]
      exact Fz_trans (Fz_mono e3 fun a k q => Or.inl q) (Fz_sI (Or.inr ⟨rfl, rfl⟩))
    have hI : IR (imS S k) M2 := by
      obtain ⟨p1, p2, p3, p4, p5, p6, p7, p8⟩ := h
      refine ⟨⟨p1.1, p1.2.1, p1.2.2.1, p1.2.2.2.1, p1.2.2.2.2.1, fun j q hq => ?_⟩, Fz_C f2 p2, NrH_z p3 f2 (by omega) (fun k => by omega), (f2.2 _ _ (by omega)).trans p4, ⟨(f2.2 _ _ (by omega)).trans p5.1, fun i hi => (f2.2 _ _ (by omega)).trans (p5.2 i hi)⟩, flR_z p6 f2 (by omega) (by omega), ⟨(f2.2 _ _ (by omega)).trans p7.1, fun i hi => NtH_z (p7.2 i hi) f2 (fun k => by omega)⟩, fun j hj => ?_⟩
      · have hq' : (if j = k then some (sN S, sL S) else sI S j) = some q := hq
        split at hq'
        · cases hq'; exact p1.1
        · exact p1.2.2.2.2.2 j q hq'
      · show imR j (if j = k then some (sN S, sL S) else sI S j) M2
        by_cases hjk : j = k
        · rw [if_pos hjk, hjk]
          refine ⟨by rw [hM2, zI_same]; rfl, NtH_copy e2 fun i hi => by rw [hM2, zI_other _ _ (Or.inl (by decide))]⟩
        · rw [if_neg hjk]
          have := p8 j hj
          cases hs : sI S j with
          | none => rw [hs] at this; exact (f2.2 _ _ (by omega)).trans this
          | some q => rw [hs] at this; exact ⟨(f2.2 _ _ (by omega)).trans this.1, NtH_copy this.2 fun i hi => f2.2 _ _ (by omega)⟩
    have := y_so (k := 0) hI (Fz_c f2 fun a k q => by show 46 ≤ a ∧ a < 72; omega)
    rw [if_neg (by decide)] at this
    exact this
theorem y_wrongImage {S : zSt} {M : zM} (h : IR S M) (v : Int32) : fp_X11_wrongImage 46 v M = some (match img S v with | .inl k => k | .inr _ => 0) := by
  unfold fp_X11_wrongImage img
  have hC := IR_C h
  rw [ts_46 hC, show fp_X11_isFrom v 0 2 = some (bI (asN v 3).isSome) from y_from0 (b := 2) (by decide), Option.bind_some]
  cases hv : asN v 3 with
  | none => rfl
  | some k =>
    obtain ⟨rfl, hk, hb⟩ := asN_some hv
    have hi := IR_im h hk
    rw [b_so, if_pos (show (1 : Int32) ≠ 0 by decide), gR_46_19 hC, Option.bind_some, lI_56 hC hk, Option.bind_some]
    cases hs : sI S k with
    | none => rw [hs] at hi; rw [show zI M 56 k = 0 from hi, if_pos rfl]; dsimp only; rw [hs]
    | some q => rw [hs] at hi; rw [hi.1, if_neg (by decide)]; dsimp only; rw [hs]
theorem img_at {S : zSt} {v : Int32} {q : Nat × Nat} (h : img S v = .inr q) : ∃ k, v = nI k ∧ k < 3 ∧ sI S k = some q := by
  unfold img at h
  cases hv : asN v 3 with
  | none => rw [hv] at h; cases h
  | some k =>
    obtain ⟨rfl, hk, hb⟩ := asN_some hv
    rw [hv] at h
    dsimp only at h
    cases hs : sI S k with
    | none => rw [hs] at h; cases h
    | some p => rw [hs] at h; cases h; exact ⟨k, rfl, hk, hs⟩
theorem img_pos {S : zSt} {v k : Int32} (h : img S v = .inl k) : k = 1 ∨ k = 8 := by
  unfold img at h
  split at h
  · cases h; exact Or.inl rfl
  · split at h
    · cases h; exact Or.inr rfl
    · cases h
theorem rows_eq {n L L' : Nat} (hn : n < 8) (hL : L < 2 ^ tri n) (hL' : L' < 2 ^ tri n) (h : ∀ p, p < n → row n L p = row n L' p) : L = L' := net_ext' hn hL hL' fun a ha b hb => by
  have := congrArg (fun x => x.testBit b) (h a ha)
  simp only [row_tb, decide_eq_true (show b < n by omega), Bool.true_and] at this
  exact this
theorem y_like {S : zSt} {M : zM} (h : IR S M) (v : Int32) : RM (q_like S v) (fp_X11_like 46 v M) M := by
  unfold fp_X11_like q_like
  have hC := IR_C h
  obtain ⟨g1, g2⟩ := IR_n h
  rw [ts_46 hC, y_wrongImage h, Option.bind_some]
  cases hi : img S v with
  | inl k =>
    dsimp only
    rw [if_neg (by rcases img_pos hi with rfl | rfl <;> decide)]
    exact y_rf h Fc_refl
  | inr q =>
    dsimp only
    obtain ⟨k, rfl, hk, hs⟩ := img_at hi
    have him := IR_im h hk
    rw [hs] at him
    have hq := img_ok h.1 hi
    rw [if_pos (by decide), gR_46_18 hC, Option.bind_some, n_8, n_mul, lI_55 hC (show 8 * k < 24 by omega), Option.bind_some, gI_46 hC, Option.bind_some, zjn_eq, him.2.1, g1]
    have loop : ∀ b : Bool, ∀ i, i ≤ sN S → (b = true ↔ q.1 = sN S ∧ ∀ p, p < i → row q.1 q.2 p = row (sN S) (sL S) p) → RM (gv S (bI (decide (q = (sN S, sL S))))) (fp_X11_like_L41
            (fun v3_12 =>
              if v3_12 = 0 then (
                (fp_X11_gives 46 0 M).bind fun p15 => zpp p15 fun (y13 : Int32) (M14 : zM) =>
                some (y13, M14))
              else (
                (fp_X11_gives 46 1 M).bind fun p18 => zpp p18 fun (y16 : Int32) (M17 : zM) =>
                some (y16, M17))) 46 (nI k) M FU (bI b) (nI i)) M := by
      intro b0 i0 hi0 hb0
      refine up (P := fun i f => ∀ b : Bool, (b = true ↔ q.1 = sN S ∧ ∀ p, p < i → row q.1 q.2 p = row (sN S) (sL S) p) → RM (gv S (bI (decide (q = (sN S, sL S))))) (fp_X11_like_L41
            (fun v3_12 =>
              if v3_12 = 0 then (
                (fp_X11_gives 46 0 M).bind fun p15 => zpp p15 fun (y13 : Int32) (M14 : zM) =>
                some (y13, M14))
              else (
                (fp_X11_gives 46 1 M).bind fun p18 => zpp p18 fun (y16 : Int32) (M17 : zM) =>
                some (y16, M17))) 46 (nI k) M f (bI b) (nI i)) M) (a := i0) (n := sN S) ?_ ?_ FU hi0 (FU_gt (by omega)) b0 hb0
      · intro f b hb
        rw [fp_X11_like_L41, gI_46 hC, Option.bind_some, g1, stp]
        have : b = decide (q = (sN S, sL S)) := by
          rw [Bool.eq_iff_iff, hb, decide_eq_true_iff]
          constructor
          · rintro ⟨z1, z2⟩
            refine Prod.ext z1 ?_
            have := hq.2
            rw [z1] at z2 this
            exact rows_eq g2 this (IR_L h) z2
          · intro z; rw [z]; exact ⟨rfl, fun _ _ => rfl⟩
        rw [← this]
        cases b with
        | false => rw [b_ff, if_pos rfl]; exact y_gv h Fc_refl
        | true => rw [b_tt, if_neg (by decide)]; exact y_gv h Fc_refl
      · intro i f _ hin ih b hb
        have hin' : i < 7 := by omega
        rw [fp_X11_like_L41, gI_46 hC, Option.bind_some, g1, go hin (by omega), zjn_eq, zjn_eq, inc]
        cases b with
        | false =>
          rw [b_ff, if_pos rfl]
          refine ih false ⟨fun z => (by cases z), fun z => ?_⟩
          exact hb.mpr ⟨z.1, fun p hp => z.2 p (by omega)⟩
        | true =>
          obtain ⟨z1, z2⟩ := hb.mp rfl
          rw [b_tt, if_neg (by decide), gR_46_18 hC, Option.bind_some, n_8, n_mul, inc, n_add, lI_55 hC (show 8 * k + 1 + i < 24 by omega), Option.bind_some, him.2.2 i hin', if_pos (by omega), gR_46_2 hC, Option.bind_some, lI_47 hC (show i < 8 by omega), Option.bind_some, (IR_N h).2 i hin]
          have r1 := lt128 hq.1 (row_lt q.1 q.2 i)
          have r2 := lt128 g2 (row_lt (sN S) (sL S) i)
          by_cases hr : row q.1 q.2 i = row (sN S) (sL S) i
          · rw [hr, if_neg (fun z => z rfl)]
            refine ih true ⟨fun _ => ⟨z1, fun p hp => ?_⟩, fun _ => rfl⟩
            by_cases hpi : p = i
            · rw [hpi, hr]
            · exact z2 p (by omega)
          · rw [if_pos (by rw [ne_eq, n_eq (by omega) (by omega)]; exact hr)]
            refine ih false ⟨fun z => (by cases z), fun z => absurd (z.2 i (Nat.lt_succ_self _)) hr⟩
    have hq1 := hq.1
    by_cases h1 : q.1 = sN S
    · rw [h1, if_neg (fun z => z rfl)]
      have := loop true 0 (Nat.zero_le _) ⟨fun _ => ⟨h1, fun p hp => by omega⟩, fun _ => rfl⟩
      rw [← n_0] at this
      exact this
    · rw [if_pos (by rw [ne_eq, n_eq (by omega) (by omega)]; exact h1)]
      have := loop false 0 (Nat.zero_le _) ⟨fun z => (by cases z), fun z => absurd z.1 h1⟩
      rw [← n_0] at this
      exact this
/-! rank -/
def redL : List Nat → Nat → Nat
  | [], x => x
  | b :: bs, x => min (redL bs x) (redL bs x ^^^ b)
def Ech : List Nat → Prop
  | [] => True
  | b :: bs => b ≠ 0 ∧ b < 128 ∧ (∀ c ∈ bs, b.testBit c.log2 = false) ∧ Ech bs
theorem min_lead : ∀ r, r < 128 → ∀ b, b < 128 → b ≠ 0 → (min r (r ^^^ b)).testBit b.log2 = false := by decide +kernel
theorem redL_le (bs : List Nat) (x : Nat) : redL bs x ≤ x := by
  induction bs with
  | nil => exact Nat.le_refl _
  | cons b bs ih => rw [redL]; exact Nat.le_trans (Nat.min_le_left _ _) ih
theorem redL_tb {bs : List Nat} (h : Ech bs) {x : Nat} (hx : x < 128) : ∀ c ∈ bs, (redL bs x).testBit c.log2 = false := by
  induction bs with
  | nil => intro c hc; cases hc
  | cons b bs ih =>
    obtain ⟨h1, h2, h3, h4⟩ := h
    intro c hc
    have hr : redL bs x < 128 := Nat.lt_of_le_of_lt (redL_le _ _) hx
    rw [redL]
    rcases List.mem_cons.mp hc with rfl | hc
    · exact min_lead _ hr _ h2 h1
    · have := ih h4 c hc
      rcases Nat.le_total (redL bs x) (redL bs x ^^^ b) with q | q
      · rw [Nat.min_eq_left q]; exact this
      · rw [Nat.min_eq_right q, Nat.testBit_xor, this, h3 c hc]; rfl
theorem Sp_0 (bs : List Nat) : Sp bs 0 = true := by
  induction bs with
  | nil => rfl
  | cons b bs ih => rw [Sp, ih, Bool.true_or]
theorem Sp_x {bs : List Nat} : ∀ {a b : Nat}, Sp bs a = true → Sp bs b = true → Sp bs (a ^^^ b) = true := by
  induction bs with
  | nil =>
    intro a b ha hb
    have h1 : a = 0 := by simpa [Sp] using ha
    have h2 : b = 0 := by simpa [Sp] using hb
    rw [h1, h2]; rfl
  | cons c bs ih =>
    intro a b ha hb
    rw [Sp, Bool.or_eq_true] at ha hb ⊢
    rcases ha with ha | ha <;> rcases hb with hb | hb
    · exact Or.inl (ih ha hb)
    · have := ih ha hb
      rw [← Nat.xor_assoc] at this
      exact Or.inr this
    · have := ih ha hb
      rw [xor_t] at this
      exact Or.inr this
    · have := ih ha hb
      rw [xor_r] at this
      exact Or.inl this
theorem Sp_red (bs : List Nat) (x : Nat) : Sp bs (redL bs x ^^^ x) = true := by
  induction bs with
  | nil => rw [redL, Nat.xor_self]; rfl
  | cons b bs ih =>
    rw [Sp, redL, Bool.or_eq_true]
    rcases Nat.le_total (redL bs x) (redL bs x ^^^ b) with q | q
    · rw [Nat.min_eq_left q]; exact Or.inl ih
    · rw [Nat.min_eq_right q, xor_t, Nat.xor_assoc _ b b, Nat.xor_self, Nat.xor_zero]; exact Or.inr ih
theorem Ech_0 {bs : List Nat} (h : Ech bs) : ∀ {y : Nat}, Sp bs y = true → (∀ c ∈ bs, y.testBit c.log2 = false) → y = 0 := by
  induction bs with
  | nil => intro y hy _; simpa [Sp] using hy
  | cons b bs ih =>
    obtain ⟨h1, h2, h3, h4⟩ := h
    intro y hy hc
    rw [Sp, Bool.or_eq_true] at hy
    rcases hy with hy | hy
    · exact ih h4 hy fun c hcc => hc c (List.mem_cons_of_mem _ hcc)
    · have := ih h4 hy fun c hcc => by rw [Nat.testBit_xor, hc c (List.mem_cons_of_mem _ hcc), h3 c hcc]; rfl
      have e : y = b := by
        have := congrArg (fun z => z ^^^ b) this
        simpa [Nat.xor_assoc] using this
      have h5 := hc b List.mem_cons_self
      rw [e, Nat.testBit_log2 h1] at h5
      cases h5
theorem redL_0 {bs : List Nat} (h : Ech bs) {x : Nat} (hx : x < 128) : (redL bs x = 0) = (Sp bs x = true) := by
  apply propext
  constructor
  · intro z
    have := Sp_red bs x
    rw [z, Nat.zero_xor] at this
    exact this
  · intro z
    refine Ech_0 h ?_ (redL_tb h hx)
    have := Sp_x (Sp_red bs x) z
    rw [Nat.xor_assoc, Nat.xor_self, Nat.xor_zero] at this
    exact this
theorem Sp_push {bs gs : List Nat} (h : ∀ y, Sp bs y = Sp gs y) (x y : Nat) : Sp (redL bs x :: bs) y = Sp (x :: gs) y := by
  rw [Sp, Sp, ← h, ← h, Bool.eq_iff_iff, Bool.or_eq_true, Bool.or_eq_true]
  have key : Sp bs (y ^^^ redL bs x) = true ↔ Sp bs (y ^^^ x) = true := by
    constructor
    · intro z
      have := Sp_x z (Sp_red bs x)
      rw [Nat.xor_comm (redL bs x) x, xor_r] at this
      exact this
    · intro z
      have := Sp_x z (Sp_red bs x)
      rw [xor_r] at this
      exact this
  rw [key]
abbrev at57 : Nat → Nat → Prop := fun a _ => a = 57
theorem drop_cons {bs : List Nat} {k : Nat} (hk : k < bs.length) : bs.drop (bs.length - (k + 1)) = bs.getD (bs.length - (k + 1)) 0 :: bs.drop (bs.length - k) := by
  have h1 : bs.length - (k + 1) < bs.length := by omega
  rw [List.drop_eq_getElem_cons h1, show bs.length - (k + 1) + 1 = bs.length - k by omega]
  simp [List.getD, h1]
theorem y_rank {a b m s len : Nat} {r : Nat → Nat} {M : zM} (hC : zC M) (hm : m < 8) (ha : a < 72) (ha7 : a ≠ 57) (hk : kd a = 100) (hl : zL M a = len) (hlen : len < 3000) (hb : b + m ≤ len) (hr : ∀ p, p < m → zI M a (b + p) = nI (r p) ∧ r p < 128) (hs : s < 2 ^ 31) :
    ∃ M', fp_X11_rank 46 a (nI b) (nI m) (nI s) M = some (nI (gns s.testBit (fun p => outs (r p) s) m).length, M') ∧ Fz at57 M M' := by
  unfold fp_X11_rank
  rw [ts_46 hC, n_0]
  obtain ⟨G, hG⟩ : ∃ G : Nat → List Nat, G = gns s.testBit (fun p => outs (r p) s) := ⟨_, rfl⟩
  rw [← hG]
  have hGs : ∀ i, G (i + 1) = if s.testBit i && !Sp (G i) (outs (r i) s) then outs (r i) s :: G i else G i := fun i => by rw [hG]; rfl
  have key : ∀ d i f bs M1, i + d = m → d < f → Fz at57 M M1 → Ech bs → bs.length ≤ i → bs.length = (G i).length → (∀ y, Sp bs y = Sp (G i) y) → (∀ k, k < bs.length → zI M1 57 k = nI (bs.getD (bs.length - (k + 1)) 0)) → ∃ M', fp_X11_rank_L6 46 a (nI b) (nI m) (nI s) f (nI bs.length) (nI i) M1 = some (nI (G m).length, M') ∧ Fz at57 M M' := by
    intro d
    induction d with
    | zero =>
      intro i f bs M1 h1 h2 h3 h4 h5 h6 h7 h8
      obtain ⟨f, rfl⟩ : ∃ g, f = g + 1 := ⟨f - 1, by omega⟩
      have : i = m := by omega
      subst this
      exact ⟨M1, by rw [fp_X11_rank_L6, stp, h6], h3⟩
    | succ d ih =>
      intro i f bs M1 h1 h2 h3 h4 h5 h6 h7 h8
      obtain ⟨f, rfl⟩ : ∃ g, f = g + 1 := ⟨f - 1, by omega⟩
      have hi : i < m := by omega
      have hC1 := Fz_C h3 hC
      obtain ⟨r1, r2⟩ := hr i hi
      rw [fp_X11_rank_L6, go hi (by omega), y_has hs (by omega), Option.bind_some, zjn_eq, inc]
      cases hsi : s.testBit i with
      | false =>
        rw [if_neg (by decide)]
        have e : G (i + 1) = G i := by rw [hGs, hsi]; rfl
        exact ih (i + 1) f bs M1 (by omega) (by omega) h3 h4 (by omega) (by rw [e]; exact h6) (by rw [e]; exact h7) h8
      | true =>
        have hx : outs (r i) s < 128 := Nat.lt_of_le_of_lt (outs_le _ _) r2
        rw [if_pos (by decide), n_add, lI_x hC1 ha hk ((Fz_L h3 a).trans hl) hlen (by omega), Option.bind_some, h3.2 a _ ha7, r1, lett_eq, n_not]
        have loop : ∀ (K : Int32 → Option (Int32 × zM)), fp_X11_rank_L41 K 46 a (nI b) (nI m) (nI s) (nI bs.length) (nI i) M1 FU (nI (outs (r i) s)) 0 = K (nI (redL bs (outs (r i) s))) := by
          intro K
          have e0 : nI (outs (r i) s) = nI (redL (bs.drop (bs.length - 0)) (outs (r i) s)) := by rw [Nat.sub_zero, List.drop_length]; rfl
          rw [n_0, e0]
          refine up (P := fun k f => fp_X11_rank_L41 K 46 a (nI b) (nI m) (nI s) (nI bs.length) (nI i) M1 f (nI (redL (bs.drop (bs.length - k)) (outs (r i) s))) (nI k) = K (nI (redL bs (outs (r i) s)))) (a := 0) (n := bs.length) ?_ ?_ FU (by omega) (FU_gt (by omega))
          · intro f
            rw [fp_X11_rank_L41, stp, Nat.sub_self]; rfl
          · intro k f _ hk' ih2
            have q1 : redL (bs.drop (bs.length - k)) (outs (r i) s) < 128 := Nat.lt_of_le_of_lt (redL_le _ _) hx
            have q2 : bs.getD (bs.length - (k + 1)) 0 < 128 := by
              have : ∀ l : List Nat, Ech l → ∀ c ∈ l, c < 128 := by
                intro l
                induction l with
                | nil => intro _ c hc; cases hc
                | cons x l ih3 =>
                  intro hE c hc
                  rcases List.mem_cons.mp hc with rfl | hc
                  · exact hE.2.1
                  · exact ih3 hE.2.2.2 c hc
              exact this bs h4 _ (getD_mem (by omega))
            rw [fp_X11_rank_L41, go hk' (by omega), gR_46_21 hC1, Option.bind_some, lI_57 hC1 (show k < 8 by omega), Option.bind_some, h8 k hk', lett_eq, n_xor, n_min (by omega) (Nat.lt_trans (xor_lt (k := 7) q1 q2) (by decide)), inc]
            rw [drop_cons hk'] at ih2
            exact ih2
        rw [loop]
        have hrl : redL bs (outs (r i) s) < 128 := Nat.lt_of_le_of_lt (redL_le _ _) hx
        have hz := redL_0 h4 hx
        by_cases hred : redL bs (outs (r i) s) = 0
        · rw [hred, if_neg (by decide)]
          have hsp : Sp (G i) (outs (r i) s) = true := by rw [← h7, ← hz]; exact hred
          have e : G (i + 1) = G i := by rw [hGs, hsi, hsp]; rfl
          exact ih (i + 1) f bs M1 (by omega) (by omega) h3 h4 (by omega) (by rw [e]; exact h6) (by rw [e]; exact h7) h8
        · rw [if_pos (by rw [n_0, ne_eq, n_eq (by omega) (by omega)]; exact hred), gR_46_21 hC1, Option.bind_some, tI_57 hC1 (show bs.length < 8 by omega), Option.bind_some, inc]
          have hsp : Sp (G i) (outs (r i) s) = false := by
            cases hq : Sp (G i) (outs (r i) s) with
            | false => rfl
            | true => rw [← h7, ← hz] at hq; exact absurd hq hred
          have e : G (i + 1) = outs (r i) s :: G i := by rw [hGs, hsi, hsp]; rfl
          refine ih (i + 1) f (redL bs (outs (r i) s) :: bs) _ (by omega) (by omega) (Fz_trans h3 (Fz_sI rfl)) ⟨hred, hrl, redL_tb h4 hx, h4⟩ (by rw [List.length_cons]; omega) (by rw [e, List.length_cons, List.length_cons, h6]) (fun y => by rw [e]; exact Sp_push h7 _ _) fun k hk' => ?_
          rw [List.length_cons] at hk' ⊢
          by_cases hkl : k = bs.length
          · rw [hkl, zI_same, Nat.sub_self]; rfl
          · rw [zI_other _ _ (Or.inr hkl), h8 k (by omega), show bs.length + 1 - (k + 1) = (bs.length - (k + 1)) + 1 by omega]; rfl
  exact key m 0 FU [] M (by omega) (FU_gt (by omega)) Fz_refl trivial (Nat.le_refl _) (by rw [hG]; rfl) (fun y => by rw [hG]; rfl) (fun k hk' => absurd hk' (Nat.not_lt_zero _))
theorem L47 {M : zM} (h : zC M) : zL M 47 = 8 := h.2.2 (47, 8) (by decide +kernel)
theorem y_rank0 {n L s : Nat} {M : zM} (hC : zC M) (h : NrH n L M) (hn : n < 8) (hs : s < 2 ^ 31) : ∃ M', fp_X11_rank 46 47 0 (nI n) (nI s) M = some (nI (rk n L s), M') ∧ Fz at57 M M' := by
  have := y_rank (a := 47) (b := 0) (r := row n L) hC hn (by decide) (by decide) rfl (L47 hC) (by decide) (by omega) (fun p hp => ⟨by rw [Nat.zero_add]; exact h.2 p hp, lt128 hn (row_lt _ _ _)⟩) hs
  rw [← n_0] at this
  exact this
theorem sc57 {M M' : zM} (h : Fz at57 M M') : Fz scR M M' := Fz_mono h fun a k q => by show (a = 46 ∧ _) ∨ _; right; right; right; omega
theorem y_order {S : zSt} {M : zM} (h : IR S M) (v : Int32) : RM (q_order S v) (fp_X11_order 46 v M) M := by
  unfold fp_X11_order q_order
  have hC := IR_C h
  obtain ⟨g1, g2⟩ := IR_n h
  rw [ts_46 hC, y_isSet h, Option.bind_some]
  cases hv : asN v (2 ^ sN S) with
  | none => rw [b_no, if_pos rfl]; exact y_rf h Fc_refl
  | some s =>
    obtain ⟨rfl, hp, hb⟩ := asN_some hv
    obtain ⟨M1, e1, e2⟩ := y_rank0 hC (IR_N h) g2 hb
    rw [b_so, if_neg (show ¬ (1 : Int32) = 0 by decide), gR_46_2 hC, Option.bind_some, gI_46 hC, Option.bind_some, g1, e1, Option.bind_some]
    exact y_gv (IR_z h (sc57 e2)) (scR_c (sc57 e2))

/-! ===== 96f: the reference: feed, fault, cross ===== -/
theorem to8 (w : Int32) : (w &&& 255).toInt8 = w.toInt8 := by
  apply Int8.toBitVec_inj.mp
  rw [Int32.toBitVec_toInt8, Int32.toBitVec_toInt8]
  apply BitVec.eq_of_getLsbD_eq
  intro i hi
  rw [BitVec.getLsbD_signExtend, BitVec.getLsbD_signExtend, if_pos (show i < 32 by omega), if_pos (show i < 32 by omega), Int32.toBitVec_and, BitVec.getLsbD_and]
  have : (255 : Int32).toBitVec.getLsbD i = true := by
    have h255 : (255 : Int32) = nI (2 ^ 8 - 1) := by decide
    rw [h255, n_b, Nat.testBit_two_pow_sub_one]
    simp; omega
  rw [this, Bool.and_true]
theorem nar_8 (x : Int32) : vp_nar .byte x = x.toInt8.toInt32 := rfl
theorem sg_byt {v : Int32} {k : Nat} (hk : k ≤ 3) : vp_nar .byte ((v >>> ((8 * nI k) &&& 31)).toInt8.toInt32) = sgb (byt v (8 * k)) := by
  unfold sgb
  rw [nar_8, nar_8, Int8.toInt8_toInt32, e8, ← c_byt v (show 8 * k ≤ 24 by omega), to8]
def TpR (T : List Nat) (M : zM) : Prop := zI M 46 5 = nI T.length ∧ ∀ i, i < T.length → zI M 48 i = sgb (T.getD i 0)
abbrev atT : Nat → Nat → Prop := fun a k => a = 48 ∨ (a = 46 ∧ k = 5)
theorem TpR_push {T : List Nat} {x : Nat} {M : zM} (h : TpR T M) : TpR (T ++ [x]) (zsI (zsI M 48 T.length (sgb x)) 46 5 (nI (T.length + 1))) := by
  refine ⟨by rw [zI_same, List.length_append]; rfl, fun i hi => ?_⟩
  rw [List.length_append, List.length_singleton] at hi
  rw [zI_other _ _ (Or.inl (by decide))]
  by_cases hil : i = T.length
  · rw [hil, zI_same, getD_snoc]
  · rw [zI_other _ _ (Or.inr hil), h.2 i (by omega), getD_app_l (by omega)]
theorem y_four {T : List Nat} {v : Int32} {M : zM} (hC : zC M) (h : TpR T M) (hl : T.length + 4 ≤ 200) : ∃ M', fp_X11_four 46 v M = some M' ∧ TpR (T ++ four v) M' ∧ Fz atT M M' := by
  unfold fp_X11_four
  rw [ts_46 hC]
  have step : ∀ (k f : Nat) (T : List Nat) (M : zM), zC M → TpR T M → T.length < 200 → k ≤ 3 → ∃ M', fp_X11_four_L2 46 v (f + 1) (nI k) M = fp_X11_four_L2 46 v f (nI k + (-1)) M' ∧ TpR (T ++ [byt v (8 * k)]) M' ∧ Fz atT M M' := by
    intro k f T M hC h hl hk
    refine ⟨_, ?_, TpR_push h, Fz_trans (Fz_sI (Or.inl rfl)) (Fz_sI (Or.inr ⟨rfl, rfl⟩))⟩
    have hne : zI (zsI M 48 T.length (sgb (byt v (8 * k)))) 46 5 = nI T.length := by rw [zI_other _ _ (Or.inl (by decide))]; exact h.1
    rw [fp_X11_four_L2, if_neg (by rw [n_lt0 (by omega)]; exact id), gR_46_3 hC, Option.bind_some, gI_46 hC, Option.bind_some, h.1, tI_48 hC hl, Option.bind_some, sg_byt hk, gI_46 (by exact hC), Option.bind_some, hne, inc, pI_46 (by exact hC), Option.bind_some]
  rw [show (3 : Int32) = nI 3 from n_3, show FU = 999999995 + 1 + 1 + 1 + 1 + 1 from rfl]
  obtain ⟨M1, e1, t1, f1⟩ := step 3 _ T M hC h (by omega) (by omega)
  obtain ⟨M2, e2, t2, f2⟩ := step 2 _ _ M1 (Fz_C f1 hC) t1 (by simp; omega) (by omega)
  obtain ⟨M3, e3, t3, f3⟩ := step 1 _ _ M2 (Fz_C (Fz_trans f1 f2) hC) t2 (by simp; omega) (by omega)
  obtain ⟨M4, e4, t4, f4⟩ := step 0 999999996 _ M3 (Fz_C (Fz_trans (Fz_trans f1 f2) f3) hC) t3 (by simp; omega) (by omega)
  refine ⟨M4, ?_, by unfold four; simpa using t4, Fz_trans (Fz_trans (Fz_trans f1 f2) f3) f4⟩
  rw [e1, n_m1, e2, n_m1, e3, n_m1, e4, fp_X11_four_L2, if_pos (by decide)]
theorem IR_tp2 {S : zSt} {T : List Nat} {M M' : zM} (h : IR S M) (hf : Fz atT M M') (hT : TpR T M') (h2 : T.length ≤ 200) (h3 : ∀ x ∈ T, x < 256) : IR (tpS S T) M' := by
  obtain ⟨h1, g2, g3, g4, g5, g6, g7, g8⟩ := h
  exact ⟨⟨h1.1, h2, h3, h1.2.2.2⟩, Fz_C hf g2, NrH_z g3 hf (by omega) (fun k => by omega), (hf.2 _ _ (by omega)).trans g4, hT, flR_z g6 hf (by omega) (by omega), ⟨(hf.2 _ _ (by omega)).trans g7.1, fun i hi => NtH_z (g7.2 i hi) hf (fun k => by omega)⟩, fun k hk => imR_z (g8 k hk) hf (fun k => by omega) (fun k => by omega)⟩
theorem y_feed {S : zSt} {M : zM} (h : IR S M) (a b c d e : Int32) : RM (q_feed S a b c d e) (fp_X11_feed 46 a b c d e M) M := by
  unfold fp_X11_feed q_feed
  have hC := IR_C h
  have b5 : TpR (sT S) M := IR_tp h
  have o2 := h.1.2.1
  have o3 := h.1.2.2.1
  rw [ts_46 hC, gI_46 hC 5, Option.bind_some, b5.1, show (180 : Int32) = nI 180 from by decide]
  by_cases hl : (sT S).length + 20 ≤ 200
  · rw [if_pos hl, if_pos (show nI (sT S).length ≤ nI 180 by rw [n_le (by omega) (by omega)]; omega)]
    obtain ⟨M1, e1, t1, f1⟩ := y_four (v := a) hC b5 (by omega)
    have c1 := Fz_C f1 hC
    obtain ⟨M2, e2, t2, f2⟩ := y_four (v := b) c1 t1 (by simp [four_len]; omega)
    have c2 := Fz_C f2 c1
    obtain ⟨M3, e3, t3, f3⟩ := y_four (v := c) c2 t2 (by simp [four_len]; omega)
    have c3 := Fz_C f3 c2
    obtain ⟨M4, e4, t4, f4⟩ := y_four (v := d) c3 t3 (by simp [four_len]; omega)
    have c4 := Fz_C f4 c3
    obtain ⟨M5, e5, t5, f5⟩ := y_four (v := e) c4 t4 (by simp [four_len]; omega)
    have c5 := Fz_C f5 c4
    have F := Fz_trans (Fz_trans (Fz_trans (Fz_trans f1 f2) f3) f4) f5
    rw [e1, Option.bind_some, e2, Option.bind_some, e3, Option.bind_some, e4, Option.bind_some, e5, Option.bind_some, gI_46 c5 5, Option.bind_some, t5.1]
    have hlen : (sT S ++ four a ++ four b ++ four c ++ four d ++ four e).length = (sT S).length + 20 := by simp [four_len]
    rw [hlen]
    refine ⟨M5, rfl, IR_tp2 h F t5 (by rw [hlen]; exact hl) ?_, Fz_c F fun a k q => by show 46 ≤ a ∧ a < 72; omega⟩
    intro x hx
    simp only [List.mem_append] at hx
    rcases hx with ((((hx | hx) | hx) | hx) | hx) | hx
    · exact o3 x hx
    all_goals exact four_lt x hx
  · rw [if_neg hl, if_neg (show ¬ nI (sT S).length ≤ nI 180 by rw [n_le (by omega) (by omega)]; omega)]
    exact ⟨M, rfl, h, Fc_refl⟩
theorem y_fault {S : zSt} {M : zM} (h : IR S M) (v : Int32) : fp_X11_fault 46 v M = some (q_fault S v) := by
  unfold fp_X11_fault q_fault
  have hC := IR_C h
  have b4 : flR (sQ S) M := h.2.2.2.2.2.1
  rw [ts_46 hC, gI_46 hC 11, gI_46 hC 12, Option.bind_some, Option.bind_some]
  cases hF : sQ S with
  | none =>
    rw [hF] at b4
    rw [b4.1, b4.2]
    dsimp only
    by_cases c0 : v = 0
    · rw [if_neg (fun z => z c0)]
    · rw [if_pos c0]
      by_cases c1 : v = 1
      · rw [if_neg (fun z => z c1)]
      · rw [if_pos c1]
  | some f =>
    rw [hF] at b4
    rw [b4.1, b4.2]
    dsimp only
    cases hv : asN v 2 with
    | none =>
      have c0 : v ≠ 0 := fun z => by rw [z] at hv; exact absurd hv (by decide)
      have c1 : v ≠ 1 := fun z => by rw [z] at hv; exact absurd hv (by decide)
      rw [if_pos c0, if_pos c1]
    | some w =>
      obtain ⟨rfl, hw, hb⟩ := asN_some hv
      dsimp only
      by_cases h0 : w = 0
      · subst h0; rw [if_neg (by decide), if_pos rfl]
      · have : w = 1 := by omega
        subst this
        rw [if_pos (by decide), if_neg (by decide), if_neg (by decide)]
/-! how often, where first, where last -/
def lsI (p : Nat) (w : List Nat) : Nat := w.length - 1 - w.reverse.idxOf p
def CtH (s : Nat) (w : List Nat) (M : zM) : Prop := ∀ x, x < 26 → zI M 50 x = nI (w.count (x + 97)) ∧ (x + 97 ∈ w → zI M 51 x = nI (s + w.idxOf (x + 97)) ∧ zI M 52 x = nI (s + lsI (x + 97) w))
abbrev atK : Nat → Nat → Prop := fun a _ => 50 ≤ a ∧ a ≤ 52
theorem lsI_snoc (p : Nat) (w : List Nat) : lsI p (w ++ [p]) = w.length := by
  unfold lsI
  rw [List.reverse_append, List.reverse_singleton, List.singleton_append, List.idxOf_cons_self, List.length_append, List.length_singleton]
  omega
theorem lsI_snoc' {p y : Nat} {w : List Nat} (h : y ≠ p) : lsI p (w ++ [y]) = lsI p w := by
  unfold lsI
  rw [List.reverse_append, List.reverse_singleton, List.singleton_append, List.idxOf_cons, show (y == p) = false by simpa using h, cond_false, List.length_append, List.length_singleton]
  omega
theorem sg_sml : ∀ t, t < 256 → (97 ≤ t ∧ t ≤ 122 ∧ sgb t - 97 = nI (t - 97)) ∨ (¬ (97 ≤ t ∧ t ≤ 122) ∧ asN (sgb t - 97) 26 = none) := by decide +kernel
theorem idx_snoc {p y : Nat} {w : List Nat} (h : p ∈ w) : (w ++ [y]).idxOf p = w.idxOf p := by rw [List.idxOf_append, if_pos h]
theorem idx_snoc' {p : Nat} {w : List Nat} (h : p ∉ w) : (w ++ [p]).idxOf p = w.length := by rw [List.idxOf_append, if_neg h, List.idxOf_cons_self, Nat.zero_add]
/-- another sign: no letter -/
theorem CtH_skip {s t : Nat} {w : List Nat} {M : zM} (h : CtH s w M) (ht : ¬ (97 ≤ t ∧ t ≤ 122)) : CtH s (w ++ [t]) M := fun x hx => by
  have hne : t ≠ x + 97 := by omega
  obtain ⟨h1, h2⟩ := h x hx
  refine ⟨by rw [List.count_append, List.count_singleton, if_neg (by simpa using hne)]; exact h1, fun hm => ?_⟩
  have hm2 : x + 97 ∈ w := by
    rcases List.mem_append.mp hm with q | q
    · exact q
    · exact absurd (List.mem_singleton.mp q).symm hne
  rw [idx_snoc hm2, lsI_snoc' hne]
  exact h2 hm2
theorem CtH_push {s t : Nat} {w : List Nat} {M M1 M2 M3 : zM} (h : CtH s w M) (h1 : 97 ≤ t) (h2 : t ≤ 122) (e1 : M1 = if w.count t = 0 then zsI M 51 (t - 97) (nI (s + w.length)) else M) (e2 : M2 = zsI M1 52 (t - 97) (nI (s + w.length))) (e3 : M3 = zsI M2 50 (t - 97) (nI (w.count t + 1))) : CtH s (w ++ [t]) M3 := by
  have o : ∀ a k, a ≠ 50 ∧ a ≠ 51 ∧ a ≠ 52 ∨ k ≠ t - 97 → zI M3 a k = zI M a k := by
    intro a k q
    rw [e3, zI_other _ _ (q.elim (fun z => Or.inl z.1) Or.inr), e2, zI_other _ _ (q.elim (fun z => Or.inl z.2.2) Or.inr), e1]
    split
    · rw [zI_other _ _ (q.elim (fun z => Or.inl z.2.1) Or.inr)]
    · rfl
  intro x hx
  obtain ⟨g1, g2⟩ := h x hx
  by_cases hxt : t = x + 97
  · have hx' : x = t - 97 := by omega
    refine ⟨by rw [List.count_append, List.count_singleton, if_pos (by simpa using hxt), ← hxt, hx', e3, zI_same], fun _ => ⟨?_, ?_⟩⟩
    · rw [e3, zI_other _ _ (Or.inl (by decide)), e2, zI_other _ _ (Or.inl (by decide)), e1, ← hxt]
      by_cases c : w.count t = 0
      · rw [if_pos c, idx_snoc' (List.count_eq_zero.mp c), hx', zI_same]
      · have hm : t ∈ w := List.count_pos_iff.mp (by omega)
        rw [if_neg c, idx_snoc hm, hxt]
        exact (g2 (hxt ▸ hm)).1
    · rw [e3, zI_other _ _ (Or.inl (by decide)), e2, hx', zI_same, show t - 97 + 97 = t by omega, lsI_snoc]
  · have hxn : x ≠ t - 97 := by omega
    rw [o 50 x (Or.inr hxn), o 51 x (Or.inr hxn), o 52 x (Or.inr hxn)]
    refine ⟨by rw [List.count_append, List.count_singleton, if_neg (by simpa using hxt)]; exact g1, fun hm => ?_⟩
    have hm2 : x + 97 ∈ w := by
      rcases List.mem_append.mp hm with q | q
      · exact q
      · exact absurd (List.mem_singleton.mp q).symm hxt
    rw [idx_snoc hm2, lsI_snoc' hxt]
    exact g2 hm2
theorem lI_b {M : zM} {a i : Nat} (hC : zC M) (ha : a = 48 ∨ a = 49) (hi : i < 200) : zlI 102 M a (nI i) = some (zI M a i) := by
  rcases ha with rfl | rfl
  · exact lI_48 hC hi
  · exact lI_49 hC hi
theorem y_counts {T : List Nat} {a s e : Nat} {M : zM} (hC : zC M) (ha : a = 48 ∨ a = 49) (hl : T.length ≤ 200) (hT : ∀ x ∈ T, x < 256) (h : ∀ i, i < T.length → zI M a i = sgb (T.getD i 0)) (hse : s ≤ e) (he : e ≤ T.length) :
    ∃ M', fp_X11_counts 46 a (nI s) (nI e) M = some M' ∧ CtH s ((T.drop s).take (e - s)) M' ∧ Fz atK M M' := by
  unfold fp_X11_counts
  rw [ts_46 hC, n_0]
  refine up (P := fun x f => ∀ M1, Fz atK M M1 → (∀ j, j < x → zI M1 50 j = 0) → ∃ M', fp_X11_counts_L3 (fun M3 => fp_X11_counts_L27 46 a (nI e) FU (nI s) M3) 46 a (nI s) (nI e) f (nI x) M1 = some M' ∧ CtH s ((T.drop s).take (e - s)) M' ∧ Fz atK M M') (a := 0) (n := 26) ?_ ?_ FU (by omega) (FU_gt (by omega)) M Fz_refl (fun j hj => by omega)
  · intro f M1 f1 z1
    rw [fp_X11_counts_L3, show (26 : Int32) = nI 26 from by decide, stp]
    refine up (P := fun i f => ∀ M1, Fz atK M M1 → CtH s ((T.drop s).take (i - s)) M1 → ∃ M', fp_X11_counts_L27 46 a (nI e) f (nI i) M1 = some M' ∧ CtH s ((T.drop s).take (e - s)) M' ∧ Fz atK M M') (a := s) (n := e) ?_ ?_ FU hse (FU_gt (by omega)) M1 f1 ?_
    · intro f M1 f1 c1
      exact ⟨M1, by rw [fp_X11_counts_L27, stp], c1, f1⟩
    · intro i f hi1 hi2 ih M1 f1 c1
      have hC1 := Fz_C f1 hC
      obtain ⟨t, ht⟩ : ∃ t, t = T.getD i 0 := ⟨_, rfl⟩
      have ht256 : t < 256 := by rw [ht]; exact hT _ (getD_mem (by omega))
      obtain ⟨w, hw⟩ : ∃ w, w = (T.drop s).take (i - s) := ⟨_, rfl⟩
      have hwl : w.length = i - s := by rw [hw, List.length_take, List.length_drop]; omega
      have hnext : (T.drop s).take (i + 1 - s) = w ++ [t] := by
        rw [show i + 1 - s = (i - s) + 1 by omega, tk (by rw [List.length_drop]; omega), ← hw, ht]
        congr 2
        simp [List.getD, List.getElem?_drop, show s + (i - s) = i by omega]
      rw [hnext] at ih
      rw [← hw] at c1
      have hb : zI M1 a i = sgb t := by rw [f1.2 a i (by omega), h i (by omega), ht]
      rw [fp_X11_counts_L27, go hi2 (by omega), lI_b hC1 ha (by omega), Option.bind_some, hb, lett_eq, show (25 : Int32) = nI 25 from by decide, y_from0 (by decide), Option.bind_some, zjn_eq, inc]
      rcases sg_sml t ht256 with ⟨q1, q2, q3⟩ | ⟨q1, q3⟩
      · have hx : t - 97 < 26 := by omega
        obtain ⟨g1, g2⟩ := c1 (t - 97) hx
        rw [show t - 97 + 97 = t by omega] at g1 g2
        have hcl : w.count t ≤ w.length := List.count_le_length
        rw [q3, asN_n (show t - 97 < 25 + 1 by omega) (by omega), b_so, if_pos (show (1 : Int32) ≠ 0 by decide), gR_46_13 hC1, Option.bind_some, lI_50 hC1 hx, Option.bind_some, g1, zjn_eq]
        obtain ⟨M2, hM2⟩ : ∃ M2, M2 = if w.count t = 0 then zsI M1 51 (t - 97) (nI (s + w.length)) else M1 := ⟨_, rfl⟩
        have hsi : s + w.length = i := by omega
        have hf2 : Fz atK M1 M2 := by
          rw [hM2]; split
          · exact Fz_sI ⟨by decide, by decide⟩
          · exact Fz_refl
        have hC2 := Fz_C hf2 hC1
        have e50 : zI M2 50 (t - 97) = nI (w.count t) := by
          rw [hM2]; split
          · rw [zI_other _ _ (Or.inl (by decide)), g1]
          · exact g1
        have tail : ((zgR 9 M2 46 15).bind fun (y11 : Nat) =>
                (ztI M2 y11 (nI (t - 97)) (nI i)).bind fun (M12 : zM) =>
                (zgR 9 M12 46 13).bind fun (y13 : Nat) =>
                (zlI 100 M12 y13 (nI (t - 97))).bind fun (y14 : Int32) =>
                (ztI M12 y13 (nI (t - 97)) (y14 + 1)).bind fun (M15 : zM) =>
                fp_X11_counts_L27 46 a (nI e) f (nI (i + 1)) M15) = fp_X11_counts_L27 46 a (nI e) f (nI (i + 1)) (zsI (zsI M2 52 (t - 97) (nI i)) 50 (t - 97) (nI (w.count t + 1))) := by
          rw [gR_46_15 hC2, Option.bind_some, tI_52 hC2 hx, Option.bind_some, gR_46_13 (by exact hC2), Option.bind_some, lI_50 (by exact hC2) hx, Option.bind_some, zI_other _ _ (Or.inl (by decide)), e50, inc, tI_50 (by exact hC2) hx, Option.bind_some]
        have hnew : CtH s (w ++ [t]) (zsI (zsI M2 52 (t - 97) (nI i)) 50 (t - 97) (nI (w.count t + 1))) := CtH_push c1 q1 q2 hM2 (by rw [hsi]) rfl
        have hfin := ih _ (Fz_trans (Fz_trans f1 hf2) (Fz_trans (Fz_sI ⟨by decide, by decide⟩) (Fz_sI ⟨by decide, by decide⟩))) hnew
        by_cases c : w.count t = 0
        · rw [if_pos c, hsi] at hM2
          rw [if_neg (show ¬ nI (w.count t) ≠ 0 by rw [c]; decide), gR_46_14 hC1, Option.bind_some, tI_51 hC1 hx, Option.bind_some, ← hM2]
          dsimp only
          rw [tail]
          exact hfin
        · rw [if_neg c] at hM2
          rw [if_pos (show nI (w.count t) ≠ 0 by rw [n_0, ne_eq, n_eq (by omega) (by omega)]; exact c), ← hM2]
          dsimp only
          rw [tail]
          exact hfin
      · rw [q3, b_no, if_neg (show ¬ (0 : Int32) ≠ 0 by decide)]
        exact ih M1 f1 (CtH_skip c1 q1)
    · rw [Nat.sub_self, List.take_zero]
      intro x hx
      exact ⟨z1 x hx, fun hm => absurd hm List.not_mem_nil⟩
  · intro x f _ hx ih M1 f1 z1
    have hC1 := Fz_C f1 hC
    rw [fp_X11_counts_L3, show (26 : Int32) = nI 26 from by decide, go hx (by omega), gR_46_13 hC1, Option.bind_some, tI_50 hC1 hx, Option.bind_some, inc]
    refine ih _ (Fz_trans f1 (Fz_sI ⟨by decide, by decide⟩)) fun j hj => ?_
    by_cases hji : j = x
    · rw [hji, zI_same]
    · rw [zI_other _ _ (Or.inr hji), z1 j (by omega)]
/-! where two letters stand to each other -/
theorem cnt_tk1 {y : Nat} {A R : List Nat} (hA : y ∉ A) (k : Nat) : ((A ++ y :: R).take k).count y = if A.length < k then 1 + (R.take (k - A.length - 1)).count y else 0 := by
  induction A generalizing k with
  | nil =>
    cases k with
    | zero => rfl
    | succ k =>
      rw [if_pos (show ([] : List Nat).length < k + 1 from Nat.succ_pos k), List.nil_append, List.take_succ_cons, List.count_cons_self]
      show (R.take k).count y + 1 = 1 + (R.take (k + 1 - 0 - 1)).count y
      rw [show k + 1 - 0 - 1 = k by omega, Nat.add_comm]
  | cons a A ih =>
    have ha : a ≠ y := fun z => hA (z ▸ List.mem_cons_self)
    cases k with
    | zero => rfl
    | succ k =>
      rw [List.cons_append, List.take_succ_cons, List.count_cons_of_ne ha, ih (fun z => hA (List.mem_cons_of_mem _ z))]
      by_cases c : A.length < k
      · rw [if_pos c, if_pos (by rw [List.length_cons]; omega), List.length_cons, show k + 1 - (A.length + 1) - 1 = k - A.length - 1 by omega]
      · rw [if_neg c, if_neg (by rw [List.length_cons]; omega)]
theorem cnt_tk2 {y : Nat} {A B C : List Nat} (hA : y ∉ A) (hB : y ∉ B) (hC : y ∉ C) (k : Nat) : ((A ++ y :: (B ++ y :: C)).take k).count y = (decide (A.length < k)).toNat + (decide (A.length + 1 + B.length < k)).toNat := by
  rw [cnt_tk1 hA, cnt_tk1 hB]
  have h0 : ∀ j, (C.take j).count y = 0 := fun j => List.count_eq_zero.mpr fun z => hC (List.mem_of_mem_take z)
  rw [h0]
  by_cases c1 : A.length < k
  · rw [if_pos c1, decide_eq_true c1]
    by_cases c2 : A.length + 1 + B.length < k
    · rw [if_pos (by omega), decide_eq_true c2]; rfl
    · rw [if_neg (by omega), decide_eq_false c2]; rfl
  · rw [if_neg c1, decide_eq_false c1, decide_eq_false (by omega)]; rfl
theorem lsI_split {p : Nat} {A B C : List Nat} (hC : p ∉ C) : lsI p (A ++ p :: (B ++ p :: C)) = A.length + 1 + B.length := by
  unfold lsI
  have e : (A ++ p :: (B ++ p :: C)).reverse = C.reverse ++ p :: (B.reverse ++ p :: A.reverse) := by simp
  rw [e, idx_split (fun z => hC (List.mem_reverse.mp z)), List.length_reverse]
  simp; omega
theorem crs_pos {p q : Nat} {w : List Nat} (hpq : p ≠ q) (hp : w.count p = 2) (hq : w.count q = 2) :
    crs p q w = (decide (w.idxOf p < w.idxOf q ∧ w.idxOf q < lsI p w) != decide (w.idxOf p < lsI q w ∧ lsI q w < lsI p w)) := by
  obtain ⟨A, B, C, e, h1, h2, h3⟩ := two_of hp
  obtain ⟨D, E, F, e', g1, g2, g3⟩ := two_of hq
  have f1 : w.idxOf p = A.length := by rw [e, idx_split h1]
  have f2 : lsI p w = A.length + 1 + B.length := by rw [e, lsI_split h3]
  have f3 : w.idxOf q = D.length := by rw [e', idx_split g1]
  have f4 : lsI q w = D.length + 1 + E.length := by rw [e', lsI_split g3]
  have hwl : w.length = A.length + 1 + B.length + 1 + C.length := by rw [e]; simp; omega
  have hwl' : w.length = D.length + 1 + E.length + 1 + F.length := by rw [e']; simp; omega
  have pp : ∀ k, k < w.length → (w.getD k 0 = p ↔ (k = A.length ∨ k = A.length + 1 + B.length)) := fun k hk => by
    rw [e] at hk ⊢; exact two_pos h1 h2 h3 hk
  have pq : ∀ k, k < w.length → (w.getD k 0 = q ↔ (k = D.length ∨ k = D.length + 1 + E.length)) := fun k hk => by
    rw [e'] at hk ⊢; exact two_pos g1 g2 g3 hk
  have dif : ∀ k, k < w.length → w.getD k 0 = p → w.getD k 0 = q → False := fun k _ a b => hpq (a.symm.trans b)
  have n1 : D.length ≠ A.length := fun z => dif D.length (by omega) ((pp _ (by omega)).mpr (Or.inl z)) ((pq _ (by omega)).mpr (Or.inl rfl))
  have n2 : D.length + 1 + E.length ≠ A.length := fun z => dif (D.length + 1 + E.length) (by omega) ((pp _ (by omega)).mpr (Or.inl z)) ((pq _ (by omega)).mpr (Or.inr rfl))
  have t1 : (w.take (A.length + 1 + B.length)).count q = A.count q + B.count q := by
    rw [e, show A ++ p :: (B ++ p :: C) = (A ++ p :: B) ++ (p :: C) by simp, List.take_left' (by simp; omega), List.count_append, List.count_cons_of_ne hpq]
  have t2 : (w.take (A.length + 1)).count q = A.count q := by
    rw [e, show A ++ p :: (B ++ p :: C) = (A ++ [p]) ++ (B ++ p :: C) by simp, List.take_left' (by simp), List.count_append, List.count_singleton, if_neg (by simpa using hpq), Nat.add_zero]
  rw [e', cnt_tk2 g1 g2 g3] at t1 t2
  have hc : crs p q w = (B.count q == 1) := by
    rw [e] at hq ⊢; exact crs_p hpq h1 h2 h3 hq
  rw [hc, f1, f2, f3, f4]
  have key : ∀ (a b x y : Bool) (k c : Nat), a.toNat + b.toNat = c + k → x.toNat + y.toNat = c → (x = true → a = true) → (y = true → b = true) → (k == 1) = ((a && !x) != (b && !y)) := by
    intro a b x y k c q1 q2 q3 q4
    cases a <;> cases b <;> cases x <;> cases y <;> simp at q1 q2 q3 q4 ⊢ <;> omega
  rw [key _ _ _ _ (B.count q) (A.count q) t1 t2 (fun z => decide_eq_true (by have := of_decide_eq_true z; omega)) (fun z => decide_eq_true (by have := of_decide_eq_true z; omega))]
  congr 1
  · rw [← decide_not, ← Bool.decide_and]
    exact decide_eq_decide.mpr (by omega)
  · rw [← decide_not, ← Bool.decide_and]
    exact decide_eq_decide.mpr (by omega)
theorem y_isCrossed {x y a b c d : Nat} {M : zM} (hC : zC M) (hx : x < 26) (hy : y < 26) (h1 : zI M 51 x = nI a) (h2 : zI M 52 x = nI b) (h3 : zI M 51 y = nI c) (h4 : zI M 52 y = nI d) (ha : a < 2 ^ 31) (hb : b < 2 ^ 31) (hc : c < 2 ^ 31) (hd : d < 2 ^ 31) :
    fp_X11_isCrossed 46 (nI x) (nI y) M = some (bI (decide (a < c ∧ c < b) != decide (a < d ∧ d < b))) := by
  unfold fp_X11_isCrossed
  have j1 : ∀ (K : Int32 → Option Int32) (c : Nat), c < 2 ^ 31 → (zjn K (fun j35 => zjn (j35 0) (fun j34 => if nI c ≤ nI a then j34 else if nI c ≥ nI b then j34 else j35 1))) = K (bI (decide (a < c ∧ c < b))) := by
    intro K c hc
    rw [zjn_eq, zjn_eq]
    by_cases c1 : c ≤ a
    · rw [if_pos (show nI c ≤ nI a by rw [n_le hc ha]; exact c1), decide_eq_false (by omega)]; rfl
    · rw [if_neg (show ¬ nI c ≤ nI a by rw [n_le hc ha]; exact c1)]
      by_cases c2 : b ≤ c
      · rw [if_pos (show nI c ≥ nI b by rw [ge_iff_le, n_le hb hc]; exact c2), decide_eq_false (by omega)]; rfl
      · rw [if_neg (show ¬ nI c ≥ nI b by rw [ge_iff_le, n_le hb hc]; exact c2), decide_eq_true (by omega)]; rfl
  rw [ts_46 hC]
  simp only [gR_46_14 hC, gR_46_15 hC, Option.bind_some, lI_51 hC hx, lI_51 hC hy, lI_52 hC hx, lI_52 hC hy, h1, h2, h3, h4]
  rw [j1 _ c hc, j1 _ d hd]
  cases decide (a < c ∧ c < b) <;> cases decide (a < d ∧ d < b) <;> rfl
theorem CtH_cr {s x y : Nat} {w : List Nat} {M : zM} (hC : zC M) (h : CtH s w M) (hx : x < 26) (hy : y < 26) (hxy : x ≠ y) (hs : s + w.length < 2 ^ 31) (h1 : w.count (x + 97) = 2) (h2 : w.count (y + 97) = 2) : fp_X11_isCrossed 46 (nI x) (nI y) M = some (bI (crs (x + 97) (y + 97) w)) := by
  have mx : x + 97 ∈ w := List.count_pos_iff.mp (by omega)
  have my : y + 97 ∈ w := List.count_pos_iff.mp (by omega)
  obtain ⟨a1, a2⟩ := (h x hx).2 mx
  obtain ⟨b1, b2⟩ := (h y hy).2 my
  have i1 := List.idxOf_lt_length_of_mem mx
  have i2 := List.idxOf_lt_length_of_mem my
  have i3 : lsI (x + 97) w ≤ w.length := by unfold lsI; omega
  have i4 : lsI (y + 97) w ≤ w.length := by unfold lsI; omega
  rw [y_isCrossed hC hx hy a1 a2 b1 b2 (by omega) (by omega) (by omega) (by omega), crs_pos (by omega) h1 h2]
  congr 2
  congr 1
  · exact decide_eq_decide.mpr (by omega)
  · exact decide_eq_decide.mpr (by omega)
theorem y_cross {S : zSt} {M : zM} (h : IR S M) (v a b : Int32) : RM (q_cross S v a b) (fp_X11_cross 46 v a b M) M := by
  unfold fp_X11_cross q_cross
  have hC := IR_C h
  have o2 := h.1.2.1
  rw [ts_46 hC, gI_46 hC 5, Option.bind_some, (IR_tp h).1, y_from0 (by omega), Option.bind_some]
  cases hv : asN v ((sT S).length + 1) with
  | none => rw [b_no, if_pos rfl]; exact y_rf h Fc_refl
  | some m =>
    rw [b_so, if_neg (show ¬ (1 : Int32) = 0 by decide), show (25 : Int32) = nI 25 from by decide, y_from0 (by decide), Option.bind_some]
    dsimp only
    cases ha : asN a (25 + 1) with
    | none => rw [b_no, if_pos rfl]; exact y_rf h Fc_refl
    | some x =>
      rw [b_so, if_neg (show ¬ (1 : Int32) = 0 by decide), y_from0 (by decide), Option.bind_some]
      dsimp only
      cases hb : asN b (25 + 1) with
      | none => rw [b_no, if_neg (show ¬ (0 : Int32) ≠ 0 by decide)]; exact y_rf h Fc_refl
      | some y =>
        obtain ⟨rfl, hm, hb1⟩ := asN_some hv
        obtain ⟨rfl, hx, hb2⟩ := asN_some ha
        obtain ⟨rfl, hy, hb3⟩ := asN_some hb
        dsimp only
        obtain ⟨M1, e1, e2, e3⟩ := y_counts (s := 0) (e := m) hC (Or.inl rfl) o2 h.1.2.2.1 (IR_tp h).2 (Nat.zero_le _) (by omega)
        rw [Nat.sub_zero, List.drop_zero] at e2
        rw [← n_0] at e1
        have hz : Fz scR M M1 := Fz_mono e3 fun a k q => by omega
        have h1 := IR_z h hz
        have hC1 := IR_C h1
        have hF := scR_c hz
        obtain ⟨w, hw⟩ : ∃ w, w = (sT S).take m := ⟨_, rfl⟩
        rw [← hw] at e2 ⊢
        have hwl : w.length ≤ 200 := by rw [hw, List.length_take]; omega
        have cx : w.count (x + 97) ≤ w.length := List.count_le_length
        have cy : w.count (y + 97) ≤ w.length := List.count_le_length
        rw [b_so, if_pos (show (1 : Int32) ≠ 0 by decide), gR_46_3 hC, Option.bind_some, e1, Option.bind_some, gR_46_13 hC1, Option.bind_some, lI_50 hC1 hx, Option.bind_some, (e2 x hx).1]
        by_cases c1 : w.count (x + 97) = 2
        · rw [if_pos c1, if_neg (show ¬ nI (w.count (x + 97)) ≠ 2 by rw [c1]; decide), Option.bind_some, lI_50 hC1 hy, Option.bind_some, (e2 y hy).1]
          by_cases c2 : w.count (y + 97) = 2
          · rw [if_pos c2, if_pos (show nI (w.count (y + 97)) = 2 by rw [c2]; decide)]
            by_cases c3 : x = y
            · rw [if_pos c3, if_neg (show ¬ nI x ≠ nI y by rw [c3]; exact fun q => q rfl)]; exact y_rf h1 hF
            · have hI := IR_tp0 h1
              have hC2 := IR_C hI
              have e4 : CtH 0 w (zsI M1 46 5 0) := fun z hz => by
                have := e2 z hz
                rw [zI_other _ _ (Or.inl (by decide)), zI_other _ _ (Or.inl (by decide)), zI_other _ _ (Or.inl (by decide))]
                exact this
              have hcr := CtH_cr hC2 e4 hx hy c3 (by omega) c1 c2
              rw [if_neg c3, if_pos (show nI x ≠ nI y by rw [ne_eq, n_eq hb2 hb3]; exact c3), pI_46 hC1, Option.bind_some, hcr, Option.bind_some]
              have hcB : crB w (x + 97) (y + 97) = crs (x + 97) (y + 97) w := brs_crs (by omega) c1 c2
              rw [hcB]
              have hF2 : Fc atR M (zsI M1 46 5 0) := Fc_trans hF (Fc_1 (by decide))
              cases crs (x + 97) (y + 97) w with
              | true => rw [b_tt, if_neg (show ¬ (1 : Int32) = 0 by decide)]; exact y_gv hI hF2
              | false => rw [b_ff, if_pos rfl]; exact y_gv hI hF2
          · rw [if_neg c2, if_neg (show ¬ nI (w.count (y + 97)) = 2 by rw [n_2, n_eq (by omega) (by omega)]; exact c2)]; exact y_rf h1 hF
        · rw [if_neg c1, if_pos (show nI (w.count (x + 97)) ≠ 2 by rw [n_2, ne_eq, n_eq (by omega) (by omega)]; exact c1)]; exact y_rf h1 hF

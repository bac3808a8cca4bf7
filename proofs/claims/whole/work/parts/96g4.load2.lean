/-! ===== 96g4: the reference: cross, a line, load ===== -/
theorem cnt_s1 {f : Nat → Bool} {i : Nat} (h : f i = true) : cnt f (i + 1) = cnt f i + 1 := by rw [cnt, h]; rfl
theorem cnt_s0 {f : Nat → Bool} {i : Nat} (h : f i = false) : cnt f (i + 1) = cnt f i := by rw [cnt, h]; rfl
theorem y_unl {s : Nat} {w : List Nat} {v : Int32} {M : zM} (K : Int32 → Option (Int32 × zM)) (hC : zC M) (h : CtH s w M) (hw : ∀ t ∈ w, 97 ≤ t) (hl : w.length ≤ 200) : fp_X11_aCross_L54 K 46 v M FU 0 0 = K (nI (unl (w.map (· - 97)))) := by
  have hm := fun x => cnt_wd (w := w) (x := x) hw
  obtain ⟨W, hW⟩ : ∃ W, W = w.map (· - 97) := ⟨_, rfl⟩
  rw [← hW]
  simp only [← hW] at hm
  have st0 : fp_X11_aCross_L54 K 46 v M FU 0 0 = fp_X11_aCross_L54 K 46 v M FU (nI (cnt W.contains 0)) (nI 0) := rfl
  rw [st0]
  refine up (P := fun x f => fp_X11_aCross_L54 K 46 v M f (nI (cnt W.contains x)) (nI x) = K (nI (unl W))) (a := 0) (n := 26) ?_ ?_ FU (by omega) (FU_gt (by omega))
  · intro f
    rw [fp_X11_aCross_L54, show (26 : Int32) = nI 26 from by decide, stp]; rfl
  · intro x f _ hx ih
    have hcl : w.count (x + 97) ≤ w.length := List.count_le_length
    rw [fp_X11_aCross_L54, show (26 : Int32) = nI 26 from by decide, go hx (by omega), gR_46_13 hC, Option.bind_some, lI_50 hC hx, Option.bind_some, (h x hx).1, zjn_eq, inc]
    by_cases c : w.count (x + 97) = 0
    · have hf : W.contains x = false := by
        have : x ∉ W := List.count_eq_zero.mp (by rw [hm, c])
        simpa using this
      rw [cnt_s0 hf] at ih
      rw [if_pos (show nI (w.count (x + 97)) ≤ 0 by rw [c]; decide)]
      dsimp only
      rw [lett_eq, Int32.add_zero]
      exact ih
    · have hf : W.contains x = true := by
        have : x ∈ W := List.count_pos_iff.mp (by rw [hm]; omega)
        simpa using this
      rw [cnt_s1 hf] at ih
      rw [if_neg (show ¬ nI (w.count (x + 97)) ≤ 0 by rw [n_0, n_le (by omega) (by omega)]; omega)]
      dsimp only
      rw [lett_eq, inc]
      exact ih
def wfl (u : Nat) (W : List Nat) (i : Nat) : Bool := (List.range i).all fun x => W.count x == if x < u then 2 else 0
theorem wfl_s (u : Nat) (W : List Nat) (i : Nat) : wfl u W (i + 1) = (wfl u W i && (W.count i == if i < u then 2 else 0)) := by
  unfold wfl
  rw [List.range_succ, List.all_append, List.all_cons, List.all_nil, Bool.and_true]
theorem y_wfl {s u : Nat} {w : List Nat} {b0 : Bool} {M : zM} (K : Int32 → Option (Int32 × zM)) (hC : zC M) (h : CtH s w M) (hw : ∀ t ∈ w, 97 ≤ t) (hl : w.length ≤ 200) (hu : u ≤ 26) : fp_X11_aCross_L85 K 46 (nI u) M FU (bI b0) 0 = K (bI (b0 && wfl u (w.map (· - 97)) 26)) := by
  have hm := fun x => cnt_wd (w := w) (x := x) hw
  obtain ⟨W, hW⟩ : ∃ W, W = w.map (· - 97) := ⟨_, rfl⟩
  rw [← hW]
  simp only [← hW] at hm
  rw [n_0]
  refine up (P := fun x f => ∀ b : Bool, b = (b0 && wfl u W x) → fp_X11_aCross_L85 K 46 (nI u) M f (bI b) (nI x) = K (bI (b0 && wfl u W 26))) (a := 0) (n := 26) ?_ ?_ FU (by omega) (FU_gt (by omega)) b0 (by show b0 = (b0 && true); rw [Bool.and_true])
  · intro f b hb
    rw [fp_X11_aCross_L85, show (26 : Int32) = nI 26 from by decide, stp, hb]
  · intro x f _ hx ih b hb
    have hcl : w.count (x + 97) ≤ w.length := List.count_le_length
    rw [fp_X11_aCross_L85, show (26 : Int32) = nI 26 from by decide, go hx (by omega), zjn_eq, zjn_eq, inc]
    rw [wfl_s, hm] at ih
    cases b with
    | false =>
      rw [b_ff, if_pos rfl]
      exact ih false (by rw [← Bool.and_assoc, ← hb, Bool.false_and])
    | true =>
      rw [b_tt, if_neg (show ¬ (1 : Int32) = 0 by decide), gR_46_13 hC, Option.bind_some, lI_50 hC hx, Option.bind_some, (h x hx).1, zjn_eq]
      have tail : ∀ k : Nat, k < 10 → (k = if x < u then 2 else 0) → (if nI (w.count (x + 97)) ≠ nI k then fp_X11_aCross_L85 K 46 (nI u) M f 0 (nI (x + 1)) else fp_X11_aCross_L85 K 46 (nI u) M f 1 (nI (x + 1))) = K (bI (b0 && wfl u W 26)) := by
        intro k hk he
        by_cases c : w.count (x + 97) = k
        · rw [if_neg (show ¬ nI (w.count (x + 97)) ≠ nI k by rw [c]; exact fun z => z rfl)]
          exact ih true (by rw [← Bool.and_assoc, ← hb, ← he, c, beq_self_eq_true]; rfl)
        · rw [if_pos (show nI (w.count (x + 97)) ≠ nI k by rw [ne_eq, n_eq (by omega) (by omega)]; exact c)]
          exact ih false (by rw [← Bool.and_assoc, ← hb, ← he, Bool.true_and]; symm; simpa using c)
      by_cases c : u ≤ x
      · rw [if_pos (show nI x ≥ nI u by rw [ge_iff_le, n_le (by omega) (by omega)]; exact c)]
        exact tail 0 (by decide) (by rw [if_neg (by omega)])
      · rw [if_neg (show ¬ nI x ≥ nI u by rw [ge_iff_le, n_le (by omega) (by omega)]; exact c)]
        exact tail 2 (by decide) (by rw [if_pos (by omega)])
theorem wfl_iff {u : Nat} {W : List Nat} : wfl u W 26 = true ↔ ∀ x, x < 26 → W.count x = if x < u then 2 else 0 := by
  unfold wfl
  rw [List.all_eq_true]
  constructor
  · intro h x hx
    exact eq_of_beq (h x (List.mem_range.mpr hx))
  · intro h x hx
    rw [h x (List.mem_range.mp hx), beq_self_eq_true]
theorem okW_wf {W : List Nat} (h : ∀ x ∈ W, x < 26) : okW W = (decide (W.length ≤ 14) && wfl (unl W) W 26) := by
  have hu : unl W ≤ 26 := cnt_le _ _
  by_cases h14 : W.length ≤ 14
  · rw [decide_eq_true h14, Bool.true_and]
    cases hb : wfl (unl W) W 26 with
    | true =>
      rw [wfl_iff] at hb
      refine okW_iff.mpr ⟨h14, ?_, fun p hp => by rw [hb p (by omega), if_pos hp]⟩
      have h1 := count_sum (unl W) W
      have h2 : smN (fun p => W.count p) (unl W) = unl W * 2 := by rw [smN_congr (g := fun _ => 2) (fun i hi => by rw [hb i (by omega), if_pos hi]), smN_const]
      have h3 : cntGe (unl W) W = 0 := by
        unfold cntGe
        rw [List.countP_eq_zero]
        intro x hx
        have hc : 0 < W.count x := List.count_pos_iff.mpr hx
        have := hb x (h x hx)
        by_cases c : x < unl W
        · simp; omega
        · rw [if_neg c] at this; omega
      omega
    | false =>
      refine okW_f fun z => ?_
      have hlt := WD_lt z.2
      have : wfl (unl W) W 26 = true := wfl_iff.mpr fun x hx => by
        by_cases c : x < unl W
        · rw [if_pos c]; exact z.2.2 x c
        · rw [if_neg c]
          exact List.count_eq_zero.mpr fun w => c (hlt x w)
      rw [this] at hb
      cases hb
  · rw [decide_eq_false h14, Bool.false_and]
    exact okW_f fun z => h14 z.1
theorem PaH_K {T : List Nat} {n L e : Nat} {M M' : zM} (h : PaH T n L e M) (hf : Fz atK M M') : PaH T n L e M' :=
  ⟨TxR_z h.1 hf (by omega) (fun k => by omega), NrH_z h.2.1 hf (by omega) (fun k => by omega), TkH_z h.2.2.1 hf (by omega) (by omega) (by omega), (hf.2 _ _ (by omega)).trans h.2.2.2.1, (hf.2 _ _ (by omega)).trans h.2.2.2.2⟩
theorem y_cx {T : List Nat} {n L e : Nat} {M : zM} (h : PaH T n L e M) (hT : ∀ x ∈ T, x < 256) (he : e ≤ T.length) (hn : n < 8) (hL : L < 2 ^ tri n) : ∃ b, fp_X11_aCross 46 M = some b ∧ RdR T (crS T n L e) b ∧ Fz atL9 M b.2 := by
  unfold fp_X11_aCross crS
  have hC := h.1.1
  have h200 := h.1.2.2.1
  have hk := y_kd (k := 1) h he (by decide)
  have h2 : (2 : Int32) = nI (rkd 1) := by decide
  obtain ⟨b1, b2, b3, b4, b5⟩ := tok_le he
  rw [ts_46 hC, gI_46 hC 7, Option.bind_some]
  by_cases c : (tokS T e).1 = 1
  · have hwd := word_of he c
    have hlt := wdS_lt b3 hwd
    have h9 := h.2.2.1.2.2 (by omega)
    have h8 := h.2.2.1.2.1
    obtain ⟨s, hs⟩ : ∃ s, s = (tokS T e).2.1 := ⟨_, rfl⟩
    obtain ⟨e2, he2⟩ : ∃ e2, e2 = (tokS T e).2.2 := ⟨_, rfl⟩
    rw [← hs] at h8 b1 b2 b4 hwd hlt ⊢
    rw [← he2] at h9 b2 b3 b4 hwd hlt ⊢
    obtain ⟨M1, d1, d2, d3⟩ := y_counts hC (Or.inr rfl) h200 hT h.1.2.2.2 b2 b3
    have hP1 := PaH_K h d3
    have hC1 := hP1.1.1
    rw [wdS_map] at hlt ⊢
    obtain ⟨w, hw⟩ : ∃ w, w = (T.drop s).take (e2 - s) := ⟨_, rfl⟩
    rw [← hw] at d2 hlt ⊢
    have hwl : w.length = e2 - s := by rw [hw, List.length_take, List.length_drop]; omega
    have hw97 : ∀ t ∈ w, 97 ≤ t := by
      intro t ht
      obtain ⟨j, hj, hjt⟩ := mem_get ht
      have hg : w.getD j 0 = T.getD (s + j) 0 := by
        rw [hw]
        simp [List.getD, List.getElem?_take, show j < e2 - s by omega, List.getElem?_drop]
      have := sml_d (hwd (s + j) (by omega) (by omega))
      omega
    have hlW : (w.map (· - 97)).length = e2 - s := by rw [List.length_map, hwl]
    have hu26 : unl (w.map (· - 97)) ≤ 26 := cnt_le _ _
    have hokw := okW_wf hlt
    rw [hlW] at hokw
    obtain ⟨u, hu⟩ : ∃ u, u = unl (w.map (· - 97)) := ⟨_, rfl⟩
    have hunl := fun K v => y_unl (v := v) (M := M1) K hC1 d2 hw97 (by omega)
    have hwfl := fun K b0 => y_wfl (u := u) (b0 := b0) (M := M1) K hC1 d2 hw97 (by omega) (by omega)
    rw [← hu] at hokw hu26 ⊢
    simp only [← hu] at hunl
    rw [exS_k (by decide) c, if_pos (show zI M 46 7 = 2 by rw [h2, hk]; exact c), gR_46_4 hC, Option.bind_some, gI_46 hC 8, Option.bind_some, gI_46 hC 9, Option.bind_some, h8, h9, d1, Option.bind_some, gI_46 hC1 9, Option.bind_some, gI_46 hC1 8, Option.bind_some, d3.2 46 9 (by omega), d3.2 46 8 (by omega), h8, h9, n_sub b2, zjn_eq]
    dsimp only
    obtain ⟨K, hK⟩ : ∃ K : Int32 → Option (Int32 × zM), K = fun v2_20 =>
                  (zgI 9 M1 46 0).bind fun (y21 : Int32) =>
                  if (y21 + nI u) ≤ 7 then (
                    if v2_20 ≠ 0 then (
                      (zgI 9 M1 46 0).bind fun (y22 : Int32) =>
                      fp_X11_aCross_L163 46 (nI u) y22 FU 0 M1)
                    else (
                      (fp_X11_fails 46 7 M1).bind fun p31 => zpp p31 fun (y29 : Int32) (M30 : zM) =>
                      (zb y29).bind fun (r : Int32) => some (r, M30)))
                  else (
                    (fp_X11_fails 46 6 M1).bind fun p34 => zpp p34 fun (y32 : Int32) (M33 : zM) =>
                    (zb y32).bind fun (r : Int32) => some (r, M33)) := ⟨_, rfl⟩
    have run : ∀ b0 : Bool, b0 = decide (e2 - s ≤ 14) → fp_X11_aCross_L54 (fun v1_14 => fp_X11_aCross_L85 (fun v2_20 =>
                  (zgI 9 M1 46 0).bind fun (y21 : Int32) =>
                  if (y21 + v1_14) ≤ 7 then (
                    if v2_20 ≠ 0 then (
                      (zgI 9 M1 46 0).bind fun (y22 : Int32) =>
                      fp_X11_aCross_L163 46 v1_14 y22 FU 0 M1)
                    else (
                      (fp_X11_fails 46 7 M1).bind fun p31 => zpp p31 fun (y29 : Int32) (M30 : zM) =>
                      (zb y29).bind fun (r : Int32) => some (r, M30)))
                  else (
                    (fp_X11_fails 46 6 M1).bind fun p34 => zpp p34 fun (y32 : Int32) (M33 : zM) =>
                    (zb y32).bind fun (r : Int32) => some (r, M33))) 46 v1_14 M1 FU (bI b0) 0) 46 (bI b0) M1 FU 0 0 = K (bI (okW (w.map (· - 97)))) := by
      intro b0 hb0
      rw [hunl, ← hK, hwfl, hokw, hb0]
    have both : (if nI (e2 - s) > 14 then fp_X11_aCross_L54 (fun v1_14 => fp_X11_aCross_L85 (fun v2_20 =>
                  (zgI 9 M1 46 0).bind fun (y21 : Int32) =>
                  if (y21 + v1_14) ≤ 7 then (
                    if v2_20 ≠ 0 then (
                      (zgI 9 M1 46 0).bind fun (y22 : Int32) =>
                      fp_X11_aCross_L163 46 v1_14 y22 FU 0 M1)
                    else (
                      (fp_X11_fails 46 7 M1).bind fun p31 => zpp p31 fun (y29 : Int32) (M30 : zM) =>
                      (zb y29).bind fun (r : Int32) => some (r, M30)))
                  else (
                    (fp_X11_fails 46 6 M1).bind fun p34 => zpp p34 fun (y32 : Int32) (M33 : zM) =>
                    (zb y32).bind fun (r : Int32) => some (r, M33))) 46 v1_14 M1 FU 0 0) 46 0 M1 FU 0 0 else fp_X11_aCross_L54 (fun v1_14 => fp_X11_aCross_L85 (fun v2_20 =>
                  (zgI 9 M1 46 0).bind fun (y21 : Int32) =>
                  if (y21 + v1_14) ≤ 7 then (
                    if v2_20 ≠ 0 then (
                      (zgI 9 M1 46 0).bind fun (y22 : Int32) =>
                      fp_X11_aCross_L163 46 v1_14 y22 FU 0 M1)
                    else (
                      (fp_X11_fails 46 7 M1).bind fun p31 => zpp p31 fun (y29 : Int32) (M30 : zM) =>
                      (zb y29).bind fun (r : Int32) => some (r, M30)))
                  else (
                    (fp_X11_fails 46 6 M1).bind fun p34 => zpp p34 fun (y32 : Int32) (M33 : zM) =>
                    (zb y32).bind fun (r : Int32) => some (r, M33))) 46 v1_14 M1 FU 1 0) 46 1 M1 FU 0 0) = K (bI (okW (w.map (· - 97)))) := by
      by_cases c14 : e2 - s ≤ 14
      · rw [if_neg (show ¬ nI (e2 - s) > 14 by rw [show (14 : Int32) = nI 14 from by decide, gt_iff_lt, n_lt (by omega) (by omega)]; omega)]
        exact run true (decide_eq_true c14).symm
      · rw [if_pos (show nI (e2 - s) > 14 by rw [show (14 : Int32) = nI 14 from by decide, gt_iff_lt, n_lt (by omega) (by omega)]; omega)]
        exact run false (decide_eq_false c14).symm
    rw [both, hK]
    dsimp only
    have hL9 : Fz atL9 M M1 := Fz_mono d3 fun a k q => by omega
    rw [gI_46 hC1 0, Option.bind_some, hP1.2.1.1, n_add, n_7]
    by_cases c7 : n + u ≤ 7
    · rw [if_pos c7, if_pos (show nI (n + u) ≤ nI 7 by rw [n_le (by omega) (by omega)]; exact c7)]
      cases hok : okW (w.map (· - 97)) with
      | true =>
        have hWD := (okW_iff.mp hok).2
        rw [← hu] at hWD
        obtain ⟨M2, f1, f2, f3⟩ := y_rowIn u hC1 (by omega) hP1.2.1 hL d2 (by omega) hw97 (fun x hx => by rw [← cnt_wd hw97]; exact hWD.2 x hx)
        obtain ⟨M3, g1, g2, g3⟩ := y_next (PaH_N hP1 f3 f2) hT he (by omega)
        rw [← he2] at g2
        rw [b_tt, if_pos (show (1 : Int32) ≠ 0 by decide), Option.bind_some, f1, g1, Option.bind_some, if_pos rfl]
        exact ⟨_, rfl, ⟨rfl, g2⟩, Fz_trans hL9 (Fz_trans (atN_L f3) g3)⟩
      | false =>
        obtain ⟨M2, f1, f2, f3⟩ := y_fail (k := 7) hP1 he (by decide) (by decide) (fun z => by omega)
        rw [if_neg (by omega), ← hs] at f2
        rw [b_ff, if_neg (show ¬ (0 : Int32) ≠ 0 by decide), f1, Option.bind_some, zpp_mk, zb_01.1, Option.bind_some, if_neg (by decide)]
        exact ⟨_, rfl, ⟨rfl, f2⟩, Fz_trans hL9 f3⟩
    · obtain ⟨M2, f1, f2, f3⟩ := y_fail (k := 6) hP1 he (by decide) (by decide) (fun z => by omega)
      rw [if_neg (by omega), ← hs] at f2
      rw [if_neg c7, if_neg (show ¬ nI (n + u) ≤ nI 7 by rw [n_le (by omega) (by omega)]; exact c7), n_6, f1, Option.bind_some, zpp_mk, zb_01.1, Option.bind_some]
      exact ⟨_, rfl, ⟨rfl, f2⟩, Fz_trans hL9 f3⟩
  · obtain ⟨M', e1, e2, e3⟩ := y_fail (k := 2) h he (by decide) (by decide) (fun _ => Or.inr rfl)
    rw [exS_n c, if_neg (show ¬ zI M 46 7 = 2 by rw [h2, hk]; exact c), n_2, e1, Option.bind_some, zpp_mk, zb_01.1, Option.bind_some]
    exact ⟨_, rfl, ⟨rfl, e2⟩, e3⟩

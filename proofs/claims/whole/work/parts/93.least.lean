/-! ===== 93: the reference: least readings, words that are looked for ===== -/
theorem rdg_crs {l : List Nat} {s a b : Nat} {w : Bool} (hs : s < l.length) : crs a b (rdg l s w) = crs a b l := by
  cases w with
  | true =>
    rw [rdg_t hs, crs_rot, List.take_append_drop]
  | false =>
    rw [rdg_f hs, crs_rev, crs_rot, List.take_append_drop]
theorem rdg_count {l : List Nat} {s p : Nat} {w : Bool} (hs : s < l.length) : (rdg l s w).count p = l.count p := by
  cases w with
  | true =>
    rw [rdg_t hs, List.count_append, Nat.add_comm, ← List.count_append, List.take_append_drop]
  | false =>
    rw [rdg_f hs, List.count_reverse, List.count_append, Nat.add_comm, ← List.count_append, List.take_append_drop]
/-- the four readings that begin with 0 -/
theorem rdg4 {A B C : List Nat} (hA : 0 ∉ A) (hB : 0 ∉ B) : let w := A ++ 0 :: (B ++ 0 :: C)
    w.idxOf 0 = A.length ∧ sec w = A.length + 1 + B.length ∧ rdg w A.length true = wd B (C ++ A) ∧ rdg w (A.length + 1 + B.length) true = wd (C ++ A) B ∧ rdg w A.length false = wd (C ++ A).reverse B.reverse ∧ rdg w (A.length + 1 + B.length) false = wd B.reverse (C ++ A).reverse := by
  intro w
  have hl : w.length = A.length + 1 + B.length + 1 + C.length := by show (A ++ 0 :: (B ++ 0 :: C)).length = _; simp; omega
  have e1 : w = A ++ (0 :: (B ++ 0 :: C)) := rfl
  have e2 : w = (A ++ [0]) ++ (B ++ 0 :: C) := by show A ++ 0 :: (B ++ 0 :: C) = _; simp
  have e3 : w = (A ++ 0 :: B) ++ (0 :: C) := by show A ++ 0 :: (B ++ 0 :: C) = _; simp
  have e4 : w = (A ++ 0 :: (B ++ [0])) ++ C := by show A ++ 0 :: (B ++ 0 :: C) = _; simp
  have td : ∀ (X Y : List Nat), w = X ++ Y → w.drop X.length = Y ∧ w.take X.length = X := fun X Y e => by rw [e]; exact ⟨List.drop_left' rfl, List.take_left' rfl⟩
  refine ⟨idx_split hA, ?_, ?_, ?_, ?_, ?_⟩
  · unfold sec
    rw [show w.idxOf 0 = A.length from idx_split hA, show dst 0 w = B.length + 1 from dst_split hA hB]; omega
  · obtain ⟨a, b⟩ := td _ _ e1
    rw [rdg_t (by omega), a, b]
    unfold wd; simp
  · obtain ⟨a, b⟩ := td _ _ e3
    have hx : (A ++ 0 :: B).length = A.length + 1 + B.length := by simp; omega
    rw [hx] at a b
    rw [rdg_t (by omega), a, b]
    unfold wd; simp
  · obtain ⟨a, b⟩ := td _ _ e2
    have hx : (A ++ [0]).length = A.length + 1 := by simp
    rw [hx] at a b
    rw [rdg_f (by omega), a, b]
    unfold wd; simp
  · obtain ⟨a, b⟩ := td _ _ e4
    have hx : (A ++ 0 :: (B ++ [0])).length = A.length + 1 + B.length + 1 := by simp; omega
    rw [hx] at a b
    rw [rdg_f (by omega), a, b]
    unfold wd; simp
theorem countP_rise {ws : List (List Nat)} {x : List Nat} {i : Nat} (h : ws.Pairwise fun a b => ltL a b = true) (hi : i < ws.length) (hx : ws.getD i [] = x) : (ws.countP fun m => ltL m x) = i := by
  have e : ws = ws.take i ++ x :: ws.drop (i + 1) := by
    have := List.take_append_drop i ws
    rw [List.drop_eq_getElem_cons hi] at this
    have e2 : ws[i] = x := by rw [← hx]; simp [List.getD, hi]
    rw [e2] at this
    exact this.symm
  have hlen : (ws.take i).length = i := by rw [List.length_take]; omega
  rw [e] at h
  obtain ⟨p1, p2, p3⟩ := List.pairwise_append.mp h
  obtain ⟨p4, p5⟩ := List.pairwise_cons.mp p2
  have c1 : (ws.take i).countP (fun m => ltL m x) = i := by
    rw [List.countP_eq_length.mpr fun a ha => p3 a ha x List.mem_cons_self, hlen]
  have c2 : (ws.drop (i + 1)).countP (fun m => ltL m x) = 0 := by
    rw [List.countP_eq_zero]
    intro a ha
    rw [ltL_asym (p4 a ha)]; decide
  rw [e, List.countP_append, c1, List.countP_cons_of_neg (by rw [ltL_irr]; decide), c2, Nat.add_zero]
theorem lst_idx {n L : Nat} {w r : List Nat} (hn : n < 8) (hn0 : 0 < n) (hW : WD n w) (hP : Pat n L w) (hr : ∃ s b, s < w.length ∧ r = rdg w s b) (hmin : ∀ s b, s < w.length → ltL (rdg w s b) r = false) : ixO n L (lrp w) = some ((Mods n L).countP fun m => ltL m r) := by
  obtain ⟨A, B, C, e, hA, hB, hC⟩ := two_of (hW.2 0 hn0)
  obtain ⟨i1, i2, r1, r2, r3, r4⟩ := rdg4 (C := C) hA hB
  rw [← e] at i1 i2 r1 r2 r3 r4
  have hlen : w.length = A.length + 1 + B.length + 1 + C.length := by rw [e]; simp; omega
  have hCA : 0 ∉ C ++ A := by rw [List.mem_append]; exact fun z => z.elim hC hA
  have hl1 : A.length < w.length := by omega
  have hl2 : A.length + 1 + B.length < w.length := by omega
  have hV : Vw n L (wd B (C ++ A)) := by
    rw [← r1]
    refine ⟨WD_perm hW (rdg_len _ _ _) (fun p => rdg_count hl1), fun a ha b hb => by rw [rdg_crs hl1]; exact hP a ha b hb, ?_⟩
    rw [r1]; rfl
  obtain ⟨D, E, hm, hD, hE, hDE⟩ := lst_ex hn0 hV hB hCA
  obtain ⟨x, hx⟩ : ∃ x, x = wd D E := ⟨_, rfl⟩
  rw [← hx] at hm
  obtain ⟨hxV, hxl⟩ := Mods_mem.mp hm
  -- it is one of the four, and none of these is less
  have four : x = rdg w A.length true ∨ x = rdg w (A.length + 1 + B.length) true ∨ x = rdg w A.length false ∨ x = rdg w (A.length + 1 + B.length) false := by
    rw [r1, r2, r3, r4, hx]
    rcases hDE with ⟨rfl, rfl⟩ | ⟨rfl, rfl⟩ | ⟨rfl, rfl⟩ | ⟨rfl, rfl⟩
    · exact Or.inl rfl
    · exact Or.inr (Or.inl rfl)
    · exact Or.inr (Or.inr (Or.inr rfl))
    · exact Or.inr (Or.inr (Or.inl rfl))
  have least : ∀ s b, (s = A.length ∨ s = A.length + 1 + B.length) → ltL (rdg w s b) x = false := by
    rw [hx, lstB_wd hD, Bool.and_eq_true, Bool.and_eq_true] at hxl
    obtain ⟨k1, k2, k3⟩ := hxl
    have k0 := ltL_irr (wd D E)
    have k1 : ltL (wd E.reverse D.reverse) (wd D E) = false := by simpa using k1
    have k2 : ltL (wd E D) (wd D E) = false := by simpa using k2
    have k3 : ltL (wd D.reverse E.reverse) (wd D E) = false := by simpa using k3
    intro s b hs
    rw [hx]
    have all : ltL (wd B (C ++ A)) (wd D E) = false ∧ ltL (wd (C ++ A) B) (wd D E) = false ∧ ltL (wd (C ++ A).reverse B.reverse) (wd D E) = false ∧ ltL (wd B.reverse (C ++ A).reverse) (wd D E) = false := by
      rcases hDE with ⟨rfl, rfl⟩ | ⟨rfl, rfl⟩ | ⟨rfl, rfl⟩ | ⟨rfl, rfl⟩
      · exact ⟨k0, k2, k1, k3⟩
      · exact ⟨k2, k0, k3, k1⟩
      · rw [List.reverse_reverse, List.reverse_reverse] at k1 k3
        exact ⟨k3, k1, k2, k0⟩
      · rw [List.reverse_reverse, List.reverse_reverse] at k1 k3
        exact ⟨k1, k3, k0, k2⟩
    rcases hs with rfl | rfl <;> cases b
    · rw [r3]; exact all.2.2.1
    · rw [r1]; exact all.1
    · rw [r4]; exact all.2.2.2
    · rw [r2]; exact all.2.1
  have hx16 := WD16 hn hxV.1
  have hw16 := WD16 hn hW
  have hxlen : x.length = w.length := by rw [hxV.1.1, hW.1]
  -- packed
  have pk : ∀ s b, (s = A.length ∨ s = A.length + 1 + B.length) → pw x ≤ pw (rdg w s b) := by
    intro s b hs
    have hsl : s < w.length := by rcases hs with rfl | rfl <;> omega
    have h1 := least s b hs
    have h2 := pw_ltL (l := rdg w s b) (m := x) (fun z hz => hw16 z (rdg_mem hsl hz)) hx16 (by rw [rdg_len, hxlen])
    by_cases z : pw (rdg w s b) < pw x
    · rw [← h2, h1] at z; cases z
    · omega
  have hlrp : lrp w = pw x := by
    unfold lrp
    rw [i1, i2]
    have q1 := pk A.length true (Or.inl rfl)
    have q2 := pk A.length false (Or.inl rfl)
    have q3 := pk (A.length + 1 + B.length) true (Or.inr rfl)
    have q4 := pk (A.length + 1 + B.length) false (Or.inr rfl)
    rcases four with h | h | h | h <;> have h5 := congrArg pw h <;> omega
  -- the least of all readings is this one
  have hrx : r = x := by
    obtain ⟨s, b, hs, hrs⟩ := hr
    have hrl : r.length = w.length := by rw [hrs, rdg_len]
    have h0 : w.getD s 0 = 0 := by
      apply Classical.byContradiction
      intro hne
      have h1 := hmin A.length true hl1
      have g1 : (rdg w A.length true).getD 0 0 = 0 := by rw [r1]; rfl
      have g2 : r.getD 0 0 = w.getD s 0 := by rw [hrs, rdg_get (by omega), rix_0 hs]
      have := ltL_step (r := rdg w A.length true) (l := r) (i := 0) (by rw [rdg_len]; omega) (by omega)
      rw [List.drop_zero, List.drop_zero, h1, g1, g2, decide_eq_true (by omega), Bool.true_or] at this
      cases this
    have hs2 : s = A.length ∨ s = A.length + 1 + B.length := by
      rw [e] at h0 hs
      exact (two_pos hA hB hC hs).mp h0
    have a1 : ltL r x = false := by rw [hrs]; exact least s b hs2
    have a2 : ltL x r = false := by
      rcases four with h | h | h | h <;> rw [h]
      · exact hmin _ _ hl1
      · exact hmin _ _ hl2
      · exact hmin _ _ hl1
      · exact hmin _ _ hl2
    exact ltL_tri (by rw [hrl, hxlen]) a1 a2
  obtain ⟨i, hi, hix⟩ := List.getElem_of_mem hm
  have hgd : (Mods n L).getD i [] = x := by simp [List.getD, hi, hix]
  rw [hrx, countP_rise (Mods_up n L) hi hgd, hlrp]
  exact ixO_some hn hi (by rw [hgd])
/-- of another network it is none -/
theorem ixO_Pat {n L i : Nat} {w : List Nat} (hn : n < 8) (hW : WD n w) (h : ixO n L (lrp w) = some i) : Pat n L w := by
  by_cases hn0 : n = 0
  · subst hn0; exact fun a ha => absurd ha (Nat.not_lt_zero _)
  have hi := ixO_lt h
  unfold ixO at h
  rw [List.findIdx?_eq_some_iff_getElem] at h
  obtain ⟨h1, h2, -⟩ := h
  have hm : (Mods n L)[i] ∈ Mods n L := List.getElem_mem h1
  obtain ⟨hV, -⟩ := Mods_mem.mp hm
  have h2 : pw (Mods n L)[i] = lrp w := by simpa using h2
  obtain ⟨A, B, C, e, hA, hB, hC⟩ := two_of (hW.2 0 (by omega))
  obtain ⟨i1, i2, -⟩ := rdg4 (C := C) hA hB
  rw [← e] at i1 i2
  have hlen : w.length = A.length + 1 + B.length + 1 + C.length := by rw [e]; simp; omega
  have hw16 := WD16 hn hW
  have one : ∃ s b, s < w.length ∧ lrp w = pw (rdg w s b) := by
    unfold lrp
    rw [i1, i2]
    have mm : ∀ a b : Nat, min a b = a ∨ min a b = b := fun a b => by omega
    rcases mm (min (pw (rdg w A.length true)) (pw (rdg w A.length false))) (min (pw (rdg w (A.length + 1 + B.length) true)) (pw (rdg w (A.length + 1 + B.length) false))) with q | q
    · rw [q]
      rcases mm (pw (rdg w A.length true)) (pw (rdg w A.length false)) with q | q
      · exact ⟨_, _, by omega, q⟩
      · exact ⟨_, _, by omega, q⟩
    · rw [q]
      rcases mm (pw (rdg w (A.length + 1 + B.length) true)) (pw (rdg w (A.length + 1 + B.length) false)) with q | q
      · exact ⟨_, _, by omega, q⟩
      · exact ⟨_, _, by omega, q⟩
  obtain ⟨s, b, hs, hp⟩ := one
  have : (Mods n L)[i] = rdg w s b := pw_inj (WD16 hn hV.1) (fun z hz => hw16 z (rdg_mem hs hz)) (by rw [rdg_len, hV.1.1, hW.1]) (by rw [h2, hp])
  intro x hx y hy
  rw [← rdg_crs (s := s) (w := b) hs, ← this]
  exact hV.2.1 x hx y hy
/-! the reference's least reading -/
abbrev atR2 : Nat → Nat → Prop := fun a _ => a = 64 ∨ a = 68
theorem half2 {k : Nat} (hk : k < 2 ^ 31) : nI k / 2 = nI (k / 2) := by rw [n_2, n_div hk (by decide) (by decide)]
theorem par2 {k : Nat} (hk : k < 2 ^ 31) : (nI k - nI (k / 2) * 2 ≠ 0) = (k % 2 = 1) := by
  rw [← half2 hk, n_2, n_rem hk (by decide) (by decide), n_0, ne_eq, n_eq (by omega) (by decide)]
  apply propext; omega
theorem dbl (m : Nat) : (2 : Int32) * nI m = nI (2 * m) := by rw [n_2, n_mul]
theorem y_leastReading {n : Nat} {w : List Nat} {M : zM} (hC : zC M) (hn : n < 8) (hn0 : 0 < n) (hA : AN M 68 w) (hlen : w.length = 2 * n) (he : ∀ z ∈ w, z < 2 ^ 31) :
    ∃ M' r, fp_X11_leastReading 46 (nI (2 * n)) M = some M' ∧ Fz atR2 M M' ∧ AN M' 68 r ∧ (∃ s b, s < w.length ∧ r = rdg w s b) ∧ ∀ s b, s < w.length → ltL (rdg w s b) r = false := by
  unfold fp_X11_leastReading
  rw [ts_46 hC, ← hlen]
  -- the copies
  have copy : ∀ s b, s < w.length → ∃ M', fp_X11_leastReading_L74 (fun M17 => fp_X11_leastReading_L108 46 (nI w.length) FU 0 M17) 46 (nI w.length) (nI s) (stI b) FU 0 M = some M' ∧ Fz atR2 M M' ∧ AN M' 68 (rdg w s b) := by
    intro s b hs
    have second : ∀ M1, Fz (fun a _ => a = 64) M M1 → (∀ j, j < w.length → zI M1 64 j = nI ((rdg w s b).getD j 0)) → ∃ M', fp_X11_leastReading_L108 46 (nI w.length) FU 0 M1 = some M' ∧ Fz atR2 M M' ∧ AN M' 68 (rdg w s b) := by
      intro M1 f1 g1
      have hC1 := Fz_C f1 hC
      rw [n_0]
      refine up (P := fun k f => ∀ M2, Fz (fun a _ => a = 68) M1 M2 → (∀ j, j < k → zI M2 68 j = nI ((rdg w s b).getD j 0)) → ∃ M', fp_X11_leastReading_L108 46 (nI w.length) f (nI k) M2 = some M' ∧ Fz atR2 M M' ∧ AN M' 68 (rdg w s b)) (a := 0) (n := w.length) ?_ ?_ FU (by omega) (FU_gt (by omega)) M1 Fz_refl (fun j hj => absurd hj (Nat.not_lt_zero _))
      · intro f M2 f2 g2
        have hC2 := Fz_C f2 hC1
        exact ⟨M2, by rw [fp_X11_leastReading_L108, stp], Fz_trans (Fz_mono f1 fun a k q => Or.inl q) (Fz_mono f2 fun a k q => Or.inr q), AN_of hC2 (Or.inr (Or.inr rfl)) (by rw [rdg_len]; omega) (by rw [rdg_len]; exact g2)⟩
      · intro k f _ hk ih M2 f2 g2
        have hC2 := Fz_C f2 hC1
        rw [fp_X11_leastReading_L108, go hk (by omega), gR_46_35 hC2, Option.bind_some, gR_46_31 hC2, Option.bind_some, lI_64 hC2 (show k < 14 by omega), Option.bind_some, f2.2 64 k (by omega), g1 k hk, tI_68 hC2 (show k < 14 by omega), Option.bind_some, inc]
        refine ih _ (Fz_trans f2 (Fz_sI rfl)) fun j hj => ?_
        by_cases z : j = k
        · rw [z, zI_same]
        · rw [zI_other _ _ (Or.inr z)]; exact g2 j (by omega)
    rw [n_0]
    refine up (P := fun k f => ∀ M1, Fz (fun a _ => a = 64) M M1 → (∀ j, j < k → zI M1 64 j = nI ((rdg w s b).getD j 0)) → ∃ M', fp_X11_leastReading_L74 (fun M17 => fp_X11_leastReading_L108 46 (nI w.length) FU 0 M17) 46 (nI w.length) (nI s) (stI b) f (nI k) M1 = some M' ∧ Fz atR2 M M' ∧ AN M' 68 (rdg w s b)) (a := 0) (n := w.length) ?_ ?_ FU (by omega) (FU_gt (by omega)) M Fz_refl (fun j hj => absurd hj (Nat.not_lt_zero _))
    · intro f M1 f1 g1
      rw [fp_X11_leastReading_L74, stp]
      exact second M1 f1 g1
    · intro k f _ hk ih M1 f1 g1
      have hC1 := Fz_C f1 hC
      have hA1 : AN M1 68 w := AN_of hC1 (Or.inr (Or.inr rfl)) (by omega) fun i hi => (f1.2 68 i (by omega)).trans (hA.2.2.2.2 i hi)
      rw [fp_X11_leastReading_L74, go hk (by omega), gR_46_31 hC1, Option.bind_some, gR_46_35 hC1, Option.bind_some, y_read hA1 (by omega) hs hk, Option.bind_some, tI_64 hC1 (show k < 14 by omega), Option.bind_some, inc]
      refine ih _ (Fz_trans f1 (Fz_sI rfl)) fun j hj => ?_
      by_cases z : j = k
      · rw [z, zI_same]
      · rw [zI_other _ _ (Or.inr z)]; exact g1 j (by omega)
  have fin : ∀ s b, s < w.length → (∀ s' b', s' < w.length → ltL (rdg w s' b') (rdg w s b) = false) → ∃ M' r, fp_X11_leastReading_L74 (fun M17 => fp_X11_leastReading_L108 46 (nI w.length) FU 0 M17) 46 (nI w.length) (nI s) (stI b) FU 0 M = some M' ∧ Fz atR2 M M' ∧ AN M' 68 r ∧ (∃ s b, s < w.length ∧ r = rdg w s b) ∧ ∀ s b, s < w.length → ltL (rdg w s b) r = false := by
    intro s b hs hm
    obtain ⟨M', e1, e2, e3⟩ := copy s b hs
    exact ⟨M', rdg w s b, e1, e2, e3, ⟨s, b, hs, rfl⟩, hm⟩
  have start : fp_X11_leastReading_L7 (fun v2_11 v3_12 => fp_X11_leastReading_L74 (fun M17 => fp_X11_leastReading_L108 46 (nI w.length) FU 0 M17) 46 (nI w.length) v2_11 v3_12 FU 0 M) 46 (nI w.length) M FU 0 1 0 = fp_X11_leastReading_L7 (fun v2_11 v3_12 => fp_X11_leastReading_L74 (fun M17 => fp_X11_leastReading_L108 46 (nI w.length) FU 0 M17) 46 (nI w.length) v2_11 v3_12 FU 0 M) 46 (nI w.length) M FU (nI 0) (stI true) (nI 0) := by rw [← n_0]; rfl
  rw [start]
  refine up (P := fun k f => ∀ s b, s < w.length → (∀ j, j < k → ltL (rdg w (j / 2) (j % 2 == 0)) (rdg w s b) = false) → ∃ M' r, fp_X11_leastReading_L7 (fun v2_11 v3_12 => fp_X11_leastReading_L74 (fun M17 => fp_X11_leastReading_L108 46 (nI w.length) FU 0 M17) 46 (nI w.length) v2_11 v3_12 FU 0 M) 46 (nI w.length) M f (nI s) (stI b) (nI k) = some M' ∧ Fz atR2 M M' ∧ AN M' 68 r ∧ (∃ s b, s < w.length ∧ r = rdg w s b) ∧ ∀ s b, s < w.length → ltL (rdg w s b) r = false) (a := 0) (n := 2 * w.length) ?_ ?_ FU (by omega) (FU_gt (by omega)) 0 true (by omega) (fun j hj => absurd hj (Nat.not_lt_zero _))
  · intro f s b hs hm
    rw [fp_X11_leastReading_L7, dbl, stp]
    refine fin s b hs fun s' b' hs' => ?_
    cases b' with
    | true =>
      have := hm (2 * s') (by omega)
      rw [show 2 * s' / 2 = s' by omega, show 2 * s' % 2 = 0 by omega] at this
      exact this
    | false =>
      have := hm (2 * s' + 1) (by omega)
      rw [show (2 * s' + 1) / 2 = s' by omega, show (2 * s' + 1) % 2 = 1 by omega] at this
      exact this
  · intro k f _ hk ih s b hs hm
    have hk2 : k / 2 < w.length := by omega
    have less := y_isLessRead (s := k / 2) (w := k % 2 == 0) (s0 := s) (w0 := b) hA (by omega) he hk2 hs
    -- it goes on
    have old : ltL (rdg w (k / 2) (k % 2 == 0)) (rdg w s b) = false → ∃ M' r, fp_X11_leastReading_L7 (fun v2_11 v3_12 => fp_X11_leastReading_L74 (fun M17 => fp_X11_leastReading_L108 46 (nI w.length) FU 0 M17) 46 (nI w.length) v2_11 v3_12 FU 0 M) 46 (nI w.length) M f (nI s) (stI b) (nI k + 1) = some M' ∧ Fz atR2 M M' ∧ AN M' 68 r ∧ (∃ s b, s < w.length ∧ r = rdg w s b) ∧ ∀ s b, s < w.length → ltL (rdg w s b) r = false := fun h => by
      rw [inc]
      refine ih s b hs fun j hj => ?_
      by_cases z : j = k
      · rw [z]; exact h
      · exact hm j (by omega)
    have new : ltL (rdg w (k / 2) (k % 2 == 0)) (rdg w s b) = true → ∃ M' r, fp_X11_leastReading_L7 (fun v2_11 v3_12 => fp_X11_leastReading_L74 (fun M17 => fp_X11_leastReading_L108 46 (nI w.length) FU 0 M17) 46 (nI w.length) v2_11 v3_12 FU 0 M) 46 (nI w.length) M f (nI (k / 2)) (stI (k % 2 == 0)) (nI k + 1) = some M' ∧ Fz atR2 M M' ∧ AN M' 68 r ∧ (∃ s b, s < w.length ∧ r = rdg w s b) ∧ ∀ s b, s < w.length → ltL (rdg w s b) r = false := fun h => by
      rw [inc]
      refine ih (k / 2) (k % 2 == 0) hk2 fun j hj => ?_
      by_cases z : j = k
      · rw [z]; exact ltL_irr _
      · have h1 := hm j (by omega)
        cases h2 : ltL (rdg w (j / 2) (j % 2 == 0)) (rdg w (k / 2) (k % 2 == 0)) with
        | false => rfl
        | true => rw [ltL_trans h2 h] at h1; cases h1
    rw [fp_X11_leastReading_L7, dbl, go hk (by omega), gR_46_35 hC, Option.bind_some, zjn_eq, half2 (by omega)]
    by_cases hpar : k % 2 = 1
    · have eb : (k % 2 == 0) = false := by rw [hpar]; rfl
      rw [eb] at less old new
      have less' : fp_X11_isLessRead 68 (nI w.length) (nI (k / 2)) (-1) (nI s) (stI b) M = _ := less
      have hpp : nI k - nI (k / 2) * 2 ≠ 0 := by rw [par2 (by omega)]; exact hpar
      rw [if_pos hpp]
      dsimp only
      rw [less', Option.bind_some, zjn_eq]
      cases hl : ltL (rdg w (k / 2) false) (rdg w s b) with
      | false => rw [b_ff, if_neg (by decide)]; exact old hl
      | true =>
        rw [b_tt, if_pos (by decide), lett_eq, zjn_eq, if_pos hpp]
        exact new hl
    · have eb : (k % 2 == 0) = true := by rw [beq_iff_eq]; omega
      rw [eb] at less old new
      have less' : fp_X11_isLessRead 68 (nI w.length) (nI (k / 2)) 1 (nI s) (stI b) M = _ := less
      have hpp : ¬ nI k - nI (k / 2) * 2 ≠ 0 := by rw [par2 (by omega)]; exact hpar
      rw [if_neg hpp]
      dsimp only
      rw [less', Option.bind_some, zjn_eq]
      cases hl : ltL (rdg w (k / 2) true) (rdg w s b) with
      | false => rw [b_ff, if_neg (by decide)]; exact old hl
      | true =>
        rw [b_tt, if_pos (by decide), lett_eq, zjn_eq, if_neg hpp]
        exact new hl

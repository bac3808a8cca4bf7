/-! ===== 95: the reference: find, turned (the calls) ===== -/
theorem zpp_mk {α β γ : Type} (a : α) (b : β) (f : α → β → γ) : zpp (a, b) f = f a b := rfl
def g97 (x : Nat) : Nat := if x < 128 then lt97 x else (x + (2 ^ 32 - 353)) % 2 ^ 32
theorem sg_97 : ∀ x, x < 256 → sgb x - 97 = nI (g97 x) := by decide +kernel
theorem g97_lt (x : Nat) : g97 x < 2 ^ 32 := by
  unfold g97 lt97
  split
  · exact Nat.mod_lt _ (by decide)
  · exact Nat.mod_lt _ (by decide)
theorem g97_same : ∀ x, x < 256 → (g97 x < 7 ∨ lt97 x < 7) → g97 x = lt97 x := by decide +kernel
theorem IR_tp0 {S : zSt} {M : zM} (h : IR S M) : IR (tpS S []) (zsI M 46 5 0) := by
  obtain ⟨h1, h2, h3, h4, h5, h6, h7, h8⟩ := h
  have hf : Fz (fun a k => a = 46 ∧ k = 5) M (zsI M 46 5 0) := Fz_sI ⟨rfl, rfl⟩
  refine ⟨⟨h1.1, Nat.zero_le _, (fun x hx => by cases hx), h1.2.2.2⟩, h2, NrH_z h3 hf (by omega) (fun k => by omega), (hf.2 _ _ (by omega)).trans h4, ⟨by rw [zI_same]; exact n_0, fun i hi => absurd hi (Nat.not_lt_zero _)⟩, flR_z h6 hf (by omega) (by omega), ⟨(hf.2 _ _ (by omega)).trans h7.1, fun i hi => NtH_z (h7.2 i hi) hf (fun k => by omega)⟩, fun k hk => imR_z (h8 k hk) hf (fun k => by omega) (fun k => by omega)⟩
theorem map_same {l : List Nat} {n : Nat} (hn : n < 8) (h : ∀ x ∈ l, x < 256) (hw : WD n (l.map g97) ∨ WD n (l.map lt97)) : l.map g97 = l.map lt97 := by
  apply List.map_congr_left
  intro x hx
  refine g97_same x (h x hx) ?_
  rcases hw with hw | hw
  · have := WD_lt hw (g97 x) (List.mem_map.mpr ⟨x, hx, rfl⟩)
    exact Or.inl (by omega)
  · have := WD_lt hw (lt97 x) (List.mem_map.mpr ⟨x, hx, rfl⟩)
    exact Or.inr (by omega)
theorem y_askLoop {S : zSt} {m : Nat} {v1 : Int32} {M : zM} (K : zM → Option (Int32 × zM)) (h : IR S M) (hv : v1 = nI m) (hm : m ≤ (sT S).length) (h14 : m ≤ 14) : ∃ M', fp_X11_find_L35 K 46 v1 FU 0 M = K M' ∧ Fz (fun a _ => a = 68) M M' ∧ AN M' 68 (((sT S).take m).map g97) := by
  have hC := IR_C h
  have hT := (IR_tp h).2
  have h200 := h.1.2.1
  rw [hv, n_0]
  have hlen : (((sT S).take m).map g97).length = m := by rw [List.length_map, List.length_take]; omega
  refine up (P := fun k f => ∀ M3, Fz (fun a _ => a = 68) M M3 → (∀ j, j < k → zI M3 68 j = nI (g97 ((sT S).getD j 0))) → ∃ M', fp_X11_find_L35 K 46 (nI m) f (nI k) M3 = K M' ∧ Fz (fun a _ => a = 68) M M' ∧ AN M' 68 (((sT S).take m).map g97)) (a := 0) (n := m) ?_ ?_ FU (by omega) (FU_gt (by omega)) M Fz_refl (fun j hj => absurd hj (Nat.not_lt_zero _))
  · intro f M3 f1 f2
    have hC3 := Fz_C f1 hC
    refine ⟨M3, by rw [fp_X11_find_L35, stp], f1, AN_of hC3 (Or.inr (Or.inr rfl)) (by omega) fun j hj => ?_⟩
    rw [hlen] at hj
    rw [f2 j hj]
    simp [List.getD, List.getElem?_map, List.getElem?_take, hj, show j < (sT S).length by omega]
  · intro k f _ hk ih M3 f1 f2
    have hC3 := Fz_C f1 hC
    have hx : (sT S).getD k 0 < 256 := h.1.2.2.1 _ (getD_mem (by omega))
    rw [fp_X11_find_L35, go hk (by omega), gR_46_35 hC3, Option.bind_some, gR_46_3 hC3, Option.bind_some, lI_48 hC3 (show k < 200 by omega), Option.bind_some, f1.2 48 k (by omega), hT k (by omega), sg_97 _ hx, tI_68 hC3 (show k < 14 by omega), Option.bind_some, inc]
    refine ih _ (Fz_trans f1 (Fz_sI rfl)) fun j hj => ?_
    by_cases z : j = k
    · rw [z, zI_same]
    · rw [zI_other _ _ (Or.inr z)]; exact f2 j (by omega)
theorem sc68 {M M' : zM} (h : Fz (fun a _ => a = 68) M M') : Fz scR M M' := Fz_mono h fun a k q => by show (a = 46 ∧ _) ∨ _; omega
theorem y_find {S : zSt} {M : zM} (h : IR S M) (v : Int32) : RM (q_find S v) (fp_X11_find 46 v M) M := by
  unfold fp_X11_find q_find
  have hC := IR_C h
  have g2 := (IR_n h).2
  have h200 := h.1.2.1
  rw [ts_46 hC, gI_46 hC 5, Option.bind_some, (IR_tp h).1, y_from0 (by omega), Option.bind_some]
  cases hv : asN v ((sT S).length + 1) with
  | none => rw [b_no, if_neg (show ¬ (0 : Int32) ≠ 0 by decide)]; exact y_rf h Fc_refl
  | some m =>
    obtain ⟨hve, hm, hb⟩ := asN_some hv
    dsimp only
    rw [b_so, if_pos (show (1 : Int32) ≠ 0 by decide), y_length hC (IR_N h), Option.bind_some]
    by_cases c1 : m = 2 * sN S
    · obtain ⟨M1, e1, e2, e3⟩ := y_askLoop (fun M8 =>
            (fp_X11_isWordHere 46 M8).bind fun (y9 : Int32) =>
            if y9 ≠ 0 then (
              (zpI 9 M8 46 5 0).bind fun (M10 : zM) =>
              (fp_X11_modelAsked 46 M10).bind fun p13 => zpp p13 fun (y11 : Int32) (M12 : zM) =>
              (fp_X11_gives 46 y11 M12).bind fun p16 => zpp p16 fun (y14 : Int32) (M15 : zM) =>
              some (y14, M15))
            else (
              (fp_X11_refuse 46 6 M8).bind fun p19 => zpp p19 fun (y17 : Int32) (M18 : zM) =>
              some (y17, M18))) h hve (show m ≤ (sT S).length by omega) (by omega)
      have hI1 := IR_z h (sc68 e2)
      have hF1 := scR_c (sc68 e2)
      have hC1 := IR_C hI1
      have h256 : ∀ x ∈ (sT S).take m, x < 256 := fun x hx => h.1.2.2.1 x (List.mem_of_mem_take hx)
      have hlen : (((sT S).take m).map g97).length = 2 * sN S := by rw [List.length_map, List.length_take]; omega
      rw [if_pos c1, if_pos (show v = nI (2 * sN S) by rw [hve, c1]), e1]
      have hms := map_same g2 h256
      rcases y_isWordHere hC1 (IR_N hI1) g2 e3 hlen (fun z hz => by
        obtain ⟨x, _, rfl⟩ := List.mem_map.mp hz
        exact g97_lt x) with ⟨z1, z2, z3⟩ | ⟨z1, z2⟩
      · have hsm := hms (Or.inl z1)
        rw [hsm] at z1 z2 e3
        have hI2 := IR_tp0 hI1
        have hC2 := IR_C hI2
        have hA2 : AN (zsI M1 46 5 0) 68 (((sT S).take m).map lt97) := AN_of hC2 (Or.inr (Or.inr rfl)) (by rw [← hsm]; omega) fun i hi => by rw [zI_other _ _ (Or.inl (by decide))]; exact e3.2.2.2.2 i hi
        obtain ⟨M', i, k1, k2, k3⟩ := y_modelAsked (L := sL S) hC2 (IR_N (S := tpS S []) hI2) g2 hA2 z1 z2
        have k3 : ixO (sN S) (sL S) (lrp (((sT S).take m).map lt97)) = some i := k3
        rw [z3, Option.bind_some, if_pos (show (1 : Int32) ≠ 0 by decide), pI_46 hC1, Option.bind_some, k1, Option.bind_some, if_pos (wdB_iff.mpr z1), k3]
        exact y_gv (IR_z hI2 (scX k2)) (Fc_trans hF1 (Fc_trans (Fc_1 (by decide)) (scR_c (scX k2))))
      · rw [z2, Option.bind_some, if_neg (show ¬ (0 : Int32) ≠ 0 by decide)]
        by_cases hw : WD (sN S) (((sT S).take m).map lt97)
        · have hsm := hms (Or.inr hw)
          rw [hsm] at z1
          have hix : ixO (sN S) (sL S) (lrp (((sT S).take m).map lt97)) = none := by
            cases hq : ixO (sN S) (sL S) (lrp (((sT S).take m).map lt97)) with
            | none => rfl
            | some i => exact absurd ⟨hw, ixO_Pat g2 hw hq⟩ z1
          rw [if_pos (wdB_iff.mpr hw), hix]
          exact y_rf hI1 hF1
        · rw [if_neg (show ¬ wdB (sN S) (((sT S).take m).map lt97) = true by rw [wdB_f hw]; decide)]
          exact y_rf hI1 hF1
    · rw [if_neg c1, if_neg (show ¬ v = nI (2 * sN S) by rw [hve, n_eq hb (by omega)]; exact c1)]
      exact y_rf h Fc_refl
/-! turned -/
theorem y_first {w : List Nat} {p i j : Nat} {M : zM} {v v0 : Int32} (K : Int32 → Option (Int32 × zM)) (hv0 : v0 = nI i) (hC : zC M) (hA : AN M 67 w) (he : ∀ z ∈ w, z < 2 ^ 31) (hp : p < 2 ^ 31) (hij : i ≤ j) (hj : j < w.length) (hv : w.getD j 0 = p) (hno : ∀ k, i ≤ k → k < j → w.getD k 0 ≠ p) :
    fp_X11_turned_L41 K 46 (nI p) M FU v0 = K (nI j) ∧ fp_X11_turned_L62 K 46 (nI p) v M FU v0 = K (nI j) := by
  have hl := AN_lt hA
  rw [hv0]
  constructor
  · refine up (P := fun k f => fp_X11_turned_L41 K 46 (nI p) M f (nI k) = K (nI j)) (a := i) (n := j) ?_ ?_ FU hij (FU_gt (by omega))
    · intro f
      rw [fp_X11_turned_L41, gR_46_34 hC, Option.bind_some, AN_l hA hj, Option.bind_some, hv, if_pos rfl]
    · intro k f hik hk ih
      rw [fp_X11_turned_L41, gR_46_34 hC, Option.bind_some, AN_l hA (show k < w.length by omega), Option.bind_some, if_neg (by rw [n_eq (he _ (getD_mem (by omega))) hp]; exact hno k hik hk), inc]
      exact ih
  · refine up (P := fun k f => fp_X11_turned_L62 K 46 (nI p) v M f (nI k) = K (nI j)) (a := i) (n := j) ?_ ?_ FU hij (FU_gt (by omega))
    · intro f
      rw [fp_X11_turned_L62, gR_46_34 hC, Option.bind_some, AN_l hA hj, Option.bind_some, hv, if_pos rfl]
    · intro k f hik hk ih
      rw [fp_X11_turned_L62, gR_46_34 hC, Option.bind_some, AN_l hA (show k < w.length by omega), Option.bind_some, if_neg (by rw [n_eq (he _ (getD_mem (by omega))) hp]; exact hno k hik hk), inc]
      exact ih
theorem tr_get {A B C : List Nat} {p k : Nat} : (A ++ p :: (B.reverse ++ p :: C)).getD k 0 = (A ++ p :: (B ++ p :: C)).getD (if A.length < k ∧ k < A.length + 1 + B.length then A.length + (A.length + 1 + B.length) - k else k) 0 := by
  by_cases h1 : k < A.length
  · rw [if_neg (by omega), gA h1, gA h1]
  · obtain ⟨j, rfl⟩ : ∃ j, k = A.length + j := ⟨k - A.length, by omega⟩
    cases j with
    | zero => rw [if_neg (by omega), gR', gR']; rfl
    | succ j =>
      by_cases h2 : j < B.length
      · rw [if_pos (by omega), gR', show A.length + (A.length + 1 + B.length) - (A.length + (j + 1)) = A.length + (B.length - 1 - j + 1) by omega, gR']
        have e1 : (p :: (B.reverse ++ p :: C)).getD (j + 1) 0 = (B.reverse ++ p :: C).getD j 0 := rfl
        have e2 : (p :: (B ++ p :: C)).getD (B.length - 1 - j + 1) 0 = (B ++ p :: C).getD (B.length - 1 - j) 0 := rfl
        rw [e1, e2, gA (by rw [List.length_reverse]; exact h2), gA (by omega)]
        simp only [List.getD]
        rw [List.getElem?_reverse h2]
      · obtain ⟨i, rfl⟩ : ∃ i, j = B.length + i := ⟨j - B.length, by omega⟩
        rw [if_neg (by omega), gR', gR']
        have e1 : (p :: (B.reverse ++ p :: C)).getD (B.length + i + 1) 0 = (B.reverse ++ p :: C).getD (B.length + i) 0 := rfl
        have e2 : (p :: (B ++ p :: C)).getD (B.length + i + 1) 0 = (B ++ p :: C).getD (B.length + i) 0 := rfl
        have e3 := gR' (A := B.reverse) (R := p :: C) (k := i)
        rw [List.length_reverse] at e3
        rw [e1, e2, e3, gR']
theorem y_turnCopy {n L p : Nat} {A B C : List Nat} {M : zM} (K : zM → Option (Int32 × zM)) (hC : zC M) (hN : NrH n L M) (hn : n < 8) (hA : AN M 67 (A ++ p :: (B ++ p :: C))) (hlen : (A ++ p :: (B ++ p :: C)).length = 2 * n) :
    ∃ M', fp_X11_turned_L82 K 46 (nI p) (nI A.length) (nI (A.length + 1 + B.length)) FU 0 M = K M' ∧ Fz (fun a _ => a = 68) M M' ∧ AN M' 68 (A ++ p :: (B.reverse ++ p :: C)) := by
  have hlw : (A ++ p :: (B ++ p :: C)).length = A.length + 1 + B.length + 1 + C.length := by simp; omega
  have hlr : (A ++ p :: (B.reverse ++ p :: C)).length = 2 * n := by
    rw [← hlen]; simp
  rw [n_0]
  refine up (P := fun k f => ∀ M3, Fz (fun a _ => a = 68) M M3 → (∀ j, j < k → zI M3 68 j = nI ((A ++ p :: (B.reverse ++ p :: C)).getD j 0)) → ∃ M', fp_X11_turned_L82 K 46 (nI p) (nI A.length) (nI (A.length + 1 + B.length)) f (nI k) M3 = K M' ∧ Fz (fun a _ => a = 68) M M' ∧ AN M' 68 (A ++ p :: (B.reverse ++ p :: C))) (a := 0) (n := 2 * n) ?_ ?_ FU (by omega) (FU_gt (by omega)) M Fz_refl (fun j hj => absurd hj (Nat.not_lt_zero _))
  · intro f M3 f1 f2
    have hC3 := Fz_C f1 hC
    have hN3 : NrH n L M3 := NrH_z hN f1 (by omega) (fun k => by omega)
    exact ⟨M3, by rw [fp_X11_turned_L82, y_length hC3 hN3, Option.bind_some, stp], f1, AN_of hC3 (Or.inr (Or.inr rfl)) (by omega) (by rw [hlr]; exact f2)⟩
  · intro k f _ hk ih M3 f1 f2
    have hC3 := Fz_C f1 hC
    have hN3 : NrH n L M3 := NrH_z hN f1 (by omega) (fun k => by omega)
    have hA3 : AN M3 67 (A ++ p :: (B ++ p :: C)) := AN_of hC3 (Or.inr (Or.inl rfl)) (by omega) fun i hi => (f1.2 67 i (by omega)).trans (hA.2.2.2.2 i hi)
    rw [fp_X11_turned_L82, y_length hC3 hN3, Option.bind_some, go hk (by omega), gR_46_35 hC3, Option.bind_some, gR_46_34 hC3, Option.bind_some, zjn_eq, zjn_eq]
    have fin : ∀ x, x = (if A.length < k ∧ k < A.length + 1 + B.length then A.length + (A.length + 1 + B.length) - k else k) → ∃ M', ((zlI 100 M3 67 (nI x)).bind fun (y19 : Int32) =>
          (ztI M3 68 (nI k) y19).bind fun (M20 : zM) =>
          fp_X11_turned_L82 K 46 (nI p) (nI A.length) (nI (A.length + 1 + B.length)) f (nI k + 1) M20) = K M' ∧ Fz (fun a _ => a = 68) M M' ∧ AN M' 68 (A ++ p :: (B.reverse ++ p :: C)) := by
      intro x hx
      have hxl : x < (A ++ p :: (B ++ p :: C)).length := by
        rw [hx]; split <;> omega
      rw [AN_l hA3 hxl, Option.bind_some, tI_68 hC3 (show k < 14 by omega), Option.bind_some, inc]
      refine ih _ (Fz_trans f1 (Fz_sI rfl)) fun j hj => ?_
      by_cases z : j = k
      · rw [z, zI_same, tr_get, hx]
      · rw [zI_other _ _ (Or.inr z)]; exact f2 j (by omega)
    by_cases h1 : k ≤ A.length
    · rw [if_pos (show nI k ≤ nI A.length by rw [n_le (by omega) (by omega)]; exact h1)]
      exact fin k (by rw [if_neg (by omega)])
    · rw [if_neg (show ¬ nI k ≤ nI A.length by rw [n_le (by omega) (by omega)]; exact h1)]
      by_cases h2 : A.length + 1 + B.length ≤ k
      · rw [if_pos (show nI k ≥ nI (A.length + 1 + B.length) by rw [ge_iff_le, n_le (by omega) (by omega)]; exact h2)]
        exact fin k (by rw [if_neg (by omega)])
      · rw [if_neg (show ¬ nI k ≥ nI (A.length + 1 + B.length) by rw [ge_iff_le, n_le (by omega) (by omega)]; exact h2), n_add, n_sub (by omega)]
        exact fin _ (by rw [if_pos (by omega)])
theorem IR_47 {S : zSt} {M M' : zM} (h : IR S M) (hf : Fz (fun a k => scR a k ∨ a = 47) M M') (hN : NrH (sN S) (sL S) M') : IR S M' := by
  obtain ⟨h1, h2, h3, h4, h5, h6, h7, h8⟩ := h
  have e : ∀ k, (k = 0 ∨ k = 1 ∨ k = 5 ∨ k = 11 ∨ k = 12 ∨ k = 20) → ¬ (scR 46 k ∨ 46 = 47) := fun k hk q => by omega
  have f : ∀ a, (a = 48 ∨ a = 53 ∨ a = 55 ∨ a = 56) → ∀ k, ¬ (scR a k ∨ a = 47) := fun a ha k q => by omega
  exact ⟨h1, Fz_C hf h2, hN, (hf.2 _ _ (e 1 (by decide))).trans h4, ⟨(hf.2 _ _ (e 5 (by decide))).trans h5.1, fun i hi => (hf.2 _ _ (f 48 (by decide) i)).trans (h5.2 i hi)⟩, flR_z h6 hf (e 11 (by decide)) (e 12 (by decide)), ⟨(hf.2 _ _ (e 20 (by decide))).trans h7.1, fun i hi => NtH_z (h7.2 i hi) hf (f 53 (by decide))⟩, fun k hk => imR_z (h8 k hk) hf (f 56 (by decide)) (f 55 (by decide))⟩
theorem trW_Pat {n L p : Nat} {A B C : List Nat} (hn : n < 8) (hp : p < n) (hA : p ∉ A) (hB : p ∉ B) (hC : p ∉ C) (hW : WD n (A ++ p :: (B ++ p :: C))) (hP : Pat n L (A ++ p :: (B ++ p :: C))) : Pat n (turn n L p) (A ++ p :: (B.reverse ++ p :: C)) := by
  have key : ∀ a b, a < n → b < n → a ≠ b → a ≠ p → crs p b (A ++ p :: (B.reverse ++ p :: C)) = adj (turn n L p) p b ∨ b = p := by
    intro a b ha hb hab hap
    by_cases hbp : b = p
    · exact Or.inr hbp
    · left
      rw [crs_turn_p (fun z => hbp z.symm) hA hB hC (hW.2 b hb), turn_p hn hp hb]
      exact Pat_adj hP hp hb (fun z => hbp z.symm)
  have onp : ∀ b, b < n → b ≠ p → crs p b (A ++ p :: (B.reverse ++ p :: C)) = adj (turn n L p) p b := by
    intro b hb hbp
    rw [crs_turn_p (fun z => hbp z.symm) hA hB hC (hW.2 b hb), turn_p hn hp hb]
    exact Pat_adj hP hp hb (fun z => hbp z.symm)
  intro a ha b hb
  by_cases hap : a = p
  · rw [hap]; exact onp b (by omega) (by omega)
  · by_cases hbp : b = p
    · rw [hbp, crs_comm (fun z => hap z.symm), adj_comm]
      exact onp a ha hap
    · rw [crs_turn (fun z => hap z.symm) (fun z => hbp z.symm) (by omega) hA hB hC (hW.2 a ha) (hW.2 b (by omega)), turn_adj hn ha (by omega), decide_eq_true (show a ≠ b by omega), Bool.true_and]
      rw [Pat_adj hP ha (by omega) (by omega), Pat_adj hP hp ha (fun z => hap z.symm), Pat_adj hP hp (by omega) (fun z => hbp z.symm)]
theorem y_turned {S : zSt} {M : zM} (h : IR S M) (i p : Int32) : RM (q_turned S i p) (fp_X11_turned 46 i p M) M := by
  unfold fp_X11_turned q_turned mpt
  have hC := IR_C h
  have g2 := (IR_n h).2
  rw [ts_46 hC]
  by_cases h0 : i < 0
  · rw [if_pos h0, if_neg (by rw [ge_iff_le, Int32.not_le]; exact h0)]; exact y_rf h Fc_refl
  · rw [if_neg h0, if_pos (by rw [ge_iff_le]; exact Int32.not_lt.mp h0), y_isPoint h, Option.bind_some]
    cases hp : asN p (sN S) with
    | none => rw [b_no, if_neg (show ¬ (0 : Int32) ≠ 0 by decide)]; exact y_rf h Fc_refl
    | some q =>
      obtain ⟨rfl, hq, hqb⟩ := asN_some hp
      obtain ⟨M3, e1, e2, e3, e4⟩ := y_wrongModel h i h0
      have hC3 := IR_C e2
      rw [b_so, if_pos (show (1 : Int32) ≠ 0 by decide), e1, Option.bind_some, zpp_mk]
      cases hv : asN i (mds S).length with
      | none => dsimp only; rw [if_neg (show ¬ (6 : Int32) ≤ 0 by decide)]; exact y_rf e2 e3
      | some j =>
        have hA := e4 j hv
        obtain ⟨rfl, hj, hb⟩ := asN_some hv
        dsimp only
        obtain ⟨⟨hW, hP, -⟩, -⟩ := mds_get hj
        obtain ⟨w, hw⟩ : ∃ w, w = (mds S).getD j [] := ⟨_, rfl⟩
        rw [← hw] at hA hW hP ⊢
        obtain ⟨A, B, C, e, h1, h2, h3⟩ := two_of (hW.2 q hq)
        have hlt := WD_lt hW
        have hlen := hW.1
        rw [e] at hA hW hP hlt hlen
        have hlw : (A ++ q :: (B ++ q :: C)).length = A.length + 1 + B.length + 1 + C.length := by simp; omega
        have h31 : ∀ z ∈ A ++ q :: (B ++ q :: C), z < 2 ^ 31 := fun z hz => by have := hlt z hz; omega
        have pos := fun k hk => two_pos (p := q) (k := k) h1 h2 h3 hk
        have f1 := (y_first (i := 0) (j := A.length) (v := 0) (fun v3_7 =>
              lett ((v3_7 + 1)) fun (v4_8 : Int32) =>
              fp_X11_turned_L62
                (fun v4_11 =>
                  fp_X11_turned_L82
                    (fun M24 =>
                      (fp_X11_turns0 46 (nI q) M24).bind fun (M25 : zM) =>
                      (fp_X11_modelAsked 46 M25).bind fun p28 => zpp p28 fun (y26 : Int32) (M27 : zM) =>
                      (fp_X11_turns0 46 (nI q) M27).bind fun (M29 : zM) =>
                      (fp_X11_gives 46 y26 M29).bind fun p32 => zpp p32 fun (y30 : Int32) (M31 : zM) =>
                      some (y30, M31)) 46 (nI q) v3_7 v4_11 FU 0 M3) 46 (nI q) v3_7 M3 FU v4_8) n_0 hC3 hA h31 (by omega) (Nat.zero_le _) (by omega) ((pos _ (by omega)).mpr (Or.inl rfl)) (fun k _ hk z => by have := (pos k (by omega)).mp z; omega)).1
        have f2 := (y_first (i := A.length + 1) (j := A.length + 1 + B.length) (v := nI A.length) (fun v4_11 =>
                  fp_X11_turned_L82
                    (fun M24 =>
                      (fp_X11_turns0 46 (nI q) M24).bind fun (M25 : zM) =>
                      (fp_X11_modelAsked 46 M25).bind fun p28 => zpp p28 fun (y26 : Int32) (M27 : zM) =>
                      (fp_X11_turns0 46 (nI q) M27).bind fun (M29 : zM) =>
                      (fp_X11_gives 46 y26 M29).bind fun p32 => zpp p32 fun (y30 : Int32) (M31 : zM) =>
                      some (y30, M31)) 46 (nI q) (nI A.length) v4_11 FU 0 M3) (inc A.length) hC3 hA h31 (by omega) (by omega) (by omega) ((pos _ (by omega)).mpr (Or.inr rfl)) (fun k hk1 hk z => by have := (pos k (by omega)).mp z; omega)).2
        obtain ⟨M24, c1, c2, c3⟩ := y_turnCopy (fun M24 =>
                      (fp_X11_turns0 46 (nI q) M24).bind fun (M25 : zM) =>
                      (fp_X11_modelAsked 46 M25).bind fun p28 => zpp p28 fun (y26 : Int32) (M27 : zM) =>
                      (fp_X11_turns0 46 (nI q) M27).bind fun (M29 : zM) =>
                      (fp_X11_gives 46 y26 M29).bind fun p32 => zpp p32 fun (y30 : Int32) (M31 : zM) =>
                      some (y30, M31)) hC3 (IR_N e2) g2 hA hlen
        have hC24 := Fz_C c2 hC3
        have hN24 : NrH (sN S) (sL S) M24 := NrH_z (IR_N e2) c2 (by omega) (fun k => by omega)
        obtain ⟨M25, d1, d2, d3⟩ := y_turns0 hC24 hN24 g2 (IR_L h) hq
        have hC25 := Fz_C d3 hC24
        have hA25 : AN M25 68 (A ++ q :: (B.reverse ++ q :: C)) := AN_of hC25 (Or.inr (Or.inr rfl)) (by simp at hlen ⊢; omega) fun i hi => (d3.2 68 i (by omega)).trans (c3.2.2.2.2 i hi)
        have etr : trW q (A ++ q :: (B ++ q :: C)) = A ++ q :: (B.reverse ++ q :: C) := trW_split h1 h2
        have hWt : WD (sN S) (A ++ q :: (B.reverse ++ q :: C)) := by rw [← etr]; exact trW_WD hW hq
        obtain ⟨M27, x, k1, k2, k3⟩ := y_modelAsked hC25 d2 g2 hA25 hWt (trW_Pat g2 hq h1 h2 h3 hW hP)
        have hC27 := Fz_C k2 hC25
        obtain ⟨M29, t1, t2, t3⟩ := y_turns0 hC27 (NrX d2 k2) g2 (turn_lt _ _ _) hq
        rw [turn_turn g2 (IR_L h) hq] at t2
        have hF : Fz (fun a k => scR a k ∨ a = 47) M3 M29 := Fz_trans (Fz_mono (sc68 c2) fun a k z => Or.inl z) (Fz_trans (Fz_mono d3 fun a k z => Or.inr z) (Fz_trans (Fz_mono (scX k2) fun a k z => Or.inl z) (Fz_mono t3 fun a k z => Or.inr z)))
        have hI := IR_47 e2 hF t2
        rw [if_pos (show (0 : Int32) ≤ 0 by decide), f1, lett_eq, f2, c1, d1, Option.bind_some, k1, Option.bind_some, zpp_mk, t1, Option.bind_some, e, etr]
        unfold ixV
        rw [k3]
        exact y_gv hI (Fc_trans e3 (Fz_c hF fun a k z => by show 46 ≤ a ∧ a < 72; omega))

/-! ===== 49: the class' Pieces ===== -/
/-- a piece: its knots, the lines between their places -/
abbrev Pc : Type := List Nat × Nat
/-- the lines of one side of a split, the mark behind it -/
def cutg (m T s : Nat) (h l : Nat) : Bool :=
  if h = cnt s.testBit m then outs (row m T (sel s.testBit m l)) s != 0 else adj T (sel s.testBit m h) (sel s.testBit m l)
def cutT (m T s : Nat) : Nat := mk (cnt s.testBit m + 1) (cutg m T s)
def selL (s m : Nat) (ks : List Nat) : List Nat := (List.range (cnt s.testBit m)).map fun j => ks.getD (sel s.testBit m j) 0
def cutP (q : Pc) (s mark : Nat) : Pc := (selL s q.1.length q.1 ++ [mark], cutT q.1.length q.2 s)
def PcH (i : Nat) (q : Pc) (M : zM) : Prop := zI M 21 i = nI q.1.length ∧ zI M 22 i = nI q.2 ∧ ∀ j, j < q.1.length → zI M (13 + i) j = nI (q.1.getD j 0)
theorem l13 {M : zM} {i j : Nat} (h : zC M) (hi : i < 8) (hj : j < 8) : zlI 100 M (13 + i) (nI j) = some (zI M (13 + i) j) := by
  have : i = 0 ∨ i = 1 ∨ i = 2 ∨ i = 3 ∨ i = 4 ∨ i = 5 ∨ i = 6 ∨ i = 7 := by omega
  rcases this with rfl | rfl | rfl | rfl | rfl | rfl | rfl | rfl
  · exact lI_13 h hj
  · exact lI_14 h hj
  · exact lI_15 h hj
  · exact lI_16 h hj
  · exact lI_17 h hj
  · exact lI_18 h hj
  · exact lI_19 h hj
  · exact lI_20 h hj
theorem t13 {M : zM} {i j : Nat} (h : zC M) (hi : i < 8) (hj : j < 8) (v : Int32) : ztI M (13 + i) (nI j) v = some (zsI M (13 + i) j v) := by
  have : i = 0 ∨ i = 1 ∨ i = 2 ∨ i = 3 ∨ i = 4 ∨ i = 5 ∨ i = 6 ∨ i = 7 := by omega
  rcases this with rfl | rfl | rfl | rfl | rfl | rfl | rfl | rfl
  · exact tI_13 h hj v
  · exact tI_14 h hj v
  · exact tI_15 h hj v
  · exact tI_16 h hj v
  · exact tI_17 h hj v
  · exact tI_18 h hj v
  · exact tI_19 h hj v
  · exact tI_20 h hj v
theorem zC2 {M M' : zM} (h : M'.2 = M.2) (hc : zC M) : zC M' := Fc_C (S := fun _ => True) ⟨h, fun _ q => absurd trivial q⟩ hc
theorem cutg_in {m T s h l : Nat} (hh : h < cnt s.testBit m) : cutg m T s h l = adj T (sel s.testBit m h) (sel s.testBit m l) := by unfold cutg; rw [if_neg (by omega)]
theorem c_cut {m T s i t marks : Nat} {ks : List Nat} {M : zM} (hm : m < 8) (hs : s < 2 ^ m) (hT : T < 2 ^ tri m) (hk : ks.length = m) (hc : cnt s.testBit m < 7) (hi : i < 8) (ht : t < 8) (hmk : zI M 11 4 = nI marks) (hC : zC M) (hP : PcH i (ks, T) M) :
    ∃ M', fp_X3_cut 11 (nI i) (nI s) (nI t) M = some M' ∧ PcH t (cutP (ks, T) s (10 + marks)) M' ∧ M'.2 = M.2 ∧ ∀ a k, (a ≠ 13 + t ∧ ¬ (a = 21 ∧ k = t) ∧ ¬ (a = 22 ∧ k = t)) → zI M' a k = zI M a k := by
  obtain ⟨p1, p2, p3⟩ := hP
  dsimp only at p1 p2 p3
  rw [hk] at p1 p3
  have h128 := lt128 hm hs
  obtain ⟨c, hcd⟩ : ∃ c, c = cnt s.testBit m := ⟨_, rfl⟩
  have hpc : pc s = c := by rw [hcd]; exact pc_of hs (by omega)
  rw [← hcd] at hc
  let G : Nat → Bool := fun k => cutg m T s (pi1 k) (pi2 k)
  have hG0 : bs G (tri c) = part m T s := by
    unfold part
    rw [← hcd]
    refine bs_congr fun k hk2 => ?_
    obtain ⟨q1, q2, q3⟩ := pr_surj c (by omega) k hk2
    exact cutg_in (by omega)
  have hGe : bs G (tri c + c) = cutT m T s := by
    unfold cutT mk
    rw [← hcd, tri_s]
  unfold fp_X3_cut
  rw [ts_11 hC, gR_11_1 hC, Option.bind_some, lI_21 hC hi, Option.bind_some, gR_11_2 hC, Option.bind_some, lI_22 hC hi, Option.bind_some, p1, p2, c_part hm (by omega) hT, Option.bind_some, c_bitCount (by omega), Option.bind_some, hpc, ← hG0]
  have loop : ∀ (K : Int32 → Int32 → zM → Option zM) d p f M1, p + d = m → d < f → M1.2 = M.2 → (∀ j, p ≤ j → zI M1 (13 + i) j = zI M (13 + i) j) → (∀ j, j < cnt s.testBit p → zI M1 (13 + t) j = zI M (13 + i) (sel s.testBit m j)) → (∀ a, a ≠ 13 + t → ∀ k, zI M1 a k = zI M a k) →
      ∃ M2, M2.2 = M.2 ∧ (∀ j, j < c → zI M2 (13 + t) j = zI M (13 + i) (sel s.testBit m j)) ∧ (∀ a, a ≠ 13 + t → ∀ k, zI M2 a k = zI M a k) ∧
        fp_X3_cut_L38 K 11 (nI i) (nI s) (nI t) (nI m) (nI T) (nI c) f (nI (bs G (tri c + cnt s.testBit p))) (nI (cnt s.testBit p)) (nI p) M1 = K (nI (bs G (tri c + c))) (nI c) M2 := by
    intro K d
    induction d with
    | zero =>
      intro p f M1 h1 h2 h3 h4 h5 h6
      obtain ⟨f, rfl⟩ : ∃ g, f = g + 1 := ⟨f - 1, by omega⟩
      have : p = m := by omega
      subst this
      rw [← hcd] at h5
      refine ⟨M1, h3, h5, h6, ?_⟩
      rw [fp_X3_cut_L38, stp, ← hcd]
    | succ d ih =>
      intro p f M1 h1 h2 h3 h4 h5 h6
      obtain ⟨f, rfl⟩ : ∃ g, f = g + 1 := ⟨f - 1, by omega⟩
      have hp : p < m := by omega
      have hcp : cnt s.testBit p ≤ c := by rw [hcd]; exact cnt_pref _ (by omega)
      have hC1 := zC2 h3 hC
      rw [fp_X3_cut_L38, go hp (by omega), n_8, go (show cnt s.testBit p < 8 by omega) (by omega), c_isIn (by omega) (by omega), Option.bind_some, zjn_eq]
      dsimp only
      cases hb : s.testBit p with
      | false =>
        rw [ifF, inc]
        have hc1 : cnt s.testBit (p + 1) = cnt s.testBit p := by simp [cnt, hb]
        have := ih (p + 1) f M1 (by omega) (by omega) h3 (fun j hj => h4 j (by omega)) (by rw [hc1]; exact h5) h6
        rw [hc1] at this
        exact this
      | true =>
        have hc1 : cnt s.testBit (p + 1) = cnt s.testBit p + 1 := by simp [cnt, hb]
        have hc2 : cnt s.testBit (p + 1) ≤ c := by rw [hcd]; exact cnt_pref _ (by omega)
        have hsel := sel_at hp hb
        have hR := lt128 hm (row_lt m T p)
        rw [ifT, gR_11_0 hC1, Option.bind_some, lR_12 hC1 ht, Option.bind_some, Option.bind_some, lR_12 hC1 hi, Option.bind_some, l13 hC1 hi (by omega), Option.bind_some, t13 hC1 ht (by omega), Option.bind_some, c_nearTo hm (lt21 hm hT) hp, Option.bind_some, zjn_eq, n_andn, inc, inc]
        dsimp only
        have hGb : G (tri c + cnt s.testBit p) = (outs (row m T p) s != 0) := by
          have e := pr_tri (show cnt s.testBit p < c by omega)
          obtain ⟨i1, i2⟩ := pr_inv c (by omega) (cnt s.testBit p) (by omega)
          show cutg m T s (pi1 (tri c + cnt s.testBit p)) (pi2 (tri c + cnt s.testBit p)) = _
          rw [← e, i1, i2]
          unfold cutg
          rw [if_pos hcd, hsel]
        have hnext := ih (p + 1) f (zsI M1 (13 + t) (cnt s.testBit p) (zI M1 (13 + i) p)) (by omega) (by omega) h3 ?_ ?_ ?_
        · rw [hc1, ← Nat.add_assoc] at hnext
          have hq2 := pr_lt21 c (by omega) (cnt s.testBit p) (by omega) (by omega)
          have e := pr_tri (show cnt s.testBit p < c by omega)
          by_cases hz : outs (row m T p) s = 0
          · rw [show row m T p &&& (row m T p ^^^ s) = outs (row m T p) s from rfl, hz, if_pos (by rw [n_0])]
            rw [bs_skip (by rw [hGb, hz]; rfl)] at hnext
            exact hnext
          · rw [show row m T p &&& (row m T p ^^^ s) = outs (row m T p) s from rfl, if_neg (by rw [n_0, n_eq (Nat.lt_of_le_of_lt (outs_le _ _) (by omega)) (by omega)]; exact hz), c_pair _ (by omega) _ (by omega), Option.bind_some, lett_eq, n_1, pr_comm, e, n_shl (by omega), n_or]
            rw [bs_take (by rw [hGb]; exact bne_iff_ne.mpr hz)] at hnext
            exact hnext
        · intro j hj
          by_cases hti : t = i
          · subst hti
            rw [zI_other _ _ (Or.inr (by have := cnt_le s.testBit p; omega)), h4 j (by omega)]
          · rw [zI_other _ _ (Or.inl (by omega)), h4 j (by omega)]
        · intro j hj
          rw [hc1] at hj
          by_cases hjp : j = cnt s.testBit p
          · subst hjp; rw [zI_same, hsel, h4 p (Nat.le_refl _)]
          · rw [zI_other _ _ (Or.inr hjp), h5 j (by omega)]
        · intro a ha k
          rw [zI_other _ _ (Or.inl ha), h6 a ha k]
  obtain ⟨M2, a1, a2, a3, a4⟩ := loop (fun v6_21 v8_22 M23 =>
        if v8_22 ≥ 8 then (
          some M23)
        else (
          (zgR 2 M23 11 0).bind fun (y24 : Nat) =>
          (zlR M23 y24 (nI t)).bind fun (y25 : Nat) =>
          (zgI 2 M23 11 4).bind fun (y26 : Int32) =>
          (ztI M23 y25 v8_22 (10 + y26)).bind fun (M27 : zM) =>
          (zgR 2 M27 11 1).bind fun (y28 : Nat) =>
          (ztI M27 y28 (nI t) (v8_22 + 1)).bind fun (M29 : zM) =>
          (zgR 2 M29 11 2).bind fun (y30 : Nat) =>
          (ztI M29 y30 (nI t) v6_21).bind fun (M31 : zM) =>
          some M31)) m 0 FU M (by omega) (FU_gt (by omega)) rfl (fun _ _ => rfl) (fun j hj => by simp [cnt] at hj) (fun _ _ _ => rfl)
  have hC2 := zC2 a1 hC
  rw [n_0]
  rw [show cnt s.testBit 0 = 0 from rfl, Nat.add_zero] at a4
  rw [a4, hGe]
  dsimp only
  rw [n_8, go (show c < 8 by omega) (by omega), gR_11_0 hC2, Option.bind_some, lR_12 hC2 ht, Option.bind_some, gI_11 hC2, Option.bind_some, a3 11 (by omega), hmk, show (10 : Int32) = nI 10 from by decide, n_add, t13 hC2 ht (by omega), Option.bind_some, gR_11_1 (by exact hC2), Option.bind_some, tI_21 (by exact hC2) ht, Option.bind_some, gR_11_2 (by exact hC2), Option.bind_some, tI_22 (by exact hC2) ht, Option.bind_some, inc]
  refine ⟨_, rfl, ⟨?_, ?_, ?_⟩, a1, ?_⟩
  · rw [zI_other _ _ (Or.inl (by decide)), zI_same]
    show _ = nI (selL s ks.length ks ++ [10 + marks]).length
    rw [List.length_append, selL, List.length_map, List.length_range, hk, ← hcd]; rfl
  · rw [zI_same]
    show _ = nI (cutT ks.length T s)
    rw [hk]
  · intro j hj
    rw [zI_other _ _ (Or.inl (by omega)), zI_other _ _ (Or.inl (by omega))]
    show _ = nI ((selL s ks.length ks ++ [10 + marks]).getD j 0)
    have hlen : (selL s ks.length ks).length = c := by rw [selL, List.length_map, List.length_range, hk, ← hcd]
    have hj' : j < c + 1 := by
      have : (selL s ks.length ks ++ [10 + marks]).length = c + 1 := by rw [List.length_append, hlen]; rfl
      rw [← this]; exact hj
    by_cases hjc : j = c
    · subst hjc
      rw [zI_same]
      simp [List.getD, List.getElem?_append_right, hlen]
    · rw [zI_other _ _ (Or.inr hjc), a2 j (by omega)]
      have hsl := sel_lt (f := s.testBit) (n := m) (i := j) (by rw [← hcd]; omega)
      rw [p3 _ hsl]
      have : j < (selL s ks.length ks).length := by rw [hlen]; omega
      simp [List.getD, List.getElem?_append_left this, selL, hk, List.getElem?_range (show j < cnt s.testBit m by rw [← hcd]; omega)]
  · intro a k ⟨h1, h2, h3⟩
    rw [zI_other _ _ (by by_cases q : a = 22; exact Or.inr (fun z => h3 ⟨q, z⟩); exact Or.inl q), zI_other _ _ (by by_cases q : a = 21; exact Or.inr (fun z => h2 ⟨q, z⟩); exact Or.inl q), zI_other _ _ (Or.inl h1), a3 a h1 k]

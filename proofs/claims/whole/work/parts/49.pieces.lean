/-! ===== 49: the class' Pieces ===== -/
/-- a piece: its knots, the lines between their places -/
abbrev Pc : Type := List Nat × Nat
/-- the lines of one side of a split, the mark behind it -/
def cutg (m T s : Nat) (h l : Nat) : Bool :=
  if h = cnt s.testBit m then outs (row m T (sel s.testBit m l)) s != 0 else adj T (sel s.testBit m h) (sel s.testBit m l)
def cutT (m T s : Nat) : Nat := mk (cnt s.testBit m + 1) (cutg m T s)
def selL (s m : Nat) (ks : List Nat) : List Nat := (List.range (cnt s.testBit m)).map fun j => ks.getD (sel s.testBit m j) 0
def cutP (q : Pc) (s mark : Nat) : Pc := (selL s q.1.length q.1 ++ [mark], cutT q.1.length q.2 s)
def PcH (i : Nat) (q : Pc) (M : zM) : Prop := zI M 21 i = nI q.1.length ∧ zI M 22 i = nI q.2 ∧ ∀ j, j < q.1.length → zI M (13 + i) j = nI (q.1.getD j 0)
theorem getD_app_l {α : Type} {l m : List α} {i : Nat} {d : α} (h : i < l.length) : (l ++ m).getD i d = l.getD i d := by simp [List.getD, List.getElem?_append_left h]
theorem selL_get {s m j : Nat} {ks : List Nat} (h : j < cnt s.testBit m) : (selL s m ks).getD j 0 = ks.getD (sel s.testBit m j) 0 := by
  simp [selL, List.getD, List.getElem?_map, List.getElem?_range h]
theorem l13 {M : zM} {i j : Nat} (h : zC M) (hi : i < 8) (hj : j < 8) : zlI 100 M (13 + i) (nI j) = some (zI M (13 + i) j) := by
  have : i = 0 ∨ i = 1 ∨ i = 2 ∨ i = 3 ∨ i = 4 ∨ i = 5 ∨ i = 6 ∨ i = 7 := by omega
  rcases this with rfl | rfl | rfl | rfl | rfl | rfl | rfl | rfl
  · exact lI_13 h hj
  · exact lI_14 h hj
  · exact lI_15 h hj
  · exact lI_16 h hj
  · exact lI_17 h hj
  · exact lI_18 h hj
  · exact lI_19 h hj
  · exact lI_20 h hj
theorem t13 {M : zM} {i j : Nat} (h : zC M) (hi : i < 8) (hj : j < 8) (v : Int32) : ztI M (13 + i) (nI j) v = some (zsI M (13 + i) j v) := by
  have : i = 0 ∨ i = 1 ∨ i = 2 ∨ i = 3 ∨ i = 4 ∨ i = 5 ∨ i = 6 ∨ i = 7 := by omega
  rcases this with rfl | rfl | rfl | rfl | rfl | rfl | rfl | rfl
  · exact tI_13 h hj v
  · exact tI_14 h hj v
  · exact tI_15 h hj v
  · exact tI_16 h hj v
  · exact tI_17 h hj v
  · exact tI_18 h hj v
  · exact tI_19 h hj v
  · exact tI_20 h hj v
theorem zC2 {M M' : zM} (h : M'.2 = M.2) (hc : zC M) : zC M' := Fc_C (S := fun _ => True) ⟨h, fun _ q => absurd trivial q⟩ hc
theorem cutg_in {m T s h l : Nat} (hh : h < cnt s.testBit m) : cutg m T s h l = adj T (sel s.testBit m h) (sel s.testBit m l) := by unfold cutg; rw [if_neg (by omega)]
theorem c_cut {m T s i t marks : Nat} {ks : List Nat} {M : zM} (hm : m < 8) (hs : s < 2 ^ m) (hT : T < 2 ^ tri m) (hk : ks.length = m) (hc : cnt s.testBit m < 7) (hi : i < 8) (ht : t < 8) (hmk : zI M 11 4 = nI marks) (hC : zC M) (hP : PcH i (ks, T) M) :
    ∃ M', fp_X3_cut 11 (nI i) (nI s) (nI t) M = some M' ∧ PcH t (cutP (ks, T) s (10 + marks)) M' ∧ M'.2 = M.2 ∧ ∀ a k, (a ≠ 13 + t ∧ ¬ (a = 21 ∧ k = t) ∧ ¬ (a = 22 ∧ k = t)) → zI M' a k = zI M a k := by
  obtain ⟨p1, p2, p3⟩ := hP
  dsimp only at p1 p2 p3
  rw [hk] at p1 p3
  have h128 := lt128 hm hs
  obtain ⟨c, hcd⟩ : ∃ c, c = cnt s.testBit m := ⟨_, rfl⟩
  have hpc : pc s = c := by rw [hcd]; exact pc_of hs (by omega)
  rw [← hcd] at hc
  let G : Nat → Bool := fun k => cutg m T s (pi1 k) (pi2 k)
  have hG0 : bs G (tri c) = part m T s := by
    unfold part
    rw [← hcd]
    refine bs_congr fun k hk2 => ?_
    obtain ⟨q1, q2, q3⟩ := pr_surj c (by omega) k hk2
    exact cutg_in (by omega)
  have hGe : bs G (tri c + c) = cutT m T s := by
    unfold cutT mk
    rw [← hcd, tri_s]
  unfold fp_X3_cut
  rw [ts_11 hC, gR_11_1 hC, Option.bind_some, lI_21 hC hi, Option.bind_some, gR_11_2 hC, Option.bind_some, lI_22 hC hi, Option.bind_some, p1, p2, c_part hm (by omega) hT, Option.bind_some, c_bitCount (by omega), Option.bind_some, hpc, ← hG0]
  have loop : ∀ (K : Int32 → Int32 → zM → Option zM) d p f M1, p + d = m → d < f → M1.2 = M.2 → (∀ j, p ≤ j → zI M1 (13 + i) j = zI M (13 + i) j) → (∀ j, j < cnt s.testBit p → zI M1 (13 + t) j = zI M (13 + i) (sel s.testBit m j)) → (∀ a, a ≠ 13 + t → ∀ k, zI M1 a k = zI M a k) →
      ∃ M2, M2.2 = M.2 ∧ (∀ j, j < c → zI M2 (13 + t) j = zI M (13 + i) (sel s.testBit m j)) ∧ (∀ a, a ≠ 13 + t → ∀ k, zI M2 a k = zI M a k) ∧
        fp_X3_cut_L38 K 11 (nI i) (nI s) (nI t) (nI m) (nI T) (nI c) f (nI (bs G (tri c + cnt s.testBit p))) (nI (cnt s.testBit p)) (nI p) M1 = K (nI (bs G (tri c + c))) (nI c) M2 := by
    intro K d
    induction d with
    | zero =>
      intro p f M1 h1 h2 h3 h4 h5 h6
      obtain ⟨f, rfl⟩ : ∃ g, f = g + 1 := ⟨f - 1, by omega⟩
      have : p = m := by omega
      subst this
      rw [← hcd] at h5
      refine ⟨M1, h3, h5, h6, ?_⟩
      rw [fp_X3_cut_L38, stp, ← hcd]
    | succ d ih =>
      intro p f M1 h1 h2 h3 h4 h5 h6
      obtain ⟨f, rfl⟩ : ∃ g, f = g + 1 := ⟨f - 1, by omega⟩
      have hp : p < m := by omega
      have hcp : cnt s.testBit p ≤ c := by rw [hcd]; exact cnt_pref _ (by omega)
      have hC1 := zC2 h3 hC
      rw [fp_X3_cut_L38, go hp (by omega), n_8, go (show cnt s.testBit p < 8 by omega) (by omega), c_isIn (by omega) (by omega), Option.bind_some, zjn_eq]
      dsimp only
      cases hb : s.testBit p with
      | false =>
        rw [ifF, inc]
        have hc1 : cnt s.testBit (p + 1) = cnt s.testBit p := by simp [cnt, hb]
        have := ih (p + 1) f M1 (by omega) (by omega) h3 (fun j hj => h4 j (by omega)) (by rw [hc1]; exact h5) h6
        rw [hc1] at this
        exact this
      | true =>
        have hc1 : cnt s.testBit (p + 1) = cnt s.testBit p + 1 := by simp [cnt, hb]
        have hc2 : cnt s.testBit (p + 1) ≤ c := by rw [hcd]; exact cnt_pref _ (by omega)
        have hsel := sel_at hp hb
        have hR := lt128 hm (row_lt m T p)
        rw [ifT, gR_11_0 hC1, Option.bind_some, lR_12 hC1 ht, Option.bind_some, Option.bind_some, lR_12 hC1 hi, Option.bind_some, l13 hC1 hi (by omega), Option.bind_some, t13 hC1 ht (by omega), Option.bind_some, c_nearTo hm (lt21 hm hT) hp, Option.bind_some, zjn_eq, n_andn, inc, inc]
        dsimp only
        have hGb : G (tri c + cnt s.testBit p) = (outs (row m T p) s != 0) := by
          have e := pr_tri (show cnt s.testBit p < c by omega)
          obtain ⟨i1, i2⟩ := pr_inv c (by omega) (cnt s.testBit p) (by omega)
          show cutg m T s (pi1 (tri c + cnt s.testBit p)) (pi2 (tri c + cnt s.testBit p)) = _
          rw [← e, i1, i2]
          unfold cutg
          rw [if_pos hcd, hsel]
        have hnext := ih (p + 1) f (zsI M1 (13 + t) (cnt s.testBit p) (zI M1 (13 + i) p)) (by omega) (by omega) h3 ?_ ?_ ?_
        · rw [hc1, ← Nat.add_assoc] at hnext
          have hq2 := pr_lt21 c (by omega) (cnt s.testBit p) (by omega) (by omega)
          have e := pr_tri (show cnt s.testBit p < c by omega)
          by_cases hz : outs (row m T p) s = 0
          · rw [show row m T p &&& (row m T p ^^^ s) = outs (row m T p) s from rfl, hz, if_pos (by rw [n_0])]
            rw [bs_skip (by rw [hGb, hz]; rfl)] at hnext
            exact hnext
          · rw [show row m T p &&& (row m T p ^^^ s) = outs (row m T p) s from rfl, if_neg (by rw [n_0, n_eq (Nat.lt_of_le_of_lt (outs_le _ _) (by omega)) (by omega)]; exact hz), c_pair _ (by omega) _ (by omega), Option.bind_some, lett_eq, n_1, pr_comm, e, n_shl (by omega), n_or]
            rw [bs_take (by rw [hGb]; exact bne_iff_ne.mpr hz)] at hnext
            exact hnext
        · intro j hj
          by_cases hti : t = i
          · subst hti
            rw [zI_other _ _ (Or.inr (by have := cnt_le s.testBit p; omega)), h4 j (by omega)]
          · rw [zI_other _ _ (Or.inl (by omega)), h4 j (by omega)]
        · intro j hj
          rw [hc1] at hj
          by_cases hjp : j = cnt s.testBit p
          · subst hjp; rw [zI_same, hsel, h4 p (Nat.le_refl _)]
          · rw [zI_other _ _ (Or.inr hjp), h5 j (by omega)]
        · intro a ha k
          rw [zI_other _ _ (Or.inl ha), h6 a ha k]
  obtain ⟨M2, a1, a2, a3, a4⟩ := loop (fun v6_21 v8_22 M23 =>
        if v8_22 ≥ 8 then (
          some M23)
        else (
          (zgR 2 M23 11 0).bind fun (y24 : Nat) =>
          (zlR M23 y24 (nI t)).bind fun (y25 : Nat) =>
          (zgI 2 M23 11 4).bind fun (y26 : Int32) =>
          (ztI M23 y25 v8_22 (10 + y26)).bind fun (M27 : zM) =>
          (zgR 2 M27 11 1).bind fun (y28 : Nat) =>
          (ztI M27 y28 (nI t) (v8_22 + 1)).bind fun (M29 : zM) =>
          (zgR 2 M29 11 2).bind fun (y30 : Nat) =>
          (ztI M29 y30 (nI t) v6_21).bind fun (M31 : zM) =>
          some M31)) m 0 FU M (by omega) (FU_gt (by omega)) rfl (fun _ _ => rfl) (fun j hj => by simp [cnt] at hj) (fun _ _ _ => rfl)
  have hC2 := zC2 a1 hC
  rw [n_0]
  rw [show cnt s.testBit 0 = 0 from rfl, Nat.add_zero] at a4
  rw [a4, hGe]
  rw [n_8, go (show c < 8 by omega) (by omega), gR_11_0 hC2, Option.bind_some, lR_12 hC2 ht, Option.bind_some, gI_11 hC2, Option.bind_some, a3 11 (by omega), hmk, show (10 : Int32) = nI 10 from by decide, n_add, t13 hC2 ht (by omega), Option.bind_some, gR_11_1 (by exact hC2), Option.bind_some, tI_21 (by exact hC2) ht, Option.bind_some, gR_11_2 (by exact hC2), Option.bind_some, tI_22 (by exact hC2) ht, Option.bind_some, inc]
  refine ⟨_, rfl, ⟨?_, ?_, ?_⟩, a1, ?_⟩
  · rw [zI_other _ _ (Or.inl (by decide)), zI_same]
    show _ = nI (selL s ks.length ks ++ [10 + marks]).length
    rw [List.length_append, selL, List.length_map, List.length_range, hk, ← hcd]; rfl
  · rw [zI_same]
    show _ = nI (cutT ks.length T s)
    rw [hk]
  · intro j hj
    rw [zI_other _ _ (Or.inl (by omega)), zI_other _ _ (Or.inl (by omega))]
    show _ = nI ((selL s ks.length ks ++ [10 + marks]).getD j 0)
    have hlen : (selL s ks.length ks).length = c := by rw [selL, List.length_map, List.length_range, hk, ← hcd]
    have hj' : j < c + 1 := by
      have : (selL s ks.length ks ++ [10 + marks]).length = c + 1 := by rw [List.length_append, hlen]; rfl
      rw [← this]; exact hj
    by_cases hjc : j = c
    · subst hjc
      rw [zI_same]
      simp [List.getD, List.getElem?_append_right, hlen]
    · rw [zI_other _ _ (Or.inr hjc), a2 j (by omega)]
      have hsl := sel_lt (f := s.testBit) (n := m) (i := j) (by rw [← hcd]; omega)
      rw [p3 _ hsl]
      have : j < (selL s ks.length ks).length := by rw [hlen]; omega
      rw [getD_app_l this, hk, selL_get (by omega)]
  · intro a k ⟨h1, h2, h3⟩
    rw [zI_other _ _ (by by_cases q : a = 22; exact Or.inr (fun z => h3 ⟨q, z⟩); exact Or.inl q), zI_other _ _ (by by_cases q : a = 21; exact Or.inr (fun z => h2 ⟨q, z⟩); exact Or.inl q), zI_other _ _ (Or.inl h1), a3 a h1 k]
def q0 : Pc := ([], 0)
def PsH (ps : List Pc) (marks : Nat) (M : zM) : Prop := zI M 11 3 = nI ps.length ∧ zI M 11 4 = nI marks ∧ ∀ i, i < ps.length → PcH i (ps.getD i q0) M
def elsL (s n : Nat) : List Nat := (List.range (cnt s.testBit n)).map (sel s.testBit n)
def okP (q : Pc) : Prop := q.1.length < 8 ∧ q.2 < 2 ^ tri q.1.length
abbrev at11 : Nat → Prop := fun a => a = 11 ∨ (13 ≤ a ∧ a ≤ 22)
theorem PcH_other {i : Nat} {q : Pc} {M M' : zM} (h : PcH i q M) (h1 : zI M' 21 i = zI M 21 i) (h2 : zI M' 22 i = zI M 22 i) (h3 : ∀ k, zI M' (13 + i) k = zI M (13 + i) k) : PcH i q M' :=
  ⟨h1.trans h.1, h2.trans h.2.1, fun j hj => (h3 j).trans (h.2.2 j hj)⟩
theorem getD_app_r {α : Type} {l : List α} {x d : α} : (l ++ [x]).getD l.length d = x := by simp [List.getD]
theorem elsL_len (s n : Nat) : (elsL s n).length = cnt s.testBit n := by simp [elsL]
theorem elsL_get {s n j : Nat} (h : j < cnt s.testBit n) : (elsL s n).getD j 0 = sel s.testBit n j := by
  simp [elsL, List.getD, List.getElem?_map, List.getElem?_range h]
theorem c_begin {n L s marks : Nat} {ps : List Pc} {M : zM} (hn : n < 8) (hL : L < 2 ^ tri n) (hs : s < 2 ^ n) (hl : ps.length < 8) (hC : zC M) (hP : PsH ps marks M) :
    ∃ M', fp_X3_begin 11 (nI n) (nI L) (nI s) M = some M' ∧ Fc at11 M M' ∧ PsH (ps ++ [(elsL s n, part n L s)]) marks M' := by
  obtain ⟨p1, p2, p3⟩ := hP
  have h128 := lt128 hn hs
  unfold fp_X3_begin
  rw [ts_11 hC, gI_11 hC, Option.bind_some, p1, n_8, if_pos (by rw [n_lt (by omega) (by omega)]; exact hl), n_0]
  obtain ⟨t, ht⟩ : ∃ t, t = ps.length := ⟨_, rfl⟩
  rw [← ht] at hl p1 p3
  have loop : ∀ (K : Int32 → zM → Option zM) d p f M1, p + d = n → d < f → M1.2 = M.2 → (∀ j, j < cnt s.testBit p → zI M1 (13 + t) j = nI (sel s.testBit n j)) → (∀ a, a ≠ 13 + t → ∀ k, zI M1 a k = zI M a k) →
      ∃ M2, M2.2 = M.2 ∧ (∀ j, j < cnt s.testBit n → zI M2 (13 + t) j = nI (sel s.testBit n j)) ∧ (∀ a, a ≠ 13 + t → ∀ k, zI M2 a k = zI M a k) ∧ fp_X3_begin_L16 K 11 (nI n) (nI L) (nI s) f (nI (cnt s.testBit p)) (nI p) M1 = K (nI (cnt s.testBit n)) M2 := by
    intro K d
    induction d with
    | zero =>
      intro p f M1 h1 h2 h3 h4 h5
      obtain ⟨f, rfl⟩ : ∃ g, f = g + 1 := ⟨f - 1, by omega⟩
      have : p = n := by omega
      subst this
      exact ⟨M1, h3, h4, h5, by rw [fp_X3_begin_L16, stp]⟩
    | succ d ih =>
      intro p f M1 h1 h2 h3 h4 h5
      obtain ⟨f, rfl⟩ : ∃ g, f = g + 1 := ⟨f - 1, by omega⟩
      have hp : p < n := by omega
      have hcp := cnt_le s.testBit p
      have hC1 := zC2 h3 hC
      rw [fp_X3_begin_L16, go hp (by omega), c_isIn (by omega) (by omega), Option.bind_some, zjn_eq, inc]
      dsimp only
      cases hb : s.testBit p with
      | false =>
        rw [ifF]
        have hc1 : cnt s.testBit (p + 1) = cnt s.testBit p := by simp [cnt, hb]
        have := ih (p + 1) f M1 (by omega) (by omega) h3 (by rw [hc1]; exact h4) h5
        rw [hc1] at this
        exact this
      | true =>
        have hc1 : cnt s.testBit (p + 1) = cnt s.testBit p + 1 := by simp [cnt, hb]
        rw [ifT, n_8, go (show cnt s.testBit p < 8 by omega) (by omega), gR_11_0 hC1, Option.bind_some, gI_11 hC1, Option.bind_some, h5 11 (by omega), p1, lR_12 hC1 hl, Option.bind_some, t13 hC1 hl (by omega), Option.bind_some, inc]
        have := ih (p + 1) f (zsI M1 (13 + t) (cnt s.testBit p) (nI p)) (by omega) (by omega) h3 ?_ ?_
        · rw [hc1] at this; exact this
        · intro j hj
          rw [hc1] at hj
          by_cases hjp : j = cnt s.testBit p
          · subst hjp; rw [zI_same, sel_at hp hb]
          · rw [zI_other _ _ (Or.inr hjp), h4 j (by omega)]
        · intro a ha k
          rw [zI_other _ _ (Or.inl ha), h5 a ha k]
  obtain ⟨M2, a1, a2, a3, a4⟩ := loop (fun v4_9 M10 =>
          (zgR 2 M10 11 1).bind fun (y11 : Nat) =>
          (zgI 2 M10 11 3).bind fun (y12 : Int32) =>
          (ztI M10 y11 y12 v4_9).bind fun (M13 : zM) =>
          (zgR 2 M13 11 2).bind fun (y14 : Nat) =>
          (zgI 2 M13 11 3).bind fun (y15 : Int32) =>
          (fp_X2_part (nI n) (nI L) (nI s)).bind fun (y16 : Int32) =>
          (ztI M13 y14 y15 y16).bind fun (M17 : zM) =>
          (zgI 2 M17 11 3).bind fun (y18 : Int32) =>
          (zpI 2 M17 11 3 (y18 + 1)).bind fun (M19 : zM) =>
          some M19) n 0 FU M (by omega) (FU_gt (by omega)) rfl (fun j hj => by simp [cnt] at hj) (fun _ _ _ => rfl)
  have hC2 := zC2 a1 hC
  have hc8 := cnt_le s.testBit n
  rw [show cnt s.testBit 0 = 0 from rfl] at a4
  rw [a4, gR_11_1 hC2, Option.bind_some, gI_11 hC2, Option.bind_some, a3 11 (by omega), p1, tI_21 hC2 hl, Option.bind_some, gR_11_2 (by exact hC2), Option.bind_some, gI_11 (by exact hC2), Option.bind_some, zI_other _ _ (Or.inl (by decide)), a3 11 (by omega), p1, c_part hn (by omega) hL, Option.bind_some, tI_22 (by exact hC2) hl, Option.bind_some, gI_11 (by exact hC2), Option.bind_some, zI_other _ _ (Or.inl (by decide)), zI_other _ _ (Or.inl (by decide)), a3 11 (by omega), p1, pI_11 (by exact hC2), Option.bind_some, inc]
  refine ⟨_, rfl, ⟨a1, fun a ha => ?_⟩, ?_, ?_, ?_⟩
  · funext k
    have : ¬ (a = 11 ∨ (13 ≤ a ∧ a ≤ 22)) := ha
    show zI _ a k = zI M a k
    rw [zI_other _ _ (Or.inl (by omega)), zI_other _ _ (Or.inl (by omega)), zI_other _ _ (Or.inl (by omega)), a3 a (by omega)]
  · rw [zI_same, List.length_append, ← ht]; rfl
  · rw [zI_other _ _ (Or.inr (by decide)), zI_other _ _ (Or.inl (by decide)), zI_other _ _ (Or.inl (by decide)), a3 11 (by omega), p2]
  · intro i hi
    rw [List.length_append, List.length_singleton] at hi
    by_cases hit : i = t
    · subst hit
      rw [ht, getD_app_r, ← ht]
      refine ⟨?_, ?_, ?_⟩
      · rw [zI_other _ _ (Or.inl (by decide)), zI_other _ _ (Or.inl (by decide)), zI_same, elsL_len]
      · rw [zI_other _ _ (Or.inl (by decide)), zI_same]
      · intro j hj
        have hj' : j < cnt s.testBit n := by rw [← elsL_len]; exact hj
        rw [zI_other _ _ (Or.inl (by omega)), zI_other _ _ (Or.inl (by omega)), zI_other _ _ (Or.inl (by omega)), a2 j hj', elsL_get hj']
    · rw [getD_app_l (by omega)]
      refine PcH_other (p3 i (by omega)) ?_ ?_ ?_
      · rw [zI_other _ _ (Or.inl (by decide)), zI_other _ _ (Or.inl (by decide)), zI_other _ _ (Or.inr hit), a3 21 (by omega)]
      · rw [zI_other _ _ (Or.inl (by decide)), zI_other _ _ (Or.inr hit), zI_other _ _ (Or.inl (by decide)), a3 22 (by omega)]
      · intro k
        rw [zI_other _ _ (Or.inl (by omega)), zI_other _ _ (Or.inl (by omega)), zI_other _ _ (Or.inl (by omega)), a3 (13 + i) (by omega)]
/-- the first of them that has a split, and that -/
def fstSp : List Pc → Option (Nat × Nat)
  | [] => none
  | q :: ps => match spl q.1.length q.2 with
    | s :: _ => some (0, s)
    | [] => (fstSp ps).map fun r => (r.1 + 1, r.2)
def takeP (ps : List Pc) (mark : Nat) : Option (List Pc) := (fstSp ps).map fun r => (ps.set r.1 (cutP (ps.getD r.1 q0) r.2 mark)) ++ [cutP (ps.getD r.1 q0) ((1 <<< (ps.getD r.1 q0).1.length - 1) ^^^ r.2) mark]
theorem fstSp_some {ps : List Pc} {i s : Nat} (h : fstSp ps = some (i, s)) : i < ps.length ∧ (spl (ps.getD i q0).1.length (ps.getD i q0).2).head? = some s ∧ ∀ j, j < i → spl (ps.getD j q0).1.length (ps.getD j q0).2 = [] := by
  induction ps generalizing i s with
  | nil => simp [fstSp] at h
  | cons q ps ih =>
    rw [fstSp] at h
    cases hs : spl q.1.length q.2 with
    | cons a t =>
      rw [hs] at h
      simp only [Option.some.injEq, Prod.mk.injEq] at h
      obtain ⟨rfl, rfl⟩ := h
      exact ⟨by simp, by simp [hs], fun j hj => by omega⟩
    | nil =>
      rw [hs] at h
      simp only [Option.map_eq_some_iff] at h
      obtain ⟨⟨i', s'⟩, h1, h2⟩ := h
      simp only [Prod.mk.injEq] at h2
      obtain ⟨rfl, rfl⟩ := h2
      obtain ⟨a1, a2, a3⟩ := ih h1
      refine ⟨by simp; omega, by simpa using a2, fun j hj => ?_⟩
      cases j with
      | zero => simpa using hs
      | succ j => simpa using a3 j (by omega)
theorem fstSp_none {ps : List Pc} (h : fstSp ps = none) : ∀ j, j < ps.length → spl (ps.getD j q0).1.length (ps.getD j q0).2 = [] := by
  induction ps with
  | nil => intro j hj; simp at hj
  | cons q ps ih =>
    rw [fstSp] at h
    cases hs : spl q.1.length q.2 with
    | cons a t => rw [hs] at h; cases h
    | nil =>
      rw [hs] at h
      simp only [Option.map_eq_none_iff] at h
      intro j hj
      cases j with
      | zero => simpa using hs
      | succ j => simpa using ih h j (by simpa using hj)
theorem cnt_compl {n s : Nat} : cnt ((1 <<< n - 1) ^^^ s).testBit n + cnt s.testBit n = n := by
  have : ∀ m, m ≤ n → cnt ((1 <<< n - 1) ^^^ s).testBit m + cnt s.testBit m = m := by
    intro m
    induction m with
    | zero => intro _; rfl
    | succ m ih =>
      intro hm
      have := ih (by omega)
      simp only [cnt, Nat.testBit_xor, all_tb]
      have h1 : m < n := by omega
      rw [decide_eq_true h1]
      cases s.testBit m <;> simp <;> omega
  exact this n (Nat.le_refl _)
/-- how a split parts a piece -/
theorem isSp_cnt {n L s : Nat} (hn : n < 8) (hs : s < 2 ^ n) (h : isSp n L s = true) : 2 ≤ cnt s.testBit n ∧ cnt s.testBit n + 2 ≤ n ∧ rk n L s = 1 := by
  unfold isSp at h
  simp only [Bool.and_eq_true, decide_eq_true_eq, beq_iff_eq] at h
  rw [pc_of hs (by omega)] at h
  omega
theorem head_sp {n L s : Nat} (h : (spl n L).head? = some s) : s < 2 ^ n ∧ isSp n L s = true ∧ s % 2 = 1 := by
  have hm : s ∈ spl n L := List.mem_of_head? h
  exact ⟨spl_lt hm, (oddl_mem.mp hm).2.2, (oddl_mem.mp hm).2.1⟩
theorem c_take {ps : List Pc} {marks : Nat} {M : zM} (hl : ps.length < 8) (hok : ∀ q ∈ ps, okP q) (hC : zC M) (hP : PsH ps marks M) :
    ∃ M', fp_X3_takeOneApart 11 M = some (bI (takeP ps (10 + marks)).isSome, M') ∧ Fc at11 M M' ∧ PsH ((takeP ps (10 + marks)).getD ps) marks M' := by
  obtain ⟨p1, p2, p3⟩ := hP
  unfold fp_X3_takeOneApart
  rw [ts_11 hC]
  have loop : ∀ (K : Int32 → Int32 → Option (Int32 × zM)) d p f, p + d = ps.length → d < f → (∀ j, j < p → spl (ps.getD j q0).1.length (ps.getD j q0).2 = []) →
      fp_X3_takeOneApart_L2 K 11 M f (nI p) = match fstSp ps with
        | none => some (0, M)
        | some r => K (nI r.1) (nI r.2) := by
    intro K d
    induction d with
    | zero =>
      intro p f h1 h2 h3
      obtain ⟨f, rfl⟩ : ∃ g, f = g + 1 := ⟨f - 1, by omega⟩
      have : p = ps.length := by omega
      subst this
      rw [fp_X3_takeOneApart_L2, gI_11 hC, Option.bind_some, p1, stp]
      cases hf : fstSp ps with
      | none => rfl
      | some r =>
        obtain ⟨a1, a2, a3⟩ := fstSp_some hf
        rw [h3 _ a1] at a2; cases a2
    | succ d ih =>
      intro p f h1 h2 h3
      obtain ⟨f, rfl⟩ : ∃ g, f = g + 1 := ⟨f - 1, by omega⟩
      have hp : p < ps.length := by omega
      have hq : okP (ps.getD p q0) := hok _ (by simp [List.getD, List.getElem?_eq_getElem hp])
      rw [fp_X3_takeOneApart_L2, gI_11 hC, Option.bind_some, p1, go hp (by omega), Option.bind_some, n_8, go hl (by omega), gR_11_1 hC, Option.bind_some, lI_21 hC (by omega), Option.bind_some, gR_11_2 hC, Option.bind_some, lI_22 hC (by omega), Option.bind_some, (p3 p hp).1, (p3 p hp).2.1, c_firstOf hq.1 hq.2, Option.bind_some]
      have h128 := two_pow7 hq.1
      have hhl := head_lt (n := (ps.getD p q0).1.length) (L := (ps.getD p q0).2)
      by_cases hz : (spl (ps.getD p q0).1.length (ps.getD p q0).2).headD 0 = 0
      · rw [hz, if_pos (by rw [n_0]), inc]
        rw [spl_head] at hz
        refine ih (p + 1) f (by omega) (by omega) fun j hj => ?_
        by_cases hjp : j = p
        · subst hjp; simpa using hz
        · exact h3 j (by omega)
      · rw [if_neg (by rw [n_0, n_eq (by omega) (by omega)]; exact hz)]
        cases hf : fstSp ps with
        | none =>
          rw [fstSp_none hf p hp] at hz
          exact absurd rfl hz
        | some r =>
          obtain ⟨a1, a2, a3⟩ := fstSp_some hf
          have hrp : r.1 = p := by
            by_cases q1 : r.1 < p
            · rw [h3 _ q1] at a2; cases a2
            · by_cases q2 : p < r.1
              · rw [a3 p q2] at hz; exact absurd rfl hz
              · omega
          rw [hrp] at a2
          cases hs : spl (ps.getD p q0).1.length (ps.getD p q0).2 with
          | nil => rw [hs] at a2; cases a2
          | cons x t =>
            rw [hs] at a2
            have : x = r.2 := by simpa using a2
            simp only [hrp, List.headD_cons, this]
  rw [n_0, loop _ ps.length 0 FU (by omega) (FU_gt (by omega)) (fun j hj => by omega)]
  unfold takeP
  cases hf : fstSp ps with
  | none => exact ⟨M, by simp [bI, n_0], Fc_refl, p1, p2, p3⟩
  | some r =>
    obtain ⟨a1, a2, -⟩ := fstSp_some hf
    obtain ⟨i, s⟩ := r
    dsimp only at a1 a2 ⊢
    have hq : okP (ps.getD i q0) := hok _ (by simp [List.getD, List.getElem?_eq_getElem a1])
    obtain ⟨hs1, hs2, -⟩ := head_sp a2
    obtain ⟨b1, b2, -⟩ := isSp_cnt hq.1 hs1 hs2
    obtain ⟨⟨ks, T⟩, hqe⟩ : ∃ q, ps.getD i q0 = q := ⟨_, rfl⟩
    rw [hqe] at hq hs1 b1 b2
    have hPi := p3 i a1
    rw [hqe] at hPi
    dsimp only at hq hs1 b1 b2
    simp only [Option.map_some, Option.getD_some, Option.isSome_some, hqe]
    have hall : (1 <<< ks.length - 1) ^^^ s < 2 ^ ks.length := xor_lt (by rw [all_eq]; have := Nat.two_pow_pos ks.length; omega) hs1
    have hcc := cnt_compl (n := ks.length) (s := s)
    have hk7 : ks.length < 8 := hq.1
    obtain ⟨M1, c1, c2, c3, c4⟩ := c_cut (m := ks.length) (marks := marks) hq.1 hall hq.2 rfl (by omega) (show i < 8 by omega) hl p2 hC hPi
    have hC1 := zC2 c3 hC
    have hPi1 : PcH i (ks, T) M1 := PcH_other hPi (c4 _ _ ⟨by omega, by omega, by omega⟩) (c4 _ _ ⟨by omega, by omega, by omega⟩) (fun k => c4 _ _ ⟨by omega, by omega, by omega⟩)
    obtain ⟨M2, d1, d2, d3, d4⟩ := c_cut (m := ks.length) (marks := marks) hq.1 hs1 hq.2 rfl (by omega) (show i < 8 by omega) (show i < 8 by omega) (by rw [c4 _ _ ⟨by omega, by omega, by omega⟩]; exact p2) hC1 hPi1
    have hC2 := zC2 d3 hC1
    rw [gR_11_1 hC, Option.bind_some, lI_21 hC (by omega), Option.bind_some, hPi.1, c_everyPoint ks.length (by omega), Option.bind_some, gI_11 hC, Option.bind_some, p1, n_xor, c1, Option.bind_some, d1, Option.bind_some, gI_11 hC2, Option.bind_some, d4 _ _ ⟨by omega, by omega, by omega⟩, c4 _ _ ⟨by omega, by omega, by omega⟩, p1, pI_11 hC2, Option.bind_some, inc]
    refine ⟨_, rfl, ⟨d3.trans c3, fun a ha => ?_⟩, ?_, ?_, ?_⟩
    · funext k
      have ha' : ¬ (a = 11 ∨ (13 ≤ a ∧ a ≤ 22)) := ha
      show zI _ a k = zI M a k
      rw [zI_other _ _ (Or.inl (by omega)), d4 _ _ ⟨by omega, by omega, by omega⟩, c4 _ _ ⟨by omega, by omega, by omega⟩]
    · rw [zI_same]
      show _ = nI (List.length (_ ++ _))
      rw [List.length_append, List.length_set]; rfl
    · rw [zI_other _ _ (Or.inr (by decide)), d4 _ _ ⟨by omega, by omega, by omega⟩, c4 _ _ ⟨by omega, by omega, by omega⟩, p2]
    · intro j hj
      have hj' : j < ps.length + 1 := by
        have : ((ps.set i (cutP (ks, T) s (10 + marks))) ++ [cutP (ks, T) ((1 <<< ks.length - 1) ^^^ s) (10 + marks)]).length = ps.length + 1 := by rw [List.length_append, List.length_set]; rfl
        rw [← this]; exact hj
      show PcH j (List.getD ((ps.set i (cutP (ks, T) s (10 + marks))) ++ [cutP (ks, T) ((1 <<< ks.length - 1) ^^^ s) (10 + marks)]) j q0) _
      have up11 : ∀ q, PcH j q M2 → PcH j q (zsI M2 11 3 (nI (ps.length + 1))) := fun q h => PcH_other h (zI_other _ _ (Or.inl (by decide))) (zI_other _ _ (Or.inl (by decide))) (fun k => zI_other _ _ (Or.inl (by omega)))
      apply up11
      by_cases hjl : j = ps.length
      · subst hjl
        have e : (ps.set i (cutP (ks, T) s (10 + marks))).length = ps.length := List.length_set
        have e2 := getD_app_r (l := ps.set i (cutP (ks, T) s (10 + marks))) (x := cutP (ks, T) ((1 <<< ks.length - 1) ^^^ s) (10 + marks)) (d := q0)
        rw [e] at e2
        rw [e2]
        exact PcH_other c2 (d4 _ _ ⟨by omega, by omega, by omega⟩) (d4 _ _ ⟨by omega, by omega, by omega⟩) (fun k => d4 _ _ ⟨by omega, by omega, by omega⟩)
      · rw [getD_app_l (by rw [List.length_set]; omega)]
        by_cases hji : j = i
        · subst hji
          rw [show (ps.set j (cutP (ks, T) s (10 + marks))).getD j q0 = cutP (ks, T) s (10 + marks) from by simp [List.getD, a1]]
          exact d2
        · rw [show (ps.set i (cutP (ks, T) s (10 + marks))).getD j q0 = ps.getD j q0 from by simp [List.getD, List.getElem?_set_ne (fun q => hji q.symm)]]
          exact PcH_other (PcH_other (p3 j (by omega)) (c4 _ _ ⟨by omega, by omega, by omega⟩) (c4 _ _ ⟨by omega, by omega, by omega⟩) (fun k => c4 _ _ ⟨by omega, by omega, by omega⟩)) (d4 _ _ ⟨by omega, by omega, by omega⟩) (d4 _ _ ⟨by omega, by omega, by omega⟩) (fun k => d4 _ _ ⟨by omega, by omega, by omega⟩)

/-! ===== 89: the reference: a word that is looked at ===== -/
theorem L64 {M : zM} (h : zC M) : zL M 64 = 14 := h.2.2 (64, 14) (by decide +kernel)
theorem L67 {M : zM} (h : zC M) : zL M 67 = 14 := h.2.2 (67, 14) (by decide +kernel)
theorem L68 {M : zM} (h : zC M) : zL M 68 = 14 := h.2.2 (68, 14) (by decide +kernel)
theorem AN_of {M : zM} {a : Nat} {w : List Nat} (hC : zC M) (ha : a = 64 ∨ a = 67 ∨ a = 68) (hl : w.length ≤ 14) (h : ∀ i, i < w.length → zI M a i = nI (w.getD i 0)) : AN M a w := by
  rcases ha with rfl | rfl | rfl
  · exact ⟨zC_lt hC (by decide), rfl, by rw [L64 hC]; exact hl, by rw [L64 hC]; decide, h⟩
  · exact ⟨zC_lt hC (by decide), rfl, by rw [L67 hC]; exact hl, by rw [L67 hC]; decide, h⟩
  · exact ⟨zC_lt hC (by decide), rfl, by rw [L68 hC]; exact hl, by rw [L68 hC]; decide, h⟩
theorem y_length {n L : Nat} {M : zM} (hC : zC M) (h : NrH n L M) : fp_X11_length 46 M = some (nI (2 * n)) := by
  unfold fp_X11_length
  rw [ts_46 hC, gI_46 hC, Option.bind_some, h.1, n_2, n_mul]
theorem y_between {M : zM} {a i j q : Nat} {l : List Nat} (h : AN M a l) (hij : i + 1 ≤ j) (hj : j ≤ l.length) (he : ∀ z ∈ l, z < 2 ^ 32) (hq : q < 2 ^ 32) : fp_X11_between a (nI i) (nI j) (nI q) M = some (nI (((l.drop (i + 1)).take (j - (i + 1))).count q)) := by
  unfold fp_X11_between
  have hl := AN_lt h
  rw [lett_eq, inc]
  refine Eq.trans (b := fp_X11_between_L8 a (nI j) (nI q) M FU (nI (((l.drop (i + 1)).take (i + 1 - (i + 1))).count q)) (nI (i + 1))) (by rw [Nat.sub_self, List.take_zero, List.count_nil, n_0]) ?_
  refine up (P := fun k f => fp_X11_between_L8 a (nI j) (nI q) M f (nI (((l.drop (i + 1)).take (k - (i + 1))).count q)) (nI k) = some (nI (((l.drop (i + 1)).take (j - (i + 1))).count q))) (a := i + 1) (n := j) ?_ ?_ FU hij (FU_gt (by omega))
  · intro f
    rw [fp_X11_between_L8, stp]
  · intro k f hik hk ih
    have hkl : k < l.length := by omega
    rw [fp_X11_between_L8, go hk (by omega), AN_l h hkl, Option.bind_some, zjn_eq, inc]
    have hg : (l.drop (i + 1)).getD (k - (i + 1)) 0 = l.getD k 0 := by
      simp only [List.getD, List.getElem?_drop]
      rw [show i + 1 + (k - (i + 1)) = k by omega]
    have e : (l.drop (i + 1)).take (k + 1 - (i + 1)) = (l.drop (i + 1)).take (k - (i + 1)) ++ [l.getD k 0] := by
      rw [show k + 1 - (i + 1) = k - (i + 1) + 1 by omega, tk (by rw [List.length_drop]; omega), hg]
    rw [e, List.count_append] at ih
    dsimp only
    by_cases hx : l.getD k 0 = q
    · rw [hx, if_neg (fun z => z rfl), lett_eq, inc]
      rw [hx, List.count_singleton_self] at ih; exact ih
    · rw [if_pos (by rw [ne_eq, n_eq32 (he _ (getD_mem hkl)) hq]; exact hx), lett_eq, n_0, n_add]
      rw [List.count_singleton, if_neg (by simpa using hx)] at ih; exact ih
def cwB (n L p : Nat) (B : List Nat) : Bool := (List.range n).all fun q => q == p || ((B.count q == 1) == adj L p q)
theorem seg_B (A B : List Nat) (p : Nat) : ((A ++ p :: B).drop (A.length + 1)).take ((A ++ p :: B).length - (A.length + 1)) = B := by
  have e : A ++ p :: B = (A ++ [p]) ++ B := by simp
  have h1 : (A ++ p :: B).drop (A.length + 1) = B := by rw [e]; exact List.drop_left' (by simp)
  rw [h1]
  exact List.take_of_length_le (by rw [List.length_append, List.length_cons]; omega)
theorem y_closesWell {n L p : Nat} {A B : List Nat} {M : zM} (hC : zC M) (hN : NrH n L M) (hn : n < 8) (hp : p < n) (hA : AN M 64 (A ++ p :: B)) (he : ∀ z ∈ A ++ p :: B, z < 2 ^ 32) (hf : zI M 66 p = nI A.length) :
    fp_X11_closesWell 46 (nI p) (nI (A ++ p :: B).length) M = some (bI (cwB n L p B)) := by
  unfold fp_X11_closesWell
  rw [ts_46 hC, n_0]
  let G : Nat → Bool := fun q => q == p || ((B.count q == 1) == adj L p q)
  refine up (P := fun i f => (∀ q, q < i → G q = true) → fp_X11_closesWell_L2 46 (nI p) (nI (A ++ p :: B).length) M f (nI i) = some (bI (cwB n L p B))) (a := 0) (n := n) ?_ ?_ FU (by omega) (FU_gt (by omega)) (fun q hq => absurd hq (Nat.not_lt_zero _))
  · intro f hG
    have : cwB n L p B = true := by
      unfold cwB
      rw [List.all_eq_true]
      exact fun q hq => hG q (List.mem_range.mp hq)
    rw [fp_X11_closesWell_L2, gI_46 hC, Option.bind_some, hN.1, stp, this]; rfl
  · intro i f _ hi ih hG
    have nx : G i = true → fp_X11_closesWell_L2 46 (nI p) (nI (A ++ p :: B).length) M f (nI (i + 1)) = some (bI (cwB n L p B)) := fun hg => ih fun q hq => by
      by_cases hqi : q = i
      · rw [hqi]; exact hg
      · exact hG q (by omega)
    have no : G i = false → some (0 : Int32) = some (bI (cwB n L p B)) := fun hg => by
      have : cwB n L p B = false := by
        unfold cwB
        rw [List.all_eq_false]
        exact ⟨i, List.mem_range.mpr hi, by rw [show (i == p || ((B.count i == 1) == adj L p i)) = false from hg]; decide⟩
      rw [this]; rfl
    rw [fp_X11_closesWell_L2, gI_46 hC, Option.bind_some, hN.1, go hi (by omega), zjn_eq, inc]
    by_cases hip : i = p
    · rw [if_pos (by rw [hip])]
      exact nx (by show (i == p || _) = true; rw [hip, beq_self_eq_true]; rfl)
    · have hGi : G i = ((B.count i == 1) == adj L p i) := by
        show (i == p || _) = _
        have : (i == p) = false := by simpa using hip
        rw [this, Bool.false_or]
      have hbt := y_between (i := A.length) (j := (A ++ p :: B).length) (q := i) hA (by rw [List.length_append, List.length_cons]; omega) (Nat.le_refl _) he (by omega)
      rw [seg_B] at hbt
      have hcl : B.count i < 2 ^ 31 := by
        have h1 := List.count_le_length (a := i) (l := B)
        have h2 := AN_lt hA
        rw [List.length_append, List.length_cons] at h2
        omega
      have post : ∀ s6 : Int32, ((zgR 9 M 46 2).bind fun (y7 : Nat) =>
                (zlI 100 M y7 (nI p)).bind fun (y8 : Int32) =>
                (fp_X11_has y8 (nI i)).bind fun (y9 : Int32) =>
                if s6 = y9 then (
                  fp_X11_closesWell_L2 46 (nI p) (nI (A ++ p :: B).length) M f (nI (i + 1)))
                else (
                  some 0)) = if s6 = bI (adj L p i) then fp_X11_closesWell_L2 46 (nI p) (nI (A ++ p :: B).length) M f (nI (i + 1)) else some 0 := fun s6 => by
        rw [gR_46_2 hC, Option.bind_some, lI_47 hC (show p < 8 by omega), Option.bind_some, hN.2 p hp, y_has1 (lt128 hn (row_lt _ _ _)) (by omega), Option.bind_some, row_tb, decide_eq_true hi, Bool.true_and]
      rw [if_neg (by rw [n_eq (by omega) (by omega)]; exact hip), gR_46_31 hC, Option.bind_some, gR_46_33 hC, Option.bind_some, lI_66 hC (show p < 8 by omega), Option.bind_some, hf, hbt, Option.bind_some, zjn_eq]
      dsimp only
      rw [post, post]
      by_cases h1 : B.count i = 1
      · rw [h1, if_neg (show ¬ nI 1 ≠ 1 by decide)]
        rw [h1] at hGi
        cases hA2 : adj L p i with
        | false => rw [b_ff, if_neg (by decide)]; exact no (by rw [hGi, hA2]; rfl)
        | true => rw [b_tt, if_pos rfl]; exact nx (by rw [hGi, hA2]; rfl)
      · rw [if_pos (show nI (B.count i) ≠ 1 by rw [n_1, ne_eq, n_eq hcl (by decide)]; exact h1)]
        have e : (B.count i == 1) = false := by simpa using h1
        rw [e] at hGi
        cases hA2 : adj L p i with
        | false => rw [b_ff, if_pos rfl]; exact nx (by rw [hGi, hA2]; rfl)
        | true => rw [b_tt, if_neg (by decide)]; exact no (by rw [hGi, hA2]; rfl)
/-! readings -/
theorem rd_ix : ∀ m, m < 15 → ∀ s, s < m → ∀ k, k < m → ∀ w : Bool, zrm ((nI s + (stI w * nI k)) + (nI m * nI m)) (nI m) = some (nI (rix m s w k)) := by decide +kernel
theorem y_read {M : zM} {a s k : Nat} {w : Bool} {l : List Nat} (h : AN M a l) (h15 : l.length < 15) (hs : s < l.length) (hk : k < l.length) : fp_X11_read a (nI l.length) (nI s) (stI w) (nI k) M = some (nI ((rdg l s w).getD k 0)) := by
  unfold fp_X11_read
  rw [rd_ix _ h15 s hs k hk w, Option.bind_some, AN_l h (rix_lt hs hk), Option.bind_some, rdg_get hk]
theorem y_isLessRead {M : zM} {a s s0 : Nat} {w w0 : Bool} {l : List Nat} (h : AN M a l) (h15 : l.length < 15) (he : ∀ z ∈ l, z < 2 ^ 31) (hs : s < l.length) (hs0 : s0 < l.length) : fp_X11_isLessRead a (nI l.length) (nI s) (stI w) (nI s0) (stI w0) M = some (bI (ltL (rdg l s w) (rdg l s0 w0))) := by
  unfold fp_X11_isLessRead
  rw [n_0]
  refine Eq.trans ?_ (show some (bI (ltL ((rdg l s w).drop 0) ((rdg l s0 w0).drop 0))) = _ from rfl)
  refine up (P := fun i f => fp_X11_isLessRead_L3 _ a (nI l.length) (nI s) (stI w) (nI s0) (stI w0) M f (nI i) = some (bI (ltL ((rdg l s w).drop i) ((rdg l s0 w0).drop i)))) (a := 0) (n := l.length) ?_ ?_ FU (by omega) (FU_gt (by omega))
  · intro f
    rw [fp_X11_isLessRead_L3, stp, List.drop_eq_nil_of_le (by rw [rdg_len]; exact Nat.le_refl _), List.drop_eq_nil_of_le (by rw [rdg_len]; exact Nat.le_refl _)]
    rfl
  · intro i f _ hi ih
    have g1 : (rdg l s w).getD i 0 < 2 ^ 31 := by rw [rdg_get hi]; exact he _ (getD_mem (rix_lt hs hi))
    have g2 : (rdg l s0 w0).getD i 0 < 2 ^ 31 := by rw [rdg_get hi]; exact he _ (getD_mem (rix_lt hs0 hi))
    rw [fp_X11_isLessRead_L3, go hi (by omega), y_read h h15 hs hi, Option.bind_some, y_read h h15 hs0 hi, Option.bind_some, ltL_step (by rw [rdg_len]; exact hi) (by rw [rdg_len]; exact hi), inc]
    by_cases hq : (rdg l s w).getD i 0 = (rdg l s0 w0).getD i 0
    · rw [if_pos (by rw [hq]), hq, beq_self_eq_true, decide_eq_false (Nat.lt_irrefl _), Bool.false_or, Bool.true_and]
      exact ih
    · have hb : ((rdg l s w).getD i 0 == (rdg l s0 w0).getD i 0) = false := by simpa using hq
      rw [if_neg (by rw [n_eq g1 g2]; exact hq), hb, Bool.false_and, Bool.or_false]
      by_cases hl : (rdg l s w).getD i 0 < (rdg l s0 w0).getD i 0
      · rw [if_neg (by rw [ge_iff_le, n_le g2 g1]; omega), decide_eq_true hl]; rfl
      · rw [if_pos (by rw [ge_iff_le, n_le g2 g1]; omega), decide_eq_false hl]; rfl
theorem rdg_0 {l : List Nat} (h : 0 < l.length) : rdg l 0 true = l := by rw [rdg_t h, List.drop_zero, List.take_zero, List.append_nil]
theorem y_isLeast {n L : Nat} {w : List Nat} {M : zM} (hC : zC M) (hN : NrH n L M) (hn : n < 8) (hn0 : 0 < n) (hA : AN M 64 w) (hV : Vw n L w) : fp_X11_isLeast 46 M = some (bI (lstB w)) := by
  unfold fp_X11_isLeast
  have hlen := hV.1.1
  have h31 : ∀ z ∈ w, z < 2 ^ 31 := fun z hz => by have := WD_lt hV.1 z hz; omega
  obtain ⟨B, C, e, hB, hCC⟩ := Vw_wd hn0 hV
  have hs : sec w = B.length + 1 := by rw [e, wd_sec hB]
  have hBC : w.length = B.length + C.length + 2 := by rw [e, wd_len]
  have zp : ∀ k, k < w.length → w.getD k 0 = 0 → k = 0 ∨ k = sec w := fun k hk h => by
    rw [hs]
    rw [e] at hk h
    exact zpos hB hCC hk h
  have z0 : w.getD 0 0 = 0 := by rw [e]; rfl
  have zs : w.getD (sec w) 0 = 0 := by
    rw [hs, e]
    unfold wd
    show (B ++ 0 :: C).getD B.length 0 = 0
    simp [List.getD]
  rw [ts_46 hC, y_length hC hN, Option.bind_some, ← hlen, n_0]
  let G : Nat → Bool := fun k => !(w.getD k 0 == 0) || (!ltL (rdg w k true) w && !ltL (rdg w k false) w)
  have r0 := rdg_0 (l := w) (by omega)
  refine up (P := fun i f => (∀ k, k < i → G k = true) → fp_X11_isLeast_L7 46 (nI w.length) M f (nI i) = some (bI (lstB w))) (a := 0) (n := w.length) ?_ ?_ FU (by omega) (FU_gt (by omega)) (fun q hq => absurd hq (Nat.not_lt_zero _))
  · intro f hG
    have g0 := hG 0 (by omega)
    have gs := hG (sec w) (by omega)
    have : lstB w = true := by
      unfold lstB
      have g0' : (!(w.getD 0 0 == 0) || (!ltL (rdg w 0 true) w && !ltL (rdg w 0 false) w)) = true := g0
      have gs' : (!(w.getD (sec w) 0 == 0) || (!ltL (rdg w (sec w) true) w && !ltL (rdg w (sec w) false) w)) = true := gs
      rw [z0, beq_self_eq_true, Bool.not_true, Bool.false_or, Bool.and_eq_true] at g0'
      rw [zs, beq_self_eq_true, Bool.not_true, Bool.false_or] at gs'
      rw [g0'.2, gs']; rfl
    rw [fp_X11_isLeast_L7, stp, this]; rfl
  · intro i f _ hi ih hG
    have nx : G i = true → fp_X11_isLeast_L7 46 (nI w.length) M f (nI (i + 1)) = some (bI (lstB w)) := fun hg => ih fun q hq => by
      by_cases hqi : q = i
      · rw [hqi]; exact hg
      · exact hG q (by omega)
    rw [fp_X11_isLeast_L7, go hi (by omega), gR_46_31 hC, Option.bind_some, AN_l hA hi, Option.bind_some, zjn_eq, inc]
    by_cases hz : w.getD i 0 = 0
    · have hGi : G i = (!ltL (rdg w i true) w && !ltL (rdg w i false) w) := by
        show (!(w.getD i 0 == 0) || _) = _
        rw [hz]; rfl
      have c1 := y_isLessRead (s := i) (w := true) (s0 := 0) (w0 := true) hA (by omega) h31 hi (by omega)
      have c2 := y_isLessRead (s := i) (w := false) (s0 := 0) (w0 := true) hA (by omega) h31 hi (by omega)
      rw [r0] at c1 c2
      have c1' : fp_X11_isLessRead 64 (nI w.length) (nI i) 1 (nI 0) 1 M = some (bI (ltL (rdg w i true) w)) := c1
      have c2' : fp_X11_isLessRead 64 (nI w.length) (nI i) (-1) (nI 0) 1 M = some (bI (ltL (rdg w i false) w)) := c2
      rw [hz, if_pos n_0.symm, Option.bind_some, n_0, c1', Option.bind_some, ← n_0]
      have no : G i = false → some (0 : Int32) = some (bI (lstB w)) := fun hg => by
        have : lstB w = false := by
          rw [hGi] at hg
          unfold lstB
          rcases zp i hi hz with q | q
          · rw [q, r0, ltL_irr, Bool.not_false, Bool.true_and] at hg
            rw [hg, Bool.false_and]
          · rw [q] at hg
            rw [hg, Bool.and_false]
        rw [this]; rfl
      cases h1 : ltL (rdg w i true) w with
      | true => rw [b_tt, if_pos (by decide)]; exact no (by rw [hGi, h1]; rfl)
      | false =>
        rw [b_ff, if_neg (by decide), Option.bind_some, n_0, c2', Option.bind_some, ← n_0]
        cases h2 : ltL (rdg w i false) w with
        | true => rw [b_tt, if_neg (by decide)]; exact no (by rw [hGi, h1, h2]; rfl)
        | false => rw [b_ff, if_pos rfl]; exact nx (by rw [hGi, h1, h2]; rfl)
    · have hlt := h31 _ (getD_mem hi)
      rw [if_neg (by rw [n_0, n_eq hlt (by decide)]; exact hz)]
      exact nx (by
        show (!(w.getD i 0 == 0) || _) = true
        have : (w.getD i 0 == 0) = false := by simpa using hz
        rw [this]; rfl)
/-! side by side, gaps, less -/
theorem zrm_n {a m : Nat} (ha : a < 2 ^ 31) (h0 : 0 < m) (hm : m < 2 ^ 31) : zrm (nI a) (nI m) = some (nI (a % m)) := by
  unfold zrm
  rw [if_neg (by rw [n_0, n_eq hm (by decide)]; omega), n_rem ha h0 hm]
theorem y_areBeside {n L x y : Nat} {w : List Nat} {M : zM} (hC : zC M) (hN : NrH n L M) (hn : n < 8) (hA : AN M 64 w) (hlen : w.length = 2 * n) (h7 : ∀ z ∈ w, z < 7) (hx : zI M 46 40 = nI x) (hy : zI M 46 41 = nI y) (hx7 : x < 7) (hy7 : y < 7) : fp_X11_areBeside 46 M = some (bI (besB w x y)) := by
  unfold fp_X11_areBeside
  rw [ts_46 hC, n_0]
  let G : Nat → Bool := fun k => prB x y (w.getD k 0) (w.getD (if k + 1 < w.length then k + 1 else 0) 0)
  refine up (P := fun i f => (∀ k, k < i → G k = false) → fp_X11_areBeside_L2 46 M f (nI i) = some (bI (besB w x y))) (a := 0) (n := w.length) ?_ ?_ FU (by omega) (FU_gt (by omega)) (fun q hq => absurd hq (Nat.not_lt_zero _))
  · intro f hG
    have : besB w x y = false := by
      unfold besB
      rw [List.any_eq_false]
      intro k hk
      have := hG k (List.mem_range.mp hk)
      rw [show prB x y (w.getD k 0) (w.getD (if k + 1 < w.length then k + 1 else 0) 0) = false from this]; decide
    rw [fp_X11_areBeside_L2, y_length hC hN, Option.bind_some, hlen, stp, this]; rfl
  · intro i f _ hi ih hG
    have hi2 : (if i + 1 < w.length then i + 1 else 0) < w.length := by split <;> omega
    have em : (i + 1) % (2 * n) = if i + 1 < w.length then i + 1 else 0 := by
      rw [← hlen]
      split
      · rename_i q; exact Nat.mod_eq_of_lt q
      · have : i + 1 = w.length := by omega
        rw [this, Nat.mod_self]
    have a1 := h7 _ (getD_mem hi)
    have a2 := h7 _ (getD_mem hi2)
    have nx : G i = false → fp_X11_areBeside_L2 46 M f (nI (i + 1)) = some (bI (besB w x y)) := fun hg => ih fun q hq => by
      by_cases hqi : q = i
      · rw [hqi]; exact hg
      · exact hG q (by omega)
    have yes : G i = true → some (1 : Int32) = some (bI (besB w x y)) := fun hg => by
      have : besB w x y = true := besB_iff.mpr ⟨i, hi, hg⟩
      rw [this]; rfl
    have hGi : G i = (((w.getD i 0) == x && (w.getD (if i + 1 < w.length then i + 1 else 0) 0) == y) || ((w.getD i 0) == y && (w.getD (if i + 1 < w.length then i + 1 else 0) 0) == x)) := rfl
    obtain ⟨u, hu⟩ : ∃ u, u = w.getD i 0 := ⟨_, rfl⟩
    obtain ⟨v, hv⟩ : ∃ v, v = w.getD (if i + 1 < w.length then i + 1 else 0) 0 := ⟨_, rfl⟩
    rw [← hu] at a1 hGi
    rw [← hv] at a2 hGi
    have g1 := AN_l hA hi
    have g2 := AN_l hA hi2
    rw [← hu] at g1
    rw [← hv] at g2
    have c40 : zgI 9 M 46 40 = some (nI x) := by rw [gI_46 hC, hx]
    have c41 : zgI 9 M 46 41 = some (nI y) := by rw [gI_46 hC, hy]
    rw [fp_X11_areBeside_L2, y_length hC hN, Option.bind_some, ← hlen, go hi (by omega), gR_46_31 hC, Option.bind_some, g1, Option.bind_some, Option.bind_some, Option.bind_some, inc, hlen, zrm_n (by omega) (by omega) (by omega), Option.bind_some, em, g2, Option.bind_some]
    simp only [c40, c41, zjn_eq, Option.bind_some]
    have second : (if nI u ≠ nI y then fp_X11_areBeside_L2 46 M f (nI (i + 1)) else if nI v ≠ nI x then fp_X11_areBeside_L2 46 M f (nI (i + 1)) else some 1) = some (bI (besB w x y)) ∨ (u = x ∧ v = y) := by
      by_cases q0 : u = x ∧ v = y
      · exact Or.inr q0
      · left
        have f0 : (u == x && v == y) = false := by
          cases h1 : (u == x) with
          | false => rfl
          | true =>
            cases h2 : (v == y) with
            | false => rfl
            | true => exact absurd ⟨by simpa using h1, by simpa using h2⟩ q0
        rw [f0, Bool.false_or] at hGi
        by_cases q1 : u = y
        · rw [if_neg (by rw [q1]; exact fun z => z rfl)]
          by_cases q2 : v = x
          · rw [if_neg (by rw [q2]; exact fun z => z rfl)]
            exact yes (by rw [hGi, q1, q2]; simp)
          · rw [if_pos (by rw [ne_eq, n_eq (by omega) (by omega)]; exact q2)]
            exact nx (by rw [hGi]; simp [q2])
        · rw [if_pos (by rw [ne_eq, n_eq (by omega) (by omega)]; exact q1)]
          exact nx (by rw [hGi]; simp [q1])
    by_cases q0 : u = x ∧ v = y
    · rw [if_neg (by rw [q0.1]; exact fun z => z rfl), if_pos (by rw [q0.2])]
      exact yes (by rw [hGi, q0.1, q0.2]; simp)
    · have second := second.resolve_right q0
      by_cases q1 : u = x
      · rw [if_neg (by rw [q1]; exact fun z => z rfl), if_neg (by rw [n_eq (by omega) (by omega)]; exact fun z => q0 ⟨q1, z⟩)]
        exact second
      · rw [if_pos (by rw [ne_eq, n_eq (by omega) (by omega)]; exact q1)]
        exact second
/-- the couple that was asked for comes to be told -/
def gapH (jv : Int32) (l : List (Nat × Nat)) (M : zM) : Prop := ∀ j, jv = nI j → j < 2 ^ 31 → j < l.length → zI M 46 43 = nI (l.getD j (0, 0)).1 ∧ zI M 46 44 = nI (l.getD j (0, 0)).2
abbrev atG : Nat → Nat → Prop := fun a k => a = 46 ∧ (k = 43 ∨ k = 44)
theorem dec1 {k : Nat} (h : 1 ≤ k) : nI k - 1 = nI (k - 1) := by rw [n_1, n_sub h]
theorem gapH_push {jv : Int32} {l : List (Nat × Nat)} {a b : Nat} {M : zM} (hC : zC M) (h : gapH jv l M) (hl : l.length < 2 ^ 31) {M1 M2 : zM} (h1 : M1 = zsI M 46 43 (if nI l.length ≠ jv then zI M 46 43 else nI a)) (h2 : M2 = zsI M1 46 44 (if nI l.length ≠ jv then zI M 46 44 else nI b)) : gapH jv (l ++ [(a, b)]) M2 := by
  intro j hj hb hlj
  rw [List.length_append] at hlj
  have hlj2 : j < l.length + 1 := hlj
  have e1 : zI M2 46 43 = (if nI l.length ≠ jv then zI M 46 43 else nI a) := by rw [h2, zI_other _ _ (Or.inr (by decide)), h1, zI_same]
  have e2 : zI M2 46 44 = (if nI l.length ≠ jv then zI M 46 44 else nI b) := by rw [h2, zI_same]
  rw [e1, e2]
  by_cases q : j < l.length
  · have ne : nI l.length ≠ jv := by rw [hj, ne_eq, n_eq hl hb]; omega
    rw [if_pos ne, if_pos ne, getT_app_l q]
    exact h j hj hb q
  · have : j = l.length := by omega
    rw [hj, this, if_neg (fun z => z rfl), if_neg (fun z => z rfl), getT_app_r]
    exact ⟨rfl, rfl⟩
theorem y_gaps {n L a set : Nat} {jv : Int32} {w : List Nat} {M : zM} (hC : zC M) (hN : NrH n L M) (hn : n < 8) (ha : a ≠ 46) (hA : AN M a w) (hlen : w.length = 2 * n) (h7 : ∀ z ∈ w, z < 7) (hset : set < 128) :
    ∃ M', fp_X11_gaps 46 a (nI set) jv M = some (nI (cpl w set).length, M') ∧ Fz atG M M' ∧ gapH jv (cpl w set) M' := by
  unfold fp_X11_gaps
  have kN : ∀ {M1}, Fz atG M M1 → NrH n L M1 := fun h => NrH_z hN h (by omega) (fun k => by omega)
  have kA : ∀ {M1}, Fz atG M M1 → AN M1 a w := fun h => by
    obtain ⟨q1, q2, q3, q4, q5⟩ := hA
    have h1 : zS _ = zS M := congrArg (fun x => x.2.2.2.1) h.1
    exact ⟨by rw [h1]; exact q1, q2, by rw [Fz_L h]; exact q3, by rw [Fz_L h]; exact q4, fun i hi => by rw [h.2 a i (fun z => ha z.1)]; exact q5 i hi⟩
  have lenN : ∀ i, i ≤ w.length + 1 → (cpN w set i).length ≤ 225 := by
    intro i hi
    have := cpN_len w set i
    have h2 : i * (w.length + 1) ≤ 15 * 15 := Nat.mul_le_mul (by omega) (by omega)
    omega
  rw [ts_46 hC]
  have e0 : (0 : Int32) = nI (cpN w set 0).length := n_0
  have e00 : fp_X11_gaps_L6 46 a (nI set) jv FU 0 0 M = fp_X11_gaps_L6 46 a (nI set) jv FU (nI (cpN w set 0).length) (nI 0) M := by rw [← e0, ← n_0]
  rw [e00]
  refine up (P := fun i f => ∀ M1, Fz atG M M1 → gapH jv (cpN w set i) M1 → ∃ M', fp_X11_gaps_L6 46 a (nI set) jv f (nI (cpN w set i).length) (nI i) M1 = some (nI (cpl w set).length, M') ∧ Fz atG M M' ∧ gapH jv (cpl w set) M') (a := 0) (n := w.length + 1) ?_ ?_ FU (by omega) (FU_gt (by omega)) M Fz_refl (fun j _ _ hj => absurd hj (Nat.not_lt_zero _))
  · intro f M1 f1 f2
    have hC1 := Fz_C f1 hC
    refine ⟨M1, ?_, f1, f2⟩
    rw [fp_X11_gaps_L6, y_length hC1 (kN f1), Option.bind_some, ← hlen, gt_stp (by omega)]
    rfl
  · intro i f _ hi ih M1 f1 f2
    have hC1 := Fz_C f1 hC
    have hN1 := lenN i (by omega)
    rw [fp_X11_gaps_L6, y_length hC1 (kN f1), Option.bind_some, ← hlen, gt_go (by omega) (by omega), inc]
    have start : nI (cpN w set i).length = nI ((cpN w set i ++ cpA w set i i).length) := by rw [cpA_0, List.append_nil]
    have start2 : (0 : Int32) = nI (if i = i then 0 else px w i ^^^ px w (i - 1)) := by rw [if_pos rfl]; exact n_0
    rw [start, start2]
    refine up (P := fun k g => ∀ M2, Fz atG M M2 → gapH jv (cpN w set i ++ cpA w set i k) M2 → ∃ M', fp_X11_gaps_L22 (fun v4_16 M17 => fp_X11_gaps_L6 46 a (nI set) jv f v4_16 (nI (i + 1)) M17) 46 a (nI set) jv (nI i) g (nI (cpN w set i ++ cpA w set i k).length) (nI (if k = i then 0 else px w i ^^^ px w (k - 1))) (nI k) M2 = some (nI (cpl w set).length, M') ∧ Fz atG M M' ∧ gapH jv (cpl w set) M') (a := i) (n := w.length + 1) ?_ ?_ FU (by omega) (FU_gt (by omega)) M1 f1 (by rw [cpA_0, List.append_nil]; exact f2)
    · intro g M2 g1 g2
      have hC2 := Fz_C g1 hC
      rw [fp_X11_gaps_L22, y_length hC2 (kN g1), Option.bind_some, ← hlen, gt_stp (by omega)]
      exact ih M2 g1 g2
    · intro k g hik hk ih2 M2 g1 g2
      have hC2 := Fz_C g1 hC
      have hx : px w i ^^^ px w k < 2 ^ 7 := Nat.xor_lt_two_pow (px_lt h7) (px_lt h7)
      have hAl := cpA_len w set i k
      have hll : (cpN w set i ++ cpA w set i k).length < 2 ^ 31 := by rw [List.length_append]; omega
      rw [fp_X11_gaps_L22, y_length hC2 (kN g1), Option.bind_some, ← hlen, gt_go (by omega) (by omega), zjn_eq]
      -- the next one's
      have nxt : ∀ (M3 : zM), Fz atG M M3 → gapH jv (cpN w set i ++ cpA w set i (k + 1)) M3 → ∃ M', fp_X11_gaps_L22 (fun v4_16 M17 => fp_X11_gaps_L6 46 a (nI set) jv f v4_16 (nI (i + 1)) M17) 46 a (nI set) jv (nI i) g (nI (cpN w set i ++ cpA w set i (k + 1)).length) (nI (px w i ^^^ px w k)) (nI k + 1) M3 = some (nI (cpl w set).length, M') ∧ Fz atG M M' ∧ gapH jv (cpl w set) M' := by
        intro M3 z1 z2
        have := ih2 M3 z1 z2
        rw [if_neg (by omega), Nat.add_sub_cancel, ← inc k] at this
        exact this
      have body : ∃ M', (if nI (px w i ^^^ px w k) = nI set then (
                zjn (fun (s6 : Int32) (s7 : Nat) =>
                    (zpI 9 M2 s7 43 s6).bind fun (M8 : zM) =>
                    zjn (fun (s9 : Int32) (s10 : Nat) =>
                        (zpI 9 M8 s10 44 s9).bind fun (M11 : zM) =>
                        fp_X11_gaps_L22 (fun v4_16 M17 => fp_X11_gaps_L6 46 a (nI set) jv f v4_16 (nI (i + 1)) M17) 46 a (nI set) jv (nI i) g (nI (cpN w set i ++ cpA w set i k).length + 1) (nI (px w i ^^^ px w k)) (nI k + 1) M11)
                      (fun j95 =>
                        if nI (cpN w set i ++ cpA w set i k).length ≠ jv then (
                          (zgI 9 M8 46 44).bind fun (y12 : Int32) =>
                          j95 y12 46)
                        else (
                          j95 (nI k) 46)))
                  (fun j76 =>
                    if nI (cpN w set i ++ cpA w set i k).length ≠ jv then (
                      (zgI 9 M2 46 43).bind fun (y13 : Int32) =>
                      j76 y13 46)
                    else (
                      j76 (nI i) 46)))
              else (
                fp_X11_gaps_L22 (fun v4_16 M17 => fp_X11_gaps_L6 46 a (nI set) jv f v4_16 (nI (i + 1)) M17) 46 a (nI set) jv (nI i) g (nI (cpN w set i ++ cpA w set i k).length) (nI (px w i ^^^ px w k)) (nI k + 1) M2)) = some (nI (cpl w set).length, M') ∧ Fz atG M M' ∧ gapH jv (cpl w set) M' := by
        have es := cpA_s w set i k
        rw [decide_eq_true hik, Bool.true_and] at es
        by_cases hq : px w i ^^^ px w k = set
        · rw [hq, beq_self_eq_true, if_pos rfl] at es
          have e3 : cpN w set i ++ cpA w set i (k + 1) = (cpN w set i ++ cpA w set i k) ++ [(i, k)] := by rw [es, List.append_assoc]
          obtain ⟨ls, hls⟩ : ∃ ls, ls = cpN w set i ++ cpA w set i k := ⟨_, rfl⟩
          rw [e3, ← hls, List.length_append] at nxt
          rw [← hls] at g2 hll ⊢
          rw [hq] at nxt ⊢
          rw [if_pos rfl, zjn_eq]
          obtain ⟨M8, hM8⟩ : ∃ M8, M8 = zsI M2 46 43 (if nI ls.length ≠ jv then zI M2 46 43 else nI i) := ⟨_, rfl⟩
          obtain ⟨M11, hM11⟩ : ∃ M11, M11 = zsI M8 46 44 (if nI ls.length ≠ jv then zI M2 46 44 else nI k) := ⟨_, rfl⟩
          have hC8 : zC M8 := by rw [hM8]; exact hC2
          have hH := gapH_push hC2 g2 hll hM8 hM11
          have hF : Fz atG M M11 := by
            rw [hM11, hM8]
            exact Fz_trans g1 (Fz_trans (Fz_sI ⟨rfl, Or.inl rfl⟩) (Fz_sI ⟨rfl, Or.inr rfl⟩))
          have := nxt M11 hF hH
          have h44 : zI M8 46 44 = zI M2 46 44 := by rw [hM8, zI_other _ _ (Or.inr (by decide))]
          rw [show nI (ls.length + [(i, k)].length) = nI ls.length + 1 from by rw [inc]; rfl] at this
          by_cases hj : nI ls.length ≠ jv
          · rw [if_pos hj] at hM8 hM11 ⊢
            rw [gI_46 hC2, Option.bind_some]
            dsimp only
            rw [pI_46 hC2, ← hM8, Option.bind_some, zjn_eq, if_pos hj, gI_46 hC8, Option.bind_some, h44]
            dsimp only
            rw [pI_46 hC8, ← hM11, Option.bind_some]
            exact this
          · rw [if_neg hj] at hM8 hM11 ⊢
            dsimp only
            rw [pI_46 hC2, ← hM8, Option.bind_some, zjn_eq, if_neg hj]
            dsimp only
            rw [pI_46 hC8, ← hM11, Option.bind_some]
            exact this
        · have hb : (px w i ^^^ px w k == set) = false := by simpa using hq
          rw [hb, if_neg Bool.false_ne_true, List.append_nil] at es
          rw [es] at nxt
          rw [if_neg (by rw [n_eq (by omega) (by omega)]; exact hq)]
          exact nxt M2 g1 g2
      by_cases hki : k = i
      · rw [if_pos (show nI k ≤ nI i by rw [hki]; exact Int32.le_refl _), if_pos hki]
        dsimp only
        rw [zjn_eq, show nI 0 = nI (px w i ^^^ px w k) from by rw [hki, Nat.xor_self]]
        exact body
      · have hk1 : k - 1 < w.length := by omega
        have ek := px_s hk1
        rw [show k - 1 + 1 = k by omega] at ek
        have h7k := h7 _ (getD_mem hk1)
        rw [if_neg (show ¬ nI k ≤ nI i by rw [n_le (by omega) (by omega)]; omega), if_neg hki, dec1 (by omega), AN_l (kA g1) hk1, Option.bind_some, lett_eq, sh1 (show w.getD (k - 1) 0 < 32 by omega), n_xor, Nat.xor_assoc, ← ek]
        dsimp only
        rw [zjn_eq]
        exact body
theorem y_lessAsked {n L : Nat} {w q : List Nat} {M : zM} (hC : zC M) (hN : NrH n L M) (hn : n < 8) (hA : AN M 64 w) (hB : AN M 68 q) (hlen : w.length = 2 * n) (hlen2 : q.length = 2 * n) (h1 : ∀ z ∈ w, z < 2 ^ 31) (h2 : ∀ z ∈ q, z < 2 ^ 31) : fp_X11_isLessThanAsked 46 M = some (bI (ltL w q)) := by
  unfold fp_X11_isLessThanAsked
  rw [ts_46 hC, n_0]
  obtain ⟨K, hK⟩ : ∃ K : Int32 → Option Int32, K = fun v1_6 =>
        (zgR 9 M 46 31).bind fun (y7 : Nat) =>
        (zlI 100 M y7 v1_6).bind fun (y8 : Int32) =>
        (zgR 9 M 46 35).bind fun (y9 : Nat) =>
        (zlI 100 M y9 v1_6).bind fun (y10 : Int32) =>
        if y8 ≥ y10 then (
          some (nI 0))
        else (
          some 1) := ⟨_, rfl⟩
  rw [← hK]
  have kk : ∀ i, i < 2 * n → w.getD i 0 ≠ q.getD i 0 → K (nI i) = some (bI (decide (w.getD i 0 < q.getD i 0))) := fun i hi hq => by
    have hi1 : i < w.length := by omega
    have hi2 : i < q.length := by omega
    have g1 := h1 _ (getD_mem hi1)
    have g2 := h2 _ (getD_mem hi2)
    rw [hK]
    dsimp only
    rw [gR_46_31 hC, Option.bind_some, AN_l hA hi1, Option.bind_some, gR_46_35 hC, Option.bind_some, AN_l hB hi2, Option.bind_some]
    by_cases hl : w.getD i 0 < q.getD i 0
    · rw [if_neg (by rw [ge_iff_le, n_le g2 g1]; omega), decide_eq_true hl]; rfl
    · rw [if_pos (by rw [ge_iff_le, n_le g2 g1]; omega), decide_eq_false hl, ← n_0]; rfl
  refine Eq.trans ?_ (show some (bI (ltL (w.drop 0) (q.drop 0))) = _ from rfl)
  refine up (P := fun i f => fp_X11_isLessThanAsked_L2 K 46 M f (nI i) = some (bI (ltL (w.drop i) (q.drop i)))) (a := 0) (n := 2 * n) ?_ ?_ FU (by omega) (FU_gt (by omega))
  · intro f
    rw [fp_X11_isLessThanAsked_L2, y_length hC hN, Option.bind_some, stp, List.drop_eq_nil_of_le (by omega), List.drop_eq_nil_of_le (by omega)]
    rfl
  · intro i f _ hi ih
    have hi1 : i < w.length := by omega
    have hi2 : i < q.length := by omega
    have g1 := h1 _ (getD_mem hi1)
    have g2 := h2 _ (getD_mem hi2)
    rw [fp_X11_isLessThanAsked_L2, y_length hC hN, Option.bind_some, go hi (by omega), gR_46_31 hC, Option.bind_some, AN_l hA hi1, Option.bind_some, gR_46_35 hC, Option.bind_some, AN_l hB hi2, Option.bind_some, ltL_step hi1 hi2, inc]
    by_cases hq : w.getD i 0 = q.getD i 0
    · rw [if_pos (by rw [hq]), hq, beq_self_eq_true, decide_eq_false (Nat.lt_irrefl _), Bool.false_or, Bool.true_and]
      exact ih
    · have hb : (w.getD i 0 == q.getD i 0) = false := by simpa using hq
      rw [if_neg (by rw [n_eq g1 g2]; exact hq), hb, Bool.false_and, Bool.or_false]
      exact kk i hi hq

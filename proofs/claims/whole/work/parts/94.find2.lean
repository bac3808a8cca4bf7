/-! ===== 94: the reference: find, turned ===== -/
abbrev atX : Nat → Nat → Prop := fun a k => 64 ≤ a ∧ a ≤ 68 ∨ (a = 46 ∧ 36 ≤ k ∧ k ≤ 44)
theorem scX {M M' : zM} (h : Fz atX M M') : Fz scR M M' := Fz_mono h fun a k q => by show (a = 46 ∧ _) ∨ _; omega
theorem NrX {n L : Nat} {M M' : zM} (h : NrH n L M) (hf : Fz atX M M') : NrH n L M' := NrH_z h hf (by omega) (fun k => by omega)
theorem y_modelAsked {n L : Nat} {w : List Nat} {M : zM} (hC : zC M) (hN : NrH n L M) (hn : n < 8) (hA : AN M 68 w) (hW : WD n w) (hP : Pat n L w) : ∃ M' i, fp_X11_modelAsked 46 M = some (nI i, M') ∧ Fz atX M M' ∧ ixO n L (lrp w) = some i := by
  unfold fp_X11_modelAsked
  have hlen := hW.1
  have hml := Mods_len (L := L) hn
  rw [ts_46 hC, gI_46 hC 0, Option.bind_some, hN.1, zjn_eq]
  -- counted
  have cnt' : ∀ M2 r, Fz atX M M2 → AN M2 68 r → r.length = 2 * n → (∀ z ∈ r, z < 2 ^ 31) → ∃ M', ((zpI 9 M2 46 39 3).bind fun (M3 : zM) =>
        (fp_X11_goes 46 (-1) M3).bind fun p6 => zpp p6 fun (y4 : Int32) (M5 : zM) =>
        (zgI 9 M5 46 38).bind fun (y7 : Int32) =>
        some (y7, M5)) = some (nI ((Mods n L).countP fun m => ltL m r), M') ∧ Fz atX M M' := by
    intro M2 r f2 a2 hl he
    have hC2 := Fz_C f2 hC
    have h4 : ((3, 0, 0, r) : Qst).1 ≠ 4 := by show (3 : Nat) ≠ 4; decide
    obtain ⟨M', e1, e2, e3⟩ := y_goes (L := L) (qq := (3, 0, 0, r)) (wv := -1) (M := zsI M2 46 39 3) hC2 (NrX hN (Fz_trans f2 (Fz_sI (by omega)))) hn ⟨by rw [zI_same]; exact n_3, by show 3 < 5; decide, fun q => absurd q (by show ¬ 3 = 1; decide), fun q => absurd q (by show ¬ 3 = 2; decide), fun _ => ⟨hl, he, fun i hi => by rw [zI_other _ _ (Or.inl (by decide))]; exact a2.2.2.2.2 i hi⟩⟩
    rw [PQ_mod h4] at e1 e3
    have hg := g0_all h4 (Mods n L) (by omega)
    rw [pI_46 hC2, Option.bind_some, e1, Option.bind_some]
    unfold zpp
    dsimp only
    rw [gI_46 (Fz_C e2 hC2), Option.bind_some, e3.2.1, hg]
    exact ⟨M', rfl, Fz_trans f2 (Fz_trans (Fz_sI (by omega)) (Fz_mono e2 fun a k q => by omega))⟩
  by_cases h0 : n = 0
  · have hw : w = [] := List.eq_nil_of_length_eq_zero (by omega)
    obtain ⟨M', e1, e2⟩ := cnt' M w Fz_refl hA (by omega) (fun z hz => by rw [hw] at hz; cases hz)
    refine ⟨M', (Mods n L).countP (fun m => ltL m w), ?_, e2, ?_⟩
    · rw [if_pos (show nI n ≤ 0 by rw [h0]; decide)]; exact e1
    · subst h0
      rw [hw, Mods_0]
      have : lrp ([] : List Nat) = 0 := by decide
      rw [this]
      exact ixO_some (by decide) (by rw [Mods_0]; decide) (by rw [Mods_0]; rfl)
  · have hlt := WD_lt hW
    obtain ⟨M9, r, b1, b2, b3, b4, b5⟩ := y_leastReading hC hn (by omega) hA hlen (fun z hz => by have := hlt z hz; omega)
    have hr4 := b4
    obtain ⟨s, b, hs, hr⟩ := b4
    obtain ⟨M', e1, e2⟩ := cnt' M9 r (Fz_mono b2 fun a k q => by omega) b3 (by rw [hr, rdg_len, hlen]) (fun z hz => by rw [hr] at hz; have := hlt z (rdg_mem hs hz); omega)
    refine ⟨M', _, ?_, e2, lst_idx hn (by omega) hW hP hr4 b5⟩
    rw [if_neg (show ¬ nI n ≤ 0 by rw [n_0, n_le (by omega) (by decide)]; omega), y_length hC hN, Option.bind_some, b1, Option.bind_some]
    exact e1
theorem idx_ne {x p : Nat} {l : List Nat} (h : x ≠ p) : (x :: l).idxOf p = l.idxOf p + 1 := by
  have : (x == p) = false := by simpa using h
  rw [List.idxOf_cons, this]; rfl
/-! whether it is a word of this network -/
theorem wh2 {n L p : Nat} {w : List Nat} {M : zM} (K : Int32 → Int32 → Option Int32) (hC : zC M) (hN : NrH n L M) (hA : AN M 68 w) (hlen : w.length = 2 * n) (hn : n < 8) (he : ∀ z ∈ w, z < 2 ^ 32) (hp : p < 2 ^ 32) {a b : Int32} (hb : b ≠ -1) :
    ∀ suf pre f, w = pre ++ suf → suf.length < f → fp_X11_isWordHere_L17 K 46 (nI p) M f a b (nI pre.length) = if p ∈ suf then some 0 else K a b := by
  intro suf
  induction suf with
  | nil =>
    intro pre f e hf
    obtain ⟨f, rfl⟩ : ∃ g, f = g + 1 := ⟨f - 1, by omega⟩
    have : pre.length = 2 * n := by rw [← hlen, e, List.append_nil]
    rw [fp_X11_isWordHere_L17, y_length hC hN, Option.bind_some, this, stp, if_neg (by simp)]
  | cons x suf ih =>
    intro pre f e hf
    obtain ⟨f, rfl⟩ : ∃ g, f = g + 1 := ⟨f - 1, by omega⟩
    rw [List.length_cons] at hf
    have hpl : pre.length < w.length := by rw [e, List.length_append, List.length_cons]; omega
    have hx : w.getD pre.length 0 = x := by rw [e]; simp [List.getD]
    have hxm : x ∈ w := by rw [e]; simp
    have ihx := ih (pre ++ [x]) f (by rw [e]; simp) (by omega)
    rw [List.length_append] at ihx
    have ihx' : fp_X11_isWordHere_L17 K 46 (nI p) M f a b (nI pre.length + 1) = if p ∈ suf then some 0 else K a b := by rw [inc]; exact ihx
    rw [fp_X11_isWordHere_L17, y_length hC hN, Option.bind_some, ← hlen, go hpl (by omega), gR_46_35 hC, Option.bind_some, AN_l hA hpl, Option.bind_some, hx, zjn_eq]
    by_cases hq : x = p
    · rw [hq, if_pos rfl, if_neg hb, if_pos (by simp)]
    · rw [if_neg (by rw [n_eq32 (he x hxm) hp]; exact hq)]
      dsimp only
      rw [ihx']
      have : p ∈ x :: suf ↔ p ∈ suf := by
        rw [List.mem_cons]
        exact ⟨fun z => z.elim (fun y => absurd y.symm hq) id, Or.inr⟩
      by_cases hs : p ∈ suf
      · rw [if_pos hs, if_pos (this.mpr hs)]
      · rw [if_neg hs, if_neg (fun z => hs (this.mp z))]
theorem wh1 {n L p : Nat} {w : List Nat} {M : zM} (K : Int32 → Int32 → Option Int32) (hK : ∀ a, K a (-1) = some 0) (hC : zC M) (hN : NrH n L M) (hA : AN M 68 w) (hlen : w.length = 2 * n) (hn : n < 8) (he : ∀ z ∈ w, z < 2 ^ 32) (hp : p < 2 ^ 32) {a : Int32} (ha : a ≠ -1) :
    ∀ suf pre f, w = pre ++ suf → suf.length < f → fp_X11_isWordHere_L17 K 46 (nI p) M f a (-1) (nI pre.length) = if suf.count p = 1 then K a (nI (pre.length + suf.idxOf p)) else some 0 := by
  intro suf
  induction suf with
  | nil =>
    intro pre f e hf
    obtain ⟨f, rfl⟩ : ∃ g, f = g + 1 := ⟨f - 1, by omega⟩
    have : pre.length = 2 * n := by rw [← hlen, e, List.append_nil]
    rw [fp_X11_isWordHere_L17, y_length hC hN, Option.bind_some, this, stp, hK, if_neg (by simp)]
  | cons x suf ih =>
    intro pre f e hf
    obtain ⟨f, rfl⟩ : ∃ g, f = g + 1 := ⟨f - 1, by omega⟩
    rw [List.length_cons] at hf
    have hpl : pre.length < w.length := by rw [e, List.length_append, List.length_cons]; omega
    have hx : w.getD pre.length 0 = x := by rw [e]; simp [List.getD]
    have hxm : x ∈ w := by rw [e]; simp
    have e2 : w = (pre ++ [x]) ++ suf := by rw [e]; simp
    have el : (pre ++ [x]).length = pre.length + 1 := by rw [List.length_append]; rfl
    rw [fp_X11_isWordHere_L17, y_length hC hN, Option.bind_some, ← hlen, go hpl (by omega), gR_46_35 hC, Option.bind_some, AN_l hA hpl, Option.bind_some, hx, zjn_eq]
    by_cases hq : x = p
    · have hw2 := wh2 (p := p) K hC hN hA hlen hn he hp (a := a) (b := nI pre.length) (by rw [ne_eq, n_neg (by omega)]; exact id) suf (pre ++ [x]) f e2 (by omega)
      rw [el] at hw2
      rw [hq, if_pos rfl, if_pos rfl, if_pos ha]
      dsimp only
      rw [inc, hw2, List.count_cons_self]
      by_cases hs : p ∈ suf
      · have := List.count_pos_iff.mpr hs
        rw [if_pos hs, if_neg (by omega)]
      · have := List.count_eq_zero.mpr hs
        rw [if_neg hs, if_pos (by omega)]
        congr 2
        simp
    · have ihx := ih (pre ++ [x]) f e2 (by omega)
      rw [el] at ihx
      rw [if_neg (by rw [n_eq32 (he x hxm) hp]; exact hq)]
      dsimp only
      rw [inc, ihx, List.count_cons_of_ne hq]
      have : (x :: suf).idxOf p = suf.idxOf p + 1 := idx_ne hq
      rw [this, show pre.length + 1 + suf.idxOf p = pre.length + (suf.idxOf p + 1) by omega]
theorem wh0 {n L p : Nat} {w : List Nat} {M : zM} (K : Int32 → Int32 → Option Int32) (hK : ∀ a, K a (-1) = some 0) (hC : zC M) (hN : NrH n L M) (hA : AN M 68 w) (hlen : w.length = 2 * n) (hn : n < 8) (he : ∀ z ∈ w, z < 2 ^ 32) (hp : p < 2 ^ 32) :
    ∀ suf pre f, w = pre ++ suf → suf.length < f → fp_X11_isWordHere_L17 K 46 (nI p) M f (-1) (-1) (nI pre.length) = if suf.count p = 2 then K (nI (pre.length + suf.idxOf p)) (nI (pre.length + (suf.idxOf p + dst p suf))) else some 0 := by
  intro suf
  induction suf with
  | nil =>
    intro pre f e hf
    obtain ⟨f, rfl⟩ : ∃ g, f = g + 1 := ⟨f - 1, by omega⟩
    have : pre.length = 2 * n := by rw [← hlen, e, List.append_nil]
    rw [fp_X11_isWordHere_L17, y_length hC hN, Option.bind_some, this, stp, hK, if_neg (by simp)]
  | cons x suf ih =>
    intro pre f e hf
    obtain ⟨f, rfl⟩ : ∃ g, f = g + 1 := ⟨f - 1, by omega⟩
    rw [List.length_cons] at hf
    have hpl : pre.length < w.length := by rw [e, List.length_append, List.length_cons]; omega
    have hx : w.getD pre.length 0 = x := by rw [e]; simp [List.getD]
    have hxm : x ∈ w := by rw [e]; simp
    have e2 : w = (pre ++ [x]) ++ suf := by rw [e]; simp
    have el : (pre ++ [x]).length = pre.length + 1 := by rw [List.length_append]; rfl
    rw [fp_X11_isWordHere_L17, y_length hC hN, Option.bind_some, ← hlen, go hpl (by omega), gR_46_35 hC, Option.bind_some, AN_l hA hpl, Option.bind_some, hx, zjn_eq]
    by_cases hq : x = p
    · have hw1 := wh1 (p := p) K hK hC hN hA hlen hn he hp (a := nI pre.length) (by rw [ne_eq, n_neg (by omega)]; exact id) suf (pre ++ [x]) f e2 (by omega)
      rw [el] at hw1
      rw [hq, if_pos rfl, if_pos rfl, if_neg (fun z => z rfl)]
      dsimp only
      rw [inc, hw1, List.count_cons_self]
      have hi : (p :: suf).idxOf p = 0 := by simp
      have hd : dst p (p :: suf) = suf.idxOf p + 1 := by unfold dst; rw [hi]; rfl
      rw [hi, hd, show pre.length + 1 + suf.idxOf p = pre.length + (0 + (suf.idxOf p + 1)) by omega, show pre.length + 0 = pre.length from rfl]
      by_cases hs : suf.count p = 1
      · rw [if_pos hs, if_pos (by omega)]
      · rw [if_neg hs, if_neg (by omega)]
    · have ihx := ih (pre ++ [x]) f e2 (by omega)
      rw [el] at ihx
      rw [if_neg (by rw [n_eq32 (he x hxm) hp]; exact hq)]
      dsimp only
      rw [inc, ihx, List.count_cons_of_ne hq]
      have hi : (x :: suf).idxOf p = suf.idxOf p + 1 := idx_ne hq
      have hd : dst p (x :: suf) = dst p suf := by unfold dst; rw [hi]; rfl
      rw [hi, hd, show pre.length + 1 + suf.idxOf p = pre.length + (suf.idxOf p + 1) by omega, show pre.length + 1 + (suf.idxOf p + dst p suf) = pre.length + (suf.idxOf p + 1 + dst p suf) by omega]
theorem y_crossHere {n L p : Nat} {A B C : List Nat} {M : zM} (K : Option Int32) (hC : zC M) (hN : NrH n L M) (hn : n < 8) (hp : p < n) (hA : AN M 68 (A ++ p :: (B ++ p :: C))) (he : ∀ z ∈ A ++ p :: (B ++ p :: C), z < 2 ^ 32) :
    fp_X11_isWordHere_L77 K 46 (nI p) (nI A.length) (nI (A.length + 1 + B.length)) M FU 0 = if cwB n L p B = true then K else some 0 := by
  rw [n_0]
  let G : Nat → Bool := fun q => q == p || ((B.count q == 1) == adj L p q)
  have hl2 := AN_lt hA
  have hlw : (A ++ p :: (B ++ p :: C)).length = A.length + 1 + B.length + 1 + C.length := by simp; omega
  refine up (P := fun i f => (∀ q, q < i → G q = true) → fp_X11_isWordHere_L77 K 46 (nI p) (nI A.length) (nI (A.length + 1 + B.length)) M f (nI i) = if cwB n L p B = true then K else some 0) (a := 0) (n := n) ?_ ?_ FU (by omega) (FU_gt (by omega)) (fun q hq => absurd hq (Nat.not_lt_zero _))
  · intro f hG
    have : cwB n L p B = true := by
      unfold cwB
      rw [List.all_eq_true]
      exact fun q hq => hG q (List.mem_range.mp hq)
    rw [fp_X11_isWordHere_L77, gI_46 hC, Option.bind_some, hN.1, stp, if_pos this]
  · intro i f _ hi ih hG
    have nx : G i = true → fp_X11_isWordHere_L77 K 46 (nI p) (nI A.length) (nI (A.length + 1 + B.length)) M f (nI (i + 1)) = if cwB n L p B = true then K else some 0 := fun hg => ih fun q hq => by
      by_cases hqi : q = i
      · rw [hqi]; exact hg
      · exact hG q (by omega)
    have no : G i = false → some (0 : Int32) = if cwB n L p B = true then K else some 0 := fun hg => by
      have : cwB n L p B = false := by
        unfold cwB
        rw [List.all_eq_false]
        exact ⟨i, List.mem_range.mpr hi, by rw [show (i == p || ((B.count i == 1) == adj L p i)) = false from hg]; decide⟩
      rw [this, if_neg Bool.false_ne_true]
    rw [fp_X11_isWordHere_L77, gI_46 hC, Option.bind_some, hN.1, go hi (by omega), zjn_eq, inc]
    by_cases hip : i = p
    · rw [if_pos (by rw [hip])]
      exact nx (by show (i == p || _) = true; rw [hip, beq_self_eq_true]; rfl)
    · have hGi : G i = ((B.count i == 1) == adj L p i) := by
        show (i == p || _) = _
        have : (i == p) = false := by simpa using hip
        rw [this, Bool.false_or]
      have hbt := y_between (i := A.length) (j := A.length + 1 + B.length) (q := i) hA (by omega) (by omega) he (by omega)
      have hsg : ((A ++ p :: (B ++ p :: C)).drop (A.length + 1)).take (A.length + 1 + B.length - (A.length + 1)) = B := by
        have e : A ++ p :: (B ++ p :: C) = (A ++ [p]) ++ (B ++ p :: C) := by simp
        have h1 : (A ++ p :: (B ++ p :: C)).drop (A.length + 1) = B ++ p :: C := by rw [e]; exact List.drop_left' (by simp)
        rw [h1]
        exact List.take_left' (by omega)
      rw [hsg] at hbt
      have hcl : B.count i < 2 ^ 31 := by
        have h1 := List.count_le_length (a := i) (l := B)
        omega
      have post : ∀ s6 : Int32, ((zgR 9 M 46 2).bind fun (y7 : Nat) =>
                (zlI 100 M y7 (nI p)).bind fun (y8 : Int32) =>
                (fp_X11_has y8 (nI i)).bind fun (y9 : Int32) =>
                if s6 = y9 then (
                  fp_X11_isWordHere_L77 K 46 (nI p) (nI A.length) (nI (A.length + 1 + B.length)) M f (nI (i + 1)))
                else (
                  some 0)) = if s6 = bI (adj L p i) then fp_X11_isWordHere_L77 K 46 (nI p) (nI A.length) (nI (A.length + 1 + B.length)) M f (nI (i + 1)) else some 0 := fun s6 => by
        rw [gR_46_2 hC, Option.bind_some, lI_47 hC (show p < 8 by omega), Option.bind_some, hN.2 p hp, y_has1 (lt128 hn (row_lt _ _ _)) (by omega), Option.bind_some, row_tb, decide_eq_true hi, Bool.true_and]
      rw [if_neg (by rw [n_eq (by omega) (by omega)]; exact hip), gR_46_35 hC, Option.bind_some, hbt, Option.bind_some, zjn_eq]
      dsimp only
      rw [post, post]
      by_cases h1 : B.count i = 1
      · rw [h1, if_neg (show ¬ nI 1 ≠ 1 by decide)]
        rw [h1] at hGi
        cases hA2 : adj L p i with
        | false => rw [b_ff, if_neg (by decide)]; exact no (by rw [hGi, hA2]; rfl)
        | true => rw [b_tt, if_pos rfl]; exact nx (by rw [hGi, hA2]; rfl)
      · rw [if_pos (show nI (B.count i) ≠ 1 by rw [n_1, ne_eq, n_eq hcl (by decide)]; exact h1)]
        have e : (B.count i == 1) = false := by simpa using h1
        rw [e] at hGi
        cases hA2 : adj L p i with
        | false => rw [b_ff, if_pos rfl]; exact nx (by rw [hGi, hA2]; rfl)
        | true => rw [b_tt, if_neg (by decide)]; exact no (by rw [hGi, hA2]; rfl)
theorem y_isWordHere {n L : Nat} {w : List Nat} {M : zM} (hC : zC M) (hN : NrH n L M) (hn : n < 8) (hA : AN M 68 w) (hlen : w.length = 2 * n) (he : ∀ z ∈ w, z < 2 ^ 32) : (WD n w ∧ Pat n L w ∧ fp_X11_isWordHere 46 M = some 1) ∨ (¬ (WD n w ∧ Pat n L w) ∧ fp_X11_isWordHere 46 M = some 0) := by
  unfold fp_X11_isWordHere
  rw [ts_46 hC, n_0]
  let G : Nat → Prop := fun p => w.count p = 2 ∧ ∀ A B C, w = A ++ p :: (B ++ p :: C) → p ∉ A → p ∉ B → cwB n L p B = true
  have key : ∀ i, i = 0 → (∀ p, p < i → G p) → (WD n w ∧ Pat n L w ∧ fp_X11_isWordHere_L2 46 M FU (nI i) = some 1) ∨ (¬ (WD n w ∧ Pat n L w) ∧ fp_X11_isWordHere_L2 46 M FU (nI i) = some 0) := by
    intro i0 hi0
    refine up (P := fun i f => (∀ p, p < i → G p) → (WD n w ∧ Pat n L w ∧ fp_X11_isWordHere_L2 46 M f (nI i) = some 1) ∨ (¬ (WD n w ∧ Pat n L w) ∧ fp_X11_isWordHere_L2 46 M f (nI i) = some 0)) (a := i0) (n := n) ?_ ?_ FU (by omega) (FU_gt (by omega))
    · intro f hG
      have hW : WD n w := ⟨hlen, fun p hp => (hG p hp).1⟩
      refine Or.inl ⟨hW, fun a ha b hb => ?_, by rw [fp_X11_isWordHere_L2, gI_46 hC, Option.bind_some, hN.1, stp]⟩
      obtain ⟨A, B, C, e, h1, h2, h3⟩ := two_of (hW.2 a ha)
      have := cwB_iff.mp ((hG a ha).2 A B C e h1 h2) b (by omega) (by omega)
      rw [← this]
      have hb2 := hW.2 b (by omega)
      rw [e] at hb2 ⊢
      exact crs_p (by omega) h1 h2 h3 hb2
    · intro i f _ hi ih hG
      have hwl : w.length < FU := FU_gt (by omega)
      have w0 := wh0 (p := i) (fun v2_7 v3_8 =>
          if v3_8 ≠ (-1) then (
            fp_X11_isWordHere_L77
              (fp_X11_isWordHere_L2 46 M f (nI i + 1)) 46 (nI i) v2_7 v3_8 M FU 0)
          else (
            some 0)) (fun a => if_neg (fun z => z rfl)) hC hN hA hlen hn he (by omega) w [] FU rfl hwl
      rw [List.length_nil, ← n_0] at w0
      rw [fp_X11_isWordHere_L2, gI_46 hC, Option.bind_some, hN.1, go hi (by omega), w0]
      by_cases hc : w.count i = 2
      · obtain ⟨A, B, C, e, h1, h2, h3⟩ := two_of hc
        have hix : w.idxOf i = A.length := by rw [e]; exact idx_split h1
        have hdx : dst i w = B.length + 1 := by rw [e]; exact dst_split h1 h2
        have hlw : w.length = A.length + 1 + B.length + 1 + C.length := by rw [e]; simp; omega
        rw [if_pos hc, hix, hdx, Nat.zero_add, Nat.zero_add, show A.length + (B.length + 1) = A.length + 1 + B.length by omega, if_pos (show nI (A.length + 1 + B.length) ≠ -1 by rw [ne_eq, n_neg (by omega)]; exact id)]
        have ch := y_crossHere (C := C) (fp_X11_isWordHere_L2 46 M f (nI i + 1)) hC hN hn hi (by rw [← e]; exact hA) (by rw [← e]; exact he)
        rw [ch]
        by_cases hcw : cwB n L i B = true
        · rw [if_pos hcw, inc]
          refine ih fun p hp => ?_
          by_cases hpi : p = i
          · rw [hpi]
            refine ⟨hc, fun A' B' C' e' hA' hB' => ?_⟩
            have q1 := idx_split (R := B' ++ i :: C') hA'
            rw [← e', hix] at q1
            have q2 := dst_split (C := C') hA' hB'
            rw [← e', hdx] at q2
            have e2 : A ++ i :: (B ++ i :: C) = A' ++ i :: (B' ++ i :: C') := by rw [← e, e']
            have e3 := (List.append_inj e2 q1).2
            have e4 := (List.cons.inj e3).2
            have e5 := (List.append_inj e4 (by omega)).1
            rw [← e5]; exact hcw
          · exact hG p (by omega)
        · rw [if_neg hcw]
          refine Or.inr ⟨fun z => hcw ?_, rfl⟩
          exact cwB_iff.mpr fun q hq hne => by
            have hq2 := z.1.2 q hq
            rw [← Pat_adj z.2 hi hq (fun y => hne y.symm), e]
            rw [e] at hq2
            exact (crs_p (fun y => hne y.symm) h1 h2 h3 hq2).symm
      · rw [if_neg hc]
        exact Or.inr ⟨fun z => hc (z.1.2 i hi), rfl⟩
  exact key 0 rfl fun p hp => absurd hp (Nat.not_lt_zero _)

/-! ===== 52: the class' Rows ===== -/
theorem n_eq32 {a b : Nat} (ha : a < 2 ^ 32) (hb : b < 2 ^ 32) : (nI a = nI b) = (a = b) := by
  apply propext
  constructor
  · intro h
    have h2 := congrArg (fun x : Int32 => x.toBitVec.toNat) h
    change (BitVec.ofNat 32 a).toNat = (BitVec.ofNat 32 b).toNat at h2
    rw [BitVec.toNat_ofNat, BitVec.toNat_ofNat, Nat.mod_eq_of_lt ha, Nat.mod_eq_of_lt hb] at h2
    exact h2
  · intro h; rw [h]
/-- an int array that begins with these -/
def AN (M : zM) (a : Nat) (l : List Nat) : Prop := a < zS M ∧ kd a = 100 ∧ l.length ≤ zL M a ∧ zL M a < 2 ^ 20 ∧ ∀ i, i < l.length → zI M a i = nI (l.getD i 0)
theorem AN_n {M : zM} {a : Nat} {l : List Nat} (h : AN M a l) : zln M a = some (nI (zL M a)) := zln_ok h.1 (by rw [h.2.1]; decide) (by rw [h.2.1]; decide) rfl
theorem AN_l {M : zM} {a i : Nat} {l : List Nat} (h : AN M a l) (hi : i < l.length) : zlI 100 M a (nI i) = some (nI (l.getD i 0)) := by
  have := h.2.2.1
  rw [zlI_ok h.1 h.2.1 rfl (Nat.lt_trans h.2.2.2.1 (by decide)) (by omega), h.2.2.2.2 i hi]
theorem AN_lt {M : zM} {a : Nat} {l : List Nat} (h : AN M a l) : l.length < 2 ^ 20 := Nat.lt_of_le_of_lt h.2.2.1 h.2.2.2.1
theorem AN_L {M : zM} {a : Nat} {l : List Nat} (h : AN M a l) : zL M a < 2 ^ 31 := Nat.lt_trans h.2.2.2.1 (by decide)
theorem tk {l : List Nat} {i : Nat} (h : i < l.length) : l.take (i + 1) = l.take i ++ [l.getD i 0] := by
  rw [List.take_succ_eq_append_getElem h]; simp [List.getD, h]
theorem getD_mem {l : List Nat} {i : Nat} (h : i < l.length) : l.getD i 0 ∈ l := by
  simp only [List.getD, List.getElem?_eq_getElem h, Option.getD_some]
  exact List.getElem_mem h
theorem go2 {α : Type} {M : zM} {a i : Nat} {l : List Nat} (h : AN M a l) (hi : i < l.length) (x y : α) : (if nI i ≥ nI (zL M a) then x else y) = y := go (Nat.lt_of_lt_of_le hi h.2.2.1) (AN_L h) x y
theorem c_count {M : zM} {a x : Nat} {l : List Nat} (h : AN M a l) (hx : x < 2 ^ 32) (he : ∀ y ∈ l, y < 2 ^ 32) : fp_X5_count a (nI l.length) (nI x) M = some (nI (l.count x)) := by
  unfold fp_X5_count
  have hl := AN_lt h
  rw [n_0, show nI 0 = nI ((l.take 0).count x) from rfl]
  refine up (P := fun i f => fp_X5_count_L5 a (nI l.length) (nI x) M f (nI ((l.take i).count x)) (nI i) = some (nI (l.count x))) (a := 0) (n := l.length) ?_ ?_ FU (by omega) (FU_gt (by omega))
  · intro f
    rw [fp_X5_count_L5, stp, List.take_length]
  · intro i f _ hi ih
    rw [fp_X5_count_L5, go hi (by omega), AN_n h, Option.bind_some, go2 h hi, AN_l h hi, Option.bind_some, zjn_eq, inc, inc]
    dsimp only
    rw [tk hi, List.count_append, List.count_singleton] at ih
    by_cases hq : l.getD i 0 = x
    · rw [if_neg (by rw [hq]; exact fun q => q rfl)]
      rw [if_pos (by rw [hq]; simp)] at ih
      exact ih
    · rw [if_pos (by rw [ne_eq, n_eq32 (he _ (getD_mem hi)) hx]; exact hq)]
      rw [if_neg (by simpa using hq)] at ih
      exact ih
/-- of two letters: how often the one stands between both of the other -/
def brs (a b : Nat) (s : Bool × Nat) (x : Nat) : Bool × Nat := if x = a then (!s.1, s.2) else if s.1 = true ∧ x = b then (s.1, s.2 + 1) else s
def brt (s : Bool × Nat) (t : Bool) : Bool × Nat := if t then (!s.1, s.2) else (s.1, s.2 + s.1.toNat)
theorem brs_sig (a b : Nat) (l : List Nat) (s : Bool × Nat) : l.foldl (brs a b) s = (sig a b l).foldl brt s := by
  induction l generalizing s with
  | nil => rfl
  | cons x l ih =>
    rw [List.foldl_cons, ih, sig_cons]
    by_cases h1 : x = a
    · rw [if_pos h1, List.foldl_cons]
      simp [brs, brt, h1]
    · by_cases h2 : x = b
      · rw [if_neg h1, if_pos h2, List.foldl_cons]
        obtain ⟨t, k⟩ := s
        have h3 : ¬ b = a := fun q => h1 (h2.trans q)
        cases t <;> simp [brs, brt, h2, h3]
      · rw [if_neg h1, if_neg h2]
        simp [brs, h1, h2]
theorem brt_d : ∀ f ∈ bl4, f.count true = 2 → ((f.foldl brt (false, 0)).2 == 1) = alt f := by decide +kernel
theorem brs_crs {a b : Nat} {l : List Nat} (hab : a ≠ b) (ha : l.count a = 2) (hb : l.count b = 2) : ((l.foldl (brs a b) (false, 0)).2 == 1) = crs a b l := by
  rw [brs_sig]
  refine brt_d _ (bl4_all ?_) ?_
  · rw [len_TF, sig_T, sig_F hab, ha, hb]
  · rw [sig_T, ha]
theorem brs_le (a b : Nat) (l : List Nat) (s : Bool × Nat) : (l.foldl (brs a b) s).2 ≤ s.2 + l.length := by
  induction l generalizing s with
  | nil => exact Nat.le_refl _
  | cons x l ih =>
    rw [List.foldl_cons, List.length_cons]
    have := ih (brs a b s x)
    have h2 : (brs a b s x).2 ≤ s.2 + 1 := by
      unfold brs
      split
      · exact Nat.le_succ _
      · split
        · exact Nat.le_refl _
        · exact Nat.le_succ _
    omega
theorem c_crossing {M : zM} {a x y : Nat} {l : List Nat} (h : AN M a l) (hx : x < 2 ^ 32) (hy : y < 2 ^ 32) (he : ∀ z ∈ l, z < 2 ^ 32) : fp_X5_crossing a (nI l.length) (nI x) (nI y) M = some (bI ((l.foldl (brs x y) (false, 0)).2 == 1)) := by
  unfold fp_X5_crossing
  have hl := AN_lt h
  rw [show fp_X5_crossing_L9 (fun v5_7 => if v5_7 ≠ 1 then some 0 else some 1) a (nI l.length) (nI x) (nI y) M FU 0 0 0 = fp_X5_crossing_L9 (fun v5_7 => if v5_7 ≠ 1 then some 0 else some 1) a (nI l.length) (nI x) (nI y) M FU (bI ((l.take 0).foldl (brs x y) (false, 0)).1) (nI ((l.take 0).foldl (brs x y) (false, 0)).2) (nI 0) from by rw [List.take_zero, List.foldl_nil, ← n_0]; rfl]
  refine up (P := fun i f => fp_X5_crossing_L9 (fun v5_7 => if v5_7 ≠ 1 then some 0 else some 1) a (nI l.length) (nI x) (nI y) M f (bI ((l.take i).foldl (brs x y) (false, 0)).1) (nI ((l.take i).foldl (brs x y) (false, 0)).2) (nI i) = some (bI ((l.foldl (brs x y) (false, 0)).2 == 1))) (a := 0) (n := l.length) ?_ ?_ FU (by omega) (FU_gt (by omega))
  · intro f
    rw [fp_X5_crossing_L9, stp, List.take_length]
    have hle := brs_le x y l (false, 0)
    by_cases hq : (l.foldl (brs x y) (false, 0)).2 = 1
    · rw [hq, if_neg (by simp [n_1])]; rfl
    · rw [if_pos (by rw [n_1, ne_eq, n_eq (by simp at hle; omega) (by omega)]; exact hq)]
      simp [hq, bI]
  · intro i f _ hi ih
    rw [fp_X5_crossing_L9, go hi (by omega), AN_n h, Option.bind_some, go2 h hi, AN_l h hi, Option.bind_some, zjn_eq, inc]
    dsimp only
    rw [zjn_eq]
    dsimp only
    rw [tk hi, List.foldl_append] at ih
    obtain ⟨s, hs⟩ : ∃ s, s = (l.take i).foldl (brs x y) (false, 0) := ⟨_, rfl⟩
    rw [← hs] at ih ⊢
    rw [List.foldl_cons, List.foldl_nil] at ih
    obtain ⟨t, k⟩ := s
    have hg := he _ (getD_mem hi)
    dsimp only at ih ⊢
    by_cases h1 : l.getD i 0 = x
    · rw [h1, if_neg (fun q => q rfl)]
      have e : brs x y (t, k) (l.getD i 0) = (!t, k) := if_pos h1
      rw [e] at ih
      cases t with
      | true => rw [if_pos (by simp [bI])]; exact ih
      | false => rw [if_neg (by simp [bI])]; exact ih
    · rw [if_pos (by rw [ne_eq, n_eq32 hg hx]; exact h1)]
      cases t with
      | false =>
        have e : brs x y (false, k) (l.getD i 0) = (false, k) := by unfold brs; rw [if_neg h1, if_neg (fun q => Bool.false_ne_true q.1)]
        rw [e] at ih
        rw [ifF]; exact ih
      | true =>
        rw [ifT]
        by_cases h2 : l.getD i 0 = y
        · have e : brs x y (true, k) (l.getD i 0) = (true, k + 1) := by unfold brs; rw [if_neg h1, if_pos ⟨rfl, h2⟩]
          rw [e] at ih
          rw [Option.bind_some, h2, if_neg (fun q => q rfl), inc]
          exact ih
        · have e : brs x y (true, k) (l.getD i 0) = (true, k) := by unfold brs; rw [if_neg h1, if_neg (fun q => h2 q.2)]
          rw [e] at ih
          rw [Option.bind_some, if_pos (by rw [ne_eq, n_eq32 hg hy]; exact h2)]
          exact ih
theorem WD_lt32 {n : Nat} {l : List Nat} (hn : n < 8) (h : WD n l) : ∀ z ∈ l, z < 2 ^ 32 := fun z hz => by have := WD_lt h z hz; omega
/-- the network of a word's crossings -/
def wnet (n : Nat) (l : List Nat) : Nat := mk n fun h k => crs k h l
theorem wnet_Pat {n : Nat} {l : List Nat} (hn : n < 8) : Pat n (wnet n l) l := fun a ha b hb => by
  unfold wnet
  rw [mk_adj hn _ ha hb, crs_comm (by omega)]
theorem Pat_wnet {n L : Nat} {l : List Nat} (hn : n < 8) (hL : L < 2 ^ tri n) (h : Pat n L l) : wnet n l = L := net_ext' hn (mk_lt _ _) hL fun a ha b hb => by
  rw [← h a ha b hb, wnet_Pat hn a ha b hb]
theorem c_crossings {M : zM} {a n : Nat} {l : List Nat} (hn : n < 8) (h : AN M a l) (hw : WD n l) : fp_X5_crossings a (nI n) M = some (nI (wnet n l)) := by
  unfold fp_X5_crossings
  let G : Nat → Bool := fun k => crs (pi2 k) (pi1 k) l
  have h0 : (0 : Int32) = nI (bs G (tri 1)) := rfl
  rw [h0, show (1 : Int32) = nI 1 from n_1]
  refine up (P := fun h f => fp_X5_crossings_L4 a (nI n) M f (nI (bs G (tri h))) (nI h) = some (nI (wnet n l))) (a := 1) (n := max 1 n) ?_ ?_ FU (by omega) (FU_gt (by omega))
  · intro f
    by_cases hz : n = 0
    · subst hz
      rw [fp_X5_crossings_L4, if_pos (by decide)]
      rfl
    · rw [show max 1 n = n by omega, fp_X5_crossings_L4, stp]
      rfl
  · intro q f h1 hqn ih
    have hqn' : q < n := by omega
    rw [fp_X5_crossings_L4, go hqn' (by omega)]
    have e : nI (bs G (tri q)) = nI (bs G (tri q + 0)) := rfl
    rw [e, n_0]
    refine up (P := fun k g => fp_X5_crossings_L12 (fun v2_5 => fp_X5_crossings_L4 a (nI n) M f v2_5 (nI q + 1)) a (nI n) (nI q) M g (nI (bs G (tri q + k))) (nI k) = some (nI (wnet n l))) (a := 0) (n := q) ?_ ?_ FU (by omega) (FU_gt (by omega))
    · intro g
      rw [fp_X5_crossings_L12, stp, inc, ← tri_s]
      exact ih
    · intro k g _ hkq ih2
      have hq := pr_tri hkq
      have hq2 := pr_lt21 q (by omega) k (by omega) (by omega)
      obtain ⟨i1, i2⟩ := pr_inv q (by omega) k hkq
      have hG : crs k q l = G (tri q + k) := by
        show _ = crs (pi2 (tri q + k)) (pi1 (tri q + k)) l
        rw [← hq, i1, i2]
      rw [fp_X5_crossings_L12, go hkq (by omega), n_2, n_mul, ← hw.1, c_crossing h (by omega) (by omega) (WD_lt32 hn hw), Option.bind_some, zjn_eq, brs_crs (by omega) (hw.2 k (by omega)) (hw.2 q (by omega)), hG]
      simp only [inc] at ih2 ⊢
      rw [← Nat.add_assoc] at ih2
      cases hb : G (tri q + k) with
      | false =>
        rw [ifF]
        rw [bs_skip hb] at ih2
        exact ih2
      | true =>
        rw [ifT, c_pair _ (by omega) _ (by omega), Option.bind_some, lett_eq, pr_comm, hq, show (1 : Int32) <<< (nI (tri q + k) &&& 31) = nI (1 <<< (tri q + k)) from by rw [n_1, n_shl (by omega)], n_or]
        rw [bs_take hb] at ih2
        exact ih2
theorem c_isChordWord {M : zM} {a n : Nat} {l : List Nat} (hn : n < 8) (h : AN M a l) (he : ∀ y ∈ l, y < 2 ^ 32) (hl : l.length = 2 * n) : (WD n l ∧ fp_X5_isChordWord a (nI l.length) (nI n) M = some 1) ∨ (¬ WD n l ∧ fp_X5_isChordWord a (nI l.length) (nI n) M = some 0) := by
  unfold fp_X5_isChordWord
  rw [if_pos (by rw [n_2, n_mul, hl])]
  have key : (∀ p, p < 0 → l.count p = 2) → (WD n l ∧ fp_X5_isChordWord_L11 a (nI l.length) (nI n) M FU (nI 0) = some 1) ∨ (¬ WD n l ∧ fp_X5_isChordWord_L11 a (nI l.length) (nI n) M FU (nI 0) = some 0) := by
    refine up (P := fun i f => (∀ p, p < i → l.count p = 2) → (WD n l ∧ fp_X5_isChordWord_L11 a (nI l.length) (nI n) M f (nI i) = some 1) ∨ (¬ WD n l ∧ fp_X5_isChordWord_L11 a (nI l.length) (nI n) M f (nI i) = some 0)) (a := 0) (n := n) ?_ ?_ FU (by omega) (FU_gt (by omega))
    · intro f hp
      exact Or.inl ⟨⟨hl, hp⟩, by rw [fp_X5_isChordWord_L11, stp]⟩
    · intro i f _ hi ih hp
      have hc : l.count i ≤ l.length := List.count_le_length
      rw [fp_X5_isChordWord_L11, go hi (by omega), c_count h (by omega) he, Option.bind_some, inc]
      by_cases hq : l.count i = 2
      · rw [if_pos (by rw [hq, n_2])]
        exact ih fun p hpi => by
          by_cases hpe : p = i
          · rw [hpe]; exact hq
          · exact hp p (by omega)
      · rw [if_neg (by rw [n_2, n_eq (by omega) (by omega)]; exact hq)]
        exact Or.inr ⟨fun hw => hq (hw.2 i hi), rfl⟩
  exact key fun p hp => by omega
/-! places -/
theorem c_placeOf {M : zM} {a x i j : Nat} {l : List Nat} (h : AN M a l) (hx : x < 2 ^ 32) (he : ∀ z ∈ l, z < 2 ^ 32) (hij : i ≤ j) (hj : j < l.length) (hv : l.getD j 0 = x) (hno : ∀ k, i ≤ k → k < j → l.getD k 0 ≠ x) : fp_X5_placeOf a (nI l.length) (nI x) (nI i) M = some (nI j) := by
  unfold fp_X5_placeOf
  have hl := AN_lt h
  rw [zjn_eq]
  dsimp only
  rw [if_pos (by rw [n_0, ge_iff_le, n_le (by omega) (by omega)]; omega)]
  have key : ∀ d i f, i + d = j → d < f → (∀ k, i ≤ k → k < j → l.getD k 0 ≠ x) → fp_X5_placeOf_L11 a (nI l.length) (nI x) M f (nI i) = some (nI j) := by
    intro d
    induction d with
    | zero =>
      intro i f h1 h2 h3
      obtain ⟨f, rfl⟩ : ∃ g, f = g + 1 := ⟨f - 1, by omega⟩
      have : i = j := by omega
      subst this
      rw [fp_X5_placeOf_L11, go hj (by omega), AN_n h, Option.bind_some, go2 h hj, AN_l h hj, Option.bind_some, hv, if_neg (fun q => q rfl)]
    | succ d ih =>
      intro i f h1 h2 h3
      obtain ⟨f, rfl⟩ : ∃ g, f = g + 1 := ⟨f - 1, by omega⟩
      have hi : i < l.length := by omega
      rw [fp_X5_placeOf_L11, go hi (by omega), AN_n h, Option.bind_some, go2 h hi, AN_l h hi, Option.bind_some, if_pos (by rw [ne_eq, n_eq32 (he _ (getD_mem hi)) hx]; exact h3 i (Nat.le_refl _) (by omega)), inc]
      exact ih (i + 1) f (by omega) (by omega) fun k hk hkj => h3 k (by omega) hkj
  exact key (j - i) i FU (by omega) (FU_gt (by omega)) hno
/-- both letters of a point -/
theorem two_of {p : Nat} {l : List Nat} (h : l.count p = 2) : ∃ A B C, l = A ++ p :: (B ++ p :: C) ∧ p ∉ A ∧ p ∉ B ∧ p ∉ C := by
  have first : ∀ (l : List Nat) (k : Nat), l.count p = k + 1 → ∃ A B, l = A ++ p :: B ∧ p ∉ A ∧ B.count p = k := by
    intro l
    induction l with
    | nil => intro k h; simp at h
    | cons x l ih =>
      intro k h
      by_cases hx : x = p
      · refine ⟨[], l, by rw [hx]; rfl, by simp, ?_⟩
        rw [List.count_cons, hx] at h
        simpa using h
      · rw [List.count_cons, if_neg (by simpa using hx)] at h
        obtain ⟨A, B, h1, h2, h3⟩ := ih k h
        exact ⟨x :: A, B, by rw [h1]; rfl, by rw [List.mem_cons]; exact fun q => q.elim (fun z => hx z.symm) h2, h3⟩
  obtain ⟨A, R, h1, h2, h3⟩ := first l 1 h
  obtain ⟨B, C, h4, h5, h6⟩ := first R 0 h3
  exact ⟨A, B, C, by rw [h1, h4], h2, h5, List.count_eq_zero.mp h6⟩
theorem gA {A R : List Nat} {k : Nat} (h : k < A.length) : (A ++ R).getD k 0 = A.getD k 0 := getD_app_l h
theorem gR' {A R : List Nat} {k : Nat} : (A ++ R).getD (A.length + k) 0 = R.getD k 0 := by
  simp only [List.getD]
  rw [List.getElem?_append_right (by omega), show A.length + k - A.length = k by omega]
theorem nin {A : List Nat} {p k : Nat} (hp : p ∉ A) (h : k < A.length) : A.getD k 0 ≠ p := fun q => hp (by rw [← q]; exact getD_mem h)
theorem c_place1 {M : zM} {a p i : Nat} {A B C : List Nat} (h : AN M a (A ++ p :: (B ++ p :: C))) (hA : p ∉ A) (hi : i ≤ A.length) (he : ∀ z ∈ A ++ p :: (B ++ p :: C), z < 2 ^ 32) : fp_X5_placeOf a (nI (A ++ p :: (B ++ p :: C)).length) (nI p) (nI i) M = some (nI A.length) := by
  refine c_placeOf h (he p (by simp)) he hi (by simp) ?_ ?_
  · have := gR' (A := A) (R := p :: (B ++ p :: C)) (k := 0)
    rw [Nat.add_zero] at this
    rw [this]; rfl
  · intro k _ hk
    rw [gA hk]; exact nin hA hk
theorem c_place2 {M : zM} {a p i : Nat} {A B C : List Nat} (h : AN M a (A ++ p :: (B ++ p :: C))) (hB : p ∉ B) (hi : A.length < i) (hi2 : i ≤ A.length + 1 + B.length) (he : ∀ z ∈ A ++ p :: (B ++ p :: C), z < 2 ^ 32) : fp_X5_placeOf a (nI (A ++ p :: (B ++ p :: C)).length) (nI p) (nI i) M = some (nI (A.length + 1 + B.length)) := by
  have e : ∀ k, (A ++ p :: (B ++ p :: C)).getD (A.length + 1 + k) 0 = (B ++ p :: C).getD k 0 := by
    intro k
    rw [show A.length + 1 + k = A.length + (k + 1) by omega, gR']
    rfl
  refine c_placeOf h (he p (by simp)) he hi2 (by simp; omega) ?_ ?_
  · rw [e]
    have := gR' (A := B) (R := p :: C) (k := 0)
    rw [Nat.add_zero] at this
    rw [this]; rfl
  · intro k hk hk2
    have : k = A.length + 1 + (k - (A.length + 1)) := by omega
    rw [this, e, gA (by omega)]
    exact nin hB (by omega)

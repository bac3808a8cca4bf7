/-! ===== 44: joined ===== -/
def clo (n L T : Nat) : Prop := ∀ a b, a < n → b < n → T.testBit a = true → adj L a b = true → T.testBit b = true
def Jt (n L p x : Nat) : Prop := x < 2 ^ n ∧ x.testBit p = true ∧ clo n L x ∧ ∀ T, clo n L T → T.testBit p = true → ∀ q, q < n → x.testBit q = true → T.testBit q = true
theorem Jt_uniq {n L p x y : Nat} (hx : Jt n L p x) (hy : Jt n L p y) : x = y := by
  apply Nat.eq_of_testBit_eq
  intro i
  by_cases hi : i < n
  · have h1 := hx.2.2.2 y hy.2.2.1 hy.2.1 i hi
    have h2 := hy.2.2.2 x hx.2.2.1 hx.2.1 i hi
    cases h3 : x.testBit i <;> cases h4 : y.testBit i <;> simp_all
  · rw [tb_of_lt hx.1 (Nat.le_of_not_lt hi), tb_of_lt hy.1 (Nat.le_of_not_lt hi)]
/-- one step of growing: it stays below all that are closed, and takes in all that are near -/
def Grow (n L s s' : Nat) : Prop := s' < 2 ^ n ∧ (∀ q, s.testBit q = true → s'.testBit q = true) ∧ (∀ a b, a < n → b < n → s.testBit a = true → adj L a b = true → s'.testBit b = true) ∧ ∀ T, clo n L T → (∀ q, q < n → s.testBit q = true → T.testBit q = true) → ∀ q, q < n → s'.testBit q = true → T.testBit q = true
theorem Grow_closed {n L s s' : Nat} (h : Grow n L s s') (hs : s < 2 ^ n) (hc : clo n L s) : s' = s := by
  apply Nat.eq_of_testBit_eq
  intro i
  by_cases hi : i < n
  · have h1 := h.2.1 i
    have h2 := h.2.2.2 s hc (fun q _ z => z) i hi
    cases h3 : s'.testBit i <;> cases h4 : s.testBit i <;> simp_all
  · rw [tb_of_lt hs (Nat.le_of_not_lt hi), tb_of_lt h.1 (Nat.le_of_not_lt hi)]
theorem Grow_open {n L s s' : Nat} (h : Grow n L s s') (hc : ¬ clo n L s) : cnt s.testBit n < cnt s'.testBit n := by
  have : ∃ b, b < n ∧ s.testBit b = false ∧ s'.testBit b = true := by
    apply Classical.byContradiction
    intro hn
    apply hc
    intro a b ha hb h1 h2
    have h3 := h.2.2.1 a b ha hb h1 h2
    cases h4 : s.testBit b with
    | true => rfl
    | false => exact absurd ⟨b, hb, h4, h3⟩ hn
  obtain ⟨b, hb, h1, h2⟩ := this
  exact cnt_lt (fun i _ => h.2.1 i) hb h1 h2
/-- after r steps from one point -/
def Gr (n L p r s : Nat) : Prop := s < 2 ^ n ∧ s.testBit p = true ∧ (∀ T, clo n L T → T.testBit p = true → ∀ q, q < n → s.testBit q = true → T.testBit q = true) ∧ (clo n L s ∨ r + 1 ≤ cnt s.testBit n)
theorem Gr_0 {n L p : Nat} (hp : p < n) : Gr n L p 0 (1 <<< p) := by
  refine ⟨set_lt hp, by simp [tb_set], fun T _ h q _ hq => ?_, Or.inr ?_⟩
  · rw [tb_set] at hq
    have : q = p := by simpa using hq
    rw [this]; exact h
  · have h := cnt_lt (f := fun _ => false) (g := (1 <<< p).testBit) (n := n) (k := p) (fun _ _ h => by cases h) hp rfl (by simp [tb_set])
    omega
theorem Gr_s {n L p r s s' : Nat} (h : Gr n L p r s) (hg : Grow n L s s') : Gr n L p (r + 1) s' := by
  obtain ⟨h1, h2, h3, h4⟩ := h
  refine ⟨hg.1, hg.2.1 p h2, fun T hT hp q hq hs' => hg.2.2.2 T hT (fun q hq hs => h3 T hT hp q hq hs) q hq hs', ?_⟩
  by_cases hc : clo n L s
  · rw [Grow_closed hg h1 hc]; exact Or.inl hc
  · have := Grow_open hg hc
    have h5 := h4.resolve_left hc
    exact Or.inr (by omega)
theorem Gr_end {n L p s : Nat} (h : Gr n L p n s) : Jt n L p s := by
  obtain ⟨h1, h2, h3, h4⟩ := h
  have := cnt_le s.testBit n
  exact ⟨h1, h2, h4.resolve_right (by omega), h3⟩
theorem joinedTo_L16 {n L s : Nat} (k : Int32 → Option Int32) (v4 : Int32) (hn : n < 8) (hL : L < 2 ^ tri n) (hs : s < 2 ^ n) : ∃ s', Grow n L s s' ∧ fp_X2_joinedTo_L16 k (nI n) (nI L) v4 FU (nI s) 0 = k (nI s') := by
  have key : ∀ d i t f, i + d = n → d < f → t < 2 ^ n → (∀ q, s.testBit q = true → t.testBit q = true) → (∀ a b, a < i → b < n → s.testBit a = true → adj L a b = true → t.testBit b = true) → (∀ T, clo n L T → (∀ q, q < n → s.testBit q = true → T.testBit q = true) → ∀ q, q < n → t.testBit q = true → T.testBit q = true) → ∃ s', Grow n L s s' ∧ fp_X2_joinedTo_L16 k (nI n) (nI L) v4 f (nI t) (nI i) = k (nI s') := by
    intro d
    induction d with
    | zero =>
      intro i t f h1 h2 h3 h4 h5 h6
      obtain ⟨g, rfl⟩ : ∃ g, f = g + 1 := ⟨f - 1, by omega⟩
      have : i = n := by omega
      subst this
      exact ⟨t, ⟨h3, h4, h5, h6⟩, by rw [fp_X2_joinedTo_L16, stp]⟩
    | succ d ih =>
      intro i t f h1 h2 h3 h4 h5 h6
      obtain ⟨g, rfl⟩ : ∃ g, f = g + 1 := ⟨f - 1, by omega⟩
      have hi : i < n := by omega
      rw [fp_X2_joinedTo_L16, go hi (by omega), c_isIn (Nat.lt_trans (lt128 hn h3) (by decide)) (by omega), Option.bind_some]
      simp only [zjn, lett, bI_0, inc]
      by_cases hb : t.testBit i = true
      · rw [if_neg (by simp [hb]), c_nearTo hn (lt21 hn hL) hi, Option.bind_some, n_or]
        refine ih (i + 1) (t ||| row n L i) g (by omega) (by omega) (Nat.or_lt_two_pow h3 (row_lt _ _ _)) ?_ ?_ ?_
        · intro q hq; rw [Nat.testBit_or, h4 q hq, Bool.true_or]
        · intro a b ha hb2 hsa hab
          rw [Nat.testBit_or]
          by_cases hai : a < i
          · rw [h5 a b hai hb2 hsa hab, Bool.true_or]
          · have : a = i := by omega
            subst this
            rw [row_tb, hab]
            simp [hb2]
        · intro T hT hsT q hq htq
          rw [Nat.testBit_or, Bool.or_eq_true] at htq
          rcases htq with htq | htq
          · exact h6 T hT hsT q hq htq
          · rw [row_tb] at htq
            exact hT i q hi hq (h6 T hT hsT i hi hb) (by simpa [hq] using htq)
      · have hb' : t.testBit i = false := by simpa using hb
        rw [if_pos hb']
        refine ih (i + 1) t g (by omega) (by omega) h3 h4 ?_ h6
        intro a b ha hb2 hsa hab
        by_cases hai : a < i
        · exact h5 a b hai hb2 hsa hab
        · have : a = i := by omega
          subst this
          rw [h4 a hsa] at hb'; cases hb'
  rw [n_0]
  exact key n 0 s FU (by omega) (FU_gt (by omega)) hs (fun _ h => h) (fun a _ ha => by omega) (fun T _ h q hq => h q hq)
theorem c_joinedTo_ex {n L p : Nat} (hn : n < 8) (hL : L < 2 ^ tri n) (hp : p < n) : ∃ x, Jt n L p x ∧ fp_X2_joinedTo (nI n) (nI L) (nI p) = some (nI x) := by
  unfold fp_X2_joinedTo
  simp only [lett]
  rw [n_1, n_shl (by omega)]
  have key : ∀ d i t f, i + d = n → d < f → Gr n L p i t → ∃ x, Jt n L p x ∧ fp_X2_joinedTo_L7 (nI n) (nI L) f (nI t) (nI i) = some (nI x) := by
    intro d
    induction d with
    | zero =>
      intro i t f h1 h2 h3
      obtain ⟨g, rfl⟩ : ∃ g, f = g + 1 := ⟨f - 1, by omega⟩
      have : i = n := by omega
      subst this
      exact ⟨t, Gr_end h3, by rw [fp_X2_joinedTo_L7, stp]⟩
    | succ d ih =>
      intro i t f h1 h2 h3
      obtain ⟨g, rfl⟩ : ∃ g, f = g + 1 := ⟨f - 1, by omega⟩
      rw [fp_X2_joinedTo_L7, go (by omega) (by omega)]
      obtain ⟨s', hs', e⟩ := joinedTo_L16 (fun v3_6 => fp_X2_joinedTo_L7 (nI n) (nI L) g v3_6 (nI i + 1)) (nI i) hn hL h3.1
      rw [e, inc]
      exact ih (i + 1) s' g (by omega) (by omega) (Gr_s h3 hs')
  rw [n_0]
  exact key n 0 _ FU (by omega) (FU_gt (by omega)) (Gr_0 hp)
/-- those that are joined with a point -/
def jt (n L p : Nat) : Nat := ((fp_X2_joinedTo (nI n) (nI L) (nI p)).getD 0).toNatClampNeg
theorem jt_Jt {n L p : Nat} (hn : n < 8) (hL : L < 2 ^ tri n) (hp : p < n) : Jt n L p (jt n L p) := by
  obtain ⟨x, hx, e⟩ := c_joinedTo_ex hn hL hp
  unfold jt
  rw [e, Option.getD_some, n_clamp (Nat.lt_trans (lt128 hn hx.1) (by decide))]
  exact hx
theorem c_joinedTo {n L p : Nat} (hn : n < 8) (hL : L < 2 ^ tri n) (hp : p < n) : fp_X2_joinedTo (nI n) (nI L) (nI p) = some (nI (jt n L p)) := by
  obtain ⟨x, hx, e⟩ := c_joinedTo_ex hn hL hp
  rw [e, Jt_uniq hx (jt_Jt hn hL hp)]
theorem jt_lt {n L p : Nat} (hn : n < 8) (hL : L < 2 ^ tri n) (hp : p < n) : jt n L p < 2 ^ n := (jt_Jt hn hL hp).1
theorem jt_sym {n L p q : Nat} (hn : n < 8) (hL : L < 2 ^ tri n) (hp : p < n) (hq : q < n) (h : (jt n L p).testBit q = true) : (jt n L q).testBit p = true := by
  have Hp := jt_Jt hn hL hp
  have Hq := jt_Jt hn hL hq
  cases hc : (jt n L q).testBit p with
  | true => rfl
  | false =>
    have := Hp.2.2.2 (bs (fun i => (jt n L p).testBit i && !(jt n L q).testBit i) n) ?_ ?_ q hq h
    · rw [bs_tb, Hq.2.1] at this; simp at this
    · intro a b ha hb h1 h2
      rw [bs_tb] at h1 ⊢
      simp only [ha, hb, decide_true, Bool.true_and, Bool.and_eq_true, Bool.not_eq_true'] at h1 ⊢
      refine ⟨Hp.2.2.1 a b ha hb h1.1 h2, ?_⟩
      cases h3 : (jt n L q).testBit b with
      | false => rfl
      | true =>
        have := Hq.2.2.1 b a hb ha h3 (by rw [adj_comm]; exact h2)
        rw [this] at h1; cases h1.2
    · rw [bs_tb, Hp.2.1, hc]; simp [hp]
theorem jt_trans {n L p q r : Nat} (hn : n < 8) (hL : L < 2 ^ tri n) (hp : p < n) (hq : q < n) (hr : r < n) (h : (jt n L p).testBit q = true) (h2 : (jt n L q).testBit r = true) : (jt n L p).testBit r = true :=
  (jt_Jt hn hL hq).2.2.2 _ (jt_Jt hn hL hp).2.2.1 h r hr h2
/-- the least of those that are joined -/
def isLst (n L p : Nat) : Bool := jt n L p &&& (1 <<< p - 1) == 0
theorem isLst_iff {n L p : Nat} (hn : n < 8) (hL : L < 2 ^ tri n) (hp : p < n) : isLst n L p = true ↔ ∀ q, q < p → (jt n L p).testBit q = false := by
  unfold isLst
  rw [beq_iff_eq]
  constructor
  · intro h q hq
    have := congrArg (fun x => x.testBit q) h
    simpa [Nat.testBit_and, all_tb, hq] using this
  · intro h
    apply Nat.eq_of_testBit_eq
    intro i
    rw [Nat.testBit_and, all_tb, Nat.zero_testBit]
    by_cases hi : i < p
    · simp [h i hi]
    · simp [hi]
def nsets (n L : Nat) : Nat := cnt (isLst n L) n
theorem c_joinedSets {n L : Nat} (hn : n < 8) (hL : L < 2 ^ tri n) : fp_X2_joinedSets (nI n) (nI L) = some (nI (nsets n L)) := by
  unfold fp_X2_joinedSets
  rw [n_0, show fp_X2_joinedSets_L4 (nI n) (nI L) FU (nI 0) (nI 0) = fp_X2_joinedSets_L4 (nI n) (nI L) FU (nI (cnt (isLst n L) 0)) (nI 0) from by rw [show cnt (isLst n L) 0 = 0 from rfl]]
  refine up (P := fun i f => fp_X2_joinedSets_L4 (nI n) (nI L) f (nI (cnt (isLst n L) i)) (nI i) = some (nI (nsets n L))) (a := 0) (n := n) ?_ ?_ FU (by omega) (FU_gt (by omega))
  · intro f
    rw [fp_X2_joinedSets_L4, stp]; rfl
  · intro i f _ hi ih
    rw [fp_X2_joinedSets_L4, go hi (by omega), c_joinedTo hn hL hi, Option.bind_some, c_isLeastOf (by omega), Option.bind_some]
    simp only [zjn, bI_0, inc]
    rw [show (jt n L i &&& 1 <<< i - 1 == 0) = isLst n L i from rfl]
    simp only [cnt] at ih
    cases h : isLst n L i with
    | true => rw [h] at ih; rw [if_neg (by simp)]; exact ih
    | false => rw [h] at ih; rw [if_pos rfl]; exact ih
/-- all are joined -/
def joi (n L : Nat) : Bool := n == 0 || jt n L 0 == 1 <<< n - 1
theorem c_joined {n L : Nat} (hn : n < 8) (hL : L < 2 ^ tri n) : fp_X2_joined (nI n) (nI L) = some (bI (joi n L)) := by
  unfold fp_X2_joined
  simp only [zjn]
  by_cases h : n = 0
  · subst h; rfl
  · rw [if_neg (by rw [n_0, n_eq (by omega) (by omega)]; exact h), n_0, c_joinedTo hn hL (by omega), Option.bind_some, c_everyPoint n (by omega), Option.bind_some]
    have hlt : jt n L 0 < 2 ^ 31 := Nat.lt_trans (lt128 hn (jt_lt hn hL (by omega))) (by decide)
    have hlt2 : 1 <<< n - 1 < 2 ^ 31 := by
      rw [all_eq]; have := Nat.pow_lt_pow_right (a := 2) (by decide) (show n < 31 by omega); omega
    unfold joi
    by_cases h2 : jt n L 0 = 1 <<< n - 1
    · rw [if_neg (by rw [h2]; exact fun q => q rfl)]; simp [h2, bI]
    · rw [if_pos (by rw [ne_eq, n_eq hlt hlt2]; exact h2)]; simp [h, h2, bI]; exact n_0.symm
theorem joi_iff {n L : Nat} (hn : n < 8) (hL : L < 2 ^ tri n) : joi n L = true ↔ nsets n L < 2 := by
  by_cases h : n = 0
  · subst h; simp [joi, nsets, cnt]
  have h0 : isLst n L 0 = true := (isLst_iff hn hL (by omega)).mpr (fun q hq => by omega)
  have J0 := jt_Jt hn hL (show 0 < n by omega)
  have e : joi n L = true ↔ ∀ q, q < n → (jt n L 0).testBit q = true := by
    unfold joi
    simp only [Bool.or_eq_true, beq_iff_eq, h, false_or]
    constructor
    · intro e q hq; rw [e, all_tb]; simp [hq]
    · intro e
      apply Nat.eq_of_testBit_eq
      intro i
      rw [all_tb]
      by_cases hi : i < n
      · rw [e i hi]; simp [hi]
      · rw [tb_of_lt J0.1 (Nat.le_of_not_lt hi)]; simp [hi]
  rw [e]
  have c1 : nsets n L = 1 + cnt (fun i => isLst n L (1 + i)) (n - 1) := by
    unfold nsets
    obtain ⟨m, rfl⟩ : ∃ m, n = 1 + m := ⟨n - 1, by omega⟩
    rw [cnt_add]
    simp [cnt, h0]
  constructor
  · intro hall
    rw [c1, cnt_none]
    · omega
    · intro i hi
      cases hq : isLst n L (1 + i) with
      | false => rfl
      | true =>
        have h1 := (isLst_iff hn hL (show 1 + i < n by omega)).mp hq 0 (by omega)
        have h2 := jt_sym hn hL (show 0 < n by omega) (show 1 + i < n by omega) (hall (1 + i) (by omega))
        rw [h1] at h2; cases h2
  · intro hlt
    apply Classical.byContradiction
    intro hno
    have : ∃ q, q < n ∧ (jt n L 0).testBit q = false ∧ ∀ r, r < q → (jt n L 0).testBit r = true := by
      have hex : ∃ q, q < n ∧ (jt n L 0).testBit q = false := by
        apply Classical.byContradiction
        intro hne
        apply hno
        intro q hq
        cases hv : (jt n L 0).testBit q with
        | true => rfl
        | false => exact absurd ⟨q, hq, hv⟩ hne
      have main : ∀ m q, q ≤ m → q < n → (jt n L 0).testBit q = false → ∃ q, q < n ∧ (jt n L 0).testBit q = false ∧ ∀ r, r < q → (jt n L 0).testBit r = true := by
        intro m
        induction m with
        | zero =>
          intro q hq hqn hv
          have : q = 0 := by omega
          subst this
          rw [J0.2.1] at hv; cases hv
        | succ m ih =>
          intro q hq hqn hv
          by_cases hr : ∃ r, r < q ∧ (jt n L 0).testBit r = false
          · obtain ⟨r, hr1, hr2⟩ := hr
            exact ih r (by omega) (by omega) hr2
          · refine ⟨q, hqn, hv, fun r hrq => ?_⟩
            cases hv2 : (jt n L 0).testBit r with
            | true => rfl
            | false => exact absurd ⟨r, hrq, hv2⟩ hr
      obtain ⟨q, hq, hv⟩ := hex
      exact main q q (Nat.le_refl _) hq hv
    obtain ⟨q, hq, hv, hmin⟩ := this
    have hq0 : q ≠ 0 := by intro z; subst z; rw [J0.2.1] at hv; cases hv
    have hl : isLst n L q = true := (isLst_iff hn hL hq).mpr fun r hr => by
      cases hv2 : (jt n L q).testBit r with
      | false => rfl
      | true =>
        have h1 := jt_sym hn hL hq (by omega) hv2
        have h2 := jt_trans hn hL (show 0 < n by omega) (show r < n by omega) hq (hmin r hr) h1
        rw [h2] at hv; cases hv
    have : cnt (fun _ => false) (n - 1) < cnt (fun i => isLst n L (1 + i)) (n - 1) := cnt_lt (fun _ _ h => by cases h) (k := q - 1) (by omega) rfl (by show isLst n L (1 + (q - 1)) = true; rw [show 1 + (q - 1) = q by omega]; exact hl)
    omega

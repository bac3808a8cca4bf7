/-! ===== 54: the list of models; how a search comes to it ===== -/
def allW (n : Nat) : Nat → List (List Nat)
  | 0 => [[]]
  | k + 1 => (List.range n).flatMap fun p => (allW n k).map (p :: ·)
theorem allW_mem {n k : Nat} {w : List Nat} (h : w ∈ allW n k) : w.length = k ∧ ∀ x ∈ w, x < n := by
  induction k generalizing w with
  | zero =>
    have : w = [] := by simpa [allW] using h
    subst this
    exact ⟨rfl, fun x hx => by cases hx⟩
  | succ k ih =>
    rw [allW, List.mem_flatMap] at h
    obtain ⟨p, hp, h⟩ := h
    rw [List.mem_map] at h
    obtain ⟨v, hv, rfl⟩ := h
    obtain ⟨h1, h2⟩ := ih hv
    refine ⟨by rw [List.length_cons, h1], fun x hx => ?_⟩
    rcases List.mem_cons.mp hx with rfl | hx
    · exact List.mem_range.mp hp
    · exact h2 x hx
theorem mem_allW {n : Nat} {w : List Nat} (h : ∀ x ∈ w, x < n) : w ∈ allW n w.length := by
  induction w with
  | nil => simp [allW]
  | cons x w ih =>
    rw [List.length_cons, allW, List.mem_flatMap]
    exact ⟨x, List.mem_range.mpr (h x List.mem_cons_self), List.mem_map.mpr ⟨w, ih fun y hy => h y (List.mem_cons_of_mem _ hy), rfl⟩⟩
/-- all continuations for which P holds, in their order -/
def Ex (P : List Nat → Bool) (n : Nat) (pre : List Nat) (k : Nat) : List (List Nat) := ((allW n k).map (pre ++ ·)).filter P
theorem Ex_0 (P : List Nat → Bool) (n : Nat) (pre : List Nat) : Ex P n pre 0 = if P pre then [pre] else [] := by
  unfold Ex
  rw [allW, List.map_singleton, List.append_nil, List.filter_cons]
  split <;> rfl
/-- the continuations by the letters ahead of a letter -/
def ExN (P : List Nat → Bool) (n : Nat) (pre : List Nat) (k : Nat) : Nat → List (List Nat)
  | 0 => []
  | p + 1 => ExN P n pre k p ++ Ex P n (pre ++ [p]) k
theorem Ex_s (P : List Nat → Bool) (n : Nat) (pre : List Nat) (k : Nat) : Ex P n pre (k + 1) = ExN P n pre k n := by
  unfold Ex
  rw [allW]
  have key : ∀ m, (((List.range m).flatMap fun p => (allW n k).map (p :: ·)).map (pre ++ ·)).filter P = ExN P n pre k m := by
    intro m
    induction m with
    | zero => rfl
    | succ m ih =>
      rw [List.range_succ, List.flatMap_append, List.map_append, List.filter_append, ih, ExN]
      congr 1
      rw [List.flatMap_singleton, List.map_map]
      unfold Ex
      congr 1
      apply List.map_congr_left
      intro s _
      simp
  exact key n
theorem Ex_none {P : List Nat → Bool} {n : Nat} {pre : List Nat} {k : Nat} (h : ∀ s, s.length = k → (∀ x ∈ s, x < n) → P (pre ++ s) = false) : Ex P n pre k = [] := by
  unfold Ex
  rw [List.filter_eq_nil_iff]
  intro w hw
  rw [List.mem_map] at hw
  obtain ⟨s, hs, rfl⟩ := hw
  obtain ⟨h1, h2⟩ := allW_mem hs
  rw [h s h1 h2]
  decide
theorem Ex_mem {P : List Nat → Bool} {n : Nat} {pre w : List Nat} {k : Nat} : w ∈ Ex P n pre k ↔ P w = true ∧ ∃ s, w = pre ++ s ∧ s.length = k ∧ ∀ x ∈ s, x < n := by
  unfold Ex
  rw [List.mem_filter, List.mem_map]
  constructor
  · rintro ⟨⟨s, hs, rfl⟩, hP⟩
    obtain ⟨h1, h2⟩ := allW_mem hs
    exact ⟨hP, s, rfl, h1, h2⟩
  · rintro ⟨hP, s, rfl, h1, h2⟩
    exact ⟨⟨s, by rw [← h1]; exact mem_allW h2, rfl⟩, hP⟩
/-! a word of this pattern -/
def Vw (n L : Nat) (w : List Nat) : Prop := WD n w ∧ Pat n L w ∧ w.headD 0 = 0
noncomputable def vB (n L : Nat) (w : List Nat) : Bool := @decide (Vw n L w) (Classical.propDecidable _)
theorem vB_iff {n L : Nat} {w : List Nat} : vB n L w = true ↔ Vw n L w := by
  unfold vB
  exact @decide_eq_true_iff _ (Classical.propDecidable _)
theorem vB_f {n L : Nat} {w : List Nat} (h : ¬ Vw n L w) : vB n L w = false := by
  cases hb : vB n L w with
  | false => rfl
  | true => exact absurd (vB_iff.mp hb) h
def lstB (w : List Nat) : Bool := !ltL (rdg w 0 false) w && (!ltL (rdg w (sec w) true) w && !ltL (rdg w (sec w) false) w)
noncomputable def modB (n L : Nat) (w : List Nat) : Bool := vB n L w && lstB w
/-- the models -/
noncomputable def Mods (n L : Nat) : List (List Nat) := Ex (modB n L) n [] (2 * n)
/-! what stands so far, and in which order the open ones must close -/
def Gd (n L : Nat) (pre c : List Nat) : Prop :=
  (∀ p ∈ pre, p < n ∧ (pre ++ c).count p = 2) ∧ (∀ p ∈ c, p ∈ pre ∧ c.count p = 1) ∧ (∀ p ∈ pre, ∀ q ∈ pre, p ≠ q → crs p q (pre ++ c) = adj L p q) ∧ ∀ p ∈ pre, p ∉ c → ∀ w, w < n → w ∉ pre → adj L p w = false
/-- a word goes on so -/
def Go (n L : Nat) (pre s : List Nat) : Prop := WD n (pre ++ s) ∧ Pat n L (pre ++ s)
theorem Gd_c {n L p : Nat} {pre c : List Nat} (h : Gd n L pre c) (hp : p ∈ c) : pre.count p = 1 ∧ c.count p = 1 ∧ p < n ∧ p ∈ pre := by
  obtain ⟨h1, h2⟩ := h.2.1 p hp
  obtain ⟨h3, h4⟩ := h.1 p h1
  rw [List.count_append] at h4
  exact ⟨by omega, h2, h3, h1⟩
theorem Gd_nc {n L p : Nat} {pre c : List Nat} (h : Gd n L pre c) (hp : p ∈ pre) (hc : p ∉ c) : pre.count p = 2 := by
  obtain ⟨h3, h4⟩ := h.1 p hp
  rw [List.count_append, List.count_eq_zero.mpr hc] at h4
  omega
theorem b11 {s : List Bool} (h1 : s.count true = 1) (h2 : s.count false = 1) : s = [true, false] ∨ s = [false, true] := by
  have h := len_TF s
  rw [h1, h2] at h
  rcases s with _ | ⟨a, _ | ⟨b, _ | ⟨c, s⟩⟩⟩ <;> simp at h
  cases a <;> cases b <;> simp_all
theorem bT {s : List Bool} {k : Nat} (h1 : s.count true = k) (h2 : s.count false = 0) : s = List.replicate k true := by
  induction s generalizing k with
  | nil => simp at h1; subst h1; rfl
  | cons x s ih =>
    cases x with
    | false => simp at h2
    | true =>
      simp at h1 h2
      obtain ⟨j, rfl⟩ : ∃ j, k = j + 1 := ⟨k - 1, by omega⟩
      rw [List.replicate_succ, ih (k := j) (by omega) (by simpa using h2)]
theorem bF {s : List Bool} {k : Nat} (h1 : s.count true = 0) (h2 : s.count false = k) : s = List.replicate k false := by
  induction s generalizing k with
  | nil => simp at h2; subst h2; rfl
  | cons x s ih =>
    cases x with
    | true => simp at h1
    | false =>
      simp at h1 h2
      obtain ⟨j, rfl⟩ : ∃ j, k = j + 1 := ⟨k - 1, by omega⟩
      rw [List.replicate_succ, ih (k := j) (by simpa using h1) (by omega)]
theorem Go_count {n L p : Nat} {pre s : List Nat} (h : Go n L pre s) (hp : p < n) : pre.count p + s.count p = 2 := by
  rw [← List.count_append]; exact h.1.2 p hp
/-- the order in which two open ones close stands fast -/
theorem Gd_ord {n L a b : Nat} {pre c s : List Nat} (h : Gd n L pre c) (hg : Go n L pre s) (ha : a ∈ c) (hb : b ∈ c) (hab : a ≠ b) : sig a b s = sig a b c := by
  obtain ⟨a1, a2, a3, a4⟩ := Gd_c h ha
  obtain ⟨b1, b2, b3, b4⟩ := Gd_c h hb
  have ga := Go_count hg a3
  have gb := Go_count hg b3
  have e1 := h.2.2.1 a a4 b b4 hab
  rw [← Pat_adj hg.2 a3 b3 hab] at e1
  unfold crs at e1
  rw [sig_app, sig_app] at e1
  have p1 := b11 (s := sig a b pre) (by rw [sig_T, a1]) (by rw [sig_F hab, b1])
  have p2 := b11 (s := sig a b c) (by rw [sig_T, a2]) (by rw [sig_F hab, b2])
  have p3 := b11 (s := sig a b s) (by rw [sig_T]; omega) (by rw [sig_F hab]; omega)
  rcases p1 with p1 | p1 <;> rcases p2 with p2 | p2 <;> rcases p3 with p3 | p3 <;> rw [p1, p2, p3] at e1 <;> rw [p2, p3] <;> revert e1 <;> decide
theorem Gd_next {n L x : Nat} {pre c s : List Nat} (h : Gd n L pre c) (hg : Go n L pre (x :: s)) (hx : x ∈ pre) : ∃ c', c = x :: c' := by
  have hxn := (h.1 x hx).1
  have hc := Go_count hg hxn
  rw [List.count_cons_self] at hc
  have hxc : x ∈ c := by
    apply Classical.byContradiction
    intro hn
    have := Gd_nc h hx hn
    omega
  cases c with
  | nil => cases hxc
  | cons y c =>
    by_cases hxy : x = y
    · exact ⟨c, by rw [hxy]⟩
    · have e := Gd_ord h hg hxc List.mem_cons_self hxy
      rw [sig_cons, if_pos rfl, sig_cons, if_neg (fun q => hxy q.symm), if_pos rfl] at e
      exact absurd (List.cons.inj e).1 (by decide)
/-- behind the last letter of a point none may begin that crosses it -/
theorem Gd_shut {n L x w : Nat} {pre c s : List Nat} (h : Gd n L pre (x :: c)) (hg : Go n L pre (x :: s)) (hw : w < n) (hwp : w ∉ pre) : adj L x w = false := by
  obtain ⟨a1, a2, a3, a4⟩ := Gd_c h List.mem_cons_self
  have hne : x ≠ w := fun q => hwp (q ▸ a4)
  have hx := Go_count hg a3
  have hw2 := Go_count hg hw
  rw [List.count_cons_self] at hx
  rw [List.count_cons_of_ne hne, List.count_eq_zero.mpr hwp] at hw2
  have p1 : sig x w pre = [true] := bT (k := 1) (by rw [sig_T, a1]) (by rw [sig_F hne, List.count_eq_zero.mpr hwp])
  have p2 : sig x w s = [false, false] := bF (k := 2) (by rw [sig_T]; omega) (by rw [sig_F hne]; omega)
  rw [← Pat_adj hg.2 a3 hw hne]
  unfold crs
  rw [sig_app, sig_cons, if_pos rfl, p1, p2]
  decide
theorem Gd_close {n L x : Nat} {pre c : List Nat} (h : Gd n L pre (x :: c)) (hw : ∀ w, w < n → w ∉ pre → adj L x w = false) : Gd n L (pre ++ [x]) c := by
  obtain ⟨a1, a2, a3, a4⟩ := Gd_c h List.mem_cons_self
  have e : (pre ++ [x]) ++ c = pre ++ x :: c := by simp
  have hm : ∀ p, p ∈ pre ++ [x] ↔ p ∈ pre := fun p => by
    simp only [List.mem_append, List.mem_singleton]
    exact ⟨fun q => q.elim id (fun q => q ▸ a4), Or.inl⟩
  rw [List.count_cons_self] at a2
  have hxc : x ∉ c := List.count_eq_zero.mp (by omega)
  refine ⟨fun p hp => ?_, fun p hp => ?_, fun p hp q hq hpq => ?_, fun p hp hpc w hwn hwp => ?_⟩
  · rw [e]; exact h.1 p ((hm p).mp hp)
  · have := h.2.1 p (List.mem_cons_of_mem _ hp)
    have hne : x ≠ p := fun q => hxc (q ▸ hp)
    rw [List.count_cons_of_ne hne] at this
    exact ⟨(hm p).mpr this.1, this.2⟩
  · rw [e]; exact h.2.2.1 p ((hm p).mp hp) q ((hm q).mp hq) hpq
  · have hwp' : w ∉ pre := fun q => hwp ((hm w).mpr q)
    by_cases hpx : p = x
    · rw [hpx]; exact hw w hwn hwp'
    · exact h.2.2.2 p ((hm p).mp hp) (by simp [hpx, hpc]) w hwn hwp'
/-- how many of the open ones a new one crosses -/
def kk (L x : Nat) (c : List Nat) : Nat := (c.filter fun q => adj L x q).length
def fitsB (L x : Nat) (c : List Nat) : Bool := (c.take (kk L x c)).all fun q => adj L x q
theorem Gd_fits {n L x : Nat} {pre c s : List Nat} (h : Gd n L pre c) (hg : Go n L pre (x :: s)) (hx : x < n) (hxp : x ∉ pre) : fitsB L x c = true := by
  have hc := Go_count hg hx
  rw [List.count_cons_self, List.count_eq_zero.mpr hxp] at hc
  obtain ⟨S1, S2, hs, hS1⟩ : ∃ S1 S2, s = S1 ++ x :: S2 ∧ x ∉ S1 := by
    obtain ⟨A', B', C', e1, e2, e3, e4⟩ := two_of (p := x) (l := x :: s) (by rw [List.count_cons_self]; omega)
    cases A' with
    | nil => exact ⟨B', C', (List.cons.inj e1).2, e3⟩
    | cons y A' =>
      have := (List.cons.inj e1).1
      exact absurd (by rw [this]; exact List.mem_cons_self) e2
  have hS2 : x ∉ S2 := by
    rw [hs, List.count_append, List.count_cons_self] at hc
    exact List.count_eq_zero.mp (by omega)
  have hadj : ∀ q ∈ c, adj L x q = (S1.count q == 1) ∧ S1.count q + S2.count q = 1 := by
    intro q hq
    obtain ⟨a1, a2, a3, a4⟩ := Gd_c h hq
    have hne : x ≠ q := fun z => hxp (z ▸ a4)
    have hgq := Go_count hg a3
    refine ⟨?_, ?_⟩
    · rw [← Pat_adj hg.2 hx a3 hne, hs]
      have h2 := hg.1.2 q a3
      rw [hs] at h2
      exact crs_p hne hxp hS1 hS2 h2
    · rw [hs, List.count_cons_of_ne hne, List.count_append, List.count_cons_of_ne hne] at hgq
      omega
  -- one that it crosses closes ahead of one that it does not
  have hord : ∀ i j, i < j → j < c.length → adj L x (c.getD j 0) = true → adj L x (c.getD i 0) = true := by
    intro i j hij hj hb
    cases ha : adj L x (c.getD i 0) with
    | true => rfl
    | false =>
      have mi := getD_mem (l := c) (i := i) (by omega)
      have mj := getD_mem hj
      have hne : c.getD i 0 ≠ c.getD j 0 := fun q => by rw [q, hb] at ha; cases ha
      obtain ⟨e1, e2⟩ := hadj _ mi
      obtain ⟨e3, e4⟩ := hadj _ mj
      rw [ha] at e1
      rw [hb] at e3
      have c1 : S1.count (c.getD j 0) = 1 := by simpa using e3.symm
      have c2 : S1.count (c.getD i 0) = 0 := by
        have : ¬ S1.count (c.getD i 0) = 1 := fun q => by rw [q] at e1; simp at e1
        omega
      have h1 := Gd_ord h hg mi mj hne
      have hxi : ¬ x = c.getD i 0 := fun q => hxp (q ▸ (Gd_c h mi).2.2.2)
      have hxj : ¬ x = c.getD j 0 := fun q => hxp (q ▸ (Gd_c h mj).2.2.2)
      rw [hs, sig_cons, if_neg hxi, if_neg hxj, sig_app, sig_cons, if_neg hxi, if_neg hxj] at h1
      have q1 : sig (c.getD i 0) (c.getD j 0) S1 = [false] := bF (k := 1) (by rw [sig_T, c2]) (by rw [sig_F hne, c1])
      rw [q1] at h1
      -- but in c the first stands ahead
      have hcs : c = c.take j ++ c.getD j 0 :: c.drop (j + 1) := by
        have := List.take_append_drop j c
        rw [List.drop_eq_getElem_cons hj] at this
        have e : c[j] = c.getD j 0 := by simp [List.getD, hj]
        rw [e] at this
        exact this.symm
      have mi2 : c.getD i 0 ∈ c.take j := by
        have : (c.take j).getD i 0 = c.getD i 0 := by simp [List.getD, List.getElem?_take, hij]
        rw [← this]
        exact getD_mem (by rw [List.length_take]; omega)
      have nj : c.getD j 0 ∉ c.take j := by
        have := (Gd_c h mj).2.1
        rw [hcs] at this
        intro hm
        have hp := List.count_pos_iff.mpr hm
        have e : (c.take j ++ c.getD j 0 :: c.drop (j + 1)).getD j 0 = c.getD j 0 := by rw [← hcs]
        rw [e] at this
        rw [List.count_append, List.count_cons_self] at this
        omega
      have q2 : sig (c.getD i 0) (c.getD j 0) (c.take j) = List.replicate ((c.take j).count (c.getD i 0)) true := bT (by rw [sig_T]) (by rw [sig_F hne]; exact List.count_eq_zero.mpr nj)
      obtain ⟨k, hk⟩ : ∃ k, (c.take j).count (c.getD i 0) = k + 1 := ⟨(c.take j).count (c.getD i 0) - 1, by have := List.count_pos_iff.mpr mi2; omega⟩
      rw [hk, List.replicate_succ] at q2
      have q3 : sig (c.getD i 0) (c.getD j 0) c = sig (c.getD i 0) (c.getD j 0) (c.take j) ++ sig (c.getD i 0) (c.getD j 0) (c.drop j) := by rw [← sig_app, List.take_append_drop]
      rw [q3, q2] at h1
      exact absurd (List.cons.inj h1).1 (by decide)
  -- so all that it crosses stand first
  have main : ∀ (c : List Nat), (∀ i j, i < j → j < c.length → adj L x (c.getD j 0) = true → adj L x (c.getD i 0) = true) → fitsB L x c = true := by
    intro c
    induction c with
    | nil => intro _; rfl
    | cons y c ih =>
      intro hc
      cases hy : adj L x y with
      | true =>
        have h1 := ih fun i j hij hj hb => hc (i + 1) (j + 1) (by omega) (by simp; omega) hb
        unfold fitsB kk at h1 ⊢
        rw [List.filter_cons, if_pos hy, List.length_cons, List.take_succ_cons, List.all_cons, hy, Bool.true_and]
        exact h1
      | false =>
        have : ∀ q ∈ c, adj L x q = false := by
          intro q hq
          cases hb : adj L x q with
          | false => rfl
          | true =>
            obtain ⟨j, hj, e⟩ := List.getElem_of_mem hq
            have := hc 0 (j + 1) (by omega) (by simp; omega) (by simp [List.getD, hj, e, hb])
            simp [List.getD, hy] at this
        have e : kk L x (y :: c) = 0 := by
          unfold kk
          rw [List.filter_cons, if_neg (by rw [hy]; decide), List.filter_eq_nil_iff.mpr (fun q hq => by rw [this q hq]; decide)]
          rfl
        unfold fitsB
        rw [e]; rfl
  exact main c hord
theorem kk_le (L x : Nat) (c : List Nat) : kk L x c ≤ c.length := List.length_filter_le _ _
theorem fits_drop {L x : Nat} {c : List Nat} (h : fitsB L x c = true) : ∀ q ∈ c.drop (kk L x c), adj L x q = false := by
  have h1 : (c.take (kk L x c)).filter (fun q => adj L x q) = c.take (kk L x c) := List.filter_eq_self.mpr fun q hq => List.all_eq_true.mp h q hq
  have h2 : (c.filter fun q => adj L x q) = (c.take (kk L x c)).filter (fun q => adj L x q) ++ (c.drop (kk L x c)).filter (fun q => adj L x q) := by rw [← List.filter_append, List.take_append_drop]
  have h3 := congrArg List.length h2
  rw [h1, List.length_append, List.length_take, Nat.min_eq_left (kk_le _ _ _)] at h3
  have h4 : ((c.drop (kk L x c)).filter fun q => adj L x q) = [] := List.eq_nil_of_length_eq_zero (by unfold kk at h3 ⊢; omega)
  intro q hq
  have := List.filter_eq_nil_iff.mp h4 q hq
  simpa using this
/-- the order with a new one in it -/
def ins (L x : Nat) (c : List Nat) : List Nat := c.take (kk L x c) ++ x :: c.drop (kk L x c)
theorem Gd_open {n L x : Nat} {pre c : List Nat} (h : Gd n L pre c) (hx : x < n) (hxp : x ∉ pre) (hf : fitsB L x c = true) : Gd n L (pre ++ [x]) (ins L x c) := by
  have hcp : ∀ q ∈ c, q ∈ pre := fun q hq => (h.2.1 q hq).1
  have hxc : x ∉ c := fun q => hxp (hcp x q)
  have hcc : ∀ p, (ins L x c).count p = c.count p + (if x = p then 1 else 0) := by
    intro p
    unfold ins
    rw [List.count_append, List.count_cons]
    have : c.count p = (c.take (kk L x c)).count p + (c.drop (kk L x c)).count p := by rw [← List.count_append, List.take_append_drop]
    rw [this]
    by_cases q : x = p
    · simp [q]; omega
    · have : ¬ (x == p) = true := by simpa using q
      simp [q]
  have hmem : ∀ p, p ∈ ins L x c ↔ p = x ∨ p ∈ c := by
    intro p
    rw [← List.count_pos_iff, hcc]
    by_cases q : x = p
    · simp [q]
    · have q' : ¬ p = x := fun z => q z.symm
      rw [if_neg q, Nat.add_zero, List.count_pos_iff]
      simp [q']
  have hss : ∀ p q, p ≠ x → q ≠ x → sig p q ((pre ++ [x]) ++ ins L x c) = sig p q (pre ++ c) := by
    intro p q hp hq
    unfold ins
    have e : ∀ X, sig p q (x :: X) = sig p q X := fun X => by rw [sig_cons, if_neg (fun z => hp z.symm), if_neg (fun z => hq z.symm)]
    rw [sig_app, sig_app, sig_app p q (List.take _ _), e (List.drop _ _), ← sig_app p q (List.take _ _), List.take_append_drop]
    rw [show sig p q [x] = sig p q [] from e [], show sig p q [] = [] from rfl, List.append_nil, ← sig_app]
  have hxq : ∀ q ∈ pre, crs x q ((pre ++ [x]) ++ ins L x c) = adj L x q := by
    intro q hq
    have hne : x ≠ q := fun z => hxp (z ▸ hq)
    have e : (pre ++ [x]) ++ ins L x c = pre ++ x :: (c.take (kk L x c) ++ x :: c.drop (kk L x c)) := by unfold ins; simp
    have h2 : (pre ++ x :: (c.take (kk L x c) ++ x :: c.drop (kk L x c))).count q = 2 := by
      have := (h.1 q hq).2
      rw [← e, List.count_append, List.count_append, hcc, if_neg hne, List.count_singleton]
      rw [List.count_append] at this
      have hb : (x == q) = false := by simpa using hne
      rw [hb]
      simp; omega
    rw [e, crs_p hne hxp (fun z => hxc (List.mem_of_mem_take z)) (fun z => hxc (List.mem_of_mem_drop z)) h2]
    by_cases hqc : q ∈ c
    · have hc1 := (h.2.1 q hqc).2
      have hsum : (c.take (kk L x c)).count q + (c.drop (kk L x c)).count q = 1 := by rw [← List.count_append, List.take_append_drop, hc1]
      by_cases hqt : q ∈ c.take (kk L x c)
      · have h3 := List.all_eq_true.mp hf q hqt
        have h4 := List.count_pos_iff.mpr hqt
        rw [h3]
        have : (c.take (kk L x c)).count q = 1 := by omega
        rw [this]; rfl
      · have h4 := List.count_eq_zero.mpr hqt
        have hqd : q ∈ c.drop (kk L x c) := List.count_pos_iff.mp (by omega)
        rw [fits_drop hf q hqd, h4]; rfl
    · have h4 : (c.take (kk L x c)).count q = 0 := List.count_eq_zero.mpr fun z => hqc (List.mem_of_mem_take z)
      rw [h4, adj_comm, h.2.2.2 q hq hqc x hx hxp]; rfl
  refine ⟨fun p hp => ?_, fun p hp => ?_, fun p hp q hq hpq => ?_, fun p hp hpc w hwn hwp => ?_⟩
  · rw [List.mem_append, List.mem_singleton] at hp
    by_cases hpx : p = x
    · subst hpx
      refine ⟨hx, ?_⟩
      rw [List.count_append, List.count_append, hcc, List.count_eq_zero.mpr hxp, List.count_eq_zero.mpr hxc]
      simp
    · have hp' := hp.resolve_right hpx
      obtain ⟨h1, h2⟩ := h.1 p hp'
      refine ⟨h1, ?_⟩
      rw [List.count_append] at h2
      have hb : (x == p) = false := by simpa using fun z : x = p => hpx z.symm
      rw [List.count_append, List.count_append, hcc, if_neg (fun z => hpx z.symm), List.count_singleton, hb]
      simp; omega
  · rcases (hmem p).mp hp with hpx | hpc
    · subst hpx
      refine ⟨by simp, ?_⟩
      rw [hcc, List.count_eq_zero.mpr hxc]; simp
    · obtain ⟨h1, h2⟩ := h.2.1 p hpc
      have hne : ¬ x = p := fun z => hxc (z ▸ hpc)
      exact ⟨List.mem_append_left _ h1, by rw [hcc, if_neg hne, h2]⟩
  · rw [List.mem_append, List.mem_singleton] at hp hq
    by_cases hpx : p = x
    · rw [hpx] at hpq ⊢
      exact hxq q (hq.resolve_right fun z => hpq z.symm)
    · by_cases hqx : q = x
      · rw [hqx] at hpq ⊢
        rw [crs_comm (fun z => hpq z.symm), adj_comm]
        exact hxq p (hp.resolve_right hpx)
      · unfold crs
        rw [hss p q hpx hqx]
        exact h.2.2.1 p (hp.resolve_right hpx) q (hq.resolve_right hqx) hpq
  · have hpx : p ≠ x := fun z => hpc ((hmem p).mpr (Or.inl z))
    rw [List.mem_append, List.mem_singleton] at hp
    exact h.2.2.2 p (hp.resolve_right hpx) (fun z => hpc ((hmem p).mpr (Or.inr z))) w hwn (fun z => hwp (List.mem_append_left _ z))
/-- all begun: it can end in one way only -/
theorem Gd_full {n L : Nat} {pre c : List Nat} (h : Gd n L pre c) (hall : ∀ p, p < n → p ∈ pre) : WD n (pre ++ c) ∧ Pat n L (pre ++ c) := by
  have hlt : ∀ x ∈ pre ++ c, x < n := fun x hx => by
    rcases List.mem_append.mp hx with q | q
    · exact (h.1 x q).1
    · exact (Gd_c h q).2.2.1
  refine ⟨⟨?_, fun p hp => (h.1 p (hall p hp)).2⟩, fun a ha b hb => h.2.2.1 a (hall a ha) b (hall b (by omega)) (by omega)⟩
  rw [count_sum n, smN_congr (g := fun _ => 2) (fun i hi => (h.1 i (hall i hi)).2), smN_const]
  have : cntGe n (pre ++ c) = 0 := by
    unfold cntGe
    rw [List.countP_eq_zero]
    intro x hx
    have := hlt x hx
    simp; omega
  omega
theorem Gd_end {n L : Nat} {pre c s : List Nat} (h : Gd n L pre c) (hall : ∀ p, p < n → p ∈ pre) (hg : Go n L pre s) : s = c := by
  induction s generalizing pre c with
  | nil =>
    cases c with
    | nil => rfl
    | cons x c =>
      obtain ⟨a1, a2, a3, a4⟩ := Gd_c h List.mem_cons_self
      have := Go_count hg a3
      simp at this; omega
  | cons x s ih =>
    have hxn : x < n := WD_lt hg.1 x (by simp)
    obtain ⟨c', hc'⟩ := Gd_next h hg (hall x hxn)
    subst hc'
    have h2 := Gd_close h fun w hw hwp => absurd (hall w hw) hwp
    have hg2 : Go n L (pre ++ [x]) s := by
      unfold Go at hg ⊢
      simpa using hg
    rw [ih h2 (fun p hp => List.mem_append_left _ (hall p hp)) hg2]
theorem modB_iff {n L : Nat} {w : List Nat} : modB n L w = true ↔ Vw n L w ∧ lstB w = true := by
  unfold modB
  rw [Bool.and_eq_true, vB_iff]
theorem modB_f {n L : Nat} {w : List Nat} (h : Vw n L w → lstB w = false) : modB n L w = false := by
  cases hb : modB n L w with
  | false => rfl
  | true =>
    obtain ⟨h1, h2⟩ := modB_iff.mp hb
    rw [h h1] at h2; cases h2
theorem head_app {pre s : List Nat} (hp : pre ≠ []) : (pre ++ s).headD 0 = pre.headD 0 := by
  cases pre with
  | nil => exact absurd rfl hp
  | cons x pre => rfl
theorem ExN_only {P : List Nat → Bool} {n x k : Nat} {pre : List Nat} (hx : x < n) (h : ∀ p, p < n → p ≠ x → Ex P n (pre ++ [p]) k = []) : ExN P n pre k n = Ex P n (pre ++ [x]) k := by
  have key : ∀ m, m ≤ n → ExN P n pre k m = if x < m then Ex P n (pre ++ [x]) k else [] := by
    intro m
    induction m with
    | zero => intro _; rfl
    | succ m ih =>
      intro hm
      rw [ExN, ih (by omega)]
      by_cases h1 : x = m
      · subst h1
        rw [if_neg (Nat.lt_irrefl _), if_pos (Nat.lt_succ_self _), List.nil_append]
      · rw [h m (by omega) (fun z => h1 z.symm), List.append_nil]
        by_cases h2 : x < m
        · rw [if_pos h2, if_pos (by omega)]
        · rw [if_neg h2, if_neg (by omega)]
  rw [key n (Nat.le_refl _), if_pos hx]
/-- the end of the search -/
theorem Ex_full {n L : Nat} {pre c : List Nat} (h : Gd n L pre c) (hall : ∀ p, p < n → p ∈ pre) (h0 : pre.headD 0 = 0) (hp : pre ≠ []) : Ex (modB n L) n pre c.length = if lstB (pre ++ c) then [pre ++ c] else [] := by
  induction c generalizing pre with
  | nil =>
    obtain ⟨hw, hpat⟩ := Gd_full h hall
    rw [List.append_nil] at hw hpat
    have hV : vB n L pre = true := vB_iff.mpr ⟨hw, hpat, h0⟩
    rw [List.length_nil, Ex_0, List.append_nil]
    unfold modB
    rw [hV, Bool.true_and]
  | cons x c ih =>
    obtain ⟨a1, a2, a3, a4⟩ := Gd_c h List.mem_cons_self
    rw [List.length_cons, Ex_s, ExN_only a3, ih (Gd_close h fun w hw hwp => absurd (hall w hw) hwp) (fun p hp => List.mem_append_left _ (hall p hp)) (by rw [head_app hp]; exact h0) (by simp)]
    · rw [List.append_assoc]; rfl
    · intro p hpn hpx
      refine Ex_none fun s hs1 hs2 => modB_f fun hV => ?_
      have := Gd_end h hall (s := p :: s) ⟨by have := hV.1; simpa using this, by have := hV.2.1; simpa using this⟩
      exact absurd (List.cons.inj this).1 hpx

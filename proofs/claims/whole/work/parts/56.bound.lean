/-! ===== 56: how many models there are at most ===== -/
theorem len_inj {α β : Type} [BEq β] [LawfulBEq β] (l : List α) (f : α → β) : ∀ (T : List β), l.Nodup → (∀ x ∈ l, ∀ y ∈ l, f x = f y → x = y) → (∀ x ∈ l, f x ∈ T) → l.length ≤ T.length := by
  induction l with
  | nil => intro T _ _ _; exact Nat.zero_le _
  | cons a l ih =>
    intro T hn hi hT
    rw [List.nodup_cons] at hn
    have ha := hT a List.mem_cons_self
    have h1 := ih (T.erase (f a)) hn.2 (fun x hx y hy => hi x (List.mem_cons_of_mem _ hx) y (List.mem_cons_of_mem _ hy)) fun x hx => by
      have hne : f x ≠ f a := fun q => hn.1 (by
        have := hi x (List.mem_cons_of_mem _ hx) a List.mem_cons_self q
        rw [← this]; exact hx)
      exact (List.mem_erase_of_ne hne).mpr (hT x (List.mem_cons_of_mem _ hx))
    rw [List.length_erase_of_mem ha] at h1
    have := List.length_pos_of_mem ha
    rw [List.length_cons]; omega
/-- the leaves of the tree of search, o open, w waiting -/
def tl : Nat → Nat → Nat → Nat
  | 0, _, _ => 1
  | k + 1, o, w => (if 0 < o then tl k (o - 1) w else 0) + w * tl k (o + 1) (w - 1)
theorem tl_13 : tl 13 1 6 = 308880 := by decide +kernel
theorem tl_le : ∀ n, n < 7 → tl (2 * n - 1) 1 (n - 1) < 80000 := by decide +kernel
theorem ExN_len {P : List Nat → Bool} {n k : Nat} {pre : List Nat} (b : Nat → Nat) (h : ∀ p, p < n → (Ex P n (pre ++ [p]) k).length ≤ b p) : (ExN P n pre k n).length ≤ smN b n := by
  have key : ∀ m, m ≤ n → (ExN P n pre k m).length ≤ smN b m := by
    intro m
    induction m with
    | zero => intro _; exact Nat.zero_le _
    | succ m ih =>
      intro hm
      rw [ExN, List.length_append, smN]
      have := ih (by omega)
      have := h m (by omega)
      omega
  exact key n (Nat.le_refl _)
theorem smN_le {f g : Nat → Nat} {n : Nat} (h : ∀ i, i < n → f i ≤ g i) : smN f n ≤ smN g n := by
  induction n with
  | zero => exact Nat.le_refl _
  | succ n ih =>
    have := ih fun i hi => h i (by omega)
    have := h n (by omega)
    simp only [smN]; omega
theorem smN_two (q r : Nat → Bool) (X Y n : Nat) : smN (fun p => (q p).toNat * X + (r p).toNat * Y) n = cnt q n * X + cnt r n * Y := by
  induction n with
  | zero => simp [smN, cnt]
  | succ n ih => simp only [smN, cnt, ih, Nat.add_mul]; omega
def wtg (pre : List Nat) (p : Nat) : Bool := !pre.contains p
theorem wtg_t {pre : List Nat} {p : Nat} : wtg pre p = true ↔ p ∉ pre := by unfold wtg; simp
theorem wtg_s {pre : List Nat} {n x : Nat} (hx : x < n) (h : x ∉ pre) : cnt (wtg pre) n = cnt (wtg (pre ++ [x])) n + 1 := by
  have e : ∀ m, cnt (wtg pre) m = cnt (wtg (pre ++ [x])) m + (if x < m then 1 else 0) := by
    intro m
    induction m with
    | zero => rfl
    | succ m ih =>
      simp only [cnt, ih]
      by_cases hm : x = m
      · subst hm
        have h1 : wtg pre x = true := wtg_t.mpr h
        have h2 : wtg (pre ++ [x]) x = false := by unfold wtg; simp
        rw [h1, h2, if_neg (Nat.lt_irrefl _), if_pos (Nat.lt_succ_self _)]
        rfl
      · have h1 : wtg (pre ++ [x]) m = wtg pre m := by
          unfold wtg
          have : ¬ m = x := fun z => hm z.symm
          simp [this]
        rw [h1]
        by_cases h2 : x < m
        · rw [if_pos h2, if_pos (by omega)]; omega
        · rw [if_neg h2, if_neg (by omega)]; omega
  rw [e n, if_pos hx]
theorem wtg_o {pre : List Nat} {n x : Nat} (h : x ∈ pre) : cnt (wtg (pre ++ [x])) n = cnt (wtg pre) n := cnt_congr fun m _ => by
  unfold wtg
  by_cases hm : m = x
  · subst hm; simp [h]
  · simp [hm]
theorem cnt_one {n x : Nat} : cnt (fun p => p == x) n ≤ 1 := by
  have e : ∀ m, cnt (fun p => p == x) m = if x < m then 1 else 0 := by
    intro m
    induction m with
    | zero => rfl
    | succ m ih =>
      simp only [cnt, ih]
      by_cases hm : m = x
      · subst hm; simp
      · have hb : (m == x) = false := by simpa using hm
        rw [hb]
        by_cases h2 : x < m
        · rw [if_pos h2, if_pos (by omega)]; rfl
        · rw [if_neg h2, if_neg (by omega)]; rfl
  rw [e]; split <;> omega
theorem ins_len (L x : Nat) (c : List Nat) : (ins L x c).length = c.length + 1 := by
  unfold ins
  have := kk_le L x c
  simp; omega
theorem Ex_tree {n L : Nat} : ∀ k (pre c : List Nat), Gd n L pre c → pre ≠ [] → k = c.length + 2 * cnt (wtg pre) n → (Ex (vB n L) n pre k).length ≤ tl k c.length (cnt (wtg pre) n) := by
  intro k
  induction k with
  | zero =>
    intro pre c _ _ _
    rw [Ex_0, tl]
    split <;> simp
  | succ k ih =>
    intro pre c h hp hk
    rw [Ex_s, tl]
    have hb := ExN_len (P := vB n L) (n := n) (k := k) (pre := pre) (fun p => (c.head? == some p).toNat * tl k (c.length - 1) (cnt (wtg pre) n) + (wtg pre p).toNat * tl k (c.length + 1) (cnt (wtg pre) n - 1)) fun p hpn => ?_
    · rw [smN_two] at hb
      refine Nat.le_trans hb (Nat.add_le_add_right ?_ _)
      cases c with
      | nil =>
        have : cnt (fun p => ([] : List Nat).head? == some p) n = 0 := cnt_none fun i _ => rfl
        rw [this, Nat.zero_mul]; exact Nat.zero_le _
      | cons x c =>
        have e : cnt (fun p => (x :: c).head? == some p) n ≤ 1 := by
          rw [cnt_congr (g := fun p => p == x) fun i _ => ?_]
          · exact cnt_one
          · show ((some x : Option Nat) == some i) = (i == x)
            by_cases q : i = x
            · subst q; simp
            · have a : (x == i) = false := by simpa using fun z : x = i => q z.symm
              have b : (i == x) = false := by simpa using q
              have e2 : ((some x : Option Nat) == some i) = (x == i) := rfl
              rw [e2, a, b]
        rw [if_pos (by simp)]
        calc _ ≤ 1 * tl k ((x :: c).length - 1) (cnt (wtg pre) n) := Nat.mul_le_mul_right _ e
          _ = _ := Nat.one_mul _
    · have go_of : ∀ s, vB n L ((pre ++ [p]) ++ s) = true → Go n L pre (p :: s) := fun s hs => by
        obtain ⟨h1, h2, h3⟩ := vB_iff.mp hs
        exact ⟨by simpa using h1, by simpa using h2⟩
      have dead : (∀ s, ¬ Go n L pre (p :: s)) → (Ex (vB n L) n (pre ++ [p]) k).length = 0 := fun hd => by
        rw [Ex_none fun s _ _ => ?_]; · rfl
        cases hv : vB n L ((pre ++ [p]) ++ s) with
        | false => rfl
        | true => exact absurd (go_of s hv) (hd s)
      by_cases hex : ∃ s, Go n L pre (p :: s)
      · obtain ⟨s, hs⟩ := hex
        by_cases hpp : p ∈ pre
        · obtain ⟨c', hc'⟩ := Gd_next h hs hpp
          subst hc'
          have hcl := Gd_close h fun w hw hwp => Gd_shut h hs hw hwp
          have := ih (pre ++ [p]) c' hcl (by simp) (by rw [wtg_o hpp]; simp only [List.length_cons] at hk; omega)
          rw [wtg_o hpp] at this
          have e : ((p :: c').head? == some p).toNat = 1 := by simp
          rw [e, Nat.one_mul, List.length_cons, Nat.add_sub_cancel]
          omega
        · have hf := Gd_fits h hs hpn hpp
          have hop := Gd_open h hpn hpp hf
          have hw := wtg_s hpn hpp
          have := ih (pre ++ [p]) (ins L p c) hop (by simp) (by rw [ins_len]; omega)
          have e : (wtg pre p).toNat = 1 := by rw [wtg_t.mpr hpp]; rfl
          rw [ins_len] at this
          rw [e, Nat.one_mul, hw, Nat.add_sub_cancel]
          omega
      · rw [dead fun s hs => hex ⟨s, hs⟩]; exact Nat.zero_le _
/-- all words of this pattern -/
noncomputable def Vs (n L : Nat) : List (List Nat) := Ex (vB n L) n [] (2 * n)
theorem Vs_mem {n L : Nat} {w : List Nat} : w ∈ Vs n L ↔ Vw n L w := by
  unfold Vs
  rw [Ex_mem, vB_iff]
  exact ⟨fun h => h.1, fun h => ⟨h, w, rfl, h.1.1, WD_lt h.1⟩⟩
theorem Vs_nd (n L : Nat) : (Vs n L).Nodup := up_nodup (Ex_up _ _ _ _)
theorem Gd_0 {n L : Nat} (hn : 0 < n) : Gd n L [0] [0] := by
  refine ⟨fun p hp => ?_, fun p hp => ?_, fun p hp q hq hpq => ?_, fun p hp hpc => ?_⟩
  · rw [List.mem_singleton] at hp; subst hp
    exact ⟨hn, rfl⟩
  · rw [List.mem_singleton] at hp; subst hp
    exact ⟨by simp, rfl⟩
  · rw [List.mem_singleton] at hp hq
    exact absurd (hp.trans hq.symm) hpq
  · exact absurd hp hpc
theorem Ex_first {P : List Nat → Bool} {n k : Nat} (hn : 0 < n) (hP : ∀ w, P w = true → w.headD 0 = 0) : Ex P n [] (k + 1) = Ex P n [0] k := by
  rw [Ex_s, ExN_only hn]
  · rfl
  · intro p _ hp
    refine Ex_none fun s _ _ => ?_
    cases h : P (([] ++ [p]) ++ s) with
    | false => rfl
    | true => exact absurd (hP _ h) hp
theorem wtg_0 {n : Nat} (hn : 0 < n) : cnt (wtg [0]) n = n - 1 := by
  have e : ∀ m, cnt (wtg [0]) (m + 1) = m := by
    intro m
    induction m with
    | zero => rfl
    | succ m ih =>
      rw [cnt, ih]
      have : wtg [0] (m + 1) = true := wtg_t.mpr (by simp)
      rw [this]; rfl
  obtain ⟨m, rfl⟩ : ∃ m, n = m + 1 := ⟨n - 1, by omega⟩
  rw [e, Nat.add_sub_cancel]
theorem Vs_len {n L : Nat} (hn : 0 < n) : (Vs n L).length ≤ tl (2 * n - 1) 1 (n - 1) := by
  unfold Vs
  rw [show 2 * n = (2 * n - 1) + 1 by omega, Ex_first hn fun w h => (vB_iff.mp h).2.2]
  have h0 := wtg_0 hn
  have := Ex_tree (n := n) (L := L) (2 * n - 1) [0] [0] (Gd_0 hn) (by simp) (by rw [h0]; simp; omega)
  rw [h0] at this
  exact this
theorem Mods_V (n L : Nat) : Mods n L = (Vs n L).filter lstB := by
  unfold Mods Vs Ex
  rw [List.filter_filter]
  apply List.filter_congr
  intro w _
  unfold modB
  rw [Bool.and_comm]
/-! Burnside's count -/
def gr (w : List Nat) : List Nat := rdg w (sec w) true
def gt' (w : List Nat) : List Nat := rdg w (sec w) false
def gs (w : List Nat) : List Nat := rdg w 0 false
theorem gr_wd {B C : List Nat} (hB : 0 ∉ B) : gr (wd B C) = wd C B := by unfold gr; rw [wd_sec hB, wd_r]
theorem gt_wd {B C : List Nat} (hB : 0 ∉ B) : gt' (wd B C) = wd B.reverse C.reverse := by unfold gt'; rw [wd_sec hB, wd_t]
theorem gs_wd (B C : List Nat) : gs (wd B C) = wd C.reverse B.reverse := by unfold gs; rw [wd_s]
theorem wd_inj {B C D E : List Nat} (hB : 0 ∉ B) (hD : 0 ∉ D) (h : wd B C = wd D E) : B = D ∧ C = E := by
  have h1 := wd_sec (C := C) hB
  have h2 := wd_sec (C := E) hD
  rw [h] at h1
  have hl : B.length = D.length := by omega
  have h3 := (List.cons.inj h).2
  obtain ⟨h4, h5⟩ := List.append_inj h3 hl
  exact ⟨h4, (List.cons.inj h5).2⟩
theorem filt_map {V : List (List Nat)} (hV : V.Nodup) (g : List Nat → List Nat) (hg : ∀ v ∈ V, g v ∈ V) (hgg : ∀ v ∈ V, g (g v) = v) (P : List Nat → Bool) : (V.filter P).length ≤ V.countP fun v => P (g v) := by
  rw [List.countP_eq_length_filter]
  refine len_inj (V.filter P) g _ (hV.filter _) ?_ ?_
  · intro x hx y hy h
    have h1 := hgg x (List.mem_filter.mp hx).1
    have h2 := hgg y (List.mem_filter.mp hy).1
    rw [← h1, ← h2, h]
  · intro x hx
    obtain ⟨h1, h2⟩ := List.mem_filter.mp hx
    exact List.mem_filter.mpr ⟨hg x h1, by rw [hgg x h1]; exact h2⟩
theorem countP_sum (l : List (List Nat)) (p0 p1 p2 p3 f1 f2 f3 : List Nat → Bool) (h : ∀ v ∈ l, (p0 v).toNat + (p1 v).toNat + (p2 v).toNat + (p3 v).toNat ≤ 1 + (f1 v).toNat + (f2 v).toNat + (f3 v).toNat) : l.countP p0 + l.countP p1 + l.countP p2 + l.countP p3 ≤ l.length + l.countP f1 + l.countP f2 + l.countP f3 := by
  induction l with
  | nil => exact Nat.le_refl _
  | cons a l ih =>
    have h1 := ih fun v hv => h v (List.mem_cons_of_mem _ hv)
    have h2 := h a List.mem_cons_self
    have e : ∀ p : List Nat → Bool, (a :: l).countP p = l.countP p + (p a).toNat := fun p => by
      rw [List.countP_cons]
      cases p a <;> rfl
    rw [e, e, e, e, e, e, e, List.length_cons]
    omega
theorem lst_eq {B C D E : List Nat} (hB : 0 ∉ B) (hD : 0 ∉ D) (hl : (wd B C).length = (wd D E).length) (h1 : lstB (wd B C) = true) (h2 : lstB (wd D E) = true) (ho : (D = C ∧ E = B) ∨ (D = B.reverse ∧ E = C.reverse) ∨ (D = C.reverse ∧ E = B.reverse)) : wd B C = wd D E := by
  rw [lstB_wd hB] at h1
  rw [lstB_wd hD] at h2
  simp only [Bool.and_eq_true, Bool.not_eq_true'] at h1 h2
  obtain ⟨a1, a2, a3⟩ := h1
  obtain ⟨b1, b2, b3⟩ := h2
  rcases ho with ⟨rfl, rfl⟩ | ⟨rfl, rfl⟩ | ⟨rfl, rfl⟩
  · exact ltL_tri hl b2 a2
  · rw [List.reverse_reverse, List.reverse_reverse] at b3
    exact ltL_tri hl b3 a3
  · rw [List.reverse_reverse, List.reverse_reverse] at b1
    exact ltL_tri hl b1 a1
theorem bool7 : ∀ m0 m1 m2 m3 f1 f2 f3 : Bool, (m0 = true → m1 = true → f1 = true) → (m2 = true → m3 = true → f1 = true) → (m0 = true → m2 = true → f2 = true) → (m1 = true → m3 = true → f2 = true) → (m0 = true → m3 = true → f3 = true) → (m1 = true → m2 = true → f3 = true) → m0.toNat + m1.toNat + m2.toNat + m3.toNat ≤ 1 + f1.toNat + f2.toNat + f3.toNat := by decide +kernel
theorem burnside {n L : Nat} (hn : 0 < n) : 4 * (Mods n L).length ≤ (Vs n L).length + (Vs n L).countP (fun v => gr v == v) + (Vs n L).countP (fun v => gt' v == v) + (Vs n L).countP (fun v => gs v == v) := by
  have hnd := Vs_nd n L
  have hwd : ∀ v ∈ Vs n L, ∃ B C, v = wd B C ∧ 0 ∉ B ∧ 0 ∉ C ∧ Vw n L (wd B C) := fun v hv => by
    have h := Vs_mem.mp hv
    obtain ⟨B, C, e, hB, hC⟩ := Vw_wd hn h
    exact ⟨B, C, e, hB, hC, e ▸ h⟩
  rw [Mods_V]
  have c0 := filt_map hnd id (fun v h => h) (fun _ _ => rfl) lstB
  have c1 := filt_map hnd gr (fun v hv => by
    obtain ⟨B, C, rfl, hB, hC, h⟩ := hwd v hv
    rw [gr_wd hB]; exact Vs_mem.mpr (Vw_r h)) (fun v hv => by
    obtain ⟨B, C, rfl, hB, hC, h⟩ := hwd v hv
    rw [gr_wd hB, gr_wd hC]) lstB
  have c2 := filt_map hnd gt' (fun v hv => by
    obtain ⟨B, C, rfl, hB, hC, h⟩ := hwd v hv
    rw [gt_wd hB]; exact Vs_mem.mpr (Vw_t h)) (fun v hv => by
    obtain ⟨B, C, rfl, hB, hC, h⟩ := hwd v hv
    rw [gt_wd hB, gt_wd (wd_rev hB), List.reverse_reverse, List.reverse_reverse]) lstB
  have c3 := filt_map hnd gs (fun v hv => by
    obtain ⟨B, C, rfl, hB, hC, h⟩ := hwd v hv
    rw [gs_wd]; exact Vs_mem.mpr (Vw_s h)) (fun v hv => by
    obtain ⟨B, C, rfl, hB, hC, h⟩ := hwd v hv
    rw [gs_wd, gs_wd, List.reverse_reverse, List.reverse_reverse]) lstB
  have hs := countP_sum (Vs n L) (fun v => lstB (id v)) (fun v => lstB (gr v)) (fun v => lstB (gt' v)) (fun v => lstB (gs v)) (fun v => gr v == v) (fun v => gt' v == v) (fun v => gs v == v) fun v hv => by
    obtain ⟨B, C, rfl, hB, hC, h⟩ := hwd v hv
    have hB' := wd_rev hB
    have hC' := wd_rev hC
    rw [gr_wd hB, gt_wd hB, gs_wd]
    have l1 : (wd B C).length = (wd C B).length := by rw [wd_len, wd_len]; omega
    have l2 : (wd B C).length = (wd B.reverse C.reverse).length := by rw [wd_len, wd_len]; simp
    have l3 : (wd B C).length = (wd C.reverse B.reverse).length := by rw [wd_len, wd_len]; simp; omega
    refine bool7 _ _ _ _ _ _ _ ?_ ?_ ?_ ?_ ?_ ?_
    · intro h1 h2
      have := lst_eq hB hC l1 h1 h2 (Or.inl ⟨rfl, rfl⟩)
      simp [this]
    · intro h1 h2
      have := lst_eq hB' hC' (by rw [← l2, ← l3]) h1 h2 (Or.inl ⟨rfl, rfl⟩)
      obtain ⟨q, _⟩ := wd_inj hB' hC' this
      have : B = C := by rw [← List.reverse_reverse B, q, List.reverse_reverse]
      subst this; simp
    · intro h1 h2
      have := lst_eq hB hB' l2 h1 h2 (Or.inr (Or.inl ⟨rfl, rfl⟩))
      rw [← this]; simp
    · intro h1 h2
      have := lst_eq hC hC' (by rw [← l1, ← l3]) h1 h2 (Or.inr (Or.inl ⟨rfl, rfl⟩))
      obtain ⟨q1, q2⟩ := wd_inj hC hC' this
      rw [← q1, ← q2]; simp
    · intro h1 h2
      have := lst_eq hB hC' l3 h1 h2 (Or.inr (Or.inr ⟨rfl, rfl⟩))
      rw [← this]; simp
    · intro h1 h2
      have := lst_eq hC hB' (by rw [← l1, ← l2]) h1 h2 (Or.inr (Or.inr ⟨rfl, rfl⟩))
      obtain ⟨q1, q2⟩ := wd_inj hC hB' this
      rw [q1, q2]
      simp
  omega
/-! the words that one of these leaves as they are -/
def pm : Nat → List Nat → List (List Nat)
  | 0, _ => [[]]
  | k + 1, av => av.flatMap fun p => (pm k (av.erase p)).map (p :: ·)
theorem pm_mem (u : List Nat) : ∀ av : List Nat, (∀ p, u.count p ≤ av.count p) → u ∈ pm u.length av := by
  induction u with
  | nil => intro av _; simp [pm]
  | cons x u ih =>
    intro av h
    have hx : x ∈ av := List.count_pos_iff.mp (by have := h x; rw [List.count_cons_self] at this; omega)
    rw [List.length_cons, pm, List.mem_flatMap]
    refine ⟨x, hx, List.mem_map.mpr ⟨u, ih _ fun p => ?_, rfl⟩⟩
    have := h p
    by_cases hp : p = x
    · subst hp
      rw [List.count_cons_self] at this
      rw [List.count_erase_self]; omega
    · rw [List.count_cons_of_ne (fun z => hp z.symm)] at this
      rw [List.count_erase_of_ne hp]; exact this
def av6 : List Nat := [1, 2, 3, 4, 5, 6]
theorem pm_720 : (pm 6 av6).length = 720 := by decide +kernel
theorem av6_count {u : List Nat} (h1 : ∀ p, 0 < p → p < 7 → u.count p = 1) (h2 : ∀ x ∈ u, 0 < x ∧ x < 7) : ∀ p, u.count p ≤ av6.count p := by
  intro p
  by_cases hp : p ∈ u
  · obtain ⟨a, b⟩ := h2 p hp
    rw [h1 p a b]
    have : ∀ p, p < 7 → 0 < p → 1 ≤ av6.count p := by decide
    exact this p b a
  · rw [List.count_eq_zero.mpr hp]; exact Nat.zero_le _
theorem V7_count {L : Nat} {B C : List Nat} (h : Vw 7 L (wd B C)) : ∀ p, 0 < p → p < 7 → B.count p + C.count p = 2 := by
  intro p hp hp7
  have := h.1.2 p hp7
  rw [count_wd, if_neg (by omega)] at this
  exact this
theorem V7_lt {L : Nat} {B C : List Nat} (h : Vw 7 L (wd B C)) (hB : 0 ∉ B) (hC : 0 ∉ C) : (∀ x ∈ B, 0 < x ∧ x < 7) ∧ ∀ x ∈ C, 0 < x ∧ x < 7 := by
  have hl := WD_lt h.1
  refine ⟨fun x hx => ⟨?_, hl x (by simp [wd, hx])⟩, fun x hx => ⟨?_, hl x (by simp [wd, hx])⟩⟩
  · exact Nat.pos_of_ne_zero fun z => hB (z ▸ hx)
  · exact Nat.pos_of_ne_zero fun z => hC (z ▸ hx)
def Bof (w : List Nat) : List Nat := (w.drop 1).take (sec w - 1)
def Cof (w : List Nat) : List Nat := w.drop (sec w + 1)
theorem Bof_wd {B C : List Nat} (hB : 0 ∉ B) : Bof (wd B C) = B := by
  unfold Bof
  rw [wd_sec hB]
  simp [wd]
theorem Cof_wd {B C : List Nat} (hB : 0 ∉ B) : Cof (wd B C) = C := by
  unfold Cof
  rw [wd_sec hB]
  unfold wd
  rw [List.drop_succ_cons, List.drop_append, List.drop_eq_nil_of_le (by omega)]
  simp
theorem fix_r {L : Nat} : (Vs 7 L).countP (fun v => gr v == v) ≤ 720 := by
  rw [List.countP_eq_length_filter, ← pm_720]
  have hx : ∀ v ∈ (Vs 7 L).filter (fun v => gr v == v), ∃ B, v = wd B B ∧ 0 ∉ B ∧ Vw 7 L (wd B B) := fun v hv => by
    obtain ⟨h1, h2⟩ := List.mem_filter.mp hv
    have h := Vs_mem.mp h1
    obtain ⟨B, C, rfl, hB, hC⟩ := Vw_wd (by omega) h
    rw [gr_wd hB] at h2
    have := (wd_inj hC hB (beq_iff_eq.mp h2)).1
    subst this
    exact ⟨C, rfl, hB, h⟩
  refine len_inj _ Bof _ ((Vs_nd 7 L).filter _) ?_ ?_
  · intro x hx1 y hy1 h
    obtain ⟨B, rfl, hB, _⟩ := hx x hx1
    obtain ⟨C, rfl, hC, _⟩ := hx y hy1
    rw [Bof_wd hB, Bof_wd hC] at h
    rw [h]
  · intro x hx1
    obtain ⟨B, rfl, hB, h⟩ := hx x hx1
    rw [Bof_wd hB]
    have hl : B.length = 6 := by
      have := h.1.1
      rw [wd_len] at this; omega
    rw [← hl]
    exact pm_mem B av6 (av6_count (fun p hp hp7 => by have := V7_count h p hp hp7; omega) (V7_lt h hB hB).1)
theorem fix_s {L : Nat} : (Vs 7 L).countP (fun v => gs v == v) ≤ 720 := by
  rw [List.countP_eq_length_filter, ← pm_720]
  have hx : ∀ v ∈ (Vs 7 L).filter (fun v => gs v == v), ∃ B, v = wd B B.reverse ∧ 0 ∉ B ∧ Vw 7 L (wd B B.reverse) := fun v hv => by
    obtain ⟨h1, h2⟩ := List.mem_filter.mp hv
    have h := Vs_mem.mp h1
    obtain ⟨B, C, rfl, hB, hC⟩ := Vw_wd (by omega) h
    rw [gs_wd] at h2
    have := (wd_inj (wd_rev hC) hB (beq_iff_eq.mp h2)).2
    subst this
    exact ⟨B, rfl, hB, h⟩
  refine len_inj _ Bof _ ((Vs_nd 7 L).filter _) ?_ ?_
  · intro x hx1 y hy1 h
    obtain ⟨B, rfl, hB, _⟩ := hx x hx1
    obtain ⟨C, rfl, hC, _⟩ := hx y hy1
    rw [Bof_wd hB, Bof_wd hC] at h
    rw [h]
  · intro x hx1
    obtain ⟨B, rfl, hB, h⟩ := hx x hx1
    rw [Bof_wd hB]
    have hl : B.length = 6 := by
      have := h.1.1
      rw [wd_len, List.length_reverse] at this; omega
    rw [← hl]
    exact pm_mem B av6 (av6_count (fun p hp hp7 => by have := V7_count h p hp hp7; rw [List.count_reverse] at this; omega) (V7_lt h hB (wd_rev hB)).1)
/-- a palindrome: its first half, its middle -/
def hlf (B : List Nat) : List Nat := B.take (B.length / 2)
def mdl (B : List Nat) : List Nat := (B.drop (B.length / 2)).take (B.length % 2)
theorem pal_eq {B : List Nat} (h : B.reverse = B) : B = hlf B ++ (mdl B ++ (hlf B).reverse) := by
  have e : (B.drop (B.length / 2)).drop (B.length % 2) = (hlf B).reverse := by
    rw [List.drop_drop]
    have : B.drop (B.length / 2 + B.length % 2) = (B.reverse).drop (B.length / 2 + B.length % 2) := by rw [h]
    rw [this, List.drop_reverse]
    unfold hlf
    congr 2; omega
  rw [← e]
  unfold mdl hlf
  rw [List.take_append_drop, List.take_append_drop]
theorem pal_cnt {B : List Nat} (h : B.reverse = B) (p : Nat) : B.count p = 2 * (hlf B).count p + (mdl B).count p := by
  have := congrArg (List.count p) (pal_eq h)
  rw [this, List.count_append, List.count_append, List.count_reverse]; omega
theorem mdl_len (B : List Nat) : (mdl B).length = B.length % 2 := by
  unfold mdl
  simp; omega
theorem hlf_len (B : List Nat) : (hlf B).length = B.length / 2 := by
  unfold hlf
  simp; omega
theorem fix_t {L : Nat} : (Vs 7 L).countP (fun v => gt' v == v) ≤ 13 * 720 := by
  have hT : ((List.range 13).flatMap fun k => (pm 6 av6).map fun u => (k, u)).length = 13 * 720 := by
    rw [List.length_flatMap]
    simp only [List.length_map, pm_720]
    decide
  rw [List.countP_eq_length_filter, ← hT]
  have hx : ∀ v ∈ (Vs 7 L).filter (fun v => gt' v == v), ∃ B C, v = wd B C ∧ 0 ∉ B ∧ Vw 7 L (wd B C) ∧ B.reverse = B ∧ C.reverse = C ∧ mdl B = mdl C ∧ (hlf B ++ (mdl B ++ hlf C)) ∈ pm 6 av6 ∧ B.length < 13 := fun v hv => by
    obtain ⟨h1, h2⟩ := List.mem_filter.mp hv
    have h := Vs_mem.mp h1
    obtain ⟨B, C, rfl, hB, hC⟩ := Vw_wd (by omega) h
    rw [gt_wd hB] at h2
    obtain ⟨q1, q2⟩ := wd_inj (wd_rev hB) hB (beq_iff_eq.mp h2)
    have hl : B.length + C.length = 12 := by
      have := h.1.1
      rw [wd_len] at this; omega
    obtain ⟨lB, lC⟩ := V7_lt h hB hC
    have mB : ∀ x ∈ mdl B, 0 < x ∧ x < 7 := fun x hx => lB x (List.mem_of_mem_drop (List.mem_of_mem_take hx))
    have hm : mdl B = mdl C := by
      have l1 := mdl_len B
      have l2 := mdl_len C
      have l3 : B.length % 2 = C.length % 2 := by omega
      by_cases ho : B.length % 2 = 0
      · rw [List.eq_nil_of_length_eq_zero (by omega : (mdl B).length = 0), List.eq_nil_of_length_eq_zero (by omega : (mdl C).length = 0)]
      · obtain ⟨a, ha⟩ := List.length_eq_one_iff.mp (show (mdl B).length = 1 by omega)
        obtain ⟨b, hb⟩ := List.length_eq_one_iff.mp (show (mdl C).length = 1 by omega)
        obtain ⟨a1, a2⟩ := mB a (by rw [ha]; exact List.mem_singleton.mpr rfl)
        have c1 := V7_count h a a1 a2
        rw [pal_cnt q1, pal_cnt q2, ha, hb, List.count_singleton, List.count_singleton] at c1
        have : b = a := by
          apply Classical.byContradiction
          intro hne
          have hbf : (b == a) = false := by simpa using hne
          rw [hbf] at c1
          simp at c1; omega
        rw [ha, hb, this]
    have hu : (hlf B ++ (mdl B ++ hlf C)).length = 6 := by
      rw [List.length_append, List.length_append, hlf_len, hlf_len, mdl_len]; omega
    refine ⟨B, C, rfl, hB, h, q1, q2, hm, ?_, by omega⟩
    rw [← hu]
    refine pm_mem _ av6 (av6_count (fun p hp hp7 => ?_) fun x hx => ?_)
    · have c1 := V7_count h p hp hp7
      rw [pal_cnt q1, pal_cnt q2, ← hm] at c1
      rw [List.count_append, List.count_append]; omega
    · rw [List.mem_append, List.mem_append] at hx
      rcases hx with hx | hx | hx
      · exact lB x (List.mem_of_mem_take hx)
      · exact mB x hx
      · exact lC x (List.mem_of_mem_take hx)
  refine len_inj _ (fun w => ((Bof w).length, hlf (Bof w) ++ (mdl (Bof w) ++ hlf (Cof w)))) _ ((Vs_nd 7 L).filter _) ?_ ?_
  · intro x hx1 y hy1 h
    obtain ⟨B, C, rfl, hB, hV, p1, p2, p3, _⟩ := hx x hx1
    obtain ⟨D, E, rfl, hD, hW, r1, r2, r3, _⟩ := hx y hy1
    rw [Bof_wd hB, Bof_wd hD, Cof_wd hB, Cof_wd hD] at h
    have hlen := congrArg Prod.fst h
    have hu := congrArg Prod.snd h
    dsimp only at hlen hu
    have lBC : C.length = E.length := by
      have a1 := hV.1.1
      have a2 := hW.1.1
      rw [wd_len] at a1 a2; omega
    obtain ⟨u1, u2⟩ := List.append_inj hu (by rw [hlf_len, hlf_len, hlen])
    obtain ⟨u3, u4⟩ := List.append_inj u2 (by rw [mdl_len, mdl_len, hlen])
    have eB : B = D := by rw [pal_eq p1, pal_eq r1, u1, u3]
    have eC : C = E := by rw [pal_eq p2, pal_eq r2, u4, ← p3, ← r3, u3]
    rw [eB, eC]
  · intro x hx1
    obtain ⟨B, C, rfl, hB, hV, p1, p2, p3, p4, p5⟩ := hx x hx1
    rw [Bof_wd hB, Cof_wd hB, List.mem_flatMap]
    exact ⟨B.length, List.mem_range.mpr p5, List.mem_map.mpr ⟨_, p4, rfl⟩⟩
theorem Mods_len {n L : Nat} (hn : n < 8) : (Mods n L).length < 80000 := by
  by_cases h0 : n = 0
  · subst h0
    have : (Mods 0 L).length ≤ 1 := by
      unfold Mods
      rw [show 2 * 0 = 0 from rfl, Ex_0]
      split <;> simp
    omega
  · by_cases h7 : n = 7
    · subst h7
      have h1 := burnside (n := 7) (L := L) (by omega)
      have h2 := Vs_len (n := 7) (L := L) (by omega)
      rw [show 2 * 7 - 1 = 13 from rfl, show 7 - 1 = 6 from rfl, tl_13] at h2
      have h3 := fix_r (L := L)
      have h4 := fix_t (L := L)
      have h5 := fix_s (L := L)
      omega
    · have h1 : (Mods n L).length ≤ (Vs n L).length := by rw [Mods_V]; exact List.length_filter_le _ _
      have h2 := Vs_len (n := n) (L := L) (by omega)
      have h3 := tl_le n (by omega)
      omega

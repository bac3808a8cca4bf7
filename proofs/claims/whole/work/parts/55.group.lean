/-! ===== 55: readings as a group, spoilt words, the order of the list ===== -/
theorem ltL_two {r w : List Nat} (hl : r.length = w.length) (h2 : 2 ≤ w.length) (h0 : r.getD 0 0 = w.getD 0 0) (h1 : r.getD 1 0 < w.getD 1 0) : ltL r w = true := by
  have e0 := ltL_step (r := r) (l := w) (i := 0) (by omega) (by omega)
  have e1 := ltL_step (r := r) (l := w) (i := 1) (by omega) (by omega)
  rw [List.drop_zero, List.drop_zero] at e0
  rw [e0, e1, h0, decide_eq_true h1]
  simp
/-- a word whose zeros stand at its first place and behind B -/
def wd (B C : List Nat) : List Nat := 0 :: (B ++ 0 :: C)
theorem wd_len (B C : List Nat) : (wd B C).length = B.length + C.length + 2 := by simp [wd]; omega
theorem wd_sec {B C : List Nat} (hB : 0 ∉ B) : sec (wd B C) = B.length + 1 := by
  have h1 := idx_split (p := 0) (A := []) (R := B ++ 0 :: C) (by simp)
  have h2 := dst_split (p := 0) (A := []) (B := B) (C := C) (by simp) hB
  rw [List.nil_append] at h1 h2
  unfold sec wd
  rw [h1, h2]; simp
theorem Vw_wd {n L : Nat} {w : List Nat} (hn : 0 < n) (h : Vw n L w) : ∃ B C, w = wd B C ∧ 0 ∉ B ∧ 0 ∉ C := by
  obtain ⟨A, B, C, h1, h2, h3, h4⟩ := two_of (h.1.2 0 hn)
  cases A with
  | nil => exact ⟨B, C, h1, h3, h4⟩
  | cons x A =>
    have h5 := h.2.2
    rw [h1] at h5
    have : x = 0 := h5
    exact absurd (by rw [this]; exact List.mem_cons_self) h2
theorem rdg_t {l : List Nat} {s : Nat} (hs : s < l.length) : rdg l s true = l.drop s ++ l.take s := by
  apply List.ext_getElem?
  intro i
  by_cases hi : i < l.length
  · have e : ∀ (x y : List Nat), x.getD i 0 = y.getD i 0 → i < x.length → i < y.length → x[i]? = y[i]? := by
      intro x y h hx hy
      simp only [List.getD, List.getElem?_eq_getElem hx, List.getElem?_eq_getElem hy, Option.getD_some] at h
      rw [List.getElem?_eq_getElem hx, List.getElem?_eq_getElem hy, h]
    refine e _ _ ?_ (by rw [rdg_len]; exact hi) (by simp; omega)
    rw [rdg_get hi]
    unfold rix
    rw [if_pos rfl]
    by_cases h1 : s + i < l.length
    · rw [if_pos h1]
      simp only [List.getD]
      rw [List.getElem?_append_left (by simp; omega), List.getElem?_drop]
    · rw [if_neg h1]
      simp only [List.getD]
      rw [List.getElem?_append_right (by simp; omega), List.getElem?_take, if_pos (by simp; omega)]
      congr 2
      simp; omega
  · rw [List.getElem?_eq_none (by rw [rdg_len]; omega), List.getElem?_eq_none (by simp; omega)]
theorem rdg_f {l : List Nat} {s : Nat} (hs : s < l.length) : rdg l s false = (l.drop (s + 1) ++ l.take (s + 1)).reverse := by
  apply List.ext_getElem?
  intro i
  by_cases hi : i < l.length
  · have e : ∀ (x y : List Nat), x.getD i 0 = y.getD i 0 → i < x.length → i < y.length → x[i]? = y[i]? := by
      intro x y h hx hy
      simp only [List.getD, List.getElem?_eq_getElem hx, List.getElem?_eq_getElem hy, Option.getD_some] at h
      rw [List.getElem?_eq_getElem hx, List.getElem?_eq_getElem hy, h]
    refine e _ _ ?_ (by rw [rdg_len]; exact hi) (by simp; omega)
    rw [rdg_get hi]
    unfold rix
    rw [if_neg (by decide)]
    simp only [List.getD]
    rw [List.getElem?_reverse (by simp; omega)]
    have hlen : (l.drop (s + 1) ++ l.take (s + 1)).length = l.length := by simp; omega
    rw [hlen]
    by_cases h1 : i ≤ s
    · rw [if_pos h1, List.getElem?_append_right (by simp; omega), List.getElem?_take, if_pos (by simp; omega)]
      congr 2
      simp; omega
    · rw [if_neg h1, List.getElem?_append_left (by simp; omega), List.getElem?_drop]
      congr 2
      omega
  · rw [List.getElem?_eq_none (by rw [rdg_len]; omega), List.getElem?_eq_none (by simp; omega)]
theorem wd_r {B C : List Nat} : rdg (wd B C) (B.length + 1) true = wd C B := by
  rw [rdg_t (by rw [wd_len]; omega)]
  unfold wd
  simp
theorem wd_t {B C : List Nat} : rdg (wd B C) (B.length + 1) false = wd B.reverse C.reverse := by
  rw [rdg_f (by rw [wd_len]; omega)]
  unfold wd
  have e1 : (0 :: (B ++ 0 :: C)).drop (B.length + 1 + 1) = C := by
    rw [List.drop_succ_cons, List.drop_append, List.drop_eq_nil_of_le (by omega)]
    simp
  have e2 : (0 :: (B ++ 0 :: C)).take (B.length + 1 + 1) = 0 :: (B ++ [0]) := by
    rw [List.take_succ_cons, List.take_append, List.take_of_length_le (by omega)]
    simp
  rw [e1, e2]
  simp
theorem wd_s {B C : List Nat} : rdg (wd B C) 0 false = wd C.reverse B.reverse := by
  rw [rdg_f (by rw [wd_len]; omega)]
  unfold wd
  simp
theorem wd_rev {C : List Nat} (h : 0 ∉ C) : 0 ∉ C.reverse := fun q => h (List.mem_reverse.mp q)
/-- of words that are told so: least -/
theorem lstB_wd {B C : List Nat} (hB : 0 ∉ B) : lstB (wd B C) = (!ltL (wd C.reverse B.reverse) (wd B C) && (!ltL (wd C B) (wd B C) && !ltL (wd B.reverse C.reverse) (wd B C))) := by
  unfold lstB
  rw [wd_sec hB, wd_r, wd_t, wd_s]
theorem count_wd (p : Nat) (B C : List Nat) : (wd B C).count p = B.count p + C.count p + (if p = 0 then 2 else 0) := by
  unfold wd
  rw [List.count_cons, List.count_append, List.count_cons]
  by_cases h : p = 0
  · simp [h]; omega
  · have : ¬ (0 == p) = true := by simpa using fun z : 0 = p => h z.symm
    simp [h, this]
theorem Vw_of {n L : Nat} {B C D E : List Nat} (h : Vw n L (wd B C)) (hl : (wd D E).length = (wd B C).length) (hc : ∀ p, (wd D E).count p = (wd B C).count p) (hx : ∀ a b, crs a b (wd D E) = crs a b (wd B C)) : Vw n L (wd D E) :=
  ⟨WD_perm h.1 hl hc, fun a ha b hb => by rw [hx]; exact h.2.1 a ha b hb, rfl⟩
theorem Vw_r {n L : Nat} {B C : List Nat} (h : Vw n L (wd B C)) : Vw n L (wd C B) := by
  refine Vw_of h (by rw [wd_len, wd_len]; omega) (fun p => by rw [count_wd, count_wd]; omega) fun a b => ?_
  have e : ∀ X Y : List Nat, wd X Y = (0 :: X) ++ (0 :: Y) := fun X Y => by simp [wd]
  rw [e, e, crs_rot]
theorem Vw_t {n L : Nat} {B C : List Nat} (h : Vw n L (wd B C)) : Vw n L (wd B.reverse C.reverse) := by
  refine Vw_of h (by rw [wd_len, wd_len]; simp) (fun p => by rw [count_wd, count_wd]; simp) fun a b => ?_
  have e : wd B.reverse C.reverse = (C ++ (0 :: (B ++ [0]))).reverse := by simp [wd]
  rw [e, crs_rev, crs_rot]
  congr 1
  simp [wd]
theorem Vw_s {n L : Nat} {B C : List Nat} (h : Vw n L (wd B C)) : Vw n L (wd C.reverse B.reverse) := Vw_r (Vw_t h)
/-! spoilt words -/
def spB (pre : List Nat) (p m : Nat) : Bool :=
  decide (2 ≤ pre.length) && (if p = 0 then decide (pre.getD (pre.length - 1) 0 < pre.getD 1 0) || decide (pre.length = m - 1)
    else decide (p < pre.getD 1 0) && (decide (pre.getD (pre.length - 1) 0 = 0) || decide (pre.length = m - 1)))
theorem zpos {B C : List Nat} {k : Nat} (hB : 0 ∉ B) (hC : 0 ∉ C) (hk : k < (wd B C).length) (h : (wd B C).getD k 0 = 0) : k = 0 ∨ k = B.length + 1 := by
  rw [wd_len] at hk
  by_cases h0 : k = 0
  · exact Or.inl h0
  · right
    obtain ⟨j, rfl⟩ : ∃ j, k = j + 1 := ⟨k - 1, by omega⟩
    have e : (wd B C).getD (j + 1) 0 = (B ++ 0 :: C).getD j 0 := rfl
    rw [e] at h
    by_cases h1 : j < B.length
    · rw [gA h1] at h
      exact absurd h (nin hB h1)
    · by_cases h2 : j = B.length
      · omega
      · obtain ⟨i, rfl⟩ : ∃ i, j = B.length + (i + 1) := ⟨j - B.length - 1, by omega⟩
        rw [gR'] at h
        have e2 : (0 :: C).getD (i + 1) 0 = C.getD i 0 := rfl
        rw [e2] at h
        exact absurd h (nin hC (by omega))
theorem spB_lst {n L p : Nat} {pre s : List Nat} (hn : 0 < n) (h : Vw n L (pre ++ p :: s)) (hs : spB pre p (2 * n) = true) : lstB (pre ++ p :: s) = false := by
  obtain ⟨w, hw⟩ : ∃ w, w = pre ++ p :: s := ⟨_, rfl⟩
  rw [← hw] at h ⊢
  obtain ⟨B, C, e, hB, hC⟩ := Vw_wd hn h
  have hm : w.length = 2 * n := h.1.1
  have hlen : w.length = pre.length + 1 + s.length := by rw [hw]; simp; omega
  unfold spB at hs
  rw [Bool.and_eq_true, decide_eq_true_eq] at hs
  obtain ⟨h2, hs⟩ := hs
  have gp : ∀ k, k < pre.length → w.getD k 0 = pre.getD k 0 := fun k hk => by rw [hw, gA hk]
  have gx : w.getD pre.length 0 = p := by
    rw [hw]
    have := gR' (A := pre) (R := p :: s) (k := 0)
    rw [Nat.add_zero] at this
    rw [this]; rfl
  have g0 : w.getD 0 0 = 0 := by rw [e]; rfl
  have hsec : sec w = B.length + 1 := by rw [e, wd_sec hB]
  have hBC : w.length = B.length + C.length + 2 := by rw [e, wd_len]
  have gs : w.getD (B.length + 1) 0 = 0 := by
    rw [e]
    have e2 : (wd B C).getD (B.length + 1) 0 = (B ++ 0 :: C).getD B.length 0 := rfl
    have := gR' (A := B) (R := 0 :: C) (k := 0)
    rw [Nat.add_zero] at this
    rw [e2, this]; rfl
  have any : ∀ (s : Nat) (b : Bool), s < w.length → w.getD s 0 = 0 → w.getD (rix w.length s b 1) 0 < w.getD 1 0 → ltL (rdg w s b) w = true := by
    intro s b h1 h3 h4
    refine ltL_two (rdg_len _ _ _) (by omega) ?_ ?_
    · rw [rdg_get (by omega), rix_0 h1, h3, g0]
    · rw [rdg_get (by omega)]; exact h4
  unfold lstB
  rw [hsec]
  have fin1 : ltL (rdg w 0 false) w = true → (!ltL (rdg w 0 false) w && (!ltL (rdg w (B.length + 1) true) w && !ltL (rdg w (B.length + 1) false) w)) = false := fun q => by rw [q]; rfl
  have fin2 : ltL (rdg w (B.length + 1) true) w = true → (!ltL (rdg w 0 false) w && (!ltL (rdg w (B.length + 1) true) w && !ltL (rdg w (B.length + 1) false) w)) = false := fun q => by rw [q]; simp
  have fin3 : ltL (rdg w (B.length + 1) false) w = true → (!ltL (rdg w 0 false) w && (!ltL (rdg w (B.length + 1) true) w && !ltL (rdg w (B.length + 1) false) w)) = false := fun q => by rw [q]; simp
  by_cases hp : p = 0
  · rw [if_pos hp, Bool.or_eq_true, decide_eq_true_eq, decide_eq_true_eq] at hs
    have hb : pre.length = B.length + 1 := by
      have := zpos hB hC (k := pre.length) (by rw [← e]; omega) (by rw [← e, gx]; exact hp)
      omega
    rcases hs with hs | hs
    · apply fin3
      refine any _ _ (by omega) gs ?_
      unfold rix
      rw [if_neg (by decide), if_pos (by omega), ← hb, gp _ (by omega), gp 1 (by omega)]
      exact hs
    · apply fin2
      refine any _ _ (by omega) gs ?_
      unfold rix
      rw [if_pos rfl, if_neg (by omega), show B.length + 1 + 1 - w.length = 0 by omega, g0]
      have : w.getD 1 0 ≠ 0 := fun q => by
        have := zpos hB hC (k := 1) (by rw [← e]; omega) (by rw [← e]; exact q)
        omega
      omega
  · rw [if_neg hp, Bool.and_eq_true, decide_eq_true_eq, Bool.or_eq_true, decide_eq_true_eq, decide_eq_true_eq] at hs
    obtain ⟨hs1, hs⟩ := hs
    rcases hs with hs | hs
    · have hb : pre.length - 1 = B.length + 1 := by
        have := zpos hB hC (k := pre.length - 1) (by rw [← e]; omega) (by rw [← e, gp _ (by omega)]; exact hs)
        omega
      apply fin2
      refine any _ _ (by omega) gs ?_
      unfold rix
      rw [if_pos rfl, if_pos (by omega), show B.length + 1 + 1 = pre.length by omega, gx, gp 1 (by omega)]
      exact hs1
    · apply fin1
      refine any _ _ (by omega) g0 ?_
      unfold rix
      rw [if_neg (by decide), if_neg (by omega), show 0 + w.length - 1 = pre.length by omega, gx, gp 1 (by omega)]
      exact hs1
/-! the list rises -/
theorem ltL_pre (pre a b : List Nat) : ltL (pre ++ a) (pre ++ b) = ltL a b := by
  induction pre with
  | nil => rfl
  | cons x pre ih => simp [ltL, ih]
theorem allW_up (n k : Nat) : (allW n k).Pairwise fun a b => ltL a b = true := by
  induction k with
  | zero => simp [allW]
  | succ k ih =>
    rw [allW]
    have key : ∀ m, ((List.range m).flatMap fun p => (allW n k).map (p :: ·)).Pairwise fun a b => ltL a b = true := by
      intro m
      induction m with
      | zero => simp
      | succ m ihm =>
        rw [List.range_succ, List.flatMap_append, List.pairwise_append]
        refine ⟨ihm, ?_, ?_⟩
        · rw [List.flatMap_singleton, List.pairwise_map]
          refine ih.imp fun h => ?_
          simp [ltL, h]
        · intro a ha b hb
          rw [List.mem_flatMap] at ha
          obtain ⟨p, hp, ha⟩ := ha
          rw [List.flatMap_singleton] at hb
          rw [List.mem_map] at ha hb
          obtain ⟨a', _, rfl⟩ := ha
          obtain ⟨b', _, rfl⟩ := hb
          have := List.mem_range.mp hp
          simp [ltL, this]
    exact key n
theorem Ex_up (P : List Nat → Bool) (n : Nat) (pre : List Nat) (k : Nat) : (Ex P n pre k).Pairwise fun a b => ltL a b = true := by
  unfold Ex
  refine List.Pairwise.filter _ ?_
  rw [List.pairwise_map]
  refine (allW_up n k).imp fun {a b} h => ?_
  rw [ltL_pre]; exact h
theorem up_nodup {l : List (List Nat)} (h : l.Pairwise fun a b => ltL a b = true) : l.Nodup := h.imp fun {a b} h q => by
  rw [q, ltL_irr] at h; cases h
theorem Mods_up (n L : Nat) : (Mods n L).Pairwise fun a b => ltL a b = true := Ex_up _ _ _ _
theorem Mods_mem {n L : Nat} {w : List Nat} : w ∈ Mods n L ↔ Vw n L w ∧ lstB w = true := by
  unfold Mods
  rw [Ex_mem, modB_iff]
  constructor
  · exact fun h => h.1
  · intro h
    exact ⟨h, w, rfl, h.1.1.1, WD_lt h.1.1⟩
/-! the least reading of a word is a model -/
theorem lst_ex {n L : Nat} {B C : List Nat} (hn : 0 < n) (h : Vw n L (wd B C)) (hB : 0 ∉ B) (hC : 0 ∉ C) : ∃ D E, (wd D E ∈ Mods n L) ∧ 0 ∉ D ∧ 0 ∉ E ∧ ((D = B ∧ E = C) ∨ (D = C ∧ E = B) ∨ (D = B.reverse ∧ E = C.reverse) ∨ (D = C.reverse ∧ E = B.reverse)) := by
  let l := [wd B C, wd C B, wd B.reverse C.reverse, wd C.reverse B.reverse]
  have hl : ∀ x ∈ l, x.length = (wd B C).length := by
    intro x hx
    simp only [l, List.mem_cons, List.not_mem_nil, or_false] at hx
    rcases hx with rfl | rfl | rfl | rfl <;> simp only [wd_len, List.length_reverse] <;> omega
  have mn : ∀ (l : List (List Nat)), l ≠ [] → (∀ x ∈ l, ∀ y ∈ l, x.length = y.length) → ∃ x ∈ l, ∀ y ∈ l, ltL y x = false := by
    intro l
    induction l with
    | nil => intro h; exact absurd rfl h
    | cons a l ih =>
      intro _ hl
      by_cases hz : l = []
      · subst hz
        exact ⟨a, List.mem_cons_self, fun y hy => by rw [List.mem_singleton] at hy; rw [hy, ltL_irr]⟩
      · obtain ⟨x, hx, hmin⟩ := ih hz fun x hx y hy => hl x (List.mem_cons_of_mem _ hx) y (List.mem_cons_of_mem _ hy)
        cases hax : ltL a x with
        | true =>
          refine ⟨a, List.mem_cons_self, fun y hy => ?_⟩
          rcases List.mem_cons.mp hy with rfl | hy
          · exact ltL_irr _
          · cases hya : ltL y a with
            | false => rfl
            | true => have := ltL_trans hya hax; rw [hmin y hy] at this; cases this
        | false =>
          refine ⟨x, List.mem_cons_of_mem _ hx, fun y hy => ?_⟩
          rcases List.mem_cons.mp hy with rfl | hy
          · exact hax
          · exact hmin y hy
  obtain ⟨x, hx, hmin⟩ := mn l (by simp [l]) (fun x hx y hy => by rw [hl x hx, hl y hy])
  have hB' := wd_rev hB
  have hC' := wd_rev hC
  have b1 := hmin (wd B C) (by simp [l])
  have b2 := hmin (wd C B) (by simp [l])
  have b3 := hmin (wd B.reverse C.reverse) (by simp [l])
  have b4 := hmin (wd C.reverse B.reverse) (by simp [l])
  simp only [l, List.mem_cons, List.not_mem_nil, or_false] at hx
  rcases hx with rfl | rfl | rfl | rfl
  · exact ⟨B, C, Mods_mem.mpr ⟨h, by rw [lstB_wd hB, b2, b3, b4]; rfl⟩, hB, hC, Or.inl ⟨rfl, rfl⟩⟩
  · exact ⟨C, B, Mods_mem.mpr ⟨Vw_r h, by rw [lstB_wd hC, b1, b3, b4]; rfl⟩, hC, hB, Or.inr (Or.inl ⟨rfl, rfl⟩)⟩
  · exact ⟨B.reverse, C.reverse, Mods_mem.mpr ⟨Vw_t h, by rw [lstB_wd hB', List.reverse_reverse, List.reverse_reverse, b1, b2, b4]; rfl⟩, hB', hC', Or.inr (Or.inr (Or.inl ⟨rfl, rfl⟩))⟩
  · exact ⟨C.reverse, B.reverse, Mods_mem.mpr ⟨Vw_s h, by rw [lstB_wd hC', List.reverse_reverse, List.reverse_reverse, b1, b2, b3]; rfl⟩, hC', hB', Or.inr (Or.inr (Or.inr ⟨rfl, rfl⟩))⟩

/-! ===== 51: chord words: crossing, readings, their order ===== -/
def sgn (a b x : Nat) : Option Bool := if x = a then some true else if x = b then some false else none
def sig (a b : Nat) (l : List Nat) : List Bool := l.filterMap (sgn a b)
def alt (s : List Bool) : Bool := s == [true, false, true, false] || s == [false, true, false, true]
def crs (a b : Nat) (l : List Nat) : Bool := alt (sig a b l)
theorem sig_cons (a b x : Nat) (l : List Nat) : sig a b (x :: l) = if x = a then true :: sig a b l else if x = b then false :: sig a b l else sig a b l := by
  unfold sig
  rw [List.filterMap_cons]
  by_cases h1 : x = a
  · simp [sgn, h1]
  · by_cases h2 : x = b
    · simp only [sgn, if_neg h1, if_pos h2]
    · simp [sgn, h1, h2]
theorem sig_app (a b : Nat) (l m : List Nat) : sig a b (l ++ m) = sig a b l ++ sig a b m := List.filterMap_append
theorem sig_rev (a b : Nat) (l : List Nat) : sig a b l.reverse = (sig a b l).reverse := by
  unfold sig; rw [List.filterMap_reverse]
theorem alt_swap (x y : List Bool) : alt (x ++ y) = alt (y ++ x) := by
  have key : ∀ x y : List Bool, alt (x ++ y) = true → alt (y ++ x) = true := by
    intro x y h
    unfold alt at h
    simp only [Bool.or_eq_true, beq_iff_eq] at h
    have hl : x.length ≤ 4 := by
      rcases h with h | h <;> have := congrArg List.length h <;> simp at this <;> omega
    have d : ∀ f ∈ [[true, false, true, false], [false, true, false, true]], ∀ k, k < 5 → alt (f.drop k ++ f.take k) = true := by decide
    have := d (x ++ y) (by rcases h with h | h <;> rw [h] <;> simp) x.length (by omega)
    simpa using this
  cases h1 : alt (x ++ y) with
  | true => rw [key x y h1]
  | false =>
    cases h2 : alt (y ++ x) with
    | false => rfl
    | true => rw [key y x h2] at h1; cases h1
theorem alt_rev (x : List Bool) : alt x.reverse = alt x := by
  have key : ∀ x : List Bool, alt x = true → alt x.reverse = true := by
    intro x h
    unfold alt at h
    simp only [Bool.or_eq_true, beq_iff_eq] at h
    rcases h with h | h <;> subst h <;> decide
  cases h1 : alt x with
  | true => exact key x h1
  | false =>
    cases h2 : alt x.reverse with
    | false => rfl
    | true => have := key _ h2; rw [List.reverse_reverse, h1] at this; cases this
theorem crs_rot (a b : Nat) (l m : List Nat) : crs a b (l ++ m) = crs a b (m ++ l) := by
  unfold crs; rw [sig_app, sig_app, alt_swap]
theorem crs_rev (a b : Nat) (l : List Nat) : crs a b l.reverse = crs a b l := by
  unfold crs; rw [sig_rev, alt_rev]
theorem sig_comm {a b : Nat} (h : a ≠ b) (l : List Nat) : sig b a l = (sig a b l).map (!·) := by
  induction l with
  | nil => rfl
  | cons x l ih =>
    rw [sig_cons, sig_cons]
    by_cases h1 : x = a
    · rw [if_pos h1, if_neg (by omega), if_pos h1, ih]; rfl
    · by_cases h2 : x = b
      · rw [if_pos h2, if_neg h1, if_pos h2, ih]; rfl
      · rw [if_neg h2, if_neg h1, if_neg h1, if_neg h2, ih]
theorem alt_not (s : List Bool) : alt (s.map (!·)) = alt s := by
  have key : ∀ s : List Bool, alt s = true → alt (s.map (!·)) = true := by
    intro s h
    unfold alt at h
    simp only [Bool.or_eq_true, beq_iff_eq] at h
    rcases h with h | h <;> subst h <;> decide
  cases h1 : alt s with
  | true => exact key s h1
  | false =>
    cases h2 : alt (s.map (!·)) with
    | false => rfl
    | true =>
      have := key _ h2
      rw [List.map_map, show ((fun x => !x) ∘ fun x => !x) = (id : Bool → Bool) from by funext x; simp, List.map_id, h1] at this
      cases this
theorem crs_comm {a b : Nat} (h : a ≠ b) (l : List Nat) : crs b a l = crs a b l := by
  unfold crs; rw [sig_comm h, alt_not]
theorem sig_T (a b : Nat) (l : List Nat) : (sig a b l).count true = l.count a := by
  induction l with
  | nil => rfl
  | cons x l ih =>
    rw [sig_cons, List.count_cons]
    by_cases h1 : x = a
    · simp [h1, ih]
    · by_cases h2 : x = b
      · rw [if_neg h1, if_pos h2, List.count_cons, ih]; simp [h1]
      · rw [if_neg h1, if_neg h2, ih]; simp [h1]
theorem sig_F {a b : Nat} (h : a ≠ b) (l : List Nat) : (sig a b l).count false = l.count b := by
  induction l with
  | nil => rfl
  | cons x l ih =>
    rw [sig_cons, List.count_cons]
    by_cases h1 : x = a
    · have : ¬ x = b := by omega
      rw [if_pos h1, List.count_cons, ih]; simp [this]
    · by_cases h2 : x = b
      · rw [if_neg h1, if_pos h2, List.count_cons, ih]; simp [h2]
      · rw [if_neg h1, if_neg h2, ih]; simp [h2]
theorem len_TF (s : List Bool) : s.length = s.count true + s.count false := by
  induction s with
  | nil => rfl
  | cons x s ih => cases x <;> simp [ih] <;> omega
def bl4 : List (List Bool) := [true, false].flatMap fun a => [true, false].flatMap fun b => [true, false].flatMap fun c => [true, false].map fun d => [a, b, c, d]
theorem bl4_all {s : List Bool} (h : s.length = 4) : s ∈ bl4 := by
  rcases s with _ | ⟨a, _ | ⟨b, _ | ⟨c, _ | ⟨d, _ | ⟨e, s⟩⟩⟩⟩⟩ <;> simp at h
  cases a <;> cases b <;> cases c <;> cases d <;> decide
theorem alt_mid_d : ∀ f ∈ bl4, f.count true = 2 → ∀ i, i < 5 → ∀ j, j < 5 → alt (f.take i ++ ((f.drop i).take j).reverse ++ (f.drop i).drop j) = (alt f != ((((f.drop i).take j).count true == 1) && (((f.drop i).take j).count false == 1))) := by decide +kernel
theorem alt_mid {x y z : List Bool} (h : (x ++ y ++ z).length = 4) (hT : (x ++ y ++ z).count true = 2) : alt (x ++ y.reverse ++ z) = (alt (x ++ y ++ z) != ((y.count true == 1) && (y.count false == 1))) := by
  have hm := bl4_all h
  have hl : x.length + y.length + z.length = 4 := by rw [← h]; simp; omega
  have := alt_mid_d _ hm hT x.length (by omega) y.length (by omega)
  have e1 : (x ++ y ++ z).take x.length = x := by simp
  have e2 : (x ++ y ++ z).drop x.length = y ++ z := by simp
  rw [e1, e2] at this
  simpa using this
/-- just two of each -/
def WD (n : Nat) (l : List Nat) : Prop := l.length = 2 * n ∧ ∀ p, p < n → l.count p = 2
def cntGe (n : Nat) (l : List Nat) : Nat := l.countP fun x => decide (n ≤ x)
theorem count_sum (n : Nat) (l : List Nat) : l.length = smN (fun p => l.count p) n + cntGe n l := by
  induction l with
  | nil =>
    have : ∀ m, smN (fun p => ([] : List Nat).count p) m = 0 := by
      intro m; induction m with
      | zero => rfl
      | succ m ih => simp only [smN, ih]; rfl
    rw [this]; rfl
  | cons x l ih =>
    have key : ∀ m, smN (fun p => (x :: l).count p) m = smN (fun p => l.count p) m + (if x < m then 1 else 0) := by
      intro m
      induction m with
      | zero => rfl
      | succ m ih2 =>
        rw [smN, ih2, smN]
        rw [List.count_cons]
        by_cases h1 : x = m
        · have h2 : ¬ x < m := by omega
          have h3 : x < m + 1 := by omega
          rw [if_neg h2, if_pos h3, if_pos (by simpa using h1)]; omega
        · by_cases h2 : x < m
          · have h3 : x < m + 1 := by omega
            rw [if_pos h2, if_pos h3, if_neg (by simpa using h1)]; omega
          · have h3 : ¬ x < m + 1 := by omega
            rw [if_neg h2, if_neg h3, if_neg (by simpa using h1)]; omega
    rw [key n]
    unfold cntGe at ih ⊢
    rw [List.countP_cons]
    by_cases h : x < n
    · rw [if_pos h, if_neg (by simpa using h), List.length_cons, ih]; omega
    · rw [if_neg h, if_pos (by simpa using h), List.length_cons, ih]; omega
theorem smN_const (c n : Nat) : smN (fun _ => c) n = n * c := by
  induction n with
  | zero => simp [smN]
  | succ n ih => simp only [smN, ih, Nat.add_mul, Nat.one_mul]
theorem WD_lt {n : Nat} {l : List Nat} (h : WD n l) : ∀ x ∈ l, x < n := by
  have h1 := count_sum n l
  have h2 : smN (fun p => l.count p) n = n * 2 := by rw [smN_congr (g := fun _ => 2) (fun i hi => h.2 i hi), smN_const]
  have h3 : cntGe n l = 0 := by rw [h.1, h2] at h1; omega
  intro x hx
  unfold cntGe at h3
  rw [List.countP_eq_zero] at h3
  have := h3 x hx
  simp at this; omega
theorem WD_perm {n : Nat} {l m : List Nat} (h : WD n l) (hl : m.length = l.length) (hc : ∀ p, m.count p = l.count p) : WD n m := ⟨hl.trans h.1, fun p hp => (hc p).trans (h.2 p hp)⟩
/-- the network of its crossings is this one -/
def Pat (n L : Nat) (l : List Nat) : Prop := ∀ a, a < n → ∀ b, b < a → crs a b l = adj L a b
theorem Pat_adj {n L : Nat} {l : List Nat} (h : Pat n L l) {a b : Nat} (ha : a < n) (hb : b < n) (hab : a ≠ b) : crs a b l = adj L a b := by
  by_cases h1 : b < a
  · exact h a ha b h1
  · rw [crs_comm (fun q => hab q.symm), adj_comm]
    exact h b hb a (by omega)
/-- turned at p: between both letters the other way round -/
theorem crs_p {p a : Nat} {A B C : List Nat} (hpa : p ≠ a) (hA : p ∉ A) (hB : p ∉ B) (hC : p ∉ C) (ha : (A ++ p :: (B ++ p :: C)).count a = 2) : crs p a (A ++ p :: (B ++ p :: C)) = (B.count a == 1) := by
  have noT : ∀ X : List Nat, p ∉ X → sig p a X = List.replicate (X.count a) false := by
    intro X hX
    induction X with
    | nil => rfl
    | cons x X ih =>
      have h1 : x ≠ p := fun q => hX (by rw [q]; exact List.mem_cons_self)
      have h2 := ih fun q => hX (List.mem_cons_of_mem _ q)
      unfold sig at h2 ⊢
      by_cases h3 : x = a
      · have : ¬ a = p := by omega
        simp [sgn, h3, this, h2, List.replicate_succ]
      · simp [sgn, h1, h3, h2, List.count_cons]
  have e : sig p a (A ++ p :: (B ++ p :: C)) = List.replicate (A.count a) false ++ true :: (List.replicate (B.count a) false ++ true :: List.replicate (C.count a) false) := by
    rw [sig_app, noT A hA]
    congr 1
    have : ∀ X, sig p a (p :: X) = true :: sig p a X := fun X => by simp [sig, sgn]
    rw [this, sig_app, noT B hB, this, noT C hC]
  have hsum : A.count a + B.count a + C.count a = 2 := by
    have hh : ¬ p = a := hpa
    simp [List.count_append, List.count_cons, hh] at ha
    omega
  unfold crs
  rw [e]
  have d : ∀ i, i < 3 → ∀ j, j < 3 → ∀ k, k < 3 → i + j + k = 2 → alt (List.replicate i false ++ true :: (List.replicate j false ++ true :: List.replicate k false)) = (j == 1) := by decide
  exact d _ (by omega) _ (by omega) _ (by omega) hsum
theorem sig_skip {p a b : Nat} (ha : p ≠ a) (hb : p ≠ b) (X : List Nat) : sig a b (p :: X) = sig a b X := by
  have h1 : ¬ p = a := ha
  have h2 : ¬ p = b := hb
  simp [sig, sgn, h1, h2]
theorem crs_turn {p a b : Nat} {A B C : List Nat} (hpa : p ≠ a) (hpb : p ≠ b) (hab : a ≠ b) (hA : p ∉ A) (hB : p ∉ B) (hC : p ∉ C) (ha : (A ++ p :: (B ++ p :: C)).count a = 2) (hb : (A ++ p :: (B ++ p :: C)).count b = 2) :
    crs a b (A ++ p :: (B.reverse ++ p :: C)) = (crs a b (A ++ p :: (B ++ p :: C)) != (crs p a (A ++ p :: (B ++ p :: C)) && crs p b (A ++ p :: (B ++ p :: C)))) := by
  rw [crs_p hpa hA hB hC ha, crs_p hpb hA hB hC hb]
  have e : ∀ X, sig a b (A ++ p :: (X ++ p :: C)) = sig a b A ++ sig a b X ++ sig a b C := fun X => by
    rw [sig_app, sig_skip hpa hpb, sig_app, sig_skip hpa hpb, List.append_assoc]
  unfold crs
  rw [e, e, sig_rev]
  have hT : (sig a b A ++ sig a b B ++ sig a b C).count true = 2 := by rw [← e, sig_T]; exact ha
  have hF : (sig a b A ++ sig a b B ++ sig a b C).count false = 2 := by rw [← e, sig_F hab]; exact hb
  rw [alt_mid (by rw [len_TF, hT, hF]) hT, sig_T, sig_F hab]
theorem crs_turn_p {p a : Nat} {A B C : List Nat} (hpa : p ≠ a) (hA : p ∉ A) (hB : p ∉ B) (hC : p ∉ C) (ha : (A ++ p :: (B ++ p :: C)).count a = 2) : crs p a (A ++ p :: (B.reverse ++ p :: C)) = crs p a (A ++ p :: (B ++ p :: C)) := by
  rw [crs_p hpa hA hB hC ha, crs_p hpa hA (by simpa using hB) hC (by simpa [List.count_append, List.count_cons] using ha), List.count_reverse]
/-- less, letter by letter -/
def ltL : List Nat → List Nat → Bool
  | [], _ => false
  | _ :: _, [] => false
  | x :: xs, y :: ys => decide (x < y) || (x == y && ltL xs ys)
theorem ltL_irr (l : List Nat) : ltL l l = false := by
  induction l with
  | nil => rfl
  | cons x l ih => simp [ltL, ih]
theorem ltL_tri {l m : List Nat} (h : l.length = m.length) (h1 : ltL l m = false) (h2 : ltL m l = false) : l = m := by
  induction l generalizing m with
  | nil => cases m with
    | nil => rfl
    | cons y m => simp at h
  | cons x l ih =>
    cases m with
    | nil => simp at h
    | cons y m =>
      simp only [ltL, Bool.or_eq_false_iff, decide_eq_false_iff_not, Bool.and_eq_false_iff] at h1 h2
      have : x = y := by omega
      subst this
      have h3 := h1.2.resolve_left (by simp)
      have h4 := h2.2.resolve_left (by simp)
      rw [ih (by simpa using h) h3 h4]
theorem ltL_trans {a b c : List Nat} (h1 : ltL a b = true) (h2 : ltL b c = true) : ltL a c = true := by
  induction a generalizing b c with
  | nil => simp [ltL] at h1
  | cons x a ih =>
    cases b with
    | nil => simp [ltL] at h1
    | cons y b =>
      cases c with
      | nil => simp [ltL] at h2
      | cons z c =>
        simp only [ltL, Bool.or_eq_true, decide_eq_true_eq, Bool.and_eq_true, beq_iff_eq] at h1 h2 ⊢
        rcases h1 with h1 | ⟨h1, h3⟩
        · rcases h2 with h2 | ⟨h2, h4⟩
          · exact Or.inl (by omega)
          · exact Or.inl (by omega)
        · rcases h2 with h2 | ⟨h2, h4⟩
          · exact Or.inl (by omega)
          · exact Or.inr ⟨by omega, ih h3 h4⟩
theorem ltL_asym {a b : List Nat} (h1 : ltL a b = true) : ltL b a = false := by
  cases h : ltL b a with
  | false => rfl
  | true => have := ltL_trans h1 h; rw [ltL_irr] at this; cases this
/-- packed, four bits a letter -/
def pw (l : List Nat) : Nat := l.foldl (fun acc x => acc * 16 + x) 0
theorem pw_fold (l : List Nat) (s : Nat) : l.foldl (fun acc x => acc * 16 + x) s = s * 16 ^ l.length + pw l := by
  induction l generalizing s with
  | nil => simp [pw]
  | cons x l ih =>
    unfold pw
    simp only [List.foldl_cons, List.length_cons]
    rw [ih, ih (0 * 16 + x), Nat.zero_mul, Nat.zero_add, Nat.pow_succ, Nat.add_mul, Nat.mul_assoc, Nat.mul_comm 16]
    omega
theorem pw_cons (x : Nat) (l : List Nat) : pw (x :: l) = x * 16 ^ l.length + pw l := by
  show List.foldl _ (0 * 16 + x) l = _
  rw [pw_fold]; simp
theorem pw_app (l m : List Nat) : pw (l ++ m) = pw l * 16 ^ m.length + pw m := by
  unfold pw
  rw [List.foldl_append, pw_fold]
  rfl
theorem pw_lt {l : List Nat} (h : ∀ x ∈ l, x < 16) : pw l < 16 ^ l.length := by
  induction l with
  | nil => simp [pw]
  | cons x l ih =>
    rw [pw_cons, List.length_cons, Nat.pow_succ]
    have h1 := ih fun y hy => h y (List.mem_cons_of_mem _ hy)
    have h2 := h x List.mem_cons_self
    have : x * 16 ^ l.length ≤ 15 * 16 ^ l.length := Nat.mul_le_mul_right _ (by omega)
    omega
theorem pw_ltL {l m : List Nat} (hl : ∀ x ∈ l, x < 16) (hm : ∀ x ∈ m, x < 16) (h : l.length = m.length) : (ltL l m = true) = (pw l < pw m) := by
  apply propext
  induction l generalizing m with
  | nil => cases m with
    | nil => simp [ltL]
    | cons y m => simp at h
  | cons x l ih =>
    cases m with
    | nil => simp at h
    | cons y m =>
      have h' : l.length = m.length := by simpa using h
      have hl' := fun z hz => hl z (List.mem_cons_of_mem x hz)
      have hm' := fun z hz => hm z (List.mem_cons_of_mem y hz)
      have a1 := pw_lt hl'
      have a2 := pw_lt hm'
      rw [pw_cons, pw_cons, ltL]
      simp only [Bool.or_eq_true, decide_eq_true_eq, Bool.and_eq_true, beq_iff_eq]
      rw [ih hl' hm' h', h'] 
      rw [h'] at a1
      by_cases h1 : x < y
      · have : (x + 1) * 16 ^ m.length ≤ y * 16 ^ m.length := Nat.mul_le_mul_right _ (by omega)
        rw [Nat.add_mul, Nat.one_mul] at this
        simp [h1]; omega
      · by_cases h2 : x = y
        · subst h2; simp
        · have : (y + 1) * 16 ^ m.length ≤ x * 16 ^ m.length := Nat.mul_le_mul_right _ (by omega)
          rw [Nat.add_mul, Nat.one_mul] at this
          simp [h1, h2]; omega
theorem pw_inj {l m : List Nat} (hl : ∀ x ∈ l, x < 16) (hm : ∀ x ∈ m, x < 16) (h : l.length = m.length) (e : pw l = pw m) : l = m := by
  apply ltL_tri h
  · cases q : ltL l m with
    | false => rfl
    | true => rw [pw_ltL hl hm h] at q; omega
  · cases q : ltL m l with
    | false => rfl
    | true => rw [pw_ltL hm hl h.symm] at q; omega

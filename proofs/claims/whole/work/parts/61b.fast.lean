/-! ===== 61b: turnings and renamings, quick in the kernel (printed by mkorb2.py) ===== -/
def rF0 (x : Nat) : Nat := (Nat.lor (Nat.lor (Nat.lor (Nat.lor (Nat.lor (Nat.shiftLeft (Nat.land (Nat.shiftRight x 0) 1) 1) (Nat.shiftLeft (Nat.land (Nat.shiftRight x 1) 1) 2)) (Nat.shiftLeft (Nat.land (Nat.shiftRight x 3) 1) 3)) (Nat.shiftLeft (Nat.land (Nat.shiftRight x 6) 1) 4)) (Nat.shiftLeft (Nat.land (Nat.shiftRight x 10) 1) 5)) (Nat.shiftLeft (Nat.land (Nat.shiftRight x 15) 1) 6))
theorem rF0_eq (x : Nat) : rF0 x = row 7 x 0 := by
  have e : row 7 x 0 = (((((((0 ||| (false).toNat <<< 0) ||| (x.testBit 0).toNat <<< 1) ||| (x.testBit 1).toNat <<< 2) ||| (x.testBit 3).toNat <<< 3) ||| (x.testBit 6).toNat <<< 4) ||| (x.testBit 10).toNat <<< 5) ||| (x.testBit 15).toNat <<< 6) := rfl
  rw [e]
  simp only [← tb_one x 0, ← tb_one x 1, ← tb_one x 3, ← tb_one x 6, ← tb_one x 10, ← tb_one x 15, Bool.toNat_false, Nat.zero_shiftLeft, Nat.or_zero, Nat.zero_or]
  rfl
def rF1 (x : Nat) : Nat := (Nat.lor (Nat.lor (Nat.lor (Nat.lor (Nat.lor (Nat.shiftLeft (Nat.land (Nat.shiftRight x 0) 1) 0) (Nat.shiftLeft (Nat.land (Nat.shiftRight x 2) 1) 2)) (Nat.shiftLeft (Nat.land (Nat.shiftRight x 4) 1) 3)) (Nat.shiftLeft (Nat.land (Nat.shiftRight x 7) 1) 4)) (Nat.shiftLeft (Nat.land (Nat.shiftRight x 11) 1) 5)) (Nat.shiftLeft (Nat.land (Nat.shiftRight x 16) 1) 6))
theorem rF1_eq (x : Nat) : rF1 x = row 7 x 1 := by
  have e : row 7 x 1 = (((((((0 ||| (x.testBit 0).toNat <<< 0) ||| (false).toNat <<< 1) ||| (x.testBit 2).toNat <<< 2) ||| (x.testBit 4).toNat <<< 3) ||| (x.testBit 7).toNat <<< 4) ||| (x.testBit 11).toNat <<< 5) ||| (x.testBit 16).toNat <<< 6) := rfl
  rw [e]
  simp only [← tb_one x 0, ← tb_one x 2, ← tb_one x 4, ← tb_one x 7, ← tb_one x 11, ← tb_one x 16, Bool.toNat_false, Nat.zero_shiftLeft, Nat.or_zero, Nat.zero_or]
  rfl
def rF2 (x : Nat) : Nat := (Nat.lor (Nat.lor (Nat.lor (Nat.lor (Nat.lor (Nat.shiftLeft (Nat.land (Nat.shiftRight x 1) 1) 0) (Nat.shiftLeft (Nat.land (Nat.shiftRight x 2) 1) 1)) (Nat.shiftLeft (Nat.land (Nat.shiftRight x 5) 1) 3)) (Nat.shiftLeft (Nat.land (Nat.shiftRight x 8) 1) 4)) (Nat.shiftLeft (Nat.land (Nat.shiftRight x 12) 1) 5)) (Nat.shiftLeft (Nat.land (Nat.shiftRight x 17) 1) 6))
theorem rF2_eq (x : Nat) : rF2 x = row 7 x 2 := by
  have e : row 7 x 2 = (((((((0 ||| (x.testBit 1).toNat <<< 0) ||| (x.testBit 2).toNat <<< 1) ||| (false).toNat <<< 2) ||| (x.testBit 5).toNat <<< 3) ||| (x.testBit 8).toNat <<< 4) ||| (x.testBit 12).toNat <<< 5) ||| (x.testBit 17).toNat <<< 6) := rfl
  rw [e]
  simp only [← tb_one x 1, ← tb_one x 2, ← tb_one x 5, ← tb_one x 8, ← tb_one x 12, ← tb_one x 17, Bool.toNat_false, Nat.zero_shiftLeft, Nat.or_zero, Nat.zero_or]
  rfl
def rF3 (x : Nat) : Nat := (Nat.lor (Nat.lor (Nat.lor (Nat.lor (Nat.lor (Nat.shiftLeft (Nat.land (Nat.shiftRight x 3) 1) 0) (Nat.shiftLeft (Nat.land (Nat.shiftRight x 4) 1) 1)) (Nat.shiftLeft (Nat.land (Nat.shiftRight x 5) 1) 2)) (Nat.shiftLeft (Nat.land (Nat.shiftRight x 9) 1) 4)) (Nat.shiftLeft (Nat.land (Nat.shiftRight x 13) 1) 5)) (Nat.shiftLeft (Nat.land (Nat.shiftRight x 18) 1) 6))
theorem rF3_eq (x : Nat) : rF3 x = row 7 x 3 := by
  have e : row 7 x 3 = (((((((0 ||| (x.testBit 3).toNat <<< 0) ||| (x.testBit 4).toNat <<< 1) ||| (x.testBit 5).toNat <<< 2) ||| (false).toNat <<< 3) ||| (x.testBit 9).toNat <<< 4) ||| (x.testBit 13).toNat <<< 5) ||| (x.testBit 18).toNat <<< 6) := rfl
  rw [e]
  simp only [← tb_one x 3, ← tb_one x 4, ← tb_one x 5, ← tb_one x 9, ← tb_one x 13, ← tb_one x 18, Bool.toNat_false, Nat.zero_shiftLeft, Nat.or_zero, Nat.zero_or]
  rfl
def rF4 (x : Nat) : Nat := (Nat.lor (Nat.lor (Nat.lor (Nat.lor (Nat.lor (Nat.shiftLeft (Nat.land (Nat.shiftRight x 6) 1) 0) (Nat.shiftLeft (Nat.land (Nat.shiftRight x 7) 1) 1)) (Nat.shiftLeft (Nat.land (Nat.shiftRight x 8) 1) 2)) (Nat.shiftLeft (Nat.land (Nat.shiftRight x 9) 1) 3)) (Nat.shiftLeft (Nat.land (Nat.shiftRight x 14) 1) 5)) (Nat.shiftLeft (Nat.land (Nat.shiftRight x 19) 1) 6))
theorem rF4_eq (x : Nat) : rF4 x = row 7 x 4 := by
  have e : row 7 x 4 = (((((((0 ||| (x.testBit 6).toNat <<< 0) ||| (x.testBit 7).toNat <<< 1) ||| (x.testBit 8).toNat <<< 2) ||| (x.testBit 9).toNat <<< 3) ||| (false).toNat <<< 4) ||| (x.testBit 14).toNat <<< 5) ||| (x.testBit 19).toNat <<< 6) := rfl
  rw [e]
  simp only [← tb_one x 6, ← tb_one x 7, ← tb_one x 8, ← tb_one x 9, ← tb_one x 14, ← tb_one x 19, Bool.toNat_false, Nat.zero_shiftLeft, Nat.or_zero, Nat.zero_or]
  rfl
def rF5 (x : Nat) : Nat := (Nat.lor (Nat.lor (Nat.lor (Nat.lor (Nat.lor (Nat.shiftLeft (Nat.land (Nat.shiftRight x 10) 1) 0) (Nat.shiftLeft (Nat.land (Nat.shiftRight x 11) 1) 1)) (Nat.shiftLeft (Nat.land (Nat.shiftRight x 12) 1) 2)) (Nat.shiftLeft (Nat.land (Nat.shiftRight x 13) 1) 3)) (Nat.shiftLeft (Nat.land (Nat.shiftRight x 14) 1) 4)) (Nat.shiftLeft (Nat.land (Nat.shiftRight x 20) 1) 6))
theorem rF5_eq (x : Nat) : rF5 x = row 7 x 5 := by
  have e : row 7 x 5 = (((((((0 ||| (x.testBit 10).toNat <<< 0) ||| (x.testBit 11).toNat <<< 1) ||| (x.testBit 12).toNat <<< 2) ||| (x.testBit 13).toNat <<< 3) ||| (x.testBit 14).toNat <<< 4) ||| (false).toNat <<< 5) ||| (x.testBit 20).toNat <<< 6) := rfl
  rw [e]
  simp only [← tb_one x 10, ← tb_one x 11, ← tb_one x 12, ← tb_one x 13, ← tb_one x 14, ← tb_one x 20, Bool.toNat_false, Nat.zero_shiftLeft, Nat.or_zero, Nat.zero_or]
  rfl
def rF6 (x : Nat) : Nat := (Nat.lor (Nat.lor (Nat.lor (Nat.lor (Nat.lor (Nat.shiftLeft (Nat.land (Nat.shiftRight x 15) 1) 0) (Nat.shiftLeft (Nat.land (Nat.shiftRight x 16) 1) 1)) (Nat.shiftLeft (Nat.land (Nat.shiftRight x 17) 1) 2)) (Nat.shiftLeft (Nat.land (Nat.shiftRight x 18) 1) 3)) (Nat.shiftLeft (Nat.land (Nat.shiftRight x 19) 1) 4)) (Nat.shiftLeft (Nat.land (Nat.shiftRight x 20) 1) 5))
theorem rF6_eq (x : Nat) : rF6 x = row 7 x 6 := by
  have e : row 7 x 6 = (((((((0 ||| (x.testBit 15).toNat <<< 0) ||| (x.testBit 16).toNat <<< 1) ||| (x.testBit 17).toNat <<< 2) ||| (x.testBit 18).toNat <<< 3) ||| (x.testBit 19).toNat <<< 4) ||| (x.testBit 20).toNat <<< 5) ||| (false).toNat <<< 6) := rfl
  rw [e]
  simp only [← tb_one x 15, ← tb_one x 16, ← tb_one x 17, ← tb_one x 18, ← tb_one x 19, ← tb_one x 20, Bool.toNat_false, Nat.zero_shiftLeft, Nat.or_zero, Nat.zero_or]
  rfl
noncomputable def rF (x p : Nat) : Nat := Nat.rec (rF0 x) (fun p _ => Nat.rec (rF1 x) (fun p _ => Nat.rec (rF2 x) (fun p _ => Nat.rec (rF3 x) (fun p _ => Nat.rec (rF4 x) (fun p _ => Nat.rec (rF5 x) (fun _ _ => rF6 x) p) p) p) p) p) p
def pF (s : Nat) : Nat := (Nat.lor (Nat.lor (Nat.lor (Nat.lor (Nat.lor (Nat.mul (Nat.land (Nat.shiftRight s 1) 1) (Nat.land s 1)) (Nat.mul (Nat.land (Nat.shiftRight s 2) 1) (Nat.shiftLeft (Nat.land s 3) 1))) (Nat.mul (Nat.land (Nat.shiftRight s 3) 1) (Nat.shiftLeft (Nat.land s 7) 3))) (Nat.mul (Nat.land (Nat.shiftRight s 4) 1) (Nat.shiftLeft (Nat.land s 15) 6))) (Nat.mul (Nat.land (Nat.shiftRight s 5) 1) (Nat.shiftLeft (Nat.land s 31) 10))) (Nat.mul (Nat.land (Nat.shiftRight s 6) 1) (Nat.shiftLeft (Nat.land s 63) 15)))
theorem pF_eq : ∀ s, s < 128 → pF s = prs s := by decide +kernel
noncomputable def tF (x p : Nat) : Nat := Nat.xor x (pF (rF x p))
theorem rF_eq {x p : Nat} (hp : p < 7) : rF x p = row 7 x p := by
  have : p = 0 ∨ p = 1 ∨ p = 2 ∨ p = 3 ∨ p = 4 ∨ p = 5 ∨ p = 6 := by omega
  rcases this with rfl | rfl | rfl | rfl | rfl | rfl | rfl
  · exact rF0_eq x
  · exact rF1_eq x
  · exact rF2_eq x
  · exact rF3_eq x
  · exact rF4_eq x
  · exact rF5_eq x
  · exact rF6_eq x
theorem adj_out {n L p q : Nat} (hn : n < 8) (hL : L < 2 ^ tri n) (hq : n ≤ q) (hq7 : q < 7) (hp : p < q) : adj L p q = false := by
  rw [adj_comm, adj_hi hp]
  refine tb_of_lt hL ?_
  rw [pr_tri hp]
  have : tri n ≤ tri q := by
    by_cases h : n = q
    · rw [h]; exact Nat.le_refl _
    · exact tri_mono q (by omega) n (by omega)
  omega
theorem row_7 {n L p : Nat} (hn : n < 8) (hL : L < 2 ^ tri n) (hp : p < n) : row 7 L p = row n L p := by
  apply Nat.eq_of_testBit_eq
  intro i
  rw [row_tb, row_tb]
  by_cases h7 : i < 7
  · by_cases hi : i < n
    · have : i < 7 := by omega
      simp [hi, this]
    · rw [adj_out hn hL (by omega) h7 (by omega)]; simp
  · have : ¬ i < n := by omega
    simp [h7, this]
theorem tF_eq {n x p : Nat} (hn : n < 8) (hx : x < 2 ^ tri n) (hp : p < n) : tF x p = turn n x p := by
  have h7 : p < 7 := by omega
  have e : tF x p = x ^^^ pF (rF x p) := rfl
  rw [e, rF_eq h7, row_7 hn hx hp, pF_eq _ (lt128 hn (row_lt _ _ _)), turn_x hn hx hp]
/-- two bits change places -/
def dF (x i j : Nat) : Nat := Nat.xor x (Nat.mul (Nat.land (Nat.xor (Nat.shiftRight x i) (Nat.shiftRight x j)) 1) (Nat.lor (Nat.shiftLeft 1 i) (Nat.shiftLeft 1 j)))
def swp (i j k : Nat) : Nat := if k = i then j else if k = j then i else k
theorem dF_tb {x i j k : Nat} (hij : i ≠ j) : (dF x i j).testBit k = x.testBit (swp i j k) := by
  have e : dF x i j = x ^^^ (((x >>> i ^^^ x >>> j) &&& 1) * (1 <<< i ||| 1 <<< j)) := rfl
  have e2 : (x >>> i ^^^ x >>> j) &&& 1 = (x.testBit i != x.testBit j).toNat := by
    rw [Nat.and_xor_distrib_right, tb_one, tb_one]
    cases x.testBit i <;> cases x.testBit j <;> rfl
  rw [e, e2, Nat.testBit_xor]
  unfold swp
  by_cases h : x.testBit i = x.testBit j
  · have : (x.testBit i != x.testBit j) = false := by rw [h]; simp
    rw [this]
    simp only [Bool.toNat_false, Nat.zero_mul, Nat.zero_testBit, Bool.xor_false]
    split
    · rename_i hk; rw [hk, h]
    · split
      · rename_i hk; rw [hk, h]
      · rfl
  · have : (x.testBit i != x.testBit j) = true := by
      cases h1 : x.testBit i <;> cases h2 : x.testBit j <;> simp_all
    rw [this]
    simp only [Bool.toNat_true, Nat.one_mul]
    rw [Nat.testBit_or, tb_set, tb_set]
    by_cases hk : k = i
    · rw [if_pos hk, hk]
      have : ¬ i = j := hij
      simp only [decide_true, Bool.true_or]
      cases h1 : x.testBit i <;> cases h2 : x.testBit j <;> simp_all
    · rw [if_neg hk]
      by_cases hk2 : k = j
      · rw [if_pos hk2, hk2]
        simp only [decide_true, Bool.or_true]
        cases h1 : x.testBit i <;> cases h2 : x.testBit j <;> simp_all
      · rw [if_neg hk2]
        simp [hk, hk2]
/-- the places of a point's couples with the others, against another's -/
def eF (x a b : Nat) : Nat → Nat
  | 0 => x
  | c + 1 => if c = a ∨ c = b then eF x a b c else dF (eF x a b c) (pr a c) (pr b c)
def eK (a b : Nat) : Nat → Nat → Nat
  | 0, k => k
  | c + 1, k => if c = a ∨ c = b then eK a b c k else eK a b c (swp (pr a c) (pr b c) k)
theorem pr_ne0 : ∀ a, a < 7 → ∀ b, b < 7 → ∀ c, c < 7 → a = b ∨ c = a ∨ c = b ∨ pr a c ≠ pr b c := by decide +kernel
theorem pr_ne {a b c : Nat} (ha : a < 7) (hb : b < 7) (hab : a ≠ b) (hc : c < 7) (h : ¬ (c = a ∨ c = b)) : pr a c ≠ pr b c := by
  rcases pr_ne0 a ha b hb c hc with q | q | q | q
  · exact absurd q hab
  · exact absurd (Or.inl q) h
  · exact absurd (Or.inr q) h
  · exact q
theorem nb_iff {a b : Nat} : Nat.beq a b = true ↔ a = b := ⟨Nat.eq_of_beq_eq_true, fun h => by rw [h]; exact Nat.beq_refl _⟩
theorem eF_tb {x a b : Nat} (ha : a < 7) (hb : b < 7) (hab : a ≠ b) : ∀ c, c ≤ 7 → ∀ k, (eF x a b c).testBit k = x.testBit (eK a b c k) := by
  intro c
  induction c with
  | zero => intro _ k; rfl
  | succ c ih =>
    intro hc k
    rw [eF, eK]
    split
    · exact ih (by omega) k
    · rename_i h
      rw [dF_tb (pr_ne ha hb hab (by omega) h), ih (by omega)]
theorem eK_d : ∀ a, a < 7 → ∀ b, b < 7 → a ≠ b → ∀ k, k < 21 → eK a b 7 k = pr (exch a b (pi1 k)) (exch a b (pi2 k)) := by decide +kernel
theorem eF_eq {n x a b : Nat} (hn : n < 8) (hx : x < 2 ^ tri n) (ha : a < n) (hb : b < n) (hab : a ≠ b) : eF x a b 7 = exnet n x a b := by
  have hin : ∀ h l, h < 7 → l < h → (eF x a b 7).testBit (pr h l) = adj x (exch a b h) (exch a b l) := by
    intro h l hh hl
    have h21 : pr h l < 21 := pr_lt21 h hh l (by omega) (by omega)
    obtain ⟨i1, i2⟩ := pr_inv h hh l hl
    have hne := exch_ne (a := a) (b := b) (show h ≠ l by omega)
    rw [eF_tb (by omega) (by omega) hab 7 (Nat.le_refl _), eK_d a (by omega) b (by omega) hab _ h21, i1, i2]
    unfold adj
    simp [hne]
  refine net_ext hn ?_ (exnet_lt _ _ _ _) fun h hh l hl => ?_
  · apply lt_of_tb
    intro k hk
    by_cases hk21 : k < 21
    · obtain ⟨q1, q2, q3⟩ := pr_surj 7 (by omega) k hk21
      rw [← q3, hin _ _ q1 q2]
      have hnn : n ≤ pi1 k := by
        apply Classical.byContradiction
        intro hlt
        have := pr_lt n hn (pi1 k) (by omega) (pi2 k) q2
        omega
      have e1 : exch a b (pi1 k) = pi1 k := by unfold exch; rw [if_neg (by omega), if_neg (by omega)]
      have e2 : exch a b (pi2 k) < pi1 k := by
        unfold exch
        split
        · omega
        · split <;> omega
      rw [e1, adj_comm]
      exact adj_out hn hx hnn q1 e2
    · have : x < 2 ^ 21 := lt21 hn hx
      rw [eF_tb (by omega) (by omega) hab 7 (Nat.le_refl _)]
      have hk2 : eK a b 7 k = k := by
        have key : ∀ c, c ≤ 7 → eK a b c k = k := by
          intro c
          induction c with
          | zero => intro _; rfl
          | succ c ih =>
            intro hc
            rw [eK]
            split
            · exact ih (by omega)
            · rename_i hcab
              have l1 : pr a c < 21 := pr_lt21 a (by omega) c (by omega) (fun z => hcab (Or.inl z.symm))
              have l2 : pr b c < 21 := pr_lt21 b (by omega) c (by omega) (fun z => hcab (Or.inr z.symm))
              have : swp (pr a c) (pr b c) k = k := by
                unfold swp
                rw [if_neg (by omega), if_neg (by omega)]
              rw [this]; exact ih (by omega)
        exact key 7 (Nat.le_refl _)
      rw [hk2]
      exact tb_of_lt this (by omega)
  · rw [hin h l (by omega) hl]
    unfold exnet
    rw [mk_tb hn _ hh hl]
noncomputable def sF (x a b : Nat) : Nat := eF x a b 7
noncomputable def mF (x c : Nat) : Nat := cond (Nat.beq (Nat.div c 8) (Nat.mod c 8)) (tF x (Nat.div c 8)) (sF x (Nat.div c 8) (Nat.mod c 8))
theorem mF_eq {n x c : Nat} (hn : n < 8) (hx : x < 2 ^ tri n) (h1 : c / 8 < n) (h2 : c % 8 < n) : mF x c = mv n x c := by
  have e : mF x c = cond (Nat.beq (c / 8) (c % 8)) (tF x (c / 8)) (sF x (c / 8) (c % 8)) := rfl
  unfold mv
  rw [e]
  by_cases h : c / 8 = c % 8
  · rw [nb_iff.mpr h, if_pos h]
    exact tF_eq hn hx h1
  · have : Nat.beq (c / 8) (c % 8) = false := by
      cases hb : Nat.beq (c / 8) (c % 8) with
      | false => rfl
      | true => exact absurd (nb_iff.mp hb) h
    rw [this, if_neg h]
    exact eF_eq hn hx h1 h2 h
noncomputable def meF (y : Nat) (l : List Nat) : Bool := List.rec false (fun a _ ih => or (Nat.beq a y) ih) l
theorem meF_iff {y : Nat} {l : List Nat} : meF y l = true ↔ y ∈ l := by
  induction l with
  | nil => simp [meF]
  | cons a l ih =>
    have e : meF y (a :: l) = (Nat.beq a y || meF y l) := rfl
    rw [e, Bool.or_eq_true, ih, List.mem_cons, nb_iff]
    constructor
    · rintro (h | h)
      · exact Or.inl h.symm
      · exact Or.inr h
    · rintro (h | h)
      · exact Or.inl h.symm
      · exact Or.inr h
noncomputable def nthF (l : List (List Nat)) : Nat → List Nat := List.rec (fun _ => []) (fun a _ ih k => Nat.rec a (fun j _ => ih j) k) l
noncomputable def nthG (l : List (List (List Nat))) : Nat → List (List Nat) := List.rec (fun _ => []) (fun a _ ih k => Nat.rec a (fun j _ => ih j) k) l
theorem nthF_mem {y : Nat} {l : List (List Nat)} {k : Nat} (h : y ∈ nthF l k) : y ∈ l.flatten := by
  induction l generalizing k with
  | nil => exact absurd h List.not_mem_nil
  | cons a l ih =>
    rw [List.flatten_cons, List.mem_append]
    cases k with
    | zero => exact Or.inl h
    | succ k => exact Or.inr (ih h)
theorem nthG_mem {y : List Nat} {l : List (List (List Nat))} {k : Nat} (h : y ∈ nthG l k) : y ∈ l.flatten := by
  induction l generalizing k with
  | nil => exact absurd h List.not_mem_nil
  | cons a l ih =>
    rw [List.flatten_cons, List.mem_append]
    cases k with
    | zero => exact Or.inl h
    | succ k => exact Or.inr (ih h)
noncomputable def inF (T : List (List (List Nat))) (y : Nat) : Bool := meF y (nthF (nthG T (Nat.mod y 32)) (Nat.mod (Nat.div y 32) 32))
theorem inF_mem {T : List (List (List Nat))} {y : Nat} (h : inF T y = true) : y ∈ T.flatten.flatten := by
  have h1 := nthF_mem (meF_iff.mp h)
  rw [List.mem_flatten] at h1
  obtain ⟨l, h2, h3⟩ := h1
  rw [List.mem_flatten]
  exact ⟨l, nthG_mem h2, h3⟩
noncomputable def ptF (T : List (List (List Nat))) (x : Nat) (n : Nat) : Bool := Nat.rec true (fun p ih => and (inF T (tF x p)) ih) n
theorem ptF_all {T : List (List (List Nat))} {x n : Nat} (h : ptF T x n = true) : ∀ p, p < n → inF T (tF x p) = true := by
  induction n with
  | zero => intro p hp; omega
  | succ n ih =>
    have e : ptF T x (n + 1) = (inF T (tF x n) && ptF T x n) := rfl
    rw [e, Bool.and_eq_true] at h
    intro p hp
    by_cases hpn : p = n
    · rw [hpn]; exact h.1
    · exact ih h.2 p (by omega)
noncomputable def alF (T : List (List (List Nat))) (n b : Nat) (l : List Nat) : Bool := List.rec true (fun x _ ih => and (Nat.blt x b) (and (ptF T x n) ih)) l
theorem alF_all {T : List (List (List Nat))} {n b : Nat} {l : List Nat} (h : alF T n b l = true) : ∀ x ∈ l, x < b ∧ ptF T x n = true := by
  induction l with
  | nil => intro x hx; exact absurd hx List.not_mem_nil
  | cons a l ih =>
    have e : alF T n b (a :: l) = (Nat.blt a b && (ptF T a n && alF T n b l)) := rfl
    rw [e, Bool.and_eq_true, Bool.and_eq_true] at h
    intro x hx
    rcases List.mem_cons.mp hx with rfl | hx
    · exact ⟨Nat.le_of_ble_eq_true h.1, h.2.1⟩
    · exact ih h.2.2 x hx
noncomputable def alG (T : List (List (List Nat))) (n b : Nat) (l : List (List Nat)) : Bool := List.rec true (fun x _ ih => and (alF T n b x) ih) l
theorem alG_all {T : List (List (List Nat))} {n b : Nat} {l : List (List Nat)} (h : alG T n b l = true) : ∀ x ∈ l, alF T n b x = true := by
  induction l with
  | nil => intro x hx; exact absurd hx List.not_mem_nil
  | cons a l ih =>
    have e : alG T n b (a :: l) = (alF T n b a && alG T n b l) := rfl
    rw [e, Bool.and_eq_true] at h
    intro x hx
    rcases List.mem_cons.mp hx with rfl | hx
    · exact h.1
    · exact ih h.2 x hx
noncomputable def alH (T : List (List (List Nat))) (n b : Nat) (l : List (List (List Nat))) : Bool := List.rec true (fun x _ ih => and (alG T n b x) ih) l
theorem alH_all {T : List (List (List Nat))} {n b : Nat} {l : List (List (List Nat))} (h : alH T n b l = true) : ∀ x ∈ l, alG T n b x = true := by
  induction l with
  | nil => intro x hx; exact absurd hx List.not_mem_nil
  | cons a l ih =>
    have e : alH T n b (a :: l) = (alG T n b a && alH T n b l) := rfl
    rw [e, Bool.and_eq_true] at h
    intro x hx
    rcases List.mem_cons.mp hx with rfl | hx
    · exact h.1
    · exact ih h.2 x hx
theorem clF_Bnd {n r : Nat} {T : List (List (List Nat))} (hn : n < 8) (h1 : inF T r = true) (h2 : T.flatten.flatten.length ≤ 1096) (h3 : alH T n (2 ^ tri n) T = true) : Bnd n r := by
  refine ⟨T.flatten.flatten, inF_mem h1, fun x hx => ?_, h2⟩
  rw [List.mem_flatten] at hx
  obtain ⟨l, hl, hx⟩ := hx
  rw [List.mem_flatten] at hl
  obtain ⟨m, hm, hl⟩ := hl
  obtain ⟨a1, a2⟩ := alF_all (alG_all (alH_all h3 m hm) l hl) x hx
  refine ⟨a1, fun p hp => ?_⟩
  rw [← tF_eq hn a1 hp]
  exact inF_mem (ptF_all a2 p hp)
noncomputable def ruF (R : List Nat) (n f : Nat) : Nat → Nat → Bool := Nat.rec (fun _ _ => false) (fun _ ih k x => cond (Nat.beq k 0) (meF x R) (and (Nat.blt (Nat.div (Nat.sub (Nat.mod k 64) 1) 8) n) (and (Nat.blt (Nat.mod (Nat.sub (Nat.mod k 64) 1) 8) n) (ih (Nat.div k 64) (mF x (Nat.sub (Nat.mod k 64) 1)))))) f
theorem ruF_Rp {R : List Nat} {n : Nat} (hn : n < 8) : ∀ f k x, x < 2 ^ tri n → ruF R n f k x = true → Rp R n x := by
  intro f
  induction f with
  | zero => intro k x _ h; have h' : false = true := h; cases h'
  | succ f ih =>
    intro k x hx h
    have e : ruF R n (f + 1) k x = cond (Nat.beq k 0) (meF x R) (Nat.blt ((k % 64 - 1) / 8) n && (Nat.blt ((k % 64 - 1) % 8) n && ruF R n f (k / 64) (mF x (k % 64 - 1)))) := rfl
    rw [e] at h
    cases hk : Nat.beq k 0 with
    | true =>
      rw [hk] at h
      exact ⟨[], ⟨fun c hc => absurd hc List.not_mem_nil, meF_iff.mp h⟩⟩
    | false =>
      rw [hk] at h
      have h' : (Nat.blt ((k % 64 - 1) / 8) n && (Nat.blt ((k % 64 - 1) % 8) n && ruF R n f (k / 64) (mF x (k % 64 - 1)))) = true := h
      rw [Bool.and_eq_true, Bool.and_eq_true] at h'
      obtain ⟨h1, h2, h3⟩ := h'
      have h1' : (k % 64 - 1) / 8 < n := Nat.le_of_ble_eq_true h1
      have h2' : (k % 64 - 1) % 8 < n := Nat.le_of_ble_eq_true h2
      rw [mF_eq hn hx h1' h2'] at h3
      obtain ⟨cs, h4, h5⟩ := ih _ _ (mv_lt _ _ _) h3
      exact ⟨(k % 64 - 1) :: cs, ⟨fun c hc => by
        rcases List.mem_cons.mp hc with rfl | hc
        · exact ⟨h1', h2'⟩
        · exact h4 c hc, h5⟩⟩
/-- one representative with one point more: the codes in the order of the sets -/
noncomputable def raF (R : List Nat) (n r w : Nat) (l : List Nat) : Nat → Bool := List.rec (fun _ => true) (fun k _ ih s => and (ruF R n 40 k (Nat.add r (Nat.mul s w))) (ih (Nat.succ s))) l
theorem raF_all {R : List Nat} {n r w : Nat} {l : List Nat} : ∀ s, raF R n r w l s = true → ∀ i, i < l.length → ruF R n 40 (l.getD i 0) (r + (s + i) * w) = true := by
  induction l with
  | nil => intro s _ i hi; exact absurd hi (by simp)
  | cons k l ih =>
    intro s h i hi
    have e : raF R n r w (k :: l) s = (ruF R n 40 k (r + s * w) && raF R n r w l (s + 1)) := rfl
    rw [e, Bool.and_eq_true] at h
    cases i with
    | zero => exact h.1
    | succ i =>
      have := ih (s + 1) h.2 i (by simpa using hi)
      rw [show s + 1 + i = s + (i + 1) by omega] at this
      exact this
/-- the step for one representative -/
def okR (R' : List Nat) (n r : Nat) : Prop := ∀ S, S < 2 ^ n → Rp R' (n + 1) (r + S * 2 ^ tri n)
theorem okR_of {R' : List Nat} {n r : Nat} {l : List Nat} (hn : n < 7) (hr : r < 2 ^ tri n) (hl : l.length = 2 ^ n) (h : raF R' (n + 1) r (2 ^ tri n) l 0 = true) : okR R' n r := by
  intro S hS
  have h1 := raF_all 0 h S (by rw [hl]; exact hS)
  rw [Nat.zero_add] at h1
  refine ruF_Rp (by omega) 40 _ _ ?_ h1
  rw [tri_s, Nat.pow_add]
  have h2 : (S + 1) * 2 ^ tri n ≤ 2 ^ n * 2 ^ tri n := Nat.mul_le_mul_right _ hS
  rw [Nat.add_mul, Nat.one_mul, Nat.mul_comm (2 ^ n)] at h2
  omega
theorem Rp_stepF {R R' : List Nat} {n : Nat} (hn : n < 7) (hs : ∀ r ∈ R, okR R' n r) (h : ∀ L, L < 2 ^ tri n → Rp R n L) : ∀ L, L < 2 ^ tri (n + 1) → Rp R' (n + 1) L := by
  intro L hL
  obtain ⟨cs, hcs, hr⟩ := h (L % 2 ^ tri n) (low_lt _ _)
  have hup : ∀ c ∈ cs, okM (n + 1) c := fun c hc => by obtain ⟨a, b⟩ := hcs c hc; exact ⟨by omega, by omega⟩
  obtain ⟨L1, hL1⟩ : ∃ L1, L1 = aps (n + 1) cs L := ⟨_, rfl⟩
  have hlt : L1 < 2 ^ tri (n + 1) := by rw [hL1]; exact aps_lt cs L hL
  have hlow : L1 % 2 ^ tri n ∈ R := by rw [hL1, low_aps hn cs L hcs]; exact hr
  rw [tri_s, Nat.pow_add] at hlt
  have hS : L1 / 2 ^ tri n < 2 ^ n := Nat.div_lt_of_lt_mul hlt
  obtain ⟨ds, hds, hd⟩ := hs _ hlow _ hS
  rw [Nat.mul_comm, Nat.mod_add_div, hL1, ← aps_app] at hd
  exact ⟨cs ++ ds, ⟨fun c hc => by
    rcases List.mem_append.mp hc with hc | hc
    · exact hup c hc
    · exact hds c hc, hd⟩⟩

/-! ===== 42: sets as bits, couples of points, networks as codes ===== -/
theorem up {P : Nat → Nat → Prop} {a n : Nat} (h0 : ∀ f, P n (f + 1)) (h1 : ∀ i f, a ≤ i → i < n → P (i + 1) f → P i (f + 1)) (f : Nat) (han : a ≤ n) (hf : n - a < f) : P a f := by
  have key : ∀ d i f, i + d = n → a ≤ i → d < f → P i f := by
    intro d
    induction d with
    | zero =>
      intro i f h ha hf
      obtain ⟨g, rfl⟩ : ∃ g, f = g + 1 := ⟨f - 1, by omega⟩
      have : i = n := by omega
      subst this
      exact h0 g
    | succ d ih =>
      intro i f h ha hf
      obtain ⟨g, rfl⟩ : ∃ g, f = g + 1 := ⟨f - 1, by omega⟩
      exact h1 i g ha (by omega) (ih (i + 1) g (by omega) (by omega) (by omega))
  exact key (n - a) a f (by omega) (Nat.le_refl a) hf
theorem FU_gt {k : Nat} (h : k < 1000000000) : k < FU := h
/-- the set of those below n -/
def bs (f : Nat → Bool) : Nat → Nat
  | 0 => 0
  | n + 1 => bs f n ||| ((f n).toNat <<< n)
theorem tb_b (b : Bool) (i : Nat) : b.toNat.testBit i = (b && decide (i = 0)) := by
  cases b
  · simp
  · cases i with
    | zero => rfl
    | succ i => simp [Nat.testBit_succ]
theorem bs_tb (f : Nat → Bool) (n i : Nat) : (bs f n).testBit i = (decide (i < n) && f i) := by
  induction n with
  | zero => simp [bs]
  | succ n ih =>
    simp only [bs, Nat.testBit_or, ih, Nat.testBit_shiftLeft, tb_b]
    by_cases h : i = n
    · subst h; simp
    · by_cases h1 : i < n
      · have h2 : i < n + 1 := by omega
        have h3 : ¬ n ≤ i := by omega
        simp [h1, h2, h3]
      · have h2 : ¬ i < n + 1 := by omega
        have h3 : ¬ (i - n = 0) := by omega
        simp [h1, h2, h3]
theorem bs_lt (f : Nat → Bool) (n : Nat) : bs f n < 2 ^ n := by
  induction n with
  | zero => simp [bs]
  | succ n ih =>
    simp only [bs]
    apply Nat.or_lt_two_pow
    · exact Nat.lt_of_lt_of_le ih (Nat.pow_le_pow_right (by decide) (by omega))
    · rw [Nat.shiftLeft_eq, Nat.pow_succ]
      have : (f n).toNat ≤ 1 := Bool.toNat_le _
      have h2 : 0 < 2 ^ n := Nat.two_pow_pos n
      calc (f n).toNat * 2 ^ n ≤ 1 * 2 ^ n := Nat.mul_le_mul_right _ this
        _ < 2 ^ n * 2 := by omega
theorem lt_of_tb {x n : Nat} (h : ∀ i, n ≤ i → x.testBit i = false) : x < 2 ^ n := Nat.lt_pow_two_of_testBit x h
theorem tb_of_lt {x n i : Nat} (h : x < 2 ^ n) (hi : n ≤ i) : x.testBit i = false := Nat.testBit_lt_two_pow (Nat.lt_of_lt_of_le h (Nat.pow_le_pow_right (by decide) hi))
theorem bs_of {x n : Nat} (h : x < 2 ^ n) : x = bs x.testBit n := by
  apply Nat.eq_of_testBit_eq
  intro i
  rw [bs_tb]
  by_cases hi : i < n
  · simp [hi]
  · rw [tb_of_lt h (Nat.le_of_not_lt hi)]; simp [hi]
theorem bs_congr {f g : Nat → Bool} {n : Nat} (h : ∀ i, i < n → f i = g i) : bs f n = bs g n := by
  apply Nat.eq_of_testBit_eq
  intro i
  rw [bs_tb, bs_tb]
  by_cases hi : i < n
  · simp [hi, h i hi]
  · simp [hi]
theorem bs_eq {f : Nat → Bool} {n x : Nat} (h : x < 2 ^ n) (hf : ∀ i, i < n → x.testBit i = f i) : x = bs f n := by
  rw [bs_of h]
  exact bs_congr hf
theorem tb_one (x k : Nat) : x >>> k &&& 1 = (x.testBit k).toNat := by
  apply Nat.eq_of_testBit_eq
  intro i
  rw [Nat.testBit_and, Nat.testBit_shiftRight, tb_b]
  cases i with
  | zero => simp
  | succ i => simp [Nat.testBit_succ]
theorem tb_set (k i : Nat) : (1 <<< k).testBit i = decide (i = k) := by
  rw [Nat.testBit_shiftLeft]
  by_cases h : i = k
  · subst h; simp
  · by_cases h1 : k ≤ i
    · have : i - k ≠ 0 := by omega
      obtain ⟨j, hj⟩ : ∃ j, i - k = j + 1 := ⟨i - k - 1, by omega⟩
      simp [h, hj, Nat.testBit_succ]
    · simp [h, h1]
theorem all_eq (n : Nat) : 1 <<< n - 1 = 2 ^ n - 1 := by rw [Nat.shiftLeft_eq, Nat.one_mul]
theorem all_tb (n i : Nat) : (1 <<< n - 1).testBit i = decide (i < n) := by rw [all_eq, Nat.testBit_two_pow_sub_one]
theorem set_lt {k n : Nat} (h : k < n) : 1 <<< k < 2 ^ n := by rw [Nat.shiftLeft_eq, Nat.one_mul]; exact Nat.pow_lt_pow_right (by decide) h
/-- how many of those below n -/
def cnt (f : Nat → Bool) : Nat → Nat
  | 0 => 0
  | n + 1 => cnt f n + (f n).toNat
theorem cnt_congr {f g : Nat → Bool} {n : Nat} (h : ∀ i, i < n → f i = g i) : cnt f n = cnt g n := by
  induction n with
  | zero => rfl
  | succ n ih => simp only [cnt, ih (fun i hi => h i (by omega)), h n (by omega)]
theorem cnt_le (f : Nat → Bool) (n : Nat) : cnt f n ≤ n := by
  induction n with
  | zero => exact Nat.le_refl _
  | succ n ih =>
    have : (f n).toNat ≤ 1 := Bool.toNat_le _
    simp only [cnt]; omega
theorem cnt_none {f : Nat → Bool} {n : Nat} (h : ∀ i, i < n → f i = false) : cnt f n = 0 := by
  induction n with
  | zero => rfl
  | succ n ih => simp [cnt, ih (fun i hi => h i (by omega)), h n (by omega)]
theorem cnt_add {f : Nat → Bool} {m n : Nat} : cnt f (m + n) = cnt f m + cnt (fun i => f (m + i)) n := by
  induction n with
  | zero => rfl
  | succ n ih => rw [← Nat.add_assoc]; simp only [cnt, ih]; omega
theorem cnt_more {f : Nat → Bool} {m n : Nat} (h : ∀ i, m ≤ i → f i = false) (hmn : m ≤ n) : cnt f n = cnt f m := by
  obtain ⟨d, rfl⟩ : ∃ d, n = m + d := ⟨n - m, by omega⟩
  have h2 : cnt (fun i => f (m + i)) d = 0 := cnt_none fun i _ => h _ (Nat.le_add_right m i)
  rw [cnt_add, h2]
  rfl
theorem cnt_mono {f g : Nat → Bool} {n : Nat} (h : ∀ i, i < n → f i = true → g i = true) : cnt f n ≤ cnt g n := by
  induction n with
  | zero => exact Nat.le_refl _
  | succ n ih =>
    have h1 := ih (fun i hi => h i (by omega))
    have h2 : (f n).toNat ≤ (g n).toNat := by
      cases hf : f n with
      | false => simp
      | true => rw [h n (by omega) hf]; simp
    simp only [cnt]; omega
theorem cnt_lt {f g : Nat → Bool} {n k : Nat} (h : ∀ i, i < n → f i = true → g i = true) (hk : k < n) (hf : f k = false) (hg : g k = true) : cnt f n < cnt g n := by
  induction n with
  | zero => omega
  | succ n ih =>
    by_cases hkn : k = n
    · subst hkn
      have h1 := cnt_mono (n := k) (fun i hi => h i (by omega))
      simp only [cnt, hf, hg]; simp; omega
    · have h1 := ih (fun i hi => h i (by omega)) (by omega)
      have h2 : (f n).toNat ≤ (g n).toNat := by
        cases hf : f n with
        | false => simp
        | true => rw [h n (by omega) hf]; simp
      simp only [cnt]; omega
/-- how many bits -/
def pc (x : Nat) : Nat := cnt x.testBit 21
theorem pc_of {x n : Nat} (h : x < 2 ^ n) (hn : n ≤ 21) : pc x = cnt x.testBit n := cnt_more (fun i hi => tb_of_lt h hi) hn
theorem pc_bs (f : Nat → Bool) {n : Nat} (hn : n ≤ 21) : pc (bs f n) = cnt f n := by
  rw [pc_of (bs_lt f n) hn]
  exact cnt_congr fun i hi => by simp [bs_tb, hi]
theorem pc_le {x n : Nat} (h : x < 2 ^ n) (hn : n ≤ 21) : pc x ≤ n := by rw [pc_of h hn]; exact cnt_le _ _
/-! couples -/
def pr (a b : Nat) : Nat := if a > b then a * (a - 1) / 2 + b else b * (b - 1) / 2 + a
def tri (n : Nat) : Nat := n * (n - 1) / 2
def prl : List (Nat × Nat) := [(1, 0), (2, 0), (2, 1), (3, 0), (3, 1), (3, 2), (4, 0), (4, 1), (4, 2), (4, 3), (5, 0), (5, 1), (5, 2), (5, 3), (5, 4), (6, 0), (6, 1), (6, 2), (6, 3), (6, 4), (6, 5)]
def pi1 (k : Nat) : Nat := (prl.getD k (0, 0)).1
def pi2 (k : Nat) : Nat := (prl.getD k (0, 0)).2
theorem pr_comm (a b : Nat) : pr a b = pr b a := by
  unfold pr
  by_cases h : a > b
  · rw [if_pos h, if_neg (by omega)]
  · by_cases h1 : b > a
    · rw [if_neg h, if_pos h1]
    · have : a = b := by omega
      subst this; rfl
theorem pr_inv : ∀ a, a < 7 → ∀ b, b < a → pi1 (pr a b) = a ∧ pi2 (pr a b) = b := by decide +kernel
theorem pr_surj : ∀ n, n < 8 → ∀ k, k < tri n → pi1 k < n ∧ pi2 k < pi1 k ∧ pr (pi1 k) (pi2 k) = k := by decide +kernel
theorem pr_lt : ∀ n, n < 8 → ∀ a, a < n → ∀ b, b < a → pr a b < tri n := by decide +kernel
theorem tri_le : ∀ n, n < 8 → tri n ≤ 21 := by decide +kernel
theorem tri_mono : ∀ n, n < 8 → ∀ m, m < n → tri m ≤ tri n := by decide +kernel
theorem pr_lt21 : ∀ a, a < 7 → ∀ b, b < 7 → a ≠ b → pr a b < 21 := by decide +kernel
theorem pr_inj {a b c d : Nat} (ha : a < 7) (hc : c < 7) (hb : b < a) (hd : d < c) (h : pr a b = pr c d) : a = c ∧ b = d := by
  obtain ⟨h1, h2⟩ := pr_inv a ha b hb
  obtain ⟨h3, h4⟩ := pr_inv c hc d hd
  rw [h] at h1 h2
  exact ⟨h1.symm.trans h3, h2.symm.trans h4⟩
/-- whether there is a line between two -/
def adj (L a b : Nat) : Bool := decide (a ≠ b) && L.testBit (pr a b)
theorem adj_comm (L a b : Nat) : adj L a b = adj L b a := by
  unfold adj
  rw [pr_comm a b]
  congr 1
  exact decide_eq_decide.mpr ⟨fun h q => h q.symm, fun h q => h q.symm⟩
theorem adj_self (L a : Nat) : adj L a a = false := by simp [adj]
theorem adj_hi {L a b : Nat} (h : b < a) : adj L a b = L.testBit (pr a b) := by
  have : a ≠ b := by omega
  simp [adj, this]
/-- the network of n points with these lines, each told by its higher point and its lower one -/
def mk (n : Nat) (g : Nat → Nat → Bool) : Nat := bs (fun k => g (pi1 k) (pi2 k)) (tri n)
theorem mk_lt (n : Nat) (g : Nat → Nat → Bool) : mk n g < 2 ^ tri n := bs_lt _ _
theorem mk_lt21 {n : Nat} (hn : n < 8) (g : Nat → Nat → Bool) : mk n g < 2 ^ 21 := Nat.lt_of_lt_of_le (mk_lt n g) (Nat.pow_le_pow_right (by decide) (tri_le n hn))
theorem mk_tb {n : Nat} (hn : n < 8) (g : Nat → Nat → Bool) {a b : Nat} (ha : a < n) (hb : b < a) : (mk n g).testBit (pr a b) = g a b := by
  unfold mk
  rw [bs_tb]
  obtain ⟨h1, h2⟩ := pr_inv a (by omega) b hb
  simp [pr_lt n hn a ha b hb, h1, h2]
theorem mk_adj {n : Nat} (hn : n < 8) (g : Nat → Nat → Bool) {a b : Nat} (ha : a < n) (hb : b < a) : adj (mk n g) a b = g a b := by rw [adj_hi hb, mk_tb hn g ha hb]
theorem net_ext {n L L' : Nat} (hn : n < 8) (h : L < 2 ^ tri n) (h' : L' < 2 ^ tri n) (he : ∀ a, a < n → ∀ b, b < a → L.testBit (pr a b) = L'.testBit (pr a b)) : L = L' := by
  apply Nat.eq_of_testBit_eq
  intro k
  by_cases hk : k < tri n
  · obtain ⟨h1, h2, h3⟩ := pr_surj n hn k hk
    rw [← h3]
    exact he _ h1 _ h2
  · rw [tb_of_lt h (by omega), tb_of_lt h' (by omega)]
theorem net_ext' {n L L' : Nat} (hn : n < 8) (h : L < 2 ^ tri n) (h' : L' < 2 ^ tri n) (he : ∀ a, a < n → ∀ b, b < a → adj L a b = adj L' a b) : L = L' :=
  net_ext hn h h' fun a ha b hb => by rw [← adj_hi hb, ← adj_hi hb]; exact he a ha b hb
theorem net_mk {n L : Nat} (hn : n < 8) (h : L < 2 ^ tri n) : L = mk n (adj L) := net_ext' hn h (mk_lt _ _) fun a ha b hb => by rw [mk_adj hn _ ha hb]
theorem mk_congr {n : Nat} {g g' : Nat → Nat → Bool} (hn : n < 8) (h : ∀ a, a < n → ∀ b, b < a → g a b = g' a b) : mk n g = mk n g' := net_ext' hn (mk_lt _ _) (mk_lt _ _) fun a ha b hb => by rw [mk_adj hn _ ha hb, mk_adj hn _ ha hb, h a ha b hb]
theorem mk_adj2 {n : Nat} (hn : n < 8) (g : Nat → Nat → Bool) (hg : ∀ a b, g a b = g b a) (hs : ∀ a, g a a = false) {a b : Nat} (ha : a < n) (hb : b < n) : adj (mk n g) a b = g a b := by
  by_cases h : b < a
  · exact mk_adj hn g ha h
  · by_cases h1 : a < b
    · rw [adj_comm, mk_adj hn g hb h1, hg]
    · have : a = b := by omega
      subst this
      rw [adj_self, hs]
/-- those near a point -/
def row (n L p : Nat) : Nat := bs (adj L p) n
theorem row_tb (n L p i : Nat) : (row n L p).testBit i = (decide (i < n) && adj L p i) := bs_tb _ _ _
theorem row_lt (n L p : Nat) : row n L p < 2 ^ n := bs_lt _ _
theorem lt21 {n L : Nat} (hn : n < 8) (h : L < 2 ^ tri n) : L < 2 ^ 21 := Nat.lt_of_lt_of_le h (Nat.pow_le_pow_right (by decide) (tri_le n hn))
theorem lt128 {n x : Nat} (hn : n < 8) (h : x < 2 ^ n) : x < 128 := Nat.lt_of_lt_of_le h (Nat.pow_le_pow_right (by decide : 0 < 2) (by omega : n ≤ 7))
theorem lt31 {n L : Nat} (hn : n < 8) (h : L < 2 ^ tri n) : L < 2 ^ 31 := Nat.lt_of_lt_of_le (lt21 hn h) (by decide)
/-- the network turned at a point -/
def turn (n L p : Nat) : Nat := mk n fun a b => adj L a b != (adj L p a && adj L p b)
theorem turn_adj {n L p a b : Nat} (hn : n < 8) (ha : a < n) (hb : b < n) : adj (turn n L p) a b = (adj L a b != (decide (a ≠ b) && (adj L p a && adj L p b))) := by
  have h : turn n L p = mk n fun a b => adj L a b != (decide (a ≠ b) && (adj L p a && adj L p b)) := mk_congr hn fun a ha b hb => by
    have : a ≠ b := by omega
    simp [this]
  rw [h, mk_adj2 hn _ _ _ ha hb]
  · intro a b
    rw [adj_comm L a b]
    have : decide (a ≠ b) = decide (b ≠ a) := decide_eq_decide.mpr ⟨fun h q => h q.symm, fun h q => h q.symm⟩
    rw [this, Bool.and_comm (adj L p a)]
  · intro a; simp [adj_self]

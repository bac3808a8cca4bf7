/-! ===== 48: the class' Splits ===== -/
def isSp (n L s : Nat) : Bool := decide (2 ≤ pc s) && (decide (2 ≤ n - pc s) && rk n L s == 1)
def oddl (f : Nat → Bool) : Nat → List Nat
  | 0 => []
  | j + 1 => oddl f j ++ if f (2 * j + 1) then [2 * j + 1] else []
def spl (n L : Nat) : List Nat := oddl (isSp n L) (2 ^ n / 2)
theorem oddl_len (f : Nat → Bool) (j : Nat) : (oddl f j).length ≤ j := by
  induction j with
  | zero => exact Nat.le_refl _
  | succ j ih =>
    rw [oddl, List.length_append]
    split <;> simp <;> omega
theorem oddl_mem {f : Nat → Bool} {j x : Nat} : x ∈ oddl f j ↔ x < 2 * j ∧ x % 2 = 1 ∧ f x = true := by
  induction j with
  | zero => simp [oddl]
  | succ j ih =>
    rw [oddl, List.mem_append, ih]
    constructor
    · rintro (h | h)
      · exact ⟨by omega, h.2⟩
      · split at h
        · rename_i hf
          have : x = 2 * j + 1 := by simpa using h
          subst this
          exact ⟨by omega, by omega, hf⟩
        · simp at h
    · rintro ⟨h1, h2, h3⟩
      by_cases h : x < 2 * j
      · exact Or.inl ⟨h, h2, h3⟩
      · have : x = 2 * j + 1 := by omega
        subst this
        rw [h3]
        exact Or.inr (by simp)
theorem pc_n {n s : Nat} (hn : n < 8) (hs : s < 2 ^ n) : pc s ≤ n := pc_le hs (by omega)
theorem c_isSplit {n L s : Nat} (hn : n < 8) (hL : L < 2 ^ tri n) (hs : s < 2 ^ n) : fp_X6_isSplit (nI n) (nI L) (nI s) = some (bI (isSp n L s)) := by
  unfold fp_X6_isSplit
  have h128 := lt128 hn hs
  have hp := pc_n hn hs
  have hrk : rk n L s < 2 ^ 31 := by
    have : ∀ q v m, (gns q v m).length ≤ m := by
      intro q v m
      induction m with
      | zero => exact Nat.le_refl _
      | succ m ih => rw [gns]; split; (rw [List.length_cons]; omega); omega
    have := this s.testBit (fun p => outs (row n L p) s) n
    unfold rk; omega
  rw [c_bitCount (by omega), Option.bind_some, n_sub hp, n_2]
  unfold isSp
  by_cases h1 : pc s < 2
  · rw [if_pos (by rw [n_lt (by omega) (by omega)]; exact h1)]
    have : ¬ 2 ≤ pc s := by omega
    simp [this, bI]
  · rw [if_neg (by rw [n_lt (by omega) (by omega)]; exact h1)]
    have e1 : 2 ≤ pc s := by omega
    by_cases h2 : n - pc s < 2
    · rw [if_pos (by rw [n_lt (by omega) (by omega)]; exact h2)]
      have : ¬ 2 ≤ n - pc s := by omega
      simp [this, bI]
    · rw [if_neg (by rw [n_lt (by omega) (by omega)]; exact h2), c_rank hn hL (by omega), Option.bind_some, n_1]
      have e2 : 2 ≤ n - pc s := by omega
      by_cases h3 : rk n L s = 1
      · rw [if_neg (fun q => q (by rw [h3]))]
        simp [e1, e2, h3, bI, n_1]
      · rw [if_pos (by rw [ne_eq, n_eq hrk (by omega)]; exact h3)]
        simp [e1, e2, h3, bI]
theorem pow_n (n : Nat) (hn : n < 32) : (1 : Int32) <<< (nI n &&& 31) = nI (2 ^ n) := by rw [n_1, n_shl hn, Nat.shiftLeft_eq, Nat.one_mul]
theorem two_pow7 {n : Nat} (hn : n < 8) : 2 ^ n ≤ 128 := Nat.pow_le_pow_right (by decide : 0 < 2) (by omega : n ≤ 7)
theorem half_pow {n j : Nat} (hj : j < 2 ^ n / 2) : 2 * j + 1 < 2 ^ n := by omega
theorem half_end {n : Nat} : 2 ^ n ≤ 2 * (2 ^ n / 2) + 1 := by omega
theorem c_firstOf {n L : Nat} (hn : n < 8) (hL : L < 2 ^ tri n) : fp_X6_firstOf (nI n) (nI L) = some (nI ((spl n L).headD 0)) := by
  unfold fp_X6_firstOf
  have h2 := two_pow7 hn
  rw [n_1]
  have key : oddl (isSp n L) 0 = [] → fp_X6_firstOf_L2 (nI n) (nI L) FU (nI (2 * 0 + 1)) = some (nI ((spl n L).headD 0)) := by
    refine up (P := fun j f => oddl (isSp n L) j = [] → fp_X6_firstOf_L2 (nI n) (nI L) f (nI (2 * j + 1)) = some (nI ((spl n L).headD 0))) (a := 0) (n := 2 ^ n / 2) ?_ ?_ FU (Nat.zero_le _) (FU_gt (by omega))
    · intro f h
      rw [fp_X6_firstOf_L2, pow_n n (by omega), if_pos (by rw [ge_iff_le, n_le (by omega) (by omega)]; exact half_end), spl, h]
      rfl
    · intro j f _ hj ih h
      have hjp := half_pow hj
      rw [fp_X6_firstOf_L2, pow_n n (by omega), go hjp (by omega), c_isSplit hn hL hjp, Option.bind_some]
      cases hs : isSp n L (2 * j + 1) with
      | false =>
        rw [ifF, n_2, n_add]
        exact ih (by rw [oddl, h, hs]; rfl)
      | true =>
        rw [ifT]
        have : ∃ t, spl n L = (2 * j + 1) :: t := by
          have h1 : oddl (isSp n L) (j + 1) = [2 * j + 1] := by rw [oddl, h, hs]; rfl
          have h2 : ∀ d, ∃ t, oddl (isSp n L) (j + 1 + d) = (2 * j + 1) :: t := by
            intro d
            induction d with
            | zero => exact ⟨[], h1⟩
            | succ d ihd =>
              obtain ⟨t, ht⟩ := ihd
              exact ⟨t ++ _, by rw [← Nat.add_assoc, oddl, ht]; rfl⟩
          obtain ⟨t, ht⟩ := h2 (2 ^ n / 2 - (j + 1))
          exact ⟨t, by rw [spl, ← ht]; congr 1; omega⟩
        obtain ⟨t, ht⟩ := this
        rw [ht]; rfl
  exact key rfl
def prm (n L : Nat) : Bool := decide (5 ≤ n) && (joi n L && (spl n L).isEmpty)
theorem spl_head {n L : Nat} : ((spl n L).headD 0 = 0) = ((spl n L).isEmpty = true) := by
  apply propext
  cases h : spl n L with
  | nil => simp
  | cons a t =>
    have : a ∈ spl n L := by rw [h]; exact List.mem_cons_self
    have := (oddl_mem.mp this).2.1
    simp; omega
theorem spl_lt {n L x : Nat} (h : x ∈ spl n L) : x < 2 ^ n := by
  have := (oddl_mem.mp h).1
  omega
theorem head_lt {n L : Nat} : (spl n L).headD 0 < 2 ^ n := by
  cases h : spl n L with
  | nil => exact Nat.two_pow_pos n
  | cons a t => exact spl_lt (by rw [h]; exact List.mem_cons_self)
theorem c_isPrime {n L : Nat} (hn : n < 8) (hL : L < 2 ^ tri n) : fp_X6_isPrime (nI n) (nI L) = some (bI (prm n L)) := by
  unfold fp_X6_isPrime
  rw [n_5]
  unfold prm
  by_cases h : n < 5
  · rw [if_pos (by rw [n_lt (by omega) (by omega)]; exact h)]
    have : ¬ 5 ≤ n := by omega
    simp [this, bI]
  · have h5 : 5 ≤ n := by omega
    rw [if_neg (by rw [n_lt (by omega) (by omega)]; exact h), c_joined hn hL, Option.bind_some]
    cases hj : joi n L with
    | false => rw [ifF]; simp [bI]
    | true =>
      have hl := head_lt (n := n) (L := L)
      have h2 := two_pow7 hn
      rw [ifT, c_firstOf hn hL, Option.bind_some]
      by_cases he : (spl n L).headD 0 = 0
      · rw [he, if_neg (by simp [n_0])]
        rw [spl_head] at he
        simp [h5, he, bI]
      · rw [if_pos (by rw [n_0, ne_eq, n_eq (by omega) (by omega)]; exact he)]
        rw [spl_head] at he
        simp [h5, he, bI]
def spls (n L : Nat) : List Nat := if joi n L then spl n L else []
/-- what the class' Splits hold -/
def SpH (l : List Nat) (M : zM) : Prop := zI M 9 1 = nI l.length ∧ ∀ i, i < l.length → zI M 10 i = nI (l.getD i 0)
abbrev at9 : Nat → Prop := fun a => a = 9 ∨ a = 10
theorem SpH_push {l : List Nat} {M : zM} {x : Nat} (h : SpH l M) : SpH (l ++ [x]) (zsI (zsI M 10 l.length (nI x)) 9 1 (nI (l.length + 1))) := by
  refine ⟨by rw [zI_same, List.length_append]; rfl, fun i hi => ?_⟩
  rw [zI_other _ _ (Or.inl (by decide))]
  rw [List.length_append] at hi
  simp only [List.length_singleton] at hi
  by_cases hil : i = l.length
  · subst hil
    rw [zI_same]; simp [List.getD]
  · rw [zI_other _ _ (Or.inr hil), h.2 i (by omega)]
    have : i < l.length := by omega
    simp [List.getD, List.getElem?_append_left this]
theorem c_gather {n L : Nat} {M : zM} (hn : n < 8) (hL : L < 2 ^ tri n) (hC : zC M) : ∃ M', fp_X6_gather 9 (nI n) (nI L) M = some M' ∧ Fc at9 M M' ∧ SpH (spls n L) M' := by
  unfold fp_X6_gather
  have h2 := two_pow7 hn
  rw [ts_9 hC, pI_9 hC, Option.bind_some, c_joined hn hL, Option.bind_some]
  have h0 : SpH [] (zsI M 9 1 0) := ⟨by rw [zI_same]; rfl, fun i hi => by simp at hi⟩
  unfold spls
  cases hj : joi n L with
  | false => exact ⟨_, by rw [if_neg (by decide)], Fc_sI (Or.inl rfl), h0⟩
  | true =>
    rw [if_pos (by decide), if_pos rfl, n_1]
    have key : ∀ M1, SpH (oddl (isSp n L) 0) M1 → zC M1 → ∃ M', fp_X6_gather_L16 9 (nI n) (nI L) FU (nI (2 * 0 + 1)) M1 = some M' ∧ Fc at9 M1 M' ∧ SpH (spl n L) M' := by
      refine up (P := fun j f => ∀ M1, SpH (oddl (isSp n L) j) M1 → zC M1 → ∃ M', fp_X6_gather_L16 9 (nI n) (nI L) f (nI (2 * j + 1)) M1 = some M' ∧ Fc at9 M1 M' ∧ SpH (spl n L) M') (a := 0) (n := 2 ^ n / 2) ?_ ?_ FU (Nat.zero_le _) (FU_gt (by omega))
      · intro f M1 h3 h4
        refine ⟨M1, ?_, Fc_refl, h3⟩
        rw [fp_X6_gather_L16, pow_n n (by omega), if_pos (by rw [ge_iff_le, n_le (by omega) (by omega)]; exact half_end)]
      · intro j f _ hj2 ih M1 h3 h4
        have hjp := half_pow hj2
        have hlen := oddl_len (isSp n L) j
        rw [fp_X6_gather_L16, pow_n n (by omega), go hjp (by omega), gI_9 h4, Option.bind_some, h3.1, if_neg (by rw [show (64 : Int32) = nI 64 from by decide, ge_iff_le, n_le (by omega) (by omega)]; omega), c_isSplit hn hL hjp, Option.bind_some, zjn_eq]
        dsimp only
        rw [n_2, n_add]
        cases hs : isSp n L (2 * j + 1) with
        | false =>
          rw [ifF]
          have := ih M1 (by rw [oddl, hs]; simpa using h3) h4
          exact this
        | true =>
          rw [ifT, gR_9_0 h4, Option.bind_some, Option.bind_some, tI_10 h4 (by omega), Option.bind_some, gI_9 (by exact h4), Option.bind_some, zI_other _ _ (Or.inl (by decide)), h3.1, pI_9 (by exact h4), Option.bind_some, inc]
          obtain ⟨M', a1, a2, a3⟩ := ih _ (by rw [oddl, hs]; exact SpH_push h3) (by exact h4)
          exact ⟨M', a1, Fc_trans (Fc_trans (Fc_sI (Or.inr rfl)) (Fc_sI (Or.inl rfl))) a2, a3⟩
    obtain ⟨M', a1, a2, a3⟩ := key (zsI M 9 1 0) h0 hC
    exact ⟨M', a1, Fc_trans (Fc_sI (Or.inl rfl)) a2, a3⟩
theorem c_setAt {l : List Nat} {M : zM} {i : Nat} (hC : zC M) (h : SpH l M) (hi : i < l.length) (h64 : l.length ≤ 64) : fp_X6_setAt 9 (nI i) M = some (nI (l.getD i 0)) := by
  unfold fp_X6_setAt
  rw [ts_9 hC, if_neg (by rw [n_lt0 (by omega)]; exact id), gI_9 hC, Option.bind_some, h.1, go hi (by omega), gR_9_0 hC, Option.bind_some, lI_10 hC (by omega), Option.bind_some, h.2 i hi]
def wth (s o : Nat) : Bool := outs s o == 0
theorem c_isWithin {s o : Nat} (hs : s < 2 ^ 31) : fp_X6_isWithin (nI s) (nI o) = some (bI (wth s o)) := by
  unfold fp_X6_isWithin
  rw [n_andn]
  unfold wth
  by_cases h : outs s o = 0
  · rw [show s &&& (s ^^^ o) = 0 from h, if_neg (by simp [n_0])]; simp [h, bI]
  · rw [if_pos (by rw [n_0, ne_eq, n_eq (Nat.lt_of_le_of_lt Nat.and_le_left hs) (by omega)]; exact h)]; simp [h, bI, n_0]
/-- one split is beside another -/
def bsd (n side o : Nat) : Bool := wth o side || (wth o ((1 <<< n - 1) ^^^ side) || (wth ((1 <<< n - 1) ^^^ o) side || wth ((1 <<< n - 1) ^^^ o) ((1 <<< n - 1) ^^^ side)))
def strg (n : Nat) (l : List Nat) (side : Nat) : Bool := l.all fun o => bsd n side o
theorem c_isStrong {n : Nat} {l : List Nat} {M : zM} {i : Nat} (hn : n < 8) (hC : zC M) (h : SpH l M) (hi : i < l.length) (h64 : l.length ≤ 64) (hl : ∀ x ∈ l, x < 2 ^ n) : fp_X6_isStrong 9 (nI n) (nI i) M = some (bI (strg n l (l.getD i 0))) := by
  unfold fp_X6_isStrong
  have h2 := two_pow7 hn
  obtain ⟨side, hsd⟩ : ∃ side, side = l.getD i 0 := ⟨_, rfl⟩
  have hside : side < 2 ^ n := by
    rw [hsd]; simp only [List.getD, List.getElem?_eq_getElem hi, Option.getD_some]
    exact hl _ (List.getElem_mem hi)
  rw [ts_9 hC, c_setAt hC h hi h64, Option.bind_some, c_everyPoint n (by omega), Option.bind_some, ← hsd]
  simp only [lett]
  rw [n_xor]
  have hall : 1 <<< n - 1 < 2 ^ n := by rw [all_eq]; have := Nat.two_pow_pos n; omega
  have key : (∀ o ∈ l.take 0, bsd n side o = true) → fp_X6_isStrong_L17 9 (nI n) (nI side) (nI ((1 <<< n - 1) ^^^ side)) M FU (nI 0) = some (bI (strg n l side)) := by
    refine up (P := fun j f => (∀ o ∈ l.take j, bsd n side o = true) → fp_X6_isStrong_L17 9 (nI n) (nI side) (nI ((1 <<< n - 1) ^^^ side)) M f (nI j) = some (bI (strg n l side))) (a := 0) (n := l.length) ?_ ?_ FU (by omega) (FU_gt (by omega))
    · intro f hf
      rw [fp_X6_isStrong_L17, gI_9 hC, Option.bind_some, h.1, stp]
      have : strg n l side = true := by unfold strg; rw [List.all_eq_true]; intro o ho; exact hf o (by rw [List.take_length]; exact ho)
      rw [this]; rfl
    · intro j f _ hj ih hf
      obtain ⟨o, ho⟩ : ∃ o, o = l.getD j 0 := ⟨_, rfl⟩
      have hol : o = l[j] := by rw [ho]; simp [List.getD, List.getElem?_eq_getElem hj]
      have holt : o < 2 ^ n := by rw [hol]; exact hl _ (List.getElem_mem hj)
      have hx1 : (1 <<< n - 1) ^^^ o < 2 ^ n := xor_lt hall holt
      have hx2 : (1 <<< n - 1) ^^^ side < 2 ^ n := xor_lt hall hside
      rw [fp_X6_isStrong_L17, gI_9 hC, Option.bind_some, h.1, go hj (by omega), gR_9_0 hC, Option.bind_some, lI_10 hC (by omega), Option.bind_some, h.2 j hj, c_everyPoint n (by omega), Option.bind_some, lett_eq, ← ho, n_xor, c_isWithin (by omega), Option.bind_some, zjn_eq]
      dsimp only
      rw [zjn_eq]
      have fin : ∀ b : Bool, b = bsd n side o → (if bI b ≠ 0 then fp_X6_isStrong_L17 9 (nI n) (nI side) (nI ((1 <<< n - 1) ^^^ side)) M f (nI j + 1) else some 0) = some (bI (strg n l side)) := by
        intro b hb
        cases b with
        | true =>
          rw [if_pos (by decide), inc]
          refine ih fun q hq => ?_
          rw [List.take_succ_eq_append_getElem hj, List.mem_append] at hq
          rcases hq with hq | hq
          · exact hf q hq
          · have : q = l[j] := by simpa using hq
            rw [this, ← hol, ← hb]
        | false =>
          rw [if_neg (by decide)]
          have : strg n l side = false := by
            unfold strg
            rw [List.all_eq_false]
            exact ⟨o, by rw [hol]; exact List.getElem_mem hj, by rw [← hb]; simp⟩
          rw [this]; rfl
      have fT := fin true
      have fF := fin false
      rw [show bI true = 1 from rfl] at fT
      rw [show bI false = 0 from rfl] at fF
      unfold bsd at fT fF
      have nT : (bI true ≠ 0) = True := by simp [bI]
      have nF : (bI false ≠ 0) = False := by simp [bI]
      cases w1 : wth o side with
      | true => rw [if_pos (by decide)]; exact fT (by simp [w1])
      | false =>
        rw [if_neg (by decide), c_isWithin (by omega), Option.bind_some]
        cases w2 : wth o ((1 <<< n - 1) ^^^ side) with
        | true => rw [if_pos (by decide)]; exact fT (by simp [w2])
        | false =>
          rw [if_neg (by decide), c_isWithin (by omega), Option.bind_some]
          cases w3 : wth ((1 <<< n - 1) ^^^ o) side with
          | true => rw [if_pos (by decide)]; exact fT (by simp [w3])
          | false =>
            rw [if_neg (by decide), c_isWithin (by omega), Option.bind_some]
            cases w4 : wth ((1 <<< n - 1) ^^^ o) ((1 <<< n - 1) ^^^ side) with
            | true => rw [ifT]; exact fT (by simp [w4])
            | false => rw [ifF]; exact fF (by simp [w1, w2, w3, w4])
  rw [n_0]
  exact key (by simp)

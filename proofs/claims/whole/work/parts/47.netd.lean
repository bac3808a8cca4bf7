/-! ===== 47: the class' Net: twins, most, paintings ===== -/
def Fc (S : Nat → Prop) (M M' : zM) : Prop := M'.2 = M.2 ∧ ∀ a, ¬ S a → M'.1 a = M.1 a
theorem Fc_refl {S : Nat → Prop} {M : zM} : Fc S M M := ⟨rfl, fun _ _ => rfl⟩
theorem Fc_trans {S : Nat → Prop} {M M' M'' : zM} (h : Fc S M M') (h' : Fc S M' M'') : Fc S M M'' := ⟨h'.1.trans h.1, fun a ha => (h'.2 a ha).trans (h.2 a ha)⟩
theorem Fc_mono {S T : Nat → Prop} {M M' : zM} (h : Fc S M M') (hs : ∀ a, S a → T a) : Fc T M M' := ⟨h.1, fun a ha => h.2 a fun q => ha (hs a q)⟩
theorem Fc_sI {S : Nat → Prop} {M : zM} {a k : Nat} {v : Int32} (h : S a) : Fc S M (zsI M a k v) := ⟨rfl, fun b hb => by
  funext j
  show (if b = a ∧ j = k then v else M.1 b j) = _
  rw [if_neg]
  intro q; rw [q.1] at hb; exact hb h⟩
theorem Fc_C {S : Nat → Prop} {M M' : zM} (h : Fc S M M') (hc : zC M) : zC M' := by
  have h1 : zS M' = zS M := congrArg (fun x => x.2.2.2.1) h.1
  have h2 : zR M' = zR M := congrArg (fun x => x.2.1) h.1
  have h3 : zL M' = zL M := congrArg (fun x => x.2.2.1) h.1
  unfold zC at hc ⊢
  rw [h1, h2, h3]; exact hc
theorem Fc_I {S : Nat → Prop} {M M' : zM} (h : Fc S M M') {a : Nat} (ha : ¬ S a) (k : Nat) : zI M' a k = zI M a k := congrFun (h.2 a ha) k
theorem zI_same (M : zM) (a k : Nat) (v : Int32) : zI (zsI M a k v) a k = v := if_pos ⟨rfl, rfl⟩
theorem zI_other (M : zM) {a k b j : Nat} (v : Int32) (h : b ≠ a ∨ j ≠ k) : zI (zsI M a k v) b j = zI M b j := if_neg fun q => by rcases h with h | h; exact h q.1; exact h q.2
/-- sums -/
def smN (f : Nat → Nat) : Nat → Nat
  | 0 => 0
  | n + 1 => smN f n + f n
def smL (f : Nat → Int64) : Nat → Int64
  | 0 => 0
  | n + 1 => smL f n + f n
theorem smN_congr {f g : Nat → Nat} {n : Nat} (h : ∀ i, i < n → f i = g i) : smN f n = smN g n := by
  induction n with
  | zero => rfl
  | succ n ih => simp only [smN, ih (fun i hi => h i (by omega)), h n (by omega)]
theorem smL_congr {f g : Nat → Int64} {n : Nat} (h : ∀ i, i < n → f i = g i) : smL f n = smL g n := by
  induction n with
  | zero => rfl
  | succ n ih => simp only [smL, ih (fun i hi => h i (by omega)), h n (by omega)]
/-- near the same others -/
def alk (n L a b : Nat) : Bool := (row n L a ||| (1 <<< a ||| 1 <<< b)) == (row n L b ||| (1 <<< a ||| 1 <<< b))
def likeC (n L : Nat) (t : Bool) : Nat := smN (fun a => cnt (fun b => decide (a < b) && (alk n L a b && (adj L a b == t))) n) n
theorem set_lt31 {p : Nat} (hp : p < 8) : 1 <<< p < 2 ^ 31 := by rw [Nat.shiftLeft_eq, Nat.one_mul]; exact Nat.pow_lt_pow_right (by decide) (by omega)
theorem c_likeCouples {n L : Nat} (t : Bool) (hn : n < 8) (hL : L < 2 ^ tri n) : fp_X2_likeCouples (nI n) (nI L) (bI t) = some (nI (likeC n L t)) := by
  unfold fp_X2_likeCouples
  let F : Nat → Nat → Bool := fun a b => decide (a < b) && (alk n L a b && (adj L a b == t))
  have h31 := lt31 hn hL
  rw [n_0, show fp_X2_likeCouples_L5 (nI n) (nI L) (bI t) FU (nI 0) (nI 0) = fp_X2_likeCouples_L5 (nI n) (nI L) (bI t) FU (nI (smN (fun a => cnt (F a) n) 0)) (nI 0) from by rw [show smN (fun a => cnt (F a) n) 0 = 0 from rfl]]
  refine up (P := fun a f => fp_X2_likeCouples_L5 (nI n) (nI L) (bI t) f (nI (smN (fun a => cnt (F a) n) a)) (nI a) = some (nI (likeC n L t))) (a := 0) (n := n) ?_ ?_ FU (by omega) (FU_gt (by omega))
  · intro f
    rw [fp_X2_likeCouples_L5, stp]; rfl
  · intro a f _ ha ih
    rw [fp_X2_likeCouples_L5, go ha (by omega)]
    simp only [lett, inc]
    have e0 : cnt (F a) (a + 1) = 0 := cnt_none fun i hi => by
      show (decide (a < i) && _) = false
      have : ¬ a < i := by omega
      simp [this]
    rw [show nI (smN (fun a => cnt (F a) n) a) = nI (smN (fun a => cnt (F a) n) a + cnt (F a) (a + 1)) from by rw [e0, Nat.add_zero]]
    refine up (P := fun b g => fp_X2_likeCouples_L17 (fun v3_8 => fp_X2_likeCouples_L5 (nI n) (nI L) (bI t) f v3_8 (nI (a + 1))) (nI n) (nI L) (bI t) (nI a) g (nI (smN (fun a => cnt (F a) n) a + cnt (F a) b)) (nI b) = some (nI (likeC n L t))) (a := a + 1) (n := n) ?_ ?_ FU (by omega) (FU_gt (by omega))
    · intro g
      rw [fp_X2_likeCouples_L17, stp]
      exact ih
    · intro b g hab hb ih2
      rw [fp_X2_likeCouples_L17, go hb (by omega)]
      have r1 := lt128 hn (row_lt n L a)
      have r2 := lt128 hn (row_lt n L b)
      have o1 : 1 <<< a ||| 1 <<< b < 2 ^ 7 := Nat.or_lt_two_pow (set_lt (by omega)) (set_lt (by omega))
      have o2 : row n L a ||| (1 <<< a ||| 1 <<< b) < 2 ^ 7 := Nat.or_lt_two_pow r1 o1
      have o3 : row n L b ||| (1 <<< a ||| 1 <<< b) < 2 ^ 7 := Nat.or_lt_two_pow r2 o1
      have n10 : (nI 1 = nI 0) = False := by rw [n_eq (by omega) (by omega)]; simp
      simp only [lett, zjn, inc]
      rw [n_1, n_shl (by omega), n_shl (by omega), n_or, c_nearTo hn (lt21 hn hL) ha, Option.bind_some, c_nearTo hn (lt21 hn hL) hb, Option.bind_some, n_or, n_or, c_tied h31 (by omega) (by omega) (by omega), Option.bind_some]
      have eF : F a b = (alk n L a b && (adj L a b == t)) := by
        show (decide (a < b) && _) = _
        rw [decide_eq_true (show a < b by omega), Bool.true_and]
      simp only [cnt, eF] at ih2
      rw [← Nat.add_assoc] at ih2
      unfold alk at ih2
      simp only [ne_eq, n_0, n_eq (Nat.lt_trans o2 (by decide)) (Nat.lt_trans o3 (by decide)), n10, if_true, if_false, n_add]
      by_cases hq : (row n L a ||| (1 <<< a ||| 1 <<< b)) = (row n L b ||| (1 <<< a ||| 1 <<< b))
      · rw [hq] at ih2 ⊢
        simp only [beq_self_eq_true, Bool.true_and] at ih2
        simp only [not_true, if_false]
        cases hA : adj L a b <;> cases t <;> rw [hA] at ih2 <;> simpa [bI] using ih2
      · have hq' : ((row n L a ||| (1 <<< a ||| 1 <<< b)) == (row n L b ||| (1 <<< a ||| 1 <<< b))) = false := by simpa using hq
        rw [hq'] at ih2
        simp only [hq, not_false_eq_true, if_true]
        simpa using ih2
def loneC (n L : Nat) : Nat := cnt (fun p => pc (row n L p) == 1) n
theorem row21 {n L p : Nat} (hn : n < 8) : row n L p < 2 ^ 21 := Nat.lt_trans (lt128 hn (row_lt n L p)) (by decide)
theorem pc_le21 (x : Nat) : pc x ≤ 21 := cnt_le _ _
theorem c_lonePoints {n L : Nat} (hn : n < 8) (hL : L < 2 ^ tri n) : fp_X2_lonePoints (nI n) (nI L) = some (nI (loneC n L)) := by
  unfold fp_X2_lonePoints
  rw [n_0, show fp_X2_lonePoints_L4 (nI n) (nI L) FU (nI 0) (nI 0) = fp_X2_lonePoints_L4 (nI n) (nI L) FU (nI (cnt (fun p => pc (row n L p) == 1) 0)) (nI 0) from by rw [show cnt (fun p => pc (row n L p) == 1) 0 = 0 from rfl]]
  refine up (P := fun i f => fp_X2_lonePoints_L4 (nI n) (nI L) f (nI (cnt (fun p => pc (row n L p) == 1) i)) (nI i) = some (nI (loneC n L))) (a := 0) (n := n) ?_ ?_ FU (by omega) (FU_gt (by omega))
  · intro f
    rw [fp_X2_lonePoints_L4, stp]; rfl
  · intro i f _ hi ih
    rw [fp_X2_lonePoints_L4, go hi (by omega), c_nearTo hn (lt21 hn hL) hi, Option.bind_some, c_bitCount (row21 hn), Option.bind_some]
    simp only [zjn, inc, n_1]
    have h21 := pc_le21 (row n L i)
    simp only [cnt] at ih
    by_cases h : pc (row n L i) = 1
    · rw [if_neg (by rw [h]; simp), n_add]
      rw [h] at ih; simpa [n_add] using ih
    · rw [if_pos (by rw [ne_eq, n_eq (by omega) (by omega)]; exact h)]
      have : (pc (row n L i) == 1) = false := by simpa using h
      rw [this] at ih; simpa [n_add] using ih
/-- the largest for which g holds, of as many the least -/
def bst (g : Nat → Bool) : Nat → Nat
  | 0 => 0
  | m + 1 => if g m && decide (pc (bst g m) < pc m) then m else bst g m
theorem bst_lt {g : Nat → Bool} {m : Nat} : bst g m ≤ m := by
  induction m with
  | zero => exact Nat.le_refl _
  | succ m ih =>
    rw [bst]
    split <;> omega
def okS (L : Nat) (t : Bool) (s : Nat) : Bool := (L &&& prs s) == (if t then prs s else 0)
theorem prs_lt (s : Nat) : prs s < 2 ^ 21 := bs_lt _ _
theorem zjn_eq {α β : Type} (r : α) (b : α → β) : zjn r b = b r := rfl
theorem lett_eq {α β : Type} (e : α) (f : α → β) : lett e f = f e := rfl
theorem c_largest {n L : Nat} (t : Bool) (hn : n < 8) (hL : L < 2 ^ tri n) : fp_X2_largest (nI n) (nI L) (bI t) = some (nI (bst (okS L t) (2 ^ n))) := by
  unfold fp_X2_largest
  have p2 : 2 ^ n ≤ 128 := Nat.pow_le_pow_right (by decide : 0 < 2) (by omega : n ≤ 7)
  have p1 : 1 ≤ 2 ^ n := Nat.one_le_two_pow
  have b1 : bst (okS L t) 1 = 0 := by
    rw [bst]
    split <;> rfl
  have e0 : (1 : Int32) <<< (nI n &&& 31) = nI (2 ^ n) := by rw [n_1, n_shl (by omega), Nat.shiftLeft_eq, Nat.one_mul]
  rw [n_0, show fp_X2_largest_L5 (nI n) (nI L) (bI t) FU (nI 0) 1 = fp_X2_largest_L5 (nI n) (nI L) (bI t) FU (nI (bst (okS L t) 1)) (nI 1) from by rw [b1, n_1]]
  refine up (P := fun m f => fp_X2_largest_L5 (nI n) (nI L) (bI t) f (nI (bst (okS L t) m)) (nI m) = some (nI (bst (okS L t) (2 ^ n)))) (a := 1) (n := 2 ^ n) ?_ ?_ FU p1 (FU_gt (by omega))
  · intro f
    rw [fp_X2_largest_L5, e0, stp]
  · intro m f _ hm ih
    have hb := bst_lt (g := okS L t) (m := m)
    have q1 := pc_le21 m
    have q2 := pc_le21 (bst (okS L t) m)
    have la : L &&& prs m < 2 ^ 31 := Nat.lt_of_le_of_lt Nat.and_le_right (Nat.lt_trans (prs_lt m) (by decide))
    have lb : prs m < 2 ^ 31 := Nat.lt_trans (prs_lt m) (by decide)
    rw [fp_X2_largest_L5, e0, go hm (by omega), c_pairsOf m (by omega), Option.bind_some]
    rw [zjn_eq, n_and]
    have fin : ∀ b : Bool, b = okS L t m → (if bI b = 0 then fp_X2_largest_L5 (nI n) (nI L) (bI t) f (nI (bst (okS L t) m)) (nI (m + 1)) else (fp_J6_bitCount_0f7a4 (nI m)).bind fun y6 => (fp_J6_bitCount_0f7a4 (nI (bst (okS L t) m))).bind fun y7 => if y6 ≤ y7 then fp_X2_largest_L5 (nI n) (nI L) (bI t) f (nI (bst (okS L t) m)) (nI (m + 1)) else fp_X2_largest_L5 (nI n) (nI L) (bI t) f (nI m) (nI (m + 1))) = some (nI (bst (okS L t) (2 ^ n))) := by
      intro b hb
      rw [bst, ← hb] at ih
      cases b with
      | false => rw [ifF]; simpa using ih
      | true =>
        rw [ifT, c_bitCount (show m < 2 ^ 21 by omega), Option.bind_some, c_bitCount (show bst (okS L t) m < 2 ^ 21 by omega), Option.bind_some]
        have hle' := n_le (show pc m < 2 ^ 31 by omega) (show pc (bst (okS L t) m) < 2 ^ 31 by omega)
        by_cases hle : pc m ≤ pc (bst (okS L t) m)
        · rw [if_pos (hle'.mpr hle)]
          have : ¬ pc (bst (okS L t) m) < pc m := by omega
          simpa [this] using ih
        · rw [if_neg (fun q => hle (hle'.mp q))]
          have : pc (bst (okS L t) m) < pc m := by omega
          simpa [this] using ih
    cases t with
    | false =>
      rw [ifF]
      dsimp only
      rw [zjn_eq]
      dsimp only
      by_cases h : L &&& prs m = 0
      · rw [h, if_neg (by rw [n_0]; simp), zjn_eq]
        dsimp only
        rw [inc]
        exact fin true (by simp [okS, h])
      · rw [if_pos (by rw [n_0, ne_eq, n_eq la (by omega)]; exact h), zjn_eq]
        dsimp only
        rw [inc]
        exact fin false (by simp [okS, h])
    | true =>
      rw [ifT]
      dsimp only
      rw [zjn_eq]
      dsimp only
      by_cases h : L &&& prs m = prs m
      · rw [h, if_neg (by simp), zjn_eq]
        dsimp only
        rw [inc]
        exact fin true (by simp [okS, h])
      · rw [if_pos (by rw [ne_eq, n_eq la lb]; exact h), zjn_eq]
        dsimp only
        rw [inc]
        exact fin false (by simp [okS, h])
/-! paintings -/
/-- whether a point has a line to one of a colour -/
def blk (n L : Nat) (col : Nat → Nat) (p g : Nat) : Bool := (bs (fun o => col o == g) p &&& row n L p) != 0
def putN (col : Nat → Nat) (p g : Nat) : Nat → Nat := fun o => if o = p then g else col o
/-- in how many ways, from a point on -/
def wys (n L c : Nat) : Nat → (Nat → Nat) → Nat → Int64
  | 0, _, _ => 1
  | d + 1, col, used =>
    let s := smL (fun g => if blk n L col (n - (d + 1)) g then 0 else wys n L c d (putN col (n - (d + 1)) g) used) used
    if used < c then s + (nI (c - used)).toInt64 * wys n L c d (putN col (n - (d + 1)) used) (used + 1) else s
theorem bs_put_o {col : Nat → Nat} {p g h : Nat} (hgh : g ≠ h) : bs (fun o => putN col p g o == h) (p + 1) = bs (fun o => col o == h) p := by
  rw [bs_skip (by simp [putN, hgh])]
  exact bs_congr fun i hi => by unfold putN; rw [if_neg (by omega)]
theorem bs_put_s {col : Nat → Nat} {p g : Nat} : bs (fun o => putN col p g o == g) (p + 1) = bs (fun o => col o == g) p ||| 1 <<< p := by
  rw [bs_take (by simp [putN])]
  congr 1
  exact bs_congr fun i hi => by unfold putN; rw [if_neg (by omega)]
theorem bs_xor (f : Nat → Bool) (p : Nat) : bs f p ^^^ 1 <<< p = bs f p ||| 1 <<< p := by
  apply Nat.eq_of_testBit_eq
  intro i
  rw [Nat.testBit_xor, Nat.testBit_or, bs_tb, tb_set]
  by_cases h : i = p
  · subst h; simp
  · simp [h]
theorem bs_xor2 (f : Nat → Bool) (p : Nat) : (bs f p ||| 1 <<< p) ^^^ 1 <<< p = bs f p := by
  rw [← bs_xor, Nat.xor_assoc, Nat.xor_self, Nat.xor_zero]
def grp (M : zM) (col : Nat → Nat) (used p : Nat) : Prop := ∀ g, g < used → zI M 44 g = nI (bs (fun o => col o == g) p)
abbrev at44 : Nat → Prop := fun a => a = 44
theorem c_paint {n L c : Nat} (hn : n < 8) (hL : L < 2 ^ tri n) (hc : c < 10) : ∀ d f used col M, d ≤ n → d < f → used ≤ n - d → used ≤ c → (∀ o, o < n - d → col o < used) → zC M → grp M col used (n - d) →
    ∃ M', fp_X2_paint f (nI n) (nI L) 44 (nI (n - d)) (nI used) (nI c) M = some (wys n L c d col used, M') ∧ Fc at44 M M' ∧ ∀ g, g < used → zI M' 44 g = zI M 44 g := by
  intro d
  induction d with
  | zero =>
    intro f used col M hd hf hu huc hcol hC hG
    obtain ⟨f, rfl⟩ : ∃ g, f = g + 1 := ⟨f - 1, by omega⟩
    refine ⟨M, ?_, Fc_refl, fun _ _ => rfl⟩
    rw [fp_X2_paint, if_neg (by rw [n_lt (by omega) (by omega)]; omega)]
    rfl
  | succ d ih =>
    intro f used col M hd hf hu huc hcol hC hG
    obtain ⟨f, rfl⟩ : ∃ g, f = g + 1 := ⟨f - 1, by omega⟩
    obtain ⟨p, hp⟩ : ∃ p, p = n - (d + 1) := ⟨_, rfl⟩
    have hp1 : n - d = p + 1 := by omega
    have hpn : p < n := by omega
    rw [← hp] at hu hG hcol ⊢
    rw [hp1] at ih
    rw [fp_X2_paint, if_pos (by rw [n_lt (by omega) (by omega)]; omega), c_nearTo hn (lt21 hn hL) hpn, Option.bind_some]
    let W : Nat → Int64 := fun g => if blk n L col p g then 0 else wys n L c d (putN col p g) used
    have hW : wys n L c (d + 1) col used = if used < c then smL W used + (nI (c - used)).toInt64 * wys n L c d (putN col p used) (used + 1) else smL W used := by rw [wys, ← hp]
    have hr := lt128 hn (row_lt n L p)
    -- the groups that there are
    have loop : ∀ (K : Int64 → zM → Option (Int64 × zM)) e i g M, i + e = used → e < g → zC M → grp M col used p → ∃ M', Fc at44 M M' ∧ grp M' col used p ∧
        fp_X2_paint_L21 (fun w0 w1 w2 w3 w4 w5 Mw => fp_X2_paint f w0 w1 w2 w3 w4 w5 Mw) K (nI n) (nI L) 44 (nI p) (nI used) (nI c) (nI (row n L p)) g (smL W i) (nI i) M = K (smL W used) M' := by
      intro K e
      induction e with
      | zero =>
        intro i g M h1 h2 h3 h4
        obtain ⟨g, rfl⟩ : ∃ q, g = q + 1 := ⟨g - 1, by omega⟩
        have : i = used := by omega
        subst this
        exact ⟨M, Fc_refl, h4, by rw [fp_X2_paint_L21, stp]⟩
      | succ e ih2 =>
        intro i g M h1 h2 h3 h4
        obtain ⟨g, rfl⟩ : ∃ q, g = q + 1 := ⟨g - 1, by omega⟩
        have hi : i < used := by omega
        have hi7 : i < 7 := by omega
        have hgi := h4 i hi
        have hlt : bs (fun o => col o == i) p < 2 ^ 31 := Nat.lt_trans (lt128 (show p < 8 by omega) (bs_lt _ _)) (by decide)
        have hand : bs (fun o => col o == i) p &&& row n L p < 2 ^ 31 := Nat.lt_of_le_of_lt Nat.and_le_left hlt
        rw [fp_X2_paint_L21, go hi (by omega), ln_44 h3, Option.bind_some, go hi7 (by omega), lI_44 h3 hi7, Option.bind_some, hgi]
        simp only [zjn, lett, inc, n_and]
        by_cases hb : blk n L col p i = true
        · have hne : bs (fun o => col o == i) p &&& row n L p ≠ 0 := by simpa [blk] using hb
          rw [if_pos (by rw [ne_eq, n_0, n_eq hand (by omega)]; exact hne)]
          obtain ⟨M', a1, a2, a3⟩ := ih2 (i + 1) g M (by omega) (by omega) h3 h4
          refine ⟨M', a1, a2, ?_⟩
          have : smL W (i + 1) = smL W i := by
            show smL W i + W i = _
            have : W i = 0 := by show (if _ then _ else _) = _; rw [if_pos hb]
            rw [this, Int64.add_zero]
          rw [this] at a3
          exact a3
        · have hne : bs (fun o => col o == i) p &&& row n L p = 0 := by simpa [blk] using hb
          rw [if_neg (by rw [hne]; simp [n_0])]
          rw [Option.bind_some, n_1, n_shl (by omega), n_xor, bs_xor, tI_44 h3 hi7, Option.bind_some]
          have g7 : grp (zsI M 44 i (nI (bs (fun o => col o == i) p ||| 1 <<< p))) (putN col p i) used (p + 1) := by
            intro q hq
            by_cases hqi : q = i
            · subst hqi; rw [zI_same, bs_put_s]
            · rw [zI_other _ _ (Or.inr hqi), bs_put_o (fun z => hqi z.symm), h4 q hq]
          obtain ⟨M9, b1, b2, b3⟩ := ih f used (putN col p i) (zsI M 44 i (nI (bs (fun o => col o == i) p ||| 1 <<< p))) (by omega) (by omega) (by omega) huc (fun o ho => by unfold putN; split; exact hi; exact hcol o (by omega)) h3 g7
          rw [b1, Option.bind_some]
          simp only [zpp]
          have hC9 : zC M9 := Fc_C b2 h3
          have v9 : zI M9 44 i = nI (bs (fun o => col o == i) p ||| 1 <<< p) := by rw [b3 i hi, zI_same]
          rw [lI_44 hC9 hi7, Option.bind_some, v9, n_xor, bs_xor2, tI_44 hC9 hi7, Option.bind_some]
          have g13 : grp (zsI M9 44 i (nI (bs (fun o => col o == i) p))) col used p := by
            intro q hq
            by_cases hqi : q = i
            · subst hqi; rw [zI_same]
            · rw [zI_other _ _ (Or.inr hqi), b3 q hq, zI_other _ _ (Or.inr hqi), h4 q hq]
          obtain ⟨M', a1, a2, a3⟩ := ih2 (i + 1) g (zsI M9 44 i (nI (bs (fun o => col o == i) p))) (by omega) (by omega) hC9 g13
          refine ⟨M', Fc_trans (Fc_trans (Fc_trans (Fc_sI rfl) b2) (Fc_sI rfl)) a1, a2, ?_⟩
          have : smL W (i + 1) = smL W i + wys n L c d (putN col p i) used := by
            show smL W i + W i = _
            have : W i = wys n L c d (putN col p i) used := by show (if _ then _ else _) = _; rw [if_neg hb]
            rw [this]
          rw [this] at a3
          exact a3
    obtain ⟨M1, a1, a2, a3⟩ := loop _ used 0 FU M (by omega) (FU_gt (by omega)) hC hG
    rw [n_0, j_0]
    rw [show smL W 0 = jI 0 from j_0] at a3
    rw [a3, hW]
    have hC1 := Fc_C a1 hC
    by_cases hcc : used < c
    · rw [if_neg (by rw [ge_iff_le, n_le (by omega) (by omega)]; omega), if_pos hcc]
      rw [ln_44 hC1, Option.bind_some, go (show used < 7 by omega) (by omega), n_1, n_shl (by omega), tI_44 hC1 (by omega), Option.bind_some]
      have g17 : grp (zsI M1 44 used (nI (1 <<< p))) (putN col p used) (used + 1) (p + 1) := by
        intro q hq
        by_cases hqi : q = used
        · subst hqi
          have hz : bs (fun o => col o == q) p = 0 := by
            apply Nat.eq_of_testBit_eq
            intro i
            rw [bs_tb, Nat.zero_testBit]
            by_cases h : i < p
            · have := hcol i h
              have h2 : (col i == q) = false := by simp; omega
              rw [h2, Bool.and_false]
            · simp [h]
          rw [zI_same, bs_put_s, hz, Nat.zero_or]
        · rw [zI_other _ _ (Or.inr hqi), bs_put_o (fun z => hqi z.symm), a2 q (by omega)]
      obtain ⟨M9, b1, b2, b3⟩ := ih f (used + 1) (putN col p used) (zsI M1 44 used (nI (1 <<< p))) (by omega) (by omega) (by omega) (by omega) (fun o ho => by unfold putN; split; omega; have := hcol o (by omega); omega) hC1 g17
      rw [n_add, n_add, b1, Option.bind_some]
      simp only [zpp]
      refine ⟨M9, by rw [n_sub (by omega)]; rfl, Fc_trans (Fc_trans a1 (Fc_sI rfl)) b2, fun g hg => ?_⟩
      rw [b3 g (by omega), zI_other _ _ (Or.inr (by omega)), a2 g hg, hG g hg]
    · rw [if_pos (by rw [ge_iff_le, n_le (by omega) (by omega)]; omega), if_neg hcc]
      exact ⟨M1, rfl, a1, fun g hg => by rw [a2 g hg, hG g hg]⟩

/-! ===== 53: the class' Rows: readings, gaps ===== -/
theorem n_dec (h : Nat) : nI (h + 1) + (-1) = nI h := by
  rw [← inc, Int32.add_assoc, show (1 : Int32) + (-1) = 0 from by decide, Int32.add_zero]
theorem idx_split {p : Nat} {A R : List Nat} (hA : p ∉ A) : (A ++ p :: R).idxOf p = A.length := by
  induction A with
  | nil => simp [List.idxOf_cons]
  | cons x A ih =>
    have h1 : x ≠ p := fun q => hA (by rw [q]; exact List.mem_cons_self)
    have h2 := ih fun q => hA (List.mem_cons_of_mem _ q)
    have hb : (x == p) = false := by simpa using h1
    rw [List.cons_append, List.idxOf_cons, h2, hb]
    rfl
/-- how far the second letter of a point is behind its first -/
def dst (p : Nat) (l : List Nat) : Nat := (l.drop (l.idxOf p + 1)).idxOf p + 1
def spn (p : Nat) (l : List Nat) : Nat := min (dst p l) (l.length - dst p l)
theorem dst_split {p : Nat} {A B C : List Nat} (hA : p ∉ A) (hB : p ∉ B) : dst p (A ++ p :: (B ++ p :: C)) = B.length + 1 := by
  unfold dst
  rw [idx_split hA]
  have : (A ++ p :: (B ++ p :: C)).drop (A.length + 1) = B ++ p :: C := by simp
  rw [this, idx_split hB]
theorem c_spanOf {M : zM} {a p n : Nat} {l : List Nat} (hn : n < 8) (h : AN M a l) (hw : WD n l) (hp : p < n) : fp_X5_spanOf a (nI (2 * n)) (nI p) M = some (nI (spn p l)) := by
  have he := WD_lt32 hn hw
  have hl := hw.1
  obtain ⟨A, B, C, h1, h2, h3, h4⟩ := two_of (hw.2 p hp)
  subst h1
  have hlen : (A ++ p :: (B ++ p :: C)).length = A.length + 1 + B.length + 1 + C.length := by simp; omega
  unfold fp_X5_spanOf
  rw [← hl, n_0, c_place1 h h2 (by omega) he, Option.bind_some, inc, c_place2 h h3 (by omega) (by omega) he, Option.bind_some, lett_eq, n_sub (by omega), n_sub (by omega), n_min (by omega) (by omega)]
  unfold spn
  rw [dst_split h2 h3, show A.length + 1 + B.length - A.length = B.length + 1 by omega]
/-- between both letters of a point the other way round -/
def trW (p : Nat) (l : List Nat) : List Nat := l.take (l.idxOf p) ++ p :: (((l.drop (l.idxOf p + 1)).take (dst p l - 1)).reverse ++ p :: (l.drop (l.idxOf p + 1)).drop (dst p l))
theorem trW_split {p : Nat} {A B C : List Nat} (hA : p ∉ A) (hB : p ∉ B) : trW p (A ++ p :: (B ++ p :: C)) = A ++ p :: (B.reverse ++ p :: C) := by
  unfold trW
  rw [dst_split hA hB, idx_split hA]
  have : (A ++ p :: (B ++ p :: C)).drop (A.length + 1) = B ++ p :: C := by simp
  rw [this]
  simp
theorem c_revLoop {a base m : Nat} {M0 : zM} (hk : kd a = 100) (ha : a < zS M0) (hL : zL M0 a < 2 ^ 31) (hb : base + m ≤ zL M0 a) (hb1 : 1 ≤ base) : ∀ d t f M1, m ≤ 2 * t + 2 * d + 1 → 2 * t ≤ m → d < f → Fc (fun b => b = a) M0 M1 →
    (∀ k, zI M1 a k = if (base ≤ k ∧ k < base + t) ∨ (base + m ≤ k + t ∧ k < base + m) then zI M0 a (2 * base + m - 1 - k) else zI M0 a k) →
    ∃ M2, fp_X5_reverseBetween_L21 a f (nI (base + t)) (nI (base + m - 1 - t)) M1 = some M2 ∧ Fc (fun b => b = a) M0 M2 ∧ ∀ k, zI M2 a k = if base ≤ k ∧ k < base + m then zI M0 a (2 * base + m - 1 - k) else zI M0 a k := by
  have stop : ∀ t f M1, m ≤ 2 * t + 1 → 2 * t ≤ m → 0 < f → Fc (fun b => b = a) M0 M1 → (∀ k, zI M1 a k = if (base ≤ k ∧ k < base + t) ∨ (base + m ≤ k + t ∧ k < base + m) then zI M0 a (2 * base + m - 1 - k) else zI M0 a k) → ∃ M2, fp_X5_reverseBetween_L21 a f (nI (base + t)) (nI (base + m - 1 - t)) M1 = some M2 ∧ Fc (fun b => b = a) M0 M2 ∧ ∀ k, zI M2 a k = if base ≤ k ∧ k < base + m then zI M0 a (2 * base + m - 1 - k) else zI M0 a k := by
    intro t f M1 h1 h2 h3 h4 h5
    obtain ⟨f, rfl⟩ : ∃ g, f = g + 1 := ⟨f - 1, by omega⟩
    refine ⟨M1, ?_, h4, fun k => ?_⟩
    · rw [fp_X5_reverseBetween_L21, if_pos (by rw [ge_iff_le, n_le (by omega) (by omega)]; omega)]
    · rw [h5 k]
      by_cases hq : base ≤ k ∧ k < base + m
      · rw [if_pos hq]
        by_cases hq2 : (base ≤ k ∧ k < base + t) ∨ (base + m ≤ k + t ∧ k < base + m)
        · rw [if_pos hq2]
        · rw [if_neg hq2]
          have : 2 * base + m - 1 - k = k := by omega
          rw [this]
      · rw [if_neg hq, if_neg (by omega)]
  intro d
  induction d with
  | zero =>
    intro t f M1 h1 h2 h3 h4 h5
    exact stop t f M1 (by omega) h2 h3 h4 h5
  | succ d ih =>
    intro t f M1 h1 h2 h3 h4 h5
    by_cases hs : m ≤ 2 * t + 1
    · exact stop t f M1 hs h2 (by omega) h4 h5
    · obtain ⟨f, rfl⟩ : ∃ g, f = g + 1 := ⟨f - 1, by omega⟩
      have hS : zS M1 = zS M0 := congrArg (fun x => x.2.2.2.1) h4.1
      have hLe : zL M1 a = zL M0 a := congrFun (congrArg (fun x => x.2.2.1) h4.1) a
      have haS : a < zS M1 := by rw [hS]; exact ha
      rw [fp_X5_reverseBetween_L21, if_neg (by rw [ge_iff_le, n_le (by omega) (by omega)]; omega), zln_ok (by rw [hS]; exact ha) (by rw [hk]; decide) (by rw [hk]; decide) hLe, Option.bind_some, go (by omega) hL,
        zlI_ok (by rw [hS]; exact ha) hk hLe hL (by omega), Option.bind_some, zlI_ok (by rw [hS]; exact ha) hk hLe hL (by omega), Option.bind_some, ztI_ok (by exact haS) hk (by exact hLe) hL (by omega), Option.bind_some, ztI_ok (by exact haS) hk (by exact hLe) hL (by omega), Option.bind_some, inc]
      rw [show nI (base + m - 1 - t) + (-1) = nI (base + m - 1 - (t + 1)) from by rw [show base + m - 1 - t = (base + m - 1 - (t + 1)) + 1 by omega, n_dec], Nat.add_assoc base t 1]
      refine ih (t + 1) f _ (by omega) (by omega) (by omega) (Fc_trans h4 (Fc_trans (Fc_sI rfl) (Fc_sI rfl))) fun k => ?_
      by_cases k1 : k = base + m - 1 - t
      · rw [k1, zI_same, h5 (base + t), if_neg (by omega), if_pos (by omega)]
        congr 1; omega
      · rw [zI_other _ _ (Or.inr k1)]
        by_cases k2 : k = base + t
        · rw [k2, zI_same, h5 (base + m - 1 - t), if_neg (by omega), if_pos (by omega)]
          congr 1; omega
        · rw [zI_other _ _ (Or.inr k2), h5 k]
          by_cases hq : (base ≤ k ∧ k < base + t) ∨ (base + m ≤ k + t ∧ k < base + m)
          · rw [if_pos hq, if_pos (by omega)]
          · rw [if_neg hq, if_neg (by omega)]
theorem c_reverseBetween {M : zM} {a p n : Nat} {l : List Nat} (hn : n < 8) (h : AN M a l) (hw : WD n l) (hp : p < n) : ∃ M', fp_X5_reverseBetween a (nI (2 * n)) (nI p) M = some M' ∧ Fc (fun b => b = a) M M' ∧ AN M' a (trW p l) := by
  have he := WD_lt32 hn hw
  have hl := hw.1
  obtain ⟨A, B, C, h1, h2, h3, h4⟩ := two_of (hw.2 p hp)
  subst h1
  have hlen : (A ++ p :: (B ++ p :: C)).length = A.length + 1 + B.length + 1 + C.length := by simp; omega
  have hLn := h.2.2.1
  unfold fp_X5_reverseBetween
  rw [← hl, n_0, c_place1 h h2 (by omega) he, Option.bind_some, inc, lett_eq, c_place2 h h3 (by omega) (by omega) he, Option.bind_some, lett_eq, n_1, n_sub (by omega), trW_split h2 h3]
  obtain ⟨M2, e1, e2, e3⟩ := c_revLoop (a := a) (base := A.length + 1) (m := B.length) (M0 := M) h.2.1 h.1 (AN_L h) (by omega) (by omega) B.length 0 FU M (by omega) (by omega) (FU_gt (by omega)) Fc_refl (fun k => by rw [if_neg (by omega)])
  rw [Nat.add_zero, Nat.sub_zero] at e1
  refine ⟨M2, e1, e2, ?_⟩
  have hS : zS M2 = zS M := congrArg (fun x => x.2.2.2.1) e2.1
  have hLe : zL M2 a = zL M a := congrFun (congrArg (fun x => x.2.2.1) e2.1) a
  refine ⟨by rw [hS]; exact h.1, h.2.1, by rw [hLe]; simp; omega, by rw [hLe]; exact h.2.2.2.1, fun i hi => ?_⟩
  have hi' : i < A.length + 1 + B.length + 1 + C.length := by
    have : (A ++ p :: (B.reverse ++ p :: C)).length = A.length + 1 + B.length + 1 + C.length := by simp; omega
    omega
  rw [e3]
  have g : ∀ k, k < A.length + 1 + B.length + 1 + C.length → zI M a k = nI ((A ++ p :: (B ++ p :: C)).getD k 0) := fun k hk => h.2.2.2.2 k (by omega)
  have eX : ∀ (X : List Nat) k, (A ++ p :: (X ++ p :: C)).getD (A.length + 1 + k) 0 = (X ++ p :: C).getD k 0 := by
    intro X k
    rw [show A.length + 1 + k = A.length + (k + 1) by omega, gR']
    rfl
  by_cases hq : A.length + 1 ≤ i ∧ i < A.length + 1 + B.length
  · rw [if_pos hq, g _ (by omega)]
    congr 1
    obtain ⟨j, hj⟩ : ∃ j, i = A.length + 1 + j := ⟨i - (A.length + 1), by omega⟩
    subst hj
    rw [show 2 * (A.length + 1) + B.length - 1 - (A.length + 1 + j) = A.length + 1 + (B.length - 1 - j) by omega, eX, eX, gA (by omega), gA (by simp; omega)]
    simp only [List.getD]
    rw [List.getElem?_reverse (by omega)]
  · rw [if_neg hq, g i hi']
    congr 1
    by_cases hq2 : i < A.length + 1
    · by_cases hq3 : i < A.length
      · rw [gA hq3, gA hq3]
      · have : i = A.length + 0 := by omega
        rw [this, gR', gR']; rfl
    · obtain ⟨j, hj⟩ : ∃ j, i = A.length + 1 + (B.length + j) := ⟨i - (A.length + 1 + B.length), by omega⟩
      subst hj
      rw [eX, eX, gR']
      have := gR' (A := B.reverse) (R := p :: C) (k := j)
      rw [List.length_reverse] at this
      rw [this]
/-! readings -/
def rix (m s : Nat) (w : Bool) (k : Nat) : Nat := if w then (if s + k < m then s + k else s + k - m) else (if k ≤ s then s - k else s + m - k)
def rdg (l : List Nat) (s : Nat) (w : Bool) : List Nat := (List.range l.length).map fun k => l.getD (rix l.length s w k) 0
theorem rdg_len (l : List Nat) (s : Nat) (w : Bool) : (rdg l s w).length = l.length := by simp [rdg]
theorem rdg_get {l : List Nat} {s k : Nat} {w : Bool} (h : k < l.length) : (rdg l s w).getD k 0 = l.getD (rix l.length s w k) 0 := by
  simp [rdg, List.getD, List.getElem?_map, List.getElem?_range h]
theorem rix_lt {m s k : Nat} {w : Bool} (hs : s < m) (hk : k < m) : rix m s w k < m := by
  unfold rix
  split <;> split <;> omega
theorem rix_0 {m s : Nat} {w : Bool} (hs : s < m) : rix m s w 0 = s := by
  unfold rix
  split <;> split <;> omega
def stI (w : Bool) : Int32 := if w then 1 else -1
theorem c_next {m s k : Nat} {w : Bool} (hm : m < 2 ^ 30) (hs : s < m) (hk : k < m) : fp_X5_next (nI (rix m s w k)) (stI w) (nI m) = some (nI (rix m s w (k + 1))) := by
  unfold fp_X5_next
  rw [lett_eq]
  have hlt := rix_lt (w := w) hs hk
  cases w with
  | true =>
    rw [show stI true = 1 from rfl, inc, if_pos (by rw [n_0, ge_iff_le, n_le (by omega) (by omega)]; omega)]
    simp only [rix, if_true] at hlt ⊢
    by_cases h1 : s + k < m
    · rw [if_pos h1]
      by_cases h2 : s + (k + 1) < m
      · rw [if_pos h2, if_pos (by rw [n_lt (by omega) (by omega)]; omega), Nat.add_assoc]
      · rw [if_neg h2, if_neg (by rw [n_lt (by omega) (by omega)]; omega), n_0]
        congr 2; omega
    · rw [if_neg h1, if_neg (show ¬ s + (k + 1) < m by omega), if_pos (by rw [n_lt (by omega) (by omega)]; omega)]
      congr 2; omega
  | false =>
    rw [show stI false = -1 from rfl]
    simp only [rix, Bool.false_eq_true, if_false] at hlt ⊢
    by_cases h1 : k ≤ s
    · rw [if_pos h1] at hlt ⊢
      by_cases h2 : k + 1 ≤ s
      · rw [if_pos h2, show s - k = (s - (k + 1)) + 1 by omega, n_dec, if_pos (by rw [n_0, ge_iff_le, n_le (by omega) (by omega)]; omega), if_pos (by rw [n_lt (by omega) (by omega)]; omega)]
      · rw [if_neg h2, show s - k = 0 by omega, if_neg (by decide), n_1, n_sub (by omega)]
        congr 2; omega
    · rw [if_neg h1] at hlt ⊢
      rw [if_neg (show ¬ k + 1 ≤ s by omega), show s + m - k = (s + m - (k + 1)) + 1 by omega, n_dec, if_pos (by rw [n_0, ge_iff_le, n_le (by omega) (by omega)]; omega), if_pos (by rw [n_lt (by omega) (by omega)]; omega)]
theorem pw_snoc (l : List Nat) (x : Nat) : pw (l ++ [x]) = pw l * 16 + x := by
  rw [pw_app]
  show _ * 16 ^ 1 + (0 * 16 + x) = _
  omega
theorem j_put {A x : Nat} (hx : x < 16) : (jI A <<< ((4 : Int32).toInt64 &&& 63)) ||| (nI x).toInt64 = jI (A * 16 + x) := by
  rw [n_4, j_shl (by omega), j_of (by omega), j_or]
  congr 1
  have := Nat.shiftLeft_add_eq_or_of_lt (a := A) (b := x) (i := 4) (by omega)
  rw [← this, Nat.shiftLeft_eq]
theorem c_pack {M : zM} {a s : Nat} {w : Bool} {l : List Nat} (h : AN M a l) (h30 : l.length < 2 ^ 30) (he : ∀ z ∈ l, z < 16) (hs : s < l.length) : fp_X5_pack a (nI l.length) (nI s) (stI w) M = some (jI (pw (rdg l s w))) := by
  unfold fp_X5_pack
  have hl := AN_lt h
  have e0 : pw ((rdg l s w).take 0) = 0 := rfl
  rw [j_0, ← e0, n_0]
  have e1 : nI s = nI (rix l.length s w 0) := by rw [rix_0 hs]
  rw [e1]
  refine up (P := fun i f => fp_X5_pack_L9 a (nI l.length) (stI w) M f (jI (pw ((rdg l s w).take i))) (nI (rix l.length s w i)) (nI i) = some (jI (pw (rdg l s w)))) (a := 0) (n := l.length) ?_ ?_ FU (by omega) (FU_gt (by omega))
  · intro f
    rw [fp_X5_pack_L9, stp]
    rw [show (rdg l s w).take l.length = rdg l s w from by rw [← rdg_len l s w]; exact List.take_length]
  · intro i f _ hi ih
    have hr := rix_lt (w := w) hs hi
    rw [fp_X5_pack_L9, go hi (by omega), zjn_eq]
    dsimp only
    rw [if_neg (by rw [n_lt0 (by omega)]; exact id), AN_n h, Option.bind_some, go2 h hr, AN_l h hr, Option.bind_some, lett_eq, j_put (he _ (getD_mem hr)), c_next h30 hs hi, Option.bind_some, inc]
    rw [tk (by rw [rdg_len]; exact hi), pw_snoc, rdg_get hi] at ih
    exact ih
theorem rdg_mem {l : List Nat} {s x : Nat} {w : Bool} (hs : s < l.length) (h : x ∈ rdg l s w) : x ∈ l := by
  unfold rdg at h
  rw [List.mem_map] at h
  obtain ⟨k, hk, rfl⟩ := h
  exact getD_mem (rix_lt hs (List.mem_range.mp hk))
theorem pw14 {l : List Nat} (he : ∀ z ∈ l, z < 16) (h : l.length ≤ 14) : pw l < 2 ^ 63 := by
  have h1 := pw_lt he
  have h2 : (16 : Nat) ^ l.length ≤ 16 ^ 14 := Nat.pow_le_pow_right (by decide) h
  have h3 : (16 : Nat) ^ 14 < 2 ^ 63 := by decide
  omega
/-- where the second letter of 0 stands -/
def sec (l : List Nat) : Nat := l.idxOf 0 + dst 0 l
/-- the least reading, packed -/
def lrp (l : List Nat) : Nat := min (min (pw (rdg l (l.idxOf 0) true)) (pw (rdg l (l.idxOf 0) false))) (min (pw (rdg l (sec l) true)) (pw (rdg l (sec l) false)))
theorem WD16 {n : Nat} {l : List Nat} (hn : n < 8) (h : WD n l) : ∀ z ∈ l, z < 16 := fun z hz => by have := WD_lt h z hz; omega
theorem c_leastReading {M : zM} {a n : Nat} {l : List Nat} (hn : n < 8) (hn0 : 0 < n) (h : AN M a l) (hw : WD n l) : fp_X5_leastReading a (nI (2 * n)) M = some (jI (lrp l)) := by
  have he := WD_lt32 hn hw
  have he16 := WD16 hn hw
  have hl := hw.1
  obtain ⟨A, B, C, h1, h2, h3, h4⟩ := two_of (hw.2 0 hn0)
  subst h1
  have hlen : (A ++ 0 :: (B ++ 0 :: C)).length = A.length + 1 + B.length + 1 + C.length := by simp; omega
  have hs2 : sec (A ++ 0 :: (B ++ 0 :: C)) = A.length + 1 + B.length := by
    unfold sec; rw [idx_split h2, dst_split h2 h3]; omega
  have b : ∀ s w, s < (A ++ 0 :: (B ++ 0 :: C)).length → pw (rdg (A ++ 0 :: (B ++ 0 :: C)) s w) < 2 ^ 63 := fun s w hs => pw14 (fun z hz => he16 z (rdg_mem hs hz)) (by rw [rdg_len]; omega)
  unfold fp_X5_leastReading
  rw [← hl, n_0, c_place1 h h2 (by omega) he, Option.bind_some, inc, c_place2 h h3 (by omega) (by omega) he, Option.bind_some]
  rw [show (-1 : Int32) = stI false from rfl, show (1 : Int32) = stI true from rfl]
  rw [c_pack h (by omega) he16 (by omega), Option.bind_some, c_pack h (by omega) he16 (by omega), Option.bind_some, lett_eq, c_pack h (by omega) he16 (by omega), Option.bind_some, c_pack h (by omega) he16 (by omega), Option.bind_some]
  have b1 := b A.length true (by omega)
  have b2 := b A.length false (by omega)
  have b3 := b (A.length + 1 + B.length) true (by omega)
  have b4 := b (A.length + 1 + B.length) false (by omega)
  rw [j_min b1 b2, j_min b3 b4, j_min (by omega) (by omega)]
  unfold lrp
  rw [hs2, idx_split h2]
theorem ltL_step {r l : List Nat} {i : Nat} (hr : i < r.length) (hl : i < l.length) : ltL (r.drop i) (l.drop i) = (decide (r.getD i 0 < l.getD i 0) || (r.getD i 0 == l.getD i 0 && ltL (r.drop (i + 1)) (l.drop (i + 1)))) := by
  rw [List.drop_eq_getElem_cons hr, List.drop_eq_getElem_cons hl, ltL]
  simp [List.getD, hr, hl]
theorem c_readsLess {M : zM} {a s : Nat} {w : Bool} {l : List Nat} (h : AN M a l) (h30 : l.length < 2 ^ 30) (he : ∀ z ∈ l, z < 16) (hs : s < l.length) : fp_X5_readsLess a (nI l.length) (nI s) (stI w) M = some (bI (ltL (rdg l s w) l)) := by
  unfold fp_X5_readsLess
  have hl := AN_lt h
  obtain ⟨K, hK⟩ : ∃ K : Int32 → Int32 → Option Int32, K = fun v4_8 v5_9 =>
      (zlI 100 M a v4_8).bind fun (y10 : Int32) =>
      (zlI 100 M a v5_9).bind fun (y11 : Int32) =>
      if y10 ≥ y11 then (
        some 0)
      else (
        some 1) := ⟨_, rfl⟩
  rw [← hK, n_0]
  have e1 : nI s = nI (rix l.length s w 0) := by rw [rix_0 hs]
  rw [e1]
  have e2 : ltL (rdg l s w) l = ltL ((rdg l s w).drop 0) (l.drop 0) := rfl
  rw [e2]
  refine up (P := fun i f => fp_X5_readsLess_L6 K a (nI l.length) (stI w) M f (nI (rix l.length s w i)) (nI i) = some (bI (ltL ((rdg l s w).drop i) (l.drop i)))) (a := 0) (n := l.length) ?_ ?_ FU (by omega) (FU_gt (by omega))
  · intro f
    rw [fp_X5_readsLess_L6, stp, List.drop_eq_nil_of_le (by rw [rdg_len]; exact Nat.le_refl _)]
    rfl
  · intro i f _ hi ih
    have hr := rix_lt (w := w) hs hi
    have hr2 : rix l.length s w i < zL M a := Nat.lt_of_lt_of_le hr h.2.2.1
    have g1 := he _ (getD_mem hr)
    have g2 := he _ (getD_mem hi)
    rw [fp_X5_readsLess_L6, go hi (by omega), AN_n h, Option.bind_some, go2 h hi, if_neg (by rw [n_lt0 (by omega)]; exact id), Option.bind_some, if_pos (by rw [n_lt (by omega) (AN_L h)]; exact hr2), AN_l h hr, Option.bind_some, AN_l h hi, Option.bind_some, ltL_step (by rw [rdg_len]; exact hi) hi, rdg_get hi]
    by_cases hq : l.getD (rix l.length s w i) 0 = l.getD i 0
    · rw [if_pos (by rw [hq]), lett_eq, zjn_eq, inc]
      have hx := c_next (w := w) h30 hs hi
      unfold fp_X5_next at hx
      rw [lett_eq] at hx
      have e3 : (decide (l.getD (rix l.length s w i) 0 < l.getD i 0) || (l.getD (rix l.length s w i) 0 == l.getD i 0 && ltL ((rdg l s w).drop (i + 1)) (l.drop (i + 1)))) = ltL ((rdg l s w).drop (i + 1)) (l.drop (i + 1)) := by rw [hq]; simp
      rw [e3]
      dsimp only
      by_cases q1 : nI (rix l.length s w i) + stI w ≥ 0
      · rw [if_pos q1] at hx ⊢
        by_cases q2 : nI (rix l.length s w i) + stI w < nI l.length
        · rw [if_pos q2] at hx ⊢
          rw [Option.some.inj hx]; exact ih
        · rw [if_neg q2] at hx ⊢
          rw [Option.some.inj hx]; exact ih
      · rw [if_neg q1] at hx ⊢
        rw [lett_eq, Option.some.inj hx]; exact ih
    · rw [if_neg (by rw [n_eq (by omega) (by omega)]; exact hq), hK]
      dsimp only
      rw [AN_l h hr, Option.bind_some, AN_l h hi, Option.bind_some]
      by_cases q1 : l.getD (rix l.length s w i) 0 < l.getD i 0
      · rw [if_neg (by rw [ge_iff_le, n_le (by omega) (by omega)]; omega)]
        rw [decide_eq_true q1, Bool.true_or]; rfl
      · rw [if_pos (by rw [ge_iff_le, n_le (by omega) (by omega)]; omega)]
        have : (l.getD (rix l.length s w i) 0 == l.getD i 0) = false := by simpa using hq
        rw [decide_eq_false q1, this]; rfl
/-! gaps -/
/-- those that stand an odd number of times ahead of a gap -/
def px (l : List Nat) (k : Nat) : Nat := (l.take k).foldl (fun acc x => acc ^^^ 1 <<< x) 0
theorem px_s {l : List Nat} {k : Nat} (h : k < l.length) : px l (k + 1) = px l k ^^^ 1 <<< l.getD k 0 := by
  unfold px
  rw [tk h, List.foldl_append]
  rfl
theorem px_lt {l : List Nat} {k : Nat} (he : ∀ z ∈ l, z < 7) : px l k < 128 := by
  unfold px
  have : ∀ (l : List Nat) (acc : Nat), (∀ z ∈ l, z < 7) → acc < 2 ^ 7 → l.foldl (fun acc x => acc ^^^ 1 <<< x) acc < 2 ^ 7 := by
    intro l
    induction l with
    | nil => intro acc _ h; exact h
    | cons x l ih =>
      intro acc h1 h2
      rw [List.foldl_cons]
      exact ih _ (fun z hz => h1 z (List.mem_cons_of_mem _ hz)) (Nat.xor_lt_two_pow h2 (set_lt (h1 x List.mem_cons_self)))
  exact this _ 0 (fun z hz => he z (List.mem_of_mem_take hz)) (by decide)
theorem c_oddBetween {M : zM} {a i j : Nat} {l : List Nat} (h : AN M a l) (he : ∀ z ∈ l, z < 7) (hij : i ≤ j) (hj : j ≤ l.length) : fp_X5_oddBetween a (nI i) (nI j) M = some (nI (px l i ^^^ px l j)) := by
  unfold fp_X5_oddBetween
  have hl := AN_lt h
  have e0 : px l i ^^^ px l i = 0 := Nat.xor_self _
  rw [n_0, ← e0]
  refine up (P := fun k f => fp_X5_oddBetween_L5 a (nI j) M f (nI (px l i ^^^ px l k)) (nI k) = some (nI (px l i ^^^ px l j))) (a := i) (n := j) ?_ ?_ FU hij (FU_gt (by omega))
  · intro f
    rw [fp_X5_oddBetween_L5, stp]
  · intro k f _ hk ih
    have hk' : k < l.length := by omega
    have := he _ (getD_mem hk')
    rw [fp_X5_oddBetween_L5, go hk (by omega), AN_n h, Option.bind_some, go2 h hk', AN_l h hk', Option.bind_some, lett_eq, n_1, n_shl (by omega), n_xor, n_add]
    rw [px_s hk', ← Nat.xor_assoc] at ih
    exact ih
/-- the couples of gaps in which a new point fits near just these -/
def cpA (l : List Nat) (set a k : Nat) : List (Nat × Nat) := ((List.range k).filter fun b => decide (a ≤ b) && (px l a ^^^ px l b == set)).map fun b => (a, b)
def cpN (l : List Nat) (set : Nat) : Nat → List (Nat × Nat)
  | 0 => []
  | k + 1 => cpN l set k ++ cpA l set k (l.length + 1)
def cpl (l : List Nat) (set : Nat) : List (Nat × Nat) := cpN l set (l.length + 1)
theorem cpA_s (l : List Nat) (set a k : Nat) : cpA l set a (k + 1) = cpA l set a k ++ (if decide (a ≤ k) && (px l a ^^^ px l k == set) then [(a, k)] else []) := by
  unfold cpA
  rw [List.range_succ, List.filter_append, List.map_append]
  congr 1
  rw [List.filter_cons]
  split <;> rfl
theorem cpA_0 (l : List Nat) (set a : Nat) : cpA l set a a = [] := by
  unfold cpA
  rw [List.filter_eq_nil_iff.mpr]
  · rfl
  · intro b hb
    have := List.mem_range.mp hb
    have h2 : ¬ a ≤ b := by omega
    simp [h2]
theorem cpA_len (l : List Nat) (set a k : Nat) : (cpA l set a k).length ≤ k := by
  unfold cpA
  rw [List.length_map]
  exact Nat.le_trans (List.length_filter_le _ _) (by simp)
theorem cpN_len (l : List Nat) (set k : Nat) : (cpN l set k).length ≤ k * (l.length + 1) := by
  induction k with
  | zero => simp [cpN]
  | succ k ih =>
    rw [cpN, List.length_append, Nat.add_mul, Nat.one_mul]
    have := cpA_len l set k (l.length + 1)
    omega
theorem gt_go {α : Type} {i n : Nat} (h : i ≤ n) (hn : n < 2 ^ 31) (x y : α) : (if nI i > nI n then x else y) = y := if_neg (by rw [gt_iff_lt, n_lt hn (by omega)]; omega)
theorem gt_stp {α : Type} {n : Nat} (hn : n + 1 < 2 ^ 31) (x y : α) : (if nI (n + 1) > nI n then x else y) = x := if_pos (by rw [gt_iff_lt, n_lt (by omega) hn]; omega)
theorem c_countCouples {M : zM} {a set : Nat} {l : List Nat} (h : AN M a l) (h14 : l.length ≤ 14) (he : ∀ z ∈ l, z < 7) (hset : set < 128) : fp_X5_countCouples a (nI l.length) (nI set) M = some (nI (cpl l set).length) := by
  unfold fp_X5_countCouples
  rw [n_0, show nI 0 = nI (cpN l set 0).length from rfl]
  rw [show (fp_X5_countCouples_L5 a (nI l.length) (nI set) M FU (nI (cpN l set 0).length) (nI (cpN l set 0).length)) = fp_X5_countCouples_L5 a (nI l.length) (nI set) M FU (nI (cpN l set 0).length) (nI 0) from rfl]
  refine up (P := fun i f => fp_X5_countCouples_L5 a (nI l.length) (nI set) M f (nI (cpN l set i).length) (nI i) = some (nI (cpl l set).length)) (a := 0) (n := l.length + 1) ?_ ?_ FU (by omega) (FU_gt (by omega))
  · intro f
    rw [fp_X5_countCouples_L5, gt_stp (by omega)]; rfl
  · intro i f _ hi ih
    rw [fp_X5_countCouples_L5, gt_go (by omega) (by omega)]
    rw [show nI (cpN l set i).length = nI ((cpN l set i).length + (cpA l set i i).length) from by rw [cpA_0]; rfl]
    refine up (P := fun k g => fp_X5_countCouples_L15 (fun v3_3 => fp_X5_countCouples_L5 a (nI l.length) (nI set) M f v3_3 (nI i + 1)) a (nI l.length) (nI set) (nI i) M g (nI ((cpN l set i).length + (cpA l set i k).length)) (nI k) = some (nI (cpl l set).length)) (a := i) (n := l.length + 1) ?_ ?_ FU (by omega) (FU_gt (by omega))
    · intro g
      rw [fp_X5_countCouples_L15, gt_stp (by omega), inc, ← List.length_append]
      exact ih
    · intro k g hik hk ih2
      have hx : px l i ^^^ px l k < 2 ^ 7 := Nat.xor_lt_two_pow (px_lt he) (px_lt he)
      rw [fp_X5_countCouples_L15, gt_go (by omega) (by omega), c_oddBetween h he hik (by omega), Option.bind_some, zjn_eq]
      simp only [inc] at ih2 ⊢
      rw [cpA_s, decide_eq_true hik, Bool.true_and] at ih2
      by_cases hq : px l i ^^^ px l k = set
      · rw [hq, if_neg (fun q => q rfl)]
        rw [hq, if_pos (by simp), List.length_append, ← Nat.add_assoc] at ih2
        exact ih2
      · rw [if_pos (by rw [ne_eq, n_eq (by omega) (by omega)]; exact hq)]
        rw [if_neg (by simpa using hq), List.append_nil] at ih2
        exact ih2
theorem c_coupleAt {M : zM} {a set j : Nat} {l : List Nat} (h : AN M a l) (h14 : l.length ≤ 14) (he : ∀ z ∈ l, z < 7) (hset : set < 128) (hj : j < 2 ^ 31) : fp_X5_coupleAt a (nI l.length) (nI set) (nI j) M = some (if j < (cpl l set).length then nI (((cpl l set).getD j (0, 0)).1 * 15 + ((cpl l set).getD j (0, 0)).2) else -1) := by
  unfold fp_X5_coupleAt
  obtain ⟨R, hR⟩ : ∃ R, R = (if j < (cpl l set).length then nI (((cpl l set).getD j (0, 0)).1 * 15 + ((cpl l set).getD j (0, 0)).2) else -1) := ⟨_, rfl⟩
  rw [← hR]
  have pre : ∀ i d, ∃ t, cpN l set (i + d) = cpN l set i ++ t := by
    intro i d
    induction d with
    | zero => exact ⟨[], by simp⟩
    | succ d ih =>
      obtain ⟨t, ht⟩ := ih
      exact ⟨t ++ _, by rw [← Nat.add_assoc, cpN, ht, List.append_assoc]⟩
  have preA : ∀ i k d, ∃ t, cpA l set i (k + d) = cpA l set i k ++ t := by
    intro i k d
    induction d with
    | zero => exact ⟨[], by simp⟩
    | succ d ih =>
      obtain ⟨t, ht⟩ := ih
      exact ⟨t ++ _, by rw [← Nat.add_assoc, cpA_s, ht, List.append_assoc]⟩
  have hlim := cpN_len l set (l.length + 1)
  have hlim2 : (l.length + 1) * (l.length + 1) ≤ 15 * 15 := Nat.mul_le_mul (by omega) (by omega)
  have lenN : ∀ i, i ≤ l.length + 1 → (cpN l set i).length ≤ 225 := by
    intro i hi
    have := cpN_len l set i
    have h2 : i * (l.length + 1) ≤ 15 * 15 := Nat.mul_le_mul (by omega) (by omega)
    omega
  rw [n_0, show nI 0 = nI (cpN l set 0).length from rfl]
  rw [show (fp_X5_coupleAt_L6 a (nI l.length) (nI set) (nI j) M FU (nI (cpN l set 0).length) (nI (cpN l set 0).length)) = fp_X5_coupleAt_L6 a (nI l.length) (nI set) (nI j) M FU (nI (cpN l set 0).length) (nI 0) from rfl]
  have key : (cpN l set 0).length ≤ j → fp_X5_coupleAt_L6 a (nI l.length) (nI set) (nI j) M FU (nI (cpN l set 0).length) (nI 0) = some R := by
    refine up (P := fun i f => (cpN l set i).length ≤ j → fp_X5_coupleAt_L6 a (nI l.length) (nI set) (nI j) M f (nI (cpN l set i).length) (nI i) = some R) (a := 0) (n := l.length + 1) ?_ ?_ FU (by omega) (FU_gt (by omega))
    · intro f hle
      rw [fp_X5_coupleAt_L6, gt_stp (by omega), hR, if_neg (by unfold cpl; omega)]
    · intro i f _ hi ih hle
      rw [fp_X5_coupleAt_L6, gt_go (by omega) (by omega)]
      have hN := lenN i (by omega)
      have key2 : (cpN l set i).length + (cpA l set i i).length ≤ j → fp_X5_coupleAt_L16 (fun v4_3 => fp_X5_coupleAt_L6 a (nI l.length) (nI set) (nI j) M f v4_3 (nI i + 1)) a (nI l.length) (nI set) (nI j) (nI i) M FU (nI ((cpN l set i).length + (cpA l set i i).length)) (nI i) = some R := by
        refine up (P := fun k g => (cpN l set i).length + (cpA l set i k).length ≤ j → fp_X5_coupleAt_L16 (fun v4_3 => fp_X5_coupleAt_L6 a (nI l.length) (nI set) (nI j) M f v4_3 (nI i + 1)) a (nI l.length) (nI set) (nI j) (nI i) M g (nI ((cpN l set i).length + (cpA l set i k).length)) (nI k) = some R) (a := i) (n := l.length + 1) ?_ ?_ FU (by omega) (FU_gt (by omega))
        · intro g hle2
          rw [fp_X5_coupleAt_L16, gt_stp (by omega), inc, ← List.length_append]
          exact ih (by rw [cpN, List.length_append]; exact hle2)
        · intro k g hik hk ih2 hle2
          have hx : px l i ^^^ px l k < 2 ^ 7 := Nat.xor_lt_two_pow (px_lt he) (px_lt he)
          have hA := cpA_len l set i k
          rw [fp_X5_coupleAt_L16, gt_go (by omega) (by omega), c_oddBetween h he hik (by omega), Option.bind_some, zjn_eq]
          simp only [inc] at ih2 ⊢
          rw [cpA_s, decide_eq_true hik, Bool.true_and] at ih2
          by_cases hq : px l i ^^^ px l k = set
          · rw [hq, if_neg (fun q => q rfl)]
            rw [hq, if_pos (by simp), List.length_append, ← Nat.add_assoc] at ih2
            by_cases hj2 : (cpN l set i).length + (cpA l set i k).length = j
            · rw [if_neg (by rw [hj2]; exact fun q => q rfl)]
              obtain ⟨t, ht⟩ := pre (i + 1) (l.length + 1 - (i + 1))
              obtain ⟨u, hu⟩ := preA i (k + 1) (l.length + 1 - (k + 1))
              rw [show i + 1 + (l.length + 1 - (i + 1)) = l.length + 1 by omega, show cpN l set (i + 1) = cpN l set i ++ cpA l set i (l.length + 1) from rfl] at ht
              rw [show k + 1 + (l.length + 1 - (k + 1)) = l.length + 1 by omega, cpA_s l set i k, decide_eq_true hik, Bool.true_and, hq, if_pos (by simp)] at hu
              have e : cpl l set = (cpN l set i ++ cpA l set i k) ++ (i, k) :: (u ++ t) := by
                unfold cpl
                rw [ht, hu]; simp
              have e2 : (cpl l set).getD j (0, 0) = (i, k) := by
                rw [e, ← hj2]
                simp [List.getD]
              have e3 : j < (cpl l set).length := by rw [e]; simp; omega
              rw [hR, if_pos e3, e2, show (15 : Int32) = nI 15 from by decide, n_mul, n_add]
            · rw [if_pos (by rw [ne_eq, n_eq (by omega) hj]; exact hj2)]
              exact ih2 (by simp; omega)
          · rw [if_pos (by rw [ne_eq, n_eq (by omega) (by omega)]; exact hq)]
            rw [if_neg (by simpa using hq), List.append_nil] at ih2
            exact ih2 hle2
      have := key2 (by rw [cpA_0]; simpa using hle)
      rw [cpA_0] at this
      exact this
  exact key (by simp [cpN])

/-! ===== 43: the class' Net ===== -/
def bI (b : Bool) : Int32 := if b then 1 else 0
theorem bI_t : bI true = 1 := rfl
theorem bI_f : bI false = 0 := rfl
theorem bI_0 (b : Bool) : (bI b = 0) = (b = false) := by cases b <;> simp [bI]
theorem bI_1 (b : Bool) : (bI b = 1) = (b = true) := by cases b <;> simp [bI]
theorem ifF {α : Type} (x y : α) : (if bI false = 0 then x else y) = x := if_pos rfl
theorem ifT {α : Type} (x y : α) : (if bI true = 0 then x else y) = y := if_neg (by decide)
theorem n_bI (b : Bool) : nI b.toNat = bI b := by cases b <;> rfl
theorem tst {x k : Nat} (hx : x < 2 ^ 31) (hk : k < 32) : (nI x >>> (nI k &&& 31)) &&& 1 = bI (x.testBit k) := by
  rw [n_shr hx hk, n_1, n_and, tb_one, n_bI]
theorem go {α : Type} {i n : Nat} (h : i < n) (hn : n < 2 ^ 31) (x y : α) : (if nI i ≥ nI n then x else y) = y := if_neg (by rw [ge_iff_le, n_le hn (by omega)]; omega)
theorem stp {α : Type} (n : Nat) (x y : α) : (if nI n ≥ nI n then x else y) = x := if_pos (by rw [ge_iff_le]; exact Int32.le_refl _)
theorem inc (i : Nat) : nI i + 1 = nI (i + 1) := by rw [n_1, n_add]
theorem c_pair : ∀ a, a < 16 → ∀ b, b < 16 → fp_X2_pair (nI a) (nI b) = some (nI (pr a b)) := by decide +kernel
theorem c_isIn {s p : Nat} (hs : s < 2 ^ 31) (hp : p < 32) : fp_X2_isIn (nI s) (nI p) = some (bI (s.testBit p)) := by
  unfold fp_X2_isIn
  rw [tst hs hp]
  cases s.testBit p <;> rfl
theorem c_everyPoint : ∀ p, p < 21 → fp_X2_everyPoint (nI p) = some (nI (1 <<< p - 1)) := by decide +kernel
theorem c_tied {L a b : Nat} (hL : L < 2 ^ 31) (ha : a < 7) (hb : b < 7) (hab : a ≠ b) : fp_X2_tied (nI L) (nI a) (nI b) = some (bI (adj L a b)) := by
  unfold fp_X2_tied
  have := pr_lt21 a ha b hb hab
  rw [c_pair a (by omega) b (by omega), Option.bind_some, tst hL (by omega)]
  have h2 : adj L a b = L.testBit (pr a b) := by simp [adj, hab]
  rw [h2]
  cases L.testBit (pr a b) <;> rfl
theorem t_low (L t p : Nat) : L >>> t &&& (1 <<< p - 1) = bs (fun q => L.testBit (t + q)) p := by
  apply Nat.eq_of_testBit_eq
  intro i
  rw [Nat.testBit_and, Nat.testBit_shiftRight, all_tb, bs_tb, Bool.and_comm]
theorem row_low {L p : Nat} : bs (adj L p) p = bs (fun q => L.testBit (p * (p - 1) / 2 + q)) p := bs_congr fun q hq => by
  rw [adj_hi hq]
  unfold pr
  rw [if_pos hq]
theorem bs_step (f : Nat → Bool) (i : Nat) : bs f i ||| ((f i).toNat <<< i) = bs f (i + 1) := rfl
theorem bs_skip {f : Nat → Bool} {i : Nat} (h : f i = false) : bs f (i + 1) = bs f i := by simp [bs, h]
theorem bs_take {f : Nat → Bool} {i : Nat} (h : f i = true) : bs f (i + 1) = bs f i ||| 1 <<< i := by simp [bs, h]
theorem nt_bound : ∀ i, i < 8 → i * (i - 1) / 2 ≤ 21 := by decide
theorem c_nearTo {n L p : Nat} (hn : n < 8) (hL : L < 2 ^ 21) (hp : p < n) : fp_X2_nearTo (nI n) (nI L) (nI p) = some (nI (row n L p)) := by
  unfold fp_X2_nearTo
  simp only [lett]
  have e1 : nI L >>> ((nI p * (nI p - 1)) / 2 &&& 31) &&& ((1 <<< (nI p &&& 31)) - 1) = nI (bs (adj L p) p) := by
    have e0 : nI p * (nI p - 1) / 2 = nI (p * (p - 1) / 2) := by
      have : ∀ p, p < 8 → nI p * (nI p - 1) / 2 = nI (p * (p - 1) / 2) := by decide +kernel
      exact this p (by omega)
    have hb := nt_bound p (by omega)
    rw [e0, n_shr (by omega) (by omega), n_1, n_shl (by omega), n_sub, n_and, t_low, ← row_low]
    rw [Nat.shiftLeft_eq, Nat.one_mul]
    exact Nat.two_pow_pos p
  rw [e1, show nI p + 1 = nI (p + 1) from by rw [n_1, n_add], show bs (adj L p) p = bs (adj L p) (p + 1) from (bs_skip (adj_self L p)).symm]
  refine up (P := fun i f => fp_X2_nearTo_L21 (nI n) (nI L) (nI p) f (nI (bs (adj L p) i)) (nI i) = some (nI (row n L p))) (a := p + 1) (n := n) ?_ ?_ FU (by omega) (FU_gt (by omega))
  · intro f
    rw [fp_X2_nearTo_L21, stp]
    rfl
  · intro i f hi hin ih
    have hb := nt_bound i (by omega)
    have hb2 : i * (i - 1) / 2 + p = pr i p := by unfold pr; rw [if_pos (by omega)]
    have hb3 := pr_lt21 i (by omega) p (by omega) (by omega)
    have e0 : nI i * (nI i - 1) / 2 = nI (i * (i - 1) / 2) := by
      have : ∀ p, p < 8 → nI p * (nI p - 1) / 2 = nI (p * (p - 1) / 2) := by decide +kernel
      exact this i (by omega)
    rw [fp_X2_nearTo_L21, go hin (by omega)]
    simp only [lett]
    rw [e0, n_add, hb2, tst (by omega) (by omega), ← n_bI, n_shl (by omega), n_or, ← adj_hi (by omega), adj_comm, bs_step, inc]
    exact ih
theorem c_isLeastOf {s p : Nat} (hp : p < 21) : fp_X2_isLeastOf (nI s) (nI p) = some (bI (s &&& (1 <<< p - 1) == 0)) := by
  unfold fp_X2_isLeastOf
  rw [c_everyPoint p hp, Option.bind_some, n_and]
  by_cases h : s &&& (1 <<< p - 1) = 0
  · rw [h]; rfl
  · have hlt : s &&& (1 <<< p - 1) < 2 ^ 31 := by
      rw [all_eq]
      exact Nat.lt_of_le_of_lt (Nat.and_le_right) (Nat.lt_of_le_of_lt (Nat.sub_le _ _) (Nat.pow_lt_pow_right (by decide) (by omega)))
    rw [if_pos (by rw [n_0, ne_eq, n_eq hlt (by decide)]; exact h)]
    simp [h, bI]
theorem c_code {n L : Nat} : fp_X2_code (nI n) (nI L) = some (nI (n <<< 21 ||| L)) := by
  unfold fp_X2_code
  rw [show (21 : Int32) = nI 21 from by decide, n_shl (by omega), n_or]
theorem code_add {n L : Nat} (hL : L < 2 ^ 21) : n <<< 21 ||| L = n * 2 ^ 21 + L := by rw [← Nat.shiftLeft_add_eq_or_of_lt hL, Nat.shiftLeft_eq]
theorem c_pointsOf {n L : Nat} (hn : n < 8) (hL : L < 2 ^ 21) : fp_X2_pointsOf (nI (n <<< 21 ||| L)) = some (nI n) := by
  unfold fp_X2_pointsOf
  rw [show (21 : Int32) = nI 21 from by decide, code_add hL, n_shr (by omega) (by omega), Nat.shiftRight_eq_div_pow]
  congr 2; omega
theorem c_linesOf {n L : Nat} (hn : n < 8) (hL : L < 2 ^ 21) : fp_X2_linesOf (nI (n <<< 21 ||| L)) = some (nI L) := by
  unfold fp_X2_linesOf
  rw [show (2097151 : Int32) = nI (2 ^ 21 - 1) from by decide, n_and, code_add hL, Nat.and_two_pow_sub_one_eq_mod]
  congr 2; omega
/-- the couples of a set -/
def prs (s : Nat) : Nat := bs (fun k => s.testBit (pi1 k) && s.testBit (pi2 k)) 21
theorem c_pairsOf : ∀ s, s < 128 → fp_X2_pairsOf (nI s) = some (nI (prs s)) := by decide +kernel
theorem prs_tb {s a b : Nat} (ha : a < 7) (hb : b < a) : (prs s).testBit (pr a b) = (s.testBit a && s.testBit b) := by
  unfold prs
  rw [bs_tb]
  obtain ⟨h1, h2⟩ := pr_inv a ha b hb
  have h3 : pr a b < 21 := pr_lt 7 (by omega) a ha b hb
  simp [h3, h1, h2]
theorem turn_x {n L p : Nat} (hn : n < 8) (hL : L < 2 ^ tri n) (hp : p < n) : L ^^^ prs (row n L p) = turn n L p := by
  refine net_ext hn ?_ (mk_lt _ _) fun a ha b hb => ?_
  · apply lt_of_tb
    intro i hi
    rw [Nat.testBit_xor, tb_of_lt hL hi]
    unfold prs
    rw [bs_tb]
    by_cases h21 : i < 21
    · obtain ⟨h1, h2, h3⟩ := pr_surj 7 (by omega) i h21
      rw [row_tb]
      have : ¬ pi1 i < n := by
        intro q
        have := pr_lt n hn (pi1 i) q (pi2 i) h2
        omega
      simp [this]
    · simp [h21]
  · unfold turn
    rw [Nat.testBit_xor, prs_tb (by omega) hb, mk_tb hn _ ha hb, row_tb, row_tb, adj_hi hb]
    have : b < n := by omega
    simp [ha, this]
theorem c_turnedAt {n L p : Nat} (hn : n < 8) (hL : L < 2 ^ tri n) (hp : p < n) : fp_X2_turnedAt (nI n) (nI L) (nI p) = some (nI (turn n L p)) := by
  unfold fp_X2_turnedAt
  rw [c_nearTo hn (lt21 hn hL) hp, Option.bind_some, c_pairsOf _ (lt128 hn (row_lt _ _ _)), Option.bind_some, n_xor, turn_x hn hL hp]
theorem turn_lt (n L p : Nat) : turn n L p < 2 ^ tri n := mk_lt _ _
/-- swung over a line -/
def swing (n L a b : Nat) : Nat := turn n (turn n (turn n L (min a b)) (max a b)) (min a b)
theorem c_swungOver {n L a b : Nat} (hn : n < 8) (hL : L < 2 ^ tri n) (ha : a < n) (hb : b < n) : fp_X2_swungOver (nI n) (nI L) (nI a) (nI b) = some (nI (swing n L a b)) := by
  unfold fp_X2_swungOver
  simp only [lett]
  rw [n_min (by omega) (by omega), n_max (by omega) (by omega), c_turnedAt hn hL (by omega), Option.bind_some, c_turnedAt hn (turn_lt _ _ _) (by omega), Option.bind_some, c_turnedAt hn (turn_lt _ _ _) (by omega), Option.bind_some]
  rfl
/-- two points change their numbers -/
def exch (a b p : Nat) : Nat := if p = a then b else if p = b then a else p
def exnet (n L a b : Nat) : Nat := mk n fun h l => adj L (exch a b h) (exch a b l)
theorem exch_lt {a b p n : Nat} (ha : a < n) (hb : b < n) (hp : p < n) : exch a b p < n := by
  unfold exch
  split
  · exact hb
  · split <;> assumption
theorem exch_ne {a b p q : Nat} (h : p ≠ q) : exch a b p ≠ exch a b q := by
  unfold exch
  repeat' split
  all_goals omega
theorem c_exchange {p a b : Nat} (hp : p < 8) (ha : a < 8) (hb : b < 8) : fp_X2_exchange (nI p) (nI a) (nI b) = some (nI (exch a b p)) := by
  have : ∀ p, p < 8 → ∀ a, a < 8 → ∀ b, b < 8 → fp_X2_exchange (nI p) (nI a) (nI b) = some (nI (exch a b p)) := by decide +kernel
  exact this p hp a ha b hb
theorem tri_s (h : Nat) : tri (h + 1) = tri h + h := by
  unfold tri
  rw [Nat.add_sub_cancel]
  cases h with
  | zero => rfl
  | succ h =>
    rw [Nat.add_sub_cancel]
    have : (h + 1 + 1) * (h + 1) = (h + 1) * h + 2 * (h + 1) := by rw [← Nat.mul_comm (h + 1), ← Nat.mul_comm (h + 1), ← Nat.mul_add]
    rw [this]; omega
theorem pr_tri {h l : Nat} (hl : l < h) : pr h l = tri h + l := by unfold pr tri; rw [if_pos hl]
theorem c_exchanged {n L a b : Nat} (hn : n < 8) (hL : L < 2 ^ tri n) (ha : a < n) (hb : b < n) : fp_X2_exchanged (nI n) (nI L) (nI a) (nI b) = some (nI (exnet n L a b)) := by
  unfold fp_X2_exchanged
  have hL' := lt31 hn hL
  let G : Nat → Bool := fun k => adj L (exch a b (pi1 k)) (exch a b (pi2 k))
  have h0 : (0 : Int32) = nI (bs G (tri 1)) := rfl
  rw [h0, show (1 : Int32) = nI 1 from n_1]
  refine up (P := fun h f => fp_X2_exchanged_L6 (nI n) (nI L) (nI a) (nI b) f (nI (bs G (tri h))) (nI h) = some (nI (exnet n L a b))) (a := 1) (n := n) ?_ ?_ FU (by omega) (FU_gt (by omega))
  · intro f
    rw [fp_X2_exchanged_L6, stp]
    rfl
  · intro h f h1 hhn ih
    rw [fp_X2_exchanged_L6, go hhn (by omega)]
    have e : nI (bs G (tri h)) = nI (bs G (tri h + 0)) := rfl
    rw [e, n_0]
    refine up (P := fun l g => fp_X2_exchanged_L15 (fun v4_7 => fp_X2_exchanged_L6 (nI n) (nI L) (nI a) (nI b) f v4_7 (nI h + 1)) (nI n) (nI L) (nI a) (nI b) (nI h) g (nI (bs G (tri h + l))) (nI l) = some (nI (exnet n L a b))) (a := 0) (n := h) ?_ ?_ FU (by omega) (FU_gt (by omega))
    · intro g
      rw [fp_X2_exchanged_L15, stp, inc, ← tri_s]
      exact ih
    · intro l g _ hlh ih2
      have hq := pr_tri hlh
      have hq2 := pr_lt21 h (by omega) l (by omega) (by omega)
      obtain ⟨i1, i2⟩ := pr_inv h (by omega) l hlh
      have hG : adj L (exch a b l) (exch a b h) = G (tri h + l) := by
        show _ = adj L (exch a b (pi1 (tri h + l))) (exch a b (pi2 (tri h + l)))
        rw [← hq, i1, i2, adj_comm]
      have b1 := exch_lt ha hb (show l < n by omega)
      have b2 := exch_lt ha hb hhn
      rw [fp_X2_exchanged_L15, go hlh (by omega), c_exchange (by omega) (by omega) (by omega), Option.bind_some, c_exchange (by omega) (by omega) (by omega), Option.bind_some, c_tied hL' (by omega) (by omega) (exch_ne (by omega)), Option.bind_some, c_pair _ (by omega) _ (by omega), pr_comm l h, hq]
      simp only [zjn, lett, bI_0, inc, Option.bind_some]
      rw [hG]
      have hl2 : nI (bs G (tri h + (l + 1))) = if G (tri h + l) = false then nI (bs G (tri h + l)) else nI (bs G (tri h + l)) ||| 1 <<< (nI (tri h + l) &&& 31) := by
        rw [← Nat.add_assoc]
        split
        · rename_i q; rw [bs_skip q]
        · rename_i q; rw [bs_take (by simpa using q), n_1, n_shl (by omega), n_or]
      rw [hl2] at ih2
      simp only [inc] at ih2
      split at ih2
      · rename_i q; rw [if_pos q]; exact ih2
      · rename_i q; rw [if_neg q]; exact ih2
/-! parts -/
theorem cnt_pref (f : Nat → Bool) {a n : Nat} (h : a ≤ n) : cnt f a ≤ cnt f n := by
  obtain ⟨d, rfl⟩ : ∃ d, n = a + d := ⟨n - a, by omega⟩
  rw [cnt_add]; omega
/-- the i-th of those below n for which f holds -/
def sel (f : Nat → Bool) : Nat → Nat → Nat
  | 0, _ => 0
  | n + 1, i => if f n = true ∧ i = cnt f n then n else sel f n i
theorem sel_at {f : Nat → Bool} {n a : Nat} (ha : a < n) (hf : f a = true) : sel f n (cnt f a) = a := by
  induction n with
  | zero => omega
  | succ n ih =>
    by_cases h : a = n
    · subst h; simp [sel, hf]
    · have h1 : a < n := by omega
      have h2 := cnt_pref f (show a + 1 ≤ n by omega)
      have h3 : cnt f (a + 1) = cnt f a + 1 := by simp [cnt, hf]
      rw [sel, if_neg (by omega), ih h1]
theorem sel_in {f : Nat → Bool} {n i : Nat} (h : i < cnt f n) : sel f n i < n ∧ f (sel f n i) = true ∧ cnt f (sel f n i) = i := by
  induction n with
  | zero => simp [cnt] at h
  | succ n ih =>
    rw [sel]
    by_cases hq : f n = true ∧ i = cnt f n
    · rw [if_pos hq]; exact ⟨by omega, hq.1, hq.2.symm⟩
    · rw [if_neg hq]
      have : i < cnt f n := by
        simp only [cnt] at h
        cases hf : f n with
        | false => rw [hf] at h; simpa using h
        | true =>
          rw [hf] at h
          simp at h
          have : i ≠ cnt f n := fun q => hq ⟨hf, q⟩
          omega
      obtain ⟨h1, h2, h3⟩ := ih this
      exact ⟨by omega, h2, h3⟩
theorem sel_mono {f : Nat → Bool} {n i j : Nat} (hij : i < j) (hj : j < cnt f n) : sel f n i < sel f n j := by
  obtain ⟨h1, h2, h3⟩ := sel_in (show i < cnt f n by omega)
  obtain ⟨h4, h5, h6⟩ := sel_in hj
  by_cases h : sel f n i < sel f n j
  · exact h
  · have := cnt_pref f (show sel f n j ≤ sel f n i by omega)
    omega
theorem sel_lt {f : Nat → Bool} {n i : Nat} (h : i < cnt f n) : sel f n i < n := (sel_in h).1
/-- the network's part by a set -/
def part (n L s : Nat) : Nat := mk (cnt s.testBit n) fun h l => adj L (sel s.testBit n h) (sel s.testBit n l)
theorem part_adj {n L s a b : Nat} (hn : n < 8) (ha : a < cnt s.testBit n) (hb : b < cnt s.testBit n) : adj (part n L s) a b = adj L (sel s.testBit n a) (sel s.testBit n b) :=
  mk_adj2 (Nat.lt_of_le_of_lt (cnt_le _ _) hn) _ (fun _ _ => adj_comm _ _ _) (fun _ => adj_self _ _) ha hb
theorem part_L29 {n L s h : Nat} (k : Int32 → Option Int32) (hn : n < 8) (hs : s < 2 ^ 31) (hL : L < 2 ^ tri n) (hh : h < n) (hsh : s.testBit h = true) (G : Nat → Bool) (hG : G = fun k => adj L (sel s.testBit n (pi1 k)) (sel s.testBit n (pi2 k))) :
    fp_X2_part_L29 k (nI n) (nI L) (nI s) (nI (cnt s.testBit h)) (nI h) FU (nI (bs G (tri (cnt s.testBit h)))) 0 0 = k (nI (bs G (tri (cnt s.testBit (h + 1))))) := by
  have hL' := lt31 hn hL
  have hc := cnt_le s.testBit h
  have e : nI (bs G (tri (cnt s.testBit h))) = nI (bs G (tri (cnt s.testBit h) + cnt s.testBit 0)) := rfl
  rw [e, n_0, show nI 0 = nI (cnt s.testBit 0) from rfl]
  refine up (P := fun o g => fp_X2_part_L29 k (nI n) (nI L) (nI s) (nI (cnt s.testBit h)) (nI h) g (nI (bs G (tri (cnt s.testBit h) + cnt s.testBit o))) (nI (cnt s.testBit o)) (nI o) = k (nI (bs G (tri (cnt s.testBit (h + 1)))))) (a := 0) (n := h) ?_ ?_ FU (by omega) (FU_gt (by omega))
  · intro g
    rw [fp_X2_part_L29, stp]
    have : cnt s.testBit (h + 1) = cnt s.testBit h + 1 := by simp [cnt, hsh]
    rw [this, tri_s]
  · intro o g _ hoh ih
    rw [fp_X2_part_L29, go hoh (by omega), c_isIn hs (by omega), Option.bind_some]
    simp only [zjn, lett, bI_0, inc, inc]
    by_cases hb : s.testBit o = true
    · have hc1 : cnt s.testBit (o + 1) = cnt s.testBit o + 1 := by simp [cnt, hb]
      have hc2 := cnt_pref s.testBit (show o + 1 ≤ h by omega)
      have hq := pr_tri (show cnt s.testBit o < cnt s.testBit h by omega)
      have hq2 := pr_lt21 (cnt s.testBit h) (by omega) (cnt s.testBit o) (by omega) (by omega)
      have hq3 := pr_lt21 h (by omega) o (by omega) (by omega)
      obtain ⟨i1, i2⟩ := pr_inv (cnt s.testBit h) (by omega) (cnt s.testBit o) (by omega)
      rw [if_neg (by simp [hb]), c_pair _ (by omega) _ (by omega), Option.bind_some, c_pair _ (by omega) _ (by omega), Option.bind_some, tst hL' (by rw [pr_comm]; omega), ← n_bI, n_shl (by rw [pr_comm]; omega), n_or, pr_comm o h, pr_comm (cnt s.testBit o), hq]
      have hG2 : L.testBit (pr h o) = G (tri (cnt s.testBit h) + cnt s.testBit o) := by
        rw [hG]
        show _ = adj L (sel s.testBit n (pi1 (tri (cnt s.testBit h) + cnt s.testBit o))) (sel s.testBit n (pi2 (tri (cnt s.testBit h) + cnt s.testBit o)))
        rw [← hq, i1, i2, sel_at (by omega) hb, sel_at hh hsh, adj_hi hoh]
      rw [hG2, bs_step]
      rw [hc1, ← Nat.add_assoc] at ih
      exact ih
    · have hb' : s.testBit o = false := by simpa using hb
      have hc1 : cnt s.testBit (o + 1) = cnt s.testBit o := by simp [cnt, hb']
      rw [if_pos hb']
      rw [hc1] at ih
      exact ih
theorem c_part {n L s : Nat} (hn : n < 8) (hs : s < 2 ^ 31) (hL : L < 2 ^ tri n) : fp_X2_part (nI n) (nI L) (nI s) = some (nI (part n L s)) := by
  unfold fp_X2_part
  let G : Nat → Bool := fun k => adj L (sel s.testBit n (pi1 k)) (sel s.testBit n (pi2 k))
  rw [n_0, show fp_X2_part_L8 (nI n) (nI L) (nI s) FU (nI 0) (nI 0) (nI 0) = fp_X2_part_L8 (nI n) (nI L) (nI s) FU (nI (bs G (tri (cnt s.testBit 0)))) (nI (cnt s.testBit 0)) (nI 0) from by rw [show cnt s.testBit 0 = 0 from rfl, show tri 0 = 0 from rfl, show bs G 0 = 0 from rfl]]
  refine up (P := fun h f => fp_X2_part_L8 (nI n) (nI L) (nI s) f (nI (bs G (tri (cnt s.testBit h)))) (nI (cnt s.testBit h)) (nI h) = some (nI (part n L s))) (a := 0) (n := n) ?_ ?_ FU (by omega) (FU_gt (by omega))
  · intro f
    rw [fp_X2_part_L8, stp]
    rfl
  · intro h f _ hhn ih
    rw [fp_X2_part_L8, go hhn (by omega), c_isIn hs (by omega), Option.bind_some]
    simp only [zjn, lett, bI_0, inc]
    by_cases hb : s.testBit h = true
    · rw [if_neg (by simp [hb]), part_L29 _ hn hs hL hhn hb G rfl]
      have hc1 : cnt s.testBit (h + 1) = cnt s.testBit h + 1 := by simp [cnt, hb]
      rw [hc1] at ih ⊢
      exact ih
    · have hb' : s.testBit h = false := by simpa using hb
      have hc1 : cnt s.testBit (h + 1) = cnt s.testBit h := by simp [cnt, hb']
      rw [if_pos hb']
      rw [hc1] at ih
      exact ih

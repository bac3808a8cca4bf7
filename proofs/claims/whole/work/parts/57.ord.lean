/-! ===== 57: the class' Models: the order packed, insert, spoils, keep ===== -/
def cp : List Nat → Nat
  | [] => 0
  | x :: c => x + 16 * cp c
theorem cp_lt {c : List Nat} (h : ∀ x ∈ c, x < 16) : cp c < 16 ^ c.length := by
  induction c with
  | nil => simp [cp]
  | cons x c ih =>
    rw [cp, List.length_cons, Nat.pow_succ]
    have := ih fun y hy => h y (List.mem_cons_of_mem _ hy)
    have := h x List.mem_cons_self
    omega
theorem cp_app (a b : List Nat) : cp (a ++ b) = cp a + 16 ^ a.length * cp b := by
  induction a with
  | nil => simp [cp]
  | cons x a ih =>
    rw [List.cons_append, cp, ih, cp, List.length_cons, Nat.pow_succ, Nat.mul_add, Nat.mul_comm (16 ^ a.length) 16, Nat.mul_assoc]; omega
theorem p16 (k : Nat) : (16 : Nat) ^ k = 2 ^ (4 * k) := by rw [show (16 : Nat) = 2 ^ 4 from rfl, ← Nat.pow_mul]
theorem cp_shr {c : List Nat} (h : ∀ x ∈ c, x < 16) {k : Nat} (hk : k ≤ c.length) : cp c >>> (4 * k) = cp (c.drop k) := by
  have h1 := cp_app (c.take k) (c.drop k)
  rw [List.take_append_drop, List.length_take, Nat.min_eq_left hk] at h1
  have h2 := cp_lt (c := c.take k) fun x hx => h x (List.mem_of_mem_take hx)
  rw [List.length_take, Nat.min_eq_left hk] at h2
  rw [Nat.shiftRight_eq_div_pow, ← p16, h1, Nat.add_mul_div_left _ _ (Nat.pow_pos (by decide)), Nat.div_eq_of_lt h2, Nat.zero_add]
theorem cp_low {c : List Nat} (h : ∀ x ∈ c, x < 16) {k : Nat} (hk : k ≤ c.length) : cp c &&& (1 <<< (4 * k) - 1) = cp (c.take k) := by
  have h1 := cp_app (c.take k) (c.drop k)
  rw [List.take_append_drop, List.length_take, Nat.min_eq_left hk] at h1
  have h2 := cp_lt (c := c.take k) fun x hx => h x (List.mem_of_mem_take hx)
  rw [List.length_take, Nat.min_eq_left hk] at h2
  rw [all_eq, Nat.and_two_pow_sub_one_eq_mod, ← p16, h1, Nat.add_mul_mod_self_left, Nat.mod_eq_of_lt h2]
theorem cp_15 {c : List Nat} (h : ∀ x ∈ c, x < 16) : cp c &&& 15 = c.getD 0 0 := by
  cases c with
  | nil => rfl
  | cons x c =>
    have := h x List.mem_cons_self
    rw [cp, show 15 = 2 ^ 4 - 1 from rfl, Nat.and_two_pow_sub_one_eq_mod, show (2 : Nat) ^ 4 = 16 from rfl, Nat.add_mul_mod_self_left, Nat.mod_eq_of_lt this]
    rfl
theorem cp_at {c : List Nat} (h : ∀ x ∈ c, x < 16) {k : Nat} (hk : k < c.length) : (cp c >>> (4 * k)) &&& 15 = c.getD k 0 := by
  rw [cp_shr h (by omega), cp_15 fun x hx => h x (List.mem_of_mem_drop hx)]
  simp [List.getD]
theorem cp_ins {a b : List Nat} {x : Nat} (ha : ∀ y ∈ a, y < 16) (hx : x < 16) : ((cp b <<< 4 ||| x) <<< (4 * a.length)) ||| cp a = cp (a ++ x :: b) := by
  have e1 : cp b <<< 4 ||| x = cp (x :: b) := by
    rw [← Nat.shiftLeft_add_eq_or_of_lt (by omega), Nat.shiftLeft_eq, cp]; omega
  have h2 := cp_lt ha
  rw [p16] at h2
  rw [e1, ← Nat.shiftLeft_add_eq_or_of_lt h2, Nat.shiftLeft_eq, cp_app, p16, Nat.mul_comm]; omega
theorem cp28 {c : List Nat} (h : ∀ x ∈ c, x < 16) (hl : c.length ≤ 7) : cp c < 2 ^ 28 := by
  have h1 := cp_lt h
  have : (16 : Nat) ^ c.length ≤ 16 ^ 7 := Nat.pow_le_pow_right (by decide) hl
  have h3 : (16 : Nat) ^ 7 = 2 ^ 28 := by decide
  omega
theorem cnt_eqx {g : Nat → Bool} {n x : Nat} (hx : x < n) : cnt (fun q => g q && q == x) n = (g x).toNat := by
  have e : ∀ m, cnt (fun q => g q && q == x) m = if x < m then (g x).toNat else 0 := by
    intro m
    induction m with
    | zero => rfl
    | succ m ih =>
      simp only [cnt, ih]
      by_cases hm : x = m
      · subst hm; simp
      · have hb : (m == x) = false := by simpa using fun z : m = x => hm z.symm
        rw [hb]
        by_cases h2 : x < m
        · rw [if_pos h2, if_pos (by omega)]; simp
        · rw [if_neg h2, if_neg (by omega)]; simp
  rw [e, if_pos hx]
theorem cnt_filter {g : Nat → Bool} {n : Nat} {c : List Nat} (hn : ∀ x ∈ c, x < n) (hc : ∀ x ∈ c, c.count x = 1) : cnt (fun q => g q && c.contains q) n = (c.filter g).length := by
  induction c with
  | nil => rw [cnt_none (fun i _ => by simp)]; rfl
  | cons x c ih =>
    have hxc : x ∉ c := by
      have := hc x List.mem_cons_self
      rw [List.count_cons_self] at this
      exact List.count_eq_zero.mp (by omega)
    have h1 := ih (fun y hy => hn y (List.mem_cons_of_mem _ hy)) fun y hy => by
      have := hc y (List.mem_cons_of_mem _ hy)
      rw [List.count_cons_of_ne (fun z : x = y => hxc (z ▸ hy))] at this
      exact this
    have e : cnt (fun q => g q && (x :: c).contains q) n = cnt (fun q => (g q && q == x) || (g q && c.contains q)) n := cnt_congr fun i _ => by
      rw [List.contains_cons]
      cases g i <;> simp
    rw [e, cnt_disj, cnt_eqx (hn x List.mem_cons_self), h1, List.filter_cons]
    · cases g x <;> simp; omega
    · intro i _ q1 q2
      simp only [Bool.and_eq_true, beq_iff_eq] at q1 q2
      rw [q1.2] at q2
      exact hxc (by simpa using q2.2)
theorem Gd_len {n L : Nat} {pre c : List Nat} (h : Gd n L pre c) : c.length ≤ n := by
  have := cnt_filter (g := fun _ => true) (n := n) (c := c) (fun x hx => (Gd_c h hx).2.2.1) (fun x hx => (Gd_c h hx).2.1)
  rw [List.filter_eq_self.mpr (fun _ _ => rfl)] at this
  rw [← this]; exact cnt_le _ _
theorem Gd_16 {n L : Nat} {pre c : List Nat} (hn : n < 8) (h : Gd n L pre c) : ∀ x ∈ c, x < 16 := fun x hx => by have := (Gd_c h hx).2.2.1; omega
theorem c_insert {n L p : Nat} {pre c : List Nat} (hn : n < 8) (h : Gd n L pre c) (hp : p < n) : fp_X1_insert (nI (row n L p)) (nI (bs c.contains n)) (nI (cp c)) (nI p) = some (if fitsB L p c then nI (cp (ins L p c)) else -1) := by
  unfold fp_X1_insert
  have h16 := Gd_16 hn h
  have hcl := Gd_len h
  have h28 := cp28 h16 (by omega)
  have hk := kk_le L p c
  have e1 : row n L p &&& bs c.contains n = bs (fun q => adj L p q && c.contains q) n := by
    apply Nat.eq_of_testBit_eq
    intro i
    unfold row
    rw [Nat.testBit_and, bs_tb, bs_tb, bs_tb]
    cases decide (i < n) <;> simp
  have e2 : pc (row n L p &&& bs c.contains n) = kk L p c := by
    rw [e1, pc_bs _ (by omega), cnt_filter (fun x hx => (Gd_c h hx).2.2.1) (fun x hx => (Gd_c h hx).2.1)]
    rfl
  have hlt : row n L p &&& bs c.contains n < 2 ^ 21 := Nat.lt_of_le_of_lt Nat.and_le_left (row21 hn)
  rw [n_and, c_bitCount hlt, Option.bind_some, e2]
  have key : (c.take 0).all (fun q => adj L p q) = true → fp_X1_insert_L11 (lett (nI (cp c) &&& (1 <<< (4 * nI (kk L p c) &&& 31) - 1)) fun v5_3 => lett (nI (cp c) >>> (4 * nI (kk L p c) &&& 31)) fun v6_4 => some ((((v6_4 <<< (4 &&& 31)) ||| nI p) <<< (4 * nI (kk L p c) &&& 31)) ||| v5_3)) (nI (row n L p)) (nI (cp c)) (nI p) (nI (kk L p c)) FU (nI 0) = some (if fitsB L p c then nI (cp (ins L p c)) else -1) := by
    refine up (P := fun i f => (c.take i).all (fun q => adj L p q) = true → fp_X1_insert_L11 (lett (nI (cp c) &&& (1 <<< (4 * nI (kk L p c) &&& 31) - 1)) fun v5_3 => lett (nI (cp c) >>> (4 * nI (kk L p c) &&& 31)) fun v6_4 => some ((((v6_4 <<< (4 &&& 31)) ||| nI p) <<< (4 * nI (kk L p c) &&& 31)) ||| v5_3)) (nI (row n L p)) (nI (cp c)) (nI p) (nI (kk L p c)) f (nI i) = some (if fitsB L p c then nI (cp (ins L p c)) else -1)) (a := 0) (n := kk L p c) ?_ ?_ FU (by omega) (FU_gt (by omega))
    · intro f hall
      have e4 : (4 : Int32) * nI (kk L p c) = nI (4 * kk L p c) := by rw [n_4, n_mul]
      rw [fp_X1_insert_L11, stp, lett_eq, lett_eq, e4, n_1, n_shl (by omega), n_sub (by rw [Nat.shiftLeft_eq, Nat.one_mul]; exact Nat.two_pow_pos _), n_and, n_shr (by omega) (by omega)]
      rw [show (4 : Int32) &&& 31 = nI 4 &&& 31 from by rw [n_4], n_shl (by omega), n_or, n_shl (by omega), n_or, cp_low h16 hk, cp_shr h16 hk]
      have e5 := cp_ins (a := c.take (kk L p c)) (b := c.drop (kk L p c)) (x := p) (fun y hy => h16 y (List.mem_of_mem_take hy)) (by omega)
      rw [List.length_take, Nat.min_eq_left hk] at e5
      rw [e5]
      have : fitsB L p c = true := hall
      rw [this]; rfl
    · intro i f _ hi ih hall
      have hic : i < c.length := by omega
      have hm := getD_mem hic
      have hcn := (Gd_c h hm).2.2.1
      rw [fp_X1_insert_L11, go hi (by omega), show (4 : Int32) * nI i = nI (4 * i) from by rw [n_4, n_mul], n_shr (by omega) (by omega), show (15 : Int32) = nI 15 from by decide, n_and, cp_at h16 hic, c_isIn (Nat.lt_trans (row21 hn) (by decide)) (by omega), Option.bind_some, row_tb, decide_eq_true hcn, Bool.true_and, inc]
      cases ha : adj L p (c.getD i 0) with
      | true =>
        rw [if_pos (by simp [bI])]
        exact ih (by rw [tk hic, List.all_append, hall, List.all_cons, ha]; rfl)
      | false =>
        rw [if_neg (by simp [bI])]
        have : fitsB L p c = false := by
          unfold fitsB
          rw [List.all_eq_false]
          refine ⟨c.getD i 0, ?_, by rw [ha]; decide⟩
          have : (c.take (kk L p c)).getD i 0 = c.getD i 0 := by simp [List.getD, List.getElem?_take, hi]
          rw [← this]
          exact getD_mem (by rw [List.length_take]; omega)
        rw [this]; rfl
  rw [n_0]
  exact key rfl
/-- the row of letters so far -/
def RP (m : Nat) (pre : List Nat) (M : zM) : Prop := ∀ i, i < pre.length → zI M (m + 3) i = nI (pre.getD i 0)
theorem c_spoils {n m p : Nat} {pre : List Nat} {M : zM} (hn : n < 8) (hm : zMo m) (hC : zC M) (hl : zI M m 4 = nI (2 * n)) (hp : p < n) (hpre : pre.length < 14) (h7 : ∀ x ∈ pre, x < 7) (hR : RP m pre M) : fp_X1_spoils m (nI pre.length) (nI p) M = some (bI (spB pre p (2 * n))) := by
  unfold fp_X1_spoils
  rw [mo_ts hC hm]
  unfold spB
  by_cases h2 : 2 ≤ pre.length
  · rw [if_pos (by rw [n_2, ge_iff_le, n_le (by omega) (by omega)]; exact h2), mo_R7 hC hm, Option.bind_some, n_1, n_sub (by omega), mo_l3 hC hm (by omega), Option.bind_some, hR _ (by omega), decide_eq_true h2, Bool.true_and]
    have b1 := h7 _ (getD_mem (l := pre) (i := pre.length - 1) (by omega))
    have b2 := h7 _ (getD_mem (l := pre) (i := 1) (by omega))
    by_cases h0 : p = 0
    · rw [if_neg (by rw [h0, n_0]; exact fun q => q rfl), Option.bind_some, mo_l3 hC hm (by omega), Option.bind_some, hR 1 (by omega), zjn_eq, if_pos h0]
      by_cases q1 : pre.getD (pre.length - 1) 0 < pre.getD 1 0
      · rw [if_pos (by rw [n_lt (by omega) (by omega)]; exact q1), decide_eq_true q1, Bool.true_or]; rfl
      · rw [if_neg (by rw [n_lt (by omega) (by omega)]; exact q1), mo_g hC hm, Option.bind_some, hl, n_sub (by omega), decide_eq_false q1, Bool.false_or]
        by_cases q2 : pre.length = 2 * n - 1
        · rw [if_neg (by rw [q2]; exact fun q => q rfl), decide_eq_true q2]; rfl
        · rw [if_pos (by rw [ne_eq, n_eq (by omega) (by omega)]; exact q2), decide_eq_false q2]; rfl
    · rw [if_pos (by rw [n_0, ne_eq, n_eq (by omega) (by omega)]; exact h0), Option.bind_some, mo_l3 hC hm (by omega), Option.bind_some, hR 1 (by omega), if_neg h0]
      by_cases q1 : p < pre.getD 1 0
      · rw [if_neg (by rw [ge_iff_le, n_le (by omega) (by omega)]; omega), zjn_eq, decide_eq_true q1, Bool.true_and]
        by_cases q2 : pre.getD (pre.length - 1) 0 = 0
        · rw [if_pos (by rw [q2, n_0]), decide_eq_true q2, Bool.true_or]; rfl
        · rw [if_neg (by rw [n_0, n_eq (by omega) (by omega)]; exact q2), mo_g hC hm, Option.bind_some, hl, n_sub (by omega), decide_eq_false q2, Bool.false_or]
          by_cases q3 : pre.length = 2 * n - 1
          · rw [if_neg (by rw [q3]; exact fun q => q rfl), decide_eq_true q3]; rfl
          · rw [if_pos (by rw [ne_eq, n_eq (by omega) (by omega)]; exact q3), decide_eq_false q3]; rfl
      · rw [if_pos (by rw [ge_iff_le, n_le (by omega) (by omega)]; omega), decide_eq_false q1, Bool.false_and]; rfl
  · rw [if_neg (by rw [n_2, ge_iff_le, n_le (by omega) (by omega)]; exact h2), decide_eq_false h2, Bool.false_and]; rfl
/-! the words that are kept -/
def MW (m r : Nat) (ws : List (List Nat)) (M : zM) : Prop :=
  zR M m 1 = some r ∧ (r = m + 1 ∨ 72 ≤ r) ∧ r < zS M ∧ kd r = 101 ∧ zI M m 0 = nI ws.length ∧ (∀ i, i < ws.length → zJ M r i = jI (pw (ws.getD i []))) ∧ ws.length ≤ zL M r ∧ (zL M r = 256 ∨ zL M r = 2048 ∨ zL M r = 16384 ∨ zL M r = 80000)
/-- how often it can grow still, and by how many slots -/
def lv (x : Nat) : Nat := if x = 256 then 3 else if x = 2048 then 2 else if x = 16384 then 1 else 0
def lu (x : Nat) : Nat := if x = 256 then 98432 else if x = 2048 then 96384 else if x = 16384 then 80000 else 0
/-- what a search leaves as it was -/
def Fm (m r r' : Nat) (M M' : zM) : Prop :=
  (∀ a k, a < zS M → a ≠ m → a ≠ m + 2 → a ≠ m + 3 → zI M' a k = zI M a k) ∧ (∀ k, k ≠ 0 → zI M' m k = zI M m k) ∧ (∀ k, zI M' (m + 2) k = zI M (m + 2) k) ∧
  (∀ a k, a < zS M → a ≠ r → zJ M' a k = zJ M a k) ∧ (∀ a k, a < zS M → (a ≠ m ∨ k ≠ 1) → zR M' a k = zR M a k) ∧ (∀ a, a < zS M → zL M' a = zL M a) ∧ zS M ≤ zS M' ∧ (r' = r ∨ zS M ≤ r') ∧
  zS M' + lv (zL M' r') = zS M + lv (zL M r) ∧ zU M' + lu (zL M' r') = zU M + lu (zL M r)
theorem Fm_refl {m r : Nat} {M : zM} : Fm m r r M M := ⟨fun _ _ _ _ _ _ => rfl, fun _ _ => rfl, fun _ => rfl, fun _ _ _ _ => rfl, fun _ _ _ _ => rfl, fun _ _ => rfl, Nat.le_refl _, Or.inl rfl, rfl, rfl⟩
theorem Fm_trans {m r r' r'' : Nat} {M M' M'' : zM} (hr : r < zS M) (h : Fm m r r' M M') (h' : Fm m r' r'' M' M'') : Fm m r r'' M M'' := by
  obtain ⟨a1, a2, a3, a4, a5, a6, a7, a8, a9, a10⟩ := h
  obtain ⟨b1, b2, b3, b4, b5, b6, b7, b8, b9, b10⟩ := h'
  refine ⟨fun a k ha h1 h2 h3 => ?_, fun k hk => (b2 k hk).trans (a2 k hk), fun k => (b3 k).trans (a3 k), fun a k ha har => ?_, fun a k ha hk => ?_, fun a ha => ?_, Nat.le_trans a7 b7, ?_, b9.trans a9, b10.trans a10⟩
  · rw [b1 a k (by omega) h1 h2 h3, a1 a k ha h1 h2 h3]
  · rw [b4 a k (by omega) (by omega), a4 a k ha har]
  · rw [b5 a k (by omega) hk, a5 a k ha hk]
  · rw [b6 a (by omega), a6 a ha]
  · omega
theorem zRc_m : ∀ q ∈ zRc, q.1 < 72 ∧ ((q.1 = 23 ∨ q.1 = 28 ∨ q.1 = 33) → q.2.1 ≠ 1) := by decide +kernel
theorem zLc_lt : ∀ q ∈ zLc, q.1 < 72 := by decide +kernel
theorem Fm_C {m r r' : Nat} {M M' : zM} (hm : zMo m) (h : Fm m r r' M M') (hC : zC M) : zC M' := by
  obtain ⟨a1, a2, a3, a4, a5, a6, a7, a8, a9, a10⟩ := h
  refine ⟨Nat.le_trans hC.1 a7, fun q hq => ?_, fun q hq => ?_⟩
  · obtain ⟨h1, h2⟩ := zRc_m q hq
    have := hC.1
    rw [a5 q.1 q.2.1 (by omega) ?_]
    · exact hC.2.1 q hq
    · by_cases hk : q.2.1 = 1
      · left
        intro z
        have : q.1 = 23 ∨ q.1 = 28 ∨ q.1 = 33 := by rw [z]; exact hm
        exact h2 this hk
      · exact Or.inr hk
  · have h1 := zLc_lt q hq
    have := hC.1
    rw [a6 q.1 (by omega)]; exact hC.2.2 q hq
theorem kd_72 {a : Nat} (h : 72 ≤ a) : kd a = 101 := by
  have hl : zkl.length = 72 := by decide +kernel
  unfold kd
  simp only [List.getD]
  rw [List.getElem?_eq_none (by omega)]; rfl
theorem zlnJ {M : zM} {r : Nat} (h : r < zS M) (hk : kd r = 101) : zln M r = some (nI (zL M r)) := zln_ok h (by rw [hk]; decide) (by rw [hk]; decide) rfl
theorem MW_R {m r : Nat} {ws : List (List Nat)} {M : zM} (hC : zC M) (hm : zMo m) (h : MW m r ws M) : zgR 1 M m 1 = some r := by
  rcases hm with rfl | rfl | rfl <;> exact zgR_ok (zC_lt hC (by decide)) rfl h.1
theorem mo_lt {m : Nat} (hm : zMo m) : 23 ≤ m ∧ m ≤ 33 := by rcases hm with rfl | rfl | rfl <;> omega
theorem MW_rm {m r : Nat} {ws : List (List Nat)} {M : zM} (hm : zMo m) (h : MW m r ws M) : r ≠ m ∧ r ≠ m + 2 ∧ r ≠ m + 3 := by
  have := mo_lt hm
  have := h.2.1
  omega
/-- one more word is kept where there is room -/
theorem keep_put {m r : Nat} {ws : List (List Nat)} {w : List Nat} {M : zM} (hm : zMo m) (hC : zC M) (h : MW m r ws M) (hl : ws.length < zL M r) :
    ((ztJ M r (nI ws.length) (jI (pw w))).bind fun M10 => (zgI 1 M10 m 0).bind fun y11 => (zpI 1 M10 m 0 (y11 + 1)).bind fun M12 => some M12) = some (zsI (zsJ M r ws.length (jI (pw w))) m 0 (nI (ws.length + 1))) ∧
    MW m r (ws ++ [w]) (zsI (zsJ M r ws.length (jI (pw w))) m 0 (nI (ws.length + 1))) ∧ Fm m r r M (zsI (zsJ M r ws.length (jI (pw w))) m 0 (nI (ws.length + 1))) := by
  obtain ⟨h1, h2, h3, h4, h5, h6, h7, h8⟩ := h
  have hL : zL M r < 2 ^ 31 := by omega
  refine ⟨?_, ⟨h1, h2, h3, h4, ?_, ?_, ?_, h8⟩, ?_⟩
  · rw [ztJ_ok h3 h4 rfl hL hl, Option.bind_some, mo_g (by rw [zC_sJ]; exact hC) hm, Option.bind_some, zI_sJ, h5, inc, mo_p (by rw [zC_sJ]; exact hC) hm, Option.bind_some]
  · rw [zI_same, List.length_append]; rfl
  · intro i hi
    rw [List.length_append, List.length_singleton] at hi
    rw [zJ_sI, zJ_sJ]
    by_cases hil : i = ws.length
    · rw [if_pos ⟨rfl, hil⟩, hil]
      simp [List.getD]
    · rw [if_neg fun q => hil q.2, h6 i (by omega), getD_app_l (by omega)]
  · rw [List.length_append, List.length_singleton]; exact hl
  · refine ⟨fun a k _ hm1 _ _ => ?_, fun k hk => ?_, fun k => ?_, fun a k _ har => ?_, fun _ _ _ _ => rfl, fun _ _ => rfl, Nat.le_refl _, Or.inl rfl, rfl, rfl⟩
    · rw [zI_other _ _ (Or.inl hm1)]; rfl
    · rw [zI_other _ _ (Or.inr hk)]; rfl
    · rw [zI_other _ _ (Or.inl (by omega))]; rfl
    · rw [zJ_sI, zJ_sJ, if_neg fun q => har q.1]
def grown (x : Nat) : Nat := if x = 256 then 2048 else if x = 2048 then 16384 else 80000
theorem lv_grown {x : Nat} (h : x = 256 ∨ x = 2048 ∨ x = 16384) : lv (grown x) + 1 = lv x ∧ lu (grown x) + grown x = lu x ∧ x < grown x ∧ grown x ≤ 80000 ∧ (grown x = 256 ∨ grown x = 2048 ∨ grown x = 16384 ∨ grown x = 80000) ∧ kmin (nI x * 8) 80000 = nI (grown x) := by
  rcases h with rfl | rfl | rfl <;> decide +kernel
/-- the row of words grows -/
theorem keep_grow {m r : Nat} {ws : List (List Nat)} {M : zM} (hm : zMo m) (hC : zC M) (h : MW m r ws M) (hx : zL M r = 256 ∨ zL M r = 2048 ∨ zL M r = 16384) (hS : zS M + lv (zL M r) ≤ 600000) (hU : zU M + lu (zL M r) ≤ 7302250) :
    ∃ M', ((fp_J7_copyOf_c38d5 r (kmin (nI (zL M r) * 8) 80000) M).bind fun p20 => zpp p20 fun (y18 : Nat) (M19 : zM) => (zpR 1 M19 m 1 y18).bind fun M21 => some M21) = some M' ∧ MW m (zS M) ws M' ∧ Fm m r (zS M) M M' ∧ zL M' (zS M) = grown (zL M r) ∧ ∀ k, zI M' (m + 3) k = zI M (m + 3) k := by
  obtain ⟨h1, h2, h3, h4, h5, h6, h7, h8⟩ := h
  obtain ⟨g1, g2, g3, g4, g5, g6⟩ := lv_grown hx
  obtain ⟨m1, m2⟩ := mo_lt hm
  have h72 := hC.1
  rw [g6]
  unfold fp_J7_copyOf_c38d5
  have hk := kd_72 h72
  obtain ⟨N, hN⟩ : ∃ N, N = znew M (grown (zL M r)) (grown (zL M r)) := ⟨_, rfl⟩
  have eN : zna 101 M (nI (grown (zL M r))) = some (zS M, N) := by
    unfold zna
    rw [n_clamp (by omega), if_pos ⟨hk, by rw [n_lt0 (by omega)]; exact id, by omega, by omega, by omega⟩, hN]
  have S1 : zS N = zS M + 1 := by rw [hN]; rfl
  have U1 : zU N = zU M + grown (zL M r) := by rw [hN]; rfl
  have L1 : ∀ a, zL N a = if a = zS M then grown (zL M r) else zL M a := fun a => by rw [hN]; rfl
  have I1 : ∀ a k, a < zS M → zI N a k = zI M a k := fun a k ha => by
    rw [hN]
    show (if a = zS M then 0 else M.1 a k) = _
    rw [if_neg (by omega)]; rfl
  have J1 : ∀ a k, a < zS M → zJ N a k = zJ M a k := fun a k ha => by
    rw [hN]
    show (if a = zS M then 0 else M.2.1 a k) = _
    rw [if_neg (by omega)]; rfl
  have R1 : ∀ a k, a < zS M → zR N a k = zR M a k := fun a k ha => by
    rw [hN]
    show (if a = zS M then none else M.2.2.1 a k) = _
    rw [if_neg (by omega)]; rfl
  have Lr : zL N r = zL M r := by rw [L1, if_neg (by omega)]
  have Ls : zL N (zS M) = grown (zL M r) := by rw [L1, if_pos rfl]
  obtain ⟨Q, hQ⟩ : ∃ Q, Q = zcpJ N r 0 (zS M) 0 (zL M r) := ⟨_, rfl⟩
  have eQ : zcp 101 N r 0 (zS M) 0 (kmin (nI (zL M r)) (nI (grown (zL M r)))) = some Q := by
    unfold zcp
    rw [n_min (by omega) (by omega), Nat.min_eq_left (by omega), n_clamp (show zL M r < 2 ^ 31 by omega)]
    have c0 : (0 : Int32).toNatClampNeg = 0 := by decide
    rw [c0, if_pos ⟨⟨by omega, h4⟩, ⟨by omega, hk⟩, ⟨by decide, by decide, by rw [n_lt0 (by omega)]; exact id⟩, by omega, by omega⟩, if_pos rfl, hQ]
  have hmS : m < zS M := by omega
  have kdm : kd m = 1 := by rcases hm with rfl | rfl | rfl <;> rfl
  have eR : zpR 1 Q m 1 (zS M) = some (zsR Q m 1 (some (zS M))) := by
    unfold zpR
    rw [if_pos ⟨by rw [hQ]; show m < zS N; omega, kdm⟩]
  refine ⟨zsR Q m 1 (some (zS M)), ?_, ⟨?_, Or.inr h72, ?_, hk, ?_, ?_, ?_, ?_⟩, ⟨?_, ?_, ?_, ?_, ?_, ?_, ?_, Or.inr (Nat.le_refl _), ?_, ?_⟩, ?_, ?_⟩
  · rw [zlnJ h3 h4, Option.bind_some, if_pos (by rw [ne_eq, n_eq (by omega) (by omega)]; omega), eN, Option.bind_some]
    unfold zpp
    dsimp only
    rw [zlnJ (show r < zS N by omega) h4, Option.bind_some, Lr, eQ, Option.bind_some, Option.bind_some]
    dsimp only
    rw [eR, Option.bind_some]
  · show (if m = m ∧ 1 = 1 then _ else _) = _
    rw [if_pos ⟨rfl, rfl⟩]
  · rw [hQ]; show zS M < zS N; omega
  · rw [hQ]; show zI N m 0 = _; rw [I1 m 0 hmS, h5]
  · intro i hi
    rw [hQ]
    show (if zS M = zS M then va_cpy (N.2.1 r) (N.2.1 (zS M)) 0 0 (zL M r) i else _) = _
    rw [if_pos rfl]
    unfold va_cpy
    rw [if_pos (by omega), Nat.zero_add, Nat.sub_zero]
    show zJ N r i = _
    rw [J1 r i h3, h6 i hi]
  · rw [hQ]; show _ ≤ zL N (zS M); omega
  · rw [hQ]; show zL N (zS M) = 256 ∨ zL N (zS M) = 2048 ∨ zL N (zS M) = 16384 ∨ zL N (zS M) = 80000; rw [Ls]; exact g5
  · intro a k ha _ _ _; rw [hQ]; show zI N a k = _; exact I1 a k ha
  · intro k _; rw [hQ]; show zI N m k = _; exact I1 m k hmS
  · intro k; rw [hQ]; show zI N (m + 2) k = _; exact I1 (m + 2) k (by omega)
  · intro a k ha _
    rw [hQ]
    show (if a = zS M then _ else N.2.1 a k) = _
    rw [if_neg (by omega)]; exact J1 a k ha
  · intro a k ha hk2
    show (if a = m ∧ k = 1 then _ else Q.2.2.1 a k) = _
    rw [if_neg (fun q => hk2.elim (fun z => z q.1) (fun z => z q.2)), hQ]
    show zR N a k = _
    exact R1 a k ha
  · intro a ha; rw [hQ]; show zL N a = _; rw [L1, if_neg (by omega)]
  · rw [hQ]; show _ ≤ zS N; omega
  · rw [hQ]; show zS N + lv (zL N (zS M)) = _; rw [Ls]; omega
  · rw [hQ]; show zU N + lu (zL N (zS M)) = _; rw [Ls]; omega
  · rw [hQ]; show zL N (zS M) = _; exact Ls
  · intro k; rw [hQ]; show zI N (m + 3) k = _; exact I1 (m + 3) k (by omega)
theorem bind_k {α β : Type} (x : Option α) (k : α → Option β) : (x.bind fun y => (some y).bind k) = x.bind k := by cases x <;> rfl
theorem c_keep {m r : Nat} {ws : List (List Nat)} {w : List Nat} {M : zM} (hm : zMo m) (hC : zC M) (h : MW m r ws M) (hl : ws.length < 80000) (hS : zS M + lv (zL M r) ≤ 600000) (hU : zU M + lu (zL M r) ≤ 7302250) :
    ∃ r' M', fp_X1_keep m (jI (pw w)) M = some M' ∧ MW m r' (ws ++ [w]) M' ∧ Fm m r r' M M' ∧ ∀ k, zI M' (m + 3) k = zI M (m + 3) k := by
  unfold fp_X1_keep
  have hR := MW_R hC hm h
  have h3 := h.2.2.1
  have h4 := h.2.2.2.1
  have h5 := h.2.2.2.2.1
  have h7 := h.2.2.2.2.2.2.1
  have h8 := h.2.2.2.2.2.2.2
  have hmr := MW_rm hm h
  rw [mo_ts hC hm, mo_g hC hm, Option.bind_some, hR, Option.bind_some, zlnJ h3 h4, Option.bind_some, zjn_eq, h5]
  dsimp only
  by_cases hlt : ws.length < zL M r
  · rw [if_pos (by rw [n_lt (by omega) (by omega)]; exact hlt)]
    obtain ⟨e1, e2, e3⟩ := keep_put (w := w) hm hC h hlt
    refine ⟨r, _, ?_, e2, e3, fun k => ?_⟩
    · rw [mo_g hC hm, Option.bind_some, hR, Option.bind_some, zlnJ h3 h4, Option.bind_some, h5, go hlt (by omega), Option.bind_some]
      exact e1
    · rw [zI_other _ _ (Or.inl (by omega))]; rfl
  · have hx : zL M r = 256 ∨ zL M r = 2048 ∨ zL M r = 16384 := by omega
    rw [if_neg (by rw [n_lt (by omega) (by omega)]; exact hlt), Option.bind_some, zlnJ h3 h4, Option.bind_some, if_neg (by rw [show (80000 : Int32) = nI 80000 from by decide, ge_iff_le, n_le (by omega) (by omega)]; omega), Option.bind_some, Option.bind_some, zlnJ h3 h4, Option.bind_some]
    obtain ⟨N, n1, n2, n3, n4, n5⟩ := keep_grow hm hC h hx hS hU
    have hCN := Fm_C hm n3 hC
    obtain ⟨g1, g2, g3, g4, g5, g6⟩ := lv_grown hx
    have hlN : ws.length < zL N (zS M) := by rw [n4]; omega
    obtain ⟨e1, e2, e3⟩ := keep_put (w := w) hm hCN n2 hlN
    have hRN := MW_R hCN hm n2
    have b3 := n2.2.2.1
    have b4 := n2.2.2.2.1
    have b5 := n2.2.2.2.2.1
    refine ⟨zS M, _, ?_, e2, Fm_trans h3 n3 e3, fun k => ?_⟩
    · have split : ∀ (F : zM → Option zM), ((fp_J7_copyOf_c38d5 r (kmin (nI (zL M r) * 8) 80000) M).bind fun p20 => zpp p20 fun (y18 : Nat) (M19 : zM) => (zpR 1 M19 m 1 y18).bind fun M21 => F M21) = ((fp_J7_copyOf_c38d5 r (kmin (nI (zL M r) * 8) 80000) M).bind fun p20 => zpp p20 fun (y18 : Nat) (M19 : zM) => (zpR 1 M19 m 1 y18).bind fun M21 => some M21).bind F := fun F => by
        cases fp_J7_copyOf_c38d5 r (kmin (nI (zL M r) * 8) 80000) M with
        | none => rfl
        | some p =>
          rw [Option.bind_some, Option.bind_some]
          unfold zpp
          dsimp only
          cases zpR 1 p.2 m 1 p.1 <;> rfl
      rw [split, n1, Option.bind_some, mo_g hCN hm, Option.bind_some, hRN, Option.bind_some, zlnJ b3 b4, Option.bind_some, b5, go hlN (by rw [n4]; omega), Option.bind_some]
      exact e1
    · have := (mo_lt hm)
      have := hC.1
      rw [zI_other _ _ (Or.inl (by omega))]
      exact n5 k

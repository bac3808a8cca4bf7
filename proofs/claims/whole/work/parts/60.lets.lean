/-! ===== 60: the class' Models: letsIn, setsBeside ===== -/
/-- the stamps: none is above the latest -/
def StH (m st : Nat) (M : zM) : Prop := zI M m 9 = nI st ∧ ∀ j, j < 128 → ∃ v, v ≤ st ∧ zI M (m + 4) j = nI v
/-- those that stand an odd number of times among the last k -/
def sx (w : List Nat) (k : Nat) : Nat := px w w.length ^^^ px w (w.length - k)
theorem sx_0 (w : List Nat) : sx w 0 = 0 := by unfold sx; rw [Nat.sub_zero, Nat.xor_self]
theorem sx_s {w : List Nat} {k : Nat} (h : k < w.length) : sx w (k + 1) = sx w k ^^^ 1 <<< w.getD (w.length - (k + 1)) 0 := by
  unfold sx
  have e := px_s (l := w) (k := w.length - (k + 1)) (by omega)
  rw [show w.length - (k + 1) + 1 = w.length - k by omega] at e
  rw [e, Nat.xor_assoc, Nat.xor_assoc, Nat.xor_self, Nat.xor_zero]
theorem sx_lt {w : List Nat} {k : Nat} (h : ∀ x ∈ w, x < 7) : sx w k < 2 ^ 7 := Nat.xor_lt_two_pow (px_lt h) (px_lt h)
theorem sx_x (w : List Nat) (i j : Nat) : sx w i ^^^ sx w j = px w (w.length - i) ^^^ px w (w.length - j) := by
  unfold sx
  rw [Nat.xor_comm (px w w.length), Nat.xor_assoc, ← Nat.xor_assoc (px w w.length), Nat.xor_self, Nat.zero_xor]
theorem cpN_mem {l : List Nat} {set k : Nat} {q : Nat × Nat} : q ∈ cpN l set k ↔ q.1 < k ∧ q.1 ≤ q.2 ∧ q.2 ≤ l.length ∧ px l q.1 ^^^ px l q.2 = set := by
  induction k with
  | zero => simp [cpN]
  | succ k ih =>
    rw [cpN, List.mem_append, ih]
    unfold cpA
    rw [List.mem_map]
    constructor
    · rintro (h | ⟨b, hb, rfl⟩)
      · exact ⟨by omega, h.2⟩
      · obtain ⟨h1, h2⟩ := List.mem_filter.mp hb
        rw [Bool.and_eq_true, decide_eq_true_eq, beq_iff_eq] at h2
        have := List.mem_range.mp h1
        exact ⟨Nat.lt_succ_self _, h2.1, by omega, h2.2⟩
    · rintro ⟨h1, h2, h3, h4⟩
      by_cases hq : q.1 < k
      · exact Or.inl ⟨hq, h2, h3, h4⟩
      · have : q.1 = k := by omega
        refine Or.inr ⟨q.2, List.mem_filter.mpr ⟨List.mem_range.mpr (by omega), ?_⟩, ?_⟩
        · rw [← this, decide_eq_true h2, h4]; simp
        · rw [← this]
/-- some couple of gaps -/
def anyC (w : List Nat) (set : Nat) : Bool := decide (0 < (cpl w set).length)
theorem anyC_iff {w : List Nat} {set : Nat} : anyC w set = true ↔ ∃ a b, a ≤ b ∧ b ≤ w.length ∧ px w a ^^^ px w b = set := by
  unfold anyC cpl
  rw [decide_eq_true_eq, List.length_pos_iff_exists_mem]
  constructor
  · rintro ⟨q, hq⟩
    obtain ⟨h1, h2, h3, h4⟩ := cpN_mem.mp hq
    exact ⟨q.1, q.2, h2, h3, h4⟩
  · rintro ⟨a, b, h1, h2, h3⟩
    exact ⟨(a, b), cpN_mem.mpr ⟨by show a < _; omega, h1, h2, h3⟩⟩
theorem xor_iff (a b c : Nat) : a ^^^ b = c ↔ a ^^^ c = b := by
  constructor <;> intro h <;> rw [← h, ← Nat.xor_assoc, Nat.xor_self, Nat.zero_xor]
theorem sx_any {w : List Nat} {set k j : Nat} (hk : k ≤ w.length) (hj : j ≤ k) (h : sx w k ^^^ set = sx w j) : anyC w set = true := by
  rw [← xor_iff, sx_x] at h
  exact anyC_iff.mpr ⟨w.length - k, w.length - j, by omega, by omega, h⟩
theorem sx_none {w : List Nat} {set : Nat} (h : ∀ k j, k ≤ w.length → j ≤ k → sx w k ^^^ set ≠ sx w j) : anyC w set = false := by
  cases hb : anyC w set with
  | false => rfl
  | true =>
    obtain ⟨a, b, h1, h2, h3⟩ := anyC_iff.mp hb
    refine absurd ?_ (h (w.length - a) (w.length - b) (by omega) (by omega))
    rw [← xor_iff, sx_x, show w.length - (w.length - a) = a by omega, show w.length - (w.length - b) = b by omega]
    exact h3
abbrev atM (m : Nat) : Nat → Prop := fun a => a = m ∨ a = m + 4
theorem MW_frame {m r : Nat} {ws : List (List Nat)} {M M' : zM} (h : MW m r ws M) (h2 : M'.2 = M.2) (h0 : zI M' m 0 = zI M m 0) : MW m r ws M' := by
  obtain ⟨q1, q2, q3, q4, q5, q6, q7, q8⟩ := h
  have e1 : zR M' = zR M := congrArg (fun x => x.2.1) h2
  have e2 : zS M' = zS M := congrArg (fun x => x.2.2.2.1) h2
  have e3 : zJ M' = zJ M := congrArg (fun x => x.1) h2
  have e4 : zL M' = zL M := congrArg (fun x => x.2.2.1) h2
  exact ⟨by rw [e1]; exact q1, q2, by rw [e2]; exact q3, q4, by rw [h0]; exact q5, by rw [e3]; exact q6, by rw [e4]; exact q7, by rw [e4]; exact q8⟩
theorem n_127 {a : Nat} (h : a < 2 ^ 7) : nI a &&& 127 = nI a := by
  rw [show (127 : Int32) = nI (2 ^ 7 - 1) from by decide, n_and, Nat.and_two_pow_sub_one_eq_mod, Nat.mod_eq_of_lt h]
theorem c_letsIn {m r i n st set : Nat} {ws : List (List Nat)} {w : List Nat} {M : zM} (hm : zMo m) (hC : zC M) (h : MW m r ws M) (hi : i < ws.length) (hw : ws.getD i [] = w) (hl : zI M m 4 = nI (2 * n)) (hn : n < 8) (hlen : w.length = 2 * n) (h7 : ∀ x ∈ w, x < 7) (hset : set < 2 ^ 7) (hst : StH m st M) (hst2 : st + 1 < 2 ^ 31) :
    ∃ M', fp_X1_letsIn m (nI i) (nI set) M = some (bI (anyC w set), M') ∧ Fc (atM m) M M' ∧ (∀ k, k ≠ 9 → zI M' m k = zI M m k) ∧ StH m (st + 1) M' := by
  unfold fp_X1_letsIn
  have h16 : ∀ x ∈ w, x < 16 := fun x hx => by have := h7 x hx; omega
  rw [mo_ts hC hm, c_wordAt hm hC h hi, Option.bind_some, mo_g hC hm, Option.bind_some, hst.1, mo_p hC hm, Option.bind_some, inc, hw]
  have key : ∀ d k M1 f, k + d = w.length → d < f → Fc (atM m) M M1 → (∀ k, k ≠ 9 → zI M1 m k = zI M m k) → zI M1 m 9 = nI (st + 1) → (∀ j, j < 128 → (∃ v, v ≤ st ∧ zI M1 (m + 4) j = nI v ∧ ∀ q, q < k → sx w q ≠ j) ∨ (zI M1 (m + 4) j = nI (st + 1) ∧ ∃ q, q < k ∧ sx w q = j)) → (∀ a b, a < k → b ≤ a → sx w a ^^^ set ≠ sx w b) →
      ∃ M', fp_X1_letsIn_L22 m (nI set) (f + 1) (jI (pw (w.take (w.length - k)))) (nI (sx w k)) (nI k) M1 = some (bI (anyC w set), M') ∧ Fc (atM m) M M' ∧ (∀ k, k ≠ 9 → zI M' m k = zI M m k) ∧ StH m (st + 1) M' := by
    intro d
    induction d with
    | zero =>
      intro k M1 f h1 h2 h3 h4 h5 h6 h8
      have hk : k = w.length := by omega
      have hC1 := Fc_C h3 hC
      have hsx := sx_lt (w := w) (k := k) h7
      have hxs : sx w k ^^^ set < 2 ^ 7 := Nat.xor_lt_two_pow hsx hset
      rw [fp_X1_letsIn_L22, mo_g hC1 hm, Option.bind_some, h4 4 (by decide), hl, gt_go (by omega) (by omega), mo_R8 hC1 hm, Option.bind_some, mo_g hC1 hm, Option.bind_some, h5, n_127 hsx, mo_t4 hC1 hm (by omega), Option.bind_some, mo_R8 (by exact hC1) hm, Option.bind_some, n_xor, n_127 hxs, mo_l4 (by exact hC1) hm (by omega), Option.bind_some, mo_g (by exact hC1) hm, Option.bind_some]
      obtain ⟨M2, hM2⟩ : ∃ M2, M2 = zsI M1 (m + 4) (sx w k) (nI (st + 1)) := ⟨_, rfl⟩
      rw [← hM2]
      have f9 : zI M2 m 9 = nI (st + 1) := by rw [hM2, zI_other _ _ (Or.inl (by omega)), h5]
      have fr : Fc (atM m) M M2 := by rw [hM2]; exact Fc_trans h3 (Fc_sI (Or.inr rfl))
      have f4 : ∀ k, k ≠ 9 → zI M2 m k = zI M m k := fun k hk => by rw [hM2, zI_other _ _ (Or.inl (by omega)), h4 k hk]
      have fj : ∀ j, j < 128 → ∃ v, v ≤ st + 1 ∧ zI M2 (m + 4) j = nI v := fun j hj => by
        rw [hM2]
        by_cases hjs : j = sx w k
        · exact ⟨st + 1, Nat.le_refl _, by rw [hjs, zI_same]⟩
        · rw [zI_other _ _ (Or.inr hjs)]
          rcases h6 j hj with ⟨v, hv, e, _⟩ | ⟨e, _⟩
          · exact ⟨v, by omega, e⟩
          · exact ⟨st + 1, Nat.le_refl _, e⟩
      rw [f9]
      have val : (zI M2 (m + 4) (sx w k ^^^ set) = nI (st + 1) ∧ anyC w set = true) ∨ (zI M2 (m + 4) (sx w k ^^^ set) ≠ nI (st + 1) ∧ ∀ b, b ≤ k → sx w k ^^^ set ≠ sx w b) := by
        by_cases hjs : sx w k ^^^ set = sx w k
        · exact Or.inl ⟨by rw [hjs, hM2, zI_same], sx_any (by omega) (Nat.le_refl _) hjs⟩
        · have e : zI M2 (m + 4) (sx w k ^^^ set) = zI M1 (m + 4) (sx w k ^^^ set) := by rw [hM2, zI_other _ _ (Or.inr hjs)]
          rcases h6 _ (show sx w k ^^^ set < 128 by omega) with ⟨v, hv, e2, hq⟩ | ⟨e2, q, hq, e3⟩
          · refine Or.inr ⟨by rw [e, e2, ne_eq, n_eq (by omega) (by omega)]; omega, fun b hb => ?_⟩
            by_cases hbk : b = k
            · rw [hbk]; exact hjs
            · exact fun z => hq b (by omega) z.symm
          · exact Or.inl ⟨by rw [e, e2], sx_any (by omega) (by omega) e3.symm⟩
      rcases val with ⟨v1, v2⟩ | ⟨v1, v2⟩
      · rw [v1, if_neg (fun q => q rfl), v2]
        exact ⟨M2, rfl, fr, f4, f9, fj⟩
      · rw [if_pos v1, lett_eq, lett_eq]
        obtain ⟨g, rfl⟩ : ∃ g, f = g + 1 := ⟨f - 1, by omega⟩
        have hC2 := Fc_C fr hC
        rw [fp_X1_letsIn_L22, mo_g hC2 hm, Option.bind_some, f4 4 (by decide), hl, inc, ← hlen, hk, gt_stp (by omega)]
        have : anyC w set = false := sx_none fun a b ha hb => by
          by_cases hak : a = k
          · rw [hak]; exact v2 b (by omega)
          · exact h8 a b (by omega) hb
        rw [this]
        exact ⟨M2, rfl, fr, f4, f9, fj⟩
    | succ d ih =>
      intro k M1 f h1 h2 h3 h4 h5 h6 h8
      obtain ⟨f, rfl⟩ : ∃ g, f = g + 1 := ⟨f - 1, by omega⟩
      have hk : k < w.length := by omega
      have hC1 := Fc_C h3 hC
      have hsx := sx_lt (w := w) (k := k) h7
      have hxs : sx w k ^^^ set < 2 ^ 7 := Nat.xor_lt_two_pow hsx hset
      rw [fp_X1_letsIn_L22, mo_g hC1 hm, Option.bind_some, h4 4 (by decide), hl, gt_go (by omega) (by omega), mo_R8 hC1 hm, Option.bind_some, mo_g hC1 hm, Option.bind_some, h5, n_127 hsx, mo_t4 hC1 hm (by omega), Option.bind_some, mo_R8 (by exact hC1) hm, Option.bind_some, n_xor, n_127 hxs, mo_l4 (by exact hC1) hm (by omega), Option.bind_some, mo_g (by exact hC1) hm, Option.bind_some]
      obtain ⟨M2, hM2⟩ : ∃ M2, M2 = zsI M1 (m + 4) (sx w k) (nI (st + 1)) := ⟨_, rfl⟩
      rw [← hM2]
      have f9 : zI M2 m 9 = nI (st + 1) := by rw [hM2, zI_other _ _ (Or.inl (by omega)), h5]
      have fr : Fc (atM m) M M2 := by rw [hM2]; exact Fc_trans h3 (Fc_sI (Or.inr rfl))
      have f4 : ∀ k, k ≠ 9 → zI M2 m k = zI M m k := fun k hk => by rw [hM2, zI_other _ _ (Or.inl (by omega)), h4 k hk]
      have fj : ∀ j, j < 128 → ∃ v, v ≤ st + 1 ∧ zI M2 (m + 4) j = nI v := fun j hj => by
        rw [hM2]
        by_cases hjs : j = sx w k
        · exact ⟨st + 1, Nat.le_refl _, by rw [hjs, zI_same]⟩
        · rw [zI_other _ _ (Or.inr hjs)]
          rcases h6 j hj with ⟨v, hv, e, _⟩ | ⟨e, _⟩
          · exact ⟨v, by omega, e⟩
          · exact ⟨st + 1, Nat.le_refl _, e⟩
      rw [f9]
      have val : (zI M2 (m + 4) (sx w k ^^^ set) = nI (st + 1) ∧ anyC w set = true) ∨ (zI M2 (m + 4) (sx w k ^^^ set) ≠ nI (st + 1) ∧ ∀ b, b ≤ k → sx w k ^^^ set ≠ sx w b) := by
        by_cases hjs : sx w k ^^^ set = sx w k
        · exact Or.inl ⟨by rw [hjs, hM2, zI_same], sx_any (by omega) (Nat.le_refl _) hjs⟩
        · have e : zI M2 (m + 4) (sx w k ^^^ set) = zI M1 (m + 4) (sx w k ^^^ set) := by rw [hM2, zI_other _ _ (Or.inr hjs)]
          rcases h6 _ (show sx w k ^^^ set < 128 by omega) with ⟨v, hv, e2, hq⟩ | ⟨e2, q, hq, e3⟩
          · refine Or.inr ⟨by rw [e, e2, ne_eq, n_eq (by omega) (by omega)]; omega, fun b hb => ?_⟩
            by_cases hbk : b = k
            · rw [hbk]; exact hjs
            · exact fun z => hq b (by omega) z.symm
          · exact Or.inl ⟨by rw [e, e2], sx_any (by omega) (by omega) e3.symm⟩
      rcases val with ⟨v1, v2⟩ | ⟨v1, v2⟩
      · rw [v1, if_neg (fun q => q rfl), v2]
        exact ⟨M2, rfl, fr, f4, f9, fj⟩
      · rw [if_pos v1, lett_eq, lett_eq]
        have hx := h16 _ (getD_mem (l := w) (i := w.length - (k + 1)) (by omega))
        have hx7 := h7 _ (getD_mem (l := w) (i := w.length - (k + 1)) (by omega))
        have et := take_last (w := w) (k := w.length - (k + 1)) (by omega)
        rw [show w.length - (k + 1) + 1 = w.length - k by omega] at et
        have hpw : pw (w.take (w.length - k)) < 2 ^ 63 := pw14 (fun z hz => h16 z (List.mem_of_mem_take hz)) (by rw [List.length_take]; omega)
        obtain ⟨l1, l2⟩ := pw_last (a := w.take (w.length - (k + 1))) hx
        rw [j_15, j_sh4 hpw, et, l1, l2, n_1, n_shl (by omega), n_xor, ← sx_s hk, n_add]
        refine ih (k + 1) M2 f (by omega) (by omega) fr f4 f9 (fun j hj => ?_) (fun a b ha hb => ?_)
        · by_cases hjs : j = sx w k
          · exact Or.inr ⟨by rw [hjs, hM2, zI_same], k, Nat.lt_succ_self _, hjs.symm⟩
          · rw [hM2, zI_other _ _ (Or.inr hjs)]
            rcases h6 j hj with ⟨v, hv, e, hq⟩ | ⟨e, q, hq, e2⟩
            · refine Or.inl ⟨v, hv, e, fun q hqk => ?_⟩
              by_cases hqk2 : q = k
              · rw [hqk2]; exact fun z => hjs z.symm
              · exact hq q (by omega)
            · exact Or.inr ⟨e, q, by omega, e2⟩
        · by_cases hak : a = k
          · rw [hak] at hb ⊢; exact v2 b hb
          · exact h8 a b (by omega) hb
  have := key w.length 0 (zsI M m 9 (nI (st + 1))) 999999999 (by omega) (by omega) (Fc_sI (Or.inl rfl)) (fun k hk => zI_other _ _ (Or.inr hk)) (zI_same _ _ _ _) (fun j hj => by
    obtain ⟨v, hv, e⟩ := hst.2 j hj
    exact Or.inl ⟨v, hv, by rw [zI_other _ _ (Or.inl (by omega))]; exact e, fun q hq => by omega⟩) (fun a b ha => by omega)
  rw [Nat.sub_zero, List.take_length, sx_0] at this
  exact this
/-! side by side -/
/-- of two neighbours: whether they are these two -/
def prB (a b x y : Nat) : Bool := (x == a && y == b) || (x == b && y == a)
theorem prB_bits : ∀ a, a < 7 → ∀ b, b < 7 → a ≠ b → ∀ x, x < 7 → ∀ y, y < 7 → ((1 <<< x ||| 1 <<< y == 1 <<< a ||| 1 <<< b) = prB a b x y) := by decide +kernel
/-- two points stand side by side somewhere, round and round -/
def besB (w : List Nat) (a b : Nat) : Bool := (List.range w.length).any fun k => prB a b (w.getD k 0) (w.getD (if k + 1 < w.length then k + 1 else 0) 0)
theorem besB_iff {w : List Nat} {a b : Nat} : besB w a b = true ↔ ∃ k, k < w.length ∧ prB a b (w.getD k 0) (w.getD (if k + 1 < w.length then k + 1 else 0) 0) = true := by
  unfold besB
  rw [List.any_eq_true]
  exact ⟨fun ⟨k, h1, h2⟩ => ⟨k, List.mem_range.mp h1, h2⟩, fun ⟨k, h1, h2⟩ => ⟨k, List.mem_range.mpr h1, h2⟩⟩
theorem prB_comm (a b x y : Nat) : prB a b x y = prB a b y x := by
  unfold prB
  cases (x == a) <;> cases (y == b) <;> cases (x == b) <;> cases (y == a) <;> rfl
theorem or_lt7 {x y : Nat} (hx : x < 7) (hy : y < 7) : 1 <<< x ||| 1 <<< y < 2 ^ 7 := Nat.or_lt_two_pow (set_lt hx) (set_lt hy)
theorem prB_n {a b x y : Nat} (ha : a < 7) (hb : b < 7) (hab : a ≠ b) (hx : x < 7) (hy : y < 7) : (nI (1 <<< x ||| 1 <<< y) ≠ nI (1 <<< a ||| 1 <<< b)) = (prB a b x y = false) := by
  have h1 := or_lt7 hx hy
  have h2 := or_lt7 ha hb
  rw [ne_eq, n_eq (by omega) (by omega), ← prB_bits a ha b hb hab x hx y hy]
  simp
theorem c_setsBeside {m r i n a b : Nat} {ws : List (List Nat)} {w : List Nat} {M : zM} (hm : zMo m) (hC : zC M) (h : MW m r ws M) (hi : i < ws.length) (hw : ws.getD i [] = w) (hl : zI M m 4 = nI (2 * n)) (hn : n < 8) (hn0 : 0 < n) (hlen : w.length = 2 * n) (h7 : ∀ x ∈ w, x < 7) (ha : a < 7) (hb : b < 7) (hab : a ≠ b) :
    fp_X1_setsBeside m (nI i) (nI a) (nI b) M = some (bI (besB w a b)) := by
  unfold fp_X1_setsBeside
  have h16 : ∀ x ∈ w, x < 16 := fun x hx => by have := h7 x hx; omega
  have hpw : ∀ k, k ≤ w.length → pw (w.take k) < 2 ^ 63 := fun k hk => pw14 (fun z hz => h16 z (List.mem_of_mem_take hz)) (by rw [List.length_take]; omega)
  have hpl := fun k (hk : k < w.length) => pw_last (a := w.take k) (h16 _ (getD_mem hk))
  have hlast : pw w &&& 15 = w.getD (w.length - 1) 0 := by
    have := (hpl (w.length - 1) (by omega)).1
    rw [← take_last (by omega), show w.length - 1 + 1 = w.length by omega, List.take_length] at this
    exact this
  have g7 : ∀ k, k < w.length → w.getD k 0 < 7 := fun k hk => h7 _ (getD_mem hk)
  have gl := g7 (w.length - 1) (by omega)
  rw [mo_ts hC hm, c_wordAt hm hC h hi, Option.bind_some, lett_eq, lett_eq, hw, j_15, hlast, n_1, n_shl (by omega), n_shl (by omega), n_shl (by omega), n_or]
  have key : ∀ d k f, k + d = w.length → 1 ≤ k → d < f → (∀ j, w.length - k ≤ j → j < w.length - 1 → prB a b (w.getD j 0) (w.getD (j + 1) 0) = false) →
      fp_X1_setsBeside_L34 (fun v8_7 => if (v8_7 ||| nI (1 <<< w.getD (w.length - 1) 0)) ≠ nI (1 <<< a ||| 1 <<< b) then some 0 else some (nI 1)) m (nI (1 <<< a ||| 1 <<< b)) (nI (1 <<< w.getD (w.length - 1) 0)) M f (jI (pw (w.take (w.length - k + 1)))) (nI (1 <<< w.getD (w.length - k) 0)) (nI k) = some (bI (besB w a b)) := by
    intro d
    induction d with
    | zero =>
      intro k f h1 h2 h3 h4
      obtain ⟨f, rfl⟩ : ∃ g, f = g + 1 := ⟨f - 1, by omega⟩
      have hk : k = w.length := by omega
      rw [fp_X1_setsBeside_L34, mo_g hC hm, Option.bind_some, hl, ← hlen, hk, stp, Nat.sub_self, n_or]
      have := prB_n ha hb hab (g7 0 (by omega)) (g7 (w.length - 1) (by omega))
      cases hp : prB a b (w.getD 0 0) (w.getD (w.length - 1) 0) with
      | true =>
        rw [if_neg (by rw [this, hp]; decide)]
        have : besB w a b = true := besB_iff.mpr ⟨w.length - 1, by omega, by rw [if_neg (by omega), prB_comm]; exact hp⟩
        rw [this]; rfl
      | false =>
        rw [if_pos (by rw [this, hp])]
        have : besB w a b = false := by
          cases hq : besB w a b with
          | false => rfl
          | true =>
            obtain ⟨j, hj, e⟩ := besB_iff.mp hq
            by_cases hjl : j + 1 < w.length
            · rw [if_pos hjl, h4 j (by omega) (by omega)] at e; cases e
            · have : j = w.length - 1 := by omega
              rw [if_neg hjl, this, prB_comm, hp] at e; cases e
        rw [this]; rfl
    | succ d ih =>
      intro k f h1 h2 h3 h4
      obtain ⟨f, rfl⟩ : ∃ g, f = g + 1 := ⟨f - 1, by omega⟩
      have hk : k < w.length := by omega
      have e1 := hpl (w.length - k) (by omega)
      have e2 := hpl (w.length - (k + 1)) (by omega)
      rw [← take_last (by omega)] at e1 e2
      have b1 := g7 (w.length - k) (by omega)
      have b2 := g7 (w.length - (k + 1)) (by omega)
      rw [fp_X1_setsBeside_L34, mo_g hC hm, Option.bind_some, hl, ← hlen, go hk (by omega), lett_eq, j_sh4 (hpw _ (by omega)), e1.2, lett_eq, j_15]
      have e3 : w.length - (k + 1) + 1 = w.length - k := by omega
      rw [e3] at e2
      rw [e2.1, n_1, n_shl (by omega), n_or]
      have := prB_n ha hb hab b1 b2
      cases hp : prB a b (w.getD (w.length - k) 0) (w.getD (w.length - (k + 1)) 0) with
      | true =>
        rw [if_neg (by rw [this, hp]; decide)]
        have : besB w a b = true := besB_iff.mpr ⟨w.length - (k + 1), by omega, by rw [if_pos (by omega), prB_comm, e3]; exact hp⟩
        rw [this]; rfl
      | false =>
        rw [if_pos (by rw [this, hp]), n_add]
        have := ih (k + 1) f (by omega) (by omega) (by omega) (fun j hj1 hj2 => by
          by_cases hj : j = w.length - (k + 1)
          · rw [hj, e3, prB_comm]; exact hp
          · exact h4 j (by omega) hj2)
        rw [e3] at this
        exact this
  have := key (w.length - 1) 1 FU (by omega) (Nat.le_refl _) (FU_gt (by omega)) (fun j h1 h2 => by omega)
  rw [show w.length - 1 + 1 = w.length by omega, List.take_length] at this
  exact this

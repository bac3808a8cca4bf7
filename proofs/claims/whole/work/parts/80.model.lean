/-! ===== 80: the reference: its hold on the state, the small ones ===== -/
/-- all but some ints of some cells is as it was -/
def Fz (P : Nat → Nat → Prop) (M M' : zM) : Prop := M'.2 = M.2 ∧ ∀ a k, ¬ P a k → zI M' a k = zI M a k
theorem Fz_refl {P : Nat → Nat → Prop} {M : zM} : Fz P M M := ⟨rfl, fun _ _ _ => rfl⟩
theorem Fz_trans {P : Nat → Nat → Prop} {M M' M'' : zM} (h : Fz P M M') (h' : Fz P M' M'') : Fz P M M'' := ⟨h'.1.trans h.1, fun a k q => (h'.2 a k q).trans (h.2 a k q)⟩
theorem Fz_mono {P Q : Nat → Nat → Prop} {M M' : zM} (h : Fz P M M') (hs : ∀ a k, P a k → Q a k) : Fz Q M M' := ⟨h.1, fun a k q => h.2 a k fun z => q (hs a k z)⟩
theorem Fz_sI {P : Nat → Nat → Prop} {M : zM} {a k : Nat} {v : Int32} (h : P a k) : Fz P M (zsI M a k v) := ⟨rfl, fun b j q => zI_other _ _ (by
  by_cases z : b = a
  · by_cases w : j = k
    · rw [z, w] at q; exact absurd h q
    · exact Or.inr w
  · exact Or.inl z)⟩
theorem zC_2 {M M' : zM} (h : M'.2 = M.2) (hc : zC M) : zC M' := by
  have h1 : zS M' = zS M := congrArg (fun x => x.2.2.2.1) h
  have h2 : zR M' = zR M := congrArg (fun x => x.2.1) h
  have h3 : zL M' = zL M := congrArg (fun x => x.2.2.1) h
  unfold zC at hc ⊢
  rw [h1, h2, h3]; exact hc
theorem Fz_C {P : Nat → Nat → Prop} {M M' : zM} (h : Fz P M M') (hc : zC M) : zC M' := zC_2 h.1 hc
/-- what is the reference's own -/
abbrev atR : Nat → Prop := fun a => 46 ≤ a ∧ a < 72
theorem Fz_c {P : Nat → Nat → Prop} {M M' : zM} (h : Fz P M M') (hp : ∀ a k, P a k → atR a) : Fc atR M M' := ⟨h.1, fun a ha => funext fun k => h.2 a k fun z => ha (hp a k z)⟩
theorem Fc_z {S : Nat → Prop} {P : Nat → Nat → Prop} {M M' : zM} (h : Fc S M M') (hp : ∀ a k, S a → P a k) : Fz P M M' := ⟨h.1, fun a k q => Fc_I h (fun z => q (hp a k z)) k⟩
/-- the points and their rows -/
def NrH (n L : Nat) (M : zM) : Prop := zI M 46 0 = nI n ∧ ∀ p, p < n → zI M 47 p = nI (row n L p)
/-- a network laid in a row of ints -/
def NtH (a b : Nat) (q : Nat × Nat) (M : zM) : Prop := zI M a b = nI q.1 ∧ ∀ p, p < 7 → zI M a (b + 1 + p) = nI (if p < q.1 then row q.1 q.2 p else 0)
/-- a byte as it is kept -/
def sgb (x : Nat) : Int32 := vp_nar .byte (nI x)
def imR (k : Nat) (q : Option (Nat × Nat)) (M : zM) : Prop := match q with | none => zI M 56 k = 0 | some q => zI M 56 k = 1 ∧ NtH 55 (8 * k) q M
def flR (f : Option (Int32 × Int32)) (M : zM) : Prop := match f with | none => zI M 46 11 = -1 ∧ zI M 46 12 = -1 | some q => zI M 46 12 = q.1 ∧ zI M 46 11 = q.2
def IR (S : zSt) (M : zM) : Prop := okZ S ∧ zC M ∧ NrH (sN S) (sL S) M ∧ zI M 46 1 = sS S ∧ (zI M 46 5 = nI (sT S).length ∧ ∀ i, i < (sT S).length → zI M 48 i = sgb ((sT S).getD i 0)) ∧ flR (sQ S) M ∧
  (zI M 46 20 = nI (sA S).length ∧ ∀ i, i < (sA S).length → NtH 53 (8 * i) ((sA S).getD i (0, 0)) M) ∧ ∀ k, k < 3 → imR k (sI S k) M
/-- what is no state of it -/
abbrev scR : Nat → Nat → Prop := fun a k => (a = 46 ∧ k ≠ 0 ∧ k ≠ 1 ∧ k ≠ 5 ∧ k ≠ 11 ∧ k ≠ 12 ∧ k ≠ 20) ∨ (49 ≤ a ∧ a ≤ 52) ∨ a = 54 ∨ (57 ≤ a ∧ a < 72)
theorem NtH_z {a b : Nat} {q : Nat × Nat} {P : Nat → Nat → Prop} {M M' : zM} (h : NtH a b q M) (hf : Fz P M M') (hp : ∀ k, ¬ P a k) : NtH a b q M' :=
  ⟨(hf.2 a _ (hp _)).trans h.1, fun p hp2 => (hf.2 a _ (hp _)).trans (h.2 p hp2)⟩
theorem NrH_z {n L : Nat} {P : Nat → Nat → Prop} {M M' : zM} (h : NrH n L M) (hf : Fz P M M') (h1 : ¬ P 46 0) (h2 : ∀ k, ¬ P 47 k) : NrH n L M' := ⟨(hf.2 _ _ h1).trans h.1, fun p hp => (hf.2 _ _ (h2 _)).trans (h.2 p hp)⟩
theorem imR_z {k : Nat} {q : Option (Nat × Nat)} {P : Nat → Nat → Prop} {M M' : zM} (h : imR k q M) (hf : Fz P M M') (h1 : ∀ k, ¬ P 56 k) (h2 : ∀ k, ¬ P 55 k) : imR k q M' := by
  cases q with
  | none => exact (hf.2 _ _ (h1 _)).trans h
  | some q => exact ⟨(hf.2 _ _ (h1 _)).trans h.1, NtH_z h.2 hf h2⟩
theorem flR_z {f : Option (Int32 × Int32)} {P : Nat → Nat → Prop} {M M' : zM} (h : flR f M) (hf : Fz P M M') (h1 : ¬ P 46 11) (h2 : ¬ P 46 12) : flR f M' := by
  cases f with
  | none => exact ⟨(hf.2 _ _ h1).trans h.1, (hf.2 _ _ h2).trans h.2⟩
  | some q => exact ⟨(hf.2 _ _ h2).trans h.1, (hf.2 _ _ h1).trans h.2⟩
theorem IR_z {S : zSt} {M M' : zM} (h : IR S M) (hf : Fz scR M M') : IR S M' := by
  obtain ⟨h1, h2, h3, h4, h5, h6, h7, h8⟩ := h
  have e : ∀ k, (k = 0 ∨ k = 1 ∨ k = 5 ∨ k = 11 ∨ k = 12 ∨ k = 20) → ¬ scR 46 k := fun k hk q => by omega
  have f : ∀ a, (a = 47 ∨ a = 48 ∨ a = 53 ∨ a = 55 ∨ a = 56) → ∀ k, ¬ scR a k := fun a ha k q => by omega
  exact ⟨h1, Fz_C hf h2, NrH_z h3 hf (e 0 (by decide)) (f 47 (by decide)), (hf.2 _ _ (e 1 (by decide))).trans h4, ⟨(hf.2 _ _ (e 5 (by decide))).trans h5.1, fun i hi => (hf.2 _ _ (f 48 (by decide) i)).trans (h5.2 i hi)⟩, flR_z h6 hf (e 11 (by decide)) (e 12 (by decide)), ⟨(hf.2 _ _ (e 20 (by decide))).trans h7.1, fun i hi => NtH_z (h7.2 i hi) hf (f 53 (by decide))⟩, fun k hk => imR_z (h8 k hk) hf (f 56 (by decide)) (f 55 (by decide))⟩
theorem scR_c {M M' : zM} (hf : Fz scR M M') : Fc atR M M' := Fz_c hf fun a k q => by show 46 ≤ a ∧ a < 72; omega
theorem IR_C {S : zSt} {M : zM} (h : IR S M) : zC M := h.2.1
theorem IR_n {S : zSt} {M : zM} (h : IR S M) : zI M 46 0 = nI (sN S) ∧ sN S < 8 := ⟨h.2.2.1.1, h.1.1.1⟩
theorem IR_L {S : zSt} {M : zM} (h : IR S M) : sL S < 2 ^ tri (sN S) := h.1.1.2
theorem IR_N {S : zSt} {M : zM} (h : IR S M) : NrH (sN S) (sL S) M := h.2.2.1
/-- what a call comes to -/
def RM {α : Type} (q : α × zSt) (o : Option (α × zM)) (M : zM) : Prop := ∃ M', o = some (q.1, M') ∧ IR q.2 M' ∧ Fc atR M M'
theorem IR_st {S : zSt} {M : zM} {k : Int32} (h : IR S M) : IR (stS S k) (zsI M 46 1 k) := by
  obtain ⟨h1, h2, h3, h4, h5, h6, h7, h8⟩ := h
  have hf : Fz (fun a k => a = 46 ∧ k = 1) M (zsI M 46 1 k) := Fz_sI ⟨rfl, rfl⟩
  exact ⟨h1, h2, NrH_z h3 hf (by omega) (fun k => by omega), zI_same _ _ _ _, ⟨(hf.2 _ _ (by omega)).trans h5.1, fun i hi => (hf.2 _ _ (by omega)).trans (h5.2 i hi)⟩, flR_z h6 hf (by omega) (by omega), ⟨(hf.2 _ _ (by omega)).trans h7.1, fun i hi => NtH_z (h7.2 i hi) hf (fun k => by omega)⟩, fun k hk => imR_z (h8 k hk) hf (fun k => by omega) (fun k => by omega)⟩
theorem Fc_1 {M : zM} {a k : Nat} {v : Int32} (h : atR a) : Fc atR M (zsI M a k v) := Fc_sI h
theorem y_gives {M : zM} (hC : zC M) (v : Int32) : fp_X11_gives 46 v M = some (v, zsI M 46 1 0) := by
  unfold fp_X11_gives
  rw [ts_46 hC, pI_46 hC, Option.bind_some]
theorem y_refuse {M : zM} (hC : zC M) (k : Int32) : fp_X11_refuse 46 k M = some (-1, zsI M 46 1 k) := by
  unfold fp_X11_refuse
  rw [ts_46 hC, pI_46 hC, Option.bind_some]
theorem y_gv {S : zSt} {M M1 : zM} {v : Int32} (h : IR S M1) (hf : Fc atR M M1) : RM (gv S v) ((fp_X11_gives 46 v M1).bind fun p => zpp p fun (y : Int32) (M2 : zM) => some (y, M2)) M := by
  rw [y_gives (IR_C h)]
  exact ⟨_, rfl, IR_st h, Fc_trans hf (Fc_1 (by decide))⟩
theorem y_rf {S : zSt} {M M1 : zM} {k : Int32} (h : IR S M1) (hf : Fc atR M M1) : RM (rf S k) ((fp_X11_refuse 46 k M1).bind fun p => zpp p fun (y : Int32) (M2 : zM) => some (y, M2)) M := by
  rw [y_refuse (IR_C h)]
  exact ⟨_, rfl, IR_st h, Fc_trans hf (Fc_1 (by decide))⟩
theorem y_status {S : zSt} {M : zM} (h : IR S M) : fp_X11_status 46 M = some (sS S) := by
  unfold fp_X11_status
  rw [ts_46 (IR_C h), gI_46 (IR_C h), Option.bind_some, h.2.2.2.1]
/-! bits -/
theorem y_has {s p : Nat} (hs : s < 2 ^ 31) (hp : p < 32) : fp_X11_has (nI s) (nI p) = some (bI (s.testBit p)) := by
  unfold fp_X11_has
  rw [tst hs hp]
  cases s.testBit p <;> rfl
theorem cnt_half (s n : Nat) : cnt s.testBit (n + 1) = s % 2 + cnt (s / 2).testBit n := by
  induction n with
  | zero =>
    show 0 + (s.testBit 0).toNat = _
    rw [Nat.testBit_zero]
    by_cases h : s % 2 = 1
    · simp [h, cnt]
    · have : s % 2 = 0 := by omega
      simp [this, cnt]
  | succ n ih =>
    rw [cnt, ih, cnt, Nat.testBit_succ]; omega
theorem and_pred (s : Nat) (h : 0 < s) : s &&& (s - 1) = if s % 2 = 1 then s - 1 else 2 * ((s / 2) &&& (s / 2 - 1)) := by
  apply Nat.eq_of_testBit_eq
  intro i
  by_cases h1 : s % 2 = 1
  · rw [if_pos h1, Nat.testBit_and]
    cases i with
    | zero => rw [Nat.testBit_zero, Nat.testBit_zero, show (s - 1) % 2 = 0 by omega]; simp
    | succ i => rw [Nat.testBit_succ, Nat.testBit_succ, show (s - 1) / 2 = s / 2 by omega, Bool.and_self]
  · rw [if_neg h1, Nat.testBit_and]
    cases i with
    | zero => rw [Nat.testBit_zero, Nat.testBit_zero, Nat.testBit_zero, Nat.mul_mod_right, show s % 2 = 0 by omega]; simp
    | succ i => rw [Nat.testBit_succ, Nat.testBit_succ, Nat.testBit_succ, show (s - 1) / 2 = s / 2 - 1 by omega, Nat.mul_div_cancel_left _ (by decide), Nat.testBit_and]
theorem cnt_pred : ∀ n s, s < 2 ^ n → 0 < s → cnt (s &&& (s - 1)).testBit n + 1 = cnt s.testBit n := by
  intro n
  induction n with
  | zero => intro s h h0; omega
  | succ n ih =>
    intro s h h0
    rw [Nat.pow_succ] at h
    rw [cnt_half, cnt_half s, and_pred s h0]
    by_cases h1 : s % 2 = 1
    · rw [if_pos h1, show (s - 1) % 2 = 0 by omega, show (s - 1) / 2 = s / 2 by omega]; omega
    · rw [if_neg h1, Nat.mul_mod_right, Nat.mul_div_cancel_left _ (by decide)]
      have := ih (s / 2) (by omega) (by omega)
      omega
theorem y_bits {s : Nat} (hs : s < 2 ^ 21) : fp_X11_bits (nI s) = some (nI (pc s)) := by
  unfold fp_X11_bits
  have key : ∀ d k s f, cnt s.testBit 21 = d → d < f → s < 2 ^ 21 → fp_X11_bits_L4 f (nI k) (nI s) = some (nI (k + d)) := by
    intro d
    induction d with
    | zero =>
      intro k s f h1 h2 h3
      obtain ⟨f, rfl⟩ : ∃ g, f = g + 1 := ⟨f - 1, by omega⟩
      have : s = 0 := by
        by_cases h0 : 0 < s
        · have := cnt_pred 21 s h3 h0; omega
        · omega
      subst this
      rw [fp_X11_bits_L4, if_pos n_0.symm]; rfl
    | succ d ih =>
      intro k s f h1 h2 h3
      obtain ⟨f, rfl⟩ : ∃ g, f = g + 1 := ⟨f - 1, by omega⟩
      have h0 : 0 < s := by
        by_cases h0 : 0 < s
        · exact h0
        · have : s = 0 := by omega
          subst this
          rw [cnt_none (fun i _ => Nat.zero_testBit i)] at h1; omega
      have hp := cnt_pred 21 s h3 h0
      rw [fp_X11_bits_L4, if_neg (by rw [n_0, n_eq (by omega) (by omega)]; omega), lett_eq, n_1, n_sub h0, n_and, n_add]
      have := ih (k + 1) (s &&& (s - 1)) f (by omega) (by omega) (Nat.lt_of_le_of_lt Nat.and_le_left h3)
      rw [this, show k + 1 + d = k + (d + 1) by omega]
  rw [n_0]
  have := key (pc s) 0 s FU rfl (FU_gt (by have := pc_le21 s; omega)) hs
  rw [Nat.zero_add] at this
  exact this
def lowB (s : Nat) : Nat := ((List.range 7).find? s.testBit).getD 7
theorem y_lowest : ∀ s, s < 128 → s ≠ 0 → fp_X11_lowest (nI s) = some (nI (lowB s)) := by decide +kernel
theorem low_lst : ∀ s, s < 128 → ∀ p, p < 7 → s.testBit p = true → ((lowB s == p) = (s &&& (1 <<< p - 1) == 0)) ∧ lowB s ≤ p := by decide +kernel
theorem n_not {x s : Nat} : nI x &&& (nI s ^^^ (-1)) = nI (outs x s) := n_ext fun i hi => by
  rw [show (-1 : Int32) = nI (2 ^ 32 - 1) from by decide, n_xor, n_and, n_b, Nat.testBit_and, Nat.testBit_xor, Nat.testBit_two_pow_sub_one, outs_tb, decide_eq_true hi]
  simp
theorem y_all {n L : Nat} {M : zM} (hC : zC M) (hn : n < 8) (h : NrH n L M) : fp_X11_all 46 M = some (nI (1 <<< n - 1)) := by
  unfold fp_X11_all
  rw [ts_46 hC, gI_46 hC, Option.bind_some, h.1, n_1, n_shl (by omega), n_sub (by rw [Nat.shiftLeft_eq, Nat.one_mul]; exact Nat.two_pow_pos _)]
theorem y_isPoint {S : zSt} {M : zM} (h : IR S M) (v : Int32) : fp_X11_isPoint 46 v M = some (bI (asN v (sN S)).isSome) := by
  unfold fp_X11_isPoint
  obtain ⟨g1, g2⟩ := IR_n h
  rw [ts_46 (IR_C h)]
  cases hv : asN v (sN S) with
  | some p =>
    obtain ⟨rfl, hp, hb⟩ := asN_some hv
    rw [if_neg (by rw [n_lt0 hb]; exact id), gI_46 (IR_C h), Option.bind_some, g1, go hp (by omega)]; rfl
  | none =>
    rcases asN_none hv with h0 | ⟨j, rfl, hj, hb⟩
    · rw [if_pos h0]; rfl
    · rw [if_neg (by rw [n_lt0 hb]; exact id), gI_46 (IR_C h), Option.bind_some, g1, if_pos (by rw [ge_iff_le, n_le (by omega) hb]; exact hj)]; rfl
theorem outs_all {x n : Nat} : (outs x (1 <<< n - 1) = 0) = (x < 2 ^ n) := by
  apply propext
  constructor
  · intro h
    refine lt_of_tb fun i hi => ?_
    have := congrArg (fun y => y.testBit i) h
    simp only [outs_tb, Nat.zero_testBit, all_tb] at this
    have h2 : ¬ i < n := by omega
    simpa [h2] using this
  · intro h
    apply Nat.eq_of_testBit_eq
    intro i
    rw [outs_tb, Nat.zero_testBit, all_tb]
    by_cases h2 : i < n
    · simp [h2]
    · rw [tb_of_lt h (by omega)]; rfl
theorem y_isSet {S : zSt} {M : zM} (h : IR S M) (v : Int32) : fp_X11_isSet 46 v M = some (bI (asN v (2 ^ sN S)).isSome) := by
  unfold fp_X11_isSet
  obtain ⟨g1, g2⟩ := IR_n h
  rw [ts_46 (IR_C h)]
  have p2 := two_pow7 g2
  cases hv : asN v (2 ^ sN S) with
  | some p =>
    obtain ⟨rfl, hp, hb⟩ := asN_some hv
    rw [if_neg (by rw [n_lt0 hb]; exact id), y_all (IR_C h) g2 (IR_N h), Option.bind_some, n_not, (show outs p (1 <<< sN S - 1) = 0 by rw [outs_all]; exact hp), if_neg (by decide)]; rfl
  | none =>
    rcases asN_none hv with h0 | ⟨j, rfl, hj, hb⟩
    · rw [if_pos h0]; rfl
    · have ho : outs j (1 <<< sN S - 1) ≠ 0 := by rw [ne_eq, outs_all]; omega
      have hl := outs_le j (1 <<< sN S - 1)
      rw [if_neg (by rw [n_lt0 hb]; exact id), y_all (IR_C h) g2 (IR_N h), Option.bind_some, n_not, if_pos (by rw [n_0, ne_eq, n_eq (by omega) (by omega)]; exact ho)]; rfl
theorem y_isFrom {v : Int32} {a b : Nat} (ha : a < 2 ^ 31) (hb : b < 2 ^ 31 - 1) : fp_X11_isFrom v (nI a) (nI b) = some (bI (match asN v (b + 1) with | none => false | some j => decide (a ≤ j))) := by
  unfold fp_X11_isFrom
  cases hv : asN v (b + 1) with
  | none =>
    rcases asN_none hv with h0 | ⟨j, rfl, hj, hb⟩
    · have : v < nI a := Int32.lt_of_lt_of_le h0 (by rw [n_0, n_le (by omega) ha]; omega)
      rw [if_pos this]; rfl
    · by_cases hja : j < a
      · rw [if_pos (by rw [n_lt hb ha]; exact hja)]; rfl
      · rw [if_neg (by rw [n_lt hb ha]; exact hja), if_pos (by rw [gt_iff_lt, n_lt (by omega) hb]; omega)]; rfl
  | some j =>
    obtain ⟨rfl, hj, hbj⟩ := asN_some hv
    dsimp only
    by_cases hja : j < a
    · rw [if_pos (by rw [n_lt hbj ha]; exact hja), decide_eq_false (by omega)]; rfl
    · rw [if_neg (by rw [n_lt hbj ha]; exact hja), if_neg (by rw [gt_iff_lt, n_lt (by omega) hbj]; omega), decide_eq_true (by omega)]; rfl

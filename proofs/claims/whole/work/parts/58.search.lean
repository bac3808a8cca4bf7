/-! ===== 58: the class' Models: the search ===== -/
def SB (n L m want : Nat) (M : zM) : Prop := zC M ∧ zI M m 2 = nI n ∧ zI M m 4 = nI (2 * n) ∧ zI M m 5 = nI want ∧ ∀ p, p < n → zI M (m + 2) p = nI (row n L p)
theorem SB_F {n L m want r r' : Nat} {M M' : zM} (hm : zMo m) (h : SB n L m want M) (hF : Fm m r r' M M') : SB n L m want M' := by
  obtain ⟨h1, h2, h3, h4, h5⟩ := h
  refine ⟨Fm_C hm hF h1, ?_, ?_, ?_, fun p hp => ?_⟩
  · rw [hF.2.1 2 (by decide), h2]
  · rw [hF.2.1 4 (by decide), h3]
  · rw [hF.2.1 5 (by decide), h4]
  · rw [hF.2.2.1 p, h5 p hp]
theorem mo_L3 {M : zM} {m : Nat} (hC : zC M) (hm : zMo m) : zL M (m + 3) = 14 := by
  rcases hm with rfl | rfl | rfl
  · exact hC.2.2 (26, 14) (by decide +kernel)
  · exact hC.2.2 (31, 14) (by decide +kernel)
  · exact hC.2.2 (36, 14) (by decide +kernel)
theorem mo_k3 {m : Nat} (hm : zMo m) : kd (m + 3) = 100 := by rcases hm with rfl | rfl | rfl <;> rfl
theorem RP_AN {M : zM} {m : Nat} {w : List Nat} (hC : zC M) (hm : zMo m) (hl : w.length ≤ 14) (h : RP m w M) : AN M (m + 3) w := by
  have := mo_lt hm
  have := hC.1
  have h3 := mo_L3 hC hm
  exact ⟨by omega, mo_k3 hm, by omega, by omega, h⟩
theorem RP_pre {m : Nat} {a b : List Nat} {M : zM} (h : RP m (a ++ b) M) : RP m a M := fun i hi => by
  have := h i (by rw [List.length_append]; omega)
  rw [gA hi] at this
  exact this
theorem RP_push {m x : Nat} {a : List Nat} {M : zM} (h : RP m a M) : RP m (a ++ [x]) (zsI M (m + 3) a.length (nI x)) := by
  intro i hi
  rw [List.length_append, List.length_singleton] at hi
  by_cases hia : i = a.length
  · rw [hia, zI_same]
    simp [List.getD]
  · rw [zI_other _ _ (Or.inr hia), h i (by omega), gA (by omega)]
theorem Fm_row {m r k : Nat} {v : Int32} {M : zM} : Fm m r r M (zsI M (m + 3) k v) :=
  ⟨fun _ _ _ _ _ h3 => zI_other _ _ (Or.inl h3), fun _ _ => zI_other _ _ (Or.inl (by omega)), fun _ => zI_other _ _ (Or.inl (by omega)), fun _ _ _ _ => rfl, fun _ _ _ _ => rfl, fun _ _ => rfl, Nat.le_refl _, Or.inl rfl, rfl, rfl⟩
theorem MW_row {m r k : Nat} {v : Int32} {ws : List (List Nat)} {M : zM} (h : MW m r ws M) : MW m r ws (zsI M (m + 3) k v) := by
  obtain ⟨h1, h2, h3, h4, h5, h6, h7, h8⟩ := h
  exact ⟨h1, h2, h3, h4, by rw [zI_other _ _ (Or.inl (by omega))]; exact h5, h6, h7, h8⟩
theorem c_isLeast {n m : Nat} {w : List Nat} {M : zM} {L : Nat} (hn : n < 8) (hn0 : 0 < n) (hm : zMo m) (hC : zC M) (hl : zI M m 4 = nI (2 * n)) (hR : RP m w M) (hV : Vw n L w) : fp_X1_isLeast m M = some (bI (lstB w)) := by
  have hlen := hV.1.1
  have hA := RP_AN hC hm (by omega) hR
  have h32 := WD_lt32 hn hV.1
  have h16 := WD16 hn hV.1
  obtain ⟨B, C, e, hB, hCC⟩ := Vw_wd hn0 hV
  have hBC : w.length = B.length + C.length + 2 := by rw [e, wd_len]
  have hp : fp_X5_placeOf (m + 3) (nI w.length) 0 1 M = some (nI (B.length + 1)) := by
    have := c_place2 (a := m + 3) (p := 0) (i := 1) (A := []) (B := B) (C := C) (M := M) (by rw [List.nil_append]; rw [e] at hA; exact hA) hB (by simp) (by simp) (by rw [List.nil_append]; rw [e] at h32; exact h32)
    rw [List.nil_append] at this
    rw [e]
    have e2 : ([] : List Nat).length + 1 + B.length = B.length + 1 := by simp; omega
    rw [e2] at this
    exact this
  unfold fp_X1_isLeast
  rw [mo_ts hC hm, mo_R7 hC hm, Option.bind_some, mo_g hC hm, Option.bind_some, hl, ← hlen, hp, Option.bind_some, Option.bind_some, Option.bind_some, show (-1 : Int32) = stI false from rfl]
  have r0 := c_readsLess (s := 0) (w := false) hA (by omega) h16 (by omega)
  have r1 := c_readsLess (s := B.length + 1) (w := true) hA (by omega) h16 (by omega)
  have r2 := c_readsLess (s := B.length + 1) (w := false) hA (by omega) h16 (by omega)
  have hs : sec w = B.length + 1 := by rw [e, wd_sec hB]
  rw [show fp_X5_readsLess (m + 3) (nI w.length) 0 (stI false) M = some (bI (ltL (rdg w 0 false) w)) from r0, Option.bind_some]
  unfold lstB
  rw [hs]
  cases ltL (rdg w 0 false) w with
  | true => rw [if_pos (by simp [bI])]; rfl
  | false =>
    rw [if_neg (by simp [bI]), Option.bind_some, Option.bind_some, show fp_X5_readsLess (m + 3) (nI w.length) (nI (B.length + 1)) 1 M = some (bI (ltL (rdg w (B.length + 1) true) w)) from r1, Option.bind_some]
    cases ltL (rdg w (B.length + 1) true) w with
    | true => rw [if_pos (by simp [bI])]; rfl
    | false =>
      rw [if_neg (by simp [bI]), Option.bind_some, Option.bind_some, r2, Option.bind_some]
      cases ltL (rdg w (B.length + 1) false) w with
      | true => rw [if_pos (by simp [bI])]; rfl
      | false => rw [if_neg (by simp [bI])]; rfl
theorem c_finish {n L m r : Nat} {pre c : List Nat} {acc : List (List Nat)} {want : Nat} {M : zM} (hn : n < 8) (hn0 : 0 < n) (hm : zMo m) (hSB : SB n L m want M) (h : Gd n L pre c) (hall : ∀ p, p < n → p ∈ pre) (hp : pre ≠ []) (h0 : pre.headD 0 = 0) (hR : RP m pre M) (hW : MW m r acc M) (hl : acc.length < 80000)
    (hS : zS M + lv (zL M r) ≤ 600000) (hU : zU M + lu (zL M r) ≤ 7302250) : ∃ r' M', fp_X1_finish m (nI pre.length) (nI (cp c)) (jI (pw pre)) M = some M' ∧ RP m pre M' ∧ MW m r' (acc ++ Ex (modB n L) n pre c.length) M' ∧ Fm m r r' M M' := by
  obtain ⟨hw, hpat⟩ := Gd_full h hall
  have hV : Vw n L (pre ++ c) := ⟨hw, hpat, by rw [head_app hp]; exact h0⟩
  have hlen := hw.1
  rw [List.length_append] at hlen
  have h16 := Gd_16 hn h
  have hcl := Gd_len h
  rw [Ex_full h hall h0 hp]
  unfold fp_X1_finish
  rw [mo_ts hSB.1 hm]
  have loop : ∀ (K : Int64 → zM → Option zM) (c pre : List Nat) (M : zM) f, c.length < f → pre.length + c.length = 2 * n → c.length ≤ 7 → (∀ x ∈ c, x < 16) → SB n L m want M → RP m pre M → MW m r acc M → ∃ M1, fp_X1_finish_L9 K m f (jI (pw pre)) (nI (cp c)) (nI pre.length) M = K (jI (pw (pre ++ c))) M1 ∧ RP m (pre ++ c) M1 ∧ MW m r acc M1 ∧ Fm m r r M M1 := by
    intro K c
    induction c with
    | nil =>
      intro pre M f hf hpl _ _ hSB hR hW
      obtain ⟨f, rfl⟩ : ∃ g, f = g + 1 := ⟨f - 1, by omega⟩
      rw [List.length_nil, Nat.add_zero] at hpl
      refine ⟨M, ?_, by rw [List.append_nil]; exact hR, hW, Fm_refl⟩
      rw [fp_X1_finish_L9, mo_g hSB.1 hm, Option.bind_some, hSB.2.2.1, ← hpl, stp, List.append_nil]
    | cons x c ih =>
      intro pre M f hf hpl h7 h16 hSB hR hW
      obtain ⟨f, rfl⟩ : ∃ g, f = g + 1 := ⟨f - 1, by omega⟩
      rw [List.length_cons] at hpl h7 hf
      have hx := h16 x List.mem_cons_self
      have hc16 : ∀ y ∈ c, y < 16 := fun y hy => h16 y (List.mem_cons_of_mem _ hy)
      have h28 := cp28 (c := x :: c) h16 (by rw [List.length_cons]; exact h7)
      have e15 : nI (cp (x :: c)) &&& 15 = nI x := by
        rw [show (15 : Int32) = nI 15 from by decide, n_and, cp_15 h16]; rfl
      have e4 : nI (cp (x :: c)) >>> (4 &&& 31) = nI (cp c) := by
        rw [n_4, show (31 : Int32) = 31 from rfl, n_shr (by omega) (by omega)]
        have := cp_shr (c := x :: c) h16 (k := 1) (by rw [List.length_cons]; omega)
        rw [Nat.mul_one] at this
        rw [this]; rfl
      have hF1 : Fm m r r M (zsI M (m + 3) pre.length (nI x)) := Fm_row
      have hSB1 := SB_F hm hSB hF1
      rw [fp_X1_finish_L9, mo_g hSB.1 hm, Option.bind_some, hSB.2.2.1, go (by omega) (by omega), mo_R7 hSB.1 hm, Option.bind_some, mo_n3 hSB.1 hm, Option.bind_some, go (show pre.length < 14 by omega) (by omega), Option.bind_some, e15, mo_t3 hSB.1 hm (by omega), Option.bind_some, mo_R7 hSB1.1 hm, Option.bind_some, mo_l3 hSB1.1 hm (by omega), Option.bind_some, zI_same, lett_eq, lett_eq, e4, inc, j_put hx, ← pw_snoc]
      have hl1 : pre.length + 1 = (pre ++ [x]).length := by simp
      rw [hl1]
      obtain ⟨M1, e1, e2, e3, e5⟩ := ih (pre ++ [x]) _ f (by omega) (by rw [← hl1]; omega) (by omega) hc16 hSB1 (RP_push hR) (MW_row hW)
      rw [List.append_assoc, List.singleton_append] at e1 e2
      exact ⟨M1, e1, e2, e3, Fm_trans hW.2.2.1 hF1 e5⟩
  obtain ⟨M1, e1, e2, e3, e4⟩ := loop (fun v5_10 M11 => (fp_X1_isLeast m M11).bind fun y12 => if y12 = 0 then some M11 else (fp_X1_keep m v5_10 M11).bind fun M13 => some M13) c pre M FU (FU_gt (by omega)) hlen (by omega) h16 hSB hR hW
  have hSB1 := SB_F hm hSB e4
  rw [e1, c_isLeast hn hn0 hm hSB1.1 hSB1.2.2.1 e2 hV, Option.bind_some]
  cases hb : lstB (pre ++ c) with
  | false =>
    rw [ifF]
    exact ⟨r, M1, rfl, RP_pre e2, by simpa using e3, e4⟩
  | true =>
    rw [ifT, if_pos rfl]
    obtain ⟨b9, b10⟩ := e4.2.2.2.2.2.2.2.2
    obtain ⟨r', M', k1, k2, k3, k4⟩ := c_keep (w := pre ++ c) hm hSB1.1 e3 hl (by omega) (by omega)
    refine ⟨r', M', by rw [k1, Option.bind_some], ?_, k2, Fm_trans hW.2.2.1 e4 k3⟩
    intro i hi
    rw [k4, RP_pre e2 i hi]
theorem bs_0 {f : Nat → Bool} {n : Nat} (h : ∀ i, i < n → f i = false) : bs f n = 0 := by
  apply Nat.eq_of_testBit_eq
  intro i
  rw [bs_tb, Nat.zero_testBit]
  by_cases hi : i < n
  · simp [h i hi]
  · simp [hi]
theorem bs_n0 {f : Nat → Bool} {n i : Nat} (hi : i < n) (h : f i = true) : bs f n ≠ 0 := fun z => by
  have := bs_tb f n i
  rw [z, Nat.zero_testBit, h, decide_eq_true hi] at this
  cases this
theorem bs_bit {f : Nat → Bool} {n p : Nat} (hp : p < n) : bs f n &&& 1 <<< p = if f p then 1 <<< p else 0 := by
  apply Nat.eq_of_testBit_eq
  intro i
  rw [Nat.testBit_and, bs_tb, tb_set]
  by_cases hi : i = p
  · subst hi
    cases h : f i with
    | true => rw [if_pos rfl, tb_set]; simp [hp]
    | false => simp
  · cases h : f p with
    | true => rw [if_pos rfl, tb_set]; simp [hi]
    | false => simp [hi]
theorem cnt0_all {f : Nat → Bool} {n : Nat} (h : cnt f n = 0) : ∀ i, i < n → f i = false := by
  intro i hi
  cases hf : f i with
  | false => rfl
  | true =>
    have := cnt_lt (f := fun _ => false) (g := f) (n := n) (k := i) (fun _ _ q => by cases q) hi rfl hf
    omega
theorem wtg_f {pre : List Nat} {p : Nat} : wtg pre p = false ↔ p ∈ pre := by unfold wtg; simp
theorem bs_wtg_x {pre : List Nat} {n p : Nat} (hp : p < n) (h : p ∉ pre) : bs (wtg pre) n ^^^ 1 <<< p = bs (wtg (pre ++ [p])) n := by
  apply Nat.eq_of_testBit_eq
  intro i
  rw [Nat.testBit_xor, bs_tb, bs_tb, tb_set]
  by_cases hi : i = p
  · subst hi
    have h1 : wtg pre i = true := wtg_t.mpr h
    have h2 : wtg (pre ++ [i]) i = false := wtg_f.mpr (by simp)
    rw [h1, h2]; simp [hp]
  · have : wtg (pre ++ [p]) i = wtg pre i := by unfold wtg; simp [hi]
    rw [this]; simp [hi]
theorem bs_wtg_o {pre : List Nat} {n p : Nat} (h : p ∈ pre) : bs (wtg (pre ++ [p])) n = bs (wtg pre) n := bs_congr fun i _ => by
  unfold wtg
  by_cases hi : i = p
  · subst hi; simp [h]
  · simp [hi]
theorem bs_close {c : List Nat} {n x : Nat} (hx : x < n) (h : x ∉ c) : bs (x :: c).contains n ^^^ 1 <<< x = bs c.contains n := by
  apply Nat.eq_of_testBit_eq
  intro i
  rw [Nat.testBit_xor, bs_tb, bs_tb, tb_set, List.contains_cons]
  by_cases hi : i = x
  · subst hi; simp [hx, h]
  · have hb : (i == x) = false := by simpa using hi
    rw [hb, decide_eq_false hi, Bool.false_or, Bool.xor_false]
theorem bs_open {c : List Nat} {L n x : Nat} (hx : x < n) : bs c.contains n ||| 1 <<< x = bs (ins L x c).contains n := by
  apply Nat.eq_of_testBit_eq
  intro i
  rw [Nat.testBit_or, bs_tb, bs_tb, tb_set]
  have hm : i ∈ ins L x c ↔ i = x ∨ i ∈ c := by
    unfold ins
    rw [List.mem_append, List.mem_cons]
    have : i ∈ c ↔ i ∈ c.take (kk L x c) ∨ i ∈ c.drop (kk L x c) := by rw [← List.mem_append, List.take_append_drop]
    rw [this]
    constructor
    · rintro (h | h | h)
      · exact Or.inr (Or.inl h)
      · exact Or.inl h
      · exact Or.inr (Or.inr h)
    · rintro (h | h | h)
      · exact Or.inr (Or.inl h)
      · exact Or.inl h
      · exact Or.inr (Or.inr h)
  have hc : (ins L x c).contains i = (decide (i = x) || c.contains i) := by
    rw [Bool.eq_iff_iff]
    simp [hm]
  rw [hc]
  by_cases hi : i = x
  · subst hi; simp [hx]
  · simp [hi]
theorem take_full {α : Type} {a b : List α} {w : Nat} (h : w ≤ a.length) : (a ++ b).take w = a.take w := by
  rw [List.take_append, Nat.sub_eq_zero_of_le h, List.take_zero, List.append_nil]
theorem ExN_pre (P : List Nat → Bool) (n : Nat) (pre : List Nat) (k p d : Nat) : ∃ t, ExN P n pre k (p + d) = ExN P n pre k p ++ t := by
  induction d with
  | zero => exact ⟨[], by simp⟩
  | succ d ih =>
    obtain ⟨t, ht⟩ := ih
    exact ⟨t ++ _, by rw [← Nat.add_assoc, ExN, ht, List.append_assoc]⟩
theorem Go_of {n L p : Nat} {pre s : List Nat} (h : Vw n L ((pre ++ [p]) ++ s)) : Go n L pre (p :: s) := ⟨by have := h.1; simpa using this, by have := h.2.1; simpa using this⟩
theorem Ex_dead {n L p k : Nat} {pre : List Nat} (h : ∀ s, ¬ Go n L pre (p :: s)) : Ex (modB n L) n (pre ++ [p]) k = [] := Ex_none fun s _ _ => modB_f fun hV => absurd (Go_of hV) (h s)
theorem Ex_spoilt {n L p k : Nat} {pre : List Nat} (hn : 0 < n) (h : spB pre p (2 * n) = true) : Ex (modB n L) n (pre ++ [p]) k = [] := Ex_none fun s _ _ => modB_f fun hV => by
  rw [List.append_assoc] at hV ⊢
  exact spB_lst hn hV h
theorem c_extend {n L m want : Nat} (hn : n < 8) (hn0 : 0 < n) (hm : zMo m) (hL : L < 2 ^ tri n) (hw : want ≤ 80000) : ∀ k (pre c : List Nat) r (acc : List (List Nat)) M f, Gd n L pre c → pre.length + k = 2 * n → pre ≠ [] → pre.headD 0 = 0 → k = c.length + 2 * cnt (wtg pre) n → k < f → SB n L m want M → RP m pre M → MW m r acc M → acc.length < want →
    zS M + lv (zL M r) ≤ 600000 → zU M + lu (zL M r) ≤ 7302250 → ∃ r' M', fp_X1_extend f m (nI pre.length) (nI (bs (wtg pre) n)) (nI (bs c.contains n)) (nI (cp c)) (jI (pw pre)) M = some M' ∧ RP m pre M' ∧ MW m r' ((acc ++ Ex (modB n L) n pre k).take want) M' ∧ Fm m r r' M M' := by
  have done : ∀ k (pre c : List Nat) r (acc : List (List Nat)) M f, Gd n L pre c → pre.length + k = 2 * n → pre ≠ [] → pre.headD 0 = 0 → k = c.length + 2 * cnt (wtg pre) n → cnt (wtg pre) n = 0 → SB n L m want M → RP m pre M → MW m r acc M → acc.length < want → zS M + lv (zL M r) ≤ 600000 → zU M + lu (zL M r) ≤ 7302250 → ∃ r' M', fp_X1_extend (f + 1) m (nI pre.length) (nI (bs (wtg pre) n)) (nI (bs c.contains n)) (nI (cp c)) (jI (pw pre)) M = some M' ∧ RP m pre M' ∧ MW m r' ((acc ++ Ex (modB n L) n pre k).take want) M' ∧ Fm m r r' M M' := by
    intro k pre c r acc M f h hlen hp h0 hk hz hSB hR hW hacc hS hU
    have hall : ∀ p, p < n → p ∈ pre := fun p hpn => wtg_f.mp (cnt0_all hz p hpn)
    have hkc : k = c.length := by omega
    obtain ⟨r', M', e1, e2, e3, e4⟩ := c_finish hn hn0 hm hSB h hall hp h0 hR hW (by omega) hS hU
    rw [← hkc] at e3
    refine ⟨r', M', ?_, e2, ?_, e4⟩
    · rw [fp_X1_extend, bs_0 (cnt0_all hz), if_pos n_0.symm, e1, Option.bind_some]
    · rw [List.take_of_length_le]
      · exact e3
      · have : (Ex (modB n L) n pre k).length ≤ 1 := by
          rw [hkc, Ex_full h hall h0 hp]
          split <;> simp
        rw [List.length_append]; omega
  intro k
  induction k with
  | zero =>
    intro pre c r acc M f h hlen hp h0 hk hf hSB hR hW hacc hS hU
    obtain ⟨f, rfl⟩ : ∃ g, f = g + 1 := ⟨f - 1, by omega⟩
    exact done 0 pre c r acc M f h hlen hp h0 hk (by omega) hSB hR hW hacc hS hU
  | succ k ih =>
    intro pre c r acc M f h hlen hp h0 hk hf hSB hR hW hacc hS hU
    obtain ⟨f, rfl⟩ : ∃ g, f = g + 1 := ⟨f - 1, by omega⟩
    by_cases hz : cnt (wtg pre) n = 0
    · exact done (k + 1) pre c r acc M f h hlen hp h0 hk hz hSB hR hW hacc hS hU
    · have hwne : ∃ p, p < n ∧ wtg pre p = true := by
        apply Classical.byContradiction
        intro hno
        apply hz
        refine cnt_none fun i hi => ?_
        cases hb : wtg pre i with
        | false => rfl
        | true => exact absurd ⟨i, hi, hb⟩ hno
      obtain ⟨p0, hp0, hwp0⟩ := hwne
      have hwlt := lt128 hn (bs_lt (wtg pre) n)
      have hclt := lt128 hn (bs_lt c.contains n)
      have h16 := Gd_16 hn h
      have hcl := Gd_len h
      have h28 := cp28 h16 (by omega)
      have hpl : pre.length < 14 := by omega
      have h7 : ∀ x ∈ pre, x < 7 := fun x hx => by have := (h.1 x hx).1; omega
      rw [fp_X1_extend, if_neg (by rw [n_0, n_eq (by omega) (by omega)]; exact bs_n0 hp0 hwp0), mo_R7 hSB.1 hm, Option.bind_some, mo_n3 hSB.1 hm, Option.bind_some, if_pos (by rw [n_lt (by omega) (by omega)]; exact hpl), zjn_eq]
      -- the next one to close
      obtain ⟨nx, hnx, hnx1⟩ : ∃ nx : Int32, (if nI (bs c.contains n) ≠ 0 then nI (cp c) &&& 15 else -1) = nx ∧ ∀ p, p < n → ((nI p ≠ nx) = ¬ ∃ c', c = p :: c') := by
        refine ⟨_, rfl, fun p hpn => propext ?_⟩
        cases c with
        | nil =>
          rw [bs_0 (fun i _ => by simp), if_neg (by rw [n_0]; exact fun q => q rfl)]
          constructor
          · rintro _ ⟨c', hc'⟩; cases hc'
          · intro _; rw [ne_eq, n_neg (by omega)]; exact id
        | cons x c =>
          have hxn := (Gd_c h (List.mem_cons_self (a := x))).2.2.1
          rw [if_pos (by rw [n_0, ne_eq, n_eq (by omega) (by omega)]; exact bs_n0 hxn (by simp)), show (15 : Int32) = nI 15 from by decide, n_and, cp_15 h16]
          show (nI p ≠ nI x) ↔ _
          rw [ne_eq, n_eq (by omega) (by omega)]
          constructor
          · rintro q ⟨c', hc'⟩; exact q (List.cons.inj hc').1.symm
          · intro q z; exact q ⟨c, by rw [z]⟩
      suffices main : ∃ r' M', fp_X1_extend_L41 (fun w0 w1 w2 w3 w4 w5 Mw => fp_X1_extend f w0 w1 w2 w3 w4 w5 Mw) m (nI pre.length) (nI (bs (wtg pre) n)) (nI (bs c.contains n)) (nI (cp c)) (jI (pw pre)) nx FU 0 M = some M' ∧ RP m pre M' ∧ MW m r' ((acc ++ Ex (modB n L) n pre (k + 1)).take want) M' ∧ Fm m r r' M M' by
        by_cases hc0 : nI (bs c.contains n) ≠ 0
        · rw [if_pos hc0] at hnx ⊢
          rw [hnx]; exact main
        · rw [if_neg hc0] at hnx ⊢
          rw [hnx]; exact main
      have loop : ∀ d p r M1 g, p + d = n → d < g → SB n L m want M1 → RP m pre M1 → MW m r ((acc ++ ExN (modB n L) n pre k p).take want) M1 → zS M1 + lv (zL M1 r) ≤ 600000 → zU M1 + lu (zL M1 r) ≤ 7302250 →
          ∃ r' M', fp_X1_extend_L41 (fun w0 w1 w2 w3 w4 w5 Mw => fp_X1_extend f w0 w1 w2 w3 w4 w5 Mw) m (nI pre.length) (nI (bs (wtg pre) n)) (nI (bs c.contains n)) (nI (cp c)) (jI (pw pre)) nx g (nI p) M1 = some M' ∧ RP m pre M' ∧ MW m r' ((acc ++ ExN (modB n L) n pre k n).take want) M' ∧ Fm m r r' M1 M' := by
        intro d
        induction d with
        | zero =>
          intro p r M1 g h1 h2 hSB1 hR1 hW1 hS1 hU1
          obtain ⟨g, rfl⟩ : ∃ q, g = q + 1 := ⟨g - 1, by omega⟩
          have : p = n := by omega
          subst this
          exact ⟨r, M1, by rw [fp_X1_extend_L41, mo_g hSB1.1 hm, Option.bind_some, hSB1.2.1, stp], hR1, hW1, Fm_refl⟩
        | succ d ihd =>
          intro p r M1 g h1 h2 hSB1 hR1 hW1 hS1 hU1
          obtain ⟨g, rfl⟩ : ∃ q, g = q + 1 := ⟨g - 1, by omega⟩
          have hpn : p < n := by omega
          have hcount := hW1.2.2.2.2.1
          rw [fp_X1_extend_L41, mo_g hSB1.1 hm, Option.bind_some, hSB1.2.1, go hpn (by omega), mo_g hSB1.1 hm, Option.bind_some, hcount, mo_g hSB1.1 hm, Option.bind_some, hSB1.2.2.2.1]
          have hlenT : ((acc ++ ExN (modB n L) n pre k p).take want).length ≤ want := by rw [List.length_take]; omega
          by_cases hfull : want ≤ ((acc ++ ExN (modB n L) n pre k p).take want).length
          · rw [if_pos (by rw [ge_iff_le, n_le (by omega) (by omega)]; exact hfull)]
            refine ⟨r, M1, rfl, hR1, ?_, Fm_refl⟩
            obtain ⟨t, ht⟩ := ExN_pre (modB n L) n pre k p (d + 1)
            rw [h1] at ht
            rw [ht, ← List.append_assoc, take_full (by rw [List.length_take] at hfull; omega)]
            exact hW1
          · rw [if_neg (by rw [ge_iff_le, n_le (by omega) (by omega)]; exact hfull), lett_eq, zjn_eq, n_1, n_shl (by omega)]
            dsimp only
            have hshort : (acc ++ ExN (modB n L) n pre k p).length < want := by rw [List.length_take] at hfull; omega
            rw [List.take_of_length_le (Nat.le_of_lt hshort)] at hW1
            -- what follows when none comes of it
            have skip : Ex (modB n L) n (pre ++ [p]) k = [] → ∃ r' M', fp_X1_extend_L41 (fun w0 w1 w2 w3 w4 w5 Mw => fp_X1_extend f w0 w1 w2 w3 w4 w5 Mw) m (nI pre.length) (nI (bs (wtg pre) n)) (nI (bs c.contains n)) (nI (cp c)) (jI (pw pre)) nx g (nI p + nI 1) M1 = some M' ∧ RP m pre M' ∧ MW m r' ((acc ++ ExN (modB n L) n pre k n).take want) M' ∧ Fm m r r' M1 M' := by
              intro he
              rw [n_add]
              refine ihd (p + 1) r M1 g (by omega) (by omega) hSB1 hR1 ?_ hS1 hU1
              rw [ExN, he, List.append_nil, List.take_of_length_le (Nat.le_of_lt hshort)]
              exact hW1
            -- what follows when it is tried
            have tried : ∀ (c' : List Nat), Gd n L (pre ++ [p]) c' → k = c'.length + 2 * cnt (wtg (pre ++ [p])) n → ∃ r' M', ((fp_X1_extend f m (nI pre.length + nI 1) (nI (bs (wtg (pre ++ [p])) n)) (nI (bs c'.contains n)) (nI (cp c')) ((jI (pw pre) <<< ((4 : Int32).toInt64 &&& 63)) ||| (nI p).toInt64) (zsI M1 (m + 3) pre.length (nI p))).bind fun M16 => fp_X1_extend_L41 (fun w0 w1 w2 w3 w4 w5 Mw => fp_X1_extend f w0 w1 w2 w3 w4 w5 Mw) m (nI pre.length) (nI (bs (wtg pre) n)) (nI (bs c.contains n)) (nI (cp c)) (jI (pw pre)) nx g (nI p + nI 1) M16) = some M' ∧ RP m pre M' ∧ MW m r' ((acc ++ ExN (modB n L) n pre k n).take want) M' ∧ Fm m r r' M1 M' := by
              intro c' hg' hk'
              have hl1 : pre.length + 1 = (pre ++ [p]).length := by simp
              have hF1 : Fm m r r M1 (zsI M1 (m + 3) pre.length (nI p)) := Fm_row
              rw [n_add, n_add, hl1, j_put (by omega), ← pw_snoc]
              obtain ⟨r2, M2, e1, e2, e3, e4⟩ := ih (pre ++ [p]) c' r _ (zsI M1 (m + 3) pre.length (nI p)) f hg' (by rw [← hl1]; omega) (by simp) (by rw [head_app hp]; exact h0) hk' (by omega) (SB_F hm hSB1 hF1) (RP_push hR1) (MW_row hW1) hshort hS1 hU1
              rw [e1, Option.bind_some]
              have hF2 := Fm_trans hW1.2.2.1 hF1 e4
              obtain ⟨b9, b10⟩ := hF2.2.2.2.2.2.2.2.2
              obtain ⟨r3, M3, f1, f2, f3, f4⟩ := ihd (p + 1) r2 M2 g (by omega) (by omega) (SB_F hm hSB1 hF2) (RP_pre e2) (by rw [ExN, ← List.append_assoc]; exact e3) (by omega) (by omega)
              exact ⟨r3, M3, f1, f2, f3, Fm_trans hW1.2.2.1 hF2 f4⟩
            by_cases hnext : ∃ c', c = p :: c'
            · have hnx2 : ¬ (nI p ≠ nx) := by rw [hnx1 p hpn]; exact fun q => q hnext
              rw [if_neg hnx2, mo_R6 hSB1.1 hm, Option.bind_some, mo_l2 hSB1.1 hm (by omega), Option.bind_some, hSB1.2.2.2.2 p hpn, n_and]
              obtain ⟨c', rfl⟩ := hnext
              have hpc := Gd_c h (List.mem_cons_self (a := p))
              have hR2 := lt128 hn (row_lt n L p)
              have handlt : row n L p &&& bs (wtg pre) n < 128 := Nat.lt_of_le_of_lt Nat.and_le_left hR2
              by_cases hshut : ∀ w, w < n → w ∉ pre → adj L p w = false
              · have hand : row n L p &&& bs (wtg pre) n = 0 := by
                  apply Nat.eq_of_testBit_eq
                  intro i
                  rw [Nat.testBit_and, row_tb, bs_tb, Nat.zero_testBit]
                  by_cases hi : i < n
                  · by_cases hip : i ∈ pre
                    · rw [wtg_f.mpr hip]; simp
                    · rw [hshut i hi hip]; simp
                  · simp [hi]
                rw [hand, if_neg (by rw [n_0]; exact fun q => q rfl), c_spoils hn hm hSB1.1 hSB1.2.2.1 hpn hpl h7 hR1, Option.bind_some]
                cases hsp : spB pre p (2 * n) with
                | true =>
                  rw [if_pos (by simp [bI])]
                  exact skip (Ex_spoilt hn0 hsp)
                | false =>
                  rw [if_neg (by simp [bI]), mo_R7 hSB1.1 hm, Option.bind_some, mo_t3 hSB1.1 hm hpl, Option.bind_some]
                  have hpnc : p ∉ c' := by
                    have := hpc.2.1
                    rw [List.count_cons_self] at this
                    exact List.count_eq_zero.mp (by omega)
                  have hcl' := Gd_close h hshut
                  have ho := wtg_o (n := n) hpc.2.2.2
                  have e4 : nI (cp (p :: c')) >>> (4 &&& 31) = nI (cp c') := by
                    rw [n_4, show (31 : Int32) = 31 from rfl, n_shr (by omega) (by omega)]
                    have := cp_shr (c := p :: c') h16 (k := 1) (by rw [List.length_cons]; omega)
                    rw [Nat.mul_one] at this
                    rw [this]; rfl
                  have := tried c' hcl' (by rw [ho]; rw [List.length_cons] at hk; omega)
                  rw [bs_wtg_o hpc.2.2.2] at this
                  rw [n_xor, bs_close hpc.2.2.1 hpnc, e4]
                  exact this
              · have hand : row n L p &&& bs (wtg pre) n ≠ 0 := by
                  intro hz0
                  apply hshut
                  intro w hwn hwp
                  have := congrArg (fun x => x.testBit w) hz0
                  simp only [Nat.testBit_and, row_tb, bs_tb, Nat.zero_testBit, hwn, decide_true, Bool.true_and, wtg_t.mpr hwp, Bool.and_true] at this
                  exact this
                rw [if_pos (by rw [n_0, ne_eq, n_eq (by omega) (by omega)]; exact hand)]
                refine skip (Ex_dead fun s hs => ?_)
                exact hshut fun w hwn hwp => Gd_shut h hs hwn hwp
            · have hnx2 : nI p ≠ nx := by rw [hnx1 p hpn]; exact hnext
              rw [if_pos hnx2, n_and, bs_bit hpn]
              by_cases hpp : p ∈ pre
              · rw [wtg_f.mpr hpp, if_neg Bool.false_ne_true, if_pos n_0.symm]
                exact skip (Ex_dead fun s hs => hnext (Gd_next h hs hpp))
              · rw [wtg_t.mpr hpp, if_pos rfl, if_neg (by
                  have := set_lt31 (show p < 8 by omega)
                  rw [n_0, n_eq (by omega) (by omega)]
                  rw [Nat.shiftLeft_eq, Nat.one_mul]
                  exact Nat.ne_of_gt (Nat.two_pow_pos p)), c_spoils hn hm hSB1.1 hSB1.2.2.1 hpn hpl h7 hR1, Option.bind_some]
                cases hsp : spB pre p (2 * n) with
                | true =>
                  rw [if_pos (by simp [bI])]
                  exact skip (Ex_spoilt hn0 hsp)
                | false =>
                  rw [if_neg (by simp [bI]), mo_R6 hSB1.1 hm, Option.bind_some, mo_l2 hSB1.1 hm (by omega), Option.bind_some, hSB1.2.2.2.2 p hpn, c_insert hn h hpn, Option.bind_some]
                  cases hfit : fitsB L p c with
                  | false =>
                    rw [if_neg Bool.false_ne_true, if_pos (by rw [n_1])]
                    refine skip (Ex_dead fun s hs => ?_)
                    have := Gd_fits h hs hpn hpp
                    rw [hfit] at this; cases this
                  | true =>
                    have hop := Gd_open h hpn hpp hfit
                    have hi28 := cp28 (Gd_16 hn hop) (by have := Gd_len hop; omega)
                    rw [if_pos rfl, if_neg (by rw [← n_1, n_neg (by omega)]; exact id), mo_R7 hSB1.1 hm, Option.bind_some, mo_t3 hSB1.1 hm hpl, Option.bind_some]
                    have hws := wtg_s hpn hpp
                    have := tried (ins L p c) hop (by rw [ins_len]; omega)
                    rw [n_xor, n_or, bs_wtg_x hpn hpp, bs_open (L := L) hpn]
                    exact this
      rw [Ex_s]
      rw [n_0]
      exact loop n 0 r M FU (by omega) (FU_gt (by omega)) hSB hR (by
        rw [ExN, List.append_nil, List.take_of_length_le (Nat.le_of_lt hacc)]
        exact hW) hS hU

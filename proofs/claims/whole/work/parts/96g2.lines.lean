/-! ===== 96g2: the reference: points, couples, turns, the sign ===== -/
def PaH (T : List Nat) (n L e : Nat) (M : zM) : Prop := TxR T M ∧ NrH n L M ∧ TkH T e M ∧ zI M 46 10 = 0 ∧ zI M 46 11 = -1
def FaR (q : Nat × Nat) (M : zM) : Prop := zI M 46 10 = nI q.1 ∧ zI M 46 11 = nI q.2 ∧ q.1 ≠ 0 ∧ q.1 < 10
/-- what a reading may change -/
abbrev atL9 : Nat → Nat → Prop := fun a k => a = 47 ∨ (50 ≤ a ∧ a ≤ 52) ∨ (a = 46 ∧ (k = 0 ∨ (7 ≤ k ∧ k ≤ 11)))
def RdR (T : List Nat) (r : Rs) (b : Int32 × zM) : Prop := match r with
  | .inl q => b.1 = 0 ∧ FaR q b.2
  | .inr q => b.1 = 1 ∧ PaH T q.1 q.2.1 q.2.2 b.2
theorem zb_01 : zb 0 = some 0 ∧ zb 1 = some 1 := by decide
theorem y_fails {s r k : Nat} {M : zM} (hC : zC M) (h1 : zI M 46 10 = 0) (h2 : zI M 46 7 = nI r) (h3 : zI M 46 8 = nI s) (hr : r < 10) : fp_X11_fails 46 (nI k) M = some (0, zsI (zsI M 46 10 (nI (if r = 1 then 1 else k))) 46 11 (nI s)) := by
  unfold fp_X11_fails
  have e8 : ∀ v, zI (zsI M 46 10 v) 46 8 = nI s := fun v => by rw [zI_other _ _ (Or.inr (by decide))]; exact h3
  rw [ts_46 hC, gI_46 hC 10, Option.bind_some, h1, if_neg (show ¬ (0 : Int32) ≠ 0 by decide), gI_46 hC 7, Option.bind_some, h2, zjn_eq]
  by_cases c : r = 1
  · rw [if_neg (show ¬ nI r ≠ 1 by rw [c]; decide), if_pos c]
    dsimp only
    rw [pI_46 hC, Option.bind_some, gI_46 (by exact hC) 8, Option.bind_some, e8, pI_46 (by exact hC), Option.bind_some, n_1]
  · rw [if_pos (show nI r ≠ 1 by rw [n_1, ne_eq, n_eq (by omega) (by omega)]; exact c), if_neg c]
    dsimp only
    rw [pI_46 hC, Option.bind_some, gI_46 (by exact hC) 8, Option.bind_some, e8, pI_46 (by exact hC), Option.bind_some]
theorem rkd_eq {k j : Nat} (hk : k ≤ 4) (hj : j ≤ 4) : (nI (rkd k) = nI (rkd j)) = (k = j) := by
  have h1 : rkd k < 10 := by unfold rkd; split; omega; split <;> omega
  have h2 : rkd j < 10 := by unfold rkd; split; omega; split <;> omega
  rw [n_eq (by omega) (by omega)]
  unfold rkd
  apply propext
  constructor
  · intro h
    split at h <;> split at h <;> (try split at h) <;> (try split at h) <;> omega
  · intro h; rw [h]
theorem rkd_lt {k : Nat} (hk : k ≤ 4) : rkd k < 10 := by unfold rkd; split; omega; split <;> omega
/-- a reading that fails here -/
theorem y_fail {T : List Nat} {n L e k : Nat} {M : zM} (h : PaH T n L e M) (he : e ≤ T.length) (hk : k ≠ 0) (hk2 : k < 10) (h4 : (tokS T e).1 = 4 → k = 1 ∨ k = 2) : ∃ M', fp_X11_fails 46 (nI k) M = some (0, M') ∧ FaR (if (tokS T e).1 = 4 then 1 else k, (tokS T e).2.1) M' ∧ Fz atL9 M M' := by
  obtain ⟨b1, b2, b3, b4, b5⟩ := tok_le he
  have hf := y_fails (k := k) h.1.1 h.2.2.2.1 h.2.2.1.1 h.2.2.1.2.1 (rkd_lt b5)
  refine ⟨_, hf, ⟨?_, zI_same _ _ _ _, ?_, ?_⟩, Fz_trans (Fz_sI (by omega)) (Fz_sI (by omega))⟩
  · rw [zI_other _ _ (Or.inr (by decide)), zI_same]
    congr 1
    by_cases c : (tokS T e).1 = 4
    · rw [if_pos c, c, if_pos (show rkd 4 = 1 from rfl)]
    · rw [if_neg c, if_neg (by unfold rkd; split; omega; omega)]
  · dsimp only; split <;> omega
  · dsimp only; split <;> omega
theorem exS_k {T : List Nat} {e k : Nat} (hk : k ≤ 3) (h : (tokS T e).1 = k) : exS T e k = none := by
  unfold exS
  rw [if_neg (by omega), if_neg (fun z => z h)]
theorem exS_n {T : List Nat} {e k : Nat} (h : (tokS T e).1 ≠ k) : exS T e k = some (if (tokS T e).1 = 4 then 1 else 2, (tokS T e).2.1) := by
  unfold exS
  by_cases c : (tokS T e).1 = 4
  · rw [if_pos c, if_pos c]
  · rw [if_neg c, if_pos h, if_neg c]
theorem y_kd {T : List Nat} {n L e k : Nat} {M : zM} (h : PaH T n L e M) (he : e ≤ T.length) (hk : k ≤ 3) : (zI M 46 7 = nI (rkd k)) = ((tokS T e).1 = k) := by
  obtain ⟨b1, b2, b3, b4, b5⟩ := tok_le he
  rw [h.2.2.1.1, rkd_eq b5 (by omega)]
theorem PaH_N {T : List Nat} {n L n' L' e : Nat} {M M' : zM} (h : PaH T n L e M) (hf : Fz atN M M') (hN : NrH n' L' M') : PaH T n' L' e M' :=
  ⟨TxR_z h.1 hf (by omega) (fun k => by omega), hN, TkH_z h.2.2.1 hf (by omega) (by omega) (by omega), (hf.2 _ _ (by omega)).trans h.2.2.2.1, (hf.2 _ _ (by omega)).trans h.2.2.2.2⟩
theorem atO_L {M M' : zM} (h : Fz atO9 M M') : Fz atL9 M M' := Fz_mono h fun a k q => by omega
theorem atN_L {M M' : zM} (h : Fz atN M M') : Fz atL9 M M' := Fz_mono h fun a k q => by omega
theorem at47_N {M M' : zM} (h : Fz at47 M M') : Fz atN M M' := Fz_mono h fun a k q => Or.inl q
theorem y_next {T : List Nat} {n L e : Nat} {M : zM} (h : PaH T n L e M) (hT : ∀ x ∈ T, x < 256) (he : e ≤ T.length) (hk : (tokS T e).1 ≠ 4) : ∃ M', fp_X11_ahead 46 M = some M' ∧ PaH T n L (tokS T e).2.2 M' ∧ Fz atL9 M M' := by
  obtain ⟨b1, b2, b3, b4, b5⟩ := tok_le he
  obtain ⟨M', e1, e2, e3⟩ := y_ahead h.1 hT (h.2.2.1.2.2 hk) b3
  exact ⟨M', e1, ⟨TxR_z h.1 e3 (by omega) (fun k => by omega), NrH_z h.2.1 e3 (by omega) (fun k => by omega), e2, (e3.2 _ _ (by omega)).trans h.2.2.2.1, (e3.2 _ _ (by omega)).trans h.2.2.2.2⟩, atO_L e3⟩
theorem y_digit {T : List Nat} {n L e : Nat} {M : zM} (h : PaH T n L e M) (hT : ∀ x ∈ T, x < 256) (he : e ≤ T.length) (hk : (tokS T e).1 = 2) : fp_X11_digit 46 M = some (nI (T.getD (tokS T e).2.1 0 - 48)) := by
  unfold fp_X11_digit
  have hC := h.1.1
  have h200 := h.1.2.2.1
  obtain ⟨d1, d2, d3⟩ := dgt_of hk
  rw [ts_46 hC, gI_46 hC 8, Option.bind_some, h.2.2.1.2.1, y_byteAt h.1 hT (by omega), Option.bind_some, if_pos d1, n_48, n_sub d2]
theorem y_cl {T : List Nat} {n L e : Nat} {M : zM} (h : PaH T n L e M) (hT : ∀ x ∈ T, x < 256) (he : e ≤ T.length) : ∃ b, fp_X11_closes 46 M = some b ∧ RdR T (clS T n L e) b ∧ Fz atL9 M b.2 := by
  unfold fp_X11_closes clS
  have hC := h.1.1
  have hk := y_kd (k := 3) h he (by decide)
  have h4 : (4 : Int32) = nI (rkd 3) := by decide
  rw [ts_46 hC, gI_46 hC 7, Option.bind_some]
  by_cases c : (tokS T e).1 = 3
  · obtain ⟨M', e1, e2, e3⟩ := y_next h hT he (by omega)
    rw [exS_k (by decide) c, if_pos (show zI M 46 7 = 4 by rw [h4, hk]; exact c), e1, Option.bind_some]
    exact ⟨_, rfl, ⟨rfl, e2⟩, e3⟩
  · obtain ⟨M', e1, e2, e3⟩ := y_fail (k := 2) h he (by decide) (by decide) (fun _ => Or.inr rfl)
    rw [exS_n c, if_neg (show ¬ zI M 46 7 = 4 by rw [h4, hk]; exact c), n_2, e1, Option.bind_some, zpp_mk, zb_01.1, Option.bind_some]
    exact ⟨_, rfl, ⟨rfl, e2⟩, e3⟩
theorem y_pt {T : List Nat} {n L e : Nat} {v : Int32} {M : zM} (h : PaH T n L e M) (hT : ∀ x ∈ T, x < 256) (he : e ≤ T.length) (hn : n < 8) :
    (∀ q, ptS T n e = .inl q → ∃ M', fp_X11_pointHere 46 v M = some (-1, M') ∧ FaR q M' ∧ Fz atL9 M M') ∧
    (∀ q, ptS T n e = .inr q → q.2 = (tokS T e).2.2 ∧ (tokS T e).1 = 2 ∧ q.1 < n ∧ (nI q.1 ≠ v → fp_X11_pointHere 46 v M = some (nI q.1, M)) ∧ (nI q.1 = v → ∃ M', fp_X11_pointHere 46 v M = some (-1, M') ∧ FaR (4, (tokS T e).2.1) M' ∧ Fz atL9 M M')) := by
  unfold fp_X11_pointHere ptS
  have hC := h.1.1
  have hk := y_kd (k := 2) h he (by decide)
  have h3 : (3 : Int32) = nI (rkd 2) := by decide
  rw [ts_46 hC, gI_46 hC 7, Option.bind_some]
  by_cases c : (tokS T e).1 = 2
  · obtain ⟨d1, d2, d3⟩ := dgt_of c
    obtain ⟨x, hx⟩ : ∃ x, x = T.getD (tokS T e).2.1 0 - 48 := ⟨_, rfl⟩
    have hx10 : x < 10 := by omega
    rw [exS_k (by decide) c, if_pos (show zI M 46 7 = 3 by rw [h3, hk]; exact c), y_digit h hT he c, Option.bind_some, gI_46 hC 0, Option.bind_some, h.2.1.1, ← hx]
    dsimp only
    by_cases c2 : x < n
    · rw [if_pos c2, if_pos (show nI x < nI n by rw [n_lt (by omega) (by omega)]; exact c2), Option.bind_some]
      refine ⟨fun q z => (by cases z), fun q z => ?_⟩
      cases z
      refine ⟨rfl, c, c2, fun hv => ?_, fun hv => ?_⟩
      · rw [if_pos (show nI x ≠ v from hv), Option.bind_some]
      · obtain ⟨M', e1, e2, e3⟩ := y_fail (k := 4) h he (by decide) (by decide) (fun z => by omega)
        rw [if_neg (by omega)] at e2
        rw [if_neg (show ¬ nI x ≠ v from fun z => z hv), n_4, e1, Option.bind_some, zpp_mk]
        exact ⟨_, rfl, e2, e3⟩
    · obtain ⟨M', e1, e2, e3⟩ := y_fail (k := 3) h he (by decide) (by decide) (fun z => by omega)
      rw [if_neg (by omega)] at e2
      rw [if_neg c2, if_neg (show ¬ nI x < nI n by rw [n_lt (by omega) (by omega)]; exact c2), n_3, e1, Option.bind_some, zpp_mk]
      exact ⟨fun q z => (by cases z; exact ⟨_, rfl, e2, e3⟩), fun q z => (by cases z)⟩
  · obtain ⟨M', e1, e2, e3⟩ := y_fail (k := 2) h he (by decide) (by decide) (fun _ => Or.inr rfl)
    rw [exS_n c, if_neg (show ¬ zI M 46 7 = 3 by rw [h3, hk]; exact c), n_2, e1, Option.bind_some, zpp_mk]
    exact ⟨fun q z => (by cases z; exact ⟨_, rfl, e2, e3⟩), fun q z => (by cases z)⟩
theorem y_mp {T : List Nat} {n L e : Nat} {M : zM} (h : PaH T n L e M) (hT : ∀ x ∈ T, x < 256) (he : e ≤ T.length) (hn : n < 8) (hL : L < 2 ^ tri n) : ∃ b, fp_X11_morePoints 46 M = some b ∧ RdR T (poS T n L e) b ∧ Fz atL9 M b.2 := by
  unfold fp_X11_morePoints poS
  have hC := h.1.1
  have hk := y_kd (k := 2) h he (by decide)
  have h3 : (3 : Int32) = nI (rkd 2) := by decide
  rw [ts_46 hC, gI_46 hC 7, Option.bind_some]
  by_cases c : (tokS T e).1 = 2
  · obtain ⟨d1, d2, d3⟩ := dgt_of c
    obtain ⟨x, hx⟩ : ∃ x, x = T.getD (tokS T e).2.1 0 - 48 := ⟨_, rfl⟩
    have hx10 : x < 10 := by omega
    rw [exS_k (by decide) c, if_pos (show zI M 46 7 = 3 by rw [h3, hk]; exact c), y_digit h hT he c, Option.bind_some, gI_46 hC 0, Option.bind_some, h.2.1.1, ← hx, n_add, n_7]
    dsimp only
    by_cases c2 : n + x ≤ 7
    · rw [if_pos c2, if_pos (show nI (n + x) ≤ nI 7 by rw [n_le (by omega) (by omega)]; exact c2), n_0]
      refine up (P := fun i f => ∀ M1, Fz atN M M1 → NrH (n + i) L M1 → ∃ b, fp_X11_morePoints_L39 46 (nI x) f (nI i) M1 = some b ∧ RdR T (.inr (n + x, L, (tokS T e).2.2)) b ∧ Fz atL9 M b.2) (a := 0) (n := x) ?_ ?_ FU (by omega) (FU_gt (by omega)) M Fz_refl h.2.1
      · intro f M1 f1 N1
        obtain ⟨M', e1, e2, e3⟩ := y_next (PaH_N h f1 N1) hT he (by omega)
        rw [fp_X11_morePoints_L39, stp, e1, Option.bind_some]
        exact ⟨_, rfl, ⟨rfl, e2⟩, Fz_trans (atN_L f1) e3⟩
      · intro i f _ hi ih M1 f1 N1
        have hLi : L < 2 ^ tri (n + i) := Nat.lt_of_lt_of_le hL (Nat.pow_le_pow_right (by decide) (tri_le' (by omega)))
        obtain ⟨M2, a1, a2, a3⟩ := y_comes (s := 0) (Fz_C f1 hC) N1 (by omega) hLi (Nat.two_pow_pos _)
        rw [Nat.zero_shiftLeft, Nat.or_zero] at a2
        rw [fp_X11_morePoints_L39, go hi (by omega), show fp_X11_comes 46 0 M1 = some M2 from by rw [n_0]; exact a1, Option.bind_some, inc]
        exact ih M2 (Fz_trans f1 a3) a2
    · obtain ⟨M', e1, e2, e3⟩ := y_fail (k := 6) h he (by decide) (by decide) (fun z => by omega)
      rw [if_neg (by omega)] at e2
      rw [if_neg c2, if_neg (show ¬ nI (n + x) ≤ nI 7 by rw [n_le (by omega) (by omega)]; exact c2), n_6, e1, Option.bind_some, zpp_mk, zb_01.1, Option.bind_some]
      exact ⟨_, rfl, ⟨rfl, e2⟩, e3⟩
  · obtain ⟨M', e1, e2, e3⟩ := y_fail (k := 2) h he (by decide) (by decide) (fun _ => Or.inr rfl)
    rw [exS_n c, if_neg (show ¬ zI M 46 7 = 3 by rw [h3, hk]; exact c), n_2, e1, Option.bind_some, zpp_mk, zb_01.1, Option.bind_some]
    exact ⟨_, rfl, ⟨rfl, e2⟩, e3⟩
theorem y_tu {T : List Nat} {n L e : Nat} {M : zM} (h : PaH T n L e M) (hT : ∀ x ∈ T, x < 256) (he : e ≤ T.length) (hn : n < 8) (hL : L < 2 ^ tri n) : ∃ b, fp_X11_aTurn 46 M = some b ∧ RdR T (tuS T n L e) b ∧ Fz atL9 M b.2 := by
  unfold fp_X11_aTurn tuS
  have hC := h.1.1
  obtain ⟨p1, p2⟩ := y_pt (v := -1) h hT he hn
  rw [ts_46 hC]
  cases hp : ptS T n e with
  | inl q =>
    obtain ⟨M', e1, e2, e3⟩ := p1 q hp
    rw [e1, Option.bind_some, zpp_mk, if_neg (show ¬ (-1 : Int32) ≠ -1 from fun z => z rfl)]
    exact ⟨_, rfl, ⟨rfl, e2⟩, e3⟩
  | inr q =>
    obtain ⟨a1, a2, a3, a4, -⟩ := p2 q hp
    have hne : nI q.1 ≠ -1 := by rw [ne_eq, n_neg (by omega)]; exact id
    obtain ⟨M1, b1, b2, b3⟩ := y_turns0 hC h.2.1 hn hL a3
    obtain ⟨M2, c1, c2, c3⟩ := y_next (PaH_N h (at47_N b3) b2) hT he (by omega)
    rw [← a1] at c2
    rw [a4 hne, Option.bind_some, zpp_mk, if_pos hne, b1, Option.bind_some, c1, Option.bind_some]
    exact ⟨_, rfl, ⟨rfl, c2⟩, Fz_trans (atN_L (at47_N b3)) c3⟩
theorem flp_or {L a b : Nat} (hab : a ≠ b) (h : adj L a b = false) : flp L a b = L ||| 1 <<< pr a b := by
  have ht : L.testBit (pr a b) = false := by
    unfold adj at h
    rw [decide_eq_true hab, Bool.true_and] at h
    exact h
  unfold flp
  apply Nat.eq_of_testBit_eq
  intro i
  rw [Nat.testBit_xor, Nat.testBit_or, tb_set]
  by_cases c : i = pr a b
  · rw [c, ht, decide_eq_true rfl]; rfl
  · rw [decide_eq_false c, Bool.or_false, Bool.xor_false]
theorem y_cp {T : List Nat} {n L e : Nat} {sw : Bool} {M : zM} (h : PaH T n L e M) (hT : ∀ x ∈ T, x < 256) (he : e ≤ T.length) (hn : n < 8) (hL : L < 2 ^ tri n) : ∃ b, fp_X11_two 46 (bI sw) M = some b ∧ RdR T (cpS T n L e sw) b ∧ Fz atL9 M b.2 := by
  unfold fp_X11_two cpS
  have hC := h.1.1
  obtain ⟨p1, p2⟩ := y_pt (v := -1) h hT he hn
  rw [ts_46 hC]
  cases hp : ptS T n e with
  | inl q =>
    obtain ⟨M', e1, e2, e3⟩ := p1 q hp
    rw [e1, Option.bind_some, zpp_mk, if_neg (show ¬ (-1 : Int32) ≠ -1 from fun z => z rfl)]
    exact ⟨_, rfl, ⟨rfl, e2⟩, e3⟩
  | inr q =>
    obtain ⟨a1, a2, a3, a4, -⟩ := p2 q hp
    have hne : nI q.1 ≠ -1 := by rw [ne_eq, n_neg (by omega)]; exact id
    obtain ⟨M1, b1, b2, b3⟩ := y_next h hT he (by omega)
    have hC1 := b2.1.1
    obtain ⟨-, -, he2, -, -⟩ := tok_le he
    rw [a4 hne, Option.bind_some, zpp_mk, if_pos hne, b1, Option.bind_some]
    rw [← a1] at b2 he2
    obtain ⟨r1, r2⟩ := y_pt (v := nI q.1) b2 hT he2 hn
    dsimp only
    cases hr : ptS T n q.2 with
    | inl g =>
      obtain ⟨M', e1, e2, e3⟩ := r1 g hr
      rw [e1, Option.bind_some, zpp_mk, if_neg (show ¬ (-1 : Int32) ≠ -1 from fun z => z rfl)]
      exact ⟨_, rfl, ⟨rfl, e2⟩, Fz_trans b3 e3⟩
    | inr r =>
      obtain ⟨g1, g2, g3, g4, g5⟩ := r2 r hr
      dsimp only
      by_cases c1 : q.1 = r.1
      · obtain ⟨M', e1, e2, e3⟩ := g5 (by rw [c1])
        rw [if_pos c1, e1, Option.bind_some, zpp_mk, if_neg (show ¬ (-1 : Int32) ≠ -1 from fun z => z rfl)]
        exact ⟨_, rfl, ⟨rfl, e2⟩, Fz_trans b3 e3⟩
      · have hne2 : nI r.1 ≠ -1 := by rw [ne_eq, n_neg (by omega)]; exact id
        have hrow := row_lt n L q.1
        have h128 := lt128 hn hrow
        rw [if_neg c1, g4 (by rw [ne_eq, n_eq (by omega) (by omega)]; exact fun z => c1 z.symm), Option.bind_some, zpp_mk, if_pos hne2, gR_46_2 hC1, Option.bind_some, lI_47 hC1 (show q.1 < 8 by omega), Option.bind_some, NrH_r b2.2.1 a3, y_has1 h128 (by omega), Option.bind_some, row_tb, decide_eq_true g3, Bool.true_and]
        by_cases c2 : adj L q.1 r.1 = sw
        · rw [if_neg (show ¬ adj L q.1 r.1 ≠ sw from fun z => z c2), c2, if_pos rfl]
          cases sw with
          | false =>
            obtain ⟨M2, k1, k2, k3⟩ := y_flips hC1 b2.2.1 hn a3 g3 c1
            rw [flp_or c1 c2] at k2
            obtain ⟨M3, l1, l2, l3⟩ := y_next (PaH_N b2 (at47_N k3) k2) hT he2 (by omega)
            rw [b_ff, if_pos rfl, k1, Option.bind_some, l1, Option.bind_some, if_neg (by decide), g1]
            exact ⟨_, rfl, ⟨rfl, l2⟩, Fz_trans b3 (Fz_trans (atN_L (at47_N k3)) l3)⟩
          | true =>
            obtain ⟨M2, k1, k2, k3⟩ := y_swings hC1 b2.2.1 hn hL a3 g3
            obtain ⟨M3, l1, l2, l3⟩ := y_next (PaH_N b2 (at47_N k3) k2) hT he2 (by omega)
            rw [b_tt, if_neg (show ¬ (1 : Int32) = 0 by decide), k1, Option.bind_some, l1, Option.bind_some, if_pos rfl, g1]
            exact ⟨_, rfl, ⟨rfl, l2⟩, Fz_trans b3 (Fz_trans (atN_L (at47_N k3)) l3)⟩
        · obtain ⟨M', e1, e2, e3⟩ := y_fail (k := 5) b2 he2 (by decide) (by decide) (fun z => by omega)
          rw [if_neg (by omega)] at e2
          have hb : ¬ bI (adj L q.1 r.1) = bI sw := by
            revert c2
            cases adj L q.1 r.1 <;> cases sw <;> simp [bI]
          rw [if_pos (show adj L q.1 r.1 ≠ sw from c2), if_neg hb, n_5, e1, Option.bind_some, zpp_mk, zb_01.1, Option.bind_some]
          exact ⟨_, rfl, ⟨rfl, e2⟩, Fz_trans b3 e3⟩

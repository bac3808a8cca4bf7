/-! ===== 91: the reference: all models gone through ===== -/
/-- how far a word is laid, each letter's use and its first place -/
def RWh (n : Nat) (pre : List Nat) (M : zM) : Prop := (∀ i, i < pre.length → zI M 64 i = nI (pre.getD i 0)) ∧ (∀ p, p < n → zI M 65 p = nI (pre.count p)) ∧ ∀ A p B, pre = A ++ p :: B → p ∉ A → zI M 66 p = nI A.length
/-- a beginning that is good so far -/
def Gp (n L : Nat) (pre : List Nat) : Prop := (∀ x ∈ pre, x < n) ∧ (∀ p, pre.count p ≤ 2) ∧ (pre ≠ [] → pre.headD 0 = 0) ∧ ∀ p A B C, pre = A ++ p :: (B ++ p :: C) → p ∉ A → p ∉ B → cwB n L p B = true
theorem cwB_iff {n L p : Nat} {B : List Nat} : cwB n L p B = true ↔ ∀ q, q < n → q ≠ p → (B.count q == 1) = adj L p q := by
  unfold cwB
  rw [List.all_eq_true]
  constructor
  · intro h q hq hne
    have := h q (List.mem_range.mpr hq)
    have e : (q == p) = false := by simpa using hne
    rw [e, Bool.false_or, beq_iff_eq] at this
    exact this
  · intro h q hq
    by_cases hne : q = p
    · rw [hne, beq_self_eq_true]; rfl
    · rw [Bool.or_eq_true]
      right
      rw [beq_iff_eq]
      exact h q (List.mem_range.mp hq) hne
theorem nil_snoc {α : Type} (l : List α) : l = [] ∨ ∃ k b, l = k ++ [b] := by
  induction l with
  | nil => exact Or.inl rfl
  | cons x l ih =>
    right
    rcases ih with e | ⟨k, b, e⟩
    · exact ⟨[], x, by rw [e]; rfl⟩
    · exact ⟨x :: k, b, by rw [e]; rfl⟩
theorem snoc_ind {α : Type} {P : List α → Prop} (h0 : P []) (h1 : ∀ ws w, P ws → P (ws ++ [w])) : ∀ ws, P ws := by
  have key : ∀ n (ws : List α), ws.length = n → P ws := by
    intro n
    induction n with
    | zero => intro ws h; rw [List.eq_nil_of_length_eq_zero h]; exact h0
    | succ n ih =>
      intro ws h
      rcases nil_snoc ws with e | ⟨k, b, e⟩
      · rw [e]; exact h0
      · subst e
        rw [List.length_append] at h
        have h2 : k.length + 1 = n + 1 := h
        exact h1 _ _ (ih k (by omega))
  exact fun ws => key _ ws rfl
theorem nil_mid {A B : List Nat} {p : Nat} (h : [] = A ++ p :: B) : False := by
  have := congrArg List.length h
  rw [List.length_append, List.length_cons] at this
  have h0 : (([] : List Nat)).length = 0 := rfl
  omega
theorem smN_all2 {f : Nat → Nat} {n : Nat} (h : ∀ i, i < n → f i ≤ 2) (hs : smN f n = n * 2) : ∀ i, i < n → f i = 2 := by
  induction n with
  | zero => intro i hi; omega
  | succ n ih =>
    rw [smN] at hs
    have h1 : smN f n ≤ n * 2 := smN_ub fun i hi => h i (by omega)
    have h2 := h n (Nat.lt_succ_self _)
    intro i hi
    by_cases q : i = n
    · rw [q]; omega
    · exact ih (fun i hi => h i (by omega)) (by omega) i (by omega)
theorem Gp_WD {n L : Nat} {w : List Nat} (h : Gp n L w) (hl : w.length = 2 * n) : WD n w := by
  refine ⟨hl, ?_⟩
  have hc := count_sum n w
  have h0 : cntGe n w = 0 := by
    unfold cntGe
    rw [List.countP_eq_zero]
    intro x hx
    have := h.1 x hx
    simp; omega
  exact smN_all2 (fun i _ => h.2.1 i) (by omega)
theorem Gp_Vw {n L : Nat} {w : List Nat} (h : Gp n L w) (hl : w.length = 2 * n) : Vw n L w := by
  have hW := Gp_WD h hl
  refine ⟨hW, fun a ha b hb => ?_, ?_⟩
  · obtain ⟨A, B, C, e, hA, hB, hC⟩ := two_of (hW.2 a ha)
    have := cwB_iff.mp (h.2.2.2 a A B C e hA hB) b (by omega) (by omega)
    rw [← this]
    have hb2 := hW.2 b (by omega)
    rw [e] at hb2 ⊢
    exact crs_p (by omega) hA hB hC hb2
  · by_cases h0 : w = []
    · rw [h0]; rfl
    · exact h.2.2.1 h0
noncomputable def PQ (n L : Nat) (qq : Qst) (w : List Nat) : Bool := if qq.1 = 4 then vB n L w else modB n L w
theorem PQ_V {n L : Nat} {qq : Qst} {w : List Nat} (h : PQ n L qq w = true) : Vw n L w := by
  unfold PQ at h
  split at h
  · exact vB_iff.mp h
  · exact (modB_iff.mp h).1
theorem PQ_f {n L : Nat} {qq : Qst} {w : List Nat} (h : ¬ Vw n L w) : PQ n L qq w = false := by
  cases hb : PQ n L qq w with
  | false => rfl
  | true => exact absurd (PQ_V hb) h
theorem PQ_of {n L : Nat} {qq : Qst} {w : List Nat} (h : Vw n L w) : PQ n L qq w = (qq.1 == 4 || lstB w) := by
  unfold PQ
  by_cases h4 : qq.1 = 4
  · rw [if_pos h4, h4, vB_iff.mpr h]; rfl
  · have : (qq.1 == 4) = false := by simpa using h4
    rw [if_neg h4, this, Bool.false_or]
    unfold modB
    rw [vB_iff.mpr h, Bool.true_and]
theorem stp1_done {qq : Qst} {wv : Int32} {st : Gst} (h : st.2.2.2 = true) : ∀ ws, List.foldl (stp1 qq wv) st ws = st := by
  intro ws
  induction ws with
  | nil => rfl
  | cons w ws ih =>
    rw [List.foldl_cons]
    have : stp1 qq wv st w = st := by unfold stp1; rw [h, if_pos rfl]
    rw [this]; exact ih
/-- a letter more -/
theorem Gp_push {n L p : Nat} {pre : List Nat} (h : Gp n L pre) (hp : p < n) (hc : pre.count p ≤ 1) (h0 : pre = [] → p = 0) (hw : ∀ A B, pre = A ++ p :: B → p ∉ A → cwB n L p B = true) : Gp n L (pre ++ [p]) := by
  refine ⟨fun x hx => ?_, fun q => ?_, fun _ => ?_, fun q A B C e hA hB => ?_⟩
  · rw [List.mem_append, List.mem_singleton] at hx
    rcases hx with hx | hx
    · exact h.1 x hx
    · rw [hx]; exact hp
  · rw [List.count_append, List.count_singleton]
    by_cases hq : p = q
    · rw [← hq, if_pos (beq_self_eq_true _)]; omega
    · rw [if_neg (by simpa using hq)]; exact h.2.1 q
  · cases pre with
    | nil => rw [h0 rfl]; rfl
    | cons x pre => exact h.2.2.1 (by simp)
  · rcases nil_snoc C with hC | ⟨C', x, hC⟩
    · subst hC
      have e2 : pre ++ [p] = (A ++ q :: B) ++ [q] := by rw [e]; simp
      obtain ⟨e3, e4⟩ := List.append_inj' e2 rfl
      have hq : p = q := (List.cons.inj e4).1
      subst hq
      exact hw A B e3 hA
    · have e2 : pre ++ [p] = (A ++ q :: (B ++ q :: C')) ++ [x] := by rw [e, hC]; simp
      obtain ⟨e3, e4⟩ := List.append_inj' e2 rfl
      exact h.2.2.2 q A B C' e3 hA hB
theorem RWh_push {n p : Nat} {pre : List Nat} {M M1 : zM} (h : RWh n pre M) (hp : p < n) (h64 : ∀ k, zI M1 64 k = if k = pre.length then nI p else zI M 64 k) (h65 : ∀ k, zI M1 65 k = if k = p then nI (pre.count p + 1) else zI M 65 k)
    (h66 : ∀ k, zI M1 66 k = if k = p ∧ p ∉ pre then nI pre.length else zI M 66 k) : RWh n (pre ++ [p]) M1 := by
  obtain ⟨a1, a2, a3⟩ := h
  refine ⟨fun i hi => ?_, fun q hq => ?_, fun A q B e hA => ?_⟩
  · rw [List.length_append] at hi
    have hi2 : i < pre.length + 1 := hi
    rw [h64]
    by_cases q : i = pre.length
    · rw [if_pos q, q, getD_app_r]
    · rw [if_neg q, getD_app_l (by omega)]; exact a1 i (by omega)
  · rw [h65, List.count_append, List.count_singleton]
    by_cases z : q = p
    · rw [if_pos z, z, if_pos (beq_self_eq_true _)]
    · rw [if_neg z, if_neg (by simpa using fun y => z y.symm), Nat.add_zero]; exact a2 q hq
  · rw [h66]
    rcases nil_snoc B with hB | ⟨B', x, hB⟩
    · subst hB
      obtain ⟨e3, e4⟩ := List.append_inj' e rfl
      have hq : p = q := (List.cons.inj e4).1
      subst hq
      rw [e3, if_pos ⟨rfl, hA⟩]
    · have e2 : pre ++ [p] = (A ++ q :: B') ++ [x] := by rw [e, hB]; simp
      obtain ⟨e3, e4⟩ := List.append_inj' e2 rfl
      have hqm : q ∈ pre := by rw [e3]; simp
      rw [if_neg (fun z => z.2 (z.1 ▸ hqm))]
      exact a3 A q B' e3 hA
theorem RWh_pop {n p : Nat} {pre : List Nat} {M M1 : zM} (h : RWh n (pre ++ [p]) M) (h64 : ∀ k, zI M1 64 k = zI M 64 k) (h65 : ∀ k, zI M1 65 k = if k = p then nI (pre.count p) else zI M 65 k) (h66 : ∀ k, zI M1 66 k = zI M 66 k) : RWh n pre M1 := by
  obtain ⟨a1, a2, a3⟩ := h
  refine ⟨fun i hi => ?_, fun q hq => ?_, fun A q B e hA => ?_⟩
  · rw [h64, a1 i (by rw [List.length_append]; omega), getD_app_l hi]
  · rw [h65]
    by_cases z : q = p
    · rw [if_pos z, z]
    · rw [if_neg z, a2 q hq, List.count_append, List.count_singleton, if_neg (by simpa using fun y => z y.symm), Nat.add_zero]
  · rw [h66]
    exact a3 A q (B ++ [p]) (by rw [e]; simp) hA
theorem ExN_one {P : List Nat → Bool} {n k : Nat} (hP : ∀ w, P w = true → w.headD 0 = 0) : ∀ d p, 1 ≤ p → ExN P n [] k (p + d) = ExN P n [] k p := by
  intro d
  induction d with
  | zero => intro p _; rfl
  | succ d ih =>
    intro p hp
    rw [← Nat.add_assoc, ExN, ih p hp]
    have : Ex P n ([] ++ [p + d]) k = [] := Ex_none fun s _ _ => by
      cases hb : P ([] ++ [p + d] ++ s) with
      | false => rfl
      | true =>
        have := hP _ hb
        have e : p + d = 0 := this
        omega
    rw [this, List.append_nil]
theorem y_grows {n L : Nat} {qq : Qst} {wv : Int32} (hn : n < 8) : ∀ k f pre M st, pre.length + k = 2 * n → k < f → Gp n L pre → zC M → NrH n L M → QH n qq M → zI M 46 37 = wv → RWh n pre M → SMh st M → st.2.2.2 = false →
    ∃ M', fp_X11_grows f 46 (nI pre.length) M = some M' ∧ Fz atW M M' ∧ RWh n pre M' ∧ SMh (List.foldl (stp1 qq wv) st (Ex (PQ n L qq) n pre k)) M' := by
  intro k
  induction k with
  | zero =>
    intro f pre M st h1 h2 hG hC hN hQ hwv hR hS hd
    obtain ⟨f, rfl⟩ : ∃ g, f = g + 1 := ⟨f - 1, by omega⟩
    have hV := Gp_Vw hG (by omega)
    obtain ⟨M', a1, a2, a3⟩ := y_isModel hC hN hn hV hR.1 hQ hwv hS hd
    refine ⟨M', ?_, Fz_W a2, ⟨fun i hi => (a2.2 _ _ (by omega)).trans (hR.1 i hi), fun p hp => (a2.2 _ _ (by omega)).trans (hR.2.1 p hp), fun A p B e hA => (a2.2 _ _ (by omega)).trans (hR.2.2 A p B e hA)⟩, ?_⟩
    · rw [fp_X11_grows, ts_46 hC, y_length hC hN, Option.bind_some, if_neg (by rw [show pre.length = 2 * n by omega]; exact fun z => z rfl), a1, Option.bind_some]
    · rw [Ex_0, PQ_of hV]
      by_cases hb : (qq.1 == 4 || lstB pre) = true
      · rw [if_pos hb] at a3 ⊢; exact a3
      · rw [if_neg hb] at a3 ⊢; exact a3
  | succ k ih =>
    intro f pre M st h1 h2 hG hC hN hQ hwv hR hS hd
    obtain ⟨f, rfl⟩ : ∃ g, f = g + 1 := ⟨f - 1, by omega⟩
    have hn0 : 0 < n := by omega
    have hplen : pre.length < 14 := by omega
    rw [fp_X11_grows, ts_46 hC, y_length hC hN, Option.bind_some, if_pos (by rw [ne_eq, n_eq (by omega) (by omega)]; omega), Ex_s]
    have hP0 : ∀ w, PQ n L qq w = true → w.headD 0 = 0 := fun w h => (PQ_V h).2.2
    have loop : ∀ d p g M1 st1, p + d = n → d < g → Fz atW M M1 → RWh n pre M1 → SMh st1 M1 → st1 = List.foldl (stp1 qq wv) st (ExN (PQ n L qq) n pre k p) →
        ∃ M', fp_X11_grows_L15 (fun w0 w1 Mw => fp_X11_grows f w0 w1 Mw) 46 (nI pre.length) g (nI p) M1 = some M' ∧ Fz atW M M' ∧ RWh n pre M' ∧ SMh (List.foldl (stp1 qq wv) st (ExN (PQ n L qq) n pre k n)) M' := by
      intro d
      induction d with
      | zero =>
        intro p g M1 st1 q1 q2 q3 q4 q5 q6
        obtain ⟨g, rfl⟩ : ∃ z, g = z + 1 := ⟨g - 1, by omega⟩
        have hp : p = n := by omega
        have hC1 := Fz_C q3 hC
        refine ⟨M1, ?_, q3, q4, by rw [q6, hp] at q5; exact q5⟩
        rw [fp_X11_grows_L15, zjn_eq, gI_46 hC1 0, Option.bind_some, (NrW hN q3).1, hp]
        by_cases h0 : pre.length = 0
        · rw [h0, if_neg (show ¬ nI 0 ≠ 0 by decide)]
          dsimp only
          rw [if_pos (show nI n ≥ 1 by rw [n_1, ge_iff_le, n_le (by omega) (by omega)]; omega)]
        · rw [if_pos (show nI pre.length ≠ 0 by rw [n_0, ne_eq, n_eq (by omega) (by decide)]; exact h0)]
          dsimp only
          rw [stp]
      | succ d ih2 =>
        intro p g M1 st1 q1 q2 q3 q4 q5 q6
        obtain ⟨g, rfl⟩ : ∃ z, g = z + 1 := ⟨g - 1, by omega⟩
        have hp : p < n := by omega
        have hC1 := Fz_C q3 hC
        have hN1 := NrW hN q3
        have hQ1 := QH_z hQ q3
        have hwv1 : zI M1 46 37 = wv := (q3.2 _ _ (by omega)).trans hwv
        -- behind this letter
        have nx : ∀ M2 st2, Fz atW M M2 → RWh n pre M2 → SMh st2 M2 → st2 = List.foldl (stp1 qq wv) st1 (Ex (PQ n L qq) n (pre ++ [p]) k) → ∃ M', fp_X11_grows_L15 (fun w0 w1 Mw => fp_X11_grows f w0 w1 Mw) 46 (nI pre.length) g (nI p + 1) M2 = some M' ∧ Fz atW M M' ∧ RWh n pre M' ∧ SMh (List.foldl (stp1 qq wv) st (ExN (PQ n L qq) n pre k n)) M' := by
          intro M2 st2 z1 z2 z3 z4
          rw [inc]
          refine ih2 (p + 1) g M2 st2 (by omega) (by omega) z1 z2 z3 ?_
          rw [z4, q6, ExN, List.foldl_append]
        -- it stops here
        have stop : (st1.2.2.2 = true ∨ (pre = [] ∧ 1 ≤ p)) → SMh (List.foldl (stp1 qq wv) st (ExN (PQ n L qq) n pre k n)) M1 := by
          intro hz
          rcases hz with hz | ⟨hz1, hz2⟩
          · obtain ⟨t, ht⟩ := ExN_pre (PQ n L qq) n pre k p (n - p)
            rw [show p + (n - p) = n by omega] at ht
            rw [ht, List.foldl_append, ← q6, stp1_done hz]; exact q5
          · have := ExN_one (P := PQ n L qq) (n := n) (k := k) hP0 (n - p) p hz2
            rw [show p + (n - p) = n by omega] at this
            rw [hz1, this, ← hz1, ← q6]; exact q5
        obtain ⟨R, hRe⟩ : ∃ R : Option zM, R = ((zgI 9 M1 46 42).bind fun (y4 : Int32) =>
          if y4 ≠ 0 then (
            some M1)
          else (
            (zgR 9 M1 46 32).bind fun (y5 : Nat) =>
            (zlI 100 M1 y5 (nI p)).bind fun (y6 : Int32) =>
            zjn (fun (M7 : zM) =>
                fp_X11_grows_L15 (fun w0 w1 Mw => fp_X11_grows f w0 w1 Mw) 46 (nI pre.length) g (nI p + 1) M7)
              (fun j120 =>
                if y6 = 2 then (
                  j120 M1)
                else (
                  (zgR 9 M1 46 32).bind fun (y8 : Nat) =>
                  (zlI 100 M1 y8 (nI p)).bind fun (y9 : Int32) =>
                  zjn (
                      (zgR 9 M1 46 31).bind fun (y10 : Nat) =>
                      (ztI M1 y10 (nI pre.length) (nI p)).bind fun (M11 : zM) =>
                      (zgR 9 M11 46 32).bind fun (y12 : Nat) =>
                      (zlI 100 M11 y12 (nI p)).bind fun (y13 : Int32) =>
                      zjn (fun (M14 : zM) =>
                          (zgR 9 M14 46 32).bind fun (y15 : Nat) =>
                          (zlI 100 M14 y15 (nI p)).bind fun (y16 : Int32) =>
                          (ztI M14 y15 (nI p) (y16 + 1)).bind fun (M17 : zM) =>
                          (fp_X11_grows f 46 (nI pre.length + 1) M17).bind fun (M18 : zM) =>
                          (zgR 9 M18 46 32).bind fun (y19 : Nat) =>
                          (zlI 100 M18 y19 (nI p)).bind fun (y20 : Int32) =>
                          (ztI M18 y19 (nI p) (y20 - 1)).bind fun (M21 : zM) =>
                          j120 M21)
                        (fun j93 =>
                          if y13 ≠ 0 then (
                            j93 M11)
                          else (
                            (zgR 9 M11 46 33).bind fun (y22 : Nat) =>
                            (ztI M11 y22 (nI p) (nI pre.length)).bind fun (M23 : zM) =>
                            j93 M23)))
                    (fun j70 =>
                      if y9 ≠ 1 then (
                        j70)
                      else (
                        (fp_X11_closesWell 46 (nI p) (nI pre.length) M1).bind fun (y24 : Int32) =>
                        if y24 ≠ 0 then (
                          j70)
                        else (
                          j120 M1))))))) := ⟨_, rfl⟩
        have body : (pre = [] → p = 0) → ∃ M', R = some M' ∧ Fz atW M M' ∧ RWh n pre M' ∧ SMh (List.foldl (stp1 qq wv) st (ExN (PQ n L qq) n pre k n)) M' := by
          intro hp0
          rw [hRe, gI_46 hC1, Option.bind_some, q5.2.2.2]
          cases hd1 : st1.2.2.2 with
          | true =>
            rw [b_tt, if_pos (by decide)]
            exact ⟨M1, rfl, q3, q4, stop (Or.inl hd1)⟩
          | false =>
            have hu := q4.2.1 p hp
            have hc2 := hG.2.1 p
            have l65 : zlI 100 M1 65 (nI p) = some (nI (pre.count p)) := by rw [lI_65 hC1 (show p < 8 by omega), hu]
            rw [b_ff, if_neg (by decide), gR_46_32 hC1, Option.bind_some, l65, Option.bind_some, zjn_eq, Option.bind_some, l65, Option.bind_some, zjn_eq]
            by_cases c2 : pre.count p = 2
            · rw [c2, if_pos (by decide)]
              refine nx M1 st1 q3 q4 q5 ?_
              have : Ex (PQ n L qq) n (pre ++ [p]) k = [] := Ex_none fun s _ _ => PQ_f fun hV => by
                have := hV.1.2 p hp
                rw [List.count_append, List.count_append, List.count_singleton_self, c2] at this
                omega
              rw [this]; rfl
            · rw [if_neg (by rw [n_2, n_eq (by omega) (by decide)]; exact c2)]
              -- the letter laid
              have lay : (∀ A B, pre = A ++ p :: B → p ∉ A → cwB n L p B = true) → ∃ M', ((zgR 9 M1 46 31).bind fun (y10 : Nat) =>
                      (ztI M1 y10 (nI pre.length) (nI p)).bind fun (M11 : zM) =>
                      (zgR 9 M11 46 32).bind fun (y12 : Nat) =>
                      (zlI 100 M11 y12 (nI p)).bind fun (y13 : Int32) =>
                      zjn (fun (M14 : zM) =>
                          (zgR 9 M14 46 32).bind fun (y15 : Nat) =>
                          (zlI 100 M14 y15 (nI p)).bind fun (y16 : Int32) =>
                          (ztI M14 y15 (nI p) (y16 + 1)).bind fun (M17 : zM) =>
                          (fp_X11_grows f 46 (nI pre.length + 1) M17).bind fun (M18 : zM) =>
                          (zgR 9 M18 46 32).bind fun (y19 : Nat) =>
                          (zlI 100 M18 y19 (nI p)).bind fun (y20 : Int32) =>
                          (ztI M18 y19 (nI p) (y20 - 1)).bind fun (M21 : zM) =>
                          fp_X11_grows_L15 (fun w0 w1 Mw => fp_X11_grows f w0 w1 Mw) 46 (nI pre.length) g (nI p + 1) M21)
                        (fun j93 =>
                          if y13 ≠ 0 then (
                            j93 M11)
                          else (
                            (zgR 9 M11 46 33).bind fun (y22 : Nat) =>
                            (ztI M11 y22 (nI p) (nI pre.length)).bind fun (M23 : zM) =>
                            j93 M23))) = some M' ∧ Fz atW M M' ∧ RWh n pre M' ∧ SMh (List.foldl (stp1 qq wv) st (ExN (PQ n L qq) n pre k n)) M' := by
                intro hcw
                have hG2 := Gp_push hG hp (by omega) hp0 hcw
                have hC11 : zC (zsI M1 64 pre.length (nI p)) := hC1
                rw [gR_46_31 hC1, Option.bind_some, tI_64 hC1 hplen, Option.bind_some, gR_46_32 hC11, Option.bind_some, lI_65 hC11 (show p < 8 by omega), Option.bind_some, zI_other _ _ (Or.inl (by decide)), hu, zjn_eq]
                have go2 : ∀ M14, zC M14 → Fz atW M1 M14 → (∀ k, zI M14 64 k = if k = pre.length then nI p else zI M1 64 k) → (∀ k, zI M14 65 k = zI M1 65 k) → (∀ k, zI M14 66 k = if k = p ∧ p ∉ pre then nI pre.length else zI M1 66 k) → (∀ k, zI M14 67 k = zI M1 67 k) → (∀ k, zI M14 46 k = zI M1 46 k) → ∃ M', ((zgR 9 M14 46 32).bind fun (y15 : Nat) =>
                          (zlI 100 M14 y15 (nI p)).bind fun (y16 : Int32) =>
                          (ztI M14 y15 (nI p) (y16 + 1)).bind fun (M17 : zM) =>
                          (fp_X11_grows f 46 (nI pre.length + 1) M17).bind fun (M18 : zM) =>
                          (zgR 9 M18 46 32).bind fun (y19 : Nat) =>
                          (zlI 100 M18 y19 (nI p)).bind fun (y20 : Int32) =>
                          (ztI M18 y19 (nI p) (y20 - 1)).bind fun (M21 : zM) =>
                          fp_X11_grows_L15 (fun w0 w1 Mw => fp_X11_grows f w0 w1 Mw) 46 (nI pre.length) g (nI p + 1) M21) = some M' ∧ Fz atW M M' ∧ RWh n pre M' ∧ SMh (List.foldl (stp1 qq wv) st (ExN (PQ n L qq) n pre k n)) M' := by
                  intro M14 hC14 f14 t64 t65 t66 t67 t46
                  have u65 : zI M14 65 p = nI (pre.count p) := (t65 p).trans hu
                  have hC17 : zC (zsI M14 65 p (nI (pre.count p + 1))) := hC14
                  have hR17 : RWh n (pre ++ [p]) (zsI M14 65 p (nI (pre.count p + 1))) := RWh_push q4 hp (fun k => by rw [zI_other _ _ (Or.inl (by decide))]; exact t64 k) (fun k => by
                    by_cases z : k = p
                    · rw [z, zI_same, if_pos rfl]
                    · rw [zI_other _ _ (Or.inr z), if_neg z]; exact t65 k) (fun k => by rw [zI_other _ _ (Or.inl (by decide))]; exact t66 k)
                  have f17 : Fz atW M1 (zsI M14 65 p (nI (pre.count p + 1))) := Fz_trans f14 (Fz_sI (by omega))
                  have hS17 : SMh st1 (zsI M14 65 p (nI (pre.count p + 1))) := ⟨by rw [zI_other _ _ (Or.inl (by decide)), t46]; exact q5.1, by rw [zI_other _ _ (Or.inl (by decide)), t46]; exact q5.2.1, fun i hi => by rw [zI_other _ _ (Or.inl (by decide)), t67]; exact q5.2.2.1 i hi, by rw [zI_other _ _ (Or.inl (by decide)), t46]; exact q5.2.2.2⟩
                  have hlp : (pre ++ [p]).length = pre.length + 1 := by rw [List.length_append]; rfl
                  obtain ⟨M18, b1, b2, b3, b4⟩ := ih f (pre ++ [p]) _ st1 (by omega) (by omega) hG2 hC17 (NrW hN1 f17) (QH_z hQ1 f17) ((f17.2 _ _ (by omega)).trans hwv1) hR17 hS17 hd1
                  rw [hlp] at b1
                  have hC18 := Fz_C b2 hC17
                  have u18 : zI M18 65 p = nI (pre.count p + 1) := by rw [b3.2.1 p hp, List.count_append, List.count_singleton_self]
                  rw [gR_46_32 hC14, Option.bind_some, lI_65 hC14 (show p < 8 by omega), Option.bind_some, u65, inc, tI_65 hC14 (show p < 8 by omega), Option.bind_some, inc, b1, Option.bind_some, gR_46_32 hC18, Option.bind_some, lI_65 hC18 (show p < 8 by omega), Option.bind_some, u18, n_1, n_sub (by omega), Nat.add_sub_cancel, tI_65 hC18 (show p < 8 by omega), Option.bind_some, ← n_1]
                  refine nx _ _ (Fz_trans q3 (Fz_trans f17 (Fz_trans b2 (Fz_sI (by omega))))) (RWh_pop b3 (fun k => zI_other _ _ (Or.inl (by decide))) (fun k => ?_) (fun k => zI_other _ _ (Or.inl (by decide)))) ?_ rfl
                  · by_cases z : k = p
                    · rw [z, zI_same, if_pos rfl]
                    · rw [zI_other _ _ (Or.inr z), if_neg z]
                  · exact ⟨by rw [zI_other _ _ (Or.inl (by decide))]; exact b4.1, by rw [zI_other _ _ (Or.inl (by decide))]; exact b4.2.1, fun i hi => by rw [zI_other _ _ (Or.inl (by decide))]; exact b4.2.2.1 i hi, by rw [zI_other _ _ (Or.inl (by decide))]; exact b4.2.2.2⟩
                have s64 : ∀ k, zI (zsI M1 64 pre.length (nI p)) 64 k = if k = pre.length then nI p else zI M1 64 k := fun k => by
                  by_cases z : k = pre.length
                  · rw [z, zI_same, if_pos rfl]
                  · rw [zI_other _ _ (Or.inr z), if_neg z]
                by_cases c0 : pre.count p = 0
                · have hpm : p ∉ pre := List.count_eq_zero.mp c0
                  rw [c0, if_neg (by decide), gR_46_33 hC11, Option.bind_some, tI_66 hC11 (show p < 8 by omega), Option.bind_some]
                  refine go2 _ hC11 (Fz_trans (Fz_sI (by omega)) (Fz_sI (by omega))) (fun k => ?_) (fun k => ?_) (fun k => ?_) (fun k => ?_) (fun k => ?_)
                  · rw [zI_other _ _ (Or.inl (by decide))]; exact s64 k
                  · rw [zI_other _ _ (Or.inl (by decide)), zI_other _ _ (Or.inl (by decide))]
                  · by_cases z : k = p
                    · rw [z, zI_same, if_pos ⟨rfl, hpm⟩]
                    · rw [zI_other _ _ (Or.inr z), if_neg (fun y => z y.1), zI_other _ _ (Or.inl (by decide))]
                  · rw [zI_other _ _ (Or.inl (by decide)), zI_other _ _ (Or.inl (by decide))]
                  · rw [zI_other _ _ (Or.inl (by decide)), zI_other _ _ (Or.inl (by decide))]
                · have hpm : p ∈ pre := List.count_pos_iff.mp (by omega)
                  rw [if_pos (by rw [n_0, ne_eq, n_eq (by omega) (by decide)]; exact c0)]
                  refine go2 _ hC11 (Fz_sI (by omega)) s64 (fun k => zI_other _ _ (Or.inl (by decide))) (fun k => ?_) (fun k => zI_other _ _ (Or.inl (by decide))) (fun k => zI_other _ _ (Or.inl (by decide)))
                  rw [if_neg (fun y => y.2 hpm), zI_other _ _ (Or.inl (by decide))]
              by_cases c1 : pre.count p = 1
              · have hpm : p ∈ pre := List.count_pos_iff.mp (by omega)
                obtain ⟨A, B, e⟩ := List.append_of_mem hpm
                have hA : p ∉ A := by
                  have := c1
                  rw [e, List.count_append, List.count_cons_self] at this
                  exact List.count_eq_zero.mp (by omega)
                have hB : p ∉ B := by
                  have := c1
                  rw [e, List.count_append, List.count_cons_self] at this
                  exact List.count_eq_zero.mp (by omega)
                have h32 : ∀ z ∈ pre, z < 2 ^ 32 := fun z hz => by have := hG.1 z hz; omega
                have hAN : AN M1 64 pre := AN_of hC1 (Or.inl rfl) (by omega) q4.1
                have hfst := q4.2.2 A p B e hA
                have hcl := y_closesWell (A := A) (B := B) (p := p) hC1 hN1 hn hp (by rw [← e]; exact hAN) (by rw [← e]; exact h32) hfst
                rw [← e] at hcl
                rw [c1, if_neg (by decide), hcl, Option.bind_some]
                cases hcb : cwB n L p B with
                | true =>
                  rw [b_tt, if_pos (by decide)]
                  refine lay fun A' B' e' hA' => ?_
                  have : A' = A ∧ p :: B' = p :: B := by
                    have e2 : A' ++ p :: B' = A ++ p :: B := by rw [← e', e]
                    have i1 := idx_split (R := B') hA'
                    have i2 := idx_split (R := B) hA
                    rw [e2, i2] at i1
                    exact List.append_inj e2 i1.symm
                  rw [(List.cons.inj this.2).2]; exact hcb
                | false =>
                  rw [b_ff, if_neg (by decide)]
                  refine nx M1 st1 q3 q4 q5 ?_
                  have : Ex (PQ n L qq) n (pre ++ [p]) k = [] := Ex_none fun s _ _ => PQ_f fun hV => by
                    have hcp := hV.1.2 p hp
                    rw [List.count_append, List.count_append, List.count_singleton_self, c1] at hcp
                    have hs : p ∉ s := List.count_eq_zero.mp (by omega)
                    have e3 : pre ++ [p] ++ s = A ++ p :: (B ++ p :: s) := by rw [e]; simp
                    have : cwB n L p B = true := cwB_iff.mpr fun q hq hne => by
                      have hq2 := hV.1.2 q hq
                      rw [← Pat_adj hV.2.1 hp hq (fun z => hne z.symm), e3]
                      rw [e3] at hq2
                      exact (crs_p (fun z => hne z.symm) hA hB hs hq2).symm
                    rw [hcb] at this; cases this
                  rw [this]; rfl
              · rw [if_pos (by rw [n_1, ne_eq, n_eq (by omega) (by decide)]; exact c1)]
                refine lay fun A B e hA => ?_
                have hpm : p ∈ pre := by rw [e]; simp
                have := List.count_pos_iff.mpr hpm
                omega
        rw [hRe] at body
        rw [fp_X11_grows_L15, zjn_eq, gI_46 hC1 0, Option.bind_some, hN1.1]
        by_cases h0 : pre.length = 0
        · have hpre : pre = [] := List.eq_nil_of_length_eq_zero h0
          have h00 : ¬ nI pre.length ≠ 0 := by rw [h0]; decide
          rw [if_neg h00]
          by_cases hp0 : p = 0
          · dsimp only
            rw [if_neg (show ¬ nI p ≥ 1 by rw [hp0]; decide)]
            exact body fun _ => hp0
          · dsimp only
            rw [if_pos (show nI p ≥ 1 by rw [n_1, ge_iff_le, n_le (by omega) (by omega)]; omega)]
            exact ⟨M1, rfl, q3, q4, stop (Or.inr ⟨hpre, by omega⟩)⟩
        · rw [if_pos (show nI pre.length ≠ 0 by rw [n_0, ne_eq, n_eq (by omega) (by decide)]; exact h0)]
          dsimp only
          rw [go hp (by omega)]
          exact body fun z => absurd (by rw [z]; rfl) h0
    obtain ⟨M', a1, a2, a3, a4⟩ := loop n 0 FU M st (by omega) (FU_gt (by omega)) Fz_refl hR hS rfl
    rw [← n_0] at a1
    exact ⟨M', a1, a2, a3, a4⟩
/-- what scratch a search leaves -/
abbrev atV : Nat → Nat → Prop := fun a k => 64 ≤ a ∧ a ≤ 67 ∨ (a = 46 ∧ 36 ≤ k ∧ k ≤ 44)
theorem scV {M M' : zM} (h : Fz atV M M') : Fz scR M M' := Fz_mono h fun a k q => by show (a = 46 ∧ _) ∨ _; omega
theorem NrV {n L : Nat} {M M' : zM} (h : NrH n L M) (hf : Fz atV M M') : NrH n L M' := NrH_z h hf (by omega) (fun k => by omega)
noncomputable def g0 (qq : Qst) (wv : Int32) (ws : List (List Nat)) : Gst := List.foldl (stp1 qq wv) (0, 0, [], false) ws
theorem y_goes {n L : Nat} {qq : Qst} {wv : Int32} {M : zM} (hC : zC M) (hN : NrH n L M) (hn : n < 8) (hQ : QH n qq M) : ∃ M', fp_X11_goes 46 wv M = some ((g0 qq wv (Ex (PQ n L qq) n [] (2 * n))).1, M') ∧ Fz atV M M' ∧ SMh (g0 qq wv (Ex (PQ n L qq) n [] (2 * n))) M' := by
  unfold fp_X11_goes
  have hC1 : zC (zsI M 46 37 wv) := hC
  rw [ts_46 hC, pI_46 hC, Option.bind_some, pI_46 (by exact hC), Option.bind_some, pI_46 (by exact hC), Option.bind_some, pI_46 (by exact hC), Option.bind_some]
  obtain ⟨M4, hM4⟩ : ∃ M4, M4 = zsI (zsI (zsI (zsI M 46 37 wv) 46 36 0) 46 38 0) 46 42 0 := ⟨_, rfl⟩
  rw [← hM4]
  have f4 : Fz atV M M4 := by rw [hM4]; exact Fz_trans (Fz_sI (by omega)) (Fz_trans (Fz_sI (by omega)) (Fz_trans (Fz_sI (by omega)) (Fz_sI (by omega))))
  have hC4 := Fz_C f4 hC
  have v37 : zI M4 46 37 = wv := by rw [hM4]; simp [zI_sI]
  have v36 : zI M4 46 36 = 0 := by rw [hM4]; simp [zI_sI]
  have v38 : zI M4 46 38 = 0 := by rw [hM4]; simp [zI_sI]
  have v42 : zI M4 46 42 = 0 := by rw [hM4]; simp [zI_sI]
  have hQ4 : QH n qq M4 := by
    obtain ⟨h1, h2, h3, h4, h5⟩ := hQ
    have e : ∀ k, k = 39 ∨ k = 40 ∨ k = 41 → zI M4 46 k = zI M 46 k := fun k hk => by rw [hM4]; rcases hk with rfl | rfl | rfl <;> simp [zI_sI]
    exact ⟨(e 39 (by decide)).trans h1, h2, fun q => ⟨(e 40 (by decide)).trans (h3 q).1, (e 41 (by decide)).trans (h3 q).2.1, (h3 q).2.2⟩, fun q => ⟨(e 40 (by decide)).trans (h4 q).1, (h4 q).2⟩, fun q => ⟨(h5 q).1, (h5 q).2.1, fun i hi => (f4.2 68 i (by omega)).trans ((h5 q).2.2 i hi)⟩⟩
  rw [n_0]
  refine up (P := fun i f => ∀ M5, Fz (fun a k => a = 65) M4 M5 → (∀ j, j < i → zI M5 65 j = nI 0) → ∃ M', fp_X11_goes_L22 46 f (nI i) M5 = some ((g0 qq wv (Ex (PQ n L qq) n [] (2 * n))).1, M') ∧ Fz atV M M' ∧ SMh (g0 qq wv (Ex (PQ n L qq) n [] (2 * n))) M') (a := 0) (n := 8) ?_ ?_ FU (by omega) (FU_gt (by omega)) M4 Fz_refl (fun j hj => absurd hj (Nat.not_lt_zero _))
  · intro f M5 f5 h65
    have hC5 := Fz_C f5 hC4
    have fW : Fz atW M4 M5 := Fz_mono f5 fun a k q => by omega
    obtain ⟨M', a1, a2, a3, a4⟩ := y_grows (L := L) (qq := qq) (wv := wv) hn (2 * n) FD [] M5 (0, 0, [], false) (by rw [List.length_nil]; omega) (by show _ < 20; omega) ⟨(fun x hx => by cases hx), fun p => Nat.zero_le _, fun z => absurd rfl z, fun p A B C e => (nil_mid e).elim⟩ hC5 (NrW (NrV hN f4) fW) (QH_z hQ4 fW) ((f5.2 _ _ (by omega)).trans v37) ⟨fun i hi => absurd hi (Nat.not_lt_zero _), fun p hp => h65 p (by omega), fun A p B e => (nil_mid e).elim⟩ ⟨(f5.2 _ _ (by omega)).trans v36, (f5.2 _ _ (by omega)).trans v38, fun i hi => absurd hi (Nat.not_lt_zero _), (f5.2 _ _ (by omega)).trans v42⟩ rfl
    have a1' : fp_X11_grows FD 46 0 M5 = some M' := by rw [n_0]; exact a1
    refine ⟨M', ?_, Fz_trans f4 (Fz_trans (Fz_mono fW fun a k q => by omega) (Fz_mono a2 fun a k q => by omega)), a4⟩
    rw [fp_X11_goes_L22, if_pos (by decide), a1', Option.bind_some, gI_46 (Fz_C a2 hC5), Option.bind_some, a4.1]
    rfl
  · intro i f _ hi ih M5 f5 h65
    have hC5 := Fz_C f5 hC4
    rw [fp_X11_goes_L22, if_neg (by rw [n_8, ge_iff_le, n_le (by omega) (by omega)]; omega), gR_46_32 hC5, Option.bind_some, tI_65 hC5 hi, Option.bind_some, inc]
    refine ih _ (Fz_trans f5 (Fz_sI rfl)) fun j hj => ?_
    by_cases z : j = i
    · rw [z, zI_same]; exact n_0
    · rw [zI_other _ _ (Or.inr z)]; exact h65 j (by omega)
/-! what comes of it -/
theorem g0_app (qq : Qst) (wv : Int32) (ws : List (List Nat)) (w : List Nat) : g0 qq wv (ws ++ [w]) = stp1 qq wv (g0 qq wv ws) w := by
  unfold g0; rw [List.foldl_append]; rfl
/-- none is sought: all are counted -/
theorem g0_all {qq : Qst} (h4 : qq.1 ≠ 4) : ∀ ws : List (List Nat), ws.length < 2 ^ 31 → g0 qq (-1) ws = (nI ws.length, nI (ws.countP (ckB qq)), [], false) := by
  refine snoc_ind ?_ ?_
  · intro _; show ((0 : Int32), (0 : Int32), ([] : List Nat), false) = _; rw [n_0]; rfl
  · intro ws w ih hl
    rw [List.length_append] at hl
    have hl2 : ws.length + 1 < 2 ^ 31 := hl
    rw [g0_app, ih (by omega)]
    unfold stp1
    dsimp only
    have h4b : (qq.1 == 4) = false := by simpa using h4
    have hne : ¬ nI ws.length = -1 := by rw [n_neg (by omega)]; exact id
    rw [if_neg Bool.false_ne_true, if_neg hne, h4b, Bool.false_or, decide_eq_false hne, inc, List.length_append, List.countP_append, List.countP_singleton]
    cases ckB qq w with
    | false => rw [b_ff, n_0, n_add, if_neg Bool.false_ne_true]; rfl
    | true => rw [b_tt, inc, if_pos rfl]; rfl
/-- one is sought -/
theorem g0_one {qq : Qst} {i : Nat} (h4 : qq.1 ≠ 4) (hi : i < 2 ^ 31) : ∀ ws : List (List Nat), ws.length < 2 ^ 31 → (ws.length ≤ i → (g0 qq (nI i) ws).1 = nI ws.length ∧ (g0 qq (nI i) ws).2.2 = ([], false)) ∧ (i < ws.length → (g0 qq (nI i) ws).1 = nI (i + 1) ∧ (g0 qq (nI i) ws).2.2 = (ws.getD i [], true)) := by
  refine snoc_ind ?_ ?_
  · intro _; exact ⟨fun _ => ⟨n_0, rfl⟩, fun h => absurd h (Nat.not_lt_zero _)⟩
  · intro ws w ih hl
    rw [List.length_append] at hl ⊢
    have hl2 : ws.length + 1 < 2 ^ 31 := hl
    have e1 : ws.length + [w].length = ws.length + 1 := rfl
    rw [g0_app, e1]
    obtain ⟨i1, i2⟩ := ih (by omega)
    have h4b : (qq.1 == 4) = false := by simpa using h4
    obtain ⟨st, hst⟩ : ∃ st, st = g0 qq (nI i) ws := ⟨_, rfl⟩
    rw [← hst] at i1 i2 ⊢
    by_cases c : i < ws.length
    · obtain ⟨j1, j2⟩ := i2 c
      have hd : st.2.2.2 = true := by rw [j2]
      have : stp1 qq (nI i) st w = st := by unfold stp1; rw [hd, if_pos rfl]
      rw [this]
      refine ⟨fun z => by omega, fun _ => ⟨j1, ?_⟩⟩
      rw [j2, getD_app_l c]
    · obtain ⟨j1, j2⟩ := i1 (by omega)
      have hd : st.2.2.2 = false := by rw [j2]
      have ht : st.2.2.1 = [] := by rw [j2]
      have es : stp1 qq (nI i) st w = (st.1 + 1, st.2.1 + bI (ckB qq w), if st.1 = nI i then w else st.2.2.1, decide (st.1 = nI i)) := by
        unfold stp1
        rw [hd, if_neg Bool.false_ne_true, h4b, Bool.false_or]
      rw [es]
      dsimp only
      rw [j1, inc, ht]
      have eq : (nI ws.length = nI i) = (ws.length = i) := n_eq (by omega) hi
      by_cases c2 : ws.length = i
      · refine ⟨fun z => by omega, fun _ => ⟨by rw [c2], ?_⟩⟩
        rw [if_pos (by rw [c2]), decide_eq_true (by rw [c2]), ← c2, getD_app_r]
      · have ne : ¬ nI ws.length = nI i := by rw [eq]; exact c2
        refine ⟨fun _ => ⟨rfl, by rw [if_neg ne, decide_eq_false ne]⟩, fun z => by omega⟩
/-- any one will do -/
theorem g0_any {qq : Qst} {wv : Int32} (h4 : qq.1 = 4) (ws : List (List Nat)) : (g0 qq wv ws).1 = bI (!ws.isEmpty) := by
  cases ws with
  | nil => rfl
  | cons w ws =>
    unfold g0
    rw [List.foldl_cons]
    have hd : (stp1 qq wv (0, 0, [], false) w).2.2.2 = true := by
      unfold stp1
      rw [if_neg Bool.false_ne_true, h4]; rfl
    rw [stp1_done hd]
    unfold stp1
    rw [if_neg Bool.false_ne_true]
    rfl

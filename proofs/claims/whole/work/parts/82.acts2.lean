/-! ===== 82: the reference: networks laid in rows, acts, undo, images ===== -/
theorem y_from0 {v : Int32} {b : Nat} (hb : b < 2 ^ 31 - 1) : fp_X11_isFrom v 0 (nI b) = some (bI (asN v (b + 1)).isSome) := by
  rw [n_0, y_isFrom (by decide) hb]
  cases asN v (b + 1) with
  | none => rfl
  | some j => dsimp only; rw [decide_eq_true (Nat.zero_le j)]; rfl
theorem zb_bI (b : Bool) : zb (bI b) = some (bI b) := by cases b <;> rfl
/-! rows of ints, by their cells -/
theorem lI_x {M : zM} {a n i : Nat} (hC : zC M) (ha : a < 72) (hk : kd a = 100) (hn : zL M a = n) (hb : n < 3000) (hi : i < n) : zlI 100 M a (nI i) = some (zI M a i) := zlI_ok (zC_lt hC ha) hk hn (by omega) hi
theorem tI_x {M : zM} {a n i : Nat} (hC : zC M) (ha : a < 72) (hk : kd a = 100) (hn : zL M a = n) (hb : n < 3000) (hi : i < n) (v : Int32) : ztI M a (nI i) v = some (zsI M a i v) := ztI_ok (zC_lt hC ha) hk hn (by omega) hi v
theorem Fz_L {P : Nat → Nat → Prop} {M M' : zM} (h : Fz P M M') (a : Nat) : zL M' a = zL M a := congrFun (congrArg (fun x => x.2.2.1) h.1) a
theorem NtH_copy {a b a' b' : Nat} {q : Nat × Nat} {M M' : zM} (h : NtH a b q M) (hf : ∀ k, k < 8 → zI M' a' (b' + k) = zI M a (b + k)) : NtH a' b' q M' :=
  ⟨(hf 0 (by decide)).trans h.1, fun p hp => by
    rw [Nat.add_assoc, hf (1 + p) (by omega), ← Nat.add_assoc]; exact h.2 p hp⟩
theorem y_puts {n L a b len : Nat} {M : zM} (hC : zC M) (h : NrH n L M) (hn : n < 8) (ha : a < 72) (ha6 : a ≠ 46) (ha7 : a ≠ 47) (hk : kd a = 100) (hl : zL M a = len) (hlen : len < 3000) (hb : b + 8 ≤ len) :
    ∃ M', fp_X11_puts 46 a (nI b) M = some M' ∧ NtH a b (n, L) M' ∧ Fz (fun x k => x = a ∧ b ≤ k ∧ k < b + 8) M M' := by
  unfold fp_X11_puts
  rw [ts_46 hC, gI_46 hC, Option.bind_some, h.1, tI_x hC ha hk hl hlen (by omega), Option.bind_some, n_0]
  refine up (P := fun i f => ∀ M1, Fz (fun x k => x = a ∧ b ≤ k ∧ k < b + 8) M M1 → zI M1 a b = nI n → (∀ p, p < i → zI M1 a (b + 1 + p) = nI (if p < n then row n L p else 0)) → ∃ M', fp_X11_puts_L9 46 a (nI b) f (nI i) M1 = some M' ∧ NtH a b (n, L) M' ∧ Fz (fun x k => x = a ∧ b ≤ k ∧ k < b + 8) M M') (a := 0) (n := 7) ?_ ?_ FU (by omega) (FU_gt (by omega)) _ (Fz_sI ⟨rfl, Nat.le_refl _, by omega⟩) (zI_same _ _ _ _) (fun p hp => by omega)
  · intro f M1 h1 h2 h3
    exact ⟨M1, by rw [fp_X11_puts_L9, if_pos (by decide)], ⟨h2, h3⟩, h1⟩
  · intro i f _ hi ih M1 h1 h2 h3
    have hC1 := Fz_C h1 hC
    have e0 : zI M1 46 0 = nI n := (h1.2 46 0 (fun z => ha6 z.1.symm)).trans h.1
    have hl1 : zL M1 a = len := (Fz_L h1 a).trans hl
    have fin : ∀ v, v = (if i < n then row n L i else 0) → ∃ M', ((ztI M1 a (nI b + 1 + nI i) (nI v)).bind fun M7 => fp_X11_puts_L9 46 a (nI b) f (nI i + 1) M7) = some M' ∧ NtH a b (n, L) M' ∧ Fz (fun x k => x = a ∧ b ≤ k ∧ k < b + 8) M M' := by
      intro v hv
      rw [inc, n_add, tI_x hC1 ha hk hl1 hlen (show b + 1 + i < len by omega), Option.bind_some, inc]
      refine ih _ (Fz_trans h1 (Fz_sI ⟨rfl, by omega, by omega⟩)) (by rw [zI_other _ _ (Or.inr (by omega))]; exact h2) fun p hp => ?_
      by_cases hpi : p = i
      · rw [hpi, zI_same, hv]
      · rw [zI_other _ _ (Or.inr (by omega))]; exact h3 p (by omega)
    rw [fp_X11_puts_L9, if_neg (by rw [n_7, ge_iff_le, n_le (by omega) (by omega)]; omega), gI_46 hC1, Option.bind_some, e0, zjn_eq]
    by_cases hin : i < n
    · rw [go hin (by omega), gR_46_2 hC1, Option.bind_some, lI_47 hC1 (show i < 8 by omega), Option.bind_some, h1.2 47 i (fun z => ha7 z.1.symm), h.2 i hin]
      exact fin _ (if_pos hin).symm
    · rw [if_pos (by rw [ge_iff_le, n_le (by omega) (by omega)]; omega), n_0]
      exact fin _ (if_neg hin).symm
theorem y_brings {a b len : Nat} {q : Nat × Nat} {M : zM} (hC : zC M) (h : NtH a b q M) (hq : q.1 < 8) (ha : a < 72) (ha6 : a ≠ 46) (ha7 : a ≠ 47) (hk : kd a = 100) (hl : zL M a = len) (hlen : len < 3000) (hb : b + 8 ≤ len) :
    ∃ M', fp_X11_brings 46 a (nI b) M = some M' ∧ NrH q.1 q.2 M' ∧ Fz atN M M' := by
  unfold fp_X11_brings
  rw [ts_46 hC, lI_x hC ha hk hl hlen (show b < len by omega), Option.bind_some, h.1, pI_46 hC, Option.bind_some, n_0]
  refine up (P := fun i f => ∀ M1, Fz atN M M1 → zI M1 46 0 = nI q.1 → (∀ p, p < i → zI M1 47 p = nI (if p < q.1 then row q.1 q.2 p else 0)) → ∃ M', fp_X11_brings_L9 46 a (nI b) f (nI i) M1 = some M' ∧ NrH q.1 q.2 M' ∧ Fz atN M M') (a := 0) (n := 7) ?_ ?_ FU (by omega) (FU_gt (by omega)) _ (Fz_sI (Or.inr ⟨rfl, rfl⟩)) (zI_same _ _ _ _) (fun p hp => by omega)
  · intro f M1 h1 h2 h3
    exact ⟨M1, by rw [fp_X11_brings_L9, if_pos (by decide)], ⟨h2, fun p hp => by rw [h3 p (by omega), if_pos hp]⟩, h1⟩
  · intro i f _ hi ih M1 h1 h2 h3
    have hC1 := Fz_C h1 hC
    have hl1 : zL M1 a = len := (Fz_L h1 a).trans hl
    rw [fp_X11_brings_L9, if_neg (by rw [n_7, ge_iff_le, n_le (by omega) (by omega)]; omega), gR_46_2 hC1, Option.bind_some, inc, n_add, lI_x hC1 ha hk hl1 hlen (show b + 1 + i < len by omega), Option.bind_some, h1.2 a _ (fun z => by rcases z with z | z; exact ha7 z; exact ha6 z.1), h.2 i hi, tI_47 hC1 (show i < 8 by omega), Option.bind_some, inc]
    refine ih _ (Fz_trans h1 (Fz_sI (Or.inl rfl))) ((zI_other _ _ (Or.inl (by decide))).trans h2) fun p hp => ?_
    by_cases hpi : p = i
    · rw [hpi, zI_same]
    · rw [zI_other _ _ (Or.inr hpi)]; exact h3 p (by omega)
/-- the acts that lie there -/
def AcH (A : List (Nat × Nat)) (M : zM) : Prop := zI M 46 20 = nI A.length ∧ ∀ i, i < A.length → NtH 53 (8 * i) (A.getD i (0, 0)) M
abbrev atA : Nat → Nat → Prop := fun a k => a = 53 ∨ (a = 46 ∧ k = 20)
theorem AcH_push {A : List (Nat × Nat)} {q : Nat × Nat} {M : zM} (hC : zC M) (h : AcH A M) (hA : A.length < 12) (hq : NtH 54 0 q M) :
    ∃ M', fp_X11_acted_L51 (fun M8 => (zgI 9 M8 46 20).bind fun (y9 : Int32) => (zpI 9 M8 46 20 (y9 + 1)).bind fun (M10 : zM) => some M10) 46 FU 0 M = some M' ∧ AcH (A ++ [q]) M' ∧ Fz atA M M' := by
  rw [n_0]
  refine up (P := fun i f => ∀ M1, Fz (fun a k => a = 53 ∧ 8 * A.length ≤ k) M M1 → (∀ k, k < i → zI M1 53 (8 * A.length + k) = zI M 54 (0 + k)) → ∃ M', fp_X11_acted_L51 (fun M8 => (zgI 9 M8 46 20).bind fun (y9 : Int32) => (zpI 9 M8 46 20 (y9 + 1)).bind fun (M10 : zM) => some M10) 46 f (nI i) M1 = some M' ∧ AcH (A ++ [q]) M' ∧ Fz atA M M') (a := 0) (n := 8) ?_ ?_ FU (by omega) (FU_gt (by omega)) M Fz_refl (fun p hp => by omega)
  · intro f M1 h1 h2
    have hC1 := Fz_C h1 hC
    have e0 : zI M1 46 20 = nI A.length := (h1.2 46 20 (by omega)).trans h.1
    refine ⟨zsI M1 46 20 (nI (A.length + 1)), by rw [fp_X11_acted_L51, if_pos (by decide), gI_46 hC1, Option.bind_some, e0, inc, pI_46 hC1, Option.bind_some], ⟨by rw [zI_same, List.length_append]; rfl, fun i hi => ?_⟩, Fz_trans (Fz_mono h1 fun a k z => Or.inl z.1) (Fz_sI (Or.inr ⟨rfl, rfl⟩))⟩
    rw [List.length_append] at hi
    have hi2 : i < A.length + 1 := hi
    by_cases hiA : i < A.length
    · rw [getD_app_l hiA]
      refine NtH_copy (h.2 i hiA) fun k hk => ?_
      rw [zI_other _ _ (Or.inl (by decide)), h1.2 53 _ (by omega)]
    · have : i = A.length := by omega
      rw [this, getD_app_r]
      exact NtH_copy hq fun k hk => by rw [zI_other _ _ (Or.inl (by decide)), h2 k hk]
  · intro i f _ hi ih M1 h1 h2
    have hC1 := Fz_C h1 hC
    have e0 : zI M1 46 20 = nI A.length := (h1.2 46 20 (by omega)).trans h.1
    rw [fp_X11_acted_L51, if_neg (by rw [n_8, ge_iff_le, n_le (by omega) (by omega)]; omega), gR_46_16 hC1, Option.bind_some, gI_46 hC1, Option.bind_some, e0, gR_46_17 hC1, Option.bind_some, lI_54 hC1 hi, Option.bind_some, n_8, n_mul, n_add, tI_53 hC1 (show 8 * A.length + i < 96 by omega), Option.bind_some, inc]
    refine ih _ (Fz_trans h1 (Fz_sI ⟨rfl, by omega⟩)) fun k hk => ?_
    by_cases hki : k = i
    · rw [hki, zI_same, h1.2 54 i (by omega), Nat.zero_add]
    · rw [zI_other _ _ (Or.inr (by omega))]; exact h2 k (by omega)
theorem getT_drop {l : List (Nat × Nat)} {i : Nat} (hi : i < (l.drop 1).length) : (l.drop 1).getD i (0, 0) = l.getD (i + 1) (0, 0) := by
  simp [List.getD, List.getElem?_drop, Nat.add_comm]
theorem y_acted {A : List (Nat × Nat)} {q : Nat × Nat} {M : zM} (hC : zC M) (h : AcH A M) (hA : A.length ≤ 12) (hq : NtH 54 0 q M) : ∃ M', fp_X11_acted 46 M = some M' ∧ AcH (pushA A q) M' ∧ Fz atA M M' := by
  unfold fp_X11_acted pushA
  rw [ts_46 hC, gI_46 hC, Option.bind_some, h.1, zjn_eq]
  by_cases h12 : A.length = 12
  · have e12 : nI A.length = 12 := by rw [h12]; decide
    rw [e12, if_neg (by decide), if_neg (by omega), show (8 : Int32) = nI 8 from n_8]
    refine up (P := fun i f => ∀ M1, Fz (fun a k => a = 53) M M1 → (∀ k, k < 96 → zI M1 53 k = if k + 8 < i then zI M 53 (k + 8) else zI M 53 k) → ∃ M', fp_X11_acted_L12
            (fun M15 =>
              (zgI 9 M15 46 20).bind fun (y16 : Int32) =>
              (zpI 9 M15 46 20 (y16 - 1)).bind fun (M17 : zM) =>
              fp_X11_acted_L51
          (fun M8 =>
            (zgI 9 M8 46 20).bind fun (y9 : Int32) =>
            (zpI 9 M8 46 20 (y9 + 1)).bind fun (M10 : zM) =>
            some M10) 46 FU 0 M17) 46 f (nI i) M1 = some M' ∧ AcH (A.drop 1 ++ [q]) M' ∧ Fz atA M M') (a := 8) (n := 96) ?_ ?_ FU (by omega) (FU_gt (by omega)) M Fz_refl (fun k hk => by rw [if_neg (by omega)])
    · intro f M1 h1 h2
      have hC1 := Fz_C h1 hC
      have e0 : zI M1 46 20 = nI 12 := (h1.2 46 20 (by decide)).trans (by rw [h.1, h12])
      rw [fp_X11_acted_L12, if_pos (by decide), gI_46 hC1, Option.bind_some, e0, n_1, n_sub (by decide), pI_46 hC1, Option.bind_some]
      have f2 : Fz atA M (zsI M1 46 20 (nI (12 - 1))) := Fz_trans (Fz_mono h1 fun a k z => Or.inl z) (Fz_sI (Or.inr ⟨rfl, rfl⟩))
      have hd : (A.drop 1).length = 11 := by rw [List.length_drop, h12]
      have hA2 : AcH (A.drop 1) (zsI M1 46 20 (nI (12 - 1))) := by
        refine ⟨by rw [zI_same, hd], fun i hi => ?_⟩
        rw [getT_drop hi]
        rw [hd] at hi
        refine NtH_copy (h.2 (i + 1) (by omega)) fun k hk => ?_
        rw [zI_other _ _ (Or.inl (by decide)), h2 _ (by omega), if_pos (by omega), show 8 * (i + 1) + k = 8 * i + k + 8 by omega]
      obtain ⟨M', e1, e2, e3⟩ := AcH_push (q := q) (show zC (zsI M1 46 20 (nI (12 - 1))) from hC1) hA2 (by rw [hd]; decide) (NtH_copy hq fun k hk => by rw [zI_other _ _ (Or.inl (by decide)), h1.2 54 _ (show ¬ 54 = 53 by decide)])
      exact ⟨M', e1, e2, Fz_trans f2 e3⟩
    · intro i f hi8 hi ih M1 h1 h2
      have hC1 := Fz_C h1 hC
      rw [fp_X11_acted_L12, if_neg (by rw [show (96 : Int32) = nI 96 from by decide, ge_iff_le, n_le (by omega) (by omega)]; omega), gR_46_16 hC1, Option.bind_some, Option.bind_some, lI_53 hC1 hi, Option.bind_some, h2 i hi, if_neg (by omega), n_8, n_sub hi8, tI_53 hC1 (show i - 8 < 96 by omega), Option.bind_some, inc]
      refine ih _ (Fz_trans h1 (Fz_sI rfl)) fun k hk => ?_
      by_cases hki : k = i - 8
      · rw [hki, zI_same, if_pos (by omega), show i - 8 + 8 = i by omega]
      · rw [zI_other _ _ (Or.inr hki), h2 k hk]
        by_cases h5 : k + 8 < i
        · rw [if_pos h5, if_pos (by omega)]
        · rw [if_neg h5, if_neg (by omega)]
  · rw [if_pos (by rw [show (12 : Int32) = nI 12 from by decide, ne_eq, n_eq (by omega) (by omega)]; exact h12), if_pos (by omega)]
    exact AcH_push hC h (by omega) hq
/-! the state is held on to -/
theorem IR_A {S : zSt} {M : zM} (h : IR S M) : AcH (sA S) M := h.2.2.2.2.2.2.1
theorem IR_tp {S : zSt} {M : zM} (h : IR S M) : zI M 46 5 = nI (sT S).length ∧ ∀ i, i < (sT S).length → zI M 48 i = sgb ((sT S).getD i 0) := h.2.2.2.2.1
theorem IR_im {S : zSt} {M : zM} (h : IR S M) {k : Nat} (hk : k < 3) : imR k (sI S k) M := h.2.2.2.2.2.2.2 k hk
theorem okZ_nw {S : zSt} {n L : Nat} {A : List (Nat × Nat)} (h : okZ S) (hn : n < 8) (hL : L < 2 ^ tri n) (h1 : A.length ≤ 12) (h2 : ∀ q ∈ A, okN q) : okZ (nwS S n L A) := ⟨⟨hn, hL⟩, h.2.1, h.2.2.1, h1, h2, h.2.2.2.2.2⟩
theorem IR_nw {S : zSt} {n L : Nat} {M M' : zM} (h : IR S M) (hf : Fz atN M M') (hn : n < 8) (hL : L < 2 ^ tri n) (hN : NrH n L M') : IR (nwS S n L (sA S)) M' := by
  obtain ⟨h1, h2, h3, h4, h5, h6, h7, h8⟩ := h
  exact ⟨okZ_nw h1 hn hL h1.2.2.2.1 h1.2.2.2.2.1, Fz_C hf h2, hN, (hf.2 _ _ (by omega)).trans h4, ⟨(hf.2 _ _ (by omega)).trans h5.1, fun i hi => (hf.2 _ _ (by omega)).trans (h5.2 i hi)⟩, flR_z h6 hf (by omega) (by omega), ⟨(hf.2 _ _ (by omega)).trans h7.1, fun i hi => NtH_z (h7.2 i hi) hf (fun k => by omega)⟩, fun k hk => imR_z (h8 k hk) hf (fun k => by omega) (fun k => by omega)⟩
theorem okA_push {S : zSt} (h : okZ S) : ∀ q ∈ pushA (sA S) (sN S, sL S), okN q := fun q hq => by
  rcases pushA_mem hq with q1 | q1
  · exact h.2.2.2.2.1 q q1
  · rw [q1]; exact h.1
theorem IR_ac {S : zSt} {A : List (Nat × Nat)} {M M' : zM} (h : IR S M) (hf : Fz (fun a k => atA a k ∨ a = 54) M M') (hA : AcH A M') (h1 : A.length ≤ 12) (h2 : ∀ q ∈ A, okN q) : IR (nwS S (sN S) (sL S) A) M' := by
  obtain ⟨g1, g2, g3, g4, g5, g6, g7, g8⟩ := h
  exact ⟨okZ_nw g1 g1.1.1 g1.1.2 h1 h2, Fz_C hf g2, NrH_z g3 hf (by omega) (fun k => by omega), (hf.2 _ _ (by omega)).trans g4, ⟨(hf.2 _ _ (by omega)).trans g5.1, fun i hi => (hf.2 _ _ (by omega)).trans (g5.2 i hi)⟩, flR_z g6 hf (by omega) (by omega), hA, fun k hk => imR_z (g8 k hk) hf (fun k => by omega) (fun k => by omega)⟩
theorem atN_R : ∀ a k, atN a k → atR a := fun a k q => by show 46 ≤ a ∧ a < 72; omega
theorem at47_R : ∀ a k, at47 a k → atR a := fun a k q => by show 46 ≤ a ∧ a < 72; omega
theorem L54 {M : zM} (h : zC M) : zL M 54 = 8 := h.2.2 (54, 8) (by decide +kernel)
theorem L55 {M : zM} (h : zC M) : zL M 55 = 24 := h.2.2 (55, 24) (by decide +kernel)
theorem L53 {M : zM} (h : zC M) : zL M 53 = 96 := h.2.2 (53, 96) (by decide +kernel)
theorem L69 {M : zM} (h : zC M) : zL M 69 = 8 := h.2.2 (69, 8) (by decide +kernel)
abbrev bgS (S : zSt) : zSt := nwS S (sN S) (sL S) (pushA (sA S) (sN S, sL S))
theorem y_aside {n L : Nat} {M : zM} (hC : zC M) (h : NrH n L M) (hn : n < 8) : ∃ M', fp_X11_puts 46 54 0 M = some M' ∧ NtH 54 0 (n, L) M' ∧ Fz (fun a _ => a = 54) M M' := by
  obtain ⟨M', e1, e2, e3⟩ := y_puts (a := 54) (b := 0) hC h hn (by decide) (by decide) (by decide) rfl (L54 hC) (by decide) (by decide)
  exact ⟨M', by rw [n_0]; exact e1, e2, Fz_mono e3 fun a k q => q.1⟩
theorem y_begins {S : zSt} {M : zM} (h : IR S M) : ∃ M', fp_X11_begins 46 M = some M' ∧ IR (bgS S) M' ∧ Fc atR M M' := by
  unfold fp_X11_begins
  have hC := IR_C h
  obtain ⟨g1, g2⟩ := IR_n h
  obtain ⟨M1, e1, e2, e3⟩ := y_aside hC (IR_N h) g2
  have hC1 := Fz_C e3 hC
  have hA := IR_A h
  obtain ⟨M2, f1, f2, f3⟩ := y_acted hC1 (show AcH (sA S) M1 from ⟨(e3.2 _ _ (by decide)).trans hA.1, fun i hi => NtH_z (hA.2 i hi) e3 (fun k => by decide)⟩) h.1.2.2.2.1 e2
  rw [ts_46 hC, gR_46_17 hC, Option.bind_some, e1, Option.bind_some, f1, Option.bind_some]
  have hf : Fz (fun a k => atA a k ∨ a = 54) M M2 := Fz_trans (Fz_mono e3 fun a k q => Or.inr q) (Fz_mono f3 fun a k q => Or.inl q)
  exact ⟨M2, rfl, IR_ac h hf f2 (pushA_len h.1.2.2.2.1) (okA_push h.1), Fz_c hf fun a k q => by show 46 ≤ a ∧ a < 72; omega⟩
/-- an act that makes this network -/
theorem IR_bc {S : zSt} {n L : Nat} {M M' : zM} (h : IR (bgS S) M) (hf : Fz atN M M') (hn : n < 8) (hL : L < 2 ^ tri n) (hN : NrH n L M') : IR (bcS S n L) M' := IR_nw h hf hn hL hN
theorem IR_bgN {S : zSt} {M : zM} (h : IR (bgS S) M) : NrH (sN S) (sL S) M := IR_N (S := bgS S) h
theorem y_near {S : zSt} {M : zM} (h : IR S M) (v : Int32) : RM (q_near S v) (fp_X11_near 46 v M) M := by
  unfold fp_X11_near q_near
  have hC := IR_C h
  obtain ⟨g1, g2⟩ := IR_n h
  rw [ts_46 hC, y_isPoint h, Option.bind_some]
  cases hv : asN v (sN S) with
  | none => rw [b_no, if_pos rfl]; exact y_rf h Fc_refl
  | some p =>
    obtain ⟨rfl, hp, hb⟩ := asN_some hv
    rw [b_so, if_neg (show ¬ (1 : Int32) = 0 by decide), gR_46_2 hC, Option.bind_some, lI_47 hC (show p < 8 by omega), Option.bind_some, (IR_N h).2 p hp]
    exact y_gv h Fc_refl
theorem y_add {S : zSt} {M : zM} (h : IR S M) (v : Int32) : RM (q_add S v) (fp_X11_add 46 v M) M := by
  unfold fp_X11_add q_add
  have hC := IR_C h
  obtain ⟨g1, g2⟩ := IR_n h
  rw [ts_46 hC, y_isSet h, Option.bind_some]
  cases hv : asN v (2 ^ sN S) with
  | none => rw [b_no, if_neg (by decide)]; exact y_rf h Fc_refl
  | some s =>
    obtain ⟨rfl, hp, hb⟩ := asN_some hv
    rw [b_so, if_pos (show (1 : Int32) ≠ 0 by decide), gI_46 hC, Option.bind_some, g1]
    dsimp only
    by_cases h7 : sN S = 7
    · rw [if_pos h7, if_neg (by rw [h7]; decide)]; exact y_rf h Fc_refl
    · rw [if_neg h7, if_pos (by rw [n_7, ne_eq, n_eq (by omega) (by omega)]; exact h7)]
      obtain ⟨M1, e1, e2, e3⟩ := y_begins h
      obtain ⟨M2, f1, f2, f3⟩ := y_comes (IR_C e2) (IR_bgN e2) (show sN S < 7 by omega) (IR_L h) hp
      rw [e1, Option.bind_some, f1, Option.bind_some, gI_46 (Fz_C f3 (IR_C e2)), Option.bind_some, f2.1, n_1, n_sub (by omega), Nat.add_sub_cancel]
      exact y_gv (IR_bc e2 f3 (by omega) (add_lt (IR_L h) hp) f2) (Fc_trans e3 (Fz_c f3 atN_R))
/-! a point goes -/
def wot (s p : Nat) : Nat := (s &&& (1 <<< p - 1)) ||| ((s >>> (p + 1)) <<< p)
theorem y_without : ∀ s, s < 128 → ∀ p, p < 7 → fp_X11_without (nI s) (nI p) = some (nI (wot s p)) := by decide +kernel
def skq (p j : Nat) : Nat := if j < p then j else j + 1
theorem wot_tb (s p i : Nat) : (wot s p).testBit i = s.testBit (skq p i) := by
  unfold wot skq
  rw [Nat.testBit_or, Nat.testBit_and, all_tb, Nat.testBit_shiftLeft, Nat.testBit_shiftRight]
  by_cases h : i < p
  · rw [if_pos h, decide_eq_true h, decide_eq_false (by omega), Bool.false_and, Bool.or_false, Bool.and_true]
  · rw [if_neg h, decide_eq_false h, decide_eq_true (by omega), Bool.and_false, Bool.false_or, Bool.true_and]
    congr 1; omega
def drS (n p : Nat) : Nat := (1 <<< n - 1) ^^^ 1 <<< p
theorem sel_dr : ∀ n, n < 8 → ∀ p, p < n → ∀ j, j < n - 1 → sel (drS n p).testBit n j = skq p j := by decide +kernel
theorem row_drop {n L p j : Nat} (hn : n < 8) (hp : p < n) (hj : j < n - 1) : row (n - 1) (part n L (drS n p)) j = wot (row n L (skq p j)) p := by
  apply Nat.eq_of_testBit_eq
  intro i
  have hc : cnt (drS n p).testBit n = n - 1 := drop_cnt n hn p hp
  rw [row_tb, wot_tb, row_tb]
  by_cases hi : i < n - 1
  · rw [decide_eq_true hi, Bool.true_and, part_adj hn (by omega) (by omega), sel_dr n hn p hp j hj, sel_dr n hn p hp i hi, decide_eq_true (by unfold skq; split <;> omega), Bool.true_and]
  · rw [decide_eq_false hi, decide_eq_false (by unfold skq; split <;> omega), Bool.false_and, Bool.false_and]
/-- what the rows are while a point goes -/
def DrI (n L p i : Nat) (M : zM) : Prop := (∀ j, j < n → i ≤ j → zI M 47 j = nI (row n L j)) ∧ ∀ j, j < n - 1 → (if j < p then j + 1 ≤ i else j + 2 ≤ i) → zI M 47 j = nI (wot (row n L (skq p j)) p)
theorem DrI_s {n L p i : Nat} {M : zM} (hi : i < n) (h : DrI n L p i M) : DrI n L p (i + 1) (zsI M 47 (if i ≤ p then i else i - 1) (nI (wot (row n L i) p))) := by
  refine ⟨fun j hj hij => ?_, fun j hj hc => ?_⟩
  · rw [zI_other _ _ (Or.inr (by split <;> omega))]
    exact h.1 j hj (by omega)
  · by_cases hji : j = if i ≤ p then i else i - 1
    · have : skq p j = i := by
        unfold skq
        by_cases h1 : i ≤ p
        · rw [if_pos h1] at hji
          by_cases h2 : j < p
          · rw [if_pos h2]; exact hji
          · rw [if_neg h2] at hc; omega
        · rw [if_neg h1] at hji
          rw [if_neg (by omega)]; omega
      rw [← hji, zI_same, this]
    · rw [zI_other _ _ (Or.inr hji)]
      refine h.2 j hj ?_
      by_cases h2 : j < p
      · rw [if_pos h2] at hc ⊢
        by_cases h1 : i ≤ p
        · rw [if_pos h1] at hji; omega
        · omega
      · rw [if_neg h2] at hc ⊢
        by_cases h1 : i ≤ p
        · omega
        · rw [if_neg h1] at hji; omega
theorem y_drop {S : zSt} {M : zM} (h : IR S M) (v : Int32) : RM (q_drop S v) (fp_X11_drop 46 v M) M := by
  unfold fp_X11_drop q_drop
  have hC := IR_C h
  obtain ⟨g1, g2⟩ := IR_n h
  rw [ts_46 hC, y_isPoint h, Option.bind_some]
  cases hv : asN v (sN S) with
  | none => rw [b_no, if_neg (by decide)]; exact y_rf h Fc_refl
  | some p =>
    obtain ⟨rfl, hp, hb⟩ := asN_some hv
    rw [b_so, if_pos (show (1 : Int32) ≠ 0 by decide)]
    dsimp only
    obtain ⟨M1, e1, e2, e3⟩ := y_begins h
    have hC1 := IR_C e2
    have hN1 : NrH (sN S) (sL S) M1 := IR_bgN e2
    have hd : cnt (drS (sN S) p).testBit (sN S) = sN S - 1 := drop_cnt _ g2 p hp
    rw [e1, Option.bind_some, n_0]
    refine up (P := fun i f => ∀ M2, Fz at47 M1 M2 → DrI (sN S) (sL S) p i M2 → RM (gv (bcS S (sN S - 1) (part (sN S) (sL S) (drS (sN S) p))) (nI (sN S - 1))) (fp_X11_drop_L20
        (fun M11 =>
          (zgI 9 M11 46 0).bind fun (y12 : Int32) =>
          (zpI 9 M11 46 0 (y12 - 1)).bind fun (M13 : zM) =>
          (zgI 9 M13 46 0).bind fun (y14 : Int32) =>
          (fp_X11_gives 46 y14 M13).bind fun p17 => zpp p17 fun (y15 : Int32) (M16 : zM) =>
          some (y15, M16)) 46 (nI p) f (nI i) M2) M) (a := 0) (n := sN S) ?_ ?_ FU (by omega) (FU_gt (by omega)) M1 Fz_refl ⟨fun j hj _ => hN1.2 j hj, fun j hj hc => by split at hc <;> omega⟩
    · intro f M2 h1 h2
      have hC2 := Fz_C h1 hC1
      have e0 : zI M2 46 0 = nI (sN S) := (n47 h1).trans hN1.1
      have hC3 : zC (zsI M2 46 0 (nI (sN S - 1))) := hC2
      rw [fp_X11_drop_L20, gI_46 hC2, Option.bind_some, e0, stp, Option.bind_some, n_1, n_sub (by omega), pI_46 hC2, Option.bind_some, gI_46 hC3, Option.bind_some, zI_same]
      have f3 : Fz atN M1 (zsI M2 46 0 (nI (sN S - 1))) := Fz_trans (Fz_mono h1 fun a k q => Or.inl q) (Fz_sI (Or.inr ⟨rfl, rfl⟩))
      refine y_gv (IR_bc e2 f3 (by omega) (by have := part_lt' (sN S) (sL S) (drS (sN S) p); rwa [hd] at this) ⟨zI_same _ _ _ _, fun j hj => ?_⟩) (Fc_trans e3 (Fz_c f3 atN_R))
      rw [zI_other _ _ (Or.inl (by decide)), h2.2 j hj (by split <;> omega), row_drop g2 hp hj]
    · intro i f _ hi ih M2 h1 h2
      have hC2 := Fz_C h1 hC1
      have e0 : zI M2 46 0 = nI (sN S) := (n47 h1).trans hN1.1
      rw [fp_X11_drop_L20, gI_46 hC2, Option.bind_some, e0, go hi (by omega), gR_46_2 hC2, Option.bind_some, zjn_eq, inc]
      dsimp only
      rw [Option.bind_some, Option.bind_some, lI_47 hC2 (show i < 8 by omega), Option.bind_some, Option.bind_some, h2.1 i hi (Nat.le_refl _), y_without _ (lt128 g2 (row_lt _ _ _)) _ (by omega), Option.bind_some, Option.bind_some]
      have nx := ih _ (Fz_trans h1 (Fz_sI (k := if i ≤ p then i else i - 1) (v := nI (wot (row (sN S) (sL S) i) p)) rfl)) (DrI_s hi h2)
      by_cases hip : i ≤ p
      · rw [if_pos (by rw [n_le (by omega) (by omega)]; exact hip), tI_47 hC2 (show i < 8 by omega), Option.bind_some]
        rw [if_pos hip] at nx; exact nx
      · rw [if_neg (by rw [n_le (by omega) (by omega)]; exact hip), n_1, n_sub (by omega), tI_47 hC2 (show i - 1 < 8 by omega), Option.bind_some, ← n_1]
        rw [if_neg hip] at nx; exact nx
theorem y_wrongTwo {S : zSt} {M : zM} (h : IR S M) (a b : Int32) : fp_X11_wrongTwo 46 a b M = some (match tw S a b with | .inl k => k | .inr _ => 0) := by
  unfold fp_X11_wrongTwo tw
  have g2 := (IR_n h).2
  rw [ts_46 (IR_C h), y_isPoint h, Option.bind_some, zjn_eq, y_isPoint h]
  cases ha : asN a (sN S) with
  | none => rfl
  | some x =>
    rw [b_so, if_neg (show ¬ (1 : Int32) = 0 by decide), Option.bind_some]
    obtain ⟨rfl, hx, hb⟩ := asN_some ha
    cases hb' : asN b (sN S) with
    | none => rfl
    | some y =>
      rw [b_so, if_pos (show (1 : Int32) ≠ 0 by decide)]
      obtain ⟨rfl, hy, hb2⟩ := asN_some hb'
      by_cases hxy : x = y
      · rw [hxy, if_neg (fun q => q rfl)]; dsimp only; rw [if_pos rfl]
      · rw [if_pos (by rw [ne_eq, n_eq hb hb2]; exact hxy)]; dsimp only; rw [if_neg hxy]
theorem tw_pos {S : zSt} {a b k : Int32} (h : tw S a b = .inl k) : k = 2 ∨ k = 4 := by
  unfold tw at h
  split at h
  · split at h
    · cases h; exact Or.inr rfl
    · cases h
  · cases h; exact Or.inl rfl
theorem flp_adj {n L a b : Nat} (hn : n < 8) (ha : a < n) (hb : b < n) (hab : a ≠ b) : (row n (flp L a b) a).testBit b = adj (flp L a b) a b := by rw [row_tb, decide_eq_true hb, Bool.true_and]
theorem y_flip {S : zSt} {M : zM} (h : IR S M) (a b : Int32) : RM (q_flip S a b) (fp_X11_flip 46 a b M) M := by
  unfold fp_X11_flip q_flip
  have hC := IR_C h
  obtain ⟨g1, g2⟩ := IR_n h
  rw [ts_46 hC, y_wrongTwo h, Option.bind_some]
  rcases tw_cases g2 a b with ⟨k, e, hk⟩ | ⟨x, y, e, rfl, rfl, hx, hy, hxy⟩
  · rw [e]
    dsimp only
    rw [if_neg (by rcases tw_pos e with rfl | rfl <;> decide)]
    exact y_rf h Fc_refl
  · rw [e]
    dsimp only
    rw [if_pos (by decide)]
    obtain ⟨M1, e1, e2, e3⟩ := y_begins h
    obtain ⟨M2, f1, f2, f3⟩ := y_flips (IR_C e2) (IR_bgN e2) g2 hx hy hxy
    have hC2 := Fz_C f3 (IR_C e2)
    rw [e1, Option.bind_some, f1, Option.bind_some, gR_46_2 hC2, Option.bind_some, lI_47 hC2 (show x < 8 by omega), Option.bind_some, f2.2 x hx, y_has1 (lt128 g2 (row_lt _ _ _)) (by omega), Option.bind_some]
    have f4 := Fz_mono (Q := atN) f3 fun a k q => Or.inl q
    have hI : IR (bcS S (sN S) (flp (sL S) x y)) M2 := IR_bc e2 f4 g2 (flp_lt g2 (IR_L h) hx hy hxy) f2
    have hr := y_gv (v := bI ((row (sN S) (flp (sL S) x y) x).testBit y)) hI (Fc_trans e3 (Fz_c f4 atN_R))
    rw [show bI (adj (sL S ^^^ 1 <<< pr x y) x y) = bI ((row (sN S) (flp (sL S) x y) x).testBit y) from congrArg bI (flp_adj g2 hx hy hxy).symm]
    cases hq : (row (sN S) (flp (sL S) x y) x).testBit y with
    | false => rw [hq] at hr; exact hr
    | true => rw [hq] at hr; exact hr
theorem y_turn {S : zSt} {M : zM} (h : IR S M) (v : Int32) : RM (q_turn S v) (fp_X11_turn 46 v M) M := by
  unfold fp_X11_turn q_turn
  have hC := IR_C h
  obtain ⟨g1, g2⟩ := IR_n h
  rw [ts_46 hC, y_isPoint h, Option.bind_some]
  cases hv : asN v (sN S) with
  | none => rw [b_no, if_neg (by decide)]; exact y_rf h Fc_refl
  | some p =>
    obtain ⟨rfl, hp, hb⟩ := asN_some hv
    rw [b_so, if_pos (show (1 : Int32) ≠ 0 by decide)]
    obtain ⟨M1, e1, e2, e3⟩ := y_begins h
    obtain ⟨M2, f1, f2, f3⟩ := y_turns0 (IR_C e2) (IR_bgN e2) g2 (IR_L h) hp
    have hC2 := Fz_C f3 (IR_C e2)
    have f4 := Fz_mono (Q := atN) f3 fun a k q => Or.inl q
    rw [e1, Option.bind_some, f1, Option.bind_some, y_lines hC2 f2 g2 (turn_lt _ _ _), Option.bind_some]
    exact y_gv (IR_bc e2 f4 g2 (turn_lt _ _ _) f2) (Fc_trans e3 (Fz_c f4 atN_R))
theorem y_swing {S : zSt} {M : zM} (h : IR S M) (a b : Int32) : RM (q_swing S a b) (fp_X11_swing 46 a b M) M := by
  unfold fp_X11_swing q_swing
  have hC := IR_C h
  obtain ⟨g1, g2⟩ := IR_n h
  rw [ts_46 hC, y_wrongTwo h, Option.bind_some, zjn_eq]
  rcases tw_cases g2 a b with ⟨k, e, hk⟩ | ⟨x, y, e, rfl, rfl, hx, hy, hxy⟩
  · rw [e]
    dsimp only
    rw [if_pos hk, if_neg (by rcases tw_pos e with rfl | rfl <;> decide)]
    exact y_rf h Fc_refl
  · rw [e]
    dsimp only
    rw [if_neg (show ¬ ((0 : Int32) ≠ 0) from fun z => z rfl), gR_46_2 hC, Option.bind_some, lI_47 hC (show x < 8 by omega), Option.bind_some, (IR_N h).2 x hx, y_has1 (lt128 g2 (row_lt _ _ _)) (by omega), Option.bind_some, row_tb, decide_eq_true hy, Bool.true_and]
    cases hA : adj (sL S) x y with
    | false =>
      rw [if_neg (show ¬ (false = true) by decide), if_neg (show ¬ (bI false ≠ 0) by decide), if_neg (by decide)]
      exact y_rf h Fc_refl
    | true =>
      rw [if_pos (show true = true from rfl), if_pos (show bI true ≠ 0 by decide), if_pos (by decide)]
      obtain ⟨M1, e1, e2, e3⟩ := y_begins h
      obtain ⟨M2, f1, f2, f3⟩ := y_swings (IR_C e2) (IR_bgN e2) g2 (IR_L h) hx hy
      have hC2 := Fz_C f3 (IR_C e2)
      have f4 := Fz_mono (Q := atN) f3 fun a k q => Or.inl q
      rw [e1, Option.bind_some, f1, Option.bind_some, y_lines hC2 f2 g2 (swing_lt _ _ _ _), Option.bind_some]
      exact y_gv (IR_bc e2 f4 g2 (swing_lt _ _ _ _) f2) (Fc_trans e3 (Fz_c f4 atN_R))

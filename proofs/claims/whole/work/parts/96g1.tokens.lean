/-! ===== 96g1: the reference: the text's tokens ===== -/
def TxR (T : List Nat) (M : zM) : Prop := zC M ∧ zI M 46 6 = nI T.length ∧ T.length ≤ 200 ∧ ∀ i, i < T.length → zI M 49 i = sgb (T.getD i 0)
theorem TxR_z {T : List Nat} {P : Nat → Nat → Prop} {M M' : zM} (h : TxR T M) (hf : Fz P M M') (h1 : ¬ P 46 6) (h2 : ∀ k, ¬ P 49 k) : TxR T M' :=
  ⟨Fz_C hf h.1, (hf.2 _ _ h1).trans h.2.1, h.2.2.1, fun i hi => (hf.2 _ _ (h2 i)).trans (h.2.2.2 i hi)⟩
theorem sg_255 : ∀ x, x < 256 → sgb x &&& 255 = nI x := by decide +kernel
theorem y_byteAt {T : List Nat} {M : zM} {i : Nat} (h : TxR T M) (hT : ∀ x ∈ T, x < 256) (hi : i < 2 ^ 20) : fp_X11_byteAt 46 (nI i) M = some (if i < T.length then nI (T.getD i 0) else -1) := by
  unfold fp_X11_byteAt
  have hC := h.1
  have h200 := h.2.2.1
  rw [ts_46 hC, gI_46 hC 6, Option.bind_some, h.2.1]
  by_cases hl : i < T.length
  · rw [go hl (by omega), gR_46_4 hC, Option.bind_some, lI_49 hC (by omega), Option.bind_some, h.2.2.2 i hl, sg_255 _ (hT _ (getD_mem hl)), if_pos hl]
  · rw [if_pos (show nI i ≥ nI T.length by rw [ge_iff_le, n_le (by omega) (by omega)]; omega), if_neg hl]
theorem y_sml {T : List Nat} {i : Nat} (hT : ∀ x ∈ T, x < 256) : fp_X11_isSmall (if i < T.length then nI (T.getD i 0) else -1) = some (bI (smlT T i)) := by
  unfold fp_X11_isSmall smlT
  by_cases hl : i < T.length
  · have hx := hT _ (getD_mem hl)
    rw [if_pos hl, decide_eq_true hl, Bool.true_and, n_97, show (122 : Int32) = nI 122 from by decide]
    by_cases h1 : T.getD i 0 < 97
    · rw [if_pos (by rw [n_lt (by omega) (by omega)]; exact h1), decide_eq_false (by omega : ¬ 97 ≤ T.getD i 0)]; rfl
    · rw [if_neg (by rw [n_lt (by omega) (by omega)]; exact h1), decide_eq_true (by omega : 97 ≤ T.getD i 0)]
      by_cases h2 : T.getD i 0 ≤ 122
      · rw [if_neg (by rw [gt_iff_lt, n_lt (by omega) (by omega)]; omega), decide_eq_true h2]; rfl
      · rw [if_pos (by rw [gt_iff_lt, n_lt (by omega) (by omega)]; omega), decide_eq_false h2]; rfl
  · rw [if_neg hl, decide_eq_false hl, Bool.false_and]; decide
theorem y_dgt {T : List Nat} {i : Nat} (hT : ∀ x ∈ T, x < 256) : fp_X11_isDigit (if i < T.length then nI (T.getD i 0) else -1) = some (bI (dgtT T i)) := by
  unfold fp_X11_isDigit dgtT
  by_cases hl : i < T.length
  · have hx := hT _ (getD_mem hl)
    rw [if_pos hl, decide_eq_true hl, Bool.true_and, n_48, show (57 : Int32) = nI 57 from by decide]
    by_cases h1 : T.getD i 0 < 48
    · rw [if_pos (by rw [n_lt (by omega) (by omega)]; exact h1), decide_eq_false (by omega : ¬ 48 ≤ T.getD i 0)]; rfl
    · rw [if_neg (by rw [n_lt (by omega) (by omega)]; exact h1), decide_eq_true (by omega : 48 ≤ T.getD i 0)]
      by_cases h2 : T.getD i 0 ≤ 57
      · rw [if_neg (by rw [gt_iff_lt, n_lt (by omega) (by omega)]; omega), decide_eq_true h2]; rfl
      · rw [if_pos (by rw [gt_iff_lt, n_lt (by omega) (by omega)]; omega), decide_eq_false h2]; rfl
  · rw [if_neg hl, decide_eq_false hl, Bool.false_and]; decide
theorem y_blk {α : Type} {T : List Nat} {i : Nat} (hT : ∀ x ∈ T, x < 256) (A B : α) : (if (if i < T.length then nI (T.getD i 0) else (-1 : Int32)) = 32 then A else if (if i < T.length then nI (T.getD i 0) else (-1 : Int32)) ≠ 10 then B else A) = if blkT T i = true then A else B := by
  unfold blkT
  by_cases hl : i < T.length
  · have hx := hT _ (getD_mem hl)
    rw [if_pos hl, decide_eq_true hl, Bool.true_and, show (32 : Int32) = nI 32 from by decide, show (10 : Int32) = nI 10 from by decide]
    by_cases h1 : T.getD i 0 = 32
    · rw [if_pos (show nI (T.getD i 0) = nI 32 by rw [h1]), decide_eq_true h1]; rfl
    · rw [if_neg (show ¬ nI (T.getD i 0) = nI 32 by rw [n_eq (by omega) (by omega)]; exact h1), decide_eq_false h1]
      by_cases h2 : T.getD i 0 = 10
      · rw [if_neg (show ¬ nI (T.getD i 0) ≠ nI 10 by rw [h2]; exact fun q => q rfl), decide_eq_true h2]; rfl
      · rw [if_pos (show nI (T.getD i 0) ≠ nI 10 by rw [ne_eq, n_eq (by omega) (by omega)]; exact h2), decide_eq_false h2]; rfl
  · rw [if_neg hl, decide_eq_false hl, Bool.false_and, if_neg (by decide), if_pos (by decide)]; rfl
/-- a token's kind, as the reference counts it -/
def rkd (k : Nat) : Nat := if k = 0 then 0 else if k = 4 then 1 else k + 1
def TkH (T : List Nat) (e : Nat) (M : zM) : Prop := zI M 46 7 = nI (rkd (tokS T e).1) ∧ zI M 46 8 = nI (tokS T e).2.1 ∧ ((tokS T e).1 ≠ 4 → zI M 46 9 = nI (tokS T e).2.2)
abbrev atO9 : Nat → Nat → Prop := fun a k => a = 46 ∧ (k = 7 ∨ k = 8 ∨ k = 9)
theorem TkH_z {T : List Nat} {e : Nat} {P : Nat → Nat → Prop} {M M' : zM} (h : TkH T e M) (hf : Fz P M M') (h1 : ¬ P 46 7) (h2 : ¬ P 46 8) (h3 : ¬ P 46 9) : TkH T e M' :=
  ⟨(hf.2 _ _ h1).trans h.1, (hf.2 _ _ h2).trans h.2.1, fun q => (hf.2 _ _ h3).trans (h.2.2 q)⟩
theorem skp_n {f : Nat → Bool} {len i : Nat} (hf : ∀ j, f j = true → j < len) (hi : i ≤ len) : (f i = true → skp f len i = skp f len (i + 1)) ∧ (f i = false → skp f len i = i) := ⟨fun h => skp_t hf h, fun h => skp_f hi h⟩
/-- behind the blanks -/
def tokK (M11 : zM) : Option zM :=
          (zgI 9 M11 46 9).bind fun (y12 : Int32) =>
          (zpI 9 M11 46 8 y12).bind fun (M13 : zM) =>
          (zgI 9 M13 46 9).bind fun (y14 : Int32) =>
          (fp_X11_byteAt 46 y14 M13).bind fun (y15 : Int32) =>
          if y15 ≠ (-1) then (
            (zgI 9 M13 46 9).bind fun (y16 : Int32) =>
            (zpI 9 M13 46 9 (y16 + 1)).bind fun (M17 : zM) =>
            (fp_X11_isSmall y15).bind fun (y18 : Int32) =>
            zjn (fun (s19 : Int32) (s20 : Nat) =>
                (zpI 9 M17 s20 7 s19).bind fun (M21 : zM) =>
                fp_X11_ahead_L114
                  (fun M28 =>
                    (zgI 9 M28 46 7).bind fun (y29 : Int32) =>
                    if y29 ≠ 3 then (
                      some M28)
                    else (
                      (zgI 9 M28 46 9).bind fun (y30 : Int32) =>
                      (fp_X11_byteAt 46 y30 M28).bind fun (y31 : Int32) =>
                      (fp_X11_isDigit y31).bind fun (y32 : Int32) =>
                      if y32 ≠ 0 then (
                        (zpI 9 M28 46 7 1).bind fun (M33 : zM) =>
                        fp_X11_ahead_L177 46 FU M33)
                      else (
                        some M28))) 46 FU M21)
              (fun j111 =>
                if y18 = 0 then (
                  (fp_X11_isDigit y15).bind fun (y39 : Int32) =>
                  if y39 = 0 then (
                    if y15 ≠ 59 then (
                      j111 1 46)
                    else (
                      j111 4 46))
                  else (
                    j111 3 46))
                else (
                  j111 2 46)))
          else (
            (zpI 9 M13 46 7 0).bind fun (M40 : zM) =>
            some M40)
theorem ahead_eq {T : List Nat} {e : Nat} {M : zM} (h : TxR T M) (hT : ∀ x ∈ T, x < 256) (he : zI M 46 9 = nI e) (hle : e ≤ T.length) :
    fp_X11_ahead 46 M = if blkT T e = true then fp_X11_ahead_L0 tokK 46 FU (zsI M 46 9 (nI (e + 1))) else tokK M := by
  have hC := h.1
  have h200 := h.2.2.1
  have hb := y_byteAt h hT (show e < 2 ^ 20 by omega)
  unfold fp_X11_ahead
  rw [ts_46 hC]
  simp only [gI_46 hC 9, he, hb, Option.bind_some, inc, pI_46 hC 9]
  refine (y_blk (i := e) hT _ _).trans ?_
  cases blkT T e with
  | true => rfl
  | false =>
    rw [if_neg (by decide), if_neg (by decide)]
    unfold tokK
    simp only [gI_46 hC 9, he, Option.bind_some]
/-- blanks -/
theorem y_blanks {T : List Nat} {M : zM} (hT : ∀ x ∈ T, x < 256) : ∀ d i f M1, i + d = T.length → d < f → TxR T M1 → zI M1 46 9 = nI i → Fz atO9 M M1 → ∃ M2, fp_X11_ahead_L0 tokK 46 f M1 = tokK M2 ∧ TxR T M2 ∧ zI M2 46 9 = nI (skp (blkT T) T.length i) ∧ Fz atO9 M M2 := by
  have step : ∀ i f M1, i ≤ T.length → TxR T M1 → zI M1 46 9 = nI i → fp_X11_ahead_L0 tokK 46 (f + 1) M1 = if blkT T i = true then fp_X11_ahead_L0 tokK 46 f (zsI M1 46 9 (nI (i + 1))) else tokK M1 := by
    intro i f M1 h1 h2 h3
    have h200 := h2.2.2.1
    rw [fp_X11_ahead_L0, gI_46 h2.1 9, Option.bind_some, h3, y_byteAt h2 hT (by omega), Option.bind_some, zjn_eq, Option.bind_some, Option.bind_some, inc, pI_46 h2.1, Option.bind_some, y_byteAt h2 hT (by omega), Option.bind_some]
    exact y_blk hT _ _
  intro d
  induction d with
  | zero =>
    intro i f M1 h1 h2 h3 h4 h5
    obtain ⟨f, rfl⟩ : ∃ g, f = g + 1 := ⟨f - 1, by omega⟩
    have hb : blkT T i = false := by
      cases hb : blkT T i with
      | false => rfl
      | true => have := blk_lt i hb; omega
    exact ⟨M1, by rw [step i f M1 (by omega) h3 h4, hb, if_neg (by decide)], h3, by rw [skp_f (by omega) hb]; exact h4, h5⟩
  | succ d ih =>
    intro i f M1 h1 h2 h3 h4 h5
    obtain ⟨f, rfl⟩ : ∃ g, f = g + 1 := ⟨f - 1, by omega⟩
    cases hb : blkT T i with
    | false => exact ⟨M1, by rw [step i f M1 (by omega) h3 h4, hb, if_neg (by decide)], h3, by rw [skp_f (by omega) hb]; exact h4, h5⟩
    | true =>
      have hf : Fz atO9 M1 (zsI M1 46 9 (nI (i + 1))) := Fz_sI (by omega)
      obtain ⟨M2, a1, a2, a3, a4⟩ := ih (i + 1) f (zsI M1 46 9 (nI (i + 1))) (by omega) (by omega) (TxR_z h3 hf (by omega) (fun k => by omega)) (zI_same _ _ _ _) (Fz_trans h5 hf)
      exact ⟨M2, by rw [step i f M1 (by omega) h3 h4, hb, if_pos rfl, a1], a2, by rw [skp_t blk_lt hb]; exact a3, a4⟩
theorem y_wordEnd {T : List Nat} {M : zM} (K : zM → Option zM) (hT : ∀ x ∈ T, x < 256) : ∀ d i f M1, i + d = T.length → d < f → TxR T M1 → zI M1 46 7 = nI 2 → zI M1 46 9 = nI i → Fz (fun a k => a = 46 ∧ k = 9) M M1 → ∃ M2, fp_X11_ahead_L114 K 46 f M1 = K M2 ∧ zI M2 46 9 = nI (skp (smlT T) T.length i) ∧ Fz (fun a k => a = 46 ∧ k = 9) M M2 := by
  intro d
  induction d with
  | zero =>
    intro i f M1 h1 h2 h3 h0 h4 h5
    obtain ⟨f, rfl⟩ : ∃ g, f = g + 1 := ⟨f - 1, by omega⟩
    have h200 := h3.2.2.1
    have hb : smlT T i = false := by
      cases hb : smlT T i with
      | false => rfl
      | true => have := sml_lt i hb; omega
    refine ⟨M1, ?_, by rw [skp_f (by omega) hb]; exact h4, h5⟩
    rw [fp_X11_ahead_L114, gI_46 h3.1 7, Option.bind_some, h0, if_neg (show ¬ nI 2 ≠ 2 by decide), gI_46 h3.1 9, Option.bind_some, h4, y_byteAt h3 hT (by omega), Option.bind_some, y_sml hT, Option.bind_some, hb, b_ff, if_pos rfl]
  | succ d ih =>
    intro i f M1 h1 h2 h3 h0 h4 h5
    obtain ⟨f, rfl⟩ : ∃ g, f = g + 1 := ⟨f - 1, by omega⟩
    have h200 := h3.2.2.1
    rw [fp_X11_ahead_L114, gI_46 h3.1 7, Option.bind_some, h0, if_neg (show ¬ nI 2 ≠ 2 by decide), gI_46 h3.1 9, Option.bind_some, h4, y_byteAt h3 hT (by omega), Option.bind_some, y_sml hT, Option.bind_some]
    cases hb : smlT T i with
    | false => exact ⟨M1, by rw [b_ff, if_pos rfl], by rw [skp_f (by omega) hb]; exact h4, h5⟩
    | true =>
      have hf : Fz (fun a k => a = 46 ∧ k = 9) M1 (zsI M1 46 9 (nI (i + 1))) := Fz_sI ⟨rfl, rfl⟩
      obtain ⟨M2, a1, a2, a3⟩ := ih (i + 1) f (zsI M1 46 9 (nI (i + 1))) (by omega) (by omega) (TxR_z h3 hf (by omega) (fun k => by omega)) (by rw [zI_other _ _ (Or.inr (by decide))]; exact h0) (zI_same _ _ _ _) (Fz_trans h5 hf)
      exact ⟨M2, by rw [b_tt, if_neg (show ¬ (1 : Int32) = 0 by decide), Option.bind_some, pI_46 h3.1, Option.bind_some, inc, a1], by rw [skp_t sml_lt hb]; exact a2, a3⟩
theorem y_digits {T : List Nat} {M : zM} (hT : ∀ x ∈ T, x < 256) : ∀ d i f M1, i + d = T.length → d < f → TxR T M1 → zI M1 46 9 = nI i → Fz (fun a k => a = 46 ∧ k = 9) M M1 → ∃ M2, fp_X11_ahead_L177 46 f M1 = some M2 ∧ Fz (fun a k => a = 46 ∧ k = 9) M M2 := by
  intro d
  induction d with
  | zero =>
    intro i f M1 h1 h2 h3 h4 h5
    obtain ⟨f, rfl⟩ : ∃ g, f = g + 1 := ⟨f - 1, by omega⟩
    have h200 := h3.2.2.1
    have hb : dgtT T i = false := by unfold dgtT; rw [decide_eq_false (by omega), Bool.false_and]
    exact ⟨M1, by rw [fp_X11_ahead_L177, gI_46 h3.1 9, Option.bind_some, h4, y_byteAt h3 hT (by omega), Option.bind_some, y_dgt hT, Option.bind_some, hb, b_ff, if_pos rfl], h5⟩
  | succ d ih =>
    intro i f M1 h1 h2 h3 h4 h5
    obtain ⟨f, rfl⟩ : ∃ g, f = g + 1 := ⟨f - 1, by omega⟩
    have h200 := h3.2.2.1
    rw [fp_X11_ahead_L177, gI_46 h3.1 9, Option.bind_some, h4, y_byteAt h3 hT (by omega), Option.bind_some, y_dgt hT, Option.bind_some]
    cases hb : dgtT T i with
    | false => exact ⟨M1, by rw [b_ff, if_pos rfl], h5⟩
    | true =>
      have hf : Fz (fun a k => a = 46 ∧ k = 9) M1 (zsI M1 46 9 (nI (i + 1))) := Fz_sI ⟨rfl, rfl⟩
      obtain ⟨M2, a1, a3⟩ := ih (i + 1) f (zsI M1 46 9 (nI (i + 1))) (by omega) (by omega) (TxR_z h3 hf (by omega) (fun k => by omega)) (zI_same _ _ _ _) (Fz_trans h5 hf)
      exact ⟨M2, by rw [b_tt, if_neg (show ¬ (1 : Int32) = 0 by decide), Option.bind_some, pI_46 h3.1, Option.bind_some, inc, a1], a3⟩
theorem y_tokK {T : List Nat} {e s : Nat} {M : zM} (h : TxR T M) (hT : ∀ x ∈ T, x < 256) (hs : s = skp (blkT T) T.length e) (he : zI M 46 9 = nI s) (hle : e ≤ T.length) : ∃ M', tokK M = some M' ∧ TkH T e M' ∧ Fz atO9 M M' := by
  have hC := h.1
  have h200 := h.2.2.1
  obtain ⟨s1, s2, s3⟩ := skp_le (f := blkT T) blk_lt (T.length - e) e (by omega)
  rw [← hs] at s1 s2 s3
  unfold tokK
  have f1 : Fz atO9 M (zsI M 46 8 (nI s)) := Fz_sI (by omega)
  have h1 : TxR T (zsI M 46 8 (nI s)) := TxR_z h f1 (by omega) (fun k => by omega)
  have e9 : zI (zsI M 46 8 (nI s)) 46 9 = nI s := by rw [zI_other _ _ (Or.inr (by decide))]; exact he
  have hC1 := h1.1
  rw [gI_46 hC 9, Option.bind_some, he, pI_46 hC, Option.bind_some, gI_46 hC1 9, Option.bind_some, e9, y_byteAt h1 hT (by omega), Option.bind_some]
  obtain ⟨b, hb⟩ : ∃ b : Int32, b = if s < T.length then nI (T.getD s 0) else -1 := ⟨_, rfl⟩
  rw [← hb]
  have tk : tokS T e = (if T.length ≤ s then (0, s, s) else if smlT T s then (1, s, skp (smlT T) T.length (s + 1)) else if dgtT T s && !dgtT T (s + 1) then (2, s, s + 1) else if T.getD s 0 = 59 then (3, s, s + 1) else (4, s, s + 1)) := by unfold tokS; rw [hs]
  by_cases c1 : T.length ≤ s
  · rw [if_pos c1] at tk
    have hbv : b = -1 := by rw [hb, if_neg (by omega)]
    rw [hbv, if_neg (show ¬ (-1 : Int32) ≠ -1 from fun z => z rfl), pI_46 hC1, Option.bind_some]
    refine ⟨_, rfl, ⟨?_, ?_, fun _ => ?_⟩, Fz_trans f1 (Fz_sI (by omega))⟩
    · rw [tk, zI_same]; rfl
    · rw [tk, zI_other _ _ (Or.inr (by decide)), zI_same]
    · rw [tk, zI_other _ _ (Or.inr (by decide))]; exact e9
  · have hsl : s < T.length := by omega
    rw [if_neg c1] at tk
    have hx := hT _ (getD_mem hsl)
    have hbv : b = nI (T.getD s 0) := by rw [hb, if_pos hsl]
    have hb1 : b ≠ -1 := by rw [hbv, ne_eq, n_neg (by omega)]; exact id
    have hsm : fp_X11_isSmall b = some (bI (smlT T s)) := by rw [hb]; exact y_sml hT
    have hdg : fp_X11_isDigit b = some (bI (dgtT T s)) := by rw [hb]; exact y_dgt hT
    rw [if_pos hb1, Option.bind_some, inc, pI_46 hC1, Option.bind_some, hsm, Option.bind_some, zjn_eq]
    obtain ⟨M2, hM2⟩ : ∃ M2, M2 = zsI (zsI M 46 8 (nI s)) 46 9 (nI (s + 1)) := ⟨_, rfl⟩
    rw [← hM2]
    have f2 : Fz atO9 M M2 := by rw [hM2]; exact Fz_trans f1 (Fz_sI (by omega))
    have h2 : TxR T M2 := TxR_z h f2 (by omega) (fun k => by omega)
    have hC2 := h2.1
    have g8 : zI M2 46 8 = nI s := by rw [hM2, zI_other _ _ (Or.inr (by decide)), zI_same]
    have g9 : zI M2 46 9 = nI (s + 1) := by rw [hM2, zI_same]
    -- one sign that is no word
    have one : ∀ k : Nat, k < 10 → k ≠ 2 → k ≠ 3 → ∀ K : zM → Option zM, (∀ M3, K M3 = (zgI 9 M3 46 7).bind fun (y29 : Int32) =>
                    if y29 ≠ 3 then (
                      some M3)
                    else (
                      (zgI 9 M3 46 9).bind fun (y30 : Int32) =>
                      (fp_X11_byteAt 46 y30 M3).bind fun (y31 : Int32) =>
                      (fp_X11_isDigit y31).bind fun (y32 : Int32) =>
                      if y32 ≠ 0 then (
                        (zpI 9 M3 46 7 1).bind fun (M33 : zM) =>
                        fp_X11_ahead_L177 46 FU M33)
                      else (
                        some M3))) → ((zpI 9 M2 46 7 (nI k)).bind fun (M21 : zM) => fp_X11_ahead_L114 K 46 FU M21) = some (zsI M2 46 7 (nI k)) := by
      intro k k1 k2 k3 K hK
      rw [pI_46 hC2, Option.bind_some, show FU = 999999999 + 1 from rfl, fp_X11_ahead_L114, gI_46 (by exact hC2) 7, Option.bind_some, zI_same, if_pos (show nI k ≠ 2 by rw [n_2, ne_eq, n_eq (by omega) (by omega)]; exact k2), hK, gI_46 (by exact hC2) 7, Option.bind_some, zI_same, if_pos (show nI k ≠ 3 by rw [n_3, ne_eq, n_eq (by omega) (by omega)]; exact k3)]
    have oneH : ∀ k : Nat, Fz atO9 M (zsI M2 46 7 (nI k)) ∧ zI (zsI M2 46 7 (nI k)) 46 7 = nI k ∧ zI (zsI M2 46 7 (nI k)) 46 8 = nI s ∧ zI (zsI M2 46 7 (nI k)) 46 9 = nI (s + 1) := fun k =>
      ⟨Fz_trans f2 (Fz_sI (by omega)), zI_same _ _ _ _, by rw [zI_other _ _ (Or.inr (by decide))]; exact g8, by rw [zI_other _ _ (Or.inr (by decide))]; exact g9⟩
    cases c2 : smlT T s with
    | true =>
      rw [c2, if_pos rfl] at tk
      rw [b_tt, if_neg (show ¬ (1 : Int32) = 0 by decide)]
      dsimp only
      rw [pI_46 hC2, Option.bind_some]
      obtain ⟨o1, o2, o3, o4⟩ := oneH 2
      have hf3 : Fz (fun a k => a = 46 ∧ k = 7) M2 (zsI M2 46 7 (nI 2)) := Fz_sI ⟨rfl, rfl⟩
      obtain ⟨M3, q1, q2, q3⟩ := y_wordEnd (M := zsI M2 46 7 (nI 2)) (fun M28 =>
                    (zgI 9 M28 46 7).bind fun (y29 : Int32) =>
                    if y29 ≠ 3 then (
                      some M28)
                    else (
                      (zgI 9 M28 46 9).bind fun (y30 : Int32) =>
                      (fp_X11_byteAt 46 y30 M28).bind fun (y31 : Int32) =>
                      (fp_X11_isDigit y31).bind fun (y32 : Int32) =>
                      if y32 ≠ 0 then (
                        (zpI 9 M28 46 7 1).bind fun (M33 : zM) =>
                        fp_X11_ahead_L177 46 FU M33)
                      else (
                        some M28))) hT (T.length - (s + 1)) (s + 1) FU (zsI M2 46 7 (nI 2)) (by omega) (FU_gt (by omega)) (TxR_z h2 hf3 (by omega) (fun k => by omega)) o2 o4 Fz_refl
      have r7 : zI M3 46 7 = nI 2 := by rw [q3.2 46 7 (by decide)]; exact o2
      rw [n_2, q1]
      rw [gI_46 (Fz_C q3 (by exact hC2)) 7, Option.bind_some, r7, if_pos (show nI 2 ≠ 3 by decide)]
      refine ⟨M3, rfl, ⟨?_, ?_, fun _ => ?_⟩, Fz_trans o1 (Fz_mono q3 fun a k q => by omega)⟩
      · rw [tk]; exact r7
      · rw [tk, q3.2 46 8 (by decide)]; exact o3
      · rw [tk]; exact q2
    | false =>
      rw [c2, if_neg (by decide)] at tk
      rw [b_ff, if_pos rfl, hdg, Option.bind_some]
      cases c3 : dgtT T s with
      | false =>
        rw [c3, Bool.false_and, if_neg (by decide)] at tk
        rw [b_ff, if_pos rfl, hbv, show (59 : Int32) = nI 59 from by decide]
        by_cases c4 : T.getD s 0 = 59
        · rw [if_pos c4] at tk
          rw [if_neg (show ¬ nI (T.getD s 0) ≠ nI 59 by rw [c4]; exact fun z => z rfl)]
          dsimp only
          rw [n_4, one 4 (by decide) (by decide) (by decide) _ (fun M3 => rfl)]
          obtain ⟨o1, o2, o3, o4⟩ := oneH 4
          exact ⟨_, rfl, ⟨by rw [tk]; exact o2, by rw [tk]; exact o3, fun _ => by rw [tk]; exact o4⟩, o1⟩
        · rw [if_neg c4] at tk
          rw [if_pos (show nI (T.getD s 0) ≠ nI 59 by rw [ne_eq, n_eq (by omega) (by omega)]; exact c4)]
          dsimp only
          rw [n_1, one 1 (by decide) (by decide) (by decide) _ (fun M3 => by rw [n_1])]
          obtain ⟨o1, o2, o3, o4⟩ := oneH 1
          exact ⟨_, rfl, ⟨by rw [tk]; exact o2, by rw [tk]; exact o3, fun z => absurd (by rw [tk]) z⟩, o1⟩
      | true =>
        rw [c3, Bool.true_and] at tk
        rw [b_tt, if_neg (show ¬ (1 : Int32) = 0 by decide)]
        dsimp only
        obtain ⟨o1, o2, o3, o4⟩ := oneH 3
        have h3 : TxR T (zsI M2 46 7 (nI 3)) := TxR_z h o1 (by omega) (fun k => by omega)
        rw [show (zpI 9 M2 46 7 3) = some (zsI M2 46 7 (nI 3)) from by rw [← n_3]; exact pI_46 hC2 7 3, Option.bind_some, show FU = 999999999 + 1 from rfl, fp_X11_ahead_L114, gI_46 h3.1 7, Option.bind_some, o2, if_pos (show nI 3 ≠ 2 by decide), Option.bind_some, if_neg (show ¬ nI 3 ≠ 3 by decide), gI_46 h3.1 9, Option.bind_some, o4, y_byteAt h3 hT (by omega), Option.bind_some, y_dgt hT, Option.bind_some]
        cases c5 : dgtT T (s + 1) with
        | false =>
          rw [c5, if_pos (show (!false) = true from rfl)] at tk
          rw [b_ff, if_neg (show ¬ (0 : Int32) ≠ 0 by decide)]
          exact ⟨_, rfl, ⟨by rw [tk]; exact o2, by rw [tk]; exact o3, fun _ => by rw [tk]; exact o4⟩, o1⟩
        | true =>
          have h59 : ¬ T.getD s 0 = 59 := by
            unfold dgtT at c3
            simp only [Bool.and_eq_true, decide_eq_true_eq] at c3
            omega
          rw [c5, if_neg (by decide), if_neg h59] at tk
          rw [b_tt, if_pos (show (1 : Int32) ≠ 0 by decide), pI_46 h3.1, Option.bind_some]
          have f4 : Fz atO9 (zsI M2 46 7 (nI 3)) (zsI (zsI M2 46 7 (nI 3)) 46 7 1) := Fz_sI (by omega)
          obtain ⟨M4, q1, q2⟩ := y_digits (M := zsI (zsI M2 46 7 (nI 3)) 46 7 1) hT (T.length - (s + 1)) (s + 1) (999999999 + 1) (zsI (zsI M2 46 7 (nI 3)) 46 7 1) (by omega) (by omega) (TxR_z h3 f4 (by omega) (fun k => by omega)) (by rw [zI_other _ _ (Or.inr (by decide))]; exact o4) Fz_refl
          refine ⟨M4, q1, ⟨?_, ?_, fun z => absurd (by rw [tk]) z⟩, Fz_trans (Fz_trans o1 f4) (Fz_mono q2 fun a k q => by omega)⟩
          · rw [tk, q2.2 46 7 (by decide), zI_same]; exact n_1
          · rw [tk, q2.2 46 8 (by decide), zI_other _ _ (Or.inr (by decide))]; exact o3
theorem y_ahead {T : List Nat} {e : Nat} {M : zM} (h : TxR T M) (hT : ∀ x ∈ T, x < 256) (he : zI M 46 9 = nI e) (hle : e ≤ T.length) : ∃ M', fp_X11_ahead 46 M = some M' ∧ TkH T e M' ∧ Fz atO9 M M' := by
  have h200 := h.2.2.1
  rw [ahead_eq h hT he hle]
  cases hb : blkT T e with
  | false =>
    rw [if_neg (by decide)]
    exact y_tokK h hT (skp_f hle hb).symm he hle
  | true =>
    have hlt := blk_lt e hb
    have hf : Fz atO9 M (zsI M 46 9 (nI (e + 1))) := Fz_sI (by omega)
    obtain ⟨M2, a1, a2, a3, a4⟩ := y_blanks (M := M) hT (T.length - (e + 1)) (e + 1) FU (zsI M 46 9 (nI (e + 1))) (by omega) (FU_gt (by omega)) (TxR_z h hf (by omega) (fun k => by omega)) (zI_same _ _ _ _) hf
    rw [if_pos rfl, a1]
    obtain ⟨M', b1, b2, b3⟩ := y_tokK a2 hT (skp_t blk_lt hb).symm a3 hle
    exact ⟨M', b1, b2, Fz_trans a4 b3⟩

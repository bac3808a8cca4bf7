/-! ===== 74: the class: tape, load, undo, images, splits, pieces, turnings ===== -/
theorem IC_tp {S : zSt} {t : Nat} {M M' : zM} {T : List Nat} (h : IC S t M) (hf : Fc at1 M M') (hT : TpH T M') (h2 : T.length ≤ 200) (h3 : ∀ x ∈ T, x < 256) : IC (tpS S T) t M' := by
  obtain ⟨⟨o1, o2, o3, o4, o5, o6⟩, hC, ⟨b1, b2, b3, b4, b5, b6, b7⟩, h4, r, st, h5⟩ := h
  have hk := Fk_of hf
  have f6 := hk.2.2.2.2.2
  refine ⟨⟨o1, h2, h3, o4, o5, o6⟩, Fk_C hk hC, ⟨(f6 0 (by decide) 0).trans b1, (f6 0 (by decide) 1).trans b2, (f6 0 (by decide) 2).trans b3, ?_, hT, UnH_k hk (by decide) (by decide) b6, fun k q => (f6 8 (by decide) k).trans (b7 k q)⟩, TuO_k hk (fun a h1 h2 => by omega) h4, r, st, IM_k hk (fun a h1 h2 => by omega) h5⟩
  show flC (sQ S) M'
  cases hF : sQ S with
  | none => rw [hF] at b4; exact (f6 0 (by decide) 3).trans b4
  | some q => rw [hF] at b4; exact ⟨(f6 0 (by decide) 3).trans b4.1, (f6 3 (by decide) 2).trans b4.2.1, (f6 3 (by decide) 3).trans b4.2.2⟩
theorem Rk_1 {M M' : zM} (hf : Fc at1 M M') : Rk M M' := Rk_k (Fk_of hf) fun a h1 h2 q => by omega
theorem four_len (v : Int32) : (four v).length = 4 := rfl
theorem four_lt {v : Int32} : ∀ x ∈ four v, x < 256 := by
  intro x hx
  unfold four at hx
  simp only [List.mem_cons, List.not_mem_nil, or_false] at hx
  rcases hx with rfl | rfl | rfl | rfl <;> exact byt_lt _ _
def q_feed (S : zSt) (a b c d e : Int32) : Int32 × zSt :=
  if (sT S).length + 20 ≤ 200 then (nI ((sT S).length + 20), tpS S (sT S ++ four a ++ four b ++ four c ++ four d ++ four e)) else (-1, S)
theorem x_feed {S : zSt} {t : Nat} {M : zM} (h : IC S t M) (a b c d e : Int32) : CM t (q_feed S a b c d e) (fp_X10_feed 0 a b c d e M) M := by
  unfold fp_X10_feed q_feed
  have hC := IC_C h
  have b5 := h.2.2.1.2.2.2.2.1
  have o2 := h.1.2.1
  have o3 := h.1.2.2.1
  rw [ts_0 hC, gR_0_4 hC, Option.bind_some, gI_1 hC, Option.bind_some, b5.1, show (20 : Int32) = nI 20 from by decide, show (200 : Int32) = nI 200 from by decide, n_add]
  by_cases hl : (sT S).length + 20 ≤ 200
  · rw [if_pos hl, if_pos (by rw [n_le (by omega) (by omega)]; exact hl)]
    obtain ⟨M1, e1, t1, f1⟩ := c_take4 (v := a) hC b5 (by omega)
    have c1 := Fc_C f1 hC
    obtain ⟨M2, e2, t2, f2⟩ := c_take4 (v := b) c1 t1 (by simp [four_len]; omega)
    have c2 := Fc_C f2 c1
    obtain ⟨M3, e3, t3, f3⟩ := c_take4 (v := c) c2 t2 (by simp [four_len]; omega)
    have c3 := Fc_C f3 c2
    obtain ⟨M4, e4, t4, f4⟩ := c_take4 (v := d) c3 t3 (by simp [four_len]; omega)
    have c4 := Fc_C f4 c3
    obtain ⟨M5, e5, t5, f5⟩ := c_take4 (v := e) c4 t4 (by simp [four_len]; omega)
    have c5 := Fc_C f5 c4
    have F := Fc_trans (Fc_trans (Fc_trans (Fc_trans f1 f2) f3) f4) f5
    rw [Option.bind_some, e1, Option.bind_some, gR_0_4 c1, Option.bind_some, e2, Option.bind_some, gR_0_4 c2, Option.bind_some, e3, Option.bind_some, gR_0_4 c3, Option.bind_some, e4, Option.bind_some, gR_0_4 c4, Option.bind_some, e5, Option.bind_some, gR_0_4 c5, Option.bind_some, gI_1 c5, Option.bind_some, t5.1]
    have hlen : (sT S ++ four a ++ four b ++ four c ++ four d ++ four e).length = (sT S).length + 20 := by simp [four_len]
    rw [hlen]
    refine ⟨M5, rfl, IC_mono (IC_tp h F t5 (by rw [hlen]; exact hl) ?_) (Nat.le_succ _), Rk_1 F⟩
    intro x hx
    simp only [List.mem_append] at hx
    rcases hx with ((((hx | hx) | hx) | hx) | hx) | hx
    · exact o3 x hx
    all_goals exact four_lt x hx
  · rw [if_neg hl, if_neg (by rw [n_le (by omega) (by omega)]; exact hl)]
    exact ⟨M, rfl, IC_mono h (Nat.le_succ _), Rk_refl⟩
theorem x_holds {S : zSt} {t : Nat} {M : zM} (h : IC S t M) (v : Int32) : fp_X7_holds 1 v M = some (bI (asN v ((sT S).length + 1)).isSome) := by
  rw [c_holds (IC_C h) h.2.2.1.2.2.2.2.1 h.1.2.1]
  congr 2
  unfold asN
  by_cases c : ¬ v < 0 ∧ v.toNatClampNeg ≤ (sT S).length
  · rw [decide_eq_true c, if_pos ⟨c.1, by omega⟩]; rfl
  · rw [decide_eq_false c, if_neg (fun q => c ⟨q.1, by omega⟩)]; rfl
/-- what load leaves, ahead of the act -/
def ldS (S : zSt) (f : Int32 × Int32) : zSt := (sN S, sL S, sS S, [], sA S, sI S, some f)
noncomputable def q_load (S : zSt) (v : Int32) : Int32 × zSt := match asN v ((sT S).length + 1) with
  | none => rf S 1
  | some m => match txS ((sT S).take m) with
    | .inl q => rf (ldS S (nI q.1, nI q.2)) 9
    | .inr q => gv (bcS (ldS S (nI 0, -1)) q.1 q.2) (nI q.1)
theorem IC_ld {S : zSt} {t : Nat} {M M' : zM} {f : Int32 × Int32} (h : IC S t M) (hk : Fk at3 M M') (h2 : zI M' 3 2 = f.1) (h3 : zI M' 3 3 = f.2) : IC (ldS S f) t (zsI (zsI M' 1 1 0) 0 3 1) := by
  obtain ⟨⟨o1, o2, o3, o4, o5, o6⟩, hC, ⟨b1, b2, b3, b4, b5, b6, b7⟩, h4, r, st, h5⟩ := h
  have hC' := Fk_C hk hC
  have hk2 : Fk (fun a => a = 3 ∨ a = 5 ∨ a = 1 ∨ a = 0) M (zsI (zsI M' 1 1 0) 0 3 1) := Fk_trans (Fk_mono hk fun a q => by rcases q with q | q <;> omega) (Fk_of (Fc_trans (Fc_sI (Or.inr (Or.inr (Or.inl rfl)))) (Fc_sI (Or.inr (Or.inr (Or.inr rfl))))))
  have f6 := hk2.2.2.2.2.2
  have z0 : ∀ k, k ≠ 3 → zI (zsI (zsI M' 1 1 0) 0 3 1) 0 k = zI M 0 k := fun k hk3 => by
    rw [zI_other _ _ (Or.inr hk3), zI_other _ _ (Or.inl (by decide)), hk.2.2.2.2.2 0 (by decide)]
  refine ⟨⟨o1, Nat.zero_le _, fun x hx => absurd hx List.not_mem_nil, o4, o5, o6⟩, hC', ⟨(z0 0 (by decide)).trans b1, (z0 1 (by decide)).trans b2, (z0 2 (by decide)).trans b3, ⟨zI_same _ _ _ _, ?_, ?_⟩, ⟨?_, fun i hi => absurd hi (Nat.not_lt_zero _)⟩, UnH_k hk2 (by omega) (by omega) b6, fun k q => (f6 8 (by decide) k).trans (b7 k q)⟩, TuO_k hk2 (fun a h1 h2 => by omega) h4, r, st, IM_k hk2 (fun a h1 h2 => by omega) h5⟩
  · rw [zI_other _ _ (Or.inl (by decide)), zI_other _ _ (Or.inl (by decide))]; exact h2
  · rw [zI_other _ _ (Or.inl (by decide)), zI_other _ _ (Or.inl (by decide))]; exact h3
  · rw [zI_other _ _ (Or.inl (by decide)), zI_same]; rfl
theorem x_load {S : zSt} {t : Nat} {M : zM} (h : IC S t M) (v : Int32) : CM t (q_load S v) (fp_X10_load 0 v M) M := by
  unfold fp_X10_load q_load
  have hC := IC_C h
  rw [ts_0 hC, gR_0_4 hC, Option.bind_some, x_holds h, Option.bind_some]
  cases hv : asN v ((sT S).length + 1) with
  | none => rw [if_neg (by decide)]; exact x_rf h (Nat.le_succ _) Rk_refl
  | some m =>
    obtain ⟨rfl, hm, hb⟩ := asN_some hv
    obtain ⟨M6, e1, e2, e3⟩ := c_read hC h.2.2.1.2.2.2.2.1 h.1.2.1 h.1.2.2.1 (show m ≤ (sT S).length by omega)
    have hC6 := Fk_C e3 hC
    have rk : Rk M (zsI (zsI M6 1 1 0) 0 3 1) := fun a h1 h2 k => by
      rw [zI_other _ _ (Or.inl (by omega)), zI_other _ _ (Or.inl (by omega)), e3.2.2.2.2.2 a (by omega)]
    rw [b_so, if_pos (show (1 : Int32) ≠ 0 by decide), gR_0_5 hC, Option.bind_some, Option.bind_some, gR_1_0 hC, Option.bind_some, e1, Option.bind_some, gR_0_4 hC6, Option.bind_some, pI_1 hC6, Option.bind_some, pI_0 (by exact hC6), Option.bind_some, gR_0_5 (by exact hC6), Option.bind_some, gI_3 (by exact hC6), Option.bind_some, zI_other _ _ (Or.inl (by decide)), zI_other _ _ (Or.inl (by decide))]
    dsimp only
    cases hr : txS ((sT S).take m) with
    | inl q =>
      rw [hr] at e2
      obtain ⟨⟨l1, l2, l3, l4, l5⟩, l6⟩ := e2
      have hI := IC_ld (f := (nI q.1, nI q.2)) h e3 l1 l2
      rw [l1, if_neg (by rw [n_0, n_eq (by omega) (by omega)]; exact l3)]
      exact x_rf hI (Nat.le_succ _) rk
    | inr q =>
      rw [hr] at e2
      obtain ⟨l0, ⟨l1, l2, l3, l4⟩, l5, l6⟩ := e2
      have hI := IC_ld (f := (nI 0, -1)) h e3 l3 l4
      have hC9 := IC_C hI
      rw [l3, if_pos (by decide), Option.bind_some, gI_3 hC9, Option.bind_some, Option.bind_some, gI_3 hC9, Option.bind_some, zI_other _ _ (Or.inl (by decide)), zI_other _ _ (Or.inl (by decide)), l1, zI_other _ _ (Or.inl (by decide)), zI_other _ _ (Or.inl (by decide)), l2]
      obtain ⟨M', k1, k2, k3, k4, k5⟩ := x_become hI l5 l6
      rw [k1, Option.bind_some, gI_0 (IC_C k2), Option.bind_some, (IC_n k2).1, k4]
      exact x_gv k2 (Nat.le_succ _) (Rk_trans rk k3)
def q_fault (S : zSt) (v : Int32) : Int32 := match sQ S with
  | none => -1
  | some f => match asN v 2 with
    | none => -1
    | some w => if w = 0 then f.1 else f.2
theorem x_fault {S : zSt} {t : Nat} {M : zM} (h : IC S t M) (v : Int32) : fp_X10_fault 0 v M = some (q_fault S v) := by
  unfold fp_X10_fault q_fault
  have hC := IC_C h
  have b4 := h.2.2.1.2.2.2.1
  rw [ts_0 hC, gI_0 hC, Option.bind_some]
  cases hF : sQ S with
  | none => rw [hF] at b4; rw [show zI M 0 3 = 0 from b4, if_pos rfl]
  | some f =>
    rw [hF] at b4
    obtain ⟨c1, c2, c3⟩ := b4
    rw [c1, if_neg (by decide), show (1 : Int32) = nI 1 from n_1, x_what (by decide)]
    dsimp only
    cases hv : asN v (1 + 1) with
    | none => rfl
    | some w =>
      obtain ⟨rfl, hw, hb⟩ := asN_some hv
      dsimp only
      rw [gR_0_5 hC, Option.bind_some, gI_3 hC, Option.bind_some, Option.bind_some, gI_3 hC, Option.bind_some, c2, c3]
      by_cases h0 : w = 0
      · subst h0; rw [if_neg (by decide), if_pos rfl]
      · rw [if_pos (by rw [n_0, ne_eq, n_eq hb (by omega)]; exact h0), if_neg h0]
/-! undo, image, like -/
def q_undo (S : zSt) : Int32 × zSt := match (sA S).getLast? with
  | none => rf S 6
  | some q => gv (nwS S q.1 q.2 (sA S).dropLast) (nI (sA S).dropLast.length)
theorem getLast_app {α : Type} {l : List α} {q : α} (h : l.getLast? = some q) : l = l.dropLast ++ [q] := by
  have := List.getLast?_eq_some_iff.mp h
  obtain ⟨ys, rfl⟩ := this
  simp
theorem x_undo {S : zSt} {t : Nat} {M : zM} (h : IC S t M) : CM t (q_undo S) (fp_X10_undo 0 M) M := by
  unfold fp_X10_undo q_undo
  have hC := IC_C h
  have b6 := h.2.2.1.2.2.2.2.2.1
  have o4 := h.1.2.2.2.1
  rw [ts_0 hC, gR_0_6 hC, Option.bind_some, gI_6 hC, Option.bind_some, b6.1]
  cases hq : (sA S).getLast? with
  | none =>
    have : sA S = [] := List.getLast?_eq_none_iff.mp hq
    rw [this, if_neg (by decide)]
    exact x_rf h (Nat.le_succ _) Rk_refl
  | some q =>
    have e := getLast_app hq
    have hlen : (sA S).length = (sA S).dropLast.length + 1 := by rw [e]; simp
    have ok : okN q := h.1.2.2.2.2.1 q (by rw [e]; simp)
    obtain ⟨l, hl⟩ : ∃ l, l = (sA S).dropLast := ⟨_, rfl⟩
    rw [← hl] at hlen e ⊢
    rw [e] at b6
    obtain ⟨k1, k2⟩ := c_takeBack hC b6 (by omega)
    rw [hlen, if_pos (by rw [n_0, ne_eq, n_eq (by omega) (by omega)]; omega), Option.bind_some, k1, Option.bind_some]
    unfold zpp
    dsimp only
    have hq1 : fp_X2_pointsOf (nI (cdN q)) = some (nI q.1) := c_pointsOf ok.1 (lt21 ok.1 ok.2)
    have hq2 : fp_X2_linesOf (nI (cdN q)) = some (nI q.2) := c_linesOf ok.1 (lt21 ok.1 ok.2)
    rw [hq1, Option.bind_some, pI_0 (by exact hC), Option.bind_some, hq2, Option.bind_some, pI_0 (by exact hC), Option.bind_some, gR_0_6 (by exact hC), Option.bind_some, gI_6 (by exact hC), Option.bind_some]
    obtain ⟨⟨o1, o2, o3, o4, o5, o6⟩, hC, ⟨b1, b2, b3, b4, b5, b6', b7⟩, h4, r, st, h5⟩ := h
    have hk : Fk (fun a => a = 6 ∨ a = 0) M (zsI (zsI (zsI M 6 1 (nI l.length)) 0 1 (nI q.1)) 0 2 (nI q.2)) := Fk_of (Fc_trans (Fc_trans (Fc_sI (Or.inl rfl)) (Fc_sI (Or.inr rfl))) (Fc_sI (Or.inr rfl)))
    have f6 := hk.2.2.2.2.2
    have z0 : ∀ k, k ≠ 1 → k ≠ 2 → zI (zsI (zsI (zsI M 6 1 (nI l.length)) 0 1 (nI q.1)) 0 2 (nI q.2)) 0 k = zI M 0 k := fun k a1 a2 => by
      rw [zI_other _ _ (Or.inr a2), zI_other _ _ (Or.inr a1), zI_other _ _ (Or.inl (by decide))]
    have h1' : zI (zsI (zsI (zsI M 6 1 (nI l.length)) 0 1 (nI q.1)) 0 2 (nI q.2)) 6 1 = nI l.length := by
      rw [zI_other _ _ (Or.inl (by decide)), zI_other _ _ (Or.inl (by decide)), zI_same]
    rw [h1']
    have hI : IC (nwS S q.1 q.2 l) t (zsI (zsI (zsI M 6 1 (nI l.length)) 0 1 (nI q.1)) 0 2 (nI q.2)) := by
      refine ⟨⟨ok, o2, o3, by show l.length ≤ 12; omega, fun x hx => o5 x (by rw [e]; exact List.mem_append_left _ hx), o6⟩, hC, ⟨(z0 0 (by decide) (by decide)).trans b1, ?_, zI_same _ _ _ _, ?_, TpH_k hk (by decide) (by decide) b5, ?_, fun k q => (f6 8 (by decide) k).trans (b7 k q)⟩, TuO_k hk (fun a h1 h2 => by omega) h4, r, st, IM_k hk (fun a h1 h2 => by omega) h5⟩
      · rw [zI_other _ _ (Or.inr (by decide)), zI_same]; rfl
      · show flC (sQ S) _
        cases hF : sQ S with
        | none => rw [hF] at b4; exact (z0 3 (by decide) (by decide)).trans b4
        | some q => rw [hF] at b4; exact ⟨(z0 3 (by decide) (by decide)).trans b4.1, (f6 3 (by decide) 2).trans b4.2.1, (f6 3 (by decide) 3).trans b4.2.2⟩
      · exact UnH_k (Fk_trans (sI_k (k := 1) (v := nI q.1)) (sI_k (k := 2) (v := nI q.2))) (by decide) (by decide) k2
    exact x_gv hI (Nat.le_succ _) (Rk_k hk fun a h1 h2 => by omega)
def imS (S : zSt) (k : Nat) : zSt := (sN S, sL S, sS S, sT S, sA S, fun j => if j = k then some (sN S, sL S) else sI S j, sQ S)
def q_image (S : zSt) (v : Int32) : Int32 × zSt := match asN v 3 with
  | none => (0, stS S 1)
  | some k => (1, imS (stS S 0) k)
theorem x_image {S : zSt} {t : Nat} {M : zM} (h : IC S t M) (v : Int32) : CM t (q_image S v) (fp_X10_image 0 v M) M := by
  unfold fp_X10_image q_image
  have hC := IC_C h
  rw [ts_0 hC]
  have bad : CM t ((0 : Int32), stS S 1) ((zpI 8 M 0 0 1).bind fun (M1 : zM) => some ((0 : Int32), M1)) M := by
    rw [pI_0 hC, Option.bind_some]
    exact ⟨_, rfl, IC_mono (IC_st h) (Nat.le_succ _), Rk_0⟩
  cases hv : asN v 3 with
  | none =>
    rcases asN_none hv with h0 | ⟨j, rfl, hj, hb⟩
    · rw [if_pos h0]; exact bad
    · rw [if_neg (by rw [n_lt0 hb]; exact id), gR_0_7 hC, Option.bind_some, ln_8 hC, Option.bind_some, if_neg (by rw [n_lt hb (by omega)]; omega)]; exact bad
  | some k =>
    obtain ⟨rfl, hk, hb⟩ := asN_some hv
    have h1 : IC (stS S 0) t (zsI M 0 0 0) := IC_st h
    have hC1 := IC_C h1
    rw [if_neg (by rw [n_lt0 hb]; exact id), gR_0_7 hC, Option.bind_some, ln_8 hC, Option.bind_some, if_pos (by rw [n_lt hb (by omega)]; exact hk), pI_0 hC, Option.bind_some, gR_0_7 hC1, Option.bind_some, gI_0 hC1, Option.bind_some, gI_0 hC1, Option.bind_some, (IC_n h1).1, (IC_L h1).1, c_code, Option.bind_some, tI_8 hC1 hk, Option.bind_some]
    refine ⟨_, rfl, IC_mono (t := t) ?_ (Nat.le_succ _), Rk_trans Rk_0 fun a h1 _ k => zI_other _ _ (Or.inl (by omega))⟩
    obtain ⟨⟨o1, o2, o3, o4, o5, o6⟩, hC, ⟨b1, b2, b3, b4, b5, b6, b7⟩, h4, r, st, h5⟩ := h1
    have hf : Fk (fun a => a = 8) (zsI M 0 0 0) (zsI (zsI M 0 0 0) 8 k (nI (sN (stS S 0) <<< 21 ||| sL (stS S 0)))) := Fk_of (Fc_sI rfl)
    have f6 := hf.2.2.2.2.2
    refine ⟨⟨o1, o2, o3, o4, o5, fun j q hq => ?_⟩, hC, ⟨(f6 0 (by decide) 0).trans b1, (f6 0 (by decide) 1).trans b2, (f6 0 (by decide) 2).trans b3, ?_, TpH_k hf (by decide) (by decide) b5, UnH_k hf (by decide) (by decide) b6, fun j hj => ?_⟩, TuO_k hf (fun a h1 h2 => by omega) h4, r, st, IM_k hf (fun a h1 h2 => by omega) h5⟩
    · have hq' : (if j = k then some (sN S, sL S) else sI S j) = some q := hq
      split at hq'
      · cases hq'; exact o1
      · exact o6 j q hq'
    · show flC (sQ (stS S 0)) _
      cases hF : sQ (stS S 0) with
      | none => rw [hF] at b4; exact (f6 0 (by decide) 3).trans b4
      | some q => rw [hF] at b4; exact ⟨(f6 0 (by decide) 3).trans b4.1, (f6 3 (by decide) 2).trans b4.2.1, (f6 3 (by decide) 3).trans b4.2.2⟩
    · show _ = imC (if j = k then some (sN S, sL S) else sI S j)
      by_cases hjk : j = k
      · rw [if_pos hjk, hjk, zI_same]; rfl
      · rw [if_neg hjk, zI_other _ _ (Or.inr hjk)]; exact b7 j hj
/-- an image that is there -/
def img (S : zSt) (v : Int32) : Sum Int32 (Nat × Nat) := match asN v 3 with
  | none => .inl 1
  | some k => match sI S k with
    | none => .inl 8
    | some q => .inr q
theorem img_ok {S : zSt} {v : Int32} {q : Nat × Nat} (ho : okZ S) (h : img S v = .inr q) : okN q := by
  unfold img at h
  split at h
  · cases h
  · split at h
    · cases h
    · rename_i h1; cases h; exact ho.2.2.2.2.2 _ _ h1
theorem img_ne {S : zSt} {v k : Int32} (h : img S v = .inl k) : k ≠ 0 := by
  unfold img at h
  split at h
  · cases h; decide
  · split at h
    · cases h; decide
    · cases h
theorem cdN_lt {q : Nat × Nat} (h : okN q) : cdN q < 2 ^ 31 := by
  have h1 := lt21 h.1 h.2
  have h2 := h.1
  refine Nat.or_lt_two_pow ?_ (Nat.lt_trans h1 (by decide))
  rw [Nat.shiftLeft_eq]; omega
theorem x_badImage {S : zSt} {t : Nat} {M : zM} (h : IC S t M) (v : Int32) : fp_X10_badImage 0 v M = some (match img S v with | .inl k => k | .inr _ => 0) ∧ ∀ q, img S v = .inr q → fp_X10_imageAt 0 v M = some (nI (cdN q)) := by
  unfold fp_X10_badImage fp_X10_imageAt img
  have hC := IC_C h
  rw [ts_0 hC, ts_0 hC]
  cases hv : asN v 3 with
  | none =>
    refine ⟨?_, fun q hq => by cases hq⟩
    rcases asN_none hv with h0 | ⟨j, rfl, hj, hb⟩
    · rw [if_pos h0]
    · rw [if_neg (by rw [n_lt0 hb]; exact id), gR_0_7 hC, Option.bind_some, ln_8 hC, Option.bind_some, if_neg (by rw [n_lt hb (by omega)]; omega)]
  | some k =>
    obtain ⟨rfl, hk, hb⟩ := asN_some hv
    have b7 := h.2.2.1.2.2.2.2.2.2 k hk
    rw [if_neg (by rw [n_lt0 hb]; exact id), gR_0_7 hC, Option.bind_some, ln_8 hC, Option.bind_some, if_pos (by rw [n_lt hb (by omega)]; exact hk), Option.bind_some, lI_8 hC hk, Option.bind_some, b7]
    dsimp only
    cases hq : sI S k with
    | none =>
      refine ⟨?_, fun q hq => by cases hq⟩
      rw [show imC none = -1 from rfl, if_neg (show ¬ (-1 : Int32) ≥ 0 by decide)]
    | some q =>
      have hlt := cdN_lt (h.1.2.2.2.2.2 k q hq)
      refine ⟨?_, fun q' hq' => ?_⟩
      · show (if nI (cdN q) ≥ 0 then some 0 else some 8) = some 0
        rw [if_pos (by rw [n_0, ge_iff_le, n_le (by omega) hlt]; omega)]
      · cases hq'
        rw [if_neg (by rw [n_lt0 hb]; exact id), Option.bind_some, ln_8 hC, Option.bind_some, go (show k < 3 from hk) (by omega), Option.bind_some, lI_8 hC hk, Option.bind_some, b7, hq]
        rfl
def q_like (S : zSt) (v : Int32) : Int32 × zSt := match img S v with
  | .inl k => rf S k
  | .inr q => gv S (bI (decide (q = (sN S, sL S))))
theorem cdN_inj {q p : Nat × Nat} (hq : okN q) (hp : okN p) : (cdN q = cdN p) = (q = p) := by
  have a := lt21 hq.1 hq.2
  have b := lt21 hp.1 hp.2
  unfold cdN
  rw [← Nat.shiftLeft_add_eq_or_of_lt a, ← Nat.shiftLeft_add_eq_or_of_lt b, Nat.shiftLeft_eq, Nat.shiftLeft_eq]
  apply propext
  constructor
  · intro e
    have e1 : q.1 = p.1 := by omega
    have e2 : q.2 = p.2 := by omega
    exact Prod.ext e1 e2
  · intro e; rw [e]
theorem x_like {S : zSt} {t : Nat} {M : zM} (h : IC S t M) (v : Int32) : CM t (q_like S v) (fp_X10_like 0 v M) M := by
  unfold fp_X10_like q_like
  have hC := IC_C h
  obtain ⟨k1, k2⟩ := x_badImage h v
  rw [ts_0 hC, k1, Option.bind_some]
  cases hi : img S v with
  | inl k => dsimp only; rw [if_neg (img_ne hi)]; exact x_rf h (Nat.le_succ _) Rk_refl
  | inr q =>
    dsimp only
    have ok := img_ok h.1 hi
    rw [if_pos rfl, k2 q hi, Option.bind_some, gI_0 hC, Option.bind_some, gI_0 hC, Option.bind_some, (IC_n h).1, (IC_L h).1, c_code, Option.bind_some]
    have e : (nI (cdN q) ≠ nI (sN S <<< 21 ||| sL S)) = ¬ q = (sN S, sL S) := by
      rw [show (sN S <<< 21 ||| sL S) = cdN (sN S, sL S) from rfl, ne_eq, n_eq (cdN_lt ok) (cdN_lt h.1.1), cdN_inj ok h.1.1]
    by_cases c : q = (sN S, sL S)
    · rw [if_neg (by rw [e]; exact fun z => z c), decide_eq_true c]; exact x_gv h (Nat.le_succ _) Rk_refl
    · rw [if_pos (by rw [e]; exact c), decide_eq_false c]; exact x_gv h (Nat.le_succ _) Rk_refl

/-! ===== 96g5: the reference: a line, load ===== -/
noncomputable def lnF (T : List Nat) (n L e : Nat) : Rs := if (tokS T e).1 = 4 then .inl (1, (tokS T e).2.1) else lnS T n L (tokS T e)
theorem lnB_tok {T : List Nat} {n L e : Nat} (h : (tokS T e).1 ≠ 1) : lnB T n L (tokS T e) = .inl (2, (tokS T e).2.1) := by
  unfold lnB
  rw [if_neg (fun z => h z.1), if_neg (fun z => h z.1), if_neg (fun z => h z.1), if_neg (fun z => h z.1), if_neg (fun z => h z.1)]
theorem y_ln {T : List Nat} {n L e : Nat} {M : zM} (h : PaH T n L e M) (hT : ∀ x ∈ T, x < 256) (he : e ≤ T.length) (hn : n < 8) (hL : L < 2 ^ tri n) : ∃ b, fp_X11_aLine 46 M = some b ∧ RdR T (lnF T n L e) b ∧ Fz atL9 M b.2 := by
  unfold fp_X11_aLine
  have hC := h.1.1
  obtain ⟨b1, b2, b3, b4, b5⟩ := tok_le he
  rw [ts_46 hC, y_key h hT he, Option.bind_some]
  -- it is no line
  have bad : ((tokS T e).1 ≠ 4 → lnB T n L (tokS T e) = .inl (2, (tokS T e).2.1)) → ∃ b, ((fp_X11_fails 46 2 M).bind fun p39 => zpp p39 fun (y37 : Int32) (M38 : zM) => (zb y37).bind fun (r : Int32) => some (r, M38)) = some b ∧ RdR T (lnF T n L e) b ∧ Fz atL9 M b.2 := by
    intro hb
    obtain ⟨M', e1, e2, e3⟩ := y_fail (k := 2) h he (by decide) (by decide) (fun _ => Or.inr rfl)
    rw [n_2, e1, Option.bind_some, zpp_mk, zb_01.1, Option.bind_some]
    refine ⟨_, rfl, ?_, e3⟩
    unfold lnF
    by_cases c : (tokS T e).1 = 4
    · rw [if_pos c] at e2 ⊢
      exact ⟨rfl, e2⟩
    · rw [if_neg c] at e2 ⊢
      unfold lnS
      rw [hb c]
      exact ⟨rfl, e2⟩
  by_cases c : (tokS T e).1 = 1
  · rw [if_pos c]
    have hlnF : lnF T n L e = lnS T n L (tokS T e) := by unfold lnF; rw [if_neg (by omega)]
    obtain ⟨M2, a1, a2, a3⟩ := y_next h hT he (by omega)
    have hB := lnB_ok hn hL b3 (T := T) (t := tokS T e)
    have hS : lnS T n L (tokS T e) = match lnB T n L (tokS T e) with | .inl f => .inl f | .inr q => clS T q.1 q.2.1 q.2.2 := rfl
    rw [hlnF]
    have close : ∀ (r : Rs) (b : Int32 × zM), okRs T (tokS T e).2.2 r → lnB T n L (tokS T e) = r → RdR T r b → Fz atL9 M2 b.2 → ∃ b', (if b.1 = 0 then some ((0 : Int32), b.2) else (fp_X11_closes 46 b.2).bind fun p => zpp p fun (y : Int32) (M' : zM) => if y = 0 then some (0, M') else some (1, M')) = some b' ∧ RdR T (lnS T n L (tokS T e)) b' ∧ Fz atL9 M b'.2 := by
      intro r b hr hb hR hf
      rw [hS, hb]
      cases r with
      | inl q =>
        rw [if_pos (show b.1 = 0 from hR.1)]
        exact ⟨_, rfl, ⟨rfl, hR.2⟩, Fz_trans a3 hf⟩
      | inr q =>
        obtain ⟨q1, q2, q3, q4⟩ := hr q rfl
        obtain ⟨k, k1, k2, k3⟩ := y_cl hR.2 hT q4
        show ∃ b', _ = some b' ∧ RdR T (clS T q.1 q.2.1 q.2.2) b' ∧ Fz atL9 M b'.2
        rw [if_neg (show ¬ b.1 = 0 by rw [hR.1]; decide), k1, Option.bind_some]
        obtain ⟨v, M'⟩ := k
        rw [zpp_mk]
        cases hc : clS T q.1 q.2.1 q.2.2 with
        | inl g =>
          rw [hc] at k2
          have hv : v = 0 := k2.1
          rw [if_pos hv]
          exact ⟨_, rfl, ⟨rfl, k2.2⟩, Fz_trans a3 (Fz_trans hf k3)⟩
        | inr g =>
          rw [hc] at k2
          have hv : v = 1 := k2.1
          rw [if_neg (show ¬ v = 0 by rw [hv]; decide)]
          exact ⟨_, rfl, ⟨rfl, k2.2⟩, Fz_trans a3 (Fz_trans hf k3)⟩
    have one : tokS T e = (tokS T e) := rfl
    unfold kyv
    by_cases k0 : isK T (tokS T e).2.1 (tokS T e).2.2 0 = true
    · have e1 : lnB T n L (tokS T e) = poS T n L (tokS T e).2.2 := by unfold lnB; rw [if_pos ⟨c, k0⟩]
      rw [e1] at hB
      obtain ⟨⟨v, M3⟩, d1, d2, d3⟩ := y_mp a2 hT b3 hn hL
      rw [if_pos k0, if_pos (show nI 0 ≠ -1 by decide), a1, Option.bind_some, if_pos (show nI 0 = 0 by decide), d1, Option.bind_some]
      exact close _ _ hB e1 d2 d3
    · rw [if_neg k0]
      by_cases k1 : isK T (tokS T e).2.1 (tokS T e).2.2 1 = true
      · have e1 : lnB T n L (tokS T e) = cpS T n L (tokS T e).2.2 false := by unfold lnB; rw [if_neg (fun z => k0 z.2), if_pos ⟨c, k1⟩]
        rw [e1] at hB
        obtain ⟨⟨v, M3⟩, d1, d2, d3⟩ := y_cp (sw := false) a2 hT b3 hn hL
        rw [if_pos k1, if_pos (show nI 1 ≠ -1 by decide), a1, Option.bind_some, if_neg (show ¬ nI 1 = 0 by decide), if_pos (show nI 1 = 1 by decide), show fp_X11_two 46 0 M2 = some (v, M3) from d1, Option.bind_some]
        exact close _ _ hB e1 d2 d3
      · rw [if_neg k1]
        by_cases k2 : isK T (tokS T e).2.1 (tokS T e).2.2 2 = true
        · have e1 : lnB T n L (tokS T e) = crS T n L (tokS T e).2.2 := by unfold lnB; rw [if_neg (fun z => k0 z.2), if_neg (fun z => k1 z.2), if_pos ⟨c, k2⟩]
          rw [e1] at hB
          obtain ⟨⟨v, M3⟩, d1, d2, d3⟩ := y_cx a2 hT b3 hn hL
          rw [if_pos k2, if_pos (show nI 2 ≠ -1 by decide), a1, Option.bind_some, if_neg (show ¬ nI 2 = 0 by decide), if_neg (show ¬ nI 2 = 1 by decide), if_pos (show nI 2 = 2 by decide), d1, Option.bind_some]
          exact close _ _ hB e1 d2 d3
        · rw [if_neg k2]
          by_cases k3 : isK T (tokS T e).2.1 (tokS T e).2.2 3 = true
          · have e1 : lnB T n L (tokS T e) = tuS T n L (tokS T e).2.2 := by unfold lnB; rw [if_neg (fun z => k0 z.2), if_neg (fun z => k1 z.2), if_neg (fun z => k2 z.2), if_pos ⟨c, k3⟩]
            rw [e1] at hB
            obtain ⟨⟨v, M3⟩, d1, d2, d3⟩ := y_tu a2 hT b3 hn hL
            rw [if_pos k3, if_pos (show nI 3 ≠ -1 by decide), a1, Option.bind_some, if_neg (show ¬ nI 3 = 0 by decide), if_neg (show ¬ nI 3 = 1 by decide), if_neg (show ¬ nI 3 = 2 by decide), if_pos (show nI 3 = 3 by decide), d1, Option.bind_some]
            exact close _ _ hB e1 d2 d3
          · rw [if_neg k3]
            by_cases k4 : isK T (tokS T e).2.1 (tokS T e).2.2 4 = true
            · have e1 : lnB T n L (tokS T e) = cpS T n L (tokS T e).2.2 true := by unfold lnB; rw [if_neg (fun z => k0 z.2), if_neg (fun z => k1 z.2), if_neg (fun z => k2 z.2), if_neg (fun z => k3 z.2), if_pos ⟨c, k4⟩]
              rw [e1] at hB
              obtain ⟨⟨v, M3⟩, d1, d2, d3⟩ := y_cp (sw := true) a2 hT b3 hn hL
              rw [if_pos k4, if_pos (show nI 4 ≠ -1 by decide), a1, Option.bind_some, if_neg (show ¬ nI 4 = 0 by decide), if_neg (show ¬ nI 4 = 1 by decide), if_neg (show ¬ nI 4 = 2 by decide), if_neg (show ¬ nI 4 = 3 by decide), show fp_X11_two 46 1 M2 = some (v, M3) from d1, Option.bind_some]
              exact close _ _ hB e1 d2 d3
            · rw [if_neg k4, if_neg (show ¬ (-1 : Int32) ≠ -1 from fun z => z rfl)]
              have e1 : lnB T n L (tokS T e) = .inl (2, (tokS T e).2.1) := by unfold lnB; rw [if_neg (fun z => k0 z.2), if_neg (fun z => k1 z.2), if_neg (fun z => k2 z.2), if_neg (fun z => k3 z.2), if_neg (fun z => k4 z.2)]
              rw [← hlnF]
              exact bad fun _ => e1
  · rw [if_neg c, if_neg (show ¬ (-1 : Int32) ≠ -1 from fun z => z rfl)]
    exact bad fun _ => lnB_tok c
def RdE (r : Sum (Nat × Nat) (Nat × Nat)) (M : zM) : Prop := match r with
  | .inl q => FaR q M
  | .inr q => NrH q.1 q.2 M ∧ q.1 < 8 ∧ q.2 < 2 ^ tri q.1 ∧ zI M 46 10 = 0 ∧ zI M 46 11 = -1
theorem y_ldLoop {T : List Nat} (hT : ∀ x ∈ T, x < 256) (K : zM → Option (Int32 × zM)) : ∀ d f n L e M, T.length ≤ e + d → d + 1 < f → PaH T n L e M → e ≤ T.length → n < 8 → L < 2 ^ tri n → ∃ M', fp_X11_load_L88 K 46 f 1 M = K M' ∧ RdE (prS T (d + 1) n L e) M' ∧ Fz atL9 M M' := by
  intro d
  induction d with
  | zero =>
    intro f n L e M h1 h2 h3 h4 h5 h6
    obtain ⟨f, rfl⟩ : ∃ g, f = g + 1 := ⟨f - 1, by omega⟩
    obtain ⟨b1, b2, b3, b4, b5⟩ := tok_le h4
    have tk : (tokS T e).1 = 0 := by
      by_cases c : (tokS T e).1 = 0
      · exact c
      · have := b4 c; omega
    have h7 : zI M 46 7 = 0 := by rw [h3.2.2.1.1, tk]; rfl
    refine ⟨M, by rw [fp_X11_load_L88, if_neg (show ¬ (1 : Int32) = 0 by decide), gI_46 h3.1.1 7, Option.bind_some, h7, if_pos rfl], ?_, Fz_refl⟩
    rw [prS, tk, if_neg (by decide), if_pos rfl]
    exact ⟨h3.2.1, h5, h6, h3.2.2.2.1, h3.2.2.2.2⟩
  | succ d ih =>
    intro f n L e M h1 h2 h3 h4 h5 h6
    obtain ⟨f, rfl⟩ : ∃ g, f = g + 1 := ⟨f - 1, by omega⟩
    obtain ⟨b1, b2, b3, b4, b5⟩ := tok_le h4
    have hr10 := rkd_lt b5
    rw [fp_X11_load_L88, if_neg (show ¬ (1 : Int32) = 0 by decide), gI_46 h3.1.1 7, Option.bind_some, h3.2.2.1.1, prS]
    by_cases c0 : (tokS T e).1 = 0
    · rw [c0, if_pos (show nI (rkd 0) = 0 by decide), if_neg (by decide), if_pos rfl]
      exact ⟨M, rfl, ⟨h3.2.1, h5, h6, h3.2.2.2.1, h3.2.2.2.2⟩, Fz_refl⟩
    · have hrk : rkd (tokS T e).1 ≠ 0 := by unfold rkd; rw [if_neg c0]; split <;> omega
      obtain ⟨⟨v, M2⟩, a1, a2, a3⟩ := y_ln h3 hT h4 h5 h6
      have a3' : Fz atL9 M M2 := a3
      rw [if_neg (show ¬ nI (rkd (tokS T e).1) = 0 by rw [n_0, n_eq (by omega) (by omega)]; exact hrk), a1, Option.bind_some, zpp_mk, if_neg c0]
      unfold lnF at a2
      have stop : v = 0 → fp_X11_load_L88 K 46 f v M2 = K M2 := by
        intro hv
        obtain ⟨f, rfl⟩ : ∃ g, f = g + 1 := ⟨f - 1, by omega⟩
        rw [fp_X11_load_L88, if_pos hv]
      by_cases c4 : (tokS T e).1 = 4
      · rw [if_pos c4] at a2 ⊢
        exact ⟨M2, stop a2.1, a2.2, a3'⟩
      · rw [if_neg c4] at a2 ⊢
        have hok := lnS_ok h5 h6 h4 c0
        cases hr : lnS T n L (tokS T e) with
        | inl q =>
          rw [hr] at a2
          exact ⟨M2, stop a2.1, a2.2, a3'⟩
        | inr q =>
          rw [hr] at a2
          obtain ⟨o1, o2, o3, o4⟩ := hok q hr
          have hv : v = 1 := a2.1
          obtain ⟨M3, g1, g2, g3⟩ := ih f q.1 q.2.1 q.2.2 M2 (by omega) (by omega) a2.2 o4 o1 o2
          exact ⟨M3, by rw [hv]; exact g1, g2, Fz_trans a3' g3⟩
abbrev atQ9 : Nat → Nat → Prop := fun a k => a = 47 ∨ a = 49 ∨ (50 ≤ a ∧ a ≤ 52) ∨ a = 54 ∨ (a = 46 ∧ (k = 0 ∨ (5 ≤ k ∧ k ≤ 12)))
theorem IR_ld {S : zSt} {f : Int32 × Int32} {n L : Nat} {A : List (Nat × Nat)} {M M' : zM} (h : IR S M) (hf : Fz (fun a k => atQ9 a k ∨ atA a k) M M') (hN : NrH n L M') (hn : n < 8) (hL : L < 2 ^ tri n) (e5 : zI M' 46 5 = 0) (e12 : zI M' 46 12 = f.1) (e11 : zI M' 46 11 = f.2) (hA : AcH A M') (h1 : A.length ≤ 12) (h2 : ∀ q ∈ A, okN q) : IR (nwS (ldS S f) n L A) M' := by
  obtain ⟨g1, g2, g3, g4, g5, g6, g7, g8⟩ := h
  exact ⟨⟨⟨hn, hL⟩, Nat.zero_le _, (fun x hx => absurd hx List.not_mem_nil), h1, h2, g1.2.2.2.2.2⟩, Fz_C hf g2, hN, (hf.2 _ _ (by omega)).trans g4, ⟨e5, fun i hi => absurd hi (Nat.not_lt_zero _)⟩, ⟨e12, e11⟩, hA, fun k hk => imR_z (g8 k hk) hf (fun k => by omega) (fun k => by omega)⟩
theorem nar_sgb (x : Nat) : vp_nar .byte (sgb x) = sgb x := by
  unfold sgb
  rw [nar_8, nar_8, Int8.toInt8_toInt32]
theorem y_load {S : zSt} {M : zM} (h : IR S M) (v : Int32) : RM (q_load S v) (fp_X11_load 46 v M) M := by
  unfold fp_X11_load q_load
  have hC := IR_C h
  have o2 := h.1.2.1
  obtain ⟨g1, g2⟩ := IR_n h
  rw [ts_46 hC, gI_46 hC 5, Option.bind_some, (IR_tp h).1, y_from0 (by omega), Option.bind_some]
  cases hv : asN v ((sT S).length + 1) with
  | none => rw [b_no, if_neg (show ¬ (0 : Int32) ≠ 0 by decide)]; exact y_rf h Fc_refl
  | some m =>
    obtain ⟨rfl, hm, hb⟩ := asN_some hv
    obtain ⟨T, hTd⟩ : ∃ T, T = (sT S).take m := ⟨_, rfl⟩
    have hTl : T.length = m := by rw [hTd, List.length_take]; omega
    have hT : ∀ x ∈ T, x < 256 := fun x hx => h.1.2.2.1 x (List.mem_of_mem_take (hTd ▸ hx))
    have hTg : ∀ i, i < m → T.getD i 0 = (sT S).getD i 0 := fun i hi => by
      rw [hTd]
      simp [List.getD, List.getElem?_take, hi]
    rw [b_so, if_pos (show (1 : Int32) ≠ 0 by decide), pI_46 hC, Option.bind_some]
    dsimp only
    rw [← hTd]
    obtain ⟨M3, hM3⟩ : ∃ M3, M3 = zsI M 46 6 (nI m) := ⟨_, rfl⟩
    rw [← hM3]
    have f3 : Fz atQ9 M M3 := by rw [hM3]; exact Fz_sI (by omega)
    have hC3 := Fz_C f3 hC
    have e6 : zI M3 46 6 = nI m := by rw [hM3, zI_same]
    have copy : ∀ K : zM → Option (Int32 × zM), ∃ M8, fp_X11_load_L25 K 46 (nI m) FU 0 M3 = K M8 ∧ Fz (fun a _ => a = 49) M3 M8 ∧ ∀ i, i < m → zI M8 49 i = sgb (T.getD i 0) := by
      intro K
      rw [n_0]
      refine up (P := fun i f => ∀ M1, Fz (fun a _ => a = 49) M3 M1 → (∀ j, j < i → zI M1 49 j = sgb (T.getD j 0)) → ∃ M8, fp_X11_load_L25 K 46 (nI m) f (nI i) M1 = K M8 ∧ Fz (fun a _ => a = 49) M3 M8 ∧ ∀ i, i < m → zI M8 49 i = sgb (T.getD i 0)) (a := 0) (n := m) ?_ ?_ FU (by omega) (FU_gt (by omega)) M3 Fz_refl (fun j hj => by omega)
      · intro f M1 k1 k2
        exact ⟨M1, by rw [fp_X11_load_L25, stp], k1, k2⟩
      · intro i f _ hi ih M1 k1 k2
        have hC1 := Fz_C k1 hC3
        have hb : zI M1 48 i = sgb (T.getD i 0) := by rw [k1.2 48 i (show ¬ (48 : Nat) = 49 by decide), f3.2 48 i (by omega), (IR_tp h).2 i (by omega), hTg i hi]
        rw [fp_X11_load_L25, go hi (by omega), gR_46_4 hC1, Option.bind_some, gR_46_3 hC1, Option.bind_some, lI_48 hC1 (by omega), Option.bind_some, hb, tI_49 hC1 (by omega), Option.bind_some, nar_sgb, inc]
        refine ih _ (Fz_trans k1 (Fz_sI rfl)) fun j hj => ?_
        by_cases z : j = i
        · rw [z, zI_same]
        · rw [zI_other _ _ (Or.inr z)]; exact k2 j (by omega)
    obtain ⟨M8, a1, a2, a3⟩ := copy (fun M8 =>
          (zpI 9 M8 46 5 0).bind fun (M9 : zM) =>
          (zpI 9 M9 46 10 0).bind fun (M10 : zM) =>
          (zpI 9 M10 46 11 (-1)).bind fun (M11 : zM) =>
          (zpI 9 M11 46 9 0).bind fun (M12 : zM) =>
          (zgR 9 M12 46 17).bind fun (y13 : Nat) =>
          (fp_X11_puts 46 y13 0 M12).bind fun (M14 : zM) =>
          (zpI 9 M14 46 0 0).bind fun (M15 : zM) =>
          (fp_X11_ahead 46 M15).bind fun (M16 : zM) =>
          fp_X11_load_L88
            (fun M21 =>
              (zgI 9 M21 46 10).bind fun (y22 : Int32) =>
              (zpI 9 M21 46 12 y22).bind fun (M23 : zM) =>
              (zgI 9 M23 46 10).bind fun (y24 : Int32) =>
              if y24 ≤ 0 then (
                (fp_X11_acted 46 M23).bind fun (M25 : zM) =>
                (zgI 9 M25 46 0).bind fun (y26 : Int32) =>
                (fp_X11_gives 46 y26 M25).bind fun p29 => zpp p29 fun (y27 : Int32) (M28 : zM) =>
                some (y27, M28))
              else (
                (zgR 9 M23 46 17).bind fun (y30 : Nat) =>
                (fp_X11_brings 46 y30 0 M23).bind fun (M31 : zM) =>
                (fp_X11_refuse 46 9 M31).bind fun p34 => zpp p34 fun (y32 : Int32) (M33 : zM) =>
                some (y32, M33))) 46 FU 1 M16)
    have hC8 := Fz_C a2 hC3
    rw [a1, pI_46 hC8, Option.bind_some, pI_46 (by exact hC8), Option.bind_some, pI_46 (by exact hC8), Option.bind_some, pI_46 (by exact hC8), Option.bind_some]
    obtain ⟨M12, hM12⟩ : ∃ M12, M12 = zsI (zsI (zsI (zsI M8 46 5 0) 46 10 0) 46 11 (-1)) 46 9 0 := ⟨_, rfl⟩
    rw [← hM12]
    have f12 : Fz (fun a k => a = 46 ∧ (k = 5 ∨ k = 9 ∨ k = 10 ∨ k = 11)) M8 M12 := by
      rw [hM12]
      exact Fz_trans (Fz_trans (Fz_trans (Fz_sI (by decide)) (Fz_sI (by decide))) (Fz_sI (by decide))) (Fz_sI (by decide))
    have e5 : zI M12 46 5 = 0 := by rw [hM12, zI_other _ _ (Or.inr (by decide)), zI_other _ _ (Or.inr (by decide)), zI_other _ _ (Or.inr (by decide)), zI_same]
    have e10 : zI M12 46 10 = 0 := by rw [hM12, zI_other _ _ (Or.inr (by decide)), zI_other _ _ (Or.inr (by decide)), zI_same]
    have e11 : zI M12 46 11 = -1 := by rw [hM12, zI_other _ _ (Or.inr (by decide)), zI_same]
    have e9 : zI M12 46 9 = 0 := by rw [hM12, zI_same]
    have g12 : Fz atQ9 M M12 := Fz_trans (Fz_trans f3 (Fz_mono a2 fun a k q => by omega)) (Fz_mono f12 fun a k q => by omega)
    have g12' : Fz (fun a k => a = 49 ∨ (a = 46 ∧ (5 ≤ k ∧ k ≤ 12))) M M12 := by
      refine Fz_trans (Fz_trans (by rw [hM3]; exact Fz_sI (by omega)) (Fz_mono a2 fun a k q => by omega)) (Fz_mono f12 fun a k q => by omega)
    have hC12 := Fz_C g12 hC
    have N12 : NrH (sN S) (sL S) M12 := NrH_z (IR_N h) g12' (by omega) (fun k => by omega)
    obtain ⟨M14, c1, c2, c3⟩ := y_aside hC12 N12 g2
    have hC14 := Fz_C c3 hC12
    rw [gR_46_17 hC12, Option.bind_some, c1, Option.bind_some, pI_46 hC14, Option.bind_some]
    obtain ⟨M15, hM15⟩ : ∃ M15, M15 = zsI M14 46 0 0 := ⟨_, rfl⟩
    rw [← hM15]
    have f15 : Fz (fun a k => a = 46 ∧ k = 0) M14 M15 := by rw [hM15]; exact Fz_sI ⟨rfl, rfl⟩
    have f15' : Fz (fun a k => a = 54 ∨ (a = 46 ∧ k = 0)) M12 M15 := Fz_trans (Fz_mono c3 fun a k q => Or.inl q) (Fz_mono f15 fun a k q => Or.inr q)
    have hC15 := Fz_C f15 hC14
    have hX : TxR T M15 := ⟨hC15, by rw [f15'.2 _ _ (by omega), f12.2 46 6 (by omega), a2.2 46 6 (by decide), e6, hTl], by omega, fun i hi => by rw [f15'.2 49 _ (by omega), f12.2 49 _ (by omega), a3 i (by omega)]⟩
    obtain ⟨M16, d1, d2, d3⟩ := y_ahead (e := 0) hX hT (by rw [f15'.2 _ _ (by omega), e9]; rfl) (Nat.zero_le _)
    have N15 : NrH 0 0 M15 := ⟨by rw [hM15, zI_same]; rfl, fun p hp => by omega⟩
    have hP : PaH T 0 0 0 M16 := ⟨TxR_z hX d3 (by omega) (fun k => by omega), NrH_z N15 d3 (by omega) (fun k => by omega), d2, by rw [d3.2 _ _ (by omega), f15'.2 _ _ (by omega), e10], by rw [d3.2 _ _ (by omega), f15'.2 _ _ (by omega), e11]⟩
    obtain ⟨M21, k1, k2, k3⟩ := y_ldLoop hT (fun M21 =>
              (zgI 9 M21 46 10).bind fun (y22 : Int32) =>
              (zpI 9 M21 46 12 y22).bind fun (M23 : zM) =>
              (zgI 9 M23 46 10).bind fun (y24 : Int32) =>
              if y24 ≤ 0 then (
                (fp_X11_acted 46 M23).bind fun (M25 : zM) =>
                (zgI 9 M25 46 0).bind fun (y26 : Int32) =>
                (fp_X11_gives 46 y26 M25).bind fun p29 => zpp p29 fun (y27 : Int32) (M28 : zM) =>
                some (y27, M28))
              else (
                (zgR 9 M23 46 17).bind fun (y30 : Nat) =>
                (fp_X11_brings 46 y30 0 M23).bind fun (M31 : zM) =>
                (fp_X11_refuse 46 9 M31).bind fun p34 => zpp p34 fun (y32 : Int32) (M33 : zM) =>
                some (y32, M33))) (T.length + 1) FU 0 0 0 M16 (by omega) (FU_gt (by omega)) hP (Nat.zero_le _) (by decide) (by decide)
    rw [d1, Option.bind_some, k1]
    have hC21 := Fz_C k3 hP.1.1
    have g21 : Fz (fun a k => atL9 a k ∨ (a = 54 ∨ (a = 46 ∧ k = 0))) M12 M21 := Fz_trans (Fz_trans (Fz_mono f15' fun a k q => Or.inr q) (Fz_mono d3 fun a k q => by omega)) (Fz_mono k3 fun a k q => Or.inl q)
    have h54 : NtH 54 0 (sN S, sL S) M21 := NtH_z (NtH_z (NtH_z c2 f15 (fun k => by omega)) d3 (fun k => by omega)) k3 (fun k => by omega)
    have e5' : zI M21 46 5 = 0 := by rw [g21.2 _ _ (by omega), e5]
    rw [gI_46 hC21 10, Option.bind_some, pI_46 hC21, Option.bind_some, gI_46 (by exact hC21) 10, Option.bind_some, zI_other _ _ (Or.inr (by decide))]
    obtain ⟨M23, hM23⟩ : ∃ M23, M23 = zsI M21 46 12 (zI M21 46 10) := ⟨_, rfl⟩
    rw [← hM23]
    have f23 : Fz (fun a k => a = 46 ∧ k = 12) M21 M23 := by rw [hM23]; exact Fz_sI ⟨rfl, rfl⟩
    have hC23 := Fz_C f23 hC21
    have e12 : zI M23 46 12 = zI M21 46 10 := by rw [hM23, zI_same]
    have G : Fz atQ9 M M23 := Fz_trans (Fz_trans g12 (Fz_mono g21 fun a k q => by omega)) (Fz_mono f23 fun a k q => by omega)
    have t23 : NtH 54 0 (sN S, sL S) M23 := NtH_z h54 f23 (fun k => by omega)
    have e5'' : zI M23 46 5 = 0 := by rw [f23.2 _ _ (by omega), e5']
    have A23 : AcH (sA S) M23 := ⟨(G.2 _ _ (by omega)).trans (IR_A h).1, fun i hi => NtH_z ((IR_A h).2 i hi) G (fun k => by omega)⟩
    have hqR : ∀ a k, (atQ9 a k ∨ atA a k) → atR a := fun a k q => by show 46 ≤ a ∧ a < 72; omega
    show RM (match txS T with | .inl q => rf (ldS S (nI q.1, nI q.2)) 9 | .inr q => gv (bcS (ldS S (nI 0, -1)) q.1 q.2) (nI q.1)) _ M
    unfold txS
    cases hr : prS T (T.length + 2) 0 0 0 with
    | inl q =>
      rw [show T.length + 1 + 1 = T.length + 2 from rfl, hr] at k2
      obtain ⟨q1, q2, q3, q4⟩ := k2
      obtain ⟨M31, l1, l2, l3⟩ := y_brings hC23 t23 g2 (by decide) (by decide) (by decide) rfl (L54 hC23) (by decide) (by decide)
      rw [← n_0] at l1
      have G' : Fz (fun a k => atQ9 a k ∨ atA a k) M M31 := Fz_trans (Fz_mono G fun a k q => Or.inl q) (Fz_mono l3 fun a k q => by omega)
      dsimp only
      rw [q1, if_neg (show ¬ nI q.1 ≤ 0 by rw [n_0, n_le (by omega) (by omega)]; omega), gR_46_17 hC23, Option.bind_some, l1, Option.bind_some]
      have hI : IR (nwS (ldS S (nI q.1, nI q.2)) (sN S) (sL S) (sA S)) M31 := IR_ld h G' l2 g2 (IR_L h) (by rw [l3.2 _ _ (by omega), e5'']) (by rw [l3.2 _ _ (by omega), e12, q1]) (by rw [l3.2 _ _ (by omega), f23.2 _ _ (by omega), q2]) ⟨(l3.2 _ _ (by omega)).trans A23.1, fun i hi => NtH_z (A23.2 i hi) l3 (fun k => by omega)⟩ h.1.2.2.2.1 h.1.2.2.2.2.1
      exact y_rf (S := ldS S (nI q.1, nI q.2)) hI (Fz_c G' hqR)
    | inr q =>
      rw [show T.length + 1 + 1 = T.length + 2 from rfl, hr] at k2
      obtain ⟨q1, q2, q3, q4, q5⟩ := k2
      obtain ⟨M25, l1, l2, l3⟩ := y_acted hC23 A23 h.1.2.2.2.1 t23
      have G' : Fz (fun a k => atQ9 a k ∨ atA a k) M M25 := Fz_trans (Fz_mono G fun a k q => Or.inl q) (Fz_mono l3 fun a k q => Or.inr q)
      have N25 : NrH q.1 q.2 M25 := NrH_z (NrH_z q1 f23 (by omega) (fun k => by omega)) l3 (by omega) (fun k => by omega)
      dsimp only
      rw [q4, if_pos (show (0 : Int32) ≤ 0 by decide), l1, Option.bind_some, gI_46 (Fz_C l3 hC23) 0, Option.bind_some, N25.1]
      have hI : IR (nwS (ldS S (nI 0, -1)) q.1 q.2 (pushA (sA S) (sN S, sL S))) M25 := IR_ld h G' N25 q2 q3 (by rw [l3.2 _ _ (by omega), e5'']) (by rw [l3.2 _ _ (by omega), e12, q4]; rfl) (by rw [l3.2 _ _ (by omega), f23.2 _ _ (by omega), q5]) l2 (pushA_len h.1.2.2.2.1) (okA_push h.1)
      exact y_gv (S := bcS (ldS S (nI 0, -1)) q.1 q.2) hI (Fz_c G' hqR)

/-! ===== 96h: the reference: many ===== -/
theorem y_many {S : zSt} {M : zM} (h : IR S M) (v : Int32) : RM (q_many S v) (fp_X11_many 46 v M) M := by
  unfold fp_X11_many q_many
  have hC := IR_C h
  obtain ⟨g1, g2⟩ := IR_n h
  have g4 := IR_L h
  have hN := IR_N h
  rw [ts_46 hC]
  cases hv : asN v 8 with
  | none =>
    have ne : ∀ a, a < 8 → v ≠ nI a := fun a ha z => by rw [z, asN_n ha (by omega)] at hv; exact absurd hv (by simp)
    rw [if_neg (show ¬ v = 0 from ne 0 (by decide)), if_neg (show ¬ v = 1 from ne 1 (by decide)), if_neg (show ¬ v = 2 from ne 2 (by decide)), if_neg (show ¬ v = 3 from ne 3 (by decide)), if_neg (show ¬ v = 4 from ne 4 (by decide)), if_neg (show ¬ v = 5 from ne 5 (by decide)), if_neg (show ¬ v = 6 from ne 6 (by decide)), if_neg (show ¬ v = 7 from ne 7 (by decide))]
    exact y_rf h Fc_refl
  | some w =>
    obtain ⟨rfl, hw, hb⟩ := asN_some hv
    dsimp only
    unfold mny
    have w8 : w = 0 ∨ w = 1 ∨ w = 2 ∨ w = 3 ∨ w = 4 ∨ w = 5 ∨ w = 6 ∨ w = 7 := by omega
    rcases w8 with rfl | rfl | rfl | rfl | rfl | rfl | rfl | rfl
    · rw [if_pos (show nI 0 = 0 by decide), gI_46 hC 0, Option.bind_some, g1]; exact y_gv h Fc_refl
    · rw [if_neg (show ¬ nI 1 = 0 by decide), if_pos (show nI 1 = 1 by decide), y_lines hC hN g2 g4, Option.bind_some]; exact y_gv h Fc_refl
    · rw [if_neg (show ¬ nI 2 = 0 by decide), if_neg (show ¬ nI 2 = 1 by decide), if_pos (show nI 2 = 2 by decide), y_sets hC hN g2 g4, Option.bind_some]; exact y_gv h Fc_refl
    · rw [if_neg (show ¬ nI 3 = 0 by decide), if_neg (show ¬ nI 3 = 1 by decide), if_neg (show ¬ nI 3 = 2 by decide), if_pos (show nI 3 = 3 by decide), gI_46 hC 20, Option.bind_some, (IR_A h).1]; exact y_gv h Fc_refl
    · rw [if_neg (show ¬ nI 4 = 0 by decide), if_neg (show ¬ nI 4 = 1 by decide), if_neg (show ¬ nI 4 = 2 by decide), if_neg (show ¬ nI 4 = 3 by decide), if_pos (show nI 4 = 4 by decide), y_areJoined hC hN g2 g4, Option.bind_some]
      rw [if_neg (show ¬ 4 = 0 by decide), if_neg (show ¬ 4 = 1 by decide), if_neg (show ¬ 4 = 2 by decide), if_neg (show ¬ 4 = 3 by decide), if_pos rfl]
      unfold spls
      cases hj : joi (sN S) (sL S) with
      | false => rw [b_ff, if_pos rfl, if_neg (by decide)]; exact y_gv h Fc_refl
      | true =>
        obtain ⟨M1, e1, e2, e3⟩ := y_splits (-1) hC hN g2
        have hz : Fz scR M M1 := Fz_mono e2 fun a k q => by omega
        rw [b_tt, if_neg (show ¬ (1 : Int32) = 0 by decide), e1, Option.bind_some, zpp_mk, if_pos rfl]
        exact y_gv (IR_z h hz) (scR_c hz)
    · obtain ⟨M1, mk, e1, e2, e3, e4⟩ := y_pgather h
      rw [if_neg (show ¬ nI 5 = 0 by decide), if_neg (show ¬ nI 5 = 1 by decide), if_neg (show ¬ nI 5 = 2 by decide), if_neg (show ¬ nI 5 = 3 by decide), if_neg (show ¬ nI 5 = 4 by decide), if_pos (show nI 5 = 5 by decide), e1, Option.bind_some, gI_46 (IR_C e2) 28, Option.bind_some, e4.1]
      exact y_gv e2 e3
    · obtain ⟨M1, e1, e2, e3, e4⟩ := y_models h (-1)
      have hg := g0_all (qq := qq0) (by decide) (mds S) (by have := mds_lt h.1; omega)
      rw [if_neg (show ¬ nI 6 = 0 by decide), if_neg (show ¬ nI 6 = 1 by decide), if_neg (show ¬ nI 6 = 2 by decide), if_neg (show ¬ nI 6 = 3 by decide), if_neg (show ¬ nI 6 = 4 by decide), if_neg (show ¬ nI 6 = 5 by decide), if_pos (show nI 6 = 6 by decide), e1, Option.bind_some, zpp_mk, hg]
      exact y_gv e2 e3
    · obtain ⟨M1, e1, e2, e3, e4, e5, e6⟩ := y_classS (-1) h
      rw [if_neg (show ¬ nI 7 = 0 by decide), if_neg (show ¬ nI 7 = 1 by decide), if_neg (show ¬ nI 7 = 2 by decide), if_neg (show ¬ nI 7 = 3 by decide), if_neg (show ¬ nI 7 = 4 by decide), if_neg (show ¬ nI 7 = 5 by decide), if_neg (show ¬ nI 7 = 6 by decide), if_pos (show nI 7 = 7 by decide), e1, Option.bind_some, zpp_mk]
      exact y_gv e2 e3

/-! ===== 77: the class: what is asked of the models ===== -/
theorem MO_g {m0 r0 m r r' : Nat} {M M' : zM} (hm0 : zMo m0) (hm : zMo m) (hne : m0 ≠ m) (hr : r0 ≠ r) (hC : zC M) (hf : Fg m r r' M M') (h : MO m0 r0 M) : MO m0 r0 M' := by
  obtain ⟨a1, a2, a4, a5, a6, a7, a8, a9, a10⟩ := hf
  have hlt := zC_lt hC (a := m0) (by rcases hm0 with rfl | rfl | rfl <;> decide)
  have e : ∀ k, zI M' m0 k = zI M m0 k := fun k => a1 m0 k hlt hne (by rcases hm0 with rfl | rfl | rfl <;> rcases hm with rfl | rfl | rfl <;> decide) (by rcases hm0 with rfl | rfl | rfl <;> rcases hm with rfl | rfl | rfl <;> decide)
  have w : ∀ ws, MW m0 r0 ws M → MW m0 r0 ws M' := by
    rintro ws ⟨q1, q2, q3, q4, q5, q6, q7, q8⟩
    exact ⟨by rw [a5 m0 1 hlt (Or.inl hne)]; exact q1, q2, by omega, q4, by rw [e]; exact q5, fun i hi => by rw [a4 r0 i q3 hr]; exact q6 i hi, by rw [a6 r0 q3]; exact q7, by rw [a6 r0 q3]; exact q8⟩
  rcases h with ⟨h1, ws, h2⟩ | ⟨n, L, want, b1, b2, b3, q1, q2, q3, q4, q5⟩
  · exact Or.inl ⟨by rw [e]; exact h1, ws, w ws h2⟩
  · exact Or.inr ⟨n, L, want, b1, b2, b3, by rw [e]; exact q1, by rw [e]; exact q2, by rw [e]; exact q3, by rw [e]; exact q4, w _ q5⟩
theorem MO_W {m r : Nat} {M : zM} (h : MO m r M) : ∃ ws, MW m r ws M := by
  rcases h with ⟨_, ws, h⟩ | ⟨n', L', w', _, _, _, h⟩
  · exact ⟨ws, h⟩
  · exact ⟨_, h.2.2.2.2⟩
theorem Fg_B {m r r' : Nat} {M M' : zM} (hm : zMo m) (hC : zC M) (hf : Fg m r r' M M') {S : zSt} (h : IB S M) : IB S M' := by
  obtain ⟨a1, -⟩ := hf
  have hm' := mo_lt hm
  have f6 : ∀ a, a ≤ 8 → ∀ k, zI M' a k = zI M a k := fun a ha k => a1 a k (zC_lt hC (by omega)) (by omega) (by omega) (by omega)
  obtain ⟨h1, h2, h3, h4, h5, h6, h7⟩ := h
  refine ⟨(f6 0 (by decide) 0).trans h1, (f6 0 (by decide) 1).trans h2, (f6 0 (by decide) 2).trans h3, ?_, ⟨(f6 1 (by decide) 1).trans h5.1, fun i hi => (f6 2 (by decide) i).trans (h5.2 i hi)⟩, ⟨(f6 6 (by decide) 1).trans h6.1, fun i hi => (f6 7 (by decide) i).trans (h6.2 i hi)⟩, fun k hk => (f6 8 (by decide) k).trans (h7 k hk)⟩
  cases hF : sQ S with
  | none => rw [hF] at h4; exact (f6 0 (by decide) 3).trans h4
  | some q => rw [hF] at h4; exact ⟨(f6 0 (by decide) 3).trans h4.1, (f6 3 (by decide) 2).trans h4.2.1, (f6 3 (by decide) 3).trans h4.2.2⟩
theorem Fg_T {m r r' : Nat} {M M' : zM} (hm : zMo m) (hC : zC M) (hf : Fg m r r' M M') (h : TuO M) : TuO M' := by
  obtain ⟨a1, -⟩ := hf
  have hm' := mo_lt hm
  have f6 : ∀ a, 38 ≤ a → a ≤ 40 → ∀ k, zI M' a k = zI M a k := fun a h1 h2 k => a1 a k (zC_lt hC (by omega)) (by omega) (by omega) (by omega)
  rcases h with h | ⟨n, L, b1, b2, h1, h2, h3, h4⟩
  · exact Or.inl ((f6 38 (by decide) (by decide) 1).trans h)
  · exact Or.inr ⟨n, L, b1, b2, (f6 38 (by decide) (by decide) 1).trans h1, (f6 38 (by decide) (by decide) 2).trans h2, (f6 38 (by decide) (by decide) 0).trans h3, fun i hi => ⟨(f6 39 (by decide) (by decide) i).trans (h4 i hi).1, (f6 40 (by decide) (by decide) i).trans (h4 i hi).2⟩⟩
theorem x_gath {S : zSt} {t n L want m : Nat} {M : zM} (h : IC S t M) (hn : n < 8) (hL : L < 2 ^ tri n) (hm : zMo m) (hw : want ≤ 80000) (hw0 : 0 < want) :
    ∃ r' M', fp_X1_gather m (nI n) (nI L) (nI want) M = some M' ∧ MG m r' n L want M' ∧ IC S t M' ∧ Rk M M' ∧ ∀ l, AN M 45 l → AN M' 45 l := by
  obtain ⟨h1, hC, h3, h4, r, st, i1, i2, i3, ⟨d1, d2, d3⟩, i5, i6, i7, i8⟩ := h
  obtain ⟨w1, W1⟩ := MO_W i1
  obtain ⟨w2, W2⟩ := MO_W i2
  obtain ⟨w3, W3⟩ := MO_W i3
  have hm' := mo_lt hm
  have fin : ∀ rm r' M', Fg m rm r' M M' → MG m r' n L want M' → (∃ ra, IM ra st t M') → IC S t M' ∧ Rk M M' ∧ ∀ l, AN M 45 l → AN M' 45 l := by
    intro rm r' M' hf hG ⟨ra, hI⟩
    refine ⟨⟨h1, Fg_C hm hf hC, Fg_B hm hC hf h3, Fg_T hm hC hf h4, ra, st, hI⟩, fun a h1 h2 k => hf.1 a k (zC_lt hC h2) (by omega) (by omega) (by omega), fun l hl => ?_⟩
    obtain ⟨l1, l2, l3, l4, l5⟩ := hl
    have hL45 : zL M' 45 = zL M 45 := hf.2.2.2.2.1 45 l1
    have hS := hf.2.2.2.2.2.1
    exact ⟨by omega, l2, by rw [hL45]; exact l3, by rw [hL45]; exact l4, fun i hi => (hf.1 45 i l1 (by omega) (by omega) (by omega)).trans (l5 i hi)⟩
  have stamp : ∀ rm r' M', Fg m rm r' M M' → StH 23 st M' := by
    intro rm r' M' hf
    obtain ⟨a1, a2, -⟩ := hf
    have h27 : ∀ j, zI M' 27 j = zI M 27 j := fun j => a1 27 j (zC_lt hC (by decide)) (by rcases hm with rfl | rfl | rfl <;> decide) (by rcases hm with rfl | rfl | rfl <;> decide) (by rcases hm with rfl | rfl | rfl <;> decide)
    refine ⟨?_, fun j hj => ?_⟩
    · by_cases q : m = 23
      · rw [q] at a2; rw [a2]; exact i5.1
      · rw [a1 23 9 (zC_lt hC (by decide)) (fun z => q z.symm) (by rcases hm with rfl | rfl | rfl <;> decide) (by rcases hm with rfl | rfl | rfl <;> decide)]; exact i5.1
    · obtain ⟨v, hv, e⟩ := i5.2 j hj
      exact ⟨v, hv, by rw [h27]; exact e⟩
  have r1 := W1.2.2.1
  have r2 := W2.2.2.1
  have r3 := W3.2.2.1
  have far : ∀ {x r' : Nat} {rm : Nat}, x < zS M → x ≠ rm → (r' = rm ∨ zS M ≤ r') → r' ≠ x := fun h1 h2 h3 => by omega
  rcases hm with rfl | rfl | rfl
  · obtain ⟨r', M', e1, e2, e3⟩ := c_mgather hn hL (Or.inl rfl) hw hw0 hC i1 (by omega) (by omega)
    have e3b := e3
    obtain ⟨a1, a2, a4, a5, a6, a7, a8, a9, a10⟩ := e3b
    refine ⟨r', M', e1, e2, fin r.1 r' M' e3 e2 ⟨(r', r.2.1, r.2.2), ?_, MO_g (Or.inr (Or.inl rfl)) (Or.inl rfl) (by decide) d1.symm hC e3 i2, MO_g (Or.inr (Or.inr rfl)) (Or.inl rfl) (by decide) d2.symm hC e3 i3, ⟨far r2 d1.symm a8, far r3 d2.symm a8, d3⟩, stamp _ _ _ e3, i6, ?_, ?_⟩⟩
    · exact Or.inr ⟨n, L, want, hn, hL, hw, e2⟩
    · dsimp only; rw [a6 _ r2, a6 _ r3]; omega
    · dsimp only; rw [a6 _ r2, a6 _ r3]; omega
  · obtain ⟨r', M', e1, e2, e3⟩ := c_mgather hn hL (Or.inr (Or.inl rfl)) hw hw0 hC i2 (by omega) (by omega)
    have e3b := e3
    obtain ⟨a1, a2, a4, a5, a6, a7, a8, a9, a10⟩ := e3b
    refine ⟨r', M', e1, e2, fin r.2.1 r' M' e3 e2 ⟨(r.1, r', r.2.2), MO_g (Or.inl rfl) (Or.inr (Or.inl rfl)) (by decide) d1 hC e3 i1, ?_, MO_g (Or.inr (Or.inr rfl)) (Or.inr (Or.inl rfl)) (by decide) d3.symm hC e3 i3, ⟨(far r1 d1 a8).symm, d2, far r3 d3.symm a8⟩, stamp _ _ _ e3, i6, ?_, ?_⟩⟩
    · exact Or.inr ⟨n, L, want, hn, hL, hw, e2⟩
    · dsimp only; rw [a6 _ r1, a6 _ r3]; omega
    · dsimp only; rw [a6 _ r1, a6 _ r3]; omega
  · obtain ⟨r', M', e1, e2, e3⟩ := c_mgather hn hL (Or.inr (Or.inr rfl)) hw hw0 hC i3 (by omega) (by omega)
    have e3b := e3
    obtain ⟨a1, a2, a4, a5, a6, a7, a8, a9, a10⟩ := e3b
    refine ⟨r', M', e1, e2, fin r.2.2 r' M' e3 e2 ⟨(r.1, r.2.1, r'), MO_g (Or.inl rfl) (Or.inr (Or.inr rfl)) (by decide) d2 hC e3 i1, MO_g (Or.inr (Or.inl rfl)) (Or.inr (Or.inr rfl)) (by decide) d3 hC e3 i2, ?_, ⟨d1, (far r1 d2 a8).symm, (far r2 d3 a8).symm⟩, stamp _ _ _ e3, i6, ?_, ?_⟩⟩
    · exact Or.inr ⟨n, L, want, hn, hL, hw, e2⟩
    · dsimp only; rw [a6 _ r1, a6 _ r2]; omega
    · dsimp only; rw [a6 _ r1, a6 _ r2]; omega
theorem MG_all {m r n L : Nat} {M : zM} (hn : n < 8) (h : MG m r n L 80000 M) : MW m r (Mods n L) M ∧ zI M m 4 = nI (2 * n) := by
  obtain ⟨q1, q2, q3, q4, q5⟩ := h
  have := Mods_len (L := L) hn
  rw [List.take_of_length_le (by omega)] at q5
  exact ⟨q5, q3⟩
/-- the models of the network -/
noncomputable def mds (S : zSt) : List (List Nat) := Mods (sN S) (sL S)
theorem mds_get {S : zSt} {i : Nat} (hi : i < (mds S).length) : Vw (sN S) (sL S) ((mds S).getD i []) ∧ lstB ((mds S).getD i []) = true := by
  have : (mds S).getD i [] ∈ mds S := by
    simp only [List.getD, List.getElem?_eq_getElem hi, Option.getD_some]
    exact List.getElem_mem hi
  exact Mods_mem.mp this
theorem x_mall {S : zSt} {t : Nat} {M : zM} (h : IC S t M) : ∃ r' M', fp_X1_gather 23 (nI (sN S)) (nI (sL S)) 80000 M = some M' ∧ MW 23 r' (mds S) M' ∧ zI M' 23 4 = nI (2 * sN S) ∧ IC S t M' ∧ Rk M M' ∧ ∀ l, AN M 45 l → AN M' 45 l := by
  obtain ⟨r', M', e1, e2, e3, e4, e5⟩ := x_gath h (IC_n h).2 (IC_L h).2 (Or.inl rfl) (Nat.le_refl 80000) (by decide)
  obtain ⟨k1, k2⟩ := MG_all (IC_n h).2 e2
  exact ⟨r', M', e1, k1, k2, e3, e4, e5⟩
theorem x_hasModel {S : zSt} {t : Nat} {M : zM} (h : IC S t M) (v : Int32) : ∃ r' M', fp_X10_hasModel 0 v M = some (bI (asN v (mds S).length).isSome, M') ∧ MW 23 r' (mds S) M' ∧ zI M' 23 4 = nI (2 * sN S) ∧ IC S t M' ∧ Rk M M' := by
  obtain ⟨r', M', e1, e2, e3, e4, e5, e6⟩ := x_mall h
  refine ⟨r', M', ?_, e2, e3, e4, e5⟩
  have hC := IC_C h
  have hC' := IC_C e4
  have hlen : (mds S).length < 80000 := Mods_len (IC_n h).2
  unfold fp_X10_hasModel
  rw [ts_0 hC, gR_0_10 hC, Option.bind_some, gI_0 hC, Option.bind_some, gI_0 hC, Option.bind_some, (IC_n h).1, (IC_L h).1, e1, Option.bind_some]
  cases hv : asN v (mds S).length with
  | none =>
    rcases asN_none hv with h0 | ⟨j, rfl, hj, hb⟩
    · rw [if_pos h0]; rfl
    · rw [if_neg (by rw [n_lt0 hb]; exact id), gR_0_10 hC', Option.bind_some, mo_g hC' (Or.inl rfl), Option.bind_some, e2.2.2.2.2.1, if_pos (by rw [ge_iff_le, n_le (by omega) hb]; exact hj)]; rfl
  | some j =>
    obtain ⟨rfl, hj, hb⟩ := asN_some hv
    rw [if_neg (by rw [n_lt0 hb]; exact id), gR_0_10 hC', Option.bind_some, mo_g hC' (Or.inl rfl), Option.bind_some, e2.2.2.2.2.1, go hj (by omega)]; rfl
/-- a model and a point that are there -/
noncomputable def mpt (S : zSt) (i p : Int32) : Sum Int32 (Nat × Nat) := if i < 0 then .inl 1 else match asN p (sN S) with
  | none => .inl 2
  | some p => match asN i (mds S).length with
    | none => .inl 6
    | some i => .inr (i, p)
theorem mpt_ne {S : zSt} {i p k : Int32} (h : mpt S i p = .inl k) : k ≠ 0 := by
  unfold mpt at h
  split at h
  · cases h; decide
  · split at h
    · cases h; decide
    · split at h
      · cases h; decide
      · cases h
theorem mpt_ok {S : zSt} {i p : Int32} {q : Nat × Nat} (h : mpt S i p = .inr q) : i = nI q.1 ∧ p = nI q.2 ∧ q.1 < (mds S).length ∧ q.2 < sN S := by
  unfold mpt at h
  split at h
  · cases h
  · split at h
    · cases h
    · rename_i h1
      split at h
      · cases h
      · rename_i h2
        cases h
        exact ⟨(asN_some h2).1, (asN_some h1).1, (asN_some h2).2.1, (asN_some h1).2.1⟩
theorem x_badModelPoint {S : zSt} {t : Nat} {M : zM} (h : IC S t M) (i p : Int32) : ∃ r' M', fp_X10_badModelPoint 0 i p M = some ((match mpt S i p with | .inl k => k | .inr _ => 0), M') ∧ IC S t M' ∧ Rk M M' ∧ ((∃ q, mpt S i p = .inr q) → MW 23 r' (mds S) M' ∧ zI M' 23 4 = nI (2 * sN S)) := by
  unfold fp_X10_badModelPoint mpt
  have hC := IC_C h
  rw [ts_0 hC]
  by_cases h0 : i < 0
  · rw [if_neg (by rw [ge_iff_le, Int32.not_le]; exact h0), if_pos h0]; exact ⟨0, M, rfl, h, Rk_refl, fun ⟨q, e⟩ => by cases e⟩
  · rw [if_pos (by rw [ge_iff_le]; exact Int32.not_lt.mp h0), if_neg h0, x_hasPoint h, Option.bind_some]
    cases hp : asN p (sN S) with
    | none => rw [b_no, if_neg (show ¬ ((0 : Int32) ≠ 0) by decide)]; exact ⟨0, M, rfl, h, Rk_refl, fun ⟨q, e⟩ => by cases e⟩
    | some p' =>
      obtain ⟨r', M', e1, e2, e3, e4, e5⟩ := x_hasModel h i
      rw [b_so, if_pos (show (1 : Int32) ≠ 0 by decide), e1, Option.bind_some]
      unfold zpp
      dsimp only
      refine ⟨r', M', ?_, e4, e5, fun _ => ⟨e2, e3⟩⟩
      cases hv : asN i (mds S).length with
      | none => rw [b_no, if_pos rfl]
      | some j => rw [b_so, if_neg (show ¬ (1 : Int32) = 0 by decide)]
theorem x_spell {S : zSt} {t r' i : Nat} {M : zM} (h : IC S t M) (hW : MW 23 r' (mds S) M) (h4 : zI M 23 4 = nI (2 * sN S)) (hi : i < (mds S).length) : ∃ M', fp_X1_spell 23 (nI i) 45 M = some M' ∧ IC S t M' ∧ Rk M M' ∧ AN M' 45 ((mds S).getD i []) := by
  have g2 := (IC_n h).2
  obtain ⟨v1, v2⟩ := mds_get hi
  obtain ⟨M', e1, e2, e3⟩ := c_spell (Or.inl rfl) (IC_C h) hW hi rfl h4 g2 v1.1.1 (WD16 g2 v1.1)
  exact ⟨M', e1, IC_c h e2 (fun a q => by rw [q]; exact Or.inr (by decide)), Rk_k (Fk_of e2) (fun a h1 h2 q => by omega), e3⟩
noncomputable def q_letter (S : zSt) (i pl : Int32) : Int32 × zSt := if i < 0 then rf S 1 else if pl < 0 then rf S 1 else match asN i (mds S).length with
  | none => rf S 6
  | some i => match asN pl (2 * sN S) with
    | none => rf S 6
    | some k => gv S (nI (((mds S).getD i []).getD k 0))
theorem x_letter {S : zSt} {t : Nat} {M : zM} (h : IC S t M) (i pl : Int32) : CM t (q_letter S i pl) (fp_X10_letter 0 i pl M) M := by
  unfold fp_X10_letter q_letter
  have hC := IC_C h
  have g2 := (IC_n h).2
  rw [ts_0 hC]
  by_cases h0 : i < 0
  · rw [if_pos h0, if_pos h0]; exact x_rf h (Nat.le_succ _) Rk_refl
  · rw [if_neg h0, if_neg h0]
    by_cases h1 : pl < 0
    · rw [if_pos h1, if_neg (show ¬ pl ≥ 0 by rw [ge_iff_le, Int32.not_le]; exact h1)]; exact x_rf h (Nat.le_succ _) Rk_refl
    · obtain ⟨r', M', e1, e2, e3, e4, e5⟩ := x_hasModel h i
      have hC' := IC_C e4
      rw [if_neg h1, if_pos (show pl ≥ 0 by rw [ge_iff_le]; exact Int32.not_lt.mp h1), e1, Option.bind_some]
      unfold zpp
      dsimp only
      cases hv : asN i (mds S).length with
      | none => rw [b_no, if_pos rfl]; exact x_rf e4 (Nat.le_succ _) e5
      | some j =>
        obtain ⟨rfl, hj, hb⟩ := asN_some hv
        rw [b_so, if_neg (show ¬ (1 : Int32) = 0 by decide), gI_0 hC', Option.bind_some, (IC_n e4).1, n_2, n_mul]
        dsimp only
        cases hk : asN pl (2 * sN S) with
        | none =>
          rcases asN_none hk with h2 | ⟨k, rfl, hk2, hb2⟩
          · exact absurd h2 h1
          · rw [if_neg (by rw [n_lt hb2 (by omega)]; omega)]; exact x_rf e4 (Nat.le_succ _) e5
        | some k =>
          obtain ⟨rfl, hk2, hb2⟩ := asN_some hk
          obtain ⟨M2, k1, k2, k3, k4⟩ := x_spell e4 e2 e3 hj
          have hlen := (mds_get hj).1.1.1
          rw [if_pos (by rw [n_lt hb2 (by omega)]; exact hk2), gR_0_10 hC', Option.bind_some, gR_0_16 hC', Option.bind_some, k1, Option.bind_some, gR_0_16 (IC_C k2), Option.bind_some, AN_l k4 (by omega), Option.bind_some]
          exact x_gv k2 (Nat.le_succ _) (Rk_trans e5 k3)
noncomputable def q_span (S : zSt) (i p : Int32) : Int32 × zSt := match mpt S i p with
  | .inl k => rf S k
  | .inr q => gv S (nI (spn q.2 ((mds S).getD q.1 [])))
theorem x_span {S : zSt} {t : Nat} {M : zM} (h : IC S t M) (i p : Int32) : CM t (q_span S i p) (fp_X10_span 0 i p M) M := by
  unfold fp_X10_span q_span
  have g2 := (IC_n h).2
  obtain ⟨r', M', e1, e2, e3, e4⟩ := x_badModelPoint h i p
  have hC' := IC_C e2
  rw [ts_0 (IC_C h), e1, Option.bind_some]
  unfold zpp
  dsimp only
  cases hs : mpt S i p with
  | inl k => dsimp only; rw [if_neg (mpt_ne hs)]; exact x_rf e2 (Nat.le_succ _) e3
  | inr q =>
    obtain ⟨rfl, rfl, h1, h2⟩ := mpt_ok hs
    obtain ⟨w1, w2⟩ := e4 ⟨q, hs⟩
    obtain ⟨M2, k1, k2, k3, k4⟩ := x_spell e2 w1 w2 h1
    have hC2 := IC_C k2
    dsimp only
    rw [if_pos rfl, gR_0_10 hC', Option.bind_some, gR_0_16 hC', Option.bind_some, k1, Option.bind_some, gR_0_16 hC2, Option.bind_some, gI_0 hC2, Option.bind_some, (IC_n k2).1, n_2, n_mul, c_spanOf g2 k4 (mds_get h1).1.1 h2, Option.bind_some]
    exact x_gv k2 (Nat.le_succ _) (Rk_trans e3 k3)
/-! the spans' mean and evenness -/
def mns (w : List Nat) : Nat → Nat
  | 0 => 14
  | k + 1 => min (mns w k) (spn k w)
def mxs (w : List Nat) : Nat → Nat
  | 0 => 0
  | k + 1 => max (mxs w k) (spn k w)
theorem spn_le {w : List Nat} {p n : Nat} (h : WD n w) (hp : p < n) : 1 ≤ spn p w ∧ spn p w ≤ n := by
  obtain ⟨A, B, C, rfl, hA, hB, hC⟩ := two_of (h.2 p hp)
  have h1 := h.1
  unfold spn
  rw [dst_split hA hB]
  simp only [List.length_append, List.length_cons] at h1 ⊢
  omega
theorem mns_le {w : List Nat} {n : Nat} (h : WD n w) : ∀ k, k ≤ n → 0 < k → 1 ≤ mns w k ∧ mns w k ≤ 14 ∧ 1 ≤ mxs w k ∧ mxs w k ≤ n := by
  intro k
  induction k with
  | zero => intro _ h0; omega
  | succ k ih =>
    intro hk _
    have hs := spn_le h (show k < n by omega)
    rw [mns, mxs]
    by_cases hk0 : k = 0
    · subst hk0
      rw [mns, mxs]; omega
    · have := ih (by omega) (by omega); omega
theorem smS_le {w : List Nat} {n : Nat} (h : WD n w) : ∀ k, k ≤ n → smN (fun p => spn p w) k ≤ n * k := by
  intro k
  induction k with
  | zero => intro _; exact Nat.zero_le _
  | succ k ih =>
    intro hk
    have h1 := ih (by omega)
    have h2 := (spn_le h (show k < n by omega)).2
    rw [smN, Nat.mul_succ]; omega
theorem c_meanSpan {M : zM} {n : Nat} {w : List Nat} (hn : n < 8) (hA : AN M 45 w) (hw : WD n w) : ∃ v, fp_X5_meanSpan 45 (nI n) M = some v ∧ fp_X10_bitsOf v = some (qtS (smN (fun p => spn p w) n) (max 1 n)) := by
  unfold fp_X5_meanSpan
  have hs := smS_le hw n (Nat.le_refl _)
  have hnn : n * n ≤ 49 := Nat.mul_le_mul (show n ≤ 7 by omega) (show n ≤ 7 by omega)
  obtain ⟨v, e1, e2⟩ : ∃ v, fp_X10_ratio (nI (smN (fun p => spn p w) n)) (nI n) 0 = some v ∧ fp_X10_bitsOf v = some (qtS (smN (fun p => spn p w) n) (max 1 n)) := by
    by_cases h0 : n = 0
    · subst h0
      exact ⟨0, ratio_00 _, by rw [ratio_0.2, show smN (fun p => spn p w) 0 = 0 from rfl]; decide +kernel⟩
    · rw [Nat.max_eq_right (by omega)]
      exact x_quot (by omega) (by omega) (by omega)
  refine ⟨v, ?_, e2⟩
  have key : fp_X5_meanSpan_L4 45 (nI n) M FU (nI (smN (fun p => spn p w) 0)) (nI 0) = some v := by
    refine up (P := fun i f => fp_X5_meanSpan_L4 45 (nI n) M f (nI (smN (fun p => spn p w) i)) (nI i) = some v) (a := 0) (n := n) ?_ ?_ FU (by omega) (FU_gt (by omega))
    · intro f
      rw [fp_X5_meanSpan_L4, stp, e1, Option.bind_some]
    · intro i f _ hi ih
      rw [fp_X5_meanSpan_L4, go hi (by omega), n_2, n_mul, c_spanOf hn hA hw hi, Option.bind_some, lett_eq, n_add, inc]
      exact ih
  rw [n_0]; exact key
theorem c_even {M : zM} {n : Nat} {w : List Nat} (hn : n < 8) (hA : AN M 45 w) (hw : WD n w) : ∃ v, fp_X5_even 45 (nI n) M = some v ∧ fp_X10_bitsOf v = some (if n = 0 then 1065353216 else qtS (mns w n) (mxs w n)) := by
  unfold fp_X5_even
  obtain ⟨v, e1, e2⟩ : ∃ v, fp_X10_ratio (nI (mns w n)) (nI (mxs w n)) 1 = some v ∧ fp_X10_bitsOf v = some (if n = 0 then 1065353216 else qtS (mns w n) (mxs w n)) := by
    by_cases h0 : n = 0
    · subst h0
      exact ⟨_, ratio_1.1, by rw [if_pos rfl]; exact ratio_1.2.1⟩
    · rw [if_neg h0]
      have := mns_le hw n (Nat.le_refl _) (by omega)
      exact x_quot (by omega) (by omega) (by omega)
  refine ⟨v, ?_, e2⟩
  have small : ∀ i, i ≤ n → mns w i ≤ 14 ∧ mxs w i ≤ n := fun i hi => by
    by_cases h0 : i = 0
    · subst h0; exact ⟨Nat.le_refl _, Nat.zero_le _⟩
    · have := mns_le hw i hi (by omega); omega
  have key : fp_X5_even_L8 45 (nI n) M FU (nI (mns w 0)) (nI (mxs w 0)) (nI 0) = some v := by
    refine up (P := fun i f => fp_X5_even_L8 45 (nI n) M f (nI (mns w i)) (nI (mxs w i)) (nI i) = some v) (a := 0) (n := n) ?_ ?_ FU (by omega) (FU_gt (by omega))
    · intro f
      rw [fp_X5_even_L8, stp, e1, Option.bind_some]
    · intro i f _ hi ih
      have hs := spn_le hw hi
      have hb := small i (by omega)
      rw [fp_X5_even_L8, go hi (by omega), n_2, n_mul, c_spanOf hn hA hw hi, Option.bind_some, lett_eq, n_min (by omega) (by omega), Option.bind_some, lett_eq, n_max (by omega) (by omega), inc]
      exact ih
  rw [show (14 : Int32) = nI 14 from by decide, n_0]; exact key
noncomputable def men (n : Nat) (w : List Nat) (k : Nat) : Int32 := if k = 0 then qtS (smN (fun p => spn p w) n) (max 1 n) else if n = 0 then 1065353216 else qtS (mns w n) (mxs w n)
noncomputable def q_mean (S : zSt) (i what : Int32) : Int32 × zSt := if i < 0 then rf S 1 else match asN what 2 with
  | none => rf S 1
  | some k => match asN i (mds S).length with
    | none => rf S 6
    | some i => gv S (men (sN S) ((mds S).getD i []) k)
theorem x_mean {S : zSt} {t : Nat} {M : zM} (h : IC S t M) (i what : Int32) : CM t (q_mean S i what) (fp_X10_mean 0 i what M) M := by
  unfold fp_X10_mean q_mean
  have hC := IC_C h
  have g2 := (IC_n h).2
  rw [ts_0 hC]
  by_cases h0 : i < 0
  · rw [if_pos h0, if_pos h0]; exact x_rf h (Nat.le_succ _) Rk_refl
  · rw [if_neg h0, if_neg h0, show (1 : Int32) = nI 1 from n_1, x_what (by decide)]
    cases hw : asN what (1 + 1) with
    | none => exact x_rf h (Nat.le_succ _) Rk_refl
    | some k =>
      obtain ⟨r', M', e1, e2, e3, e4, e5⟩ := x_hasModel h i
      have hC' := IC_C e4
      obtain ⟨rfl, hk, hkb⟩ := asN_some hw
      dsimp only
      rw [e1, Option.bind_some]
      unfold zpp
      dsimp only
      cases hv : asN i (mds S).length with
      | none => rw [b_no, if_neg (show ¬ ((0 : Int32) ≠ 0) by decide)]; exact x_rf e4 (Nat.le_succ _) e5
      | some j =>
        obtain ⟨rfl, hj, hb⟩ := asN_some hv
        obtain ⟨M2, k1, k2, k3, k4⟩ := x_spell e4 e2 e3 hj
        have hC2 := IC_C k2
        rw [b_so, if_pos (show (1 : Int32) ≠ 0 by decide), gR_0_10 hC', Option.bind_some, gR_0_16 hC', Option.bind_some, k1, Option.bind_some, zjn_eq]
        dsimp only
        rw [gR_0_16 hC2, Option.bind_some, gI_0 hC2, Option.bind_some, Option.bind_some, Option.bind_some, (IC_n k2).1]
        unfold men
        by_cases hk0 : k = 0
        · subst hk0
          obtain ⟨v, a1, a2⟩ := c_meanSpan g2 k4 (mds_get hj).1.1
          rw [if_neg (show ¬ nI 0 ≠ 0 by decide), if_pos rfl, a1, Option.bind_some, a2, Option.bind_some]
          exact x_gv k2 (Nat.le_succ _) (Rk_trans e5 k3)
        · obtain ⟨v, a1, a2⟩ := c_even g2 k4 (mds_get hj).1.1
          rw [if_pos (show nI k ≠ 0 by rw [n_0, ne_eq, n_eq hkb (by omega)]; exact hk0), if_neg hk0, a1, Option.bind_some, a2, Option.bind_some]
          exact x_gv k2 (Nat.le_succ _) (Rk_trans e5 k3)
noncomputable def q_fits (S : zSt) (i set : Int32) : Int32 × zSt := if i < 0 then rf S 1 else match asN set (2 ^ sN S) with
  | none => rf S 1
  | some s => match asN i (mds S).length with
    | none => rf S 6
    | some i => gv S (nI (cpl ((mds S).getD i []) s).length)
theorem WD7 {n : Nat} {w : List Nat} (hn : n < 8) (h : WD n w) : ∀ z ∈ w, z < 7 := fun z hz => by have := WD_lt h z hz; omega
theorem x_fits {S : zSt} {t : Nat} {M : zM} (h : IC S t M) (i set : Int32) : CM t (q_fits S i set) (fp_X10_fits 0 i set M) M := by
  unfold fp_X10_fits q_fits
  have hC := IC_C h
  have g2 := (IC_n h).2
  have p2 := two_pow7 g2
  rw [ts_0 hC, x_hasSet h, Option.bind_some]
  by_cases h0 : i < 0
  · rw [if_pos h0, if_pos h0]; exact x_rf h (Nat.le_succ _) Rk_refl
  · rw [if_neg h0, if_neg h0]
    cases hs : asN set (2 ^ sN S) with
    | none => rw [b_no, if_neg (show ¬ ((0 : Int32) ≠ 0) by decide)]; exact x_rf h (Nat.le_succ _) Rk_refl
    | some s =>
      obtain ⟨rfl, hs2, hsb⟩ := asN_some hs
      obtain ⟨r', M', e1, e2, e3, e4, e5⟩ := x_hasModel h i
      have hC' := IC_C e4
      rw [b_so, if_pos (show (1 : Int32) ≠ 0 by decide), e1, Option.bind_some]
      unfold zpp
      dsimp only
      cases hv : asN i (mds S).length with
      | none => rw [b_no, if_neg (show ¬ ((0 : Int32) ≠ 0) by decide)]; exact x_rf e4 (Nat.le_succ _) e5
      | some j =>
        obtain ⟨rfl, hj, hb⟩ := asN_some hv
        obtain ⟨M2, k1, k2, k3, k4⟩ := x_spell e4 e2 e3 hj
        have hC2 := IC_C k2
        have hw := (mds_get hj).1.1
        have hc := c_countCouples (set := s) k4 (by have := hw.1; omega) (WD7 g2 hw) (by omega)
        rw [hw.1] at hc
        rw [b_so, if_pos (show (1 : Int32) ≠ 0 by decide), gR_0_10 hC', Option.bind_some, gR_0_16 hC', Option.bind_some, k1, Option.bind_some, gR_0_16 hC2, Option.bind_some, gI_0 hC2, Option.bind_some, (IC_n k2).1, n_2, n_mul, hc, Option.bind_some]
        exact x_gv k2 (Nat.le_succ _) (Rk_trans e5 k3)
noncomputable def q_gap (S : zSt) (i set j what : Int32) : Int32 × zSt := if i < 0 then rf S 1 else match asN set (2 ^ sN S) with
  | none => rf S 1
  | some s => if j < 0 then rf S 1 else match asN what 2 with
    | none => rf S 1
    | some k => match asN i (mds S).length with
      | none => rf S 6
      | some i => match asN j (cpl ((mds S).getD i []) s).length with
        | none => rf S 6
        | some j => gv S (nI (if k = 0 then ((cpl ((mds S).getD i []) s).getD j (0, 0)).1 else ((cpl ((mds S).getD i []) s).getD j (0, 0)).2))
theorem cpl_get {l : List Nat} {set j : Nat} (h : j < (cpl l set).length) : ((cpl l set).getD j (0, 0)).1 ≤ l.length ∧ ((cpl l set).getD j (0, 0)).2 ≤ l.length := by
  have hm : (cpl l set).getD j (0, 0) ∈ cpl l set := getT_mem h
  unfold cpl at hm
  obtain ⟨a1, a2, a3, a4⟩ := cpN_mem.mp hm
  exact ⟨by unfold cpl; omega, by unfold cpl; omega⟩
theorem x_gap {S : zSt} {t : Nat} {M : zM} (h : IC S t M) (i set j what : Int32) : CM t (q_gap S i set j what) (fp_X10_gap 0 i set j what M) M := by
  unfold fp_X10_gap q_gap
  have hC := IC_C h
  have g2 := (IC_n h).2
  have p2 := two_pow7 g2
  rw [ts_0 hC, x_hasSet h, Option.bind_some]
  by_cases h0 : i < 0
  · rw [if_pos h0, if_pos h0]; exact x_rf h (Nat.le_succ _) Rk_refl
  · rw [if_neg h0, if_neg h0]
    cases hs : asN set (2 ^ sN S) with
    | none => rw [b_no, if_pos rfl]; exact x_rf h (Nat.le_succ _) Rk_refl
    | some s =>
      obtain ⟨rfl, hs2, hsb⟩ := asN_some hs
      rw [b_so, if_neg (show ¬ (1 : Int32) = 0 by decide)]
      dsimp only
      by_cases h1 : j < 0
      · rw [if_pos h1, if_pos h1]; exact x_rf h (Nat.le_succ _) Rk_refl
      · rw [if_neg h1, if_neg h1, show (1 : Int32) = nI 1 from n_1, x_what (by decide)]
        cases hw : asN what (1 + 1) with
        | none => exact x_rf h (Nat.le_succ _) Rk_refl
        | some k =>
          obtain ⟨rfl, hk, hkb⟩ := asN_some hw
          obtain ⟨r', M', e1, e2, e3, e4, e5⟩ := x_hasModel h i
          have hC' := IC_C e4
          dsimp only
          rw [e1, Option.bind_some]
          unfold zpp
          dsimp only
          cases hv : asN i (mds S).length with
          | none => rw [b_no, if_neg (show ¬ ((0 : Int32) ≠ 0) by decide)]; exact x_rf e4 (Nat.le_succ _) e5
          | some i' =>
            obtain ⟨rfl, hi, hb⟩ := asN_some hv
            obtain ⟨j', hj', rfl⟩ := n_of h1
            obtain ⟨M2, k1, k2, k3, k4⟩ := x_spell e4 e2 e3 hi
            have hC2 := IC_C k2
            have hw := (mds_get hi).1.1
            have hc := c_coupleAt (set := s) (j := j') k4 (by have := hw.1; omega) (WD7 g2 hw) (by omega) hj'
            rw [hw.1] at hc
            rw [b_so, if_pos (show (1 : Int32) ≠ 0 by decide), gR_0_10 hC', Option.bind_some, gR_0_16 hC', Option.bind_some, k1, Option.bind_some, gR_0_16 hC2, Option.bind_some, gI_0 hC2, Option.bind_some, (IC_n k2).1, n_2, n_mul, hc, Option.bind_some]
            dsimp only
            by_cases hjl : j' < (cpl ((mds S).getD i' []) s).length
            · obtain ⟨b1, b2⟩ := cpl_get hjl
              have hl := hw.1
              rw [asN_n hjl hj', if_pos hjl]
              dsimp only
              obtain ⟨q, hq⟩ : ∃ q, q = (cpl ((mds S).getD i' []) s).getD j' (0, 0) := ⟨_, rfl⟩
              rw [← hq] at b1 b2 ⊢
              have d1 : (q.1 * 15 + q.2) / 15 = q.1 := by omega
              rw [if_pos (show nI (q.1 * 15 + q.2) ≥ 0 by rw [n_0, ge_iff_le, n_le (by omega) (by omega)]; omega), show (15 : Int32) = nI 15 from by decide, n_div (by omega) (by omega) (by omega), d1, n_mul, n_sub (by omega), Nat.add_sub_cancel_left]
              by_cases hk0 : k = 0
              · subst hk0
                rw [if_neg (show ¬ nI 0 ≠ 0 by decide), if_pos rfl]
                exact x_gv k2 (Nat.le_succ _) (Rk_trans e5 k3)
              · rw [if_pos (show nI k ≠ 0 by rw [n_0, ne_eq, n_eq hkb (by omega)]; exact hk0), if_neg hk0]
                exact x_gv k2 (Nat.le_succ _) (Rk_trans e5 k3)
            · have : asN (nI j') (cpl ((mds S).getD i' []) s).length = none := by
                unfold asN
                rw [n_clamp hj', if_neg (fun q => hjl q.2)]
              rw [this, if_neg hjl]
              dsimp only
              rw [if_neg (show ¬ (-1 : Int32) ≥ 0 by decide)]
              exact x_rf k2 (Nat.le_succ _) (Rk_trans e5 k3)

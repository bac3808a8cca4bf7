/-! ===== 96j: the law's loop ===== -/
theorem IR_R {S : zSt} {M M' : zM} (h : IR S M) (hk : Rk M M') (hC : zC M') : IR S M' := by
  obtain ⟨g1, g2, g3, g4, g5, g6, g7, g8⟩ := h
  have nt : ∀ a b q, 46 ≤ a → a < 72 → NtH a b q M → NtH a b q M' := fun a b q h1 h2 z => ⟨(hk a h1 h2 _).trans z.1, fun p hp => (hk a h1 h2 _).trans (z.2 p hp)⟩
  have e46 := fun k => hk 46 (by decide) (by decide) k
  refine ⟨g1, hC, ⟨(e46 _).trans g3.1, fun p hp => (hk 47 (by decide) (by decide) _).trans (g3.2 p hp)⟩, (e46 _).trans g4, ⟨(e46 _).trans g5.1, fun i hi => (hk 48 (by decide) (by decide) _).trans (g5.2 i hi)⟩, ?_, ⟨(e46 _).trans g7.1, fun i hi => nt _ _ _ (by decide) (by decide) (g7.2 i hi)⟩, fun k hk3 => ?_⟩
  · cases hq : sQ S with
    | none => rw [hq] at g6; exact ⟨(e46 _).trans g6.1, (e46 _).trans g6.2⟩
    | some f => rw [hq] at g6; exact ⟨(e46 _).trans g6.1, (e46 _).trans g6.2⟩
  · have h0 := g8 k hk3
    cases hq : sI S k with
    | none => rw [hq] at h0; exact (hk 56 (by decide) (by decide) _).trans h0
    | some q => rw [hq] at h0; exact ⟨(hk 56 (by decide) (by decide) _).trans h0.1, nt _ _ _ (by decide) (by decide) h0.2⟩
theorem both_step {α : Type} {S : zSt} {t : Nat} {M : zM} {q : α × zSt} {F : Option (α × zM)} (G : zM → Option (α × zM)) (hr : IR S M) (hx : CM t q F M) (hy : ∀ M1, IR S M1 → RM q (G M1) M1) : ∃ M1 M2, F = some (q.1, M1) ∧ G M1 = some (q.1, M2) ∧ IC q.2 (t + 1) M2 ∧ IR q.2 M2 := by
  obtain ⟨M1, a1, a2, a3⟩ := hx
  obtain ⟨M2, b1, b2, b3⟩ := hy M1 (IR_R hr a3 (IC_C a2))
  exact ⟨M1, M2, a1, b1, IC_c a2 b3 (fun a ha => Or.inr ⟨Nat.le_trans (by decide) ha.1, ha.2⟩), b2⟩
theorem zx {xs : Nat → Int32} {L i : Nat} (hi : i < L) (hL : L < 2 ^ 31) : zxs xs L (nI i) = some (xs i) := by
  unfold zxs
  rw [if_pos (zix hL hi), n_clamp (by omega)]
theorem lg_self (a : Int64) : lg_cmp a a = 0 := by

  rw [lg_eq]
set_option maxHeartbeats 2000000 in
theorem law_loop (xs : Nat → Int32) (L : Nat) (hL : L ≤ 3072) : ∀ k f i t S M, L < i + 6 * (k + 1) → k < f → i ≤ L → t + k ≤ 600 → IC S t M → IR S M → ∃ M', fp_L_law_L18 xs L 0 46 f (nI i) M = some (1, M') := by
  have stop : ∀ f i M, i ≤ L → ¬ i + 6 ≤ L → ∃ M', fp_L_law_L18 xs L 0 46 (f + 1) (nI i) M = some (1, M') := by
    intro f i M h1 h2
    refine ⟨M, ?_⟩
    have e6 : Int32.ofNat L - 6 = nI L - nI 6 := rfl
    have hc : nI i > Int32.ofNat L - 6 := by
      rw [e6]
      by_cases h6 : 6 ≤ L
      · rw [n_sub h6, gt_iff_lt, n_lt (by omega) (by omega)]; omega
      · have d : ∀ l, l < 6 → ∀ i, i < 6 → nI i > nI l - nI 6 := by decide
        exact d L (by omega) i (by omega)
    rw [fp_L_law_L18, if_pos hc]
  intro k
  induction k with
  | zero =>
    intro f i t S M h1 h2 h3 h4 h5 h6
    obtain ⟨f, rfl⟩ : ∃ g, f = g + 1 := ⟨f - 1, by omega⟩
    exact stop f i M h3 (by omega)
  | succ k ih =>
    intro f i t S M h1 h2 h3 h4 h5 h6
    obtain ⟨f, rfl⟩ : ∃ g, f = g + 1 := ⟨f - 1, by omega⟩
    by_cases hi : i + 6 ≤ L
    case neg => exact stop f i M h3 hi
    have e6 : Int32.ofNat L - 6 = nI (L - 6) := by
      show nI L - nI 6 = _
      rw [n_sub (by omega)]
    have hc : ¬ nI i > Int32.ofNat L - 6 := by rw [e6, gt_iff_lt, n_lt (by omega) (by omega)]; omega
    have z0 : zxs xs L (nI i) = some (xs i) := zx (by omega) (by omega)
    have z1 : zxs xs L (nI i + 1) = some (xs (i + 1)) := by rw [n_1, n_add]; exact zx (by omega) (by omega)
    have z2 : zxs xs L (nI i + 2) = some (xs (i + 2)) := by rw [n_2, n_add]; exact zx (by omega) (by omega)
    have z3 : zxs xs L (nI i + 3) = some (xs (i + 3)) := by rw [n_3, n_add]; exact zx (by omega) (by omega)
    have z4 : zxs xs L (nI i + 4) = some (xs (i + 4)) := by rw [n_4, n_add]; exact zx (by omega) (by omega)
    have z5 : zxs xs L (nI i + 5) = some (xs (i + 5)) := by rw [n_5, n_add]; exact zx (by omega) (by omega)
    rw [fp_L_law_L18, if_neg hc, z0, Option.bind_some, zjn_eq]
    generalize hK : (fun (M10 : zM) => fp_L_law_L18 xs L 0 46 f (nI i + 6) M10) = K
    have nxt : ∀ S' M', IC S' (t + 1) M' → IR S' M' → ∃ M'', K M' = some (1, M'') := by
      intro S' M' g1 g2
      rw [← hK]
      dsimp only
      rw [n_6, n_add]
      exact ih f (i + 6) (t + 1) S' M' (by omega) (by omega) (by omega) (by omega) g1 g2
    have t1000 : t ≤ 1000 := by omega
    generalize (xs i &&& 63) = o
    by_cases e0 : o = 0
    · rw [if_pos e0]
      rw [x_status h5, Option.bind_some, y_status h6, Option.bind_some, if_pos rfl]
      exact nxt _ _ (IC_mono h5 (Nat.le_succ t)) h6
    rw [if_neg e0]
    by_cases e1 : o = 1
    · rw [if_pos e1]
      obtain ⟨M1, M2, a1, a2, a3, a4⟩ := both_step (fun M1 => fp_X11_feed 46 (xs (i + 1)) (xs (i + 2)) (xs (i + 3)) (xs (i + 4)) (xs (i + 5)) M1) h6 (x_feed h5 (xs (i + 1)) (xs (i + 2)) (xs (i + 3)) (xs (i + 4)) (xs (i + 5))) (fun M1 g => y_feed g (xs (i + 1)) (xs (i + 2)) (xs (i + 3)) (xs (i + 4)) (xs (i + 5)))
      rw [z1, Option.bind_some, z2, Option.bind_some, z3, Option.bind_some, z4, Option.bind_some, z5, Option.bind_some, a1, Option.bind_some, zpp_mk, Option.bind_some, Option.bind_some, Option.bind_some, Option.bind_some, Option.bind_some, a2, Option.bind_some, zpp_mk, if_pos rfl]
      exact nxt _ _ a3 a4
    rw [if_neg e1]
    by_cases e2 : o = 2
    · rw [if_pos e2]
      obtain ⟨M1, M2, a1, a2, a3, a4⟩ := both_step (fun M1 => fp_X11_load 46 (xs (i + 1)) M1) h6 (x_load h5 (xs (i + 1))) (fun M1 g => y_load g (xs (i + 1)))
      rw [z1, Option.bind_some, a1, Option.bind_some, zpp_mk, Option.bind_some, a2, Option.bind_some, zpp_mk, if_pos rfl]
      exact nxt _ _ a3 a4
    rw [if_neg e2]
    by_cases e3 : o = 3
    · rw [if_pos e3]
      rw [z1, Option.bind_some, x_fault h5, Option.bind_some, Option.bind_some, y_fault h6, Option.bind_some, if_pos rfl]
      exact nxt _ _ (IC_mono h5 (Nat.le_succ t)) h6
    rw [if_neg e3]
    by_cases e4 : o = 4
    · rw [if_pos e4]
      obtain ⟨M1, M2, a1, a2, a3, a4⟩ := both_step (fun M1 => fp_X11_many 46 (xs (i + 1)) M1) h6 (x_many h5 (xs (i + 1))) (fun M1 g => y_many g (xs (i + 1)))
      rw [z1, Option.bind_some, a1, Option.bind_some, zpp_mk, Option.bind_some, a2, Option.bind_some, zpp_mk, if_pos rfl]
      exact nxt _ _ a3 a4
    rw [if_neg e4]
    by_cases e5 : o = 5
    · rw [if_pos e5]
      obtain ⟨M1, M2, a1, a2, a3, a4⟩ := both_step (fun M1 => fp_X11_near 46 (xs (i + 1)) M1) h6 (x_near h5 (xs (i + 1))) (fun M1 g => y_near g (xs (i + 1)))
      rw [z1, Option.bind_some, a1, Option.bind_some, zpp_mk, Option.bind_some, a2, Option.bind_some, zpp_mk, if_pos rfl]
      exact nxt _ _ a3 a4
    rw [if_neg e5]
    by_cases e6 : o = 6
    · rw [if_pos e6]
      obtain ⟨M1, M2, a1, a2, a3, a4⟩ := both_step (fun M1 => fp_X11_add 46 (xs (i + 1)) M1) h6 (x_add h5 (xs (i + 1))) (fun M1 g => y_add g (xs (i + 1)))
      rw [z1, Option.bind_some, a1, Option.bind_some, zpp_mk, Option.bind_some, a2, Option.bind_some, zpp_mk, if_pos rfl]
      exact nxt _ _ a3 a4
    rw [if_neg e6]
    by_cases e7 : o = 7
    · rw [if_pos e7]
      obtain ⟨M1, M2, a1, a2, a3, a4⟩ := both_step (fun M1 => fp_X11_drop 46 (xs (i + 1)) M1) h6 (x_drop h5 (xs (i + 1))) (fun M1 g => y_drop g (xs (i + 1)))
      rw [z1, Option.bind_some, a1, Option.bind_some, zpp_mk, Option.bind_some, a2, Option.bind_some, zpp_mk, if_pos rfl]
      exact nxt _ _ a3 a4
    rw [if_neg e7]
    by_cases e8 : o = 8
    · rw [if_pos e8]
      obtain ⟨M1, M2, a1, a2, a3, a4⟩ := both_step (fun M1 => fp_X11_flip 46 (xs (i + 1)) (xs (i + 2)) M1) h6 (x_flip h5 (xs (i + 1)) (xs (i + 2))) (fun M1 g => y_flip g (xs (i + 1)) (xs (i + 2)))
      rw [z1, Option.bind_some, z2, Option.bind_some, a1, Option.bind_some, zpp_mk, Option.bind_some, Option.bind_some, a2, Option.bind_some, zpp_mk, if_pos rfl]
      exact nxt _ _ a3 a4
    rw [if_neg e8]
    by_cases e9 : o = 9
    · rw [if_pos e9]
      obtain ⟨M1, M2, a1, a2, a3, a4⟩ := both_step (fun M1 => fp_X11_turn 46 (xs (i + 1)) M1) h6 (x_turn h5 (xs (i + 1))) (fun M1 g => y_turn g (xs (i + 1)))
      rw [z1, Option.bind_some, a1, Option.bind_some, zpp_mk, Option.bind_some, a2, Option.bind_some, zpp_mk, if_pos rfl]
      exact nxt _ _ a3 a4
    rw [if_neg e9]
    by_cases e10 : o = 10
    · rw [if_pos e10]
      obtain ⟨M1, M2, a1, a2, a3, a4⟩ := both_step (fun M1 => fp_X11_swing 46 (xs (i + 1)) (xs (i + 2)) M1) h6 (x_swing h5 (xs (i + 1)) (xs (i + 2))) (fun M1 g => y_swing g (xs (i + 1)) (xs (i + 2)))
      rw [z1, Option.bind_some, z2, Option.bind_some, a1, Option.bind_some, zpp_mk, Option.bind_some, Option.bind_some, a2, Option.bind_some, zpp_mk, if_pos rfl]
      exact nxt _ _ a3 a4
    rw [if_neg e10]
    by_cases e11 : o = 11
    · rw [if_pos e11]
      obtain ⟨M1, M2, a1, a2, a3, a4⟩ := both_step (fun M1 => fp_X11_rename 46 (xs (i + 1)) (xs (i + 2)) M1) h6 (x_rename h5 (xs (i + 1)) (xs (i + 2))) (fun M1 g => y_rename g (xs (i + 1)) (xs (i + 2)))
      rw [z1, Option.bind_some, z2, Option.bind_some, a1, Option.bind_some, zpp_mk, Option.bind_some, Option.bind_some, a2, Option.bind_some, zpp_mk, if_pos rfl]
      exact nxt _ _ a3 a4
    rw [if_neg e11]
    by_cases e12 : o = 12
    · rw [if_pos e12]
      obtain ⟨M1, M2, a1, a2, a3, a4⟩ := both_step (fun M1 => fp_X11_undo 46 M1) h6 (x_undo h5) (fun M1 g => y_undo g)
      rw [a1, Option.bind_some, zpp_mk, a2, Option.bind_some, zpp_mk, if_pos rfl]
      exact nxt _ _ a3 a4
    rw [if_neg e12]
    by_cases e13 : o = 13
    · rw [if_pos e13]
      obtain ⟨M1, M2, a1, a2, a3, a4⟩ := both_step (fun M1 => fp_X11_image 46 (xs (i + 1)) M1) h6 (x_image h5 (xs (i + 1))) (fun M1 g => y_image g (xs (i + 1)))
      rw [z1, Option.bind_some, a1, Option.bind_some, zpp_mk, Option.bind_some, a2, Option.bind_some, zpp_mk, if_pos rfl]
      exact nxt _ _ a3 a4
    rw [if_neg e13]
    by_cases e14 : o = 14
    · rw [if_pos e14]
      obtain ⟨M1, M2, a1, a2, a3, a4⟩ := both_step (fun M1 => fp_X11_like 46 (xs (i + 1)) M1) h6 (x_like h5 (xs (i + 1))) (fun M1 g => y_like g (xs (i + 1)))
      rw [z1, Option.bind_some, a1, Option.bind_some, zpp_mk, Option.bind_some, a2, Option.bind_some, zpp_mk, if_pos rfl]
      exact nxt _ _ a3 a4
    rw [if_neg e14]
    by_cases e15 : o = 15
    · rw [if_pos e15]
      obtain ⟨M1, M2, a1, a2, a3, a4⟩ := both_step (fun M1 => fp_X11_order 46 (xs (i + 1)) M1) h6 (x_order h5 (xs (i + 1))) (fun M1 g => y_order g (xs (i + 1)))
      rw [z1, Option.bind_some, a1, Option.bind_some, zpp_mk, Option.bind_some, a2, Option.bind_some, zpp_mk, if_pos rfl]
      exact nxt _ _ a3 a4
    rw [if_neg e15]
    by_cases e16 : o = 16
    · rw [if_pos e16]
      obtain ⟨M1, M2, a1, a2, a3, a4⟩ := both_step (fun M1 => fp_X11_split 46 (xs (i + 1)) M1) h6 (x_split h5 (xs (i + 1))) (fun M1 g => y_split g (xs (i + 1)))
      rw [z1, Option.bind_some, a1, Option.bind_some, zpp_mk, Option.bind_some, a2, Option.bind_some, zpp_mk, if_pos rfl]
      exact nxt _ _ a3 a4
    rw [if_neg e16]
    by_cases e17 : o = 17
    · rw [if_pos e17]
      obtain ⟨M1, M2, a1, a2, a3, a4⟩ := both_step (fun M1 => fp_X11_strong 46 (xs (i + 1)) M1) h6 (x_strong h5 (xs (i + 1))) (fun M1 g => y_strong g (xs (i + 1)))
      rw [z1, Option.bind_some, a1, Option.bind_some, zpp_mk, Option.bind_some, a2, Option.bind_some, zpp_mk, if_pos rfl]
      exact nxt _ _ a3 a4
    rw [if_neg e17]
    by_cases e18 : o = 18
    · rw [if_pos e18]
      obtain ⟨M1, M2, a1, a2, a3, a4⟩ := both_step (fun M1 => fp_X11_prime 46 M1) h6 (x_prime h5) (fun M1 g => y_prime g)
      rw [a1, Option.bind_some, zpp_mk, a2, Option.bind_some, zpp_mk, if_pos rfl]
      exact nxt _ _ a3 a4
    rw [if_neg e18]
    by_cases e19 : o = 19
    · rw [if_pos e19]
      obtain ⟨M1, M2, a1, a2, a3, a4⟩ := both_step (fun M1 => fp_X11_piece 46 (xs (i + 1)) (xs (i + 2)) M1) h6 (x_piece h5 (xs (i + 1)) (xs (i + 2))) (fun M1 g => y_piece g (xs (i + 1)) (xs (i + 2)))
      rw [z1, Option.bind_some, z2, Option.bind_some, a1, Option.bind_some, zpp_mk, Option.bind_some, Option.bind_some, a2, Option.bind_some, zpp_mk, if_pos rfl]
      exact nxt _ _ a3 a4
    rw [if_neg e19]
    by_cases e20 : o = 20
    · rw [if_pos e20]
      obtain ⟨M1, M2, a1, a2, a3, a4⟩ := both_step (fun M1 => fp_X11_knot 46 (xs (i + 1)) (xs (i + 2)) M1) h6 (x_knot h5 (xs (i + 1)) (xs (i + 2))) (fun M1 g => y_knot g (xs (i + 1)) (xs (i + 2)))
      rw [z1, Option.bind_some, z2, Option.bind_some, a1, Option.bind_some, zpp_mk, Option.bind_some, Option.bind_some, a2, Option.bind_some, zpp_mk, if_pos rfl]
      exact nxt _ _ a3 a4
    rw [if_neg e20]
    by_cases e21 : o = 21
    · rw [if_pos e21]
      obtain ⟨M1, M2, a1, a2, a3, a4⟩ := both_step (fun M1 => fp_X11_ties 46 (xs (i + 1)) (xs (i + 2)) M1) h6 (x_ties h5 (xs (i + 1)) (xs (i + 2))) (fun M1 g => y_ties g (xs (i + 1)) (xs (i + 2)))
      rw [z1, Option.bind_some, z2, Option.bind_some, a1, Option.bind_some, zpp_mk, Option.bind_some, Option.bind_some, a2, Option.bind_some, zpp_mk, if_pos rfl]
      exact nxt _ _ a3 a4
    rw [if_neg e21]
    by_cases e22 : o = 22
    · rw [if_pos e22]
      obtain ⟨M1, M2, a1, a2, a3, a4⟩ := both_step (fun M1 => fp_X11_plain 46 M1) h6 (x_plain h5) (fun M1 g => y_plain g)
      rw [a1, Option.bind_some, zpp_mk, a2, Option.bind_some, zpp_mk, if_pos rfl]
      exact nxt _ _ a3 a4
    rw [if_neg e22]
    by_cases e23 : o = 23
    · rw [if_pos e23]
      obtain ⟨M1, M2, a1, a2, a3, a4⟩ := both_step (fun M1 => fp_X11_twins 46 (xs (i + 1)) M1) h6 (x_twins h5 (xs (i + 1))) (fun M1 g => y_twins g (xs (i + 1)))
      rw [z1, Option.bind_some, a1, Option.bind_some, zpp_mk, Option.bind_some, a2, Option.bind_some, zpp_mk, if_pos rfl]
      exact nxt _ _ a3 a4
    rw [if_neg e23]
    by_cases e24 : o = 24
    · rw [if_pos e24]
      obtain ⟨M1, M2, a1, a2, a3, a4⟩ := both_step (fun M1 => fp_X11_most 46 (xs (i + 1)) M1) h6 (x_most h5 (xs (i + 1))) (fun M1 g => y_most g (xs (i + 1)))
      rw [z1, Option.bind_some, a1, Option.bind_some, zpp_mk, Option.bind_some, a2, Option.bind_some, zpp_mk, if_pos rfl]
      exact nxt _ _ a3 a4
    rw [if_neg e24]
    by_cases e25 : o = 25
    · rw [if_pos e25]
      obtain ⟨M1, M2, a1, a2, a3, a4⟩ := both_step (fun M1 => fp_X11_colours 46 M1) h6 (x_colours h5) (fun M1 g => y_colours g)
      rw [a1, Option.bind_some, zpp_mk, a2, Option.bind_some, zpp_mk, if_pos rfl]
      exact nxt _ _ a3 a4
    rw [if_neg e25]
    by_cases e26 : o = 26
    · rw [if_pos e26]
      obtain ⟨M1, M2, a1, a2, a3, a4⟩ := both_step (fun M1 => fp_X11_paintings 46 (xs (i + 1)) M1) h6 (x_paintings h5 (xs (i + 1))) (fun M1 g => y_paintings g (xs (i + 1)))
      rw [z1, Option.bind_some, a1, Option.bind_some, zpp_mk, Option.bind_some, a2, Option.bind_some, zpp_mk, lg_self, if_pos rfl]
      exact nxt _ _ a3 a4
    rw [if_neg e26]
    by_cases e27 : o = 27
    · rw [if_pos e27]
      obtain ⟨M1, M2, a1, a2, a3, a4⟩ := both_step (fun M1 => fp_X11_letter 46 (xs (i + 1)) (xs (i + 2)) M1) h6 (x_letter h5 (xs (i + 1)) (xs (i + 2))) (fun M1 g => y_letter g (xs (i + 1)) (xs (i + 2)))
      rw [z1, Option.bind_some, z2, Option.bind_some, a1, Option.bind_some, zpp_mk, Option.bind_some, Option.bind_some, a2, Option.bind_some, zpp_mk, if_pos rfl]
      exact nxt _ _ a3 a4
    rw [if_neg e27]
    by_cases e28 : o = 28
    · rw [if_pos e28]
      obtain ⟨M1, M2, a1, a2, a3, a4⟩ := both_step (fun M1 => fp_X11_span 46 (xs (i + 1)) (xs (i + 2)) M1) h6 (x_span h5 (xs (i + 1)) (xs (i + 2))) (fun M1 g => y_span g (xs (i + 1)) (xs (i + 2)))
      rw [z1, Option.bind_some, z2, Option.bind_some, a1, Option.bind_some, zpp_mk, Option.bind_some, Option.bind_some, a2, Option.bind_some, zpp_mk, if_pos rfl]
      exact nxt _ _ a3 a4
    rw [if_neg e28]
    by_cases e29 : o = 29
    · rw [if_pos e29]
      obtain ⟨M1, M2, a1, a2, a3, a4⟩ := both_step (fun M1 => fp_X11_mean 46 (xs (i + 1)) (xs (i + 2)) M1) h6 (x_mean h5 (xs (i + 1)) (xs (i + 2))) (fun M1 g => y_mean g (xs (i + 1)) (xs (i + 2)))
      rw [z1, Option.bind_some, z2, Option.bind_some, a1, Option.bind_some, zpp_mk, Option.bind_some, Option.bind_some, a2, Option.bind_some, zpp_mk, if_pos rfl]
      exact nxt _ _ a3 a4
    rw [if_neg e29]
    by_cases e30 : o = 30
    · rw [if_pos e30]
      obtain ⟨M1, M2, a1, a2, a3, a4⟩ := both_step (fun M1 => fp_X11_find 46 (xs (i + 1)) M1) h6 (x_find h5 (xs (i + 1))) (fun M1 g => y_find g (xs (i + 1)))
      rw [z1, Option.bind_some, a1, Option.bind_some, zpp_mk, Option.bind_some, a2, Option.bind_some, zpp_mk, if_pos rfl]
      exact nxt _ _ a3 a4
    rw [if_neg e30]
    by_cases e31 : o = 31
    · rw [if_pos e31]
      obtain ⟨M1, M2, a1, a2, a3, a4⟩ := both_step (fun M1 => fp_X11_cross 46 (xs (i + 1)) (xs (i + 2)) (xs (i + 3)) M1) h6 (x_cross h5 (xs (i + 1)) (xs (i + 2)) (xs (i + 3))) (fun M1 g => y_cross g (xs (i + 1)) (xs (i + 2)) (xs (i + 3)))
      rw [z1, Option.bind_some, z2, Option.bind_some, z3, Option.bind_some, a1, Option.bind_some, zpp_mk, Option.bind_some, Option.bind_some, Option.bind_some, a2, Option.bind_some, zpp_mk, if_pos rfl]
      exact nxt _ _ a3 a4
    rw [if_neg e31]
    by_cases e32 : o = 32
    · rw [if_pos e32]
      obtain ⟨M1, M2, a1, a2, a3, a4⟩ := both_step (fun M1 => fp_X11_fits 46 (xs (i + 1)) (xs (i + 2)) M1) h6 (x_fits h5 (xs (i + 1)) (xs (i + 2))) (fun M1 g => y_fits g (xs (i + 1)) (xs (i + 2)))
      rw [z1, Option.bind_some, z2, Option.bind_some, a1, Option.bind_some, zpp_mk, Option.bind_some, Option.bind_some, a2, Option.bind_some, zpp_mk, if_pos rfl]
      exact nxt _ _ a3 a4
    rw [if_neg e32]
    by_cases e33 : o = 33
    · rw [if_pos e33]
      obtain ⟨M1, M2, a1, a2, a3, a4⟩ := both_step (fun M1 => fp_X11_gap 46 (xs (i + 1)) (xs (i + 2)) (xs (i + 3)) (xs (i + 4)) M1) h6 (x_gap h5 (xs (i + 1)) (xs (i + 2)) (xs (i + 3)) (xs (i + 4))) (fun M1 g => y_gap g (xs (i + 1)) (xs (i + 2)) (xs (i + 3)) (xs (i + 4)))
      rw [z1, Option.bind_some, z2, Option.bind_some, z3, Option.bind_some, z4, Option.bind_some, a1, Option.bind_some, zpp_mk, Option.bind_some, Option.bind_some, Option.bind_some, Option.bind_some, a2, Option.bind_some, zpp_mk, if_pos rfl]
      exact nxt _ _ a3 a4
    rw [if_neg e33]
    by_cases e34 : o = 34
    · rw [if_pos e34]
      obtain ⟨M1, M2, a1, a2, a3, a4⟩ := both_step (fun M1 => fp_X11_could 46 (xs (i + 1)) M1) h6 (x_could h5 t1000 (xs (i + 1))) (fun M1 g => y_could g (xs (i + 1)))
      rw [z1, Option.bind_some, a1, Option.bind_some, zpp_mk, Option.bind_some, a2, Option.bind_some, zpp_mk, if_pos rfl]
      exact nxt _ _ a3 a4
    rw [if_neg e34]
    by_cases e35 : o = 35
    · rw [if_pos e35]
      obtain ⟨M1, M2, a1, a2, a3, a4⟩ := both_step (fun M1 => fp_X11_beside 46 (xs (i + 1)) (xs (i + 2)) M1) h6 (x_beside h5 (xs (i + 1)) (xs (i + 2))) (fun M1 g => y_beside g (xs (i + 1)) (xs (i + 2)))
      rw [z1, Option.bind_some, z2, Option.bind_some, a1, Option.bind_some, zpp_mk, Option.bind_some, Option.bind_some, a2, Option.bind_some, zpp_mk, if_pos rfl]
      exact nxt _ _ a3 a4
    rw [if_neg e35]
    by_cases e36 : o = 36
    · rw [if_pos e36]
      obtain ⟨M1, M2, a1, a2, a3, a4⟩ := both_step (fun M1 => fp_X11_turned 46 (xs (i + 1)) (xs (i + 2)) M1) h6 (x_turned h5 (xs (i + 1)) (xs (i + 2))) (fun M1 g => y_turned g (xs (i + 1)) (xs (i + 2)))
      rw [z1, Option.bind_some, z2, Option.bind_some, a1, Option.bind_some, zpp_mk, Option.bind_some, Option.bind_some, a2, Option.bind_some, zpp_mk, if_pos rfl]
      exact nxt _ _ a3 a4
    rw [if_neg e36]
    by_cases e37 : o = 37
    · rw [if_pos e37]
      obtain ⟨M1, M2, a1, a2, a3, a4⟩ := both_step (fun M1 => fp_X11_obstruction 46 M1) h6 (x_obstruction h5) (fun M1 g => y_obstruction g)
      rw [a1, Option.bind_some, zpp_mk, a2, Option.bind_some, zpp_mk, if_pos rfl]
      exact nxt _ _ a3 a4
    rw [if_neg e37]
    by_cases e38 : o = 38
    · rw [if_pos e38]
      obtain ⟨M1, M2, a1, a2, a3, a4⟩ := both_step (fun M1 => fp_X11_obstructions 46 M1) h6 (x_obstructions h5) (fun M1 g => y_obstructions g)
      rw [a1, Option.bind_some, zpp_mk, a2, Option.bind_some, zpp_mk, if_pos rfl]
      exact nxt _ _ a3 a4
    rw [if_neg e38]
    by_cases e39 : o = 39
    · rw [if_pos e39]
      obtain ⟨M1, M2, a1, a2, a3, a4⟩ := both_step (fun M1 => fp_X11_family 46 (xs (i + 1)) M1) h6 (x_family h5 (xs (i + 1))) (fun M1 g => y_family g (xs (i + 1)))
      rw [z1, Option.bind_some, a1, Option.bind_some, zpp_mk, Option.bind_some, a2, Option.bind_some, zpp_mk, if_pos rfl]
      exact nxt _ _ a3 a4
    rw [if_neg e39]
    by_cases e40 : o = 40
    · rw [if_pos e40]
      obtain ⟨M1, M2, a1, a2, a3, a4⟩ := both_step (fun M1 => fp_X11_turns 46 (xs (i + 1)) M1) h6 (x_turns h5 (xs (i + 1))) (fun M1 g => y_turns g (xs (i + 1)))
      rw [z1, Option.bind_some, a1, Option.bind_some, zpp_mk, Option.bind_some, a2, Option.bind_some, zpp_mk, if_pos rfl]
      exact nxt _ _ a3 a4
    rw [if_neg e40]
    by_cases e41 : o = 41
    · rw [if_pos e41]
      obtain ⟨M1, M2, a1, a2, a3, a4⟩ := both_step (fun M1 => fp_X11_within 46 (xs (i + 1)) M1) h6 (x_within h5 (xs (i + 1))) (fun M1 g => y_within g (xs (i + 1)))
      rw [z1, Option.bind_some, a1, Option.bind_some, zpp_mk, Option.bind_some, a2, Option.bind_some, zpp_mk, if_pos rfl]
      exact nxt _ _ a3 a4
    rw [if_neg e41]
    by_cases e42 : o = 42
    · rw [if_pos e42]
      obtain ⟨M1, M2, a1, a2, a3, a4⟩ := both_step (fun M1 => fp_X11_shuffle 46 (xs (i + 1)) (xs (i + 2)) M1) h6 (x_shuffle h5 (xs (i + 1)) (xs (i + 2))) (fun M1 g => y_shuffle g (xs (i + 1)) (xs (i + 2)))
      rw [z1, Option.bind_some, z2, Option.bind_some, a1, Option.bind_some, zpp_mk, Option.bind_some, Option.bind_some, a2, Option.bind_some, zpp_mk, if_pos rfl]
      exact nxt _ _ a3 a4
    rw [if_neg e42]
    by_cases e43 : o = 43
    · rw [if_pos e43]
      obtain ⟨M1, M2, a1, a2, a3, a4⟩ := both_step (fun M1 => fp_X11_sample 46 (xs (i + 1)) (xs (i + 2)) (xs (i + 3)) (xs (i + 4)) M1) h6 (x_sample h5 (xs (i + 1)) (xs (i + 2)) (xs (i + 3)) (xs (i + 4))) (fun M1 g => y_sample g (xs (i + 1)) (xs (i + 2)) (xs (i + 3)) (xs (i + 4)))
      rw [z1, Option.bind_some, z2, Option.bind_some, z3, Option.bind_some, z4, Option.bind_some, a1, Option.bind_some, zpp_mk, Option.bind_some, Option.bind_some, Option.bind_some, Option.bind_some, a2, Option.bind_some, zpp_mk, if_pos rfl]
      exact nxt _ _ a3 a4
    rw [if_neg e43]
    exact nxt _ _ (IC_mono h5 (Nat.le_succ t)) h6
/-- THE MATHEMATICS: what is owed of the functions -/
theorem math_law (xs : Nat → Int32) (L : Nat) (hL : L ≤ 3072) : ∃ M', fp_L_law xs L zM0 = some (1, M') := by
  unfold fp_L_law
  rw [e_A, Option.bind_some, zpp_mk, e_B, Option.bind_some, e_C, Option.bind_some, zpp_mk, e_D, Option.bind_some, n_0]
  exact law_loop xs L hL (L / 6) FU 0 0 S00 mD (by omega) (FU_gt (by omega)) (Nat.zero_le _) (by omega) IC0 IR0

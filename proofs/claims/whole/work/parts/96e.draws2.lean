/-! ===== 96e: the reference: draws, shuffle, sample ===== -/
theorem n_m1 (k : Nat) : nI (k + 1) + (-1) = nI k := by
  rw [← n_add, Int32.add_assoc, show nI 1 + (-1) = 0 from by decide, Int32.add_zero]
theorem y_drawBy {s b : Nat} {M : zM} (hC : zC M) (hs : s < 65536) (h : zI M 46 51 = nI s) (hb : 0 < b) (hb2 : b < 100) : fp_X11_drawBy 46 (nI b) M = some (nI (lcg s / 8 % b), zsI M 46 51 (nI (lcg s))) := by
  unfold fp_X11_drawBy
  have hl := lcg_lt s
  rw [ts_46 hC, gI_46 hC, Option.bind_some, h, show (4093 : Int32) = nI 4093 from by decide, n_mul, show (18257 : Int32) = nI 18257 from by decide, n_add, show (65536 : Int32) = nI 65536 from by decide, n_rem (by omega) (by omega) (by omega), pI_46 hC, Option.bind_some, gI_46 (by exact hC), Option.bind_some, zI_same]
  rw [show (s * 4093 + 18257) % 65536 = lcg s from rfl, n_8, n_div (by omega) (by omega) (by omega)]
  unfold zrm
  rw [if_neg (by rw [n_0, n_eq (by omega) (by omega)]; omega), n_rem (by omega) hb (by omega)]
  rfl
theorem y_firstD {w : List Nat} {p i j : Nat} {M : zM} {n v v0 : Int32} (K : Int32 → Option zM) (hv0 : v0 = nI i) (hC : zC M) (hA : AN M 68 w) (he : ∀ z ∈ w, z < 2 ^ 31) (hp : p < 2 ^ 31) (hij : i ≤ j) (hj : j < w.length) (hv : w.getD j 0 = p) (hno : ∀ k, i ≤ k → k < j → w.getD k 0 ≠ p) :
    fp_X11_draws_L90 K 46 n (nI p) M FU v0 = K (nI j) ∧ fp_X11_draws_L111 K 46 n (nI p) v M FU v0 = K (nI j) := by
  have hl := AN_lt hA
  rw [hv0]
  constructor
  · refine up (P := fun k f => fp_X11_draws_L90 K 46 n (nI p) M f (nI k) = K (nI j)) (a := i) (n := j) ?_ ?_ FU hij (FU_gt (by omega))
    · intro f
      rw [fp_X11_draws_L90, gR_46_35 hC, Option.bind_some, AN_l hA hj, Option.bind_some, hv, if_pos rfl]
    · intro k f hik hk ih
      rw [fp_X11_draws_L90, gR_46_35 hC, Option.bind_some, AN_l hA (show k < w.length by omega), Option.bind_some, if_neg (by rw [n_eq (he _ (getD_mem (by omega))) hp]; exact hno k hik hk), inc]
      exact ih
  · refine up (P := fun k f => fp_X11_draws_L111 K 46 n (nI p) v M f (nI k) = K (nI j)) (a := i) (n := j) ?_ ?_ FU hij (FU_gt (by omega))
    · intro f
      rw [fp_X11_draws_L111, gR_46_35 hC, Option.bind_some, AN_l hA hj, Option.bind_some, hv, if_pos rfl]
    · intro k f hik hk ih
      rw [fp_X11_draws_L111, gR_46_35 hC, Option.bind_some, AN_l hA (show k < w.length by omega), Option.bind_some, if_neg (by rw [n_eq (he _ (getD_mem (by omega))) hp]; exact hno k hik hk), inc]
      exact ih
theorem AN_68 {l : List Nat} {P : Nat → Nat → Prop} {M M' : zM} (hC : zC M) (h : AN M 68 l) (hl : l.length ≤ 14) (hf : Fz P M M') (hp : ∀ k, ¬ P 68 k) : AN M' 68 l :=
  AN_of (Fz_C hf hC) (Or.inr (Or.inr rfl)) hl fun i hi => by rw [hf.2 68 i (hp i)]; exact h.2.2.2.2 i hi
theorem pr_ge {p b : Nat} (h : b < p) : tri p ≤ pr p b := by
  unfold pr tri
  rw [if_pos h]
  exact Nat.le_add_right _ _
theorem adj_new {p b L : Nat} (hL : L < 2 ^ tri p) (h : b < p) : adj L p b = false := by
  rw [adj_hi h]
  exact Nat.testBit_lt_two_pow (Nat.lt_of_lt_of_le hL (Nat.pow_le_pow_right (by decide) (pr_ge h)))
theorem y_crossIn {n : Nat} {l : List Nat} {M : zM} (hC : zC M) (hn : n < 8) (hA : AN M 68 l) (hW : WD n l) (h0 : zI M 46 0 = 0) : ∃ M', fp_X11_draws_L83 46 (nI n) FU 0 M = some M' ∧ NrH n (wnet n l) M' ∧ Fz atN M M' := by
  have hlen := hW.1
  have hlt := WD_lt hW
  have h31 : ∀ z ∈ l, z < 2 ^ 31 := fun z hz => by have := hlt z hz; omega
  have h32 : ∀ z ∈ l, z < 2 ^ 32 := fun z hz => by have := hlt z hz; omega
  rw [n_0]
  refine up (P := fun p f => ∀ M1, Fz atN M M1 → NrH p (wnet p l) M1 → ∃ M', fp_X11_draws_L83 46 (nI n) f (nI p) M1 = some M' ∧ NrH n (wnet n l) M' ∧ Fz atN M M') (a := 0) (n := n) ?_ ?_ FU (by omega) (FU_gt (by omega)) M Fz_refl ⟨h0, fun p hp => by omega⟩
  · intro f M1 h1 h2
    exact ⟨M1, by rw [fp_X11_draws_L83, stp], h2, h1⟩
  · intro p f _ hp ih M1 h1 h2
    have hC1 := Fz_C h1 hC
    have hA1 := AN_68 hC hA (by omega) h1 (fun k => by omega)
    obtain ⟨A, B, C, e, i1, i2, i3⟩ := two_of (hW.2 p hp)
    have hL : l.length = A.length + 1 + B.length + 1 + C.length := by rw [e]; simp; omega
    have hpos : ∀ k, k < l.length → (l.getD k 0 = p ↔ (k = A.length ∨ k = A.length + 1 + B.length)) := fun k hk => by
      rw [e] at hk ⊢; exact two_pos i1 i2 i3 hk
    have hsg : (l.drop (A.length + 1)).take (A.length + 1 + B.length - (A.length + 1)) = B := by
      rw [e, show A ++ p :: (B ++ p :: C) = (A ++ [p]) ++ (B ++ p :: C) by simp, List.drop_left' (by simp), List.take_left' (by omega)]
    obtain ⟨M2, c1, c2, c3⟩ := y_comes (s := 0) hC1 h2 (show p < 7 by omega) (wnet_lt p l) (Nat.two_pow_pos p)
    rw [Nat.zero_shiftLeft, Nat.or_zero] at c2
    rw [← n_0] at c1
    have hlt2 : wnet p l < 2 ^ tri (p + 1) := Nat.lt_of_lt_of_le (wnet_lt p l) (Nat.pow_le_pow_right (by decide) (tri_le' (by omega)))
    have inner : ∀ K : zM → Option zM, ∃ M3, fp_X11_draws_L136 K 46 (nI n) (nI p) (nI A.length) (nI (A.length + 1 + B.length)) FU 0 M2 = K M3 ∧ NrH (p + 1) (wnet (p + 1) l) M3 ∧ Fz atN M M3 := by
      intro K
      rw [n_0]
      refine up (P := fun k f => ∀ M2 L, Fz atN M M2 → NrH (p + 1) L M2 → L < 2 ^ tri (p + 1) → (∀ a, a < p + 1 → ∀ b, b < a → adj L a b = if a < p then crs a b l else decide (b < k) && crs p b l) → ∃ M3, fp_X11_draws_L136 K 46 (nI n) (nI p) (nI A.length) (nI (A.length + 1 + B.length)) f (nI k) M2 = K M3 ∧ NrH (p + 1) (wnet (p + 1) l) M3 ∧ Fz atN M M3) (a := 0) (n := p) ?_ ?_ FU (by omega) (FU_gt (by omega)) M2 (wnet p l) (Fz_trans h1 c3) c2 hlt2 ?_
      · intro f M2 L g1 g2 g3 g4
        refine ⟨M2, by rw [fp_X11_draws_L136, stp], ?_, g1⟩
        rw [Pat_wnet (L := L) (show p + 1 < 8 by omega) g3 fun a ha b hb => ?_]
        · exact g2
        · rw [g4 a ha b hb]
          by_cases c : a < p
          · rw [if_pos c]
          · have : a = p := by omega
            subst this
            rw [if_neg c, decide_eq_true hb, Bool.true_and]
      · intro k f _ hk ihk M2 L g1 g2 g3 g4
        have hC2 := Fz_C g1 hC
        have hA2 := AN_68 hC hA (by omega) g1 (fun k => by omega)
        have hcp : crs p k l = (B.count k == 1) := by
          rw [e]; exact crs_p (by omega) i1 i2 i3 (by rw [← e]; exact hW.2 k (by omega))
        have hcB : B.count k ≤ B.length := List.count_le_length
        rw [fp_X11_draws_L136, go hk (by omega), gR_46_35 hC2, Option.bind_some, y_between hA2 (show A.length + 1 ≤ A.length + 1 + B.length by omega) (by omega) h32 (show k < 2 ^ 32 by omega), Option.bind_some, hsg, zjn_eq, inc]
        have stay : ∀ L', L' = L ∨ L' = flp L p k → ∀ b : Bool, b = crs p k l → (L' = if b then flp L p k else L) → ∀ a, a < p + 1 → ∀ b, b < a → adj L' a b = if a < p then crs a b l else decide (b < k + 1) && crs p b l := by
          intro L' _ bb hbb hL' a ha b hb
          have g := g4 a ha b hb
          have hf : adj L' a b = (adj L a b != (bb && ((a == p && b == k) || (a == k && b == p)))) := by
            rw [hL']
            cases bb with
            | true => rw [if_pos rfl, adj_flp (by omega) (by omega) (by omega) (by omega) (by omega), Bool.true_and]
            | false => rw [if_neg (by decide), Bool.false_and, Bool.bne_false]
          rw [hf, g]
          by_cases c : a < p
          · have e1 : (a == p) = false := by simp; omega
            have e2 : (b == p) = false := by simp; omega
            rw [if_pos c, if_pos c, e1, e2, Bool.false_and, Bool.and_false, Bool.or_false, Bool.and_false, Bool.bne_false]
          · have hap : a = p := by omega
            subst hap
            have e3 : (a == k) = false := by simp; omega
            rw [if_neg c, if_neg c, beq_self_eq_true, Bool.true_and, e3, Bool.false_and, Bool.or_false]
            by_cases cb : b = k
            · rw [cb, decide_eq_false (Nat.lt_irrefl k), beq_self_eq_true, Bool.and_true, Bool.false_and, decide_eq_true (Nat.lt_succ_self k), Bool.true_and, hbb]
              cases crs a k l <;> rfl
            · have e4 : (b == k) = false := by simpa using cb
              rw [e4, Bool.and_false, Bool.bne_false]
              congr 1
              exact decide_eq_decide.mpr (by omega)
        by_cases c1 : B.count k = 1
        · have hc : crs p k l = true := by rw [hcp, c1]; rfl
          obtain ⟨M3, d1, d2, d3⟩ := y_flips hC2 g2 (show p + 1 < 8 by omega) (show p < p + 1 by omega) (show k < p + 1 by omega) (by omega)
          rw [if_neg (show ¬ nI (B.count k) ≠ 1 by rw [c1]; decide), d1, Option.bind_some]
          exact ihk M3 _ (Fz_trans g1 (Fz_mono d3 fun a k q => Or.inl q)) d2 (flp_lt (by omega) g3 (by omega) (by omega) (by omega)) (stay _ (Or.inr rfl) true hc.symm (by rw [if_pos rfl]))
        · have hc : crs p k l = false := by rw [hcp]; simpa using c1
          rw [if_pos (show nI (B.count k) ≠ 1 by rw [n_1, ne_eq, n_eq (by omega) (by omega)]; exact c1)]
          exact ihk M2 _ g1 g2 g3 (stay _ (Or.inl rfl) false hc.symm (by rw [if_neg (by decide)]))
      · intro a ha b hb
        by_cases c : a < p
        · rw [if_pos c]
          exact (wnet_Pat (show p < 8 by omega) a c b hb).symm
        · have hap : a = p := by omega
          subst hap
          rw [if_neg c, adj_new (wnet_lt a l) hb, decide_eq_false (Nat.not_lt_zero b), Bool.false_and]
    obtain ⟨M3, d1, d2, d3⟩ := inner (fun M30 => fp_X11_draws_L83 46 (nI n) f (nI p + 1) M30)
    obtain ⟨M', f1, f2, f3⟩ := ih M3 d3 d2
    refine ⟨M', ?_, f2, f3⟩
    rw [fp_X11_draws_L83, go hp (by omega)]
    rw [(y_firstD (i := 0) (j := A.length) (v := 0) _ n_0 hC1 hA1 h31 (show p < 2 ^ 31 by omega) (Nat.zero_le _) (by omega) ((hpos _ (by omega)).mpr (Or.inl rfl)) (fun k _ hk z => by have := (hpos k (by omega)).mp z; omega)).1]
    rw [lett_eq]
    rw [(y_firstD (i := A.length + 1) (j := A.length + 1 + B.length) (v := nI A.length) _ (inc A.length) hC1 hA1 h31 (show p < 2 ^ 31 by omega) (by omega) (by omega) ((hpos _ (by omega)).mpr (Or.inr rfl)) (fun k hk1 hk z => by have := (hpos k (by omega)).mp z; omega)).2]
    rw [c1, Option.bind_some, d1, inc]
    exact f1
abbrev atD2 : Nat → Nat → Prop := fun a k => a = 47 ∨ a = 68 ∨ (a = 46 ∧ (k = 0 ∨ k = 51))
theorem y_draws {n s : Nat} {M : zM} (hC : zC M) (hn : n < 8) (hs : s < 65536) (h : zI M 46 51 = nI s) : ∃ M', fp_X11_draws 46 (nI n) M = some M' ∧ NrH n (wnet n (shN n s).1) M' ∧ zI M' 46 51 = nI (shN n s).2 ∧ (shN n s).2 < 65536 ∧ Fz atD2 M M' := by
  unfold fp_X11_draws
  rw [ts_46 hC]
  have fill : ∀ K : zM → Option zM, ∃ M2, fp_X11_draws_L2 K 46 (nI n) FU 0 M = K M2 ∧ Fz (fun a _ => a = 68) M M2 ∧ ∀ j, j < 2 * n → zI M2 68 j = nI (j / 2) := by
    intro K
    rw [n_0]
    refine up (P := fun i f => ∀ M1, Fz (fun a _ => a = 68) M M1 → (∀ j, j < i → zI M1 68 j = nI (j / 2)) → ∃ M2, fp_X11_draws_L2 K 46 (nI n) f (nI i) M1 = K M2 ∧ Fz (fun a _ => a = 68) M M2 ∧ ∀ j, j < 2 * n → zI M2 68 j = nI (j / 2)) (a := 0) (n := 2 * n) ?_ ?_ FU (by omega) (FU_gt (by omega)) M Fz_refl (fun j hj => by omega)
    · intro f M1 h1 h2
      exact ⟨M1, by rw [fp_X11_draws_L2, dbl, stp], h1, h2⟩
    · intro i f _ hi ih M1 h1 h2
      have hC1 := Fz_C h1 hC
      rw [fp_X11_draws_L2, dbl, go hi (by omega), gR_46_35 hC1, Option.bind_some, n_2, n_div (by omega) (by omega) (by omega), tI_68 hC1 (show i < 14 by omega), Option.bind_some, inc]
      refine ih _ (Fz_trans h1 (Fz_sI rfl)) fun j hj => ?_
      by_cases hji : j = i
      · rw [hji, zI_same]
      · rw [zI_other _ _ (Or.inr hji), h2 j (by omega)]
  have loop : ∀ K : zM → Option zM, ∀ k l s M1 f, k < f → k < 2 * n → WD n l → AN M1 68 l → s < 65536 → zI M1 46 51 = nI s → Fz atD2 M M1 → ∃ M', fp_X11_draws_L30 K 46 (nI n) f (nI k) M1 = K M' ∧ WD n (shuf k l s).1 ∧ AN M' 68 (shuf k l s).1 ∧ (shuf k l s).2 < 65536 ∧ zI M' 46 51 = nI (shuf k l s).2 ∧ Fz atD2 M M' := by
    intro K k
    induction k with
    | zero =>
      intro l s M1 f h1 h2 h3 h4 h5 h6 h7
      obtain ⟨f, rfl⟩ : ∃ g, f = g + 1 := ⟨f - 1, by omega⟩
      exact ⟨M1, by rw [fp_X11_draws_L30, if_pos (by decide)], h3, h4, h5, h6, h7⟩
    | succ k ih =>
      intro l s M1 f h1 h2 h3 h4 h5 h6 h7
      obtain ⟨f, rfl⟩ : ∃ g, f = g + 1 := ⟨f - 1, by omega⟩
      have hC1 := Fz_C h7 hC
      have hj := Nat.mod_lt (lcg s / 8) (show 0 < k + 2 by omega)
      obtain ⟨j, hjd⟩ : ∃ j, j = lcg s / 8 % (k + 2) := ⟨_, rfl⟩
      rw [← hjd] at hj
      have hkl : k + 1 < l.length := by rw [h3.1]; omega
      have hjl : j < l.length := by rw [h3.1]; omega
      have hll : l.length ≤ 14 := by rw [h3.1]; omega
      rw [fp_X11_draws_L30, if_neg (show ¬ nI (k + 1) ≤ 0 by rw [n_0, n_le (by omega) (by omega)]; omega), inc (k + 1), show k + 1 + 1 = k + 2 by omega, y_drawBy hC1 h5 h6 (by omega) (by omega), Option.bind_some, zpp_mk, ← hjd]
      have hf3 : Fz atD2 M1 (zsI M1 46 51 (nI (lcg s))) := Fz_sI (Or.inr (Or.inr ⟨rfl, Or.inr rfl⟩))
      have hC3 : zC (zsI M1 46 51 (nI (lcg s))) := hC1
      have A3 : AN (zsI M1 46 51 (nI (lcg s))) 68 l := AN_68 hC1 h4 hll (Fz_sI (P := fun a _ => a = 46) rfl) (fun _ => by decide)
      rw [gR_46_35 hC3, Option.bind_some, AN_l A3 hkl, Option.bind_some, Option.bind_some, Option.bind_some, AN_l A3 hjl, Option.bind_some, AN_t A3 hkl, Option.bind_some]
      have A4 := AN_set (x := l.getD j 0) A3 hkl
      have hC4 : zC (zsI (zsI M1 46 51 (nI (lcg s))) 68 (k + 1) (nI (l.getD j 0))) := hC1
      rw [gR_46_35 hC4, Option.bind_some, AN_t A4 (by rw [List.length_set]; exact hjl), Option.bind_some, n_m1]
      have A5 := AN_set (x := l.getD (k + 1) 0) A4 (k := j) (by rw [List.length_set]; exact hjl)
      rw [shuf, ← hjd]
      exact ih (swpL l (k + 1) j) (lcg s) _ f (by omega) (by omega) (WD_perm h3 (swpL_len _ _ _) (swpL_count hkl hjl)) A5 (lcg_lt s) (by rw [zI_other _ _ (Or.inl (by decide)), zI_other _ _ (Or.inl (by decide)), zI_same]) (Fz_trans h7 (Fz_trans (Fz_trans hf3 (Fz_sI (Or.inr (Or.inl rfl)))) (Fz_sI (Or.inr (Or.inl rfl)))))
  obtain ⟨M2, e1, e2, e3⟩ := fill (fun M3 =>
        lett (((2 * nI n) - 1)) fun (v2_4 : Int32) =>
        fp_X11_draws_L30
          (fun M16 =>
            (zpI 9 M16 46 0 0).bind fun (M17 : zM) =>
            fp_X11_draws_L83 46 (nI n) FU 0 M17) 46 (nI n) FU v2_4 M3)
  rw [e1, lett_eq]
  have hC2 := Fz_C e2 hC
  have hl := (twos_WD n hn).1
  have A2 : AN M2 68 (twos n) := AN_of hC2 (Or.inr (Or.inr rfl)) (by omega) fun i hi => by
    rw [hl] at hi
    rw [e3 i hi]
    simp [twos, List.getD, List.getElem?_map, List.getElem?_range hi]
  have tail : ∀ l s M3, WD n l → AN M3 68 l → s < 65536 → zI M3 46 51 = nI s → Fz atD2 M M3 → ∃ M', ((zpI 9 M3 46 0 0).bind fun (M17 : zM) => fp_X11_draws_L83 46 (nI n) FU 0 M17) = some M' ∧ NrH n (wnet n l) M' ∧ zI M' 46 51 = nI s ∧ s < 65536 ∧ Fz atD2 M M' := by
    intro l s M3 g1 g2 g3 g4 g5
    have hC3 := Fz_C g5 hC
    have hf : Fz atN M3 (zsI M3 46 0 0) := Fz_sI (Or.inr ⟨rfl, rfl⟩)
    obtain ⟨M', k1, k2, k3⟩ := y_crossIn (show zC (zsI M3 46 0 0) from hC3) hn (AN_68 hC3 g2 (by rw [g1.1]; omega) hf (fun k => by omega)) g1 (zI_same _ _ _ _)
    refine ⟨M', by rw [pI_46 hC3, Option.bind_some, k1], k2, ?_, g3, Fz_trans g5 (Fz_mono (Fz_trans hf k3) fun a k q => by omega)⟩
    rw [k3.2 46 51 (by decide), hf.2 46 51 (by decide), g4]
  have h2 : zI M2 46 51 = nI s := by rw [e2.2 46 51 (by decide), h]
  have f2 : Fz atD2 M M2 := Fz_mono e2 fun a k q => Or.inr (Or.inl q)
  by_cases h0 : n = 0
  · subst h0
    rw [show (2 * nI 0 - 1) = (-1 : Int32) by decide, show FU = 999999999 + 1 from rfl, fp_X11_draws_L30, if_pos (by decide)]
    exact tail _ _ M2 (twos_WD 0 (by omega)) A2 hs h2 f2
  · obtain ⟨M3, g1, g2, g3, g4, g5, g6⟩ := loop (fun M16 => (zpI 9 M16 46 0 0).bind fun (M17 : zM) => fp_X11_draws_L83 46 (nI n) FU 0 M17) (2 * n - 1) (twos n) s M2 FU (FU_gt (by omega)) (by omega) (twos_WD n hn) A2 hs h2 f2
    rw [dbl, dec1 (by omega), g1]
    exact tail _ _ M3 g2 g3 g4 g5 g6
theorem y_shuffle {S : zSt} {M : zM} (h : IR S M) (v n : Int32) : RM (q_shuffle S v n) (fp_X11_shuffle 46 v n M) M := by
  unfold fp_X11_shuffle q_shuffle
  have hC := IR_C h
  rw [ts_46 hC, show (9999 : Int32) = nI 9999 from by decide, y_from0 (by decide), Option.bind_some]
  cases hv : asN v (9999 + 1) with
  | none => rw [b_no, if_pos rfl]; exact y_rf h Fc_refl
  | some s =>
    rw [b_so, if_neg (show ¬ (1 : Int32) = 0 by decide), n_7, y_from0 (by decide), Option.bind_some]
    dsimp only
    cases hn : asN n (7 + 1) with
    | none => rw [b_no, if_neg (show ¬ (0 : Int32) ≠ 0 by decide)]; exact y_rf h Fc_refl
    | some k =>
      obtain ⟨rfl, hs, hb⟩ := asN_some hv
      obtain ⟨rfl, hk, hb2⟩ := asN_some hn
      dsimp only
      rw [b_so, if_pos (show (1 : Int32) ≠ 0 by decide)]
      obtain ⟨M1, e1, e2, e3⟩ := y_begins h
      have hC1 := IR_C e2
      have hz : Fz scR M1 (zsI M1 46 51 (nI s)) := Fz_sI (by omega)
      have e4 := IR_z e2 hz
      obtain ⟨M2, f1, f2, f3, f4, f5⟩ := y_draws (n := k) (s := s) (IR_C e4) hk (by omega) (zI_same _ _ _ _)
      have hC2 := Fz_C f5 (IR_C e4)
      rw [e1, Option.bind_some, pI_46 hC1, Option.bind_some, f1, Option.bind_some, y_lines hC2 f2 hk (wnet_lt _ _), Option.bind_some]
      -- what is drawn upon is no state
      have hg : IR (bcS S k (wnet k (shN k s).1)) M2 := by
        have hW : Fz (fun a k => scR a k ∨ atN a k) (zsI M1 46 51 (nI s)) M2 := Fz_mono f5 fun a k q => by omega
        obtain ⟨g1, g2, g3, g4, g5, g6, g7, g8⟩ := e4
        exact ⟨okZ_nw (S := bgS S) g1 hk (wnet_lt _ _) g1.2.2.2.1 g1.2.2.2.2.1, hC2, f2, (hW.2 _ _ (by omega)).trans g4, ⟨(hW.2 _ _ (by omega)).trans g5.1, fun i hi => (hW.2 _ _ (by omega)).trans (g5.2 i hi)⟩, flR_z g6 hW (by omega) (by omega), ⟨(hW.2 _ _ (by omega)).trans g7.1, fun i hi => NtH_z (g7.2 i hi) hW (fun k => by omega)⟩, fun k hk => imR_z (g8 k hk) hW (fun k => by omega) (fun k => by omega)⟩
      exact y_gv hg (Fc_trans e3 (Fc_trans (scR_c hz) (Fz_c f5 fun a k q => by show 46 ≤ a ∧ a < 72; omega)))
abbrev atE2 : Nat → Nat → Prop := fun a k => atD2 a k ∨ atS a k
theorem prm_no4 {n L : Nat} (h : n ≤ 4) : prm n L = false := by
  unfold prm
  rw [decide_eq_false (by omega), Bool.false_and]
theorem prm_noj {n L : Nat} (h : joi n L = false) : prm n L = false := by
  unfold prm
  rw [h, Bool.false_and, Bool.and_false]
theorem y_sampled {n m s : Nat} {v : Int32} {M : zM} (K : Int32 → Int32 → Int32 → zM → Option (Int32 × zM)) (hC : zC M) (hn : n < 8) (hs : s < 65536) (h : zI M 46 51 = nI s) (hm : m ≤ 40) : ∃ M', fp_X11_sample_L73 K 46 (nI n) (nI m) v FU 0 0 0 0 M = K (nI (smp n s m).1) (nI (smp n s m).2.1) (nI (smp n s m).2.2.1) M' ∧ Fz atE2 M M' := by
  have st0 : fp_X11_sample_L73 K 46 (nI n) (nI m) v FU 0 0 0 0 M = fp_X11_sample_L73 K 46 (nI n) (nI m) v FU (nI (smp n s 0).1) (nI (smp n s 0).2.1) (nI (smp n s 0).2.2.1) (nI 0) M := rfl
  rw [st0]
  refine up (P := fun i f => ∀ M1, Fz atE2 M M1 → (smp n s i).2.2.2 < 65536 → zI M1 46 51 = nI (smp n s i).2.2.2 → ∃ M', fp_X11_sample_L73 K 46 (nI n) (nI m) v f (nI (smp n s i).1) (nI (smp n s i).2.1) (nI (smp n s i).2.2.1) (nI i) M1 = K (nI (smp n s m).1) (nI (smp n s m).2.1) (nI (smp n s m).2.2.1) M' ∧ Fz atE2 M M') (a := 0) (n := m) ?_ ?_ FU (by omega) (FU_gt (by omega)) M Fz_refl hs h
  · intro f M1 h1 h2 h3
    exact ⟨M1, by rw [fp_X11_sample_L73, stp], h1⟩
  · intro i f _ hi ih M1 h1 h2 h3
    have hC1 := Fz_C h1 hC
    obtain ⟨M2, f1, f2, f3, f4, f5⟩ := y_draws hC1 hn h2 h3
    have hC2 := Fz_C f5 hC1
    have h2' : Fz atE2 M M2 := Fz_trans h1 (Fz_mono f5 fun a k q => Or.inl q)
    have e1 : (smp n s (i + 1)).1 = (smp n s i).1 + pc (wnet n (shN n (smp n s i).2.2.2).1) := rfl
    have e2 : (smp n s (i + 1)).2.1 = (smp n s i).2.1 + (joi n (wnet n (shN n (smp n s i).2.2.2).1)).toNat := rfl
    have e3 : (smp n s (i + 1)).2.2.1 = (smp n s i).2.2.1 + (prm n (wnet n (shN n (smp n s i).2.2.2).1)).toNat := rfl
    have e4 : (smp n s (i + 1)).2.2.2 = (shN n (smp n s i).2.2.2).2 := rfl
    rw [e1, e2, e3, e4] at ih
    obtain ⟨L, hL⟩ : ∃ L, L = wnet n (shN n (smp n s i).2.2.2).1 := ⟨_, rfl⟩
    have hlt : L < 2 ^ tri n := by rw [hL]; exact wnet_lt _ _
    rw [← hL] at ih f2
    obtain ⟨x, hx⟩ : ∃ x, x = (smp n s i).1 := ⟨_, rfl⟩
    obtain ⟨y, hy⟩ : ∃ y, y = (smp n s i).2.1 := ⟨_, rfl⟩
    obtain ⟨z, hz⟩ : ∃ z, z = (smp n s i).2.2.1 := ⟨_, rfl⟩
    rw [← hx, ← hy, ← hz] at ih ⊢
    have p0 : ∀ k, nI k = nI (k + false.toNat) := fun k => rfl
    have p1 : ∀ k, nI k + 1 = nI (k + true.toNat) := fun k => inc k
    have p2 : ∀ k : Nat, nI k + 0 = nI (k + false.toNat) := fun k => Int32.add_zero _
    rw [fp_X11_sample_L73, go hi (by omega), f1, Option.bind_some, y_lines hC2 f2 hn hlt, Option.bind_some, lett_eq, n_add, y_areJoined hC2 f2 hn hlt, Option.bind_some, zjn_eq]
    cases hj : joi n L with
    | false =>
      rw [hj, prm_noj hj] at ih
      rw [b_ff, if_pos rfl]
      dsimp only
      rw [lett_eq, p2, zjn_eq]
      dsimp only
      rw [zjn_eq]
      by_cases h4 : n ≤ 4
      · rw [if_pos (show nI n ≤ 4 by rw [n_4, n_le (by omega) (by omega)]; exact h4)]; dsimp only; rw [lett_eq, p2, inc]
        exact ih M2 h2' f4 f3
      · rw [if_neg (show ¬ nI n ≤ 4 by rw [n_4, n_le (by omega) (by omega)]; exact h4), Option.bind_some, if_pos rfl]; dsimp only; rw [lett_eq, p2, inc]
        exact ih M2 h2' f4 f3
    | true =>
      rw [hj] at ih
      rw [b_tt, if_neg (show ¬ (1 : Int32) = 0 by decide)]
      dsimp only
      rw [lett_eq, p1, zjn_eq]
      dsimp only
      rw [zjn_eq]
      by_cases h4 : n ≤ 4
      · rw [prm_no4 h4] at ih
        rw [if_pos (show nI n ≤ 4 by rw [n_4, n_le (by omega) (by omega)]; exact h4)]; dsimp only; rw [lett_eq, p2, inc]
        exact ih M2 h2' f4 f3
      · obtain ⟨M3, g1, g2, g3⟩ := y_prm hC2 f2 hn hlt (by omega) hj
        have hsl : (spl n L).length < 2 ^ 31 := by have := spl_len2 (n := n) (L := L) hn; omega
        have k2 := Fz_trans h2' (Fz_mono g2 fun a k q => Or.inr q)
        have k3 : zI M3 46 51 = nI (shN n (smp n s i).2.2.2).2 := by rw [g2.2 46 51 (by decide), f3]
        rw [if_neg (show ¬ nI n ≤ 4 by rw [n_4, n_le (by omega) (by omega)]; exact h4), Option.bind_some, if_neg (show ¬ (1 : Int32) = 0 by decide), g1, Option.bind_some, zpp_mk]
        by_cases c : (spl n L).length = 0
        · have hp : prm n L = true := by rw [← g3]; exact c
          rw [hp] at ih
          rw [if_neg (show ¬ nI (spl n L).length ≠ 0 by rw [c]; decide), lett_eq, p1, inc]
          exact ih M3 k2 f4 k3
        · have hp : prm n L = false := by
            have : ¬ prm n L = true := by rw [← g3]; exact c
            simpa using this
          rw [hp] at ih
          rw [if_pos (show nI (spl n L).length ≠ 0 by rw [n_0, ne_eq, n_eq hsl (by omega)]; exact c)]; dsimp only; rw [lett_eq, p2, inc]
          exact ih M3 k2 f4 k3
theorem triM : ∀ k, k < 8 → (nI k * (nI k - 1)) / 2 = nI (tri k) := by decide +kernel
theorem y_from1 {v : Int32} : fp_X11_isFrom v 1 40 = some (match asN v 41 with | none => 0 | some m => if m = 0 then 0 else 1) := by
  unfold fp_X11_isFrom
  rw [x_m]
  cases asN v 41 with
  | none => rfl
  | some m =>
    dsimp only
    by_cases h : m = 0
    · rw [if_pos h, if_pos h]
    · rw [if_neg h, if_neg h]
theorem y_sample {S : zSt} {M : zM} (h : IR S M) (v n m what : Int32) : RM (q_sample S v n m what) (fp_X11_sample 46 v n m what M) M := by
  unfold fp_X11_sample q_sample
  have hC := IR_C h
  rw [ts_46 hC, show (9999 : Int32) = nI 9999 from by decide, y_from0 (by decide), Option.bind_some]
  cases hv : asN v (9999 + 1) with
  | none => rw [b_no, if_pos rfl]; exact y_rf h Fc_refl
  | some s =>
    rw [b_so, if_neg (show ¬ (1 : Int32) = 0 by decide), n_7, y_from0 (by decide), Option.bind_some]
    dsimp only
    cases hn : asN n (7 + 1) with
    | none => rw [b_no, if_pos rfl]; exact y_rf h Fc_refl
    | some k =>
      have hf1 := y_from1 (v := m)
      rw [b_so, if_neg (show ¬ (1 : Int32) = 0 by decide)]
      dsimp only
      cases hm : asN m 41 with
      | none =>
        rw [hm] at hf1
        rw [hf1, Option.bind_some]; dsimp only; rw [if_pos rfl]; exact y_rf h Fc_refl
      | some c =>
        rw [hm] at hf1
        dsimp only at hf1 ⊢
        by_cases c0 : c = 0
        · rw [if_pos c0] at hf1
          rw [if_pos c0, hf1, Option.bind_some, if_pos rfl]; exact y_rf h Fc_refl
        · rw [if_neg c0] at hf1
          rw [if_neg c0, hf1, Option.bind_some, if_neg (show ¬ (1 : Int32) = 0 by decide), show (3 : Int32) = nI 3 from n_3, y_from0 (by decide), Option.bind_some]
          cases hw : asN what (3 + 1) with
          | none => rw [b_no, if_neg (show ¬ (0 : Int32) ≠ 0 by decide)]; exact y_rf h Fc_refl
          | some w =>
            obtain ⟨rfl, hs, hb⟩ := asN_some hv
            obtain ⟨rfl, hk, hb2⟩ := asN_some hn
            obtain ⟨rfl, hc, hb3⟩ := asN_some hm
            obtain ⟨rfl, hw3, hb4⟩ := asN_some hw
            rw [b_so, if_pos (show (1 : Int32) ≠ 0 by decide)]
            dsimp only
            obtain ⟨M1, e1, e2, e3⟩ := y_aside hC (IR_N h) (IR_n h).2
            have hC1 := Fz_C e3 hC
            obtain ⟨M2, f1, f2⟩ := y_sampled (n := k) (m := c) (s := s) (v := nI w) (M := zsI M1 46 51 (nI s)) (fun v5_34 v6_35 v7_36 M37 =>
                (zgR 9 M37 46 17).bind fun (y38 : Nat) =>
                (fp_X11_brings 46 y38 0 M37).bind fun (M39 : zM) =>
                lett ((nI c * ((nI k * (nI k - 1)) / 2))) fun (v8_40 : Int32) =>
                if nI w ≠ 0 then (
                  if nI w ≠ 1 then (
                    if nI w ≠ 2 then (
                      if v8_40 ≠ 0 then (
                        (fp_X11_quotient (v5_34.toInt64) (v8_40.toInt64)).bind fun (y41 : Int32) =>
                        (fp_X11_gives 46 y41 M39).bind fun p44 => zpp p44 fun (y42 : Int32) (M43 : zM) =>
                        some (y42, M43))
                      else (
                        (fp_X11_gives 46 0 M39).bind fun p47 => zpp p47 fun (y45 : Int32) (M46 : zM) =>
                        some (y45, M46)))
                    else (
                      (fp_X11_gives 46 v7_36 M39).bind fun p50 => zpp p50 fun (y48 : Int32) (M49 : zM) =>
                      some (y48, M49)))
                  else (
                    (fp_X11_gives 46 v6_35 M39).bind fun p53 => zpp p53 fun (y51 : Int32) (M52 : zM) =>
                    some (y51, M52)))
                else (
                  (fp_X11_gives 46 v5_34 M39).bind fun p56 => zpp p56 fun (y54 : Int32) (M55 : zM) =>
                  some (y54, M55))) hC1 hk (by omega) (zI_same _ _ _ _) (by omega)
            have hC2 := Fz_C f2 (show zC (zsI M1 46 51 (nI s)) from hC1)
            have t2 : NtH 54 0 (sN S, sL S) M2 := NtH_z (NtH_z e2 (Fz_sI (P := fun a _ => a = 46) rfl) (fun k => by decide)) f2 (fun k => by omega)
            obtain ⟨M3, g1, g2, g3⟩ := y_brings hC2 t2 (IR_n h).2 (by decide) (by decide) (by decide) rfl (L54 hC2) (by decide) (by decide)
            rw [← n_0] at g1
            have hz : Fz (fun a k => (scR a k ∨ a = 47) ∨ (a = 46 ∧ k = 0)) M M3 := Fz_trans (Fz_trans (Fz_trans (Fz_mono e3 fun a k q => by omega) (Fz_sI (by omega))) (Fz_mono f2 fun a k q => by omega)) (Fz_mono g3 fun a k q => by omega)
            have h3 : IR S M3 := by
              obtain ⟨q1, q2, q3, q4, q5, q6, q7, q8⟩ := h
              exact ⟨q1, Fz_C hz q2, g2, (hz.2 _ _ (by omega)).trans q4, ⟨(hz.2 _ _ (by omega)).trans q5.1, fun i hi => (hz.2 _ _ (by omega)).trans (q5.2 i hi)⟩, flR_z q6 hz (by omega) (by omega), ⟨(hz.2 _ _ (by omega)).trans q7.1, fun i hi => NtH_z (q7.2 i hi) hz (fun k => by omega)⟩, fun k hk => imR_z (q8 k hk) hz (fun k => by omega) (fun k => by omega)⟩
            have hF : Fc atR M M3 := Fz_c hz fun a k q => by show 46 ≤ a ∧ a < 72; omega
            rw [gR_46_17 hC, Option.bind_some, e1, Option.bind_some, pI_46 hC1, Option.bind_some, f1, gR_46_17 hC2, Option.bind_some, g1, Option.bind_some, lett_eq]
            unfold smO
            have w4 : w = 0 ∨ w = 1 ∨ w = 2 ∨ w = 3 := by omega
            rcases w4 with rfl | rfl | rfl | rfl
            · rw [if_neg (show ¬ nI 0 ≠ 0 by decide)]; exact y_gv h3 hF
            · rw [if_pos (show nI 1 ≠ 0 by decide), if_neg (show ¬ nI 1 ≠ 1 by decide)]; exact y_gv h3 hF
            · rw [if_pos (show nI 2 ≠ 0 by decide), if_pos (show nI 2 ≠ 1 by decide), if_neg (show ¬ nI 2 ≠ 2 by decide)]; exact y_gv h3 hF
            · have ht := tri_le k hk
              have hle := (smp_le (s0 := s) hk c).1
              have h40 : tri k * c ≤ 21 * 40 := Nat.mul_le_mul ht (by omega)
              have hcm := Nat.mul_comm c (tri k)
              rw [if_pos (show nI 3 ≠ 0 by decide), if_pos (show nI 3 ≠ 1 by decide), if_pos (show nI 3 ≠ 2 by decide), triM k hk, n_mul]
              rw [if_neg (show ¬ 3 = 0 by decide), if_neg (show ¬ 3 = 1 by decide), if_neg (show ¬ 3 = 2 by decide)]
              by_cases hz0 : c * tri k = 0
              · rw [if_pos hz0, if_neg (show ¬ nI (c * tri k) ≠ 0 by rw [hz0]; decide)]
                exact y_gv h3 hF
              · rw [if_neg hz0, if_pos (show nI (c * tri k) ≠ 0 by rw [n_0, ne_eq, n_eq (by omega) (by omega)]; exact hz0), j_of (by omega), j_of (by omega), rq_quot (by omega) (by omega) (by omega), Option.bind_some]
                exact y_gv h3 hF

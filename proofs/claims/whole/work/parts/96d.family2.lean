/-! ===== 96d: the reference: family, turns, within ===== -/
theorem bfsT_pre (n : Nat) : ∀ f i l, ∃ t, bfsT n f i l = l ++ t := by
  have add : ∀ (l : List (Nat × Nat)) x t, ∃ u, addT l x t = l ++ u := fun l x t => by
    unfold addT
    split
    · exact ⟨[], by simp⟩
    · exact ⟨_, rfl⟩
  have exp : ∀ x t (l : List (Nat × Nat)) m, ∃ u, expT n x t l m = l ++ u := by
    intro x t l m
    induction m with
    | zero => exact ⟨[], by simp [expT]⟩
    | succ m ih =>
      obtain ⟨u, hu⟩ := ih
      obtain ⟨w, hw⟩ := add (expT n x t l m) (turn n x m) (t + 1)
      exact ⟨u ++ w, by rw [expT, hw, hu, List.append_assoc]⟩
  intro f
  induction f with
  | zero => intro i l; exact ⟨[], by simp [bfsT]⟩
  | succ f ih =>
    intro i l
    rw [bfsT]
    split
    · obtain ⟨u, hu⟩ := exp (l.getD i (0, 0)).1 (l.getD i (0, 0)).2 l n
      obtain ⟨t, ht⟩ := ih (i + 1) (expT n (l.getD i (0, 0)).1 (l.getD i (0, 0)).2 l n)
      exact ⟨u ++ t, by rw [ht, hu, List.append_assoc]⟩
    · exact ⟨[], by simp⟩
theorem mnT_99 {n L : Nat} (hn : n < 8) (hL : L < 2 ^ tri n) : mnT (Tl n L) 99 = mnT (Tl n L) (pc L) := by
  obtain ⟨t, ht⟩ := bfsT_pre n 1097 0 [(L, 0)]
  have hp := pc_le21 L
  unfold Tl mnT
  rw [ht, List.foldl_append, List.foldl_append]
  congr 1
  show min 99 (pc L) = min (pc L) (pc L)
  omega
theorem mnT_all {l : List (Nat × Nat)} {a : Nat} : ∀ q ∈ l, mnT l a ≤ pc q.1 := by
  refine snoc_ind (P := fun l => ∀ q ∈ l, mnT l a ≤ pc q.1) (fun q hq => by cases hq) (fun ws w ih q hq => ?_) l
  have e : mnT (ws ++ [w]) a = min (mnT ws a) (pc w.1) := by unfold mnT; rw [List.foldl_append]; rfl
  rw [e]
  rw [List.mem_append, List.mem_singleton] at hq
  rcases hq with hq | hq
  · have := ih q hq; omega
  · rw [hq]; omega
theorem cwT_snoc (l : List (Nat × Nat)) (q : Nat × Nat) (k : Nat) : cwT (l ++ [q]) k = cwT l k + (pc q.1 == k).toNat := by
  unfold cwT
  rw [List.countP_append, List.countP_singleton]
  cases pc q.1 == k <;> rfl
theorem cwT_low {l : List (Nat × Nat)} {k : Nat} (h : ∀ q ∈ l, k < pc q.1) : cwT l k = 0 := by
  unfold cwT
  rw [List.countP_eq_zero]
  intro q hq
  have := h q hq
  simp; omega
theorem y_famLoop {l : List (Nat × Nat)} {v : Int32} {M : zM} {K : Int32 → Int32 → Int32 → Int32 → Option (Int32 × zM)} (hC : zC M) (h : ClH l M) (ho : okT l) : fp_X11_family_L35 K 46 v M FU 99 0 0 0 0 = K (nI (mnT l 99)) (nI (mxT l)) (nI (cwT l (mnT l 99))) (nI (smT l)) := by
  have hl := ho.1
  have st0 : fp_X11_family_L35 K 46 v M FU 99 0 0 0 0 = fp_X11_family_L35 K 46 v M FU (nI (mnT (l.take 0) 99)) (nI (mxT (l.take 0))) (nI (cwT (l.take 0) (mnT (l.take 0) 99))) (nI (smT (l.take 0))) (nI 0) := rfl
  rw [st0]
  refine up (P := fun i f => fp_X11_family_L35 K 46 v M f (nI (mnT (l.take i) 99)) (nI (mxT (l.take i))) (nI (cwT (l.take i) (mnT (l.take i) 99))) (nI (smT (l.take i))) (nI i) = K (nI (mnT l 99)) (nI (mxT l)) (nI (cwT l (mnT l 99))) (nI (smT l))) (a := 0) (n := l.length) ?_ ?_ FU (by omega) (FU_gt (by omega))
  · intro f
    rw [fp_X11_family_L35, gI_46 hC, Option.bind_some, h.1, stp, List.take_length]
  · intro i f _ hi ih
    obtain ⟨q, hq⟩ : ∃ q, q = l.getD i (0, 0) := ⟨_, rfl⟩
    obtain ⟨ls, hls⟩ : ∃ ls, ls = l.take i := ⟨_, rfl⟩
    have hm := getT_mem hi
    rw [← hq] at hm
    have hq21 := (ho.2 q hm).1
    have hpc := pc_le21 q.1
    have hmn : mnT ls 99 ≤ 99 := mnT_le ls 99
    have hmx := mxT_le ls
    have hcw : cwT ls (mnT ls 99) ≤ ls.length := by unfold cwT; exact List.countP_le_length
    have e1 : mnT (ls ++ [q]) 99 = min (mnT ls 99) (pc q.1) := by unfold mnT; rw [List.foldl_append]; rfl
    have e2 : mxT (ls ++ [q]) = max (mxT ls) (pc q.1) := by unfold mxT; rw [List.foldl_append]; rfl
    have e3 : smT (ls ++ [q]) = smT ls + pc q.1 := by unfold smT; rw [List.foldl_append]; rfl
    rw [tkT hi, ← hq, ← hls, e1, e2, e3, cwT_snoc] at ih
    rw [← hls]
    have post : ∀ s9, s9 = cwT ls (min (mnT ls 99) (pc q.1)) + (pc q.1 == min (mnT ls 99) (pc q.1)).toNat → (lett (kmin (nI (mnT ls 99)) (nI (pc q.1))) fun (v2_10 : Int32) =>
          lett (kmax (nI (mxT ls)) (nI (pc q.1))) fun (v3_11 : Int32) =>
          lett (nI (smT ls) + nI (pc q.1)) fun (v5_12 : Int32) =>
          fp_X11_family_L35 K 46 v M f v2_10 v3_11 (nI s9) v5_12 (nI i + 1)) = K (nI (mnT l 99)) (nI (mxT l)) (nI (cwT l (mnT l 99))) (nI (smT l)) := by
      intro s9 hs
      rw [lett_eq, lett_eq, lett_eq, n_min (by omega) (by omega), n_max (by omega) (by omega), n_add, inc, hs]
      exact ih
    rw [fp_X11_family_L35, gI_46 hC, Option.bind_some, h.1, go hi (by omega), gR_46_47 hC, Option.bind_some, lI_70 hC (show i < 2187 by omega), Option.bind_some, (h.2 i hi).1, ← hq, y_bits hq21, Option.bind_some, zjn_eq]
    by_cases c1 : mnT ls 99 ≤ pc q.1
    · rw [if_pos (show nI (pc q.1) ≥ nI (mnT ls 99) by rw [ge_iff_le, n_le (by omega) (by omega)]; exact c1)]
      have hmin : min (mnT ls 99) (pc q.1) = mnT ls 99 := by omega
      by_cases c2 : pc q.1 = mnT ls 99
      · rw [if_neg (show ¬ nI (pc q.1) ≠ nI (mnT ls 99) by rw [c2]; exact fun z => z rfl), inc (cwT ls (mnT ls 99))]
        exact post (cwT ls (mnT ls 99) + 1) (by rw [hmin, c2, beq_self_eq_true]; rfl)
      · rw [if_pos (show nI (pc q.1) ≠ nI (mnT ls 99) by rw [ne_eq, n_eq (by omega) (by omega)]; exact c2)]
        have : (pc q.1 == mnT ls 99) = false := by simpa using c2
        exact post (cwT ls (mnT ls 99)) (by rw [hmin, this]; rfl)
    · rw [if_neg (show ¬ nI (pc q.1) ≥ nI (mnT ls 99) by rw [ge_iff_le, n_le (by omega) (by omega)]; exact c1), n_1]
      have hmin : min (mnT ls 99) (pc q.1) = pc q.1 := by omega
      have hz : cwT ls (pc q.1) = 0 := cwT_low fun x hx => by have := mnT_all (a := 99) x hx; omega
      have := post 1 (by rw [hmin, hz, beq_self_eq_true]; rfl)
      rw [n_1] at this
      exact this
theorem y_classS {S : zSt} {M : zM} (v : Int32) (h : IR S M) : ∃ M', fp_X11_laysClass 46 v M = some (nI (Tl (sN S) (sL S)).length, M') ∧ IR S M' ∧ Fc atR M M' ∧ ClH (Tl (sN S) (sL S)) M' ∧ zI M' 46 50 = rchI (Tl (sN S) (sL S)) v ∧ Fz atC M M' := by
  obtain ⟨M', e1, e2, e3, e4⟩ := y_laysClass (v := v) (IR_C h) (IR_N h) (IR_n h).2 (IR_L h)
  exact ⟨M', e1, IR_z h (scC e2), scR_c (scC e2), e3, e4, e2⟩
theorem y_family {S : zSt} {M : zM} (h : IR S M) (v : Int32) : RM (q_family S v) (fp_X11_family 46 v M) M := by
  unfold fp_X11_family q_family
  have hC := IR_C h
  have g2 := (IR_n h).2
  have hok := Tl_okT g2 (IR_L h)
  rw [ts_46 hC, show (3 : Int32) = nI 3 from n_3, y_from0 (by decide), Option.bind_some]
  cases hv : asN v (3 + 1) with
  | none => rw [b_no, if_neg (show ¬ (0 : Int32) ≠ 0 by decide)]; exact y_rf h Fc_refl
  | some w =>
    obtain ⟨rfl, hw, hb⟩ := asN_some hv
    obtain ⟨M', e1, e2, e3, e4, e5, e6⟩ := y_classS (-1) h
    have hmn := mnT_99 g2 (IR_L h)
    rw [b_so, if_pos (show (1 : Int32) ≠ 0 by decide), e1, Option.bind_some, zpp_mk, y_famLoop (IR_C e2) e4 hok, hmn]
    dsimp only
    unfold fmy
    have w4 : w = 0 ∨ w = 1 ∨ w = 2 ∨ w = 3 := by omega
    rcases w4 with rfl | rfl | rfl | rfl
    · rw [if_neg (show ¬ nI 0 ≠ 0 by decide)]; exact y_gv e2 e3
    · rw [if_pos (show nI 1 ≠ 0 by decide), if_neg (show ¬ nI 1 ≠ 1 by decide)]; exact y_gv e2 e3
    · rw [if_pos (show nI 2 ≠ 0 by decide), if_pos (show nI 2 ≠ 1 by decide), if_neg (show ¬ nI 2 ≠ 2 by decide)]; exact y_gv e2 e3
    · rw [if_pos (show nI 3 ≠ 0 by decide), if_pos (show nI 3 ≠ 1 by decide), if_pos (show nI 3 ≠ 2 by decide)]; exact y_gv e2 e3
/-! images -/
theorem y_imageCode {S : zSt} {k : Nat} {q : Nat × Nat} {M : zM} (h : IR S M) (hk : k < 3) (hs : sI S k = some q) : fp_X11_imageCode 46 (nI k) M = some (nI q.2) := by
  unfold fp_X11_imageCode
  have hC := IR_C h
  have him := IR_im h hk
  rw [hs] at him
  have hq := h.1.2.2.2.2.2 k q hs
  have hq1 := hq.1
  rw [ts_46 hC, gR_46_18 hC, Option.bind_some, Option.bind_some, e8, lI_55 hC (show 8 * k < 24 by omega), Option.bind_some, him.2.1, inc, y_codeOf hC hq.1 hq.2 (by decide) rfl (L55 hC) (by decide) (show 8 * k + 1 + q.1 ≤ 24 by omega) (fun p hp => by rw [him.2.2 p (by omega), if_pos hp]), Option.bind_some]
theorem rch_to {l : List (Nat × Nat)} {x : Nat} (hx : x < 2 ^ 31) (ho : okT l) : rchI l (nI x) = match toT l x with | none => -1 | some t => nI t := by
  have e : l.find? (fun q => decide (nI q.1 = nI x)) = l.find? fun q => q.1 == x := by
    have : ∀ l' : List (Nat × Nat), (∀ q ∈ l', q.1 < 2 ^ 21) → l'.find? (fun q => decide (nI q.1 = nI x)) = l'.find? fun q => q.1 == x := by
      intro l'
      induction l' with
      | nil => intro _; rfl
      | cons q l' ih =>
        intro hl
        have hq := hl q List.mem_cons_self
        have ihl := ih fun y hy => hl y (List.mem_cons_of_mem _ hy)
        have eq : (nI q.1 = nI x) = (q.1 = x) := n_eq (by omega) hx
        by_cases c : q.1 = x
        · rw [List.find?_cons_of_pos (by rw [decide_eq_true_iff, eq]; exact c), List.find?_cons_of_pos (by simpa using c)]
        · rw [List.find?_cons_of_neg (by rw [decide_eq_true_iff, eq]; exact c), List.find?_cons_of_neg (by simpa using c), ihl]
    exact this l fun q hq => (ho.2 q hq).1
  unfold rchI toT
  rw [e]
  cases l.find? (fun q => q.1 == x) <;> rfl
theorem y_turns {S : zSt} {M : zM} (h : IR S M) (v : Int32) : RM (q_turns S v) (fp_X11_turns 46 v M) M := by
  unfold fp_X11_turns q_turns
  have hC := IR_C h
  obtain ⟨g1, g2⟩ := IR_n h
  have hok := Tl_okT g2 (IR_L h)
  rw [ts_46 hC, y_wrongImage h, Option.bind_some, zjn_eq]
  cases hi : img S v with
  | inl k =>
    dsimp only
    have hk := img_pos hi
    rw [if_pos (show k ≠ 0 by rcases hk with rfl | rfl <;> decide), if_neg (show ¬ k ≤ 0 by rcases hk with rfl | rfl <;> decide)]
    exact y_rf h Fc_refl
  | inr q =>
    dsimp only
    obtain ⟨k, rfl, hk, hs⟩ := img_at hi
    have him := IR_im h hk
    rw [hs] at him
    have hq := img_ok h.1 hi
    have hq1 := hq.1
    rw [if_neg (show ¬ (0 : Int32) ≠ 0 by decide), gR_46_18 hC, Option.bind_some, e8, lI_55 hC (show 8 * k < 24 by omega), Option.bind_some, gI_46 hC 0, Option.bind_some, him.2.1, g1]
    by_cases c : q.1 = sN S
    · obtain ⟨M', e1, e2, e3, e4, e5, e6⟩ := y_classS (nI q.2) h
      have hC' := IR_C e2
      have hx : q.2 < 2 ^ 31 := lt31 hq.1 hq.2
      rw [if_pos c, if_pos (show nI q.1 = nI (sN S) by rw [c]), if_pos (show (0 : Int32) ≤ 0 by decide), y_imageCode h hk hs, Option.bind_some, e1, Option.bind_some, zpp_mk, gI_46 hC' 50, Option.bind_some, e5, rch_to hx hok]
      cases hd : toT (Tl (sN S) (sL S)) q.2 with
      | none => dsimp only; rw [if_neg (show ¬ (-1 : Int32) ≠ -1 from fun z => z rfl)]; exact y_rf e2 e3
      | some d =>
        have := toT_le hok hd
        dsimp only
        rw [if_pos (show nI d ≠ -1 by rw [ne_eq, n_neg (by omega)]; exact id), Option.bind_some]
        exact y_gv e2 e3
    · rw [if_neg c, if_neg (show ¬ nI q.1 = nI (sN S) by rw [n_eq (by omega) (by omega)]; exact c), if_neg (show ¬ (7 : Int32) ≤ 0 by decide)]
      exact y_rf h Fc_refl
theorem maskM : ∀ m, m < 8 → ((1 : Int32) <<< (((nI m * (nI m - 1)) / 2) &&& 31)) - (1 : Int32) = nI (prs (1 <<< m - 1)) := by decide +kernel
theorem y_within {S : zSt} {M : zM} (h : IR S M) (v : Int32) : RM (q_within S v) (fp_X11_within 46 v M) M := by
  unfold fp_X11_within q_within
  have hC := IR_C h
  obtain ⟨g1, g2⟩ := IR_n h
  have hok := Tl_okT g2 (IR_L h)
  rw [ts_46 hC, y_wrongImage h, Option.bind_some, zjn_eq]
  cases hi : img S v with
  | inl k =>
    dsimp only
    have hk := img_pos hi
    rw [if_pos (show k ≠ 0 by rcases hk with rfl | rfl <;> decide), if_neg (show ¬ k ≤ 0 by rcases hk with rfl | rfl <;> decide)]
    exact y_rf h Fc_refl
  | inr q =>
    dsimp only
    obtain ⟨k, rfl, hk, hs⟩ := img_at hi
    have him := IR_im h hk
    rw [hs] at him
    have hq := img_ok h.1 hi
    have hq1 := hq.1
    rw [if_neg (show ¬ (0 : Int32) ≠ 0 by decide), gR_46_18 hC, Option.bind_some, e8, lI_55 hC (show 8 * k < 24 by omega), Option.bind_some, gI_46 hC 0, Option.bind_some, him.2.1, g1]
    by_cases c : q.1 ≤ sN S
    · obtain ⟨M', e1, e2, e3, e4, e5, e6⟩ := y_classS (-1) h
      have hC' := IR_C e2
      have hx : q.2 < 2 ^ 31 := lt31 hq.1 hq.2
      rw [if_pos c, if_pos (show nI q.1 ≤ nI (sN S) by rw [n_le (by omega) (by omega)]; exact c), if_pos (show (0 : Int32) ≤ 0 by decide), Option.bind_some, lI_55 hC (show 8 * k < 24 by omega), Option.bind_some, him.2.1, lett_eq, maskM _ hq1, e1, Option.bind_some, zpp_mk]
      obtain ⟨ls, hls⟩ : ∃ ls, ls = Tl (sN S) (sL S) := ⟨_, rfl⟩
      obtain ⟨ps, hps⟩ : ∃ ps, ps = prs (1 <<< q.1 - 1) := ⟨_, rfl⟩
      rw [← hls] at hok e4 ⊢
      rw [← hps]
      have hl := hok.1
      have hic := y_imageCode e2 hk hs
      obtain ⟨K, hK⟩ : ∃ K : Int32 → Option (Int32 × zM), K = fun v5_14 =>
              if v5_14 = 0 then (
                (fp_X11_gives 46 0 M').bind fun p17 => zpp p17 fun (y15 : Int32) (M16 : zM) =>
                some (y15, M16))
              else (
                (fp_X11_gives 46 1 M').bind fun p20 => zpp p20 fun (y18 : Int32) (M19 : zM) =>
                some (y18, M19)) := ⟨_, rfl⟩
      rw [← hK]
      have key : fp_X11_within_L74 K 46 (nI k) (nI ps) M' FU 0 0 = K (bI (abT ls ps q.2)) := by
        have st0 : fp_X11_within_L74 K 46 (nI k) (nI ps) M' FU 0 0 = fp_X11_within_L74 K 46 (nI k) (nI ps) M' FU (bI (abT (ls.take 0) ps q.2)) (nI 0) := rfl
        rw [st0]
        refine up (P := fun i f => fp_X11_within_L74 K 46 (nI k) (nI ps) M' f (bI (abT (ls.take i) ps q.2)) (nI i) = K (bI (abT ls ps q.2))) (a := 0) (n := ls.length) ?_ ?_ FU (by omega) (FU_gt (by omega))
        · intro f
          rw [fp_X11_within_L74, gI_46 hC' 49, Option.bind_some, e4.1, stp, List.take_length]
        · intro i f _ hi2 ih
          have hm := getT_mem hi2
          have hlt := (hok.2 _ hm).1
          have hand : (ls.getD i (0, 0)).1 &&& ps ≤ (ls.getD i (0, 0)).1 := Nat.and_le_left
          have es : abT (ls.take (i + 1)) ps q.2 = (abT (ls.take i) ps q.2 || ((ls.getD i (0, 0)).1 &&& ps == q.2)) := by
            unfold abT
            rw [tkT hi2, List.any_append, List.any_cons, List.any_nil, Bool.or_false]
          rw [es] at ih
          rw [fp_X11_within_L74, gI_46 hC' 49, Option.bind_some, e4.1, go hi2 (by omega), zjn_eq, zjn_eq, inc]
          cases hb : abT (ls.take i) ps q.2 with
          | true =>
            rw [hb, Bool.true_or] at ih
            rw [b_tt, if_pos (show (1 : Int32) ≠ 0 by decide)]
            exact ih
          | false =>
            rw [hb, Bool.false_or] at ih
            rw [b_ff, if_neg (show ¬ (0 : Int32) ≠ 0 by decide), gR_46_47 hC', Option.bind_some, lI_70 hC' (show i < 2187 by omega), Option.bind_some, (e4.2 i hi2).1, hic, Option.bind_some, n_and]
            by_cases hq2 : (ls.getD i (0, 0)).1 &&& ps = q.2
            · rw [hq2, beq_self_eq_true] at ih
              rw [if_neg (show ¬ nI ((ls.getD i (0, 0)).1 &&& ps) ≠ nI q.2 by rw [hq2]; exact fun z => z rfl)]
              exact ih
            · have : ((ls.getD i (0, 0)).1 &&& ps == q.2) = false := by simpa using hq2
              rw [this] at ih
              rw [if_pos (show nI ((ls.getD i (0, 0)).1 &&& ps) ≠ nI q.2 by rw [ne_eq, n_eq (by omega) hx]; exact hq2)]
              exact ih
      rw [key, hK]
      dsimp only
      cases abT ls ps q.2 with
      | false => rw [b_ff, if_pos rfl]; exact y_gv e2 e3
      | true => rw [b_tt, if_neg (by decide)]; exact y_gv e2 e3
    · rw [if_neg c, if_neg (show ¬ nI q.1 ≤ nI (sN S) by rw [n_le (by omega) (by omega)]; exact c), if_neg (show ¬ (7 : Int32) ≤ 0 by decide)]
      exact y_rf h Fc_refl

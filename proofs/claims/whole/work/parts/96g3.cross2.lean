/-! ===== 96g3: the reference: the keywords, a row of letters ===== -/
def kst (j : Nat) : Nat := [1, 8, 13, 19, 24, 30].getD j 30
def kln (j : Nat) : Nat := (kws.getD j []).length
theorem kyd : ∀ j, j < 5 → (∀ i, i < kln j → zsc 5 (nI (kst j + i)) = some (nI ((kws.getD j []).getD i 0)) ∧ (kws.getD j []).getD i 0 ≠ 32 ∧ (kws.getD j []).getD i 0 < 200) ∧ zsc 5 (nI (kst j + kln j)) = some (nI 32) ∧ kst j + kln j + 1 = kst (j + 1) ∧ 0 < kln j ∧ kln j < 10 ∧ kst j < 30 := by decide +kernel
theorem zsl5 : zsl 5 = some (nI 30) := by decide
def mtc (T : List Nat) (s j i : Nat) : Bool := (T.drop s).take i == (kws.getD j []).take i
theorem getD_dr {T : List Nat} {s i : Nat} : (T.drop s).getD i 0 = T.getD (s + i) 0 := by simp [List.getD, List.getElem?_drop]
theorem y_keyAt {T : List Nat} {s e f j : Nat} {M : zM} (h : TxR T M) (hT : ∀ x ∈ T, x < 256) (hs : zI M 46 8 = nI s) (he : zI M 46 9 = nI e) (hse : s ≤ e) (hel : e ≤ T.length) (hj : j < 5) :
    fp_X11_key_L14 46 M (f + 1) (nI j) (nI (kst j)) = if isK T s e j = true then some (nI j) else fp_X11_key_L14 46 M f (nI (j + 1)) (nI (kst (j + 1))) := by
  obtain ⟨k1, k2, k3, k4, k5, k6⟩ := kyd j hj
  have hC := h.1
  have h200 := h.2.2.1
  have l25 : ∀ K : Int32 → Option Int32, fp_X11_key_L25 K 46 (nI j) (nI (kst j)) M FU (nI (kst j)) = K (nI (kst j + kln j)) := by
    intro K
    refine up (P := fun i f => fp_X11_key_L25 K 46 (nI j) (nI (kst j)) M f (nI (kst j + i)) = K (nI (kst j + kln j))) (a := 0) (n := kln j) ?_ ?_ FU (by omega) (FU_gt (by omega))
    · intro f
      rw [fp_X11_key_L25, k2, Option.bind_some, if_pos (show nI 32 = 32 by decide)]
    · intro i f _ hi ih
      obtain ⟨q1, q2, q3⟩ := k1 i hi
      rw [fp_X11_key_L25, q1, Option.bind_some, if_neg (show ¬ nI ((kws.getD j []).getD i 0) = 32 by rw [show (32 : Int32) = nI 32 from by decide, n_eq (by omega) (by omega)]; exact q2), inc]
      exact ih
  have hlen : ((T.drop s).take (e - s)).length = e - s := by simp; omega
  have l67 : ∀ K : Int32 → Option Int32, e - s = kln j → fp_X11_key_L67 K 46 (nI j) (nI (kst j)) (nI (kst j + kln j)) M FU 1 0 = K (bI (isK T s e j)) := by
    intro K hl
    have hd : nI (kst j + kln j) - nI (kst j) = nI (kln j) := by rw [n_sub (by omega)]; congr 1; omega
    refine up (P := fun i f => ∀ b : Bool, b = mtc T s j i → fp_X11_key_L67 K 46 (nI j) (nI (kst j)) (nI (kst j + kln j)) M f (bI b) (nI i) = K (bI (isK T s e j))) (a := 0) (n := kln j) ?_ ?_ FU (by omega) (FU_gt (by omega)) true (by unfold mtc; rw [List.take_zero, List.take_zero]; rfl)
    · intro f b hb
      rw [fp_X11_key_L67, hd, stp, hb]
      unfold mtc isK kln
      have hl' : e - s = (kws.getD j []).length := hl
      rw [List.take_length, hl']
    · intro i f _ hi ih b hb
      obtain ⟨q1, q2, q3⟩ := k1 i hi
      rw [fp_X11_key_L67, hd, go hi (by omega)]
      cases b with
      | false =>
        have hf : isK T s e j = false := by
          unfold isK
          rw [beq_eq_false_iff_ne]
          intro z
          have h2 : mtc T s j i = true := by
            unfold mtc
            rw [← z, List.take_take, Nat.min_eq_left (by omega), beq_self_eq_true]
          rw [h2] at hb
          cases hb
        rw [b_ff, if_pos rfl, hf]; rfl
      | true =>
        have hei : (T.drop s).take i = (kws.getD j []).take i := by
          unfold mtc at hb
          exact eq_of_beq hb.symm
        have ht := hT _ (getD_mem (show s + i < T.length by omega))
        have hnx : mtc T s j (i + 1) = ((kws.getD j []).getD i 0 == T.getD (s + i) 0) := by
          unfold mtc
          rw [tk (show i < (T.drop s).length by rw [List.length_drop]; omega), tk (show i < (kws.getD j []).length from hi), hei, getD_dr]
          by_cases c : (kws.getD j []).getD i 0 = T.getD (s + i) 0
          · rw [c, beq_self_eq_true, beq_self_eq_true]
          · have h1 : ((kws.getD j []).getD i 0 == T.getD (s + i) 0) = false := by simpa using c
            rw [h1, beq_eq_false_iff_ne]
            intro z
            have := List.append_cancel_left z
            exact c (List.cons.inj this).1.symm
        rw [b_tt, if_neg (show ¬ (1 : Int32) = 0 by decide), n_add, q1, Option.bind_some, gI_46 hC 8, Option.bind_some, hs, n_add, y_byteAt h hT (by omega), Option.bind_some, if_pos (show s + i < T.length by omega), zjn_eq, inc]
        by_cases c : (kws.getD j []).getD i 0 = T.getD (s + i) 0
        · rw [if_neg (show ¬ nI ((kws.getD j []).getD i 0) ≠ nI (T.getD (s + i) 0) by rw [c]; exact fun z => z rfl)]
          exact ih true (by rw [hnx, c, beq_self_eq_true])
        · rw [if_pos (show nI ((kws.getD j []).getD i 0) ≠ nI (T.getD (s + i) 0) by rw [ne_eq, n_eq (by omega) (by omega)]; exact c)]
          exact ih false (by rw [hnx]; symm; simpa using c)
  rw [fp_X11_key_L14, zsl5, Option.bind_some, go k6 (by decide), l25, gI_46 hC 9, Option.bind_some, gI_46 hC 8, Option.bind_some, he, hs, n_sub hse, zjn_eq]
  have hd : nI (kst j + kln j) - nI (kst j) = nI (kln j) := by rw [n_sub (by omega)]; congr 1; omega
  rw [hd, inc, lett_eq, inc, k3]
  by_cases c : kln j = e - s
  · rw [if_neg (show ¬ nI (kln j) ≠ nI (e - s) by rw [c]; exact fun z => z rfl)]
    dsimp only
    rw [l67 _ c.symm]
    cases isK T s e j with
    | true => rw [b_tt, if_neg (show ¬ (1 : Int32) = 0 by decide), if_pos rfl]
    | false => rw [b_ff, if_pos rfl, if_neg (by decide)]
  · have hf : isK T s e j = false := by
      unfold isK
      rw [beq_eq_false_iff_ne]
      intro z
      have := congrArg List.length z
      rw [hlen] at this
      exact c this.symm
    rw [if_pos (show nI (kln j) ≠ nI (e - s) by rw [ne_eq, n_eq (by omega) (by omega)]; exact c)]
    dsimp only
    rw [show FU = 999999999 + 1 from rfl, fp_X11_key_L67, hd, n_0, go k4 (by omega), if_pos rfl, if_pos rfl, hf, if_neg (by decide)]
def kyv (T : List Nat) (s e : Nat) : Int32 := if isK T s e 0 = true then nI 0 else if isK T s e 1 = true then nI 1 else if isK T s e 2 = true then nI 2 else if isK T s e 3 = true then nI 3 else if isK T s e 4 = true then nI 4 else -1
theorem y_key {T : List Nat} {n L e : Nat} {M : zM} (h : PaH T n L e M) (hT : ∀ x ∈ T, x < 256) (he : e ≤ T.length) : fp_X11_key 46 M = some (if (tokS T e).1 = 1 then kyv T (tokS T e).2.1 (tokS T e).2.2 else -1) := by
  unfold fp_X11_key
  have hC := h.1.1
  have hk := y_kd (k := 1) h he (by decide)
  have h2 : (2 : Int32) = nI (rkd 1) := by decide
  obtain ⟨b1, b2, b3, b4, b5⟩ := tok_le he
  rw [ts_46 hC, gI_46 hC 7, Option.bind_some]
  by_cases c : (tokS T e).1 = 1
  · have at' := fun j (hj : j < 5) f => y_keyAt (f := f) h.1 hT h.2.2.1.2.1 (h.2.2.1.2.2 (by omega)) b2 b3 hj
    rw [if_pos c, if_pos (show zI M 46 7 = 2 by rw [h2, hk]; exact c), show FU = 999999994 + 1 + 1 + 1 + 1 + 1 + 1 from rfl]
    have e0 : fp_X11_key_L14 46 M (999999994 + 1 + 1 + 1 + 1 + 1 + 1) 0 1 = fp_X11_key_L14 46 M (999999994 + 1 + 1 + 1 + 1 + 1 + 1) (nI 0) (nI (kst 0)) := rfl
    have e5 : fp_X11_key_L14 46 M (999999994 + 1) (nI (4 + 1)) (nI (kst (4 + 1))) = some (-1) := by
      rw [fp_X11_key_L14, zsl5, Option.bind_some, if_pos (by decide)]
    rw [e0, at' 0 (by decide), at' 1 (by decide), at' 2 (by decide), at' 3 (by decide), at' 4 (by decide), e5]
    unfold kyv
    split
    · rfl
    · split
      · rfl
      · split
        · rfl
        · split
          · rfl
          · split <;> rfl
  · rw [if_neg c, if_neg (show ¬ zI M 46 7 = 2 by rw [h2, hk]; exact c)]
/-! a row of letters -/
theorem wdS_map (T : List Nat) (s e : Nat) : wdS T s e = ((T.drop s).take (e - s)).map (· - 97) := rfl
theorem cnt_wd {w : List Nat} {x : Nat} (h : ∀ t ∈ w, 97 ≤ t) : (w.map (· - 97)).count x = w.count (x + 97) := by
  induction w with
  | nil => rfl
  | cons a w ih =>
    have ha := h a List.mem_cons_self
    rw [List.map_cons, List.count_cons, List.count_cons, ih fun t ht => h t (List.mem_cons_of_mem _ ht)]
    congr 1
    by_cases c : a = x + 97
    · rw [if_pos (by simp; omega), if_pos (by simpa using c)]
    · rw [if_neg (by simp; omega), if_neg (by simpa using c)]
theorem crs_wd {w : List Nat} {p q : Nat} (h : ∀ t ∈ w, 97 ≤ t) : crs p q (w.map (· - 97)) = crs (p + 97) (q + 97) w := by
  unfold crs
  congr 1
  induction w with
  | nil => rfl
  | cons a w ih =>
    have ha := h a List.mem_cons_self
    rw [List.map_cons, sig_cons, sig_cons, ih fun t ht => h t (List.mem_cons_of_mem _ ht)]
    by_cases c1 : a = p + 97
    · rw [if_pos (by omega), if_pos c1]
    · rw [if_neg (by omega), if_neg c1]
      by_cases c2 : a = q + 97
      · rw [if_pos (by omega), if_pos c2]
      · rw [if_neg (by omega), if_neg c2]
def jad (n L : Nat) (w : List Nat) (a b : Nat) : Bool := if n ≤ b then crs (a - n) (b - n) w else if n ≤ a then false else adj L a b
theorem jnN_adj {n L u : Nat} {w : List Nat} (hnu : n + u < 8) {a b : Nat} (ha : a < n + u) (hb : b < a) : adj (jnN n L u (wnet u w)) a b = jad n L w a b := by
  unfold jnN
  rw [mk_adj (by omega) _ ha hb]
  unfold jad
  by_cases c : n ≤ b
  · rw [if_pos c, if_pos c]
    exact (wnet_Pat (show u < 8 by omega) (a - n) (by omega) (b - n) (by omega)).symm
  · rw [if_neg c, if_neg c]
theorem jnN_0 {n L : Nat} {w : List Nat} (hn : n < 8) (hL : L < 2 ^ tri n) : jnN n L 0 (wnet 0 w) = L := by
  refine net_ext' hn (jnN_lt n L 0 _) hL fun a ha b hb => ?_
  rw [jnN_adj (by omega) (by omega) hb]
  unfold jad
  rw [if_neg (by omega), if_neg (by omega)]
theorem y_rowIn {n L s : Nat} {w : List Nat} {M : zM} (u : Nat) (hC : zC M) (hnu : n + u < 8) (hN : NrH n L M) (hL : L < 2 ^ tri n) (hK : CtH s w M) (hs : s + w.length < 2 ^ 31) (hw : ∀ t ∈ w, 97 ≤ t) (hc : ∀ x, x < u → w.count (x + 97) = 2) :
    ∃ M', fp_X11_aCross_L163 46 (nI u) (nI n) FU 0 M = ((fp_X11_ahead 46 M').bind fun (M23 : zM) => some (1, M23)) ∧ NrH (n + u) (jnN n L u (wnet u (w.map (· - 97)))) M' ∧ Fz atN M M' := by
  have hm := fun p q => crs_wd (w := w) (p := p) (q := q) hw
  obtain ⟨W, hW⟩ : ∃ W, W = w.map (· - 97) := ⟨_, rfl⟩
  rw [← hW]
  simp only [← hW] at hm
  rw [n_0]
  refine up (P := fun x f => ∀ M1, Fz atN M M1 → NrH (n + x) (jnN n L x (wnet x W)) M1 → ∃ M', fp_X11_aCross_L163 46 (nI u) (nI n) f (nI x) M1 = ((fp_X11_ahead 46 M').bind fun (M23 : zM) => some (1, M23)) ∧ NrH (n + u) (jnN n L u (wnet u W)) M' ∧ Fz atN M M') (a := 0) (n := u) ?_ ?_ FU (by omega) (FU_gt (by omega)) M Fz_refl (by rw [jnN_0 (by omega) hL]; exact hN)
  · intro f M1 h1 h2
    exact ⟨M1, by rw [fp_X11_aCross_L163, stp], h2, h1⟩
  · intro x f _ hx ih M1 h1 h2
    have hC1 := Fz_C h1 hC
    have hJ := jnN_lt n L x (wnet x W)
    obtain ⟨M2, c1, c2, c3⟩ := y_comes (s := 0) hC1 h2 (by omega) hJ (Nat.two_pow_pos _)
    rw [Nat.zero_shiftLeft, Nat.or_zero] at c2
    rw [← n_0] at c1
    have hlt2 : jnN n L x (wnet x W) < 2 ^ tri (n + x + 1) := Nat.lt_of_lt_of_le hJ (Nat.pow_le_pow_right (by decide) (tri_le' (by omega)))
    have inner : ∀ K : zM → Option (Int32 × zM), ∃ M3, fp_X11_aCross_L177 K 46 (nI u) (nI n) (nI x) FU 0 M2 = K M3 ∧ NrH (n + x + 1) (jnN n L (x + 1) (wnet (x + 1) W)) M3 ∧ Fz atN M M3 := by
      intro K
      rw [n_0]
      refine up (P := fun k f => ∀ M2 L', Fz atN M M2 → NrH (n + x + 1) L' M2 → L' < 2 ^ tri (n + x + 1) → (∀ a, a < n + x + 1 → ∀ b, b < a → adj L' a b = if a < n + x then jad n L W a b else decide (b < n + k) && jad n L W a b) → ∃ M3, fp_X11_aCross_L177 K 46 (nI u) (nI n) (nI x) f (nI k) M2 = K M3 ∧ NrH (n + x + 1) (jnN n L (x + 1) (wnet (x + 1) W)) M3 ∧ Fz atN M M3) (a := 0) (n := x) ?_ ?_ FU (by omega) (FU_gt (by omega)) M2 (jnN n L x (wnet x W)) (Fz_trans h1 c3) c2 hlt2 ?_
      · intro f M2 L' g1 g2 g3 g4
        refine ⟨M2, by rw [fp_X11_aCross_L177, stp], ?_, g1⟩
        have : jnN n L (x + 1) (wnet (x + 1) W) = L' := net_ext' (n := n + x + 1) (by omega) (jnN_lt n L (x + 1) _) g3 fun a ha b hb => by
          rw [jnN_adj (by omega) (by omega) hb, g4 a ha b hb]
          by_cases c : a < n + x
          · rw [if_pos c]
          · rw [if_neg c, decide_eq_true (by omega), Bool.true_and]
        rw [this]; exact g2
      · intro k f _ hk ihk M2 L' g1 g2 g3 g4
        have hC2 := Fz_C g1 hC
        have hK2 : CtH s w M2 := fun z hz => by
          have := hK z hz
          rw [g1.2 50 _ (by omega), g1.2 51 _ (by omega), g1.2 52 _ (by omega)]
          exact this
        have hcr := CtH_cr hC2 hK2 (x := x) (y := k) (by omega) (by omega) (by omega) hs (hc x hx) (hc k (by omega))
        have hjv : jad n L W (n + x) (n + k) = crs (x + 97) (k + 97) w := by
          unfold jad
          rw [if_pos (by omega), show n + x - n = x by omega, show n + k - n = k by omega, hm]
        rw [fp_X11_aCross_L177, go hk (by omega), hcr, Option.bind_some, zjn_eq, inc, n_add, n_add, ← hjv]
        have stay : ∀ L'', ∀ b : Bool, b = jad n L W (n + x) (n + k) → (L'' = if b then flp L' (n + x) (n + k) else L') → ∀ a, a < n + x + 1 → ∀ b, b < a → adj L'' a b = if a < n + x then jad n L W a b else decide (b < n + (k + 1)) && jad n L W a b := by
          intro L'' bb hbb hL'' a ha b hb
          have g := g4 a ha b hb
          have hf : adj L'' a b = (adj L' a b != (bb && ((a == n + x && b == n + k) || (a == n + k && b == n + x)))) := by
            rw [hL'']
            cases bb with
            | true => rw [if_pos rfl, adj_flp (by omega) (by omega) (by omega) (by omega) (by omega), Bool.true_and]
            | false => rw [if_neg (by decide), Bool.false_and, Bool.bne_false]
          rw [hf, g]
          by_cases c : a < n + x
          · have e1 : (a == n + x) = false := by simp; omega
            have e2 : (b == n + x) = false := by simp; omega
            rw [if_pos c, if_pos c, e1, e2, Bool.false_and, Bool.and_false, Bool.or_false, Bool.and_false, Bool.bne_false]
          · have hap : a = n + x := by omega
            subst hap
            have e3 : (n + x == n + k) = false := by simp; omega
            rw [if_neg c, if_neg c, beq_self_eq_true, Bool.true_and, e3, Bool.false_and, Bool.or_false]
            by_cases cb : b = n + k
            · rw [cb, decide_eq_false (Nat.lt_irrefl (n + k)), beq_self_eq_true, Bool.and_true, Bool.false_and, decide_eq_true (show n + k < n + (k + 1) by omega), Bool.true_and, hbb]
              cases jad n L W (n + x) (n + k) <;> rfl
            · have e4 : (b == n + k) = false := by simpa using cb
              rw [e4, Bool.and_false, Bool.bne_false]
              congr 1
              exact decide_eq_decide.mpr (by omega)
        cases hb : jad n L W (n + x) (n + k) with
        | true =>
          obtain ⟨M3, d1, d2, d3⟩ := y_flips hC2 g2 (show n + x + 1 < 8 by omega) (show n + x < n + x + 1 by omega) (show n + k < n + x + 1 by omega) (by omega)
          rw [b_tt, if_neg (show ¬ (1 : Int32) = 0 by decide), d1, Option.bind_some]
          exact ihk M3 _ (Fz_trans g1 (at47_N d3)) d2 (flp_lt (by omega) g3 (by omega) (by omega) (by omega)) (stay _ true hb.symm (by rw [if_pos rfl]))
        | false =>
          rw [b_ff, if_pos rfl]
          exact ihk M2 _ g1 g2 g3 (stay _ false hb.symm (by rw [if_neg (by decide)]))
      · intro a ha b hb
        by_cases c : a < n + x
        · rw [if_pos c, jnN_adj (by omega) c hb]
        · have hap : a = n + x := by omega
          subst hap
          rw [if_neg c, adj_new hJ hb, Nat.add_zero]
          unfold jad
          by_cases cb : b < n
          · rw [if_neg (by omega), if_pos (by omega), Bool.and_false]
          · rw [decide_eq_false cb, Bool.false_and]
    obtain ⟨M3, d1, d2, d3⟩ := inner (fun M28 => fp_X11_aCross_L163 46 (nI u) (nI n) f (nI x + 1) M28)
    obtain ⟨M', f1, f2, f3⟩ := ih M3 d3 d2
    refine ⟨M', ?_, f2, f3⟩
    rw [fp_X11_aCross_L163, go hx (by omega), c1, Option.bind_some, d1, inc]
    exact f1

/-! ===== 87: the reference: all pieces laid; no knot without a tie; what is asked of pieces ===== -/
theorem row_ne {n L p : Nat} : row n L p ≠ 0 ↔ ∃ i, i < n ∧ adj L p i = true := by
  constructor
  · intro h
    apply Classical.byContradiction
    intro hn
    apply h
    apply Nat.eq_of_testBit_eq
    intro i
    rw [row_tb, Nat.zero_testBit]
    by_cases hi : i < n
    · cases ha : adj L p i with
      | true => exact absurd ⟨i, hi, ha⟩ hn
      | false => rw [Bool.and_false]
    · rw [decide_eq_false hi, Bool.false_and]
  · rintro ⟨i, hi, ha⟩ h
    have := row_tb n L p i
    rw [h, decide_eq_true hi, ha, Nat.zero_testBit] at this
    cases this
def tdP (q : Pc) : Prop := q.1.length < 2 ∨ ∀ j, j < q.1.length → row q.1.length q.2 j ≠ 0
theorem cnt_ix {f : Nat → Bool} {n i : Nat} (hi : i < n) (h : f i = true) : cnt f i < cnt f n := by
  have h1 : cnt f (i + 1) = cnt f i + 1 := by rw [cnt, h]; rfl
  have := cnt_pref f (show i + 1 ≤ n by omega)
  omega
theorem jt_tie {n L p j : Nat} (hn : n < 8) (hL : L < 2 ^ tri n) (hp : p < n) (h2 : 2 ≤ cnt (jt n L p).testBit n) (hj : j < cnt (jt n L p).testBit n) : row (cnt (jt n L p).testBit n) (part n L (jt n L p)) j ≠ 0 := by
  obtain ⟨a1, a2, a3⟩ := sel_in hj
  obtain ⟨a, ha⟩ : ∃ a, a = sel (jt n L p).testBit n j := ⟨_, rfl⟩
  rw [← ha] at a1 a2 a3
  have J := jt_Jt hn hL hp
  have hex : ∃ i, i < n ∧ adj L a i = true := by
    apply Classical.byContradiction
    intro hno
    have Ja := jt_Jt hn hL a1
    have hcl : clo n L (1 <<< a) := fun x y _ hy hx hxy => by
      rw [tb_set, decide_eq_true_iff] at hx
      rw [hx] at hxy
      exact absurd ⟨y, hy, hxy⟩ hno
    have only : ∀ q, q < n → (jt n L a).testBit q = true → q = a := fun q hq h => by
      have := Ja.2.2.2 (1 <<< a) hcl (by rw [tb_set]; exact decide_eq_true rfl) q hq h
      rw [tb_set, decide_eq_true_iff] at this; exact this
    have hpa := only p hp (jt_sym hn hL hp a1 a2)
    have e : jt n L p = jt n L a := by rw [hpa]
    obtain ⟨b1, b2, -⟩ := sel_in (f := (jt n L p).testBit) (n := n) (i := 0) (by omega)
    obtain ⟨c1, c2, -⟩ := sel_in (f := (jt n L p).testBit) (n := n) (i := 1) (by omega)
    have hm := sel_mono (f := (jt n L p).testBit) (n := n) (show 0 < 1 by decide) (by omega)
    rw [e] at b1 b2 c1 c2 hm
    have x1 := only _ b1 b2
    have x2 := only _ c1 c2
    omega
  obtain ⟨i, hi, hai⟩ := hex
  have hib := J.2.2.1 a i a1 hi a2 hai
  exact row_ne.mpr ⟨cnt (jt n L p).testBit i, cnt_ix hi hib, by rw [part_adj hn hj (cnt_ix hi hib), sel_at hi hib, ← ha]; exact hai⟩
theorem gns_pos {q : Nat → Bool} {v : Nat → Nat} {n : Nat} (h : 0 < (gns q v n).length) : ∃ p, p < n ∧ q p = true ∧ v p ≠ 0 := by
  induction n with
  | zero => exact absurd h (Nat.lt_irrefl _)
  | succ n ih =>
    rw [gns] at h
    by_cases hc : (q n && !Sp (gns q v n) (v n)) = true
    · rw [Bool.and_eq_true] at hc
      refine ⟨n, Nat.lt_succ_self _, hc.1, fun z => ?_⟩
      rw [z, Sp_0] at hc
      exact absurd hc.2 (by decide)
    · rw [if_neg hc] at h
      obtain ⟨p, h1, h2⟩ := ih h
      exact ⟨p, by omega, h2⟩
/-- a line from one side to the other -/
def xln (m T s : Nat) : Prop := ∃ a i, a < m ∧ i < m ∧ s.testBit a = true ∧ s.testBit i = false ∧ adj T a i = true
theorem rk_xln {m T s : Nat} (h : rk m T s = 1) : xln m T s := by
  unfold rk at h
  obtain ⟨p, h1, h2, h3⟩ := gns_pos (show 0 < (gns s.testBit (fun p => outs (row m T p) s) m).length by omega)
  have : ∃ i, (outs (row m T p) s).testBit i = true := by
    apply Classical.byContradiction
    intro hn
    apply h3
    apply Nat.eq_of_testBit_eq
    intro i
    cases hb : (outs (row m T p) s).testBit i with
    | true => exact absurd ⟨i, hb⟩ hn
    | false => rw [Nat.zero_testBit]
  obtain ⟨i, hi⟩ := this
  rw [outs_tb, row_tb, Bool.and_eq_true, Bool.and_eq_true, decide_eq_true_iff] at hi
  exact ⟨p, i, h1, hi.1.1, h2, by simpa using hi.2, hi.1.2⟩
theorem xln_other {m T s : Nat} (h : xln m T s) : xln m T ((1 <<< m - 1) ^^^ s) := by
  obtain ⟨a, i, h1, h2, h3, h4, h5⟩ := h
  exact ⟨i, a, h2, h1, by rw [Nat.testBit_xor, all_tb, decide_eq_true h2, h4]; rfl, by rw [Nat.testBit_xor, all_tb, decide_eq_true h1, h3]; rfl, by rw [adj_comm]; exact h5⟩
theorem outs_ne {x s i : Nat} (h1 : x.testBit i = true) (h2 : s.testBit i = false) : outs x s ≠ 0 := fun z => by
  have := outs_tb x s i
  rw [z, h1, h2, Nat.zero_testBit] at this
  cases this
theorem cut_td {q : Pc} {s mark : Nat} (hc : cnt s.testBit q.1.length < 7) (hx : xln q.1.length q.2 s) (ht : ∀ j, j < q.1.length → row q.1.length q.2 j ≠ 0) : tdP (cutP q s mark) := by
  right
  intro j hj
  rw [cutP_len] at hj ⊢
  show row _ (cutT q.1.length q.2 s) j ≠ 0
  obtain ⟨m, hm⟩ : ∃ m, m = q.1.length := ⟨_, rfl⟩
  rw [← hm] at hj hc hx ht ⊢
  by_cases hjc : j < cnt s.testBit m
  · obtain ⟨a1, a2, a3⟩ := sel_in hjc
    obtain ⟨i, hi, hai⟩ := row_ne.mp (ht _ a1)
    cases hsi : s.testBit i with
    | true => exact row_ne.mpr ⟨cnt s.testBit i, by have := cnt_ix hi hsi; omega, by rw [adj_cut hc hjc (cnt_ix hi hsi), sel_at hi hsi]; exact hai⟩
    | false =>
      have hne : outs (row m q.2 (sel s.testBit m j)) s ≠ 0 := outs_ne (i := i) (by rw [row_tb, decide_eq_true hi, hai]; rfl) hsi
      exact row_ne.mpr ⟨cnt s.testBit m, by omega, by rw [adj_comm, adj_cutm hc hjc]; simpa using hne⟩
  · have hj2 : j = cnt s.testBit m := by omega
    obtain ⟨a, i, h1, h2, h3, h4, h5⟩ := hx
    have hne : outs (row m q.2 a) s ≠ 0 := outs_ne (i := i) (by rw [row_tb, decide_eq_true h2, h5]; rfl) h4
    rw [hj2]
    exact row_ne.mpr ⟨cnt s.testBit a, by have := cnt_ix h1 h3; omega, by rw [adj_cutm hc (cnt_ix h1 h3), sel_at h1 h3]; simpa using hne⟩
def tdPs (ps : List Pc) : Prop := ∀ q ∈ ps, tdP q
theorem takeP_td {ps ps' : List Pc} {mark : Nat} (hok : okPs ps) (h : tdPs ps) (ht : takeP ps mark = some ps') : tdPs ps' := by
  unfold takeP at ht
  simp only [Option.map_eq_some_iff] at ht
  obtain ⟨⟨i, s⟩, h1, rfl⟩ := ht
  obtain ⟨a1, a2, a3⟩ := fstSp_some h1
  obtain ⟨s1, s2, s3⟩ := head_sp a2
  have hqm : ps.getD i q0 ∈ ps := by simp [List.getD, a1]
  have hok1 := (hok.1 _ hqm).1
  have htd := h _ hqm
  dsimp only
  obtain ⟨q, hq⟩ : ∃ q, q = ps.getD i q0 := ⟨_, rfl⟩
  rw [← hq] at s1 s2 hok1 htd ⊢
  obtain ⟨d1, d2, d3⟩ := isSp_cnt hok1.1 s1 s2
  have hcc := cnt_compl (n := q.1.length) (s := s)
  have hall : ∀ j, j < q.1.length → row q.1.length q.2 j ≠ 0 := by
    rcases htd with z | z
    · omega
    · exact z
  have hl := hok1.1
  have hx := rk_xln d3
  intro x hx'
  rw [List.mem_append, List.mem_singleton] at hx'
  rcases hx' with hx' | rfl
  · rcases List.mem_or_eq_of_mem_set hx' with hx' | rfl
    · exact h x hx'
    · exact cut_td (by omega) hx hall
  · exact cut_td (by omega) (xln_other hx) hall
theorem itP_td {k m : Nat} {ps : List Pc} (hok : okPs ps) (h : tdPs ps) : tdPs (itP k ps m) := by
  induction k generalizing ps m with
  | zero => exact h
  | succ k ih =>
    rw [itP]
    cases ht : takeP ps (10 + m) with
    | none => exact h
    | some ps' => exact ih (takeP_ok hok ht).1 (takeP_td hok h ht)
theorem comps_td {n L : Nat} (hn : n < 8) (hL : L < 2 ^ tri n) : ∀ m, m ≤ n → tdPs (compsN n L m) := by
  intro m
  induction m with
  | zero => intro _ q hq; cases hq
  | succ p ih =>
    intro hm q hq
    rw [compsN, List.mem_append] at hq
    rcases hq with hq | hq
    · exact ih (by omega) q hq
    · split at hq
      · rw [List.mem_singleton] at hq
        subst hq
        by_cases h2 : 2 ≤ cnt (jt n L p).testBit n
        · right
          intro j hj
          dsimp only at hj ⊢
          rw [elsL_len] at hj ⊢
          exact jt_tie hn hL (by omega) h2 hj
        · left
          dsimp only
          rw [elsL_len]; omega
      · cases hq
theorem pcs_td {n L : Nat} (hn : n < 8) (hL : L < 2 ^ tri n) : tdPs (pcs n L) := itP_td (comps_ok hn hL n (Nat.le_refl _)) (comps_td hn hL n (Nat.le_refl _))
theorem td3 {q : Pc} (hok : okP q) (h : tdP q) (h3 : q.1.length = 3) : pc q.2 = 2 ∨ pc q.2 = 3 := by
  have hall : ∀ j, j < 3 → row 3 q.2 j ≠ 0 := by
    rcases h with z | z
    · omega
    · rw [h3] at z; exact z
  have hlt : q.2 < 2 ^ tri 3 := by have := hok.2; rw [h3] at this; exact this
  have hp : pc q.2 = cnt q.2.testBit (tri 3) := pc_of hlt (by decide)
  have hle := cnt_le q.2.testBit (tri 3)
  have ht : tri 3 = 3 := rfl
  have hs := deg_sum q.2 3
  have c1 : ∀ j, j < 3 → 1 ≤ cnt (adj q.2 j) 3 := fun j hj => by
    obtain ⟨i, hi, ha⟩ := row_ne.mp (hall j hj)
    have := cnt_ix hi ha
    omega
  have e0 := c1 0 (by decide)
  have e1 := c1 1 (by decide)
  have e2 := c1 2 (by decide)
  simp only [smN] at hs
  omega
/-! laid -/
theorem y_takeLoop : ∀ d j f ps M1, 8 ≤ ps.length + d → d + 1 < f → okPs ps → zC M1 → RpsH ps j M1 → j + d ≤ 90 → ∃ M' mk', fp_X11_laysPieces_L102 46 f 1 M1 = some M' ∧ Fz atQ M1 M' ∧ RpsH (itP d ps j) mk' M' := by
  intro d
  induction d with
  | zero =>
    intro j f ps M1 h1 h2 h3
    have := okPs_len h3
    omega
  | succ d ih =>
    intro j f ps M1 h1 h2 h3 h4 h5 h6
    obtain ⟨f, rfl⟩ : ∃ g, f = g + 2 := ⟨f - 2, by omega⟩
    obtain ⟨M2, a1, a2, a3, a4⟩ := y_takesApart (okPs_len h3) h3 h4 h5 (by omega)
    rw [fp_X11_laysPieces_L102, if_neg (by decide), a1, Option.bind_some, itP]
    unfold zpp
    dsimp only
    cases ht : takeP ps (10 + j) with
    | none =>
      refine ⟨M2, j, ?_, a2, a3 ht⟩
      rw [fp_X11_laysPieces_L102, Option.isSome_none, ifF]
    | some ps' =>
      obtain ⟨o1, o2⟩ := takeP_ok h3 ht
      obtain ⟨M', mk', b1, b2, b3⟩ := ih (j + 1) (f + 1) ps' M2 (by omega) (by omega) o1 (Fz_C a2 h4) (a4 ps' ht) (by omega)
      exact ⟨M', mk', b1, Fz_trans a2 b2, b3⟩
theorem y_oldRows {n L p : Nat} {M : zM} (K : zM → Option zM) (hC : zC M) (h : NrH n L M) (hn : n < 8) : ∃ M4, Fz (fun a _ => a = 61 ∨ a = 62) M M4 ∧ (∀ k, k < n → zI M4 61 k = nI k ∧ zI M4 62 k = nI (row n L k)) ∧ fp_X11_laysPieces_L37 K 46 (nI p) FU 0 M = K M4 := by
  rw [n_0]
  refine up (P := fun k f => ∀ M3, Fz (fun a _ => a = 61 ∨ a = 62) M M3 → (∀ j, j < k → zI M3 61 j = nI j ∧ zI M3 62 j = nI (row n L j)) → ∃ M4, Fz (fun a _ => a = 61 ∨ a = 62) M M4 ∧ (∀ k, k < n → zI M4 61 k = nI k ∧ zI M4 62 k = nI (row n L k)) ∧ fp_X11_laysPieces_L37 K 46 (nI p) f (nI k) M3 = K M4) (a := 0) (n := n) ?_ ?_ FU (by omega) (FU_gt (by omega)) M Fz_refl (fun j hj => absurd hj (Nat.not_lt_zero _))
  · intro f M3 f1 f2
    have hC3 := Fz_C f1 hC
    exact ⟨M3, f1, f2, by rw [fp_X11_laysPieces_L37, gI_46 hC3, Option.bind_some, f1.2 46 0 (by omega), h.1, stp]⟩
  · intro k f _ hk ih M3 f1 f2
    have hC3 := Fz_C f1 hC
    have hC4 : zC (zsI M3 61 k (nI k)) := hC3
    rw [fp_X11_laysPieces_L37, gI_46 hC3, Option.bind_some, f1.2 46 0 (by omega), h.1, go hk (by omega), gR_46_26 hC3, Option.bind_some, tI_61 hC3 (show k < 8 by omega), Option.bind_some, gR_46_27 hC4, Option.bind_some, gR_46_2 hC4, Option.bind_some, lI_47 hC4 (show k < 8 by omega), Option.bind_some, zI_other _ _ (Or.inl (by decide)), f1.2 47 k (by omega), h.2 k hk, tI_62 hC4 (show k < 8 by omega), Option.bind_some, inc]
    refine ih _ (Fz_trans f1 (Fz_trans (Fz_sI (Or.inl rfl)) (Fz_sI (Or.inr rfl)))) fun j hj => ?_
    by_cases hjk : j = k
    · rw [hjk, zI_other _ _ (Or.inl (by decide)), zI_same, zI_same]; exact ⟨rfl, rfl⟩
    · rw [zI_other _ _ (Or.inl (by decide)), zI_other _ _ (Or.inr hjk), zI_other _ _ (Or.inr hjk), zI_other _ _ (Or.inl (by decide))]
      exact f2 j (by omega)
theorem y_laysPieces {n L : Nat} {M : zM} (hC : zC M) (h : NrH n L M) (hn : n < 8) (hL : L < 2 ^ tri n) : ∃ M' mk', fp_X11_laysPieces 46 M = some M' ∧ Fz atQ M M' ∧ RpsH (pcs n L) mk' M' := by
  unfold fp_X11_laysPieces
  have hC1 : zC (zsI M 46 28 0) := hC
  rw [ts_46 hC, pI_46 hC, Option.bind_some, pI_46 hC1, Option.bind_some]
  obtain ⟨M0, hM0⟩ : ∃ M0, M0 = zsI (zsI M 46 28 0) 46 29 0 := ⟨_, rfl⟩
  have hF0 : Fz atQ M M0 := by rw [hM0]; exact Fz_trans (Fz_sI (Or.inr ⟨rfl, Or.inl rfl⟩)) (Fz_sI (Or.inr ⟨rfl, Or.inr rfl⟩))
  have h0 : RpsH [] 0 M0 := by
    rw [hM0]
    exact ⟨by rw [zI_other _ _ (Or.inr (by decide)), zI_same]; exact n_0, by rw [zI_same]; exact n_0, fun i hi => absurd hi (Nat.not_lt_zero _)⟩
  rw [← hM0]
  have hC0 := Fz_C hF0 hC
  have loop1 : ∀ (K : zM → Option zM) d p f M1, p + d = n → d < f → Fz atQ M M1 → RpsH (compsN n L p) 0 M1 → ∃ M2, Fz atQ M M2 ∧ RpsH (compsN n L n) 0 M2 ∧ fp_X11_laysPieces_L12 K 46 f (nI p) M1 = K M2 := by
    intro K d
    induction d with
    | zero =>
      intro p f M1 h1 h2 h3 h4
      obtain ⟨f, rfl⟩ : ∃ g, f = g + 1 := ⟨f - 1, by omega⟩
      have : p = n := by omega
      subst this
      have hC1 := Fz_C h3 hC
      exact ⟨M1, h3, h4, by rw [fp_X11_laysPieces_L12, gI_46 hC1, Option.bind_some, (NrQ h h3).1, stp]⟩
    | succ d ih =>
      intro p f M1 h1 h2 h3 h4
      obtain ⟨f, rfl⟩ : ∃ g, f = g + 1 := ⟨f - 1, by omega⟩
      have hp : p < n := by omega
      have hC1 := Fz_C h3 hC
      have hN1 := NrQ h h3
      obtain ⟨l1, l2, l3⟩ := low_jt hn hL hp
      have hj := jt_lt hn hL hp
      rw [fp_X11_laysPieces_L12, gI_46 hC1, Option.bind_some, hN1.1, go hp (by omega), y_joined hC1 hN1 hn hL hp, Option.bind_some, l1, Option.bind_some, zjn_eq, inc]
      dsimp only
      by_cases hq : lowB (jt n L p) = p
      · have hl : isLst n L p = true := by rw [← l2, hq]; exact beq_self_eq_true _
        rw [if_pos (by rw [hq])]
        obtain ⟨ps, hps⟩ : ∃ ps, ps = compsN n L p := ⟨_, rfl⟩
        have hok := comps_ok hn hL p (by omega)
        have hec : compsN n L (p + 1) = ps ++ [(elsL (jt n L p) n, part n L (jt n L p))] := by rw [compsN, hl, if_pos rfl, hps]
        rw [← hps] at h4 hok
        have hlen := okPs_len hok
        obtain ⟨M4, g1, g2, g3⟩ := y_oldRows (p := p) (fun M14 =>
                (zgI 9 M14 46 28).bind fun (y15 : Int32) =>
                (fp_X11_joined 46 (nI p) M14).bind fun (y16 : Int32) =>
                (fp_X11_laysPiece 46 y15 y16 (-1) M14).bind fun (M17 : zM) =>
                (zgI 9 M17 46 28).bind fun (y18 : Int32) =>
                (zpI 9 M17 46 28 (y18 + 1)).bind fun (M19 : zM) =>
                fp_X11_laysPieces_L12 K 46 f (nI (p + 1)) M19) hC1 hN1 hn
        have hC4 := Fz_C g1 hC1
        have hP4 : RpsH ps 0 M4 := RpsH_57 h4 (fun q hq => (hok.1 q hq).1) (Fz_mono g1 fun a k q => Or.inr q)
        have hN4 : NrH n L M4 := NrH_z hN1 g1 (by omega) (fun k => by omega)
        obtain ⟨M5, p1, p2, p3, p4, p5⟩ := y_laysPiece (t := ps.length) (mark := none) (kf := fun k => k) (rf := row n L) hC4 hn hj (by omega) (fun x hx => by cases hx) (fun k hk => ⟨(g2 k hk).1, (g2 k hk).2, lt128 hn (row_lt _ _ _)⟩)
        have hC5 := Fz_C p2 hC4
        have w28 : zI M5 46 28 = nI ps.length := (p2.2 _ _ (by omega)).trans hP4.1
        have p1' : fp_X11_laysPiece 46 (nI ps.length) (nI (jt n L p)) (-1) M4 = some M5 := p1
        rw [g3, gI_46 hC4, Option.bind_some, hP4.1, y_joined hC4 hN4 hn hL hp, Option.bind_some, p1', Option.bind_some, gI_46 hC5, Option.bind_some, w28, inc, pI_46 hC5, Option.bind_some]
        refine ih (p + 1) f _ (by omega) (by omega) (Fz_trans h3 (Fz_trans (Fz_mono g1 fun a k q => Or.inl (by omega)) (Fz_trans (Fz_mono p2 atP_Q) (Fz_sI (Or.inr ⟨rfl, Or.inl rfl⟩))))) ?_
        have f7 : Fz (fun a k => a = 46) M5 (zsI M5 46 28 (nI (ps.length + 1))) := Fz_sI rfl
        rw [hec]
        refine ⟨by rw [zI_same, List.length_append]; rfl, by rw [zI_other _ _ (Or.inr (by decide)), p2.2 _ _ (by omega)]; exact hP4.2.1, fun i hi => ?_⟩
        rw [List.length_append] at hi
        have hi2 : i < ps.length + 1 := hi
        by_cases hil : i < ps.length
        · rw [getD_app_l hil]
          have hl3 : (ps.getD i q0).1.length ≤ 8 := by have := (okP_get (fun q hq => (hok.1 q hq).1) hil).1; omega
          exact RcH_z (RcH_z (hP4.2.2 i hil) p2 hl3 (by omega) (fun k _ _ => ⟨by omega, by omega⟩)) f7 hl3 (by decide) (fun k _ _ => ⟨by omega, by omega⟩)
        · have hie : i = ps.length := by omega
          rw [hie, getD_app_r]
          have hcn := cnt_le (jt n L p).testBit n
          refine RcH_z ?_ f7 (by rw [elsL_len]; omega) (by decide) (fun k _ _ => ⟨by omega, by omega⟩)
          refine ⟨?_, fun j hj2 => ?_⟩
          · dsimp only
            rw [elsL_len]; exact p3
          · dsimp only at hj2 ⊢
            rw [elsL_len] at hj2 ⊢
            obtain ⟨k1, k2⟩ := p4 j hj2
            refine ⟨?_, ?_⟩
            · rw [k1, elsL_get hj2]
            · rw [k2, row_part hn hj2]
              unfold lrw
              show nI (_ ||| 0) = _
              rw [Nat.or_zero]
      · have hl : isLst n L p = false := by
          have : (lowB (jt n L p) == p) = false := by simpa using hq
          rw [← l2]; exact this
        have hlow : lowB (jt n L p) < 2 ^ 31 := by omega
        rw [if_neg (by rw [n_eq hlow (by omega)]; exact hq)]
        exact ih (p + 1) f M1 (by omega) (by omega) h3 (by rw [compsN, hl, if_neg Bool.false_ne_true, List.append_nil]; exact h4)
  obtain ⟨M2, a1, a2, a3⟩ := loop1 (fun M20 => fp_X11_laysPieces_L102 46 FU 1 M20) n 0 FU M0 (by omega) (FU_gt (by omega)) hF0 h0
  obtain ⟨M', mk', b1, b2, b3⟩ := y_takeLoop 16 0 FU (compsN n L n) M2 (by omega) (FU_gt (by omega)) (comps_ok hn hL n (Nat.le_refl _)) (Fz_C a1 hC) a2 (by decide)
  refine ⟨M', mk', ?_, Fz_trans a1 b2, b3⟩
  rw [n_0, a3]
  exact b1
theorem y_pgather {S : zSt} {M : zM} (h : IR S M) : ∃ M' mk', fp_X11_laysPieces 46 M = some M' ∧ IR S M' ∧ Fc atR M M' ∧ RpsH (pcs (sN S) (sL S)) mk' M' := by
  obtain ⟨M', mk', e1, e2, e3⟩ := y_laysPieces (IR_C h) (IR_N h) (IR_n h).2 (IR_L h)
  exact ⟨M', mk', e1, IR_z h (scQ e2), scR_c (scQ e2), e3⟩
theorem y_kindOf {ps : List Pc} {mk i : Nat} {M : zM} (hC : zC M) (h : RpsH ps mk M) (hi : i < ps.length) (ho : okPs ps) (htd : tdPs ps) : fp_X11_kindOf 46 (nI i) M = some (nI (kindP (ps.getD i q0))) := by
  unfold fp_X11_kindOf
  have h8 := okPs_len ho
  have hqm : ps.getD i q0 ∈ ps := by simp [List.getD, hi]
  have hR := h.2.2 i hi
  have hok := ho.1 _ hqm
  have ht := htd _ hqm
  obtain ⟨q, hq⟩ : ∃ q, q = ps.getD i q0 := ⟨_, rfl⟩
  rw [← hq] at hR hok ht ⊢
  obtain ⟨⟨m8, hT⟩, m1⟩ := hok
  have hk3 := td3 (q := q) ⟨m8, hT⟩ ht
  unfold RcH at hR
  unfold kindP
  obtain ⟨m, hm⟩ : ∃ m, m = q.1.length := ⟨_, rfl⟩
  obtain ⟨T, hTe⟩ : ∃ T, T = q.2 := ⟨_, rfl⟩
  rw [← hm] at hR m8 m1 hk3 ⊢
  rw [← hTe] at hR hk3 ⊢
  have hT' : T < 2 ^ tri m := by rw [hTe, hm]; exact hT
  have hsum : smN (fun k => pc (row m T k)) m = 2 * pc T := by
    rw [pc_of hT' (tri_le m m8), ← deg_sum]
    exact smN_congr fun k _ => pc_row m8
  have hpc := pc_le21 T
  rw [ts_46 hC]
  obtain ⟨K, hK⟩ : ∃ K : Int32 → Option Int32, K = fun v2_7 =>
        (zgR 9 M 46 23).bind fun (y8 : Nat) =>
        (zlI 100 M y8 (nI i)).bind fun (y9 : Int32) =>
        if y9 ≥ 3 then (
          (zgR 9 M 46 23).bind fun (y10 : Nat) =>
          (zlI 100 M y10 (nI i)).bind fun (y11 : Int32) =>
          if y11 ≤ 3 then (
            if v2_7 ≠ 4 then (
              some 3)
            else (
              some 2))
          else (
            some 4))
        else (
          (zgR 9 M 46 23).bind fun (y12 : Nat) =>
          (zlI 100 M y12 (nI i)).bind fun (y13 : Int32) =>
          some (y13 - 1)) := ⟨_, rfl⟩
  rw [← hK]
  have l58 : zlI 100 M 58 (nI i) = some (nI m) := by rw [lI_58 hC (show i < 8 by omega), hR.1]
  have fin : K (nI (2 * pc T)) = some (nI (if m < 3 then m - 1 else if m = 3 then pc T else 4)) := by
    rw [hK]
    dsimp only
    rw [gR_46_23 hC, Option.bind_some, l58, Option.bind_some]
    by_cases h3 : m < 3
    · rw [if_neg (show ¬ nI m ≥ 3 by rw [n_3, ge_iff_le, n_le (by omega) (by omega)]; omega), if_pos h3, Option.bind_some, l58, Option.bind_some, n_1, n_sub m1]
    · rw [if_pos (show nI m ≥ 3 by rw [n_3, ge_iff_le, n_le (by omega) (by omega)]; omega), if_neg h3, Option.bind_some, l58, Option.bind_some]
      by_cases h4 : m = 3
      · rw [if_pos (show nI m ≤ 3 by rw [n_3, n_le (by omega) (by omega)]; omega), if_pos h4]
        rcases hk3 h4 with hk | hk
        · rw [hk, if_neg (by decide)]; rfl
        · rw [hk, if_pos (by decide)]; rfl
      · rw [if_neg (show ¬ nI m ≤ 3 by rw [n_3, n_le (by omega) (by omega)]; omega), if_neg h4]; rfl
  refine Eq.trans (b := fp_X11_kindOf_L4 K 46 (nI i) M FU (nI (smN (fun k => pc (row m T k)) 0)) (nI 0)) (by rw [show smN (fun k => pc (row m T k)) 0 = 0 from rfl, n_0]) ?_
  refine up (P := fun k f => fp_X11_kindOf_L4 K 46 (nI i) M f (nI (smN (fun k => pc (row m T k)) k)) (nI k) = some (nI (if m < 3 then m - 1 else if m = 3 then pc T else 4))) (a := 0) (n := m) ?_ ?_ FU (by omega) (FU_gt (by omega))
  · intro f
    rw [fp_X11_kindOf_L4, gR_46_23 hC, Option.bind_some, l58, Option.bind_some, stp, hsum]
    exact fin
  · intro k f _ hk ih
    rw [fp_X11_kindOf_L4, gR_46_23 hC, Option.bind_some, l58, Option.bind_some, go hk (by omega), gR_46_25 hC, Option.bind_some, e8, n_add, lI_60 hC (show 8 * i + k < 64 by omega), Option.bind_some, (hR.2 k hk).2, y_bits (row21 m8), Option.bind_some, lett_eq, n_add, inc]
    rw [smN] at ih
    exact ih
theorem y_marks {q : Pc} {k : Nat} {w : Int32} {M : zM} {K : Int32 → Option (Int32 × zM)} (hC : zC M) (hR : RcH k q M) (hlo : ∀ k, q.1.getD k 0 < 1000) (m8 : q.1.length < 8) (hk : k < 8) : fp_X11_piece_L43 K 46 (nI k) w M FU 0 0 = K (nI (cnt (fun k => decide (10 ≤ q.1.getD k 0)) q.1.length)) := by
  refine Eq.trans (b := fp_X11_piece_L43 K 46 (nI k) w M FU (nI (cnt (fun k => decide (10 ≤ q.1.getD k 0)) 0)) (nI 0)) (by rw [show cnt (fun k => decide (10 ≤ q.1.getD k 0)) 0 = 0 from rfl, n_0]) ?_
  refine up (P := fun j f => fp_X11_piece_L43 K 46 (nI k) w M f (nI (cnt (fun k => decide (10 ≤ q.1.getD k 0)) j)) (nI j) = K (nI (cnt (fun k => decide (10 ≤ q.1.getD k 0)) q.1.length))) (a := 0) (n := q.1.length) ?_ ?_ FU (by omega) (FU_gt (by omega))
  · intro f
    rw [fp_X11_piece_L43, gR_46_23 hC, Option.bind_some, lI_58 hC hk, Option.bind_some, hR.1, stp]
  · intro j f _ hj ih
    have hlj := hlo j
    rw [fp_X11_piece_L43, gR_46_23 hC, Option.bind_some, lI_58 hC hk, Option.bind_some, hR.1, go hj (by omega), gR_46_24 hC, Option.bind_some, e8, n_add, lI_59 hC (show 8 * k + j < 64 by omega), Option.bind_some, (hR.2 j hj).1, zjn_eq]
    rw [cnt] at ih
    by_cases h10 : 10 ≤ q.1.getD j 0
    · rw [if_neg (by rw [show (10 : Int32) = nI 10 from by decide, n_lt (by omega) (by decide)]; omega)]
      dsimp only
      rw [lett_eq, inc, inc]
      rw [decide_eq_true h10] at ih
      exact ih
    · rw [if_pos (by rw [show (10 : Int32) = nI 10 from by decide, n_lt (by omega) (by decide)]; omega)]
      dsimp only
      rw [lett_eq, n_0, n_add, inc]
      rw [decide_eq_false h10] at ih
      exact ih
theorem y_piece {S : zSt} {M : zM} (h : IR S M) (i what : Int32) : RM (q_piece S i what) (fp_X11_piece 46 i what M) M := by
  unfold fp_X11_piece q_piece
  have hC := IR_C h
  have g2 := (IR_n h).2
  have hok := pcs_ok g2 (IR_L h)
  have h8 := okPs_len hok
  rw [ts_46 hC]
  by_cases h0 : i < 0
  · rw [if_pos h0, if_pos h0]; exact y_rf h Fc_refl
  · rw [if_neg h0, if_neg h0, show (2 : Int32) = nI 2 from n_2, y_from0 (by decide), Option.bind_some]
    cases hw : asN what (2 + 1) with
    | none => rw [b_no, if_neg (by decide)]; exact y_rf h Fc_refl
    | some w =>
      obtain ⟨rfl, hw3, hwb⟩ := asN_some hw
      obtain ⟨M', mk', e1, e2, e3, e4⟩ := y_pgather h
      have hC' := IR_C e2
      dsimp only
      rw [b_so, if_pos (show (1 : Int32) ≠ 0 by decide), e1, Option.bind_some, gI_46 hC', Option.bind_some, e4.1]
      cases hv : asN i (pcs (sN S) (sL S)).length with
      | none =>
        rcases asN_none hv with h1 | ⟨j, rfl, hj, hb⟩
        · exact absurd h1 h0
        · rw [if_neg (by rw [n_lt hb (by omega)]; omega)]
          exact y_rf e2 e3
      | some k =>
        obtain ⟨rfl, hk, hb⟩ := asN_some hv
        rw [if_pos (by rw [n_lt hb (by omega)]; exact hk)]
        dsimp only
        have hkd := y_kindOf hC' e4 hk hok (pcs_td g2 (IR_L h))
        have hR := e4.2.2 k hk
        have hqm : (pcs (sN S) (sL S)).getD k q0 ∈ pcs (sN S) (sL S) := by simp [List.getD, hk]
        have hlo := pcs_low (L := sL S) g2 _ hqm
        have m8 := (hok.1 _ hqm).1.1
        unfold pcO marksP
        obtain ⟨q, hq⟩ : ∃ q, q = (pcs (sN S) (sL S)).getD k q0 := ⟨_, rfl⟩
        rw [← hq] at hkd hR hlo m8 ⊢
        rw [y_marks hC' hR hlo m8 (by omega)]
        have w3 : w = 0 ∨ w = 1 ∨ w = 2 := by omega
        rcases w3 with rfl | rfl | rfl
        · rw [if_neg (show ¬ nI 0 ≠ 0 by decide), hkd, Option.bind_some]
          exact y_gv e2 e3
        · rw [if_pos (show nI 1 ≠ 0 by decide), if_neg (show ¬ nI 1 ≠ 1 by decide), gR_46_23 hC', Option.bind_some, lI_58 hC' (show k < 8 by omega), Option.bind_some, hR.1]
          exact y_gv e2 e3
        · rw [if_pos (show nI 2 ≠ 0 by decide), if_pos (show nI 2 ≠ 1 by decide)]
          exact y_gv e2 e3
theorem knt_pos {S : zSt} {i k e : Int32} (h : knt S i k = .inl e) : e = 1 ∨ e = 6 := by
  unfold knt at h
  split at h
  · cases h; exact Or.inl rfl
  · split at h
    · cases h; exact Or.inl rfl
    · split at h
      · cases h; exact Or.inr rfl
      · split at h
        · cases h; exact Or.inr rfl
        · cases h
theorem y_wrongKnot {S : zSt} {M : zM} (h : IR S M) (i k : Int32) : ∃ M' mk', fp_X11_wrongKnot 46 i k M = some ((match knt S i k with | .inl e => e | .inr _ => 0), M') ∧ IR S M' ∧ Fc atR M M' ∧ ∀ q, knt S i k = .inr q → i = nI q.1 ∧ k = nI q.2 ∧ q.1 < (pcs (sN S) (sL S)).length ∧ q.2 < ((pcs (sN S) (sL S)).getD q.1 q0).1.length ∧ RpsH (pcs (sN S) (sL S)) mk' M' := by
  unfold fp_X11_wrongKnot knt
  have hC := IR_C h
  have g2 := (IR_n h).2
  have hok := pcs_ok g2 (IR_L h)
  have h8 := okPs_len hok
  rw [ts_46 hC]
  by_cases h0 : i < 0
  · rw [if_pos h0, if_pos h0]; exact ⟨M, 0, rfl, h, Fc_refl, fun q e => by cases e⟩
  · rw [if_neg h0, if_neg h0]
    by_cases h1 : k < 0
    · rw [if_pos h1, if_neg (by rw [ge_iff_le, Int32.not_le]; exact h1)]; exact ⟨M, 0, rfl, h, Fc_refl, fun q e => by cases e⟩
    · obtain ⟨M', mk', e1, e2, e3, e4⟩ := y_pgather h
      have hC' := IR_C e2
      rw [if_neg h1, if_pos (by rw [ge_iff_le]; exact Int32.not_lt.mp h1), e1, Option.bind_some, gI_46 hC', Option.bind_some, e4.1]
      cases hv : asN i (pcs (sN S) (sL S)).length with
      | none =>
        rcases asN_none hv with h2 | ⟨j, rfl, hj, hb⟩
        · exact absurd h2 h0
        · rw [if_pos (by rw [ge_iff_le, n_le (by omega) hb]; exact hj)]
          exact ⟨M', mk', rfl, e2, e3, fun q e => by cases e⟩
      | some j =>
        obtain ⟨rfl, hj, hb⟩ := asN_some hv
        dsimp only
        have hl := (okP_get (fun q hq => (hok.1 q hq).1) hj).1
        rw [go hj (by omega), gR_46_23 hC', Option.bind_some, lI_58 hC' (show j < 8 by omega), Option.bind_some, (e4.2.2 j hj).1]
        cases hv2 : asN k ((pcs (sN S) (sL S)).getD j q0).1.length with
        | none =>
          rcases asN_none hv2 with h2 | ⟨x, rfl, hx, hxb⟩
          · exact absurd h2 h1
          · rw [if_pos (by rw [ge_iff_le, n_le (by omega) hxb]; exact hx)]
            exact ⟨M', mk', rfl, e2, e3, fun q e => by cases e⟩
        | some x =>
          obtain ⟨rfl, hx, hxb⟩ := asN_some hv2
          rw [go hx (by omega)]
          exact ⟨M', mk', rfl, e2, e3, fun q e => by cases e; exact ⟨rfl, rfl, hj, hx, e4⟩⟩
theorem y_knot {S : zSt} {M : zM} (h : IR S M) (i k : Int32) : RM (q_knot S i k) (fp_X11_knot 46 i k M) M := by
  unfold fp_X11_knot q_knot
  have g2 := (IR_n h).2
  have h8 := okPs_len (pcs_ok g2 (IR_L h))
  obtain ⟨M', mk', e1, e2, e3, e4⟩ := y_wrongKnot h i k
  have hC' := IR_C e2
  rw [ts_46 (IR_C h), e1, Option.bind_some]
  unfold zpp
  dsimp only
  cases hk : knt S i k with
  | inl e =>
    dsimp only
    rw [if_neg (by rcases knt_pos hk with rfl | rfl <;> decide)]
    exact y_rf e2 e3
  | inr q =>
    obtain ⟨rfl, rfl, a1, a2, a3⟩ := e4 q hk
    have hl := (okP_get (fun q hq => ((pcs_ok g2 (IR_L h)).1 q hq).1) a1).1
    dsimp only
    rw [if_pos (by decide), gR_46_24 hC', Option.bind_some, e8, n_add, lI_59 hC' (show 8 * q.1 + q.2 < 64 by omega), Option.bind_some, ((a3.2.2 q.1 a1).2 q.2 a2).1]
    exact y_gv e2 e3
theorem y_ties {S : zSt} {M : zM} (h : IR S M) (i k : Int32) : RM (q_ties S i k) (fp_X11_ties 46 i k M) M := by
  unfold fp_X11_ties q_ties
  have g2 := (IR_n h).2
  have h8 := okPs_len (pcs_ok g2 (IR_L h))
  obtain ⟨M', mk', e1, e2, e3, e4⟩ := y_wrongKnot h i k
  have hC' := IR_C e2
  rw [ts_46 (IR_C h), e1, Option.bind_some]
  unfold zpp
  dsimp only
  cases hk : knt S i k with
  | inl e =>
    dsimp only
    rw [if_neg (by rcases knt_pos hk with rfl | rfl <;> decide)]
    exact y_rf e2 e3
  | inr q =>
    obtain ⟨rfl, rfl, a1, a2, a3⟩ := e4 q hk
    have hl := (okP_get (fun q hq => ((pcs_ok g2 (IR_L h)).1 q hq).1) a1).1
    dsimp only
    rw [if_pos (by decide), gR_46_25 hC', Option.bind_some, e8, n_add, lI_60 hC' (show 8 * q.1 + q.2 < 64 by omega), Option.bind_some, ((a3.2.2 q.1 a1).2 q.2 a2).2]
    exact y_gv e2 e3
theorem kindP_4 {q : Pc} (h : okP q) (ht : tdP q) : kindP q ≤ 4 := by
  unfold kindP
  split
  · omega
  · split
    · rename_i h3
      rcases td3 h ht h3 with z | z <;> omega
    · exact Nat.le_refl _
theorem tkP {l : List Pc} {i : Nat} (h : i < l.length) : l.take (i + 1) = l.take i ++ [l.getD i q0] := by
  rw [List.take_succ_eq_append_getElem h]; simp [List.getD, h]
theorem y_plain {S : zSt} {M : zM} (h : IR S M) : RM (q_plain S) (fp_X11_plain 46 M) M := by
  unfold fp_X11_plain q_plain plainP
  have g2 := (IR_n h).2
  have hok := pcs_ok g2 (IR_L h)
  have htd := pcs_td g2 (IR_L h)
  have h8 := okPs_len hok
  obtain ⟨M', mk', e1, e2, e3, e4⟩ := y_pgather h
  have hC' := IR_C e2
  rw [ts_46 (IR_C h), e1, Option.bind_some]
  obtain ⟨ps, hps⟩ : ∃ ps, ps = pcs (sN S) (sL S) := ⟨_, rfl⟩
  rw [← hps] at hok htd h8 e4 ⊢
  refine Eq.mp ?_ (up (P := fun i f => RM (gv S (bI (ps.all fun q => kindP q != 4))) (fp_X11_plain_L8
      (fun v1_5 =>
        if v1_5 = 0 then (
          (fp_X11_gives 46 0 M').bind fun p8 => zpp p8 fun (y6 : Int32) (M7 : zM) =>
          some (y6, M7))
        else (
          (fp_X11_gives 46 1 M').bind fun p11 => zpp p11 fun (y9 : Int32) (M10 : zM) =>
          some (y9, M10))) 46 M' f (bI ((ps.take i).all fun q => kindP q != 4)) (nI i)) M) (a := 0) (n := ps.length) ?_ ?_ FU (by omega) (FU_gt (by omega)))
  · rw [List.take_zero, List.all_nil, b_tt, n_0]
  · intro f
    rw [fp_X11_plain_L8, gI_46 hC', Option.bind_some, e4.1, stp, List.take_length]
    cases ps.all fun q => kindP q != 4 with
    | false => rw [b_ff, if_pos rfl]; exact y_gv e2 e3
    | true => rw [b_tt, if_neg (by decide)]; exact y_gv e2 e3
  · intro i f _ hi ih
    rw [fp_X11_plain_L8, gI_46 hC', Option.bind_some, e4.1, go hi (by omega), zjn_eq, zjn_eq, inc]
    rw [tkP hi, List.all_append, List.all_cons, List.all_nil, Bool.and_true] at ih
    cases hb : (ps.take i).all fun q => kindP q != 4 with
    | false =>
      rw [hb, Bool.false_and, b_ff] at ih
      rw [b_ff, if_pos rfl]
      exact ih
    | true =>
      have hm := okP_get (fun q hq => (hok.1 q hq).1) hi
      have hqm : ps.getD i q0 ∈ ps := by simp [List.getD, hi]
      have h4 := kindP_4 hm (htd _ hqm)
      rw [hb, Bool.true_and] at ih
      rw [b_tt, if_neg (by decide), y_kindOf hC' e4 hi hok htd, Option.bind_some]
      by_cases hk : kindP (ps.getD i q0) = 4
      · rw [if_pos (by rw [hk]; decide)]
        rw [hk] at ih
        exact ih
      · rw [if_neg (by rw [n_4, ge_iff_le, n_le (by omega) (by omega)]; omega)]
        have : (kindP (ps.getD i q0) != 4) = true := by simpa using hk
        rw [this, b_tt] at ih
        exact ih

/-! ===== 50: the class' Pieces: all of them ===== -/
def compsN (n L : Nat) : Nat → List Pc
  | 0 => []
  | p + 1 => compsN n L p ++ if isLst n L p then [(elsL (jt n L p) n, part n L (jt n L p))] else []
def itP : Nat → List Pc → Nat → List Pc
  | 0, ps, _ => ps
  | k + 1, ps, m => match takeP ps (10 + m) with
    | none => ps
    | some ps' => itP k ps' (m + 1)
def pcs (n L : Nat) : List Pc := itP 16 (compsN n L n) 0
def wgt (q : Pc) : Nat := if q.1.length < 3 then 1 else q.1.length - 2
def wgts : List Pc → Nat
  | [] => 0
  | q :: ps => wgt q + wgts ps
theorem wgt_pos (q : Pc) : 1 ≤ wgt q := by unfold wgt; split <;> omega
theorem wgts_app (a b : List Pc) : wgts (a ++ b) = wgts a + wgts b := by
  induction a with
  | nil => simp [wgts]
  | cons q a ih => simp only [List.cons_append, wgts, ih]; omega
theorem wgts_len (a : List Pc) : a.length ≤ wgts a := by
  induction a with
  | nil => exact Nat.le_refl _
  | cons q a ih => have := wgt_pos q; simp only [List.length_cons, wgts]; omega
theorem wgts_set {a : List Pc} {i : Nat} {q : Pc} (h : i < a.length) : wgts (a.set i q) + wgt (a.getD i q0) = wgts a + wgt q := by
  induction a generalizing i with
  | nil => simp at h
  | cons x a ih =>
    cases i with
    | zero => simp only [List.set_cons_zero, wgts, List.getD_cons_zero]; omega
    | succ i =>
      have := ih (i := i) (by simpa using h)
      simp only [List.set_cons_succ, wgts, List.getD_cons_succ]; omega
def okPs (ps : List Pc) : Prop := (∀ q ∈ ps, okP q ∧ 1 ≤ q.1.length) ∧ wgts ps ≤ 7
theorem okPs_len {ps : List Pc} (h : okPs ps) : ps.length < 8 := by have := wgts_len ps; have := h.2; omega
theorem cutP_len (q : Pc) (s mark : Nat) : (cutP q s mark).1.length = cnt s.testBit q.1.length + 1 := by
  simp [cutP, selL]
theorem cutP_ok {q : Pc} {s mark : Nat} (h : cnt s.testBit q.1.length < 7) : okP (cutP q s mark) := by
  refine ⟨by rw [cutP_len]; omega, ?_⟩
  rw [cutP_len]
  exact mk_lt _ _
theorem takeP_ok {ps ps' : List Pc} {mark : Nat} (h : okPs ps) (ht : takeP ps mark = some ps') : okPs ps' ∧ ps'.length = ps.length + 1 := by
  unfold takeP at ht
  simp only [Option.map_eq_some_iff] at ht
  obtain ⟨⟨i, s⟩, h1, rfl⟩ := ht
  obtain ⟨a1, a2, -⟩ := fstSp_some h1
  dsimp only
  obtain ⟨q, hq⟩ : ∃ q, ps.getD i q0 = q := ⟨_, rfl⟩
  rw [hq] at a2 ⊢
  have hmem : q ∈ ps := by rw [← hq]; simp [List.getD, List.getElem?_eq_getElem a1]
  obtain ⟨⟨k1, k2⟩, k3⟩ := h.1 q hmem
  obtain ⟨hs1, hs2, -⟩ := head_sp a2
  obtain ⟨b1, b2, -⟩ := isSp_cnt k1 hs1 hs2
  have hcc := cnt_compl (n := q.1.length) (s := s)
  have e1 := cutP_len q s mark
  have e2 := cutP_len q ((1 <<< q.1.length - 1) ^^^ s) mark
  refine ⟨⟨fun x hx => ?_, ?_⟩, by rw [List.length_append, List.length_set]; rfl⟩
  · rw [List.mem_append] at hx
    rcases hx with hx | hx
    · rcases List.mem_or_eq_of_mem_set hx with hx | hx
      · exact h.1 x hx
      · subst hx; exact ⟨cutP_ok (by omega), by omega⟩
    · have : x = cutP q ((1 <<< q.1.length - 1) ^^^ s) mark := by simpa using hx
      subst this; exact ⟨cutP_ok (by omega), by omega⟩
  · rw [wgts_app]
    have hw := wgts_set (q := cutP q s mark) a1
    rw [hq] at hw
    have h2 := h.2
    have w1 : wgt q = q.1.length - 2 := by unfold wgt; rw [if_neg (by omega)]
    have w2 : wgt (cutP q s mark) = cnt s.testBit q.1.length - 1 := by unfold wgt; rw [e1, if_neg (by omega)]; omega
    have w3 : wgts [cutP q ((1 <<< q.1.length - 1) ^^^ s) mark] = cnt ((1 <<< q.1.length - 1) ^^^ s).testBit q.1.length - 1 := by
      show wgt _ + 0 = _
      unfold wgt; rw [e2, if_neg (by omega)]; omega
    omega
theorem itP_ok {k m : Nat} {ps : List Pc} (h : okPs ps) : okPs (itP k ps m) := by
  induction k generalizing ps m with
  | zero => exact h
  | succ k ih =>
    rw [itP]
    cases ht : takeP ps (10 + m) with
    | none => exact h
    | some ps' => exact ih (takeP_ok h ht).1
theorem cnt_disj {f g : Nat → Bool} {n : Nat} (h : ∀ i, i < n → f i = true → g i = true → False) : cnt (fun i => f i || g i) n = cnt f n + cnt g n := by
  induction n with
  | zero => rfl
  | succ n ih =>
    have := ih fun i hi => h i (by omega)
    have h2 := h n (by omega)
    simp only [cnt, this]
    cases hf : f n <;> cases hg : g n <;> simp_all <;> omega
def seen (n L : Nat) : Nat → Nat → Bool
  | 0, _ => false
  | p + 1, q => seen n L p q || (isLst n L p && (jt n L p).testBit q)
theorem seen_has {n L p q : Nat} (h : seen n L p q = true) : ∃ r, r < p ∧ (jt n L r).testBit q = true := by
  induction p with
  | zero => cases h
  | succ p ih =>
    rw [seen, Bool.or_eq_true, Bool.and_eq_true] at h
    rcases h with h | h
    · obtain ⟨r, h1, h2⟩ := ih h; exact ⟨r, by omega, h2⟩
    · exact ⟨p, by omega, h.2⟩
theorem elsL_pos {s n p : Nat} (hp : p < n) (h : s.testBit p = true) : 1 ≤ cnt s.testBit n := by
  have := cnt_lt (f := fun _ => false) (g := s.testBit) (n := n) (k := p) (fun _ _ h => by cases h) hp rfl h
  omega
theorem compsN_ok {n L : Nat} (hn : n < 8) (hL : L < 2 ^ tri n) : ∀ m, m ≤ n → (∀ q ∈ compsN n L m, okP q ∧ 1 ≤ q.1.length) ∧ wgts (compsN n L m) ≤ cnt (seen n L m) n := by
  intro m
  induction m with
  | zero => intro _; exact ⟨fun q hq => (by cases hq), Nat.zero_le _⟩
  | succ p ih =>
    intro hm
    obtain ⟨h1, h2⟩ := ih (by omega)
    have hp : p < n := by omega
    rw [compsN]
    cases hl : isLst n L p with
    | false =>
      have e : ∀ q, seen n L (p + 1) q = seen n L p q := fun q => by rw [seen, hl]; simp
      rw [cnt_congr (g := seen n L p) (fun i _ => e i)]
      rw [if_neg (by decide), List.append_nil]
      exact ⟨h1, h2⟩
    | true =>
      have J := jt_Jt hn hL hp
      have hpos := elsL_pos hp J.2.1
      have hle := cnt_le (jt n L p).testBit n
      have e : cnt (seen n L (p + 1)) n = cnt (seen n L p) n + cnt (jt n L p).testBit n := by
        have : cnt (seen n L (p + 1)) n = cnt (fun i => seen n L p i || (jt n L p).testBit i) n := cnt_congr fun i _ => by rw [seen, hl]; simp
        rw [this]
        refine cnt_disj fun i hi a b => ?_
        obtain ⟨r, c1, c2⟩ := seen_has a
        have c3 := jt_sym hn hL (show r < n by omega) hi c2
        have c4 := jt_trans hn hL hp hi (show r < n by omega) b c3
        rw [(isLst_iff hn hL hp).mp hl r c1] at c4; cases c4
      rw [if_pos rfl, wgts_app, e]
      have el := elsL_len (jt n L p) n
      refine ⟨fun q hq => ?_, ?_⟩
      · rw [List.mem_append] at hq
        rcases hq with hq | hq
        · exact h1 q hq
        · have : q = (elsL (jt n L p) n, part n L (jt n L p)) := by simpa using hq
          subst this
          refine ⟨⟨by show (elsL _ _).length < 8; omega, ?_⟩, by show 1 ≤ (elsL _ _).length; omega⟩
          show part n L (jt n L p) < 2 ^ tri (elsL _ _).length
          rw [el]; exact mk_lt _ _
      · have : wgts [(elsL (jt n L p) n, part n L (jt n L p))] ≤ cnt (jt n L p).testBit n := by
          show wgt _ + 0 ≤ _
          unfold wgt
          dsimp only
          rw [el]; split <;> omega
        omega
theorem comps_ok {n L : Nat} (hn : n < 8) (hL : L < 2 ^ tri n) (m : Nat) (hm : m ≤ n) : okPs (compsN n L m) := by
  obtain ⟨h1, h2⟩ := compsN_ok hn hL m hm
  have := cnt_le (seen n L m) n
  exact ⟨h1, by omega⟩
theorem pcs_ok {n L : Nat} (hn : n < 8) (hL : L < 2 ^ tri n) : okPs (pcs n L) := itP_ok (comps_ok hn hL n (Nat.le_refl _))
theorem c_pgather {n L : Nat} {M : zM} (hn : n < 8) (hL : L < 2 ^ tri n) (hC : zC M) : ∃ M' mk', fp_X3_gather 11 (nI n) (nI L) M = some M' ∧ Fc at11 M M' ∧ PsH (pcs n L) mk' M' := by
  unfold fp_X3_gather
  rw [ts_11 hC, pI_11 hC, Option.bind_some, pI_11 (by exact hC), Option.bind_some]
  have h0 : PsH [] 0 (zsI (zsI M 11 3 0) 11 4 0) := ⟨by rw [zI_other _ _ (Or.inr (by decide)), zI_same]; rfl, by rw [zI_same]; rfl, fun i hi => by simp at hi⟩
  have hC0 : zC (zsI (zsI M 11 3 0) 11 4 0) := hC
  have hF0 : Fc at11 M (zsI (zsI M 11 3 0) 11 4 0) := Fc_trans (Fc_sI (Or.inl rfl)) (Fc_sI (Or.inl rfl))
  obtain ⟨M0, hM0⟩ : ∃ M0, M0 = zsI (zsI M 11 3 0) 11 4 0 := ⟨_, rfl⟩
  rw [← hM0] at h0 hC0 hF0 ⊢
  have loop2 : ∀ d j f ps M1, j + d = 16 → d < f → okPs ps → zC M1 → PsH ps j M1 → ∃ M' mk', fp_X3_gather_L50 11 f (nI j) M1 = some M' ∧ Fc at11 M1 M' ∧ PsH (itP d ps j) mk' M' := by
    intro d
    induction d with
    | zero =>
      intro j f ps M1 h1 h2 h3 h4 h5
      obtain ⟨f, rfl⟩ : ∃ g, f = g + 1 := ⟨f - 1, by omega⟩
      have : j = 16 := by omega
      subst this
      exact ⟨M1, 16, by rw [fp_X3_gather_L50, show (16 : Int32) = nI 16 from by decide, stp], Fc_refl, h5⟩
    | succ d ih =>
      intro j f ps M1 h1 h2 h3 h4 h5
      obtain ⟨f, rfl⟩ : ∃ g, f = g + 1 := ⟨f - 1, by omega⟩
      obtain ⟨M2, a1, a2, a3⟩ := c_take (okPs_len h3) (fun q hq => (h3.1 q hq).1) h4 h5
      have hC2 := Fc_C a2 h4
      rw [fp_X3_gather_L50, show (16 : Int32) = nI 16 from by decide, go (show j < 16 by omega) (by omega), a1, Option.bind_some]
      simp only [zpp]
      rw [itP]
      cases ht : takeP ps (10 + j) with
      | none =>
        rw [ht] at a3
        exact ⟨M2, j, by rw [Option.isSome_none, ifF], a2, a3⟩
      | some ps' =>
        rw [ht] at a3
        have h6 : PsH ps' (j + 1) (zsI M2 11 4 (nI (j + 1))) := ⟨by rw [zI_other _ _ (Or.inr (by decide))]; exact a3.1, by rw [zI_same], fun i hi => PcH_other (a3.2.2 i hi) (zI_other _ _ (Or.inl (by decide))) (zI_other _ _ (Or.inl (by decide))) (fun k => zI_other _ _ (Or.inl (by omega)))⟩
        obtain ⟨M', mk', b1, b2, b3⟩ := ih (j + 1) f ps' (zsI M2 11 4 (nI (j + 1))) (by omega) (by omega) (takeP_ok h3 ht).1 hC2 h6
        refine ⟨M', mk', ?_, Fc_trans (Fc_trans a2 (Fc_sI (Or.inl rfl))) b2, b3⟩
        rw [Option.isSome_some, ifT, gI_11 hC2, Option.bind_some, a3.2.1, inc, pI_11 hC2, Option.bind_some]
        exact b1
  have loop1 : ∀ (K : zM → Option zM) d p f M1, p + d = n → d < f → zC M1 → PsH (compsN n L p) 0 M1 → ∃ M2, Fc at11 M1 M2 ∧ PsH (compsN n L n) 0 M2 ∧ fp_X3_gather_L12 K 11 (nI n) (nI L) f (nI p) M1 = K M2 := by
    intro K d
    induction d with
    | zero =>
      intro p f M1 h1 h2 h3 h4
      obtain ⟨f, rfl⟩ : ∃ g, f = g + 1 := ⟨f - 1, by omega⟩
      have : p = n := by omega
      subst this
      exact ⟨M1, Fc_refl, h4, by rw [fp_X3_gather_L12, stp]⟩
    | succ d ih =>
      intro p f M1 h1 h2 h3 h4
      obtain ⟨f, rfl⟩ : ∃ g, f = g + 1 := ⟨f - 1, by omega⟩
      have hp : p < n := by omega
      rw [fp_X3_gather_L12, go hp (by omega), c_joinedTo hn hL hp, Option.bind_some, c_isLeastOf (by omega), Option.bind_some, zjn_eq, show (jt n L p &&& 1 <<< p - 1 == 0) = isLst n L p from rfl, inc]
      dsimp only
      cases hl : isLst n L p with
      | false =>
        rw [ifF]
        exact ih (p + 1) f M1 (by omega) (by omega) h3 (by rw [compsN, hl]; simpa using h4)
      | true =>
        obtain ⟨M2, a1, a2, a3⟩ := c_begin hn hL (jt_lt hn hL hp) (okPs_len (comps_ok hn hL p (by omega))) h3 h4
        rw [ifT, a1, Option.bind_some]
        obtain ⟨M', b1, b2, b3⟩ := ih (p + 1) f M2 (by omega) (by omega) (Fc_C a2 h3) (by rw [compsN, hl]; exact a3)
        exact ⟨M', Fc_trans a2 b1, b2, b3⟩
  obtain ⟨M2, a1, a2, a3⟩ := loop1 (fun M7 => fp_X3_gather_L50 11 FU (nI 0) M7) n 0 FU M0 (by omega) (FU_gt (by omega)) hC0 h0
  obtain ⟨M', mk', b1, b2, b3⟩ := loop2 16 0 FU (compsN n L n) M2 rfl (FU_gt (by omega)) (comps_ok hn hL n (Nat.le_refl _)) (Fc_C a1 hC0) a2
  refine ⟨M', mk', ?_, Fc_trans (Fc_trans hF0 a1) b2, b3⟩
  rw [n_0, a3]
  exact b1
/-! what is asked of pieces -/
def kindP (q : Pc) : Nat := if q.1.length < 3 then q.1.length - 1 else if q.1.length = 3 then pc q.2 else 4
theorem c_has {ps : List Pc} {mk' i : Nat} {M : zM} (hC : zC M) (h : PsH ps mk' M) (hi : i < ps.length) (hl : ps.length < 8) : fp_X3_has 11 (nI i) M = some 1 := by
  unfold fp_X3_has
  rw [ts_11 hC, if_neg (by rw [n_lt0 (by omega)]; exact id), gI_11 hC, Option.bind_some, h.1, go hi (by omega)]
theorem c_sizeOf {ps : List Pc} {mk' i : Nat} {M : zM} (hC : zC M) (h : PsH ps mk' M) (hi : i < ps.length) (hl : ps.length < 8) : fp_X3_sizeOf 11 (nI i) M = some (nI (ps.getD i q0).1.length) := by
  unfold fp_X3_sizeOf
  rw [ts_11 hC, c_has hC h hi hl, Option.bind_some, if_neg (by decide), gR_11_1 hC, Option.bind_some, lI_21 hC (by omega), Option.bind_some, (h.2.2 i hi).1]
theorem c_kindOf {ps : List Pc} {mk' i : Nat} {M : zM} (hC : zC M) (h : PsH ps mk' M) (hi : i < ps.length) (ho : okPs ps) : fp_X3_kindOf 11 (nI i) M = some (nI (kindP (ps.getD i q0))) := by
  unfold fp_X3_kindOf
  have hl := okPs_len ho
  have hq : okP (ps.getD i q0) ∧ 1 ≤ (ps.getD i q0).1.length := ho.1 _ (by simp [List.getD, List.getElem?_eq_getElem hi])
  obtain ⟨q, hqe⟩ : ∃ q, ps.getD i q0 = q := ⟨_, rfl⟩
  rw [ts_11 hC, c_sizeOf hC h hi hl, Option.bind_some]
  have hPi := h.2.2 i hi
  rw [hqe] at hq hPi ⊢
  have h8 := hq.1.1
  unfold kindP
  by_cases h3 : q.1.length < 3
  · rw [if_neg (by rw [n_3, ge_iff_le, n_le (by omega) (by omega)]; omega), if_pos h3, n_1, n_sub hq.2]
  · rw [if_pos (by rw [n_3, ge_iff_le, n_le (by omega) (by omega)]; omega), if_neg h3, n_3]
    by_cases h33 : q.1.length = 3
    · have hT := hq.1.2
      rw [h33] at hT
      rw [if_neg (by rw [h33]; simp), if_pos h33, gR_11_2 hC, Option.bind_some, lI_22 hC (by omega), Option.bind_some, hPi.2.1, c_bitCount (Nat.lt_trans hT (by decide)), Option.bind_some]
    · rw [if_pos (by rw [ne_eq, n_eq (by omega) (by omega)]; exact h33), if_neg h33, n_4]
theorem c_knotAt {ps : List Pc} {mk' i k : Nat} {M : zM} (hC : zC M) (h : PsH ps mk' M) (hi : i < ps.length) (ho : okPs ps) (hk : k < (ps.getD i q0).1.length) : fp_X3_knotAt 11 (nI i) (nI k) M = some (nI ((ps.getD i q0).1.getD k 0)) := by
  unfold fp_X3_knotAt
  have hl := okPs_len ho
  have hq : okP (ps.getD i q0) := (ho.1 _ (by simp [List.getD, List.getElem?_eq_getElem hi])).1
  have h8 := hq.1
  rw [ts_11 hC, if_neg (by rw [n_lt0 (by omega)]; exact id), c_sizeOf hC h hi hl, Option.bind_some, go hk (by omega), gR_11_0 hC, Option.bind_some, lR_12 hC (by omega), Option.bind_some, l13 hC (by omega) (by omega), Option.bind_some, (h.2.2 i hi).2.2 k hk]
theorem c_tiesOf {ps : List Pc} {mk' i k : Nat} {M : zM} (hC : zC M) (h : PsH ps mk' M) (hi : i < ps.length) (ho : okPs ps) (hk : k < (ps.getD i q0).1.length) : fp_X3_tiesOf 11 (nI i) (nI k) M = some (nI (row (ps.getD i q0).1.length (ps.getD i q0).2 k)) := by
  unfold fp_X3_tiesOf
  have hl := okPs_len ho
  have hq : okP (ps.getD i q0) := (ho.1 _ (by simp [List.getD, List.getElem?_eq_getElem hi])).1
  have h8 := hq.1
  rw [ts_11 hC, if_neg (by rw [n_lt0 (by omega)]; exact id), c_sizeOf hC h hi hl, Option.bind_some, go hk (by omega), gR_11_1 hC, Option.bind_some, lI_21 hC (by omega), Option.bind_some, gR_11_2 hC, Option.bind_some, lI_22 hC (by omega), Option.bind_some, (h.2.2 i hi).1, (h.2.2 i hi).2.1, c_nearTo hq.1 (lt21 hq.1 hq.2) hk, Option.bind_some]
/-- how many of the knots are marks -/
def marksP (q : Pc) : Nat := cnt (fun k => decide (10 ≤ q.1.getD k 0)) q.1.length
def lowK (ps : List Pc) : Prop := ∀ q ∈ ps, ∀ k, q.1.getD k 0 < 1000
theorem c_marksIn {ps : List Pc} {mk' i : Nat} {M : zM} (hC : zC M) (h : PsH ps mk' M) (hi : i < ps.length) (ho : okPs ps) (hlo : lowK ps) : fp_X3_marksIn 11 (nI i) M = some (nI (marksP (ps.getD i q0))) := by
  unfold fp_X3_marksIn
  have hl := okPs_len ho
  have hm : ps.getD i q0 ∈ ps := by simp [List.getD, List.getElem?_eq_getElem hi]
  have hq : okP (ps.getD i q0) := (ho.1 _ hm).1
  have h8 := hq.1
  rw [ts_11 hC, n_0]
  refine up (P := fun j f => fp_X3_marksIn_L4 11 (nI i) M f (nI (cnt (fun k => decide (10 ≤ (ps.getD i q0).1.getD k 0)) j)) (nI j) = some (nI (marksP (ps.getD i q0)))) (a := 0) (n := (ps.getD i q0).1.length) ?_ ?_ FU (Nat.zero_le _) (FU_gt (by omega))
  · intro f
    rw [fp_X3_marksIn_L4, c_sizeOf hC h hi hl, Option.bind_some, stp]; rfl
  · intro j f _ hj ih
    have hv := hlo _ hm j
    rw [fp_X3_marksIn_L4, c_sizeOf hC h hi hl, Option.bind_some, go hj (by omega), c_knotAt hC h hi ho hj, Option.bind_some, zjn_eq, inc, inc, show (10 : Int32) = nI 10 from by decide]
    dsimp only
    by_cases h10 : (ps.getD i q0).1.getD j 0 < 10
    · rw [if_pos (by rw [n_lt (by omega) (by omega)]; exact h10)]
      simp only [cnt] at ih
      rw [decide_eq_false (by omega)] at ih
      exact ih
    · rw [if_neg (by rw [n_lt (by omega) (by omega)]; exact h10)]
      simp only [cnt] at ih
      rw [decide_eq_true (by omega)] at ih
      exact ih
def plainP (ps : List Pc) : Bool := ps.all fun q => kindP q != 4
theorem kindP_lt {q : Pc} (h : okP q) : kindP q < 100 := by
  unfold kindP
  have := h.1
  have := pc_le21 q.2
  split
  · omega
  · split <;> omega
theorem c_isPlain {ps : List Pc} {mk' : Nat} {M : zM} (hC : zC M) (h : PsH ps mk' M) (ho : okPs ps) : fp_X3_isPlain 11 M = some (bI (plainP ps)) := by
  unfold fp_X3_isPlain
  have hl := okPs_len ho
  rw [ts_11 hC, n_0]
  have key : (∀ q ∈ ps.take 0, kindP q ≠ 4) → fp_X3_isPlain_L2 11 M FU (nI 0) = some (bI (plainP ps)) := by
    refine up (P := fun j f => (∀ q ∈ ps.take j, kindP q ≠ 4) → fp_X3_isPlain_L2 11 M f (nI j) = some (bI (plainP ps))) (a := 0) (n := ps.length) ?_ ?_ FU (Nat.zero_le _) (FU_gt (by omega))
    · intro f hf
      have : plainP ps = true := by
        unfold plainP; rw [List.all_eq_true]; intro q hq
        exact bne_iff_ne.mpr (hf q (by rw [List.take_length]; exact hq))
      rw [fp_X3_isPlain_L2, gI_11 hC, Option.bind_some, h.1, stp, this]; rfl
    · intro j f _ hj ih hf
      have hm : ps.getD j q0 = ps[j] := by simp [List.getD, List.getElem?_eq_getElem hj]
      have hk := kindP_lt (ho.1 _ (List.getElem_mem hj)).1
      rw [fp_X3_isPlain_L2, gI_11 hC, Option.bind_some, h.1, go hj (by omega), c_kindOf hC h hj ho, Option.bind_some, hm, n_4]
      by_cases h4 : kindP ps[j] = 4
      · have : plainP ps = false := by
          unfold plainP; rw [List.all_eq_false]
          exact ⟨ps[j], List.getElem_mem hj, by rw [h4]; simp⟩
        rw [h4, if_neg (by simp), this]; rfl
      · rw [if_pos (by rw [ne_eq, n_eq (by omega) (by omega)]; exact h4), inc]
        refine ih fun q hq => ?_
        rw [List.take_succ_eq_append_getElem hj, List.mem_append] at hq
        rcases hq with hq | hq
        · exact hf q hq
        · have : q = ps[j] := by simpa using hq
          rw [this]; exact h4
  exact key (by simp)

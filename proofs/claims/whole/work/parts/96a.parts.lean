/-! ===== 96a: the reference: parts, obstructions ===== -/
theorem Mods_any {n L : Nat} {u : List Nat} (hW : WD n u) (hP : Pat n L u) : Mods n L ≠ [] := by
  by_cases hn0 : n = 0
  · subst hn0; rw [Mods_0]; exact fun z => by cases z
  obtain ⟨A, B, C, e, hA, hB, hC⟩ := two_of (hW.2 0 (by omega))
  obtain ⟨i1, i2, r1, -⟩ := rdg4 (C := C) hA hB
  rw [← e] at i1 i2 r1
  have hlen : u.length = A.length + 1 + B.length + 1 + C.length := by rw [e]; simp; omega
  have hCA : 0 ∉ C ++ A := by rw [List.mem_append]; exact fun z => z.elim hC hA
  have hl1 : A.length < u.length := by omega
  have hV : Vw n L (wd B (C ++ A)) := by
    rw [← r1]
    refine ⟨WD_perm hW (rdg_len _ _ _) (fun p => rdg_count hl1), fun a ha b hb => by rw [rdg_crs hl1]; exact hP a ha b hb, ?_⟩
    rw [r1]; rfl
  obtain ⟨D, E, hm, -⟩ := lst_ex (by omega) hV hB hCA
  exact List.ne_nil_of_mem hm
theorem any_Mods {n L : Nat} (h : Mods n L ≠ []) : ∃ w, Vw n L w := by
  cases hm : Mods n L with
  | nil => exact absurd hm h
  | cons w ws => exact ⟨w, (Mods_mem.mp (by rw [hm]; exact List.mem_cons_self)).1⟩
theorem Vs_empty (n L : Nat) : (Ex (vB n L) n [] (2 * n)).isEmpty = (Mods n L).isEmpty := by
  rw [Bool.eq_iff_iff, List.isEmpty_iff, List.isEmpty_iff]
  constructor
  · intro h
    apply Classical.byContradiction
    intro hn
    obtain ⟨w, hw⟩ := any_Mods hn
    have : w ∈ Vs n L := Vs_mem.mpr hw
    unfold Vs at this
    rw [h] at this; cases this
  · intro h
    apply Classical.byContradiction
    intro hn
    obtain ⟨w, hw⟩ := List.exists_mem_of_ne_nil _ hn
    have hV : Vw n L w := Vs_mem.mp hw
    exact Mods_any hV.1 hV.2.1 h
/-! the part by a set, letter by letter -/
theorem sel_iff {f : Nat → Bool} {n p x : Nat} (hp : p < cnt f n) (hx : x < n) : (f x = true ∧ cnt f x = p) ↔ x = sel f n p := by
  constructor
  · rintro ⟨h1, h2⟩
    rw [← h2, sel_at hx h1]
  · intro h
    obtain ⟨a1, a2, a3⟩ := sel_in hp
    rw [h]; exact ⟨a2, a3⟩
theorem sub_count {f : Nat → Bool} {n p : Nat} (hp : p < cnt f n) : ∀ w : List Nat, (∀ x ∈ w, x < n) → ((w.filter f).map (cnt f)).count p = w.count (sel f n p) := by
  intro w
  induction w with
  | nil => intro _; rfl
  | cons x w ih =>
    intro h
    have hx := h x List.mem_cons_self
    have ihw := ih fun y hy => h y (List.mem_cons_of_mem _ hy)
    have hs := sel_iff hp hx
    cases hf : f x with
    | false =>
      have hne : x ≠ sel f n p := fun z => by rw [← hs, hf] at z; exact absurd z.1 (by decide)
      rw [List.filter_cons_of_neg (by rw [hf]; decide), ihw, List.count_cons_of_ne hne]
    | true =>
      rw [List.filter_cons_of_pos hf, List.map_cons]
      by_cases hc : cnt f x = p
      · have := hs.mp ⟨hf, hc⟩
        rw [hc, List.count_cons_self, ihw, ← this, List.count_cons_self]
      · have hne : x ≠ sel f n p := fun z => hc (hs.mpr z).2
        rw [List.count_cons_of_ne hc, ihw, List.count_cons_of_ne hne]
theorem sub_sig {f : Nat → Bool} {n a b : Nat} (ha : a < cnt f n) (hb : b < cnt f n) : ∀ w : List Nat, (∀ x ∈ w, x < n) → sig a b ((w.filter f).map (cnt f)) = sig (sel f n a) (sel f n b) w := by
  intro w
  induction w with
  | nil => intro _; rfl
  | cons x w ih =>
    intro h
    have hx := h x List.mem_cons_self
    have ihw := ih fun y hy => h y (List.mem_cons_of_mem _ hy)
    have hsa := sel_iff ha hx
    have hsb := sel_iff hb hx
    cases hf : f x with
    | false =>
      have hna : x ≠ sel f n a := fun z => by rw [← hsa, hf] at z; exact absurd z.1 (by decide)
      have hnb : x ≠ sel f n b := fun z => by rw [← hsb, hf] at z; exact absurd z.1 (by decide)
      rw [List.filter_cons_of_neg (by rw [hf]; decide), ihw, sig_skip hna hnb]
    | true =>
      rw [List.filter_cons_of_pos hf, List.map_cons, sig_cons, sig_cons, ihw]
      by_cases hc : cnt f x = a
      · rw [if_pos hc, if_pos (hsa.mp ⟨hf, hc⟩)]
      · rw [if_neg hc, if_neg (fun z => hc (hsa.mpr z).2)]
        by_cases hd : cnt f x = b
        · rw [if_pos hd, if_pos (hsb.mp ⟨hf, hd⟩)]
        · rw [if_neg hd, if_neg (fun z => hd (hsb.mpr z).2)]
theorem sub_word {n L s : Nat} {w : List Nat} (hn : n < 8) (h : Vw n L w) : Mods (cnt s.testBit n) (part n L s) ≠ [] := by
  have hlt := WD_lt h.1
  have hcn := cnt_le s.testBit n
  obtain ⟨u, hu⟩ : ∃ u, u = (w.filter s.testBit).map (cnt s.testBit) := ⟨_, rfl⟩
  have hct : ∀ p, p < cnt s.testBit n → u.count p = 2 := fun p hp => by rw [hu, sub_count hp w hlt]; exact h.1.2 _ (sel_lt hp)
  have hul : ∀ x ∈ u, x < cnt s.testBit n := fun x hx => by
    rw [hu, List.mem_map] at hx
    obtain ⟨y, hy, rfl⟩ := hx
    rw [List.mem_filter] at hy
    exact cnt_ix (hlt y hy.1) hy.2
  have hlen : u.length = 2 * cnt s.testBit n := by
    rw [count_sum (cnt s.testBit n) u]
    have e1 : cntGe (cnt s.testBit n) u = 0 := by
      unfold cntGe
      rw [List.countP_eq_zero]
      intro x hx
      have := hul x hx
      simp; omega
    have e2 : smN (fun p => u.count p) (cnt s.testBit n) = cnt s.testBit n * 2 := by
      rw [smN_congr (g := fun _ => 2) fun p hp => hct p hp, smN_const]
    omega
  refine Mods_any (u := u) ⟨hlen, hct⟩ fun a ha b hb => ?_
  have hsa := (sel_in ha).1
  have hsb := (sel_in (f := s.testBit) (n := n) (i := b) (by omega)).1
  have hne : sel s.testBit n a ≠ sel s.testBit n b := by
    have := sel_mono (f := s.testBit) (n := n) hb ha
    omega
  rw [part_adj hn ha (by omega)]
  unfold crs
  rw [hu, sub_sig ha (by omega) w hlt]
  exact Pat_adj h.2.1 hsa hsb hne
theorem cnt_all {f : Nat → Bool} {n : Nat} (h : ∀ i, i < n → f i = true) : cnt f n = n := by
  induction n with
  | zero => rfl
  | succ n ih => rw [cnt, ih fun i hi => h i (by omega), h n (Nat.lt_succ_self _)]; rfl
theorem sel_all {f : Nat → Bool} {n i : Nat} (h : ∀ i, i < n → f i = true) (hi : i < n) : sel f n i = i := by
  have h1 := sel_at (f := f) hi (h i hi)
  rw [cnt_all fun j hj => h j (by omega)] at h1
  exact h1
def partF (n L : Nat) (f : Nat → Bool) : Nat := mk (cnt f n) fun h l => adj L (sel f n h) (sel f n l)
theorem partF_adj {n L a b : Nat} {f : Nat → Bool} (hn : n < 8) (ha : a < cnt f n) (hb : b < cnt f n) : adj (partF n L f) a b = adj L (sel f n a) (sel f n b) :=
  mk_adj2 (by have := cnt_le f n; omega) (fun h l => adj L (sel f n h) (sel f n l)) (fun _ _ => adj_comm _ _ _) (fun _ => adj_self _ _) ha hb
theorem partF_all {n L : Nat} {f : Nat → Bool} (hn : n < 8) (hL : L < 2 ^ tri n) (h : ∀ i, i < n → f i = true) : partF n L f = L := by
  have hc := cnt_all h
  refine net_ext' hn (by have := mk_lt (cnt f n) fun h l => adj L (sel f n h) (sel f n l); rw [hc] at this; unfold partF; rw [hc]; exact this) hL fun a ha b hb => ?_
  rw [partF_adj hn (by omega) (by omega), sel_all h ha, sel_all h (by omega)]
theorem hasM_all {n L s : Nat} (hn : n < 8) (hL : L < 2 ^ tri n) (h : hasM n L (1 <<< n - 1) = true) : hasM n L s = true := by
  have hall : ∀ i, i < n → (1 <<< n - 1).testBit i = true := fun i hi => by rw [all_tb, decide_eq_true hi]
  have hp : part n L (1 <<< n - 1) = L := partF_all hn hL hall
  unfold hasM at h ⊢
  rw [cnt_all hall, hp] at h
  have hne : Mods n L ≠ [] := fun z => by rw [z] at h; exact absurd h (by decide)
  obtain ⟨w, hw⟩ := any_Mods hne
  have := sub_word (s := s) hn hw
  cases hm : Mods (cnt s.testBit n) (part n L s) with
  | nil => exact absurd hm this
  | cons a l => rfl
theorem obs_eq {n L : Nat} (hn : n < 8) (hL : L < 2 ^ tri n) : obs n L = obF n L n 1 := by
  unfold obs
  by_cases h : hasM n L (1 <<< n - 1) = true
  · rw [if_pos h]
    have key : ∀ d k, obF n L d k = none := by
      intro d
      induction d with
      | zero => intro k; rfl
      | succ d ih =>
        intro k
        rw [obF, obK_none (fun x _ => by rw [hasM_all hn hL h, Bool.not_true, Bool.and_false])]
        exact ih (k + 1)
    exact (key n 1).symm
  · rw [if_neg h]
/-! points go, from the last down -/
def fq (s q i : Nat) : Bool := decide (i < q) || s.testBit i
theorem fq_low {s q i : Nat} (h : i < q) : fq s q i = true := by unfold fq; rw [decide_eq_true h]; rfl
theorem fq_other {s q i : Nat} (h : i ≠ q) : fq s (q + 1) i = fq s q i := by
  unfold fq
  congr 1
  exact decide_eq_decide.mpr (by omega)
theorem fq_at {s q : Nat} (h : s.testBit q = false) : fq s q q = false := by unfold fq; rw [decide_eq_false (Nat.lt_irrefl _), h]; rfl
theorem fq_same {s q : Nat} (h : s.testBit q = true) : fq s (q + 1) = fq s q := by
  funext i
  by_cases hi : i = q
  · rw [hi, fq_low (Nat.lt_succ_self _)]; unfold fq; rw [h, Bool.or_true]
  · exact fq_other hi
theorem fq_cnt {s q n : Nat} (hq : q < n) (h : s.testBit q = false) : cnt (fq s (q + 1)) n = cnt (fq s q) n + 1 := cnt_upd hq (fq_at h) (fq_low (Nat.lt_succ_self _)) fun i hi => fq_other hi
theorem fq_ge {s q n : Nat} (hq : q ≤ n) : q ≤ cnt (fq s q) n := by
  have h1 : cnt (fq s q) q = q := cnt_all fun i hi => fq_low hi
  have := cnt_pref (fq s q) hq
  omega
theorem sel_fq {s q n a : Nat} (hq : q < n) (h : s.testBit q = false) (ha : a < cnt (fq s q) n) : sel (fq s q) n a = sel (fq s (q + 1)) n (skq q a) := by
  have hc := fq_cnt hq h
  have hk : skq q a < cnt (fq s (q + 1)) n := by unfold skq; split <;> omega
  obtain ⟨x1, x2, x3⟩ := sel_in hk
  obtain ⟨x, hx⟩ : ∃ x, x = sel (fq s (q + 1)) n (skq q a) := ⟨_, rfl⟩
  rw [← hx] at x1 x2 x3 ⊢
  have hcq : cnt (fq s (q + 1)) q = q := cnt_all fun i hi => fq_low (by omega)
  have hcq1 : cnt (fq s (q + 1)) (q + 1) = q + 1 := cnt_all fun i hi => fq_low hi
  have hsk : (a < q → skq q a = a) ∧ (q ≤ a → skq q a = a + 1) := by unfold skq; exact ⟨fun z => if_pos z, fun z => if_neg (by omega)⟩
  have hxq : x ≠ q := fun z => by
    rw [z, hcq] at x3
    by_cases y : a < q
    · rw [hsk.1 y] at x3; omega
    · rw [hsk.2 (by omega)] at x3; omega
  have hfx : fq s q x = true := by rw [← fq_other hxq]; exact x2
  have hcx : cnt (fq s q) x = a := by
    by_cases hlt : x < q
    · have e1 : cnt (fq s (q + 1)) x = x := cnt_all fun i hi => fq_low (by omega)
      have e2 : cnt (fq s q) x = x := cnt_all fun i hi => fq_low (by omega)
      rw [e1] at x3
      by_cases y : a < q
      · rw [hsk.1 y] at x3; omega
      · rw [hsk.2 (by omega)] at x3; omega
    · have e1 := fq_cnt (n := x) (by omega) h
      have e2 := cnt_pref (fq s (q + 1)) (show q + 1 ≤ x by omega)
      by_cases y : a < q
      · rw [hsk.1 y] at x3; omega
      · rw [hsk.2 (by omega)] at x3; omega
  have := sel_at x1 hfx
  rw [hcx] at this
  exact this
theorem part_step {s q n L : Nat} (hn : n < 8) (hq : q < n) (h : s.testBit q = false) : part (cnt (fq s (q + 1)) n) (partF n L (fq s (q + 1))) (drS (cnt (fq s (q + 1)) n) q) = partF n L (fq s q) := by
  have hc := fq_cnt hq h
  have hge := fq_ge (s := s) (q := q + 1) (n := n) (by omega)
  have hle := cnt_le (fq s (q + 1)) n
  obtain ⟨m, hm⟩ : ∃ m, m = cnt (fq s (q + 1)) n := ⟨_, rfl⟩
  rw [← hm] at hc hge hle ⊢
  have hd : cnt (drS m q).testBit m = m - 1 := drop_cnt _ (by omega) q (by omega)
  refine net_ext' (n := m - 1) (by omega) ?_ ?_ fun a ha b hb => ?_
  · have := part_lt' m (partF n L (fq s (q + 1))) (drS m q); rwa [hd] at this
  · have := mk_lt (cnt (fq s q) n) fun h l => adj L (sel (fq s q) n h) (sel (fq s q) n l)
    rw [show m - 1 = cnt (fq s q) n by omega]; exact this
  · have s1 : skq q a < m := by unfold skq; split <;> omega
    have s2 : skq q b < m := by unfold skq; split <;> omega
    rw [part_adj (by omega) (by omega) (by omega), sel_dr m (by omega) q (by omega) a (by omega), sel_dr m (by omega) q (by omega) b (by omega), partF_adj hn (by omega) (by omega), partF_adj hn (by omega) (by omega), sel_fq hq h (by omega), sel_fq hq h (by omega)]
theorem y_dropLoop {m X p : Nat} {v1 : Int32} {M : zM} (K : zM → Option (Int32 × zM)) (hC : zC M) (hN : NrH m X M) (hm : m < 8) (hp : p < m) : ∃ M', Fz atN M M' ∧ NrH (m - 1) (part m X (drS m p)) M' ∧ fp_X11_hasModel_L33 (fun M15 =>
                (zgI 9 M15 46 0).bind fun (y16 : Int32) =>
                (zpI 9 M15 46 0 (y16 - 1)).bind fun (M17 : zM) =>
                K M17) 46 v1 (nI p) FU 0 M = K M' := by
  rw [n_0]
  refine up (P := fun i f => ∀ M2, Fz at47 M M2 → DrI m X p i M2 → ∃ M', Fz atN M M' ∧ NrH (m - 1) (part m X (drS m p)) M' ∧ fp_X11_hasModel_L33 (fun M15 =>
                (zgI 9 M15 46 0).bind fun (y16 : Int32) =>
                (zpI 9 M15 46 0 (y16 - 1)).bind fun (M17 : zM) =>
                K M17) 46 v1 (nI p) f (nI i) M2 = K M') (a := 0) (n := m) ?_ ?_ FU (by omega) (FU_gt (by omega)) M Fz_refl ⟨fun j hj _ => hN.2 j hj, fun j hj hc => by split at hc <;> omega⟩
  · intro f M2 h1 h2
    have hC2 := Fz_C h1 hC
    have e0 : zI M2 46 0 = nI m := (n47 h1).trans hN.1
    have f3 : Fz atN M (zsI M2 46 0 (nI (m - 1))) := Fz_trans (Fz_mono h1 fun a k q => Or.inl q) (Fz_sI (Or.inr ⟨rfl, rfl⟩))
    refine ⟨zsI M2 46 0 (nI (m - 1)), f3, ⟨zI_same _ _ _ _, fun j hj => ?_⟩, ?_⟩
    · rw [zI_other _ _ (Or.inl (by decide)), h2.2 j hj (by split <;> omega), row_drop hm hp hj]
    · rw [fp_X11_hasModel_L33, gI_46 hC2 0, Option.bind_some, e0, stp, Option.bind_some, dec1 (by omega), pI_46 hC2, Option.bind_some]
  · intro i f _ hi ih M2 h1 h2
    have hC2 := Fz_C h1 hC
    have e0 : zI M2 46 0 = nI m := (n47 h1).trans hN.1
    have nx := ih _ (Fz_trans h1 (Fz_sI (k := if i ≤ p then i else i - 1) (v := nI (wot (row m X i) p)) rfl)) (DrI_s hi h2)
    have post : ∀ x, x < 8 → ((zgR 9 M2 46 2).bind fun (y11 : Nat) =>
          (zlI 100 M2 y11 (nI i)).bind fun (y12 : Int32) =>
          (fp_X11_without y12 (nI p)).bind fun (y13 : Int32) =>
          (ztI M2 47 (nI x) y13).bind fun (M14 : zM) =>
          fp_X11_hasModel_L33 (fun M15 =>
                (zgI 9 M15 46 0).bind fun (y16 : Int32) =>
                (zpI 9 M15 46 0 (y16 - 1)).bind fun (M17 : zM) =>
                K M17) 46 v1 (nI p) f (nI i + 1) M14) = fp_X11_hasModel_L33 (fun M15 =>
                (zgI 9 M15 46 0).bind fun (y16 : Int32) =>
                (zpI 9 M15 46 0 (y16 - 1)).bind fun (M17 : zM) =>
                K M17) 46 v1 (nI p) f (nI (i + 1)) (zsI M2 47 x (nI (wot (row m X i) p))) := fun x hx => by
      rw [gR_46_2 hC2, Option.bind_some, lI_47 hC2 (show i < 8 by omega), Option.bind_some, h2.1 i hi (Nat.le_refl _), y_without _ (lt128 hm (row_lt _ _ _)) _ (by omega), Option.bind_some, tI_47 hC2 hx, Option.bind_some, inc]
    rw [fp_X11_hasModel_L33, gI_46 hC2 0, Option.bind_some, e0, go hi (by omega), gR_46_2 hC2, Option.bind_some, ← gR_46_2 hC2, zjn_eq]
    by_cases hip : i ≤ p
    · rw [if_pos hip] at nx
      rw [if_pos (show nI i ≤ nI p by rw [n_le (by omega) (by omega)]; exact hip)]
      dsimp only
      rw [post i (by omega)]
      exact nx
    · rw [if_neg hip] at nx
      rw [if_neg (show ¬ nI i ≤ nI p by rw [n_le (by omega) (by omega)]; exact hip), dec1 (by omega)]
      dsimp only
      rw [post (i - 1) (by omega)]
      exact nx
abbrev atH : Nat → Nat → Prop := fun a k => 64 ≤ a ∧ a ≤ 69 ∨ a = 47 ∨ (a = 46 ∧ (k = 0 ∨ (36 ≤ k ∧ k ≤ 44)))
theorem IR_H {S : zSt} {M M' : zM} (h : IR S M) (hf : Fz atH M M') (hN : NrH (sN S) (sL S) M') : IR S M' := by
  obtain ⟨h1, h2, h3, h4, h5, h6, h7, h8⟩ := h
  exact ⟨h1, Fz_C hf h2, hN, (hf.2 _ _ (by omega)).trans h4, ⟨(hf.2 _ _ (by omega)).trans h5.1, fun i hi => (hf.2 _ _ (by omega)).trans (h5.2 i hi)⟩, flR_z h6 hf (by omega) (by omega), ⟨(hf.2 _ _ (by omega)).trans h7.1, fun i hi => NtH_z (h7.2 i hi) hf (fun k => by omega)⟩, fun k hk => imR_z (h8 k hk) hf (fun k => by omega) (fun k => by omega)⟩
theorem y_hasModel {n L s : Nat} {M : zM} (hC : zC M) (hN : NrH n L M) (hn : n < 8) (hL : L < 2 ^ tri n) (hs : s < 2 ^ n) : ∃ M', fp_X11_hasModel 46 (nI s) M = some (bI (hasM n L s), M') ∧ Fz atH M M' ∧ NrH n L M' := by
  unfold fp_X11_hasModel
  have hs1 := lt128 hn hs
  obtain ⟨M2, e1, e2, e3⟩ := y_puts (a := 69) (b := 0) hC hN hn (by decide) (by decide) (by decide) rfl (L69 hC) (by decide) (by decide)
  have e1' : fp_X11_puts 46 69 0 M = some M2 := by rw [n_0]; exact e1
  have hC2 := Fz_C e3 hC
  have hN2 : NrH n L M2 := NrH_z hN e3 (by omega) (fun k => by omega)
  have f2 : Fz atH M M2 := Fz_mono e3 fun a k q => by omega
  rw [ts_46 hC, gR_46_45 hC, Option.bind_some, e1', Option.bind_some, gI_46 hC2 0, Option.bind_some, hN2.1, lett_eq]
  obtain ⟨K, hK⟩ : ∃ K : zM → Option (Int32 × zM), K = fun M18 =>
        (zpI 9 M18 46 39 4).bind fun (M19 : zM) =>
        (fp_X11_goes 46 (-1) M19).bind fun p22 => zpp p22 fun (y20 : Int32) (M21 : zM) =>
        zjn (fun (s23 : Int32) =>
            (zgR 9 M21 46 45).bind fun (y24 : Nat) =>
            (fp_X11_brings 46 y24 0 M21).bind fun (M25 : zM) =>
            (zb s23).bind fun (r : Int32) => some (r, M25))
          (fun j108 =>
            if y20 ≤ 0 then (
              j108 0)
            else (
              j108 1)) := ⟨_, rfl⟩
  rw [← hK]
  -- the search, the network again
  have fin : ∀ M18, Fz atH M M18 → NtH 69 0 (n, L) M18 → NrH (cnt s.testBit n) (part n L s) M18 → ∃ M', K M18 = some (bI (hasM n L s), M') ∧ Fz atH M M' ∧ NrH n L M' := by
    intro M18 g1 g2 g3
    have hC18 := Fz_C g1 hC
    have hm8 : cnt s.testBit n < 8 := by have := cnt_le s.testBit n; omega
    have h4 : ((4, 0, 0, []) : Qst).1 = 4 := rfl
    have f19 : Fz atH M (zsI M18 46 39 4) := Fz_trans g1 (Fz_sI (by omega))
    have hN19 : NrH (cnt s.testBit n) (part n L s) (zsI M18 46 39 4) := NrH_z (P := fun a k => a = 46 ∧ k = 39) g3 (Fz_sI ⟨rfl, rfl⟩) (by omega) (fun k => by omega)
    obtain ⟨M21, a1, a2, a3⟩ := y_goes (L := part n L s) (qq := (4, 0, 0, [])) (wv := -1) (M := zsI M18 46 39 4) hC18 hN19 hm8 ⟨by rw [zI_same]; exact n_4, by show 4 < 5; decide, fun q => absurd q (by show ¬ 4 = 1; decide), fun q => absurd q (by show ¬ 4 = 2; decide), fun q => absurd q (by show ¬ 4 = 3; decide)⟩
    have hPQ : PQ (cnt s.testBit n) (part n L s) (4, 0, 0, []) = vB (cnt s.testBit n) (part n L s) := funext fun w => by unfold PQ; rw [if_pos h4]
    rw [g0_any h4, hPQ, Vs_empty] at a1
    have hC21 := Fz_C a2 hC18
    have f21 : Fz atH M M21 := Fz_trans f19 (Fz_mono a2 fun a k q => by omega)
    have hT : NtH 69 0 (n, L) M21 := NtH_z (NtH_z (P := fun a k => a = 46 ∧ k = 39) g2 (Fz_sI ⟨rfl, rfl⟩) (fun k => by omega)) a2 (fun k => by omega)
    obtain ⟨M25, b1, b2, b3⟩ := y_brings (a := 69) (b := 0) hC21 hT hn (by decide) (by decide) (by decide) rfl (L69 hC21) (by decide) (by decide)
    have b1' : fp_X11_brings 46 69 0 M21 = some M25 := by rw [n_0]; exact b1
    have f25 : Fz atH M M25 := Fz_trans f21 (Fz_mono b3 fun a k q => by omega)
    refine ⟨M25, ?_, f25, b2⟩
    rw [hK]
    dsimp only
    rw [pI_46 hC18, Option.bind_some, a1, Option.bind_some, zpp_mk, zjn_eq]
    unfold hasM
    cases (Mods (cnt s.testBit n) (part n L s)).isEmpty with
    | true =>
      rw [Bool.not_true, b_ff, if_pos (show (0 : Int32) ≤ 0 by decide)]
      dsimp only
      rw [gR_46_45 hC21, Option.bind_some, b1', Option.bind_some]; rfl
    | false =>
      rw [Bool.not_false, b_tt, if_neg (show ¬ (1 : Int32) ≤ 0 by decide)]
      dsimp only
      rw [gR_46_45 hC21, Option.bind_some, b1', Option.bind_some]; rfl
  -- down
  have down : ∀ q f M3, q ≤ n → q < f → Fz atH M M3 → NtH 69 0 (n, L) M3 → NrH (cnt (fq s q) n) (partF n L (fq s q)) M3 → ∃ M', fp_X11_hasModel_L16 K 46 (nI s) f (nI q - 1) M3 = some (bI (hasM n L s), M') ∧ Fz atH M M' ∧ NrH n L M' := by
    intro q
    induction q with
    | zero =>
      intro f M3 _ hf g1 g2 g3
      obtain ⟨f, rfl⟩ : ∃ g, f = g + 1 := ⟨f - 1, by omega⟩
      have e0 : fq s 0 = s.testBit := by funext i; unfold fq; rw [decide_eq_false (Nat.not_lt_zero _), Bool.false_or]
      rw [e0] at g3
      rw [fp_X11_hasModel_L16, if_pos (by decide)]
      exact fin M3 g1 g2 g3
    | succ q ih =>
      intro f M3 hq hf g1 g2 g3
      obtain ⟨f, rfl⟩ : ∃ g, f = g + 1 := ⟨f - 1, by omega⟩
      have hC3 := Fz_C g1 hC
      have hle := cnt_le (fq s (q + 1)) n
      have hd : nI q + -1 = nI q - 1 := (Int32.sub_eq_add_neg _ _).symm
      rw [dec1 (by omega), Nat.add_sub_cancel, fp_X11_hasModel_L16, if_neg (by rw [n_lt0 (by omega)]; exact id), y_has1 hs1 (by omega), Option.bind_some, zjn_eq, hd]
      cases hb : s.testBit q with
      | true =>
        rw [fq_same hb] at g3
        rw [b_tt, if_neg (by decide)]
        exact ih f M3 (by omega) (by omega) g1 g2 g3
      | false =>
        have hge := fq_ge (s := s) (q := q + 1) (n := n) hq
        have hc := fq_cnt (n := n) (by omega) hb
        obtain ⟨M4, k1, k2, k3⟩ := y_dropLoop (v1 := nI s) (fun M6 => fp_X11_hasModel_L16 K 46 (nI s) f (nI q - 1) M6) hC3 g3 (show cnt (fq s (q + 1)) n < 8 by omega) (show q < cnt (fq s (q + 1)) n by omega)
        rw [part_step hn (by omega) hb, hc, Nat.add_sub_cancel] at k2
        rw [b_ff, if_pos rfl, k3]
        exact ih f M4 (by omega) (by omega) (Fz_trans g1 (Fz_mono k1 fun a k z => by omega)) (NtH_z g2 k1 (fun k => by omega)) k2
  have hall : ∀ i, i < n → fq s n i = true := fun i hi => fq_low hi
  refine down n FU M2 (Nat.le_refl _) (FU_gt (by omega)) f2 e2 ?_
  rw [cnt_all hall, partF_all hn hL hall]
  exact hN2

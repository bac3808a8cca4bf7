/-! ===== 72: a whole text read; the state told, the class' hold on it ===== -/
theorem zRc_34 : ∀ q ∈ zRc, ¬ (q.1 = 3 ∧ q.2.1 = 4) := by decide +kernel
theorem zC_34 {M : zM} {v : Option Nat} (h : zC M) : zC (zsR M 3 4 v) := by
  refine ⟨h.1, fun q hq => ?_, h.2.2⟩
  have := zRc_34 q hq
  show (if q.1 = 3 ∧ q.2.1 = 4 then v else zR M q.1 q.2.1) = _
  rw [if_neg this]; exact h.2.1 q hq
/-- a frame: all but the ints of some cells is as it was (and what the reader reads) -/
def Fk (S : Nat → Prop) (M M' : zM) : Prop := zJ M' = zJ M ∧ zL M' = zL M ∧ zS M' = zS M ∧ zU M' = zU M ∧ (∀ a k, ¬ (a = 3 ∧ k = 4) → zR M' a k = zR M a k) ∧ ∀ a, ¬ S a → ∀ k, zI M' a k = zI M a k
theorem Fk_of {S : Nat → Prop} {M M' : zM} (h : Fc S M M') : Fk S M M' :=
  ⟨congrArg (fun x => x.1) h.1, congrArg (fun x => x.2.2.1) h.1, congrArg (fun x => x.2.2.2.1) h.1, congrArg (fun x => x.2.2.2.2) h.1, fun a k _ => congrFun (congrFun (congrArg (fun x => x.2.1) h.1) a) k, fun _ ha k => Fc_I h ha k⟩
theorem Fk_trans {S : Nat → Prop} {M M' M'' : zM} (h : Fk S M M') (h' : Fk S M' M'') : Fk S M M'' :=
  ⟨h'.1.trans h.1, h'.2.1.trans h.2.1, h'.2.2.1.trans h.2.2.1, h'.2.2.2.1.trans h.2.2.2.1, fun a k q => (h'.2.2.2.2.1 a k q).trans (h.2.2.2.2.1 a k q), fun a ha k => (h'.2.2.2.2.2 a ha k).trans (h.2.2.2.2.2 a ha k)⟩
theorem Fk_mono {S T : Nat → Prop} {M M' : zM} (h : Fk S M M') (hs : ∀ a, S a → T a) : Fk T M M' := ⟨h.1, h.2.1, h.2.2.1, h.2.2.2.1, h.2.2.2.2.1, fun a ha => h.2.2.2.2.2 a fun q => ha (hs a q)⟩
theorem Fk_C {S : Nat → Prop} {M M' : zM} (h : Fk S M M') (hc : zC M) : zC M' := by
  obtain ⟨h1, h2, h3, h4, h5, h6⟩ := h
  refine ⟨by rw [h3]; exact hc.1, fun q hq => ?_, fun q hq => by rw [h2]; exact hc.2.2 q hq⟩
  rw [h5 _ _ (zRc_34 q hq)]; exact hc.2.1 q hq
theorem c_read {T : List Nat} {m : Nat} {M : zM} (hC : zC M) (hT : TpH T M) (h200 : T.length ≤ 200) (h256 : ∀ x ∈ T, x < 256) (hm : m ≤ T.length) :
    ∃ M', fp_X4_read 3 2 (nI m) M = some M' ∧ EdH (txS (T.take m)) M' ∧ Fk at3 M M' := by
  unfold fp_X4_read
  obtain ⟨M1, hM1⟩ : ∃ M1, M1 = zsR M 3 4 (some 2) := ⟨_, rfl⟩
  have hp : zpR 3 M 3 4 2 = some M1 := by rw [hM1]; exact if_pos ⟨zC_lt hC (by decide), rfl⟩
  have hC1 : zC M1 := by rw [hM1]; exact zC_34 hC
  have hlt : (T.take m).length = m := by rw [List.length_take]; omega
  rw [ts_3 hC, hp, Option.bind_some, ln_2 hC1, Option.bind_some, n_min (by omega) (by omega), Nat.min_eq_left (by omega), pI_3 hC1, Option.bind_some, pI_3 (by exact hC1), Option.bind_some, pI_3 (by exact hC1), Option.bind_some, pI_3 (by exact hC1), Option.bind_some, pI_3 (by exact hC1), Option.bind_some, pI_3 (by exact hC1), Option.bind_some]
  obtain ⟨M8, hM8⟩ : ∃ M8, M8 = zsI (zsI (zsI (zsI (zsI (zsI M1 3 5 (nI m)) 3 0 0) 3 1 0) 3 2 0) 3 3 (-1)) 3 8 0 := ⟨_, rfl⟩
  rw [← hM8]
  have hC8 : zC M8 := by rw [hM8]; exact hC1
  have f8 : Fc at3 M1 M8 := by
    rw [hM8]
    exact Fc_trans (Fc_trans (Fc_trans (Fc_trans (Fc_trans (Fc_sI (Or.inl rfl)) (Fc_sI (Or.inl rfl))) (Fc_sI (Or.inl rfl))) (Fc_sI (Or.inl rfl))) (Fc_sI (Or.inl rfl))) (Fc_sI (Or.inl rfl))
  have g : ∀ k v, k ≠ 3 → zI M8 k v = zI M k v := fun k v hk => by
    rw [hM8]
    simp only [zI_sI, hk, false_and, if_false]
    rw [hM1]; rfl
  have hTx : TxH (T.take m) M8 := by
    refine ⟨hC8, ?_, ?_, by rw [hlt]; omega, fun i hi => ?_⟩
    · rw [hM8, hM1]; rfl
    · rw [hM8, hlt]; simp [zI_sI]
    · rw [hlt] at hi
      rw [g 2 i (by decide), hT.2 i (by omega)]
      simp [List.getD, List.getElem?_take, hi]
  have hRd : RdH 0 0 M8 := by
    unfold RdH
    rw [hM8]
    simp [zI_sI, n_0]
  have h38 : zI M8 3 8 = nI 0 := by rw [hM8]; simp [zI_sI, n_0]
  have h256' : ∀ x ∈ T.take m, x < 256 := fun x hx => h256 x (List.mem_of_mem_take hx)
  obtain ⟨M', e1, e2, e3⟩ := c_readAll h256' m 0 999999999 0 0 0 M8 (by rw [hlt]; omega) (by omega) (Nat.le_refl _) (Nat.zero_le _) hTx hRd (by decide) (by decide) h38
  refine ⟨M', ?_, ?_, ?_⟩
  · rw [n_0]; exact e1
  · unfold txS; rw [hlt]; exact e2
  · have f1 : Fk at3 M M1 := by
      rw [hM1]
      refine ⟨rfl, rfl, rfl, rfl, fun a k q => ?_, fun a _ k => rfl⟩
      show (if a = 3 ∧ k = 4 then some 2 else zR M a k) = _
      rw [if_neg q]
    exact Fk_trans f1 (Fk_of (Fc_trans f8 e3))
/-! the state that is told -/
/-- points, network, status, tape, acts, images, what load said -/
abbrev zSt : Type := Nat × Nat × Int32 × List Nat × List (Nat × Nat) × (Nat → Option (Nat × Nat)) × Option (Int32 × Int32)
def sN (S : zSt) : Nat := S.1
def sL (S : zSt) : Nat := S.2.1
def sS (S : zSt) : Int32 := S.2.2.1
def sT (S : zSt) : List Nat := S.2.2.2.1
def sA (S : zSt) : List (Nat × Nat) := S.2.2.2.2.1
def sI (S : zSt) : Nat → Option (Nat × Nat) := S.2.2.2.2.2.1
def sQ (S : zSt) : Option (Int32 × Int32) := S.2.2.2.2.2.2
def okN (q : Nat × Nat) : Prop := q.1 < 8 ∧ q.2 < 2 ^ tri q.1
def okZ (S : zSt) : Prop := okN (sN S, sL S) ∧ (sT S).length ≤ 200 ∧ (∀ x ∈ sT S, x < 256) ∧ (sA S).length ≤ 12 ∧ (∀ q ∈ sA S, okN q) ∧ ∀ k q, sI S k = some q → okN q
/-- the status put, the network put, an act -/
def stS (S : zSt) (k : Int32) : zSt := (sN S, sL S, k, sT S, sA S, sI S, sQ S)
def nwS (S : zSt) (n L : Nat) (A : List (Nat × Nat)) : zSt := (n, L, sS S, sT S, A, sI S, sQ S)
def bcS (S : zSt) (n L : Nat) : zSt := nwS S n L (pushA (sA S) (sN S, sL S))
def tpS (S : zSt) (T : List Nat) : zSt := (sN S, sL S, sS S, T, sA S, sI S, sQ S)
def rf (S : zSt) (k : Int32) : Int32 × zSt := (-1, stS S k)
def gv (S : zSt) (v : Int32) : Int32 × zSt := (v, stS S 0)
/-- a number from 0 on, below so many -/
def asN (v : Int32) (n : Nat) : Option Nat := if ¬ v < 0 ∧ v.toNatClampNeg < n then some v.toNatClampNeg else none
theorem asN_some {v : Int32} {n j : Nat} (h : asN v n = some j) : v = nI j ∧ j < n ∧ j < 2 ^ 31 := by
  unfold asN at h
  split at h
  · rename_i hc
    obtain ⟨i, hi, rfl⟩ := n_of hc.1
    rw [n_clamp hi] at h hc
    cases h
    exact ⟨rfl, hc.2, hi⟩
  · cases h
theorem asN_none {v : Int32} {n : Nat} (h : asN v n = none) : v < 0 ∨ ∃ j, v = nI j ∧ n ≤ j ∧ j < 2 ^ 31 := by
  unfold asN at h
  split at h
  · cases h
  · rename_i hc
    by_cases h0 : v < 0
    · exact Or.inl h0
    · obtain ⟨i, hi, rfl⟩ := n_of h0
      rw [n_clamp hi] at hc
      exact Or.inr ⟨i, rfl, by
        by_cases z : n ≤ i
        · exact z
        · exact absurd ⟨h0, by omega⟩ hc, hi⟩
theorem asN_n {j n : Nat} (h : j < n) (hj : j < 2 ^ 31) : asN (nI j) n = some j := by
  unfold asN
  rw [n_clamp hj, if_pos ⟨nI_pos hj, h⟩]
/-- the three Models: where their words lie, the stamps, the room that is left -/
def IM (r : Nat × Nat × Nat) (st t : Nat) (M : zM) : Prop :=
  MO 23 r.1 M ∧ MO 28 r.2.1 M ∧ MO 33 r.2.2 M ∧ (r.1 ≠ r.2.1 ∧ r.1 ≠ r.2.2 ∧ r.2.1 ≠ r.2.2) ∧ StH 23 st M ∧ st ≤ 80000 * t ∧
  zS M + lv (zL M r.1) + lv (zL M r.2.1) + lv (zL M r.2.2) ≤ 600000 ∧ zU M + lu (zL M r.1) + lu (zL M r.2.1) + lu (zL M r.2.2) ≤ 7302250
def imC (q : Option (Nat × Nat)) : Int32 := match q with | none => -1 | some q => nI (cdN q)
def flC (f : Option (Int32 × Int32)) (M : zM) : Prop := match f with | none => zI M 0 3 = 0 | some q => zI M 0 3 = 1 ∧ zI M 3 2 = q.1 ∧ zI M 3 3 = q.2
def IB (S : zSt) (M : zM) : Prop := zI M 0 0 = sS S ∧ zI M 0 1 = nI (sN S) ∧ zI M 0 2 = nI (sL S) ∧ flC (sQ S) M ∧ TpH (sT S) M ∧ UnH (sA S) M ∧ ∀ k, k < 3 → zI M 8 k = imC (sI S k)
def IC (S : zSt) (t : Nat) (M : zM) : Prop := okZ S ∧ zC M ∧ IB S M ∧ TuO M ∧ ∃ r st, IM r st t M
/-- the reference's cells are as they were -/
def Rk (M M' : zM) : Prop := ∀ a, 46 ≤ a → a < 72 → ∀ k, zI M' a k = zI M a k
theorem Rk_refl {M : zM} : Rk M M := fun _ _ _ _ => rfl
theorem Rk_trans {M M' M'' : zM} (h : Rk M M') (h' : Rk M' M'') : Rk M M'' := fun a h1 h2 k => (h' a h1 h2 k).trans (h a h1 h2 k)
theorem Rk_k {S : Nat → Prop} {M M' : zM} (h : Fk S M M') (hs : ∀ a, 46 ≤ a → a < 72 → ¬ S a) : Rk M M' := fun a h1 h2 k => h.2.2.2.2.2 a (hs a h1 h2) k
/-- what is no state: scratch, and all of the reference's -/
abbrev scr : Nat → Prop := fun a => (9 ≤ a ∧ a ≤ 22) ∨ (42 ≤ a ∧ a < 72)
theorem MW_k {m r : Nat} {ws : List (List Nat)} {S : Nat → Prop} {M M' : zM} (hm : zMo m) (hf : Fk S M M') (h0 : ¬ S m) (h : MW m r ws M) : MW m r ws M' := by
  obtain ⟨f1, f2, f3, f4, f5, f6⟩ := hf
  obtain ⟨q1, q2, q3, q4, q5, q6, q7, q8⟩ := h
  exact ⟨by rw [f5 m 1 (fun z => absurd z.2 (by decide))]; exact q1, q2, by rw [f3]; exact q3, q4, by rw [f6 m h0 0]; exact q5, by rw [f1]; exact q6, by rw [f2]; exact q7, by rw [f2]; exact q8⟩
theorem MO_k {m r : Nat} {S : Nat → Prop} {M M' : zM} (hm : zMo m) (hf : Fk S M M') (h0 : ¬ S m) (h : MO m r M) : MO m r M' := by
  have f6 := hf.2.2.2.2.2
  rcases h with ⟨h1, ws, h2⟩ | ⟨n, L, w, b1, b2, b3, h⟩
  · exact Or.inl ⟨by rw [f6 m h0 2]; exact h1, ws, MW_k hm hf h0 h2⟩
  · obtain ⟨q1, q2, q3, q4, q5⟩ := h
    exact Or.inr ⟨n, L, w, b1, b2, b3, by rw [f6 m h0 2]; exact q1, by rw [f6 m h0 3]; exact q2, by rw [f6 m h0 4]; exact q3, by rw [f6 m h0 5]; exact q4, MW_k hm hf h0 q5⟩
theorem IM_k {r : Nat × Nat × Nat} {st t : Nat} {S : Nat → Prop} {M M' : zM} (hf : Fk S M M') (h0 : ∀ a, 23 ≤ a → a ≤ 37 → ¬ S a) (h : IM r st t M) : IM r st t M' := by
  obtain ⟨h1, h2, h3, h4, h5, h6, h7, h8⟩ := h
  have f6 := hf.2.2.2.2.2
  refine ⟨MO_k (Or.inl rfl) hf (h0 _ (by decide) (by decide)) h1, MO_k (Or.inr (Or.inl rfl)) hf (h0 _ (by decide) (by decide)) h2, MO_k (Or.inr (Or.inr rfl)) hf (h0 _ (by decide) (by decide)) h3, h4, ⟨by rw [f6 23 (h0 _ (by decide) (by decide))]; exact h5.1, fun j hj => ?_⟩, h6, ?_, ?_⟩
  · obtain ⟨v, hv, e⟩ := h5.2 j hj
    exact ⟨v, hv, by rw [f6 _ (h0 _ (by decide) (by decide))]; exact e⟩
  · rw [hf.2.1, hf.2.2.1]; exact h7
  · rw [hf.2.1, hf.2.2.2.1]; exact h8
theorem TuO_k {S : Nat → Prop} {M M' : zM} (hf : Fk S M M') (h0 : ∀ a, 38 ≤ a → a ≤ 40 → ¬ S a) (h : TuO M) : TuO M' := by
  have f6 := hf.2.2.2.2.2
  have a38 := h0 38 (by decide) (by decide)
  rcases h with h | ⟨n, L, b1, b2, h1, h2, h3, h4⟩
  · exact Or.inl (by rw [f6 38 a38]; exact h)
  · exact Or.inr ⟨n, L, b1, b2, by rw [f6 38 a38]; exact h1, by rw [f6 38 a38]; exact h2, by rw [f6 38 a38]; exact h3, fun i hi => ⟨by rw [f6 39 (h0 39 (by decide) (by decide))]; exact (h4 i hi).1, by rw [f6 40 (h0 40 (by decide) (by decide))]; exact (h4 i hi).2⟩⟩
theorem flC_k {f : Option (Int32 × Int32)} {S : Nat → Prop} {M M' : zM} (hf : Fk S M M') (h0 : ∀ a, a ≤ 8 → ¬ S a) (h : flC f M) : flC f M' := by
  have f6 := hf.2.2.2.2.2
  cases f with
  | none => exact (f6 0 (h0 0 (by decide)) 3).trans h
  | some q => exact ⟨(f6 0 (h0 0 (by decide)) 3).trans h.1, (f6 3 (h0 3 (by decide)) 2).trans h.2.1, (f6 3 (h0 3 (by decide)) 3).trans h.2.2⟩
theorem TpH_k {l : List Nat} {S : Nat → Prop} {M M' : zM} (hf : Fk S M M') (h1 : ¬ S 1) (h2 : ¬ S 2) (h : TpH l M) : TpH l M' := by
  have f6 := hf.2.2.2.2.2
  exact ⟨by rw [f6 1 h1]; exact h.1, fun i hi => by rw [f6 2 h2]; exact h.2 i hi⟩
theorem UnH_k {l : List (Nat × Nat)} {S : Nat → Prop} {M M' : zM} (hf : Fk S M M') (h1 : ¬ S 6) (h2 : ¬ S 7) (h : UnH l M) : UnH l M' := by
  have f6 := hf.2.2.2.2.2
  exact ⟨by rw [f6 6 h1]; exact h.1, fun i hi => by rw [f6 7 h2]; exact h.2 i hi⟩
theorem IB_k {S : zSt} {W : Nat → Prop} {M M' : zM} (hf : Fk W M M') (h0 : ∀ a, a ≤ 8 → ¬ W a) (h : IB S M) : IB S M' := by
  have f6 := hf.2.2.2.2.2
  obtain ⟨h1, h2, h3, h4, h5, h6, h7⟩ := h
  have a0 := h0 0 (by decide)
  exact ⟨by rw [f6 0 a0]; exact h1, by rw [f6 0 a0]; exact h2, by rw [f6 0 a0]; exact h3, flC_k hf h0 h4, TpH_k hf (h0 1 (by decide)) (h0 2 (by decide)) h5, UnH_k hf (h0 6 (by decide)) (h0 7 (by decide)) h6, fun k hk => by rw [f6 8 (h0 8 (by decide))]; exact h7 k hk⟩
theorem IC_k {S : zSt} {t : Nat} {M M' : zM} (h : IC S t M) (hf : Fk scr M M') : IC S t M' := by
  obtain ⟨h1, h2, h3, h4, r, st, h5⟩ := h
  exact ⟨h1, Fk_C hf h2, IB_k hf (fun a ha q => by rcases q with q | q <;> omega) h3, TuO_k hf (fun a h1 h2 q => by rcases q with q | q <;> omega) h4, r, st, IM_k hf (fun a h1 h2 q => by rcases q with q | q <;> omega) h5⟩
theorem IC_c {S : zSt} {t : Nat} {M M' : zM} {W : Nat → Prop} (h : IC S t M) (hf : Fc W M M') (hw : ∀ a, W a → scr a) : IC S t M' := IC_k h (Fk_of (Fc_mono hf hw))
theorem IC_mono {S : zSt} {t t' : Nat} {M : zM} (h : IC S t M) (ht : t ≤ t') : IC S t' M := by
  obtain ⟨h1, h2, h3, h4, r, st, h5⟩ := h
  obtain ⟨a1, a2, a3, a4, a5, a6, a7, a8⟩ := h5
  exact ⟨h1, h2, h3, h4, r, st, a1, a2, a3, a4, a5, by omega, a7, a8⟩
theorem IC_C {S : zSt} {t : Nat} {M : zM} (h : IC S t M) : zC M := h.2.1
theorem IC_n {S : zSt} {t : Nat} {M : zM} (h : IC S t M) : zI M 0 1 = nI (sN S) ∧ sN S < 8 := ⟨h.2.2.1.2.1, h.1.1.1⟩
theorem IC_L {S : zSt} {t : Nat} {M : zM} (h : IC S t M) : zI M 0 2 = nI (sL S) ∧ sL S < 2 ^ tri (sN S) := ⟨h.2.2.1.2.2.1, h.1.1.2⟩
theorem sI_k {M : zM} {k : Nat} {v : Int32} : Fk (fun a => a = 0) M (zsI M 0 k v) := Fk_of (Fc_sI rfl)
theorem IC_st {S : zSt} {t : Nat} {M : zM} {k : Int32} (h : IC S t M) : IC (stS S k) t (zsI M 0 0 k) := by
  obtain ⟨h1, h2, ⟨b1, b2, b3, b4, b5, b6, b7⟩, h4, r, st, h5⟩ := h
  refine ⟨h1, h2, ⟨zI_same _ _ _ _, (zI_other _ _ (Or.inr (by decide))).trans b2, (zI_other _ _ (Or.inr (by decide))).trans b3, ?_, TpH_k sI_k (by decide) (by decide) b5, UnH_k sI_k (by decide) (by decide) b6, fun k hk => (zI_other _ _ (Or.inl (by decide))).trans (b7 k hk)⟩, TuO_k sI_k (fun a h1 h2 => by omega) h4, r, st, IM_k sI_k (fun a h1 h2 => by omega) h5⟩
  show flC (sQ S) _
  cases hF : sQ S with
  | none => rw [hF] at b4; exact (zI_other _ _ (Or.inr (by decide))).trans b4
  | some q => rw [hF] at b4; exact ⟨(zI_other _ _ (Or.inr (by decide))).trans b4.1, (zI_other _ _ (Or.inl (by decide))).trans b4.2.1, (zI_other _ _ (Or.inl (by decide))).trans b4.2.2⟩
theorem Rk_0 {M : zM} {k : Nat} {v : Int32} : Rk M (zsI M 0 k v) := fun a h1 _ k => zI_other _ _ (Or.inl (by omega))
/-- what a call comes to -/
def CM {α : Type} (t : Nat) (q : α × zSt) (o : Option (α × zM)) (M : zM) : Prop := ∃ M', o = some (q.1, M') ∧ IC q.2 (t + 1) M' ∧ Rk M M'
theorem x_answer {S : zSt} {t : Nat} {M : zM} (h : IC S t M) (v : Int32) : fp_X10_answer 0 v M = some (v, zsI M 0 0 0) := by
  unfold fp_X10_answer
  rw [ts_0 (IC_C h), pI_0 (IC_C h), Option.bind_some]
theorem x_refuse {S : zSt} {t : Nat} {M : zM} (h : IC S t M) (k : Int32) : fp_X10_refuse 0 k M = some (-1, zsI M 0 0 k) := by
  unfold fp_X10_refuse
  rw [ts_0 (IC_C h), pI_0 (IC_C h), Option.bind_some]
theorem x_gv {S : zSt} {t t' : Nat} {M M1 : zM} {v : Int32} (h : IC S t' M1) (ht : t' ≤ t + 1) (hr : Rk M M1) : CM t (gv S v) ((fp_X10_answer 0 v M1).bind fun p => zpp p fun (y : Int32) (M2 : zM) => some (y, M2)) M := by
  rw [x_answer h]
  exact ⟨_, rfl, IC_mono (IC_st h) ht, Rk_trans hr Rk_0⟩
theorem x_rf {S : zSt} {t t' : Nat} {M M1 : zM} {k : Int32} (h : IC S t' M1) (ht : t' ≤ t + 1) (hr : Rk M M1) : CM t (rf S k) ((fp_X10_refuse 0 k M1).bind fun p => zpp p fun (y : Int32) (M2 : zM) => some (y, M2)) M := by
  rw [x_refuse h]
  exact ⟨_, rfl, IC_mono (IC_st h) ht, Rk_trans hr Rk_0⟩
theorem pushA_len {l : List (Nat × Nat)} {q : Nat × Nat} (h : l.length ≤ 12) : (pushA l q).length ≤ 12 := by
  unfold pushA
  split
  · simp; omega
  · simp; omega
theorem pushA_mem {l : List (Nat × Nat)} {q x : Nat × Nat} (h : x ∈ pushA l q) : x ∈ l ∨ x = q := by
  unfold pushA at h
  rw [List.mem_append, List.mem_singleton] at h
  rcases h with h | h
  · split at h
    · exact Or.inl h
    · exact Or.inl (List.mem_of_mem_drop h)
  · exact Or.inr h
theorem x_become {S : zSt} {t n L : Nat} {M : zM} (h : IC S t M) (hn : n < 8) (hL : L < 2 ^ tri n) : ∃ M', fp_X10_become 0 (nI n) (nI L) M = some M' ∧ IC (bcS S n L) t M' ∧ Rk M M' ∧ sN (bcS S n L) = n ∧ sL (bcS S n L) = L := by
  unfold fp_X10_become
  have hC := IC_C h
  obtain ⟨g1, g2⟩ := IC_n h
  obtain ⟨g3, g4⟩ := IC_L h
  obtain ⟨⟨o1, o2, o3, o4, o5, o6⟩, h2, ⟨b1, b2, b3, b4, b5, b6, b7⟩, h4, r, st, h5⟩ := h
  obtain ⟨M1, e1, e2, e3⟩ := c_ukeep (q := (sN S, sL S)) hC b6 o4
  have e1' : fp_X9_keep 6 (nI (sN S <<< 21 ||| sL S)) M = some M1 := e1
  have hC1 := Fc_C e3 hC
  rw [ts_0 hC, gR_0_6 hC, Option.bind_some, gI_0 hC, Option.bind_some, gI_0 hC, Option.bind_some, g1, g3, c_code, Option.bind_some, e1', Option.bind_some, pI_0 hC1, Option.bind_some, pI_0 (by exact hC1), Option.bind_some]
  have hk : Fk (fun a => a = 6 ∨ a = 7 ∨ a = 0) M (zsI (zsI M1 0 1 (nI n)) 0 2 (nI L)) := Fk_of (Fc_trans (Fc_mono e3 fun a q => by rcases q with q | q <;> omega) (Fc_trans (Fc_sI (Or.inr (Or.inr rfl))) (Fc_sI (Or.inr (Or.inr rfl)))))
  have z0 : ∀ k, k ≠ 1 → k ≠ 2 → zI (zsI (zsI M1 0 1 (nI n)) 0 2 (nI L)) 0 k = zI M 0 k := fun k k1 k2 => by
    rw [zI_other _ _ (Or.inr k2), zI_other _ _ (Or.inr k1), Fc_I e3 (by decide)]
  refine ⟨_, rfl, ⟨⟨⟨hn, hL⟩, o2, o3, pushA_len o4, fun q hq => ?_, o6⟩, hC1, ⟨?_, ?_, ?_, ?_, ?_, ?_, ?_⟩, ?_, r, st, ?_⟩, ?_, rfl, rfl⟩
  · rcases pushA_mem hq with q1 | q1
    · exact o5 q q1
    · rw [q1]; exact o1
  · exact (z0 0 (by decide) (by decide)).trans b1
  · exact (zI_other _ _ (Or.inr (by decide))).trans (zI_same _ _ _ _)
  · exact zI_same _ _ _ _
  · show flC (sQ S) _
    cases hF : sQ S with
    | none => rw [hF] at b4; exact (z0 3 (by decide) (by decide)).trans b4
    | some q => rw [hF] at b4; exact ⟨(z0 3 (by decide) (by decide)).trans b4.1, (hk.2.2.2.2.2 3 (by decide) 2).trans b4.2.1, (hk.2.2.2.2.2 3 (by decide) 3).trans b4.2.2⟩
  · exact TpH_k hk (by decide) (by decide) b5
  · exact UnH_k (Fk_trans (sI_k (k := 1) (v := nI n)) (sI_k (k := 2) (v := nI L))) (by decide) (by decide) e2
  · exact fun k hk' => (hk.2.2.2.2.2 8 (by decide) k).trans (b7 k hk')
  · exact TuO_k hk (fun a h1 h2 => by omega) h4
  · exact IM_k hk (fun a h1 h2 => by omega) h5
  · exact Rk_k hk fun a h1 h2 => by omega

/-! ===== 63: all that comes of turning; the class' Turnings ===== -/
def hasT (l : List (Nat × Nat)) (x : Nat) : Bool := l.any fun q => q.1 == x
theorem hasT_iff {l : List (Nat × Nat)} {x : Nat} : hasT l x = true ↔ x ∈ l.map Prod.fst := by
  unfold hasT
  rw [List.any_eq_true, List.mem_map]
  constructor
  · rintro ⟨q, h1, h2⟩; exact ⟨q, h1, by simpa using h2⟩
  · rintro ⟨q, h1, h2⟩; exact ⟨q, h1, by simpa using h2⟩
def addT (l : List (Nat × Nat)) (x t : Nat) : List (Nat × Nat) := if hasT l x then l else l ++ [(x, t)]
def expT (n x t : Nat) (l : List (Nat × Nat)) : Nat → List (Nat × Nat)
  | 0 => l
  | p + 1 => addT (expT n x t l p) (turn n x p) (t + 1)
def bfsT (n : Nat) : Nat → Nat → List (Nat × Nat) → List (Nat × Nat)
  | 0, _, l => l
  | f + 1, i, l => if i < l.length then bfsT n f (i + 1) (expT n (l.getD i (0, 0)).1 (l.getD i (0, 0)).2 l n) else l
def Tl (n L : Nat) : List (Nat × Nat) := bfsT n 1097 0 [(L, 0)]
/-- in a closed class, each once, none further than so many -/
def OT (C : List Nat) (i : Nat) (l : List (Nat × Nat)) : Prop := (∀ q ∈ l, q.1 ∈ C ∧ q.2 ≤ i) ∧ (l.map Prod.fst).Nodup
theorem OT_len {C : List Nat} {i : Nat} {l : List (Nat × Nat)} (h : OT C i l) : l.length ≤ C.length := by
  have := len_inj (l.map Prod.fst) id C h.2 (fun _ _ _ _ h => h) (fun x hx => by
    obtain ⟨q, h1, rfl⟩ := List.mem_map.mp hx
    exact (h.1 q h1).1)
  rw [List.length_map] at this
  exact this
theorem OT_add {C : List Nat} {i x t : Nat} {l : List (Nat × Nat)} (h : OT C i l) (hx : x ∈ C) (ht : t ≤ i) : OT C i (addT l x t) := by
  unfold addT
  cases hb : hasT l x with
  | true => rw [if_pos rfl]; exact h
  | false =>
    rw [if_neg Bool.false_ne_true]
    refine ⟨fun q hq => ?_, ?_⟩
    · rcases List.mem_append.mp hq with hq | hq
      · exact h.1 q hq
      · have : q = (x, t) := by simpa using hq
        subst this
        exact ⟨hx, ht⟩
    · rw [List.map_append, List.nodup_append]
      refine ⟨h.2, by simp, fun a ha b hb2 => ?_⟩
      have : b = x := by simpa using hb2
      subst this
      intro hab
      subst hab
      rw [hasT_iff.mpr ha] at hb; cases hb
theorem addT_len (l : List (Nat × Nat)) (x t : Nat) : l.length ≤ (addT l x t).length := by
  unfold addT
  split
  · exact Nat.le_refl _
  · simp
theorem OT_exp {C : List Nat} {n i x t : Nat} {l : List (Nat × Nat)} (hC : ∀ x ∈ C, ∀ p, p < n → turn n x p ∈ C) (h : OT C i l) (hx : x ∈ C) (ht : t + 1 ≤ i) : ∀ m, m ≤ n → OT C i (expT n x t l m) := by
  intro m
  induction m with
  | zero => intro _; exact h
  | succ m ih => intro hm; exact OT_add (ih (by omega)) (hC x hx m (by omega)) ht
theorem OT_mono {C : List Nat} {i j : Nat} {l : List (Nat × Nat)} (h : OT C i l) (hij : i ≤ j) : OT C j l := ⟨fun q hq => ⟨(h.1 q hq).1, Nat.le_trans (h.1 q hq).2 hij⟩, h.2⟩
theorem getT_mem {l : List (Nat × Nat)} {i : Nat} (h : i < l.length) : l.getD i (0, 0) ∈ l := by
  simp only [List.getD, List.getElem?_eq_getElem h, Option.getD_some]
  exact List.getElem_mem h
theorem OT_bfs {C : List Nat} {n : Nat} (hC : ∀ x ∈ C, ∀ p, p < n → turn n x p ∈ C) : ∀ f i l, OT C i l → OT C (i + f) (bfsT n f i l) := by
  intro f
  induction f with
  | zero => intro i l h; exact h
  | succ f ih =>
    intro i l h
    rw [bfsT]
    split
    · rename_i hi
      have hm := h.1 _ (getT_mem hi)
      have := ih (i + 1) _ (OT_exp hC (OT_mono h (Nat.le_succ i)) hm.1 (Nat.succ_le_succ hm.2) n (Nat.le_refl _))
      rw [show i + 1 + f = i + (f + 1) by omega] at this
      exact this
    · exact OT_mono h (by omega)
theorem Tl_ok {n L : Nat} (hn : n < 8) (hL : L < 2 ^ tri n) : (Tl n L).length ≤ 1096 ∧ ∀ q ∈ Tl n L, q.1 < 2 ^ tri n ∧ q.2 ≤ 1097 := by
  obtain ⟨C, h1, h2, h3⟩ := orb_bnd hn hL
  have h := OT_bfs (C := C) (n := n) (fun x hx => (h2 x hx).2) 1097 0 [(L, 0)] ⟨fun q hq => by
    have : q = (L, 0) := by simpa using hq
    subst this
    exact ⟨h1, Nat.le_refl _⟩, by simp⟩
  rw [Nat.zero_add] at h
  have hl := OT_len h
  exact ⟨by show (bfsT n 1097 0 [(L, 0)]).length ≤ 1096; omega, fun q hq => ⟨(h2 _ (h.1 q hq).1).1, (h.1 q hq).2⟩⟩
/-! the class' memory -/
def TuM (l : List (Nat × Nat)) (M : zM) : Prop := zI M 38 0 = nI l.length ∧ ∀ i, i < l.length → zI M 39 i = nI (l.getD i (0, 0)).1 ∧ zI M 40 i = nI (l.getD i (0, 0)).2
def hsh (x : Nat) : Nat := ((x ^^^ x >>> 9) * 31) % 2048
def psl (h k : Nat) : Nat := (h + k) % 2048
def HaM (l : List (Nat × Nat)) (s : Nat → Nat) (M : zM) : Prop := (∀ j, j < 2048 → zI M 41 j = nI (s j) ∧ s j ≤ l.length) ∧ (∀ i, i < l.length → ∃ k, k < 2048 ∧ s (psl (hsh (l.getD i (0, 0)).1) k) = i + 1 ∧ ∀ k', k' < k → s (psl (hsh (l.getD i (0, 0)).1) k') ≠ 0) ∧ cnt (fun j => s j != 0) 2048 = l.length
abbrev at38 : Nat → Prop := fun a => a = 38 ∨ a = 39 ∨ a = 40 ∨ a = 41
theorem psl_lt (h k : Nat) : psl h k < 2048 := Nat.mod_lt _ (by decide)
theorem cnt_upd {f g : Nat → Bool} {n p : Nat} (hp : p < n) (h0 : f p = false) (h1 : g p = true) (h : ∀ i, i ≠ p → g i = f i) : cnt g n = cnt f n + 1 := by
  have e : cnt g n = cnt (fun i => f i || (true && i == p)) n := cnt_congr fun i _ => by
    by_cases hi : i = p
    · rw [hi, h1]; simp
    · rw [h i hi]; simp [hi]
  rw [e, cnt_disj, cnt_eqx (g := fun _ => true) hp]
  · rfl
  · intro i _ q1 q2
    have : i = p := by simpa using q2
    rw [this, h0] at q1; cases q1
theorem n_2047 (a : Nat) : nI a &&& 2047 = nI (a % 2048) := by
  rw [show (2047 : Int32) = nI (2 ^ 11 - 1) from by decide, n_and, Nat.and_two_pow_sub_one_eq_mod]
theorem getT_app_l {l : List (Nat × Nat)} {q : Nat × Nat} {i : Nat} (h : i < l.length) : (l ++ [q]).getD i (0, 0) = l.getD i (0, 0) := getD_app_l h
theorem getT_app_r {l : List (Nat × Nat)} {q : Nat × Nat} : (l ++ [q]).getD l.length (0, 0) = q := by simp [List.getD]
theorem c_tkeep {l : List (Nat × Nat)} {s : Nat → Nat} {x t h k : Nat} {M : zM} (hC : zC M) (hT : TuM l M) (hH : HaM l s M) (hl : l.length < 1096) (hh : h = hsh x) (hk : k < 2048) (hz : s (psl h k) = 0) (hp : ∀ k', k' < k → s (psl h k') ≠ 0) :
    ∃ M' s', fp_X8_keep 38 (nI x) (nI t) (nI (psl h k)) M = some M' ∧ TuM (l ++ [(x, t)]) M' ∧ HaM (l ++ [(x, t)]) s' M' ∧ Fc at38 M M' ∧ ∀ j, j ≠ 0 → zI M' 38 j = zI M 38 j := by
  unfold fp_X8_keep
  have hps := psl_lt h k
  rw [ts_38 hC, gI_38 hC, Option.bind_some, hT.1, if_neg (by rw [show (1096 : Int32) = nI 1096 from by decide, ge_iff_le, n_le (by omega) (by omega)]; omega), gR_38_3 hC, Option.bind_some, Option.bind_some, tI_39 hC hl, Option.bind_some, gR_38_4 (by exact hC), Option.bind_some, gI_38 (by exact hC), Option.bind_some, zI_other _ _ (Or.inl (by decide)), hT.1, tI_40 (by exact hC) hl, Option.bind_some, gI_38 (by exact hC), Option.bind_some, zI_other _ _ (Or.inl (by decide)), zI_other _ _ (Or.inl (by decide)), hT.1, inc, pI_38 (by exact hC), Option.bind_some, gR_38_5 (by exact hC), Option.bind_some, gI_38 (by exact hC), Option.bind_some, zI_same, tI_41 (by exact hC) hps, Option.bind_some]
  refine ⟨_, fun j => if j = psl h k then l.length + 1 else s j, rfl, ⟨?_, fun i hi => ?_⟩, ⟨fun j hj => ?_, fun i hi => ?_, ?_⟩, ?_, fun j hj => ?_⟩
  · rw [zI_other _ _ (Or.inl (by decide)), zI_same, List.length_append]; rfl
  · rw [List.length_append, List.length_singleton] at hi
    by_cases hil : i = l.length
    · subst hil
      rw [getT_app_r]
      refine ⟨?_, ?_⟩
      · rw [zI_other _ _ (Or.inl (by decide)), zI_other _ _ (Or.inl (by decide)), zI_other _ _ (Or.inl (by decide)), zI_same]
      · rw [zI_other _ _ (Or.inl (by decide)), zI_other _ _ (Or.inl (by decide)), zI_same]
    · rw [getT_app_l (by omega)]
      have := hT.2 i (by omega)
      refine ⟨?_, ?_⟩
      · rw [zI_other _ _ (Or.inl (by decide)), zI_other _ _ (Or.inl (by decide)), zI_other _ _ (Or.inl (by decide)), zI_other _ _ (Or.inr hil), this.1]
      · rw [zI_other _ _ (Or.inl (by decide)), zI_other _ _ (Or.inl (by decide)), zI_other _ _ (Or.inr hil), zI_other _ _ (Or.inl (by decide)), this.2]
  · dsimp only
    by_cases hj2 : j = psl h k
    · subst hj2
      rw [zI_same, if_pos rfl]
      exact ⟨rfl, by simp⟩
    · rw [zI_other _ _ (Or.inr hj2), zI_other _ _ (Or.inl (by decide)), zI_other _ _ (Or.inl (by decide)), zI_other _ _ (Or.inl (by decide)), if_neg hj2]
      have := hH.1 j hj
      exact ⟨this.1, by simp; omega⟩
  · rw [List.length_append, List.length_singleton] at hi
    dsimp only
    by_cases hil : i = l.length
    · subst hil
      rw [getT_app_r]
      dsimp only
      rw [← hh]
      refine ⟨k, hk, by rw [if_pos rfl], fun k' hk' => ?_⟩
      split
      · omega
      · exact hp k' hk'
    · rw [getT_app_l (by omega)]
      obtain ⟨k2, q1, q2, q3⟩ := hH.2.1 i (by omega)
      refine ⟨k2, q1, ?_, fun k' hk' => ?_⟩
      · rw [if_neg]
        · exact q2
        · intro z; rw [z, hz] at q2; omega
      · split
        · omega
        · exact q3 k' hk'
  · rw [List.length_append, List.length_singleton, ← hH.2.2]
    refine cnt_upd hps (by rw [hz]; rfl) (by simp) fun i hi => by simp [hi]
  · exact Fc_trans (Fc_trans (Fc_trans (Fc_sI (Or.inr (Or.inl rfl))) (Fc_sI (Or.inr (Or.inr (Or.inl rfl))))) (Fc_sI (Or.inl rfl))) (Fc_sI (Or.inr (Or.inr (Or.inr rfl))))
  · rw [zI_other _ _ (Or.inl (by decide)), zI_other _ _ (Or.inr hj), zI_other _ _ (Or.inl (by decide)), zI_other _ _ (Or.inl (by decide))]
theorem free_slot {s : Nat → Nat} {m : Nat} (h : cnt (fun j => s j != 0) 2048 = m) (hm : m < 2048) (h0 : Nat) (hh : h0 < 2048) : ∃ k, k < 2048 ∧ s (psl h0 k) = 0 := by
  apply Classical.byContradiction
  intro hno
  have hall : ∀ j, j < 2048 → (s j != 0) = true := by
    intro j hj
    rw [bne_iff_ne]
    intro hz
    apply hno
    refine ⟨(j + 2048 - h0) % 2048, Nat.mod_lt _ (by decide), ?_⟩
    have : psl h0 ((j + 2048 - h0) % 2048) = j := by unfold psl; omega
    rw [this]; exact hz
  have e : cnt (fun j => s j != 0) 2048 = cnt (fun _ => true) 2048 := cnt_congr hall
  have e2 : ∀ n, cnt (fun _ => true) n = n := by
    intro n
    induction n with
    | zero => rfl
    | succ n ih => simp only [cnt, ih]; rfl
  rw [e, e2] at h
  omega
theorem c_meet {l : List (Nat × Nat)} {s : Nat → Nat} {x t : Nat} {M : zM} (hC : zC M) (hT : TuM l M) (hH : HaM l s M) (hl : (addT l x t).length ≤ 1096) (hx : x < 2 ^ 21) (hlt : ∀ q ∈ l, q.1 < 2 ^ 21) :
    ∃ M' s', fp_X8_meet 38 (nI x) (nI t) M = some M' ∧ TuM (addT l x t) M' ∧ HaM (addT l x t) s' M' ∧ Fc at38 M M' ∧ ∀ j, j ≠ 0 → zI M' 38 j = zI M 38 j := by
  unfold fp_X8_meet
  have hl0 := addT_len l x t
  have hx9 : x ^^^ x >>> 9 < 2 ^ 21 := Nat.xor_lt_two_pow hx (Nat.lt_of_le_of_lt (Nat.shiftRight_le _ _) hx)
  have hh : hsh x < 2048 := Nat.mod_lt _ (by decide)
  rw [ts_38 hC, lett_eq, show (9 : Int32) &&& 31 = nI 9 &&& 31 from by decide, n_shr (by omega) (by omega), n_xor, show (31 : Int32) = nI 31 from by decide, n_mul, n_2047]
  rw [show (x ^^^ x >>> 9) * 31 % 2048 = hsh x from rfl]
  obtain ⟨k0, hk0, hz0⟩ := free_slot hH.2.2 (by omega) (hsh x) hh
  have key : ∀ d k f, k + d = k0 → d < f → (∀ k', k' < k → s (psl (hsh x) k') ≠ 0 ∧ (l.getD (s (psl (hsh x) k') - 1) (0, 0)).1 ≠ x) → ∃ M' s', fp_X8_meet_L17 38 (nI x) (nI t) M f (nI (psl (hsh x) k)) (nI k) = some M' ∧ TuM (addT l x t) M' ∧ HaM (addT l x t) s' M' ∧ Fc at38 M M' ∧ ∀ j, j ≠ 0 → zI M' 38 j = zI M 38 j := by
    intro d
    have zero : ∀ k f, k < 2048 → s (psl (hsh x) k) = 0 → (∀ k', k' < k → s (psl (hsh x) k') ≠ 0 ∧ (l.getD (s (psl (hsh x) k') - 1) (0, 0)).1 ≠ x) → ∃ M' s', fp_X8_meet_L17 38 (nI x) (nI t) M (f + 1) (nI (psl (hsh x) k)) (nI k) = some M' ∧ TuM (addT l x t) M' ∧ HaM (addT l x t) s' M' ∧ Fc at38 M M' ∧ ∀ j, j ≠ 0 → zI M' 38 j = zI M 38 j := by
      intro k f hk hz hp
      have hnew : hasT l x = false := by
        cases hb : hasT l x with
        | false => rfl
        | true =>
          obtain ⟨q, hq, hqx⟩ := List.mem_map.mp (hasT_iff.mp hb)
          obtain ⟨i, hi, hie⟩ := List.getElem_of_mem hq
          have hg : l.getD i (0, 0) = q := by simp [List.getD, hi, hie]
          obtain ⟨ki, a1, a2, a3⟩ := hH.2.1 i hi
          rw [hg, hqx] at a2 a3
          by_cases c1 : ki < k
          · have := (hp ki c1).2
            rw [a2, Nat.add_sub_cancel, hg] at this
            exact absurd hqx this
          · by_cases c2 : ki = k
            · rw [c2, hz] at a2; omega
            · exact absurd hz (a3 k (by omega))
      have e : addT l x t = l ++ [(x, t)] := by unfold addT; rw [hnew, if_neg Bool.false_ne_true]
      rw [e] at hl ⊢
      rw [List.length_append, List.length_singleton] at hl
      rw [fp_X8_meet_L17, if_neg (by rw [show (2048 : Int32) = nI 2048 from by decide, ge_iff_le, n_le (by omega) (by omega)]; omega), gR_38_5 hC, Option.bind_some, lI_41 hC (psl_lt _ _), Option.bind_some, (hH.1 _ (psl_lt _ _)).1, hz, if_neg (by rw [n_0]; exact fun q => q rfl)]
      obtain ⟨M', s', b1, b2⟩ := c_tkeep hC hT hH (by omega) rfl hk hz (fun k' hk' => (hp k' hk').1)
      exact ⟨M', s', by rw [b1, Option.bind_some], b2⟩
    induction d with
    | zero =>
      intro k f h1 h2 hp
      obtain ⟨f, rfl⟩ : ∃ g, f = g + 1 := ⟨f - 1, by omega⟩
      have : k = k0 := by omega
      subst this
      exact zero k f hk0 hz0 hp
    | succ d ih =>
      intro k f h1 h2 hp
      obtain ⟨f, rfl⟩ : ∃ g, f = g + 1 := ⟨f - 1, by omega⟩
      by_cases hz : s (psl (hsh x) k) = 0
      · exact zero k f (by omega) hz hp
      · obtain ⟨v1, v2⟩ := hH.1 _ (psl_lt (hsh x) k)
        have hvi : s (psl (hsh x) k) - 1 < l.length := by omega
        have hnet := hlt _ (getT_mem hvi)
        rw [fp_X8_meet_L17, if_neg (by rw [show (2048 : Int32) = nI 2048 from by decide, ge_iff_le, n_le (by omega) (by omega)]; omega), gR_38_5 hC, Option.bind_some, lI_41 hC (psl_lt _ _), Option.bind_some, v1, if_pos (by rw [n_0, ne_eq, n_eq (by omega) (by omega)]; exact hz), zjn_eq, if_neg (by rw [show (1096 : Int32) = nI 1096 from by decide, gt_iff_lt, n_lt (by omega) (by omega)]; omega), gR_38_3 hC, Option.bind_some, n_1, n_sub (by omega), lI_39 hC (by omega), Option.bind_some, (hT.2 _ hvi).1]
        by_cases hx2 : (l.getD (s (psl (hsh x) k) - 1) (0, 0)).1 = x
        · rw [if_neg (by rw [hx2]; exact fun q => q rfl)]
          have hb : hasT l x = true := hasT_iff.mpr (List.mem_map.mpr ⟨_, getT_mem hvi, hx2⟩)
          have e : addT l x t = l := by unfold addT; rw [hb, if_pos rfl]
          rw [e]
          exact ⟨M, s, rfl, hT, hH, Fc_refl, fun _ _ => rfl⟩
        · rw [if_pos (by rw [ne_eq, n_eq (by omega) (by omega)]; exact hx2), lett_eq, n_add, n_add, n_2047]
          have e : (psl (hsh x) k + 1) % 2048 = psl (hsh x) (k + 1) := by unfold psl; omega
          rw [e]
          refine ih (k + 1) f (by omega) (by omega) fun k' hk' => ?_
          by_cases hkk : k' = k
          · rw [hkk]; exact ⟨hz, hx2⟩
          · exact hp k' (by omega)
  rw [n_0]
  have := key k0 0 FU (by omega) (FU_gt (by omega)) (fun k' hk' => by omega)
  rw [show psl (hsh x) 0 = hsh x from by unfold psl; rw [Nat.add_zero, Nat.mod_eq_of_lt hh]] at this
  exact this
def TG (n L : Nat) (M : zM) : Prop := zI M 38 1 = nI n ∧ zI M 38 2 = nI L ∧ TuM (Tl n L) M
def TuO (M : zM) : Prop := zI M 38 1 = -1 ∨ ∃ n L, n < 8 ∧ L < 2 ^ tri n ∧ TG n L M
theorem c_tfill {a n : Nat} {M : zM} (ha : a < zS M) (hk : kd a = 100) (hn : zL M a = n) (hb : n < 2 ^ 20) : ∃ M', fp_J7_fill_53178 a 0 M = some M' ∧ Fc (fun b => b = a) M M' ∧ ∀ j, j < n → zI M' a j = nI 0 := by
  unfold fp_J7_fill_53178
  rw [zln_ok ha (by rw [hk]; decide) (by rw [hk]; decide) hn, Option.bind_some]
  have key : ∀ d i f M1, i + d = n → d < f → Fc (fun b => b = a) M M1 → (∀ j, j < i → zI M1 a j = nI 0) → ∃ M', fp_J7_fill_53178_L5 a 0 (nI n) f (nI i) M1 = some M' ∧ Fc (fun b => b = a) M M' ∧ ∀ j, j < n → zI M' a j = nI 0 := by
    intro d
    induction d with
    | zero =>
      intro i f M1 h1 h2 h3 h4
      obtain ⟨f, rfl⟩ : ∃ g, f = g + 1 := ⟨f - 1, by omega⟩
      have : i = n := by omega
      subst this
      exact ⟨M1, by rw [fp_J7_fill_53178_L5, stp], h3, h4⟩
    | succ d ih =>
      intro i f M1 h1 h2 h3 h4
      obtain ⟨f, rfl⟩ : ∃ g, f = g + 1 := ⟨f - 1, by omega⟩
      have hS : zS M1 = zS M := congrArg (fun x => x.2.2.2.1) h3.1
      have hLe : zL M1 a = n := by rw [← hn]; exact congrFun (congrArg (fun x => x.2.2.1) h3.1) a
      rw [fp_J7_fill_53178_L5, go (by omega) (by omega), ztI_ok (by rw [hS]; exact ha) hk hLe (by omega) (by omega), Option.bind_some, inc]
      exact ih (i + 1) f _ (by omega) (by omega) (Fc_trans h3 (Fc_sI rfl)) fun j hj => by
        by_cases hji : j = i
        · rw [hji, zI_same]; rfl
        · rw [zI_other _ _ (Or.inr hji)]; exact h4 j (by omega)
  rw [n_0]
  exact key n 0 FU M (by omega) (FU_gt (by omega)) Fc_refl (fun j hj => by omega)
theorem c_tgather {n L : Nat} {M : zM} (hn : n < 8) (hL : L < 2 ^ tri n) (hC : zC M) (hO : TuO M) : ∃ M', fp_X8_gather 38 (nI n) (nI L) M = some M' ∧ TG n L M' ∧ Fc at38 M M' := by
  unfold fp_X8_gather
  obtain ⟨C, hc1, hc2, hc3⟩ := orb_bnd hn hL
  have hclo : ∀ x ∈ C, ∀ p, p < n → turn n x p ∈ C := fun x hx => (hc2 x hx).2
  have hC21 : ∀ x ∈ C, x < 2 ^ 21 := fun x hx => lt21 hn (hc2 x hx).1
  have main : ∃ M', ((zpI 6 M 38 1 (nI n)).bind fun (M2 : zM) =>
        (zpI 6 M2 38 2 (nI L)).bind fun (M3 : zM) =>
        (zpI 6 M3 38 0 0).bind fun (M4 : zM) =>
        (zgR 6 M4 38 5).bind fun (y5 : Nat) =>
        (fp_J7_fill_53178 y5 0 M4).bind fun (M6 : zM) =>
        (zgI 6 M6 38 2).bind fun (y7 : Int32) =>
        (fp_X8_meet 38 y7 0 M6).bind fun (M8 : zM) =>
        fp_X8_gather_L51 38 FU 0 M8) = some M' ∧ TG n L M' ∧ Fc at38 M M' := by
    rw [pI_38 hC, Option.bind_some, pI_38 (by exact hC), Option.bind_some, pI_38 (by exact hC), Option.bind_some, gR_38_5 (by exact hC), Option.bind_some]
    obtain ⟨M4, hM4⟩ : ∃ M4, M4 = zsI (zsI (zsI M 38 1 (nI n)) 38 2 (nI L)) 38 0 0 := ⟨_, rfl⟩
    rw [← hM4]
    have hC4 : zC M4 := by rw [hM4]; exact hC
    have hF4 : Fc at38 M M4 := by rw [hM4]; exact Fc_trans (Fc_trans (Fc_sI (Or.inl rfl)) (Fc_sI (Or.inl rfl))) (Fc_sI (Or.inl rfl))
    have f1 : zI M4 38 1 = nI n := by rw [hM4, zI_other _ _ (Or.inr (by decide)), zI_other _ _ (Or.inr (by decide)), zI_same]
    have f2 : zI M4 38 2 = nI L := by rw [hM4, zI_other _ _ (Or.inr (by decide)), zI_same]
    have f0 : zI M4 38 0 = nI 0 := by rw [hM4, zI_same]; rfl
    obtain ⟨M6, e6, F6, z6⟩ := c_tfill (a := 41) (n := 2048) (zC_lt hC4 (by decide)) rfl (hC4.2.2 (41, 2048) (by decide +kernel)) (by decide)
    have hC6 := Fc_C F6 hC4
    have g : ∀ k, zI M6 38 k = zI M4 38 k := fun k => Fc_I F6 (by decide) k
    rw [e6, Option.bind_some, gI_38 hC6, Option.bind_some, g, f2]
    have T0 : TuM [] M6 := ⟨by rw [g, f0]; rfl, fun i hi => by simp at hi⟩
    have H0 : HaM [] (fun _ => 0) M6 := ⟨fun j hj => ⟨z6 j hj, Nat.le_refl _⟩, fun i hi => by simp at hi, cnt_none fun i _ => rfl⟩
    obtain ⟨M8, s8, e8, T8, H8, F8, g8⟩ := c_meet (x := L) (t := 0) hC6 T0 H0 (by show (1 : Nat) ≤ 1096; decide) (lt21 hn hL) (fun q hq => absurd hq List.not_mem_nil)
    have e8' : fp_X8_meet 38 (nI L) 0 M6 = some M8 := e8
    have hadd : addT [] L 0 = [(L, 0)] := rfl
    rw [hadd] at T8 H8
    rw [e8', Option.bind_some]
    have hF6 : Fc at38 M4 M6 := Fc_mono F6 fun a ha => Or.inr (Or.inr (Or.inr ha))
    have hF8 : Fc at38 M M8 := Fc_trans hF4 (Fc_trans hF6 F8)
    have h1 : zI M8 38 1 = nI n := by rw [g8 1 (by decide), g, f1]
    have h2 : zI M8 38 2 = nI L := by rw [g8 2 (by decide), g, f2]
    -- one network's turnings
    have inner : ∀ (K : zM → Option zM) i x t l0, x ∈ C → i < l0.length → i < 1096 → (x, t) = l0.getD i (0, 0) → t ≤ i → OT C i l0 → ∀ d p f M1 s1, p + d = n → d < f → zC M1 → Fc at38 M M1 → zI M1 38 1 = nI n → zI M1 38 2 = nI L → TuM (expT n x t l0 p) M1 → HaM (expT n x t l0 p) s1 M1 → OT C (i + 1) (expT n x t l0 p) → (expT n x t l0 p).getD i (0, 0) = (x, t) → i < (expT n x t l0 p).length →
        ∃ M2 s2, fp_X8_gather_L69 K 38 (nI i) f (nI p) M1 = K M2 ∧ zC M2 ∧ Fc at38 M M2 ∧ zI M2 38 1 = nI n ∧ zI M2 38 2 = nI L ∧ TuM (expT n x t l0 n) M2 ∧ HaM (expT n x t l0 n) s2 M2 ∧ OT C (i + 1) (expT n x t l0 n) := by
      intro K i x t l0 hx hi0 hi hit hti hO0 d
      induction d with
      | zero =>
        intro p f M1 s1 a1 a2 a3 a4 a5 a6 a7 a8 a9 a10 a11
        obtain ⟨f, rfl⟩ : ∃ g, f = g + 1 := ⟨f - 1, by omega⟩
        have : p = n := by omega
        subst this
        exact ⟨M1, s1, by rw [fp_X8_gather_L69, gI_38 a3, Option.bind_some, a5, stp], a3, a4, a5, a6, a7, a8, a9⟩
      | succ d ih =>
        intro p f M1 s1 a1 a2 a3 a4 a5 a6 a7 a8 a9 a10 a11
        obtain ⟨f, rfl⟩ : ∃ g, f = g + 1 := ⟨f - 1, by omega⟩
        have hp : p < n := by omega
        have hxl := (hc2 x hx).1
        have hv := a7.2 i a11
        rw [a10] at hv
        have hO1 : OT C (i + 1) (expT n x t l0 (p + 1)) := OT_add a9 (hclo x hx p hp) (by omega)
        have hlen := OT_len hO1
        rw [fp_X8_gather_L69, gI_38 a3, Option.bind_some, a5, go hp (by omega), Option.bind_some, gR_38_3 a3, Option.bind_some, lI_39 a3 hi, Option.bind_some, hv.1, c_turnedAt hn hxl hp, Option.bind_some, gR_38_4 a3, Option.bind_some, lI_40 a3 hi, Option.bind_some, hv.2]
        simp only [inc]
        obtain ⟨M2, s2, b1, b2, b3, b4, b5⟩ := c_meet (x := turn n x p) (t := t + 1) a3 a7 a8 (by show (expT n x t l0 (p + 1)).length ≤ 1096; omega) (lt21 hn (turn_lt _ _ _)) (fun q hq => hC21 _ (a9.1 q hq).1)
        rw [b1, Option.bind_some]
        refine ih (p + 1) f M2 s2 (by omega) (by omega) (Fc_C b4 a3) (Fc_trans a4 b4) (by rw [b5 1 (by decide), a5]) (by rw [b5 2 (by decide), a6]) b2 b3 hO1 ?_ ?_
        · show (addT (expT n x t l0 p) (turn n x p) (t + 1)).getD i (0, 0) = _
          unfold addT
          split
          · exact a10
          · rw [getT_app_l a11, a10]
        · have := addT_len (expT n x t l0 p) (turn n x p) (t + 1)
          exact Nat.lt_of_lt_of_le a11 this
    have outer : ∀ d i f M1 s1 l, i + d = 1096 → d < f → zC M1 → Fc at38 M M1 → zI M1 38 1 = nI n → zI M1 38 2 = nI L → TuM l M1 → HaM l s1 M1 → OT C i l → ∃ M', fp_X8_gather_L51 38 f (nI i) M1 = some M' ∧ zI M' 38 1 = nI n ∧ zI M' 38 2 = nI L ∧ TuM (bfsT n (d + 1) i l) M' ∧ Fc at38 M M' := by
      intro d
      induction d with
      | zero =>
        intro i f M1 s1 l a1 a2 a3 a4 a5 a6 a7 a8 a9
        obtain ⟨f, rfl⟩ : ∃ g, f = g + 1 := ⟨f - 1, by omega⟩
        have hlen := OT_len a9
        refine ⟨M1, ?_, a5, a6, ?_, a4⟩
        · rw [fp_X8_gather_L51, gI_38 a3, Option.bind_some, a7.1, if_pos (by rw [ge_iff_le, n_le (by omega) (by omega)]; omega)]
        · rw [bfsT, if_neg (by omega)]; exact a7
      | succ d ih =>
        intro i f M1 s1 l a1 a2 a3 a4 a5 a6 a7 a8 a9
        obtain ⟨f, rfl⟩ : ∃ g, f = g + 1 := ⟨f - 1, by omega⟩
        have hlen := OT_len a9
        rw [fp_X8_gather_L51, gI_38 a3, Option.bind_some, a7.1, bfsT]
        by_cases hi : i < l.length
        · rw [go hi (by omega), if_pos hi, if_neg (by rw [show (1096 : Int32) = nI 1096 from by decide, ge_iff_le, n_le (by omega) (by omega)]; omega), n_0]
          have hm := a9.1 _ (getT_mem hi)
          obtain ⟨M2, s2, b1, b2, b3, b4, b5, b6, b7, b8⟩ := inner (fun M18 => fp_X8_gather_L51 38 f (nI i + 1) M18) i (l.getD i (0, 0)).1 (l.getD i (0, 0)).2 l hm.1 hi (by omega) rfl hm.2 a9 n 0 FU M1 s1 (by omega) (FU_gt (by omega)) a3 a4 a5 a6 a7 a8 (OT_mono a9 (Nat.le_succ i)) rfl hi
          rw [b1, inc]
          exact ih (i + 1) f M2 s2 _ (by omega) (by omega) b2 b3 b4 b5 b6 b7 b8
        · rw [if_pos (by rw [ge_iff_le, n_le (by omega) (by omega)]; omega), if_neg hi]
          exact ⟨M1, rfl, a5, a6, a7, a4⟩
    obtain ⟨M', c1, c2, c3, c4, c5⟩ := outer 1096 0 FU M8 s8 [(L, 0)] (by omega) (FU_gt (by omega)) (Fc_C hF8 hC) hF8 h1 h2 T8 H8 ⟨fun q hq => by
      have : q = (L, 0) := by simpa using hq
      subst this
      exact ⟨hc1, Nat.le_refl _⟩, by simp⟩
    exact ⟨M', c1, ⟨c2, c3, c4⟩, c5⟩
  rw [ts_38 hC, gI_38 hC, Option.bind_some, zjn_eq]
  rcases hO with h1 | ⟨n', L', b1, b2, q1, q2, q3⟩
  · rw [if_pos (by rw [h1]; intro q; have := n_neg (a := n) (by omega); rw [← q] at this; exact this.mp rfl)]
    exact main
  · rw [q1]
    by_cases c1 : n' = n
    · rw [if_neg (by rw [c1]; exact fun q => q rfl), gI_38 hC, Option.bind_some, q2]
      by_cases c2 : L' = L
      · rw [if_neg (by rw [c2]; exact fun q => q rfl)]
        subst c1 c2
        exact ⟨M, rfl, ⟨q1, q2, q3⟩, Fc_refl⟩
      · rw [if_pos (by rw [ne_eq, n_eq (lt31 b1 b2) (lt31 hn hL)]; exact c2)]
        exact main
    · rw [if_pos (by rw [ne_eq, n_eq (by omega) (by omega)]; exact c1)]
      exact main

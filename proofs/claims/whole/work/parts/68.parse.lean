/-! ===== 68: the text: its tokens, its lines ===== -/
def smlT (T : List Nat) (i : Nat) : Bool := decide (i < T.length) && (decide (97 ≤ T.getD i 0) && decide (T.getD i 0 ≤ 122))
def dgtT (T : List Nat) (i : Nat) : Bool := decide (i < T.length) && (decide (48 ≤ T.getD i 0) && decide (T.getD i 0 ≤ 57))
def blkT (T : List Nat) (i : Nat) : Bool := decide (i < T.length) && (decide (T.getD i 0 = 32) || decide (T.getD i 0 = 10))
def skpF (f : Nat → Bool) : Nat → Nat → Nat
  | 0, i => i
  | k + 1, i => if f i then skpF f k (i + 1) else i
/-- the first place from i on for which f does not hold -/
def skp (f : Nat → Bool) (len i : Nat) : Nat := skpF f (len + 1 - i) i
theorem skp_t {f : Nat → Bool} {len i : Nat} (hf : ∀ j, f j = true → j < len) (h : f i = true) : skp f len i = skp f len (i + 1) := by
  have := hf i h
  unfold skp
  rw [show len + 1 - i = (len + 1 - (i + 1)) + 1 by omega, skpF, if_pos h]
theorem skp_f {f : Nat → Bool} {len i : Nat} (hi : i ≤ len) (h : f i = false) : skp f len i = i := by
  unfold skp
  rw [show len + 1 - i = (len - i) + 1 by omega, skpF, if_neg (by rw [h]; decide)]
theorem skp_le {f : Nat → Bool} {len : Nat} (hf : ∀ j, f j = true → j < len) : ∀ d i, i + d = len → i ≤ skp f len i ∧ skp f len i ≤ len ∧ f (skp f len i) = false := by
  intro d
  induction d with
  | zero =>
    intro i h
    have hfi : f i = false := by
      cases hb : f i with
      | false => rfl
      | true => have := hf i hb; omega
    rw [skp_f (by omega) hfi]
    exact ⟨Nat.le_refl _, by omega, hfi⟩
  | succ d ih =>
    intro i h
    cases hb : f i with
    | false =>
      rw [skp_f (by omega) hb]
      exact ⟨Nat.le_refl _, by omega, hb⟩
    | true =>
      rw [skp_t hf hb]
      obtain ⟨h1, h2, h3⟩ := ih (i + 1) (by omega)
      exact ⟨by omega, h2, h3⟩
theorem blk_lt {T : List Nat} : ∀ j, blkT T j = true → j < T.length := fun j h => by unfold blkT at h; simp at h; exact h.1
theorem sml_lt {T : List Nat} : ∀ j, smlT T j = true → j < T.length := fun j h => by unfold smlT at h; simp at h; exact h.1
/-- a token: its kind (0 the end, 1 a word, 2 a digit, 3 the sign, 4 none begins so), where it begins, where it ends -/
def tokS (T : List Nat) (e : Nat) : Nat × Nat × Nat :=
  let s := skp (blkT T) T.length e
  if T.length ≤ s then (0, s, s) else if smlT T s then (1, s, skp (smlT T) T.length (s + 1)) else if dgtT T s && !dgtT T (s + 1) then (2, s, s + 1) else if T.getD s 0 = 59 then (3, s, s + 1) else (4, s, s + 1)
abbrev Rs : Type := Sum (Nat × Nat) (Nat × Nat × Nat)
/-- why it is not a token of this kind -/
def exS (T : List Nat) (e k : Nat) : Option (Nat × Nat) := if (tokS T e).1 = 4 then some (1, (tokS T e).2.1) else if (tokS T e).1 ≠ k then some (2, (tokS T e).2.1) else none
def clS (T : List Nat) (n L e : Nat) : Rs := match exS T e 3 with
  | some f => .inl f
  | none => .inr (n, L, (tokS T e).2.2)
def ptS (T : List Nat) (n e : Nat) : Sum (Nat × Nat) (Nat × Nat) := match exS T e 2 with
  | some f => .inl f
  | none => if T.getD (tokS T e).2.1 0 - 48 < n then .inr (T.getD (tokS T e).2.1 0 - 48, (tokS T e).2.2) else .inl (3, (tokS T e).2.1)
def poS (T : List Nat) (n L e : Nat) : Rs := match exS T e 2 with
  | some f => .inl f
  | none => if n + (T.getD (tokS T e).2.1 0 - 48) ≤ 7 then .inr (n + (T.getD (tokS T e).2.1 0 - 48), L, (tokS T e).2.2) else .inl (6, (tokS T e).2.1)
def tuS (T : List Nat) (n L e : Nat) : Rs := match ptS T n e with
  | .inl f => .inl f
  | .inr q => .inr (n, turn n L q.1, q.2)
def cpS (T : List Nat) (n L e : Nat) (sw : Bool) : Rs := match ptS T n e with
  | .inl f => .inl f
  | .inr q => match ptS T n q.2 with
    | .inl f => .inl f
    | .inr r => if q.1 = r.1 then .inl (4, (tokS T q.2).2.1) else if adj L q.1 r.1 ≠ sw then .inl (5, (tokS T q.2).2.1) else .inr (n, if sw then swing n L q.1 r.1 else L ||| 1 <<< pr q.1 r.1, r.2)
/-- the letters of a word, a as 0 -/
def wdS (T : List Nat) (s e : Nat) : List Nat := ((T.drop s).take (e - s)).map (· - 97)
def unl (w : List Nat) : Nat := cnt w.contains 26
/-- a network beside another one -/
def jnN (n L u C : Nat) : Nat := mk (n + u) fun h l => if n ≤ l then adj C (h - n) (l - n) else if n ≤ h then false else adj L h l
noncomputable def okW (w : List Nat) : Bool := @decide (w.length ≤ 14 ∧ WD (unl w) w) (Classical.propDecidable _)
noncomputable def crS (T : List Nat) (n L e : Nat) : Rs := match exS T e 1 with
  | some f => .inl f
  | none => if n + unl (wdS T (tokS T e).2.1 (tokS T e).2.2) ≤ 7 then
      (if okW (wdS T (tokS T e).2.1 (tokS T e).2.2) then .inr (n + unl (wdS T (tokS T e).2.1 (tokS T e).2.2), jnN n L (unl (wdS T (tokS T e).2.1 (tokS T e).2.2)) (wnet (unl (wdS T (tokS T e).2.1 (tokS T e).2.2)) (wdS T (tokS T e).2.1 (tokS T e).2.2)), (tokS T e).2.2) else .inl (7, (tokS T e).2.1))
    else .inl (6, (tokS T e).2.1)
def kws : List (List Nat) := [[112, 111, 105, 110, 116, 115], [108, 105, 110, 101], [99, 114, 111, 115, 115], [116, 117, 114, 110], [115, 119, 105, 110, 103]]
/-- a word of the text is this one -/
def isK (T : List Nat) (s e j : Nat) : Bool := (T.drop s).take (e - s) == kws.getD j []
/-- a line of the text, behind its first token, without its sign -/
noncomputable def lnB (T : List Nat) (n L : Nat) (t : Nat × Nat × Nat) : Rs :=
  if t.1 = 1 ∧ isK T t.2.1 t.2.2 0 = true then poS T n L t.2.2
  else if t.1 = 1 ∧ isK T t.2.1 t.2.2 1 = true then cpS T n L t.2.2 false
  else if t.1 = 1 ∧ isK T t.2.1 t.2.2 2 = true then crS T n L t.2.2
  else if t.1 = 1 ∧ isK T t.2.1 t.2.2 3 = true then tuS T n L t.2.2
  else if t.1 = 1 ∧ isK T t.2.1 t.2.2 4 = true then cpS T n L t.2.2 true
  else .inl (2, t.2.1)
noncomputable def lnS (T : List Nat) (n L : Nat) (t : Nat × Nat × Nat) : Rs := match lnB T n L t with
  | .inl f => .inl f
  | .inr q => clS T q.1 q.2.1 q.2.2
noncomputable def prS (T : List Nat) : Nat → Nat → Nat → Nat → Sum (Nat × Nat) (Nat × Nat)
  | 0, n, L, _ => .inr (n, L)
  | f + 1, n, L, e => if (tokS T e).1 = 4 then .inl (1, (tokS T e).2.1) else if (tokS T e).1 = 0 then .inr (n, L) else match lnS T n L (tokS T e) with
    | .inl q => .inl q
    | .inr q => prS T f q.1 q.2.1 q.2.2
theorem tok_le {T : List Nat} {e : Nat} (he : e ≤ T.length) : e ≤ (tokS T e).2.1 ∧ (tokS T e).2.1 ≤ (tokS T e).2.2 ∧ (tokS T e).2.2 ≤ T.length ∧ ((tokS T e).1 ≠ 0 → (tokS T e).2.1 < T.length ∧ (tokS T e).2.1 + 1 ≤ (tokS T e).2.2) ∧ (tokS T e).1 ≤ 4 := by
  obtain ⟨h1, h2, h3⟩ := skp_le (f := blkT T) blk_lt (T.length - e) e (by omega)
  unfold tokS
  dsimp only
  by_cases c1 : T.length ≤ skp (blkT T) T.length e
  · rw [if_pos c1]
    exact ⟨h1, Nat.le_refl _, h2, fun z => absurd rfl z, by dsimp only; omega⟩
  · rw [if_neg c1]
    by_cases c2 : smlT T (skp (blkT T) T.length e) = true
    · rw [if_pos c2]
      obtain ⟨g1, g2, g3⟩ := skp_le (f := smlT T) sml_lt (T.length - (skp (blkT T) T.length e + 1)) (skp (blkT T) T.length e + 1) (by omega)
      exact ⟨h1, by dsimp only; omega, g2, fun _ => ⟨by dsimp only; omega, g1⟩, by dsimp only; omega⟩
    · rw [if_neg c2]
      have hlt : skp (blkT T) T.length e + 1 ≤ T.length := by omega
      split
      · exact ⟨h1, Nat.le_succ _, hlt, fun _ => ⟨hlt, Nat.le_refl _⟩, by dsimp only; omega⟩
      · split
        · exact ⟨h1, Nat.le_succ _, hlt, fun _ => ⟨hlt, Nat.le_refl _⟩, by dsimp only; omega⟩
        · exact ⟨h1, Nat.le_succ _, hlt, fun _ => ⟨hlt, Nat.le_refl _⟩, by dsimp only; omega⟩
/-! the class' Reader -/
def TxH (T : List Nat) (M : zM) : Prop := zC M ∧ zR M 3 4 = some 2 ∧ zI M 3 5 = nI T.length ∧ T.length ≤ 200 ∧ ∀ i, i < T.length → zI M 2 i = nI (T.getD i 0)
abbrev at3 : Nat → Prop := fun a => a = 3 ∨ a = 5
theorem TxH_sI {T : List Nat} {M : zM} {k : Nat} {v : Int32} (h : TxH T M) (hk : k ≠ 5) : TxH T (zsI M 3 k v) :=
  ⟨h.1, h.2.1, by rw [zI_other _ _ (Or.inr (fun z => hk z.symm))]; exact h.2.2.1, h.2.2.2.1, fun i hi => by rw [zI_other _ _ (Or.inl (by decide))]; exact h.2.2.2.2 i hi⟩
theorem gR_3_4 {T : List Nat} {M : zM} (h : TxH T M) : zgR 3 M 3 4 = some 2 := zgR_ok (zC_lt h.1 (by decide)) rfl h.2.1
theorem c_byteAt {T : List Nat} {M : zM} {i : Nat} (h : TxH T M) (hi : i < 2 ^ 20) : fp_X4_byteAt 3 (nI i) M = some (if i < T.length then nI (T.getD i 0) else -1) := by
  unfold fp_X4_byteAt
  have hC := h.1
  have h200 := h.2.2.2.1
  rw [ts_3 hC, if_neg (by rw [n_lt0 (by omega)]; exact id), gI_3 hC, Option.bind_some, h.2.2.1]
  by_cases hl : i < T.length
  · rw [go hl (by omega), gR_3_4 h, Option.bind_some, ln_2 hC, Option.bind_some, go (show i < 200 by omega) (by omega), Option.bind_some, lI_2 hC (by omega), Option.bind_some, h.2.2.2.2 i hl, if_pos hl]
  · rw [if_pos (by rw [ge_iff_le, n_le (by omega) (by omega)]; omega), if_neg hl]
theorem n_97 : (97 : Int32) = nI 97 := by decide
theorem n_48 : (48 : Int32) = nI 48 := by decide
theorem c_sml {T : List Nat} {i : Nat} (hT : ∀ x ∈ T, x < 256) : fp_X4_isSmall (if i < T.length then nI (T.getD i 0) else -1) = some (bI (smlT T i)) := by
  unfold fp_X4_isSmall smlT
  by_cases hl : i < T.length
  · have hx := hT _ (getD_mem hl)
    rw [if_pos hl, decide_eq_true hl, Bool.true_and, n_97, show (122 : Int32) = nI 122 from by decide]
    by_cases h1 : T.getD i 0 < 97
    · rw [if_pos (by rw [n_lt (by omega) (by omega)]; exact h1), decide_eq_false (by omega : ¬ 97 ≤ T.getD i 0)]; rfl
    · rw [if_neg (by rw [n_lt (by omega) (by omega)]; exact h1), decide_eq_true (by omega : 97 ≤ T.getD i 0)]
      by_cases h2 : T.getD i 0 ≤ 122
      · rw [if_neg (by rw [gt_iff_lt, n_lt (by omega) (by omega)]; omega), decide_eq_true h2]; rfl
      · rw [if_pos (by rw [gt_iff_lt, n_lt (by omega) (by omega)]; omega), decide_eq_false h2]; rfl
  · rw [if_neg hl, decide_eq_false hl, Bool.false_and]; decide
theorem c_dgt {T : List Nat} {i : Nat} (hT : ∀ x ∈ T, x < 256) : fp_X4_isDigit (if i < T.length then nI (T.getD i 0) else -1) = some (bI (dgtT T i)) := by
  unfold fp_X4_isDigit dgtT
  by_cases hl : i < T.length
  · have hx := hT _ (getD_mem hl)
    rw [if_pos hl, decide_eq_true hl, Bool.true_and, n_48, show (57 : Int32) = nI 57 from by decide]
    by_cases h1 : T.getD i 0 < 48
    · rw [if_pos (by rw [n_lt (by omega) (by omega)]; exact h1), decide_eq_false (by omega : ¬ 48 ≤ T.getD i 0)]; rfl
    · rw [if_neg (by rw [n_lt (by omega) (by omega)]; exact h1), decide_eq_true (by omega : 48 ≤ T.getD i 0)]
      by_cases h2 : T.getD i 0 ≤ 57
      · rw [if_neg (by rw [gt_iff_lt, n_lt (by omega) (by omega)]; omega), decide_eq_true h2]; rfl
      · rw [if_pos (by rw [gt_iff_lt, n_lt (by omega) (by omega)]; omega), decide_eq_false h2]; rfl
  · rw [if_neg hl, decide_eq_false hl, Bool.false_and]; decide
theorem c_blk {T : List Nat} {i : Nat} (hT : ∀ x ∈ T, x < 256) : fp_X4_isBlank (if i < T.length then nI (T.getD i 0) else -1) = some (bI (blkT T i)) := by
  unfold fp_X4_isBlank blkT
  rw [zjn_eq]
  by_cases hl : i < T.length
  · have hx := hT _ (getD_mem hl)
    rw [if_pos hl, decide_eq_true hl, Bool.true_and, show (32 : Int32) = nI 32 from by decide, show (10 : Int32) = nI 10 from by decide]
    by_cases h1 : T.getD i 0 = 32
    · rw [if_pos (by rw [h1]), decide_eq_true h1]; rfl
    · rw [if_neg (by rw [n_eq (by omega) (by omega)]; exact h1), decide_eq_false h1]
      by_cases h2 : T.getD i 0 = 10
      · rw [if_neg (by rw [h2]; exact fun q => q rfl), decide_eq_true h2]; rfl
      · rw [if_pos (by rw [ne_eq, n_eq (by omega) (by omega)]; exact h2), decide_eq_false h2]; rfl
  · rw [if_neg hl, decide_eq_false hl, Bool.false_and]; decide
def RdH (n L : Nat) (M : zM) : Prop := zI M 3 0 = nI n ∧ zI M 3 1 = nI L ∧ zI M 3 2 = nI 0 ∧ zI M 3 3 = -1
def FlH (q : Nat × Nat) (M : zM) : Prop := zI M 3 2 = nI q.1 ∧ zI M 3 3 = nI q.2 ∧ q.1 ≠ 0 ∧ q.1 < 10 ∧ q.2 ≤ 200
theorem RdH_sI {n L : Nat} {M : zM} {k : Nat} {v : Int32} (h : RdH n L M) (hk : 4 ≤ k) : RdH n L (zsI M 3 k v) :=
  ⟨by rw [zI_other _ _ (Or.inr (by omega))]; exact h.1, by rw [zI_other _ _ (Or.inr (by omega))]; exact h.2.1, by rw [zI_other _ _ (Or.inr (by omega))]; exact h.2.2.1, by rw [zI_other _ _ (Or.inr (by omega))]; exact h.2.2.2⟩
theorem c_fail {T : List Nat} {n L kind s : Nat} {M : zM} (h : TxH T M) (hR : RdH n L M) (hs : zI M 3 7 = nI s) (hs2 : s ≤ 200) (hk : kind ≠ 0) (hk2 : kind < 10) : ∃ M', fp_X4_fail 3 (nI kind) M = some M' ∧ FlH (kind, s) M' ∧ zC M' ∧ zR M' 3 4 = some 2 ∧ Fc at3 M M' := by
  unfold fp_X4_fail
  have hC := h.1
  refine ⟨zsI (zsI M 3 2 (nI kind)) 3 3 (nI s), ?_, ⟨?_, ?_, hk, hk2, hs2⟩, hC, h.2.1, Fc_trans (Fc_sI (Or.inl rfl)) (Fc_sI (Or.inl rfl))⟩
  · rw [ts_3 hC, pI_3 hC, Option.bind_some, gI_3 (by exact hC), Option.bind_some, zI_other _ _ (Or.inr (by decide)), hs, pI_3 (by exact hC), Option.bind_some]
  · rw [zI_other _ _ (Or.inr (by decide)), zI_same]
  · rw [zI_same]
/-- the next token -/
theorem c_nextToken {T : List Nat} {n L e : Nat} {M : zM} (h : TxH T M) (hT : ∀ x ∈ T, x < 256) (hR : RdH n L M) (he : zI M 3 8 = nI e) (hle : e ≤ T.length) :
    ((tokS T e).1 = 4 → ∃ M', fp_X4_nextToken 3 M = some (0, M') ∧ FlH (1, (tokS T e).2.1) M' ∧ zC M' ∧ zR M' 3 4 = some 2 ∧ Fc at3 M M') ∧
    ((tokS T e).1 ≠ 4 → ∃ M', fp_X4_nextToken 3 M = some (1, M') ∧ TxH T M' ∧ RdH n L M' ∧ zI M' 3 6 = nI (tokS T e).1 ∧ zI M' 3 7 = nI (tokS T e).2.1 ∧ zI M' 3 8 = nI (tokS T e).2.2 ∧ Fc at3 M M') := by
  have hC := h.1
  have h200 := h.2.2.2.1
  obtain ⟨s1, s2, s3⟩ := skp_le (f := blkT T) blk_lt (T.length - e) e (by omega)
  obtain ⟨s, hs⟩ : ∃ s, s = skp (blkT T) T.length e := ⟨_, rfl⟩
  -- blanks
  have blanks : ∀ (K : zM → Option (Int32 × zM)) d i f M1, i + d = T.length → d < f → TxH T M1 → RdH n L M1 → Fc at3 M M1 → zI M1 3 7 = nI i → ∃ M2, fp_X4_nextToken_L8 K 3 f M1 = K M2 ∧ TxH T M2 ∧ RdH n L M2 ∧ Fc at3 M M2 ∧ zI M2 3 7 = nI (skp (blkT T) T.length i) := by
    intro K d
    induction d with
    | zero =>
      intro i f M1 a1 a2 a3 a4 a5 a6
      obtain ⟨f, rfl⟩ : ∃ g, f = g + 1 := ⟨f - 1, by omega⟩
      have hb : blkT T i = false := by
        cases hb : blkT T i with
        | false => rfl
        | true => have := blk_lt i hb; omega
      refine ⟨M1, ?_, a3, a4, a5, by rw [skp_f (by omega) hb]; exact a6⟩
      rw [fp_X4_nextToken_L8, gI_3 a3.1, Option.bind_some, gI_3 a3.1, Option.bind_some, a6, a3.2.2.1, if_pos (by rw [ge_iff_le, n_le (by omega) (by omega)]; omega)]
    | succ d ih =>
      intro i f M1 a1 a2 a3 a4 a5 a6
      obtain ⟨f, rfl⟩ : ∃ g, f = g + 1 := ⟨f - 1, by omega⟩
      rw [fp_X4_nextToken_L8, gI_3 a3.1, Option.bind_some, gI_3 a3.1, Option.bind_some, a6, a3.2.2.1, go (by omega) (by omega), Option.bind_some, c_byteAt a3 (by omega), Option.bind_some, c_blk hT, Option.bind_some]
      cases hb : blkT T i with
      | false =>
        rw [ifF]
        exact ⟨M1, rfl, a3, a4, a5, by rw [skp_f (by omega) hb]; exact a6⟩
      | true =>
        rw [ifT, Option.bind_some, pI_3 a3.1, Option.bind_some, inc]
        obtain ⟨M2, b1, b2, b3, b4, b5⟩ := ih (i + 1) f (zsI M1 3 7 (nI (i + 1))) (by omega) (by omega) (TxH_sI a3 (by decide)) (RdH_sI a4 (by decide)) (Fc_trans a5 (Fc_sI (Or.inl rfl))) (zI_same _ _ _ _)
        exact ⟨M2, b1, b2, b3, b4, by rw [skp_t blk_lt hb]; exact b5⟩
  -- the rest of a word
  have word : ∀ (K : zM → Option (Int32 × zM)) d i f M1, i + d = T.length → d < f → TxH T M1 → RdH n L M1 → Fc at3 M M1 → zI M1 3 6 = nI 1 → zI M1 3 7 = nI s → zI M1 3 8 = nI i → ∃ M2, fp_X4_nextToken_L104 K 3 f M1 = K M2 ∧ TxH T M2 ∧ RdH n L M2 ∧ Fc at3 M M2 ∧ zI M2 3 6 = nI 1 ∧ zI M2 3 7 = nI s ∧ zI M2 3 8 = nI (skp (smlT T) T.length i) := by
    intro K d
    induction d with
    | zero =>
      intro i f M1 a1 a2 a3 a4 a5 a6 a7 a8
      obtain ⟨f, rfl⟩ : ∃ g, f = g + 1 := ⟨f - 1, by omega⟩
      have hb : smlT T i = false := by
        cases hb : smlT T i with
        | false => rfl
        | true => have := sml_lt i hb; omega
      refine ⟨M1, ?_, a3, a4, a5, a6, a7, by rw [skp_f (by omega) hb]; exact a8⟩
      rw [fp_X4_nextToken_L104, gI_3 a3.1, Option.bind_some, gI_3 a3.1, Option.bind_some, a8, a3.2.2.1, if_pos (by rw [ge_iff_le, n_le (by omega) (by omega)]; omega)]
    | succ d ih =>
      intro i f M1 a1 a2 a3 a4 a5 a6 a7 a8
      obtain ⟨f, rfl⟩ : ∃ g, f = g + 1 := ⟨f - 1, by omega⟩
      rw [fp_X4_nextToken_L104, gI_3 a3.1, Option.bind_some, gI_3 a3.1, Option.bind_some, a8, a3.2.2.1, go (by omega) (by omega), Option.bind_some, c_byteAt a3 (by omega), Option.bind_some, c_sml hT, Option.bind_some]
      cases hb : smlT T i with
      | false =>
        rw [ifF]
        exact ⟨M1, rfl, a3, a4, a5, a6, a7, by rw [skp_f (by omega) hb]; exact a8⟩
      | true =>
        rw [ifT, Option.bind_some, pI_3 a3.1, Option.bind_some, inc]
        obtain ⟨M2, b1, b2, b3, b4, b5, b6, b7⟩ := ih (i + 1) f (zsI M1 3 8 (nI (i + 1))) (by omega) (by omega) (TxH_sI a3 (by decide)) (RdH_sI a4 (by decide)) (Fc_trans a5 (Fc_sI (Or.inl rfl))) (by rw [zI_other _ _ (Or.inr (by decide))]; exact a6) (by rw [zI_other _ _ (Or.inr (by decide))]; exact a7) (zI_same _ _ _ _)
        exact ⟨M2, b1, b2, b3, b4, b5, b6, by rw [skp_t sml_lt hb]; exact b7⟩
  unfold fp_X4_nextToken
  rw [ts_3 hC, gI_3 hC, Option.bind_some, he, pI_3 hC, Option.bind_some]
  obtain ⟨K, hK⟩ : ∃ K : zM → Option (Int32 × zM), K = (fun M10 =>
        (zgI 3 M10 3 7).bind fun (y11 : Int32) =>
        (zpI 3 M10 3 8 (y11 + 1)).bind fun (M12 : zM) =>
        (zgI 3 M12 3 7).bind fun (y13 : Int32) =>
        (fp_X4_byteAt 3 y13 M12).bind fun (y14 : Int32) =>
        (zgI 3 M12 3 7).bind fun (y15 : Int32) =>
        (zgI 3 M12 3 5).bind fun (y16 : Int32) =>
        zjn (fun (M17 : zM) =>
            (zgI 3 M17 3 2).bind fun (y18 : Int32) =>
            if y18 ≠ 0 then (
              some (0, M17))
            else (
              some (1, M17)))
          (fun j190 =>
            if y15 < y16 then (
              (fp_X4_isSmall y14).bind fun (y19 : Int32) =>
              if y19 = 0 then (
                (fp_X4_isDigit y14).bind fun (y20 : Int32) =>
                zjn (
                    if y14 ≠ 59 then (
                      (fp_X4_fail 3 1 M12).bind fun (M21 : zM) =>
                      j190 M21)
                    else (
                      (zpI 3 M12 3 6 3).bind fun (M22 : zM) =>
                      j190 M22))
                  (fun j171 =>
                    if y20 = 0 then (
                      j171)
                    else (
                      (zgI 3 M12 3 8).bind fun (y23 : Int32) =>
                      (fp_X4_byteAt 3 y23 M12).bind fun (y24 : Int32) =>
                      (fp_X4_isDigit y24).bind fun (y25 : Int32) =>
                      if y25 ≠ 0 then (
                        j171)
                      else (
                        (zpI 3 M12 3 6 2).bind fun (M26 : zM) =>
                        j190 M26))))
              else (
                (zpI 3 M12 3 6 1).bind fun (M27 : zM) =>
                fp_X4_nextToken_L104
                  (fun M35 =>
                    j190 M35) 3 FU M27))
            else (
              (zpI 3 M12 3 6 0).bind fun (M36 : zM) =>
              (zgI 3 M36 3 7).bind fun (y37 : Int32) =>
              (zpI 3 M36 3 8 y37).bind fun (M38 : zM) =>
              j190 M38))) := ⟨_, rfl⟩
  rw [← hK]
  obtain ⟨M2, b1, b2, b3, b4, b5⟩ := blanks K (T.length - e) e FU (zsI M 3 7 (nI e)) (by omega) (FU_gt (by omega)) (TxH_sI h (by decide)) (RdH_sI hR (by decide)) (Fc_sI (Or.inl rfl)) (zI_same _ _ _ _)
  rw [b1, hK]
  rw [← hs] at b5 s1 s2 s3
  dsimp only
  obtain ⟨M3, hM3⟩ : ∃ M3, M3 = zsI M2 3 8 (nI (s + 1)) := ⟨_, rfl⟩
  have t3 : TxH T M3 := by rw [hM3]; exact TxH_sI b2 (by decide)
  have r3 : RdH n L M3 := by rw [hM3]; exact RdH_sI b3 (by decide)
  have f3 : Fc at3 M M3 := by rw [hM3]; exact Fc_trans b4 (Fc_sI (Or.inl rfl))
  have e7 : zI M3 3 7 = nI s := by rw [hM3, zI_other _ _ (Or.inr (by decide))]; exact b5
  have e8 : zI M3 3 8 = nI (s + 1) := by rw [hM3, zI_same]
  rw [gI_3 b2.1, Option.bind_some, b5, inc, pI_3 b2.1, Option.bind_some, ← hM3, gI_3 t3.1, Option.bind_some, e7, c_byteAt t3 (by omega), Option.bind_some, Option.bind_some, gI_3 t3.1, Option.bind_some, t3.2.2.1, zjn_eq]
  have fin : ∀ M4, TxH T M4 → RdH n L M4 → ((zgI 3 M4 3 2).bind fun (y18 : Int32) => if y18 ≠ 0 then some ((0 : Int32), M4) else some (1, M4)) = some (1, M4) := by
    intro M4 a1 a2
    rw [gI_3 a1.1, Option.bind_some, a2.2.2.1, if_neg (by rw [n_0]; exact fun q => q rfl)]
  dsimp only
  have tk : tokS T e = (if T.length ≤ s then (0, s, s) else if smlT T s then (1, s, skp (smlT T) T.length (s + 1)) else if dgtT T s && !dgtT T (s + 1) then (2, s, s + 1) else if T.getD s 0 = 59 then (3, s, s + 1) else (4, s, s + 1)) := by unfold tokS; rw [hs]
  rw [tk]
  by_cases c1 : T.length ≤ s
  · rw [if_pos c1, if_neg (by rw [n_lt (by omega) (by omega)]; omega)]
    refine ⟨fun z => absurd z (by dsimp only; omega), fun _ => ?_⟩
    rw [n_0, pI_3 t3.1, Option.bind_some, gI_3 (by exact t3.1), Option.bind_some, zI_other _ _ (Or.inr (by decide)), e7, pI_3 (by exact t3.1), Option.bind_some, ← n_0]
    have t5 : TxH T (zsI (zsI M3 3 6 0) 3 8 (nI s)) := TxH_sI (TxH_sI t3 (by decide)) (by decide)
    have r5 : RdH n L (zsI (zsI M3 3 6 0) 3 8 (nI s)) := RdH_sI (RdH_sI r3 (by decide)) (by decide)
    refine ⟨_, fin _ t5 r5, t5, r5, ?_, ?_, ?_, Fc_trans f3 (Fc_trans (Fc_sI (Or.inl rfl)) (Fc_sI (Or.inl rfl)))⟩
    · rw [zI_other _ _ (Or.inr (by decide)), zI_same, n_0]
    · rw [zI_other _ _ (Or.inr (by decide)), zI_other _ _ (Or.inr (by decide))]; exact e7
    · rw [zI_same]
  · have hsl : s < T.length := by omega
    rw [if_neg c1, if_pos (show nI s < nI T.length by rw [n_lt (by omega) (by omega)]; exact hsl), c_sml hT, Option.bind_some]
    cases c2 : smlT T s with
    | true =>
      rw [ifT, if_pos rfl]
      refine ⟨fun z => absurd z (by dsimp only; omega), fun _ => ?_⟩
      rw [n_1, pI_3 t3.1, Option.bind_some]
      obtain ⟨M5, d1, d2, d3, d4, d5, d6, d7⟩ := word (fun M35 => (zgI 3 M35 3 2).bind fun (y18 : Int32) => if y18 ≠ 0 then some ((0 : Int32), M35) else some (nI 1, M35)) (T.length - (s + 1)) (s + 1) FU (zsI M3 3 6 (nI 1)) (by omega) (FU_gt (by omega)) (TxH_sI t3 (by decide)) (RdH_sI r3 (by decide)) (Fc_trans f3 (Fc_sI (Or.inl rfl))) (zI_same _ _ _ _) (by rw [zI_other _ _ (Or.inr (by decide))]; exact e7) (by rw [zI_other _ _ (Or.inr (by decide))]; exact e8)
      rw [d1]
      rw [← n_1]
      exact ⟨M5, fin M5 d2 d3, d2, d3, d5, d6, d7, d4⟩
    | false =>
      rw [ifF, if_neg Bool.false_ne_true, c_dgt hT, Option.bind_some, zjn_eq]
      have other : (((dgtT T s && !dgtT T (s + 1)) = true) = False) → ((if T.getD s 0 = 59 then ((3 : Nat), s, s + 1) else (4, s, s + 1)).1 = 4 → ∃ M', (if (if s < T.length then nI (T.getD s 0) else -1) ≠ 59 then (fp_X4_fail 3 1 M3).bind fun (M21 : zM) => (zgI 3 M21 3 2).bind fun (y18 : Int32) => if y18 ≠ 0 then some ((0 : Int32), M21) else some (1, M21) else (zpI 3 M3 3 6 3).bind fun (M22 : zM) => (zgI 3 M22 3 2).bind fun (y18 : Int32) => if y18 ≠ 0 then some ((0 : Int32), M22) else some (1, M22)) = some (0, M') ∧ FlH (1, (if T.getD s 0 = 59 then ((3 : Nat), s, s + 1) else (4, s, s + 1)).2.1) M' ∧ zC M' ∧ zR M' 3 4 = some 2 ∧ Fc at3 M M') ∧ ((if T.getD s 0 = 59 then ((3 : Nat), s, s + 1) else (4, s, s + 1)).1 ≠ 4 → ∃ M', (if (if s < T.length then nI (T.getD s 0) else -1) ≠ 59 then (fp_X4_fail 3 1 M3).bind fun (M21 : zM) => (zgI 3 M21 3 2).bind fun (y18 : Int32) => if y18 ≠ 0 then some ((0 : Int32), M21) else some (1, M21) else (zpI 3 M3 3 6 3).bind fun (M22 : zM) => (zgI 3 M22 3 2).bind fun (y18 : Int32) => if y18 ≠ 0 then some ((0 : Int32), M22) else some (1, M22)) = some (1, M') ∧ TxH T M' ∧ RdH n L M' ∧ zI M' 3 6 = nI (if T.getD s 0 = 59 then ((3 : Nat), s, s + 1) else (4, s, s + 1)).1 ∧ zI M' 3 7 = nI (if T.getD s 0 = 59 then ((3 : Nat), s, s + 1) else (4, s, s + 1)).2.1 ∧ zI M' 3 8 = nI (if T.getD s 0 = 59 then ((3 : Nat), s, s + 1) else (4, s, s + 1)).2.2 ∧ Fc at3 M M') := by
        intro _
        have hx := hT _ (getD_mem hsl)
        rw [if_pos hsl, show (59 : Int32) = nI 59 from by decide]
        by_cases c4 : T.getD s 0 = 59
        · rw [if_pos c4]
          refine ⟨fun z => absurd z (by dsimp only; omega), fun _ => ?_⟩
          rw [if_neg (by rw [c4]; exact fun q => q rfl), n_3, pI_3 t3.1, Option.bind_some]
          have t5 : TxH T (zsI M3 3 6 (nI 3)) := TxH_sI t3 (by decide)
          have r5 : RdH n L (zsI M3 3 6 (nI 3)) := RdH_sI r3 (by decide)
          exact ⟨_, fin _ t5 r5, t5, r5, zI_same _ _ _ _, by rw [zI_other _ _ (Or.inr (by decide))]; exact e7, by rw [zI_other _ _ (Or.inr (by decide))]; exact e8, Fc_trans f3 (Fc_sI (Or.inl rfl))⟩
        · rw [if_neg c4]
          refine ⟨fun _ => ?_, fun z => absurd rfl z⟩
          obtain ⟨M5, d1, d2, d3, d4, d5⟩ := c_fail (kind := 1) t3 r3 e7 (by omega) (by decide) (by decide)
          rw [if_pos (by rw [ne_eq, n_eq (by omega) (by omega)]; exact c4), show fp_X4_fail 3 1 M3 = some M5 from by rw [n_1]; exact d1, Option.bind_some, gI_3 d3, Option.bind_some, d2.1, if_pos (show nI 1 ≠ 0 by decide)]
          exact ⟨M5, rfl, d2, d3, d4, Fc_trans f3 d5⟩
      cases c3 : dgtT T s with
      | false =>
        rw [ifF, Bool.false_and, if_neg Bool.false_ne_true]
        exact other (by rw [c3]; simp)
      | true =>
        rw [ifT, gI_3 t3.1, Option.bind_some, e8, c_byteAt t3 (by omega), Option.bind_some, c_dgt hT, Option.bind_some]
        cases c4 : dgtT T (s + 1) with
        | true =>
          rw [if_neg (show ¬ ((true && !true) = true) by decide), if_pos (show bI true ≠ 0 by simp [bI])]
          exact other (by rw [c3, c4]; simp)
        | false =>
          rw [if_pos (show (true && !false) = true from rfl), if_neg (show ¬ (bI false ≠ 0) by simp [bI])]
          refine ⟨fun z => absurd z (by dsimp only; omega), fun _ => ?_⟩
          rw [n_2, pI_3 t3.1, Option.bind_some]
          have t5 : TxH T (zsI M3 3 6 (nI 2)) := TxH_sI t3 (by decide)
          have r5 : RdH n L (zsI M3 3 6 (nI 2)) := RdH_sI r3 (by decide)
          exact ⟨_, fin _ t5 r5, t5, r5, zI_same _ _ _ _, by rw [zI_other _ _ (Or.inr (by decide))]; exact e7, by rw [zI_other _ _ (Or.inr (by decide))]; exact e8, Fc_trans f3 (Fc_sI (Or.inl rfl))⟩

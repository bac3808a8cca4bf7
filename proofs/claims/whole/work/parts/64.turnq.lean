/-! ===== 64: the class' Turnings: what is told ===== -/
theorem tkT {l : List (Nat × Nat)} {i : Nat} (h : i < l.length) : l.take (i + 1) = l.take i ++ [l.getD i (0, 0)] := by
  rw [List.take_succ_eq_append_getElem h]; simp [List.getD, h]
def okT (l : List (Nat × Nat)) : Prop := l.length ≤ 1096 ∧ ∀ q ∈ l, q.1 < 2 ^ 21 ∧ q.2 ≤ 1097
theorem Tl_okT {n L : Nat} (hn : n < 8) (hL : L < 2 ^ tri n) : okT (Tl n L) := by
  obtain ⟨h1, h2⟩ := Tl_ok hn hL
  exact ⟨h1, fun q hq => ⟨lt21 hn (h2 q hq).1, (h2 q hq).2⟩⟩
def mnT (l : List (Nat × Nat)) (a : Nat) : Nat := l.foldl (fun m q => min m (pc q.1)) a
def mxT (l : List (Nat × Nat)) : Nat := l.foldl (fun m q => max m (pc q.1)) 0
def cwT (l : List (Nat × Nat)) (k : Nat) : Nat := l.countP fun q => pc q.1 == k
def smT (l : List (Nat × Nat)) : Nat := l.foldl (fun m q => m + pc q.1) 0
def toT (l : List (Nat × Nat)) (x : Nat) : Option Nat := (l.find? fun q => q.1 == x).map Prod.snd
def abT (l : List (Nat × Nat)) (ps x : Nat) : Bool := l.any fun q => q.1 &&& ps == x
theorem mnT_le (l : List (Nat × Nat)) (a : Nat) : mnT l a ≤ a := by
  unfold mnT
  induction l generalizing a with
  | nil => exact Nat.le_refl _
  | cons q l ih => rw [List.foldl_cons]; exact Nat.le_trans (ih _) (Nat.min_le_left _ _)
theorem mxT_le (l : List (Nat × Nat)) : mxT l ≤ 21 := by
  unfold mxT
  have : ∀ (l : List (Nat × Nat)) a, a ≤ 21 → l.foldl (fun m q => max m (pc q.1)) a ≤ 21 := by
    intro l
    induction l with
    | nil => intro a h; exact h
    | cons q l ih => intro a h; rw [List.foldl_cons]; exact ih _ (Nat.max_le.mpr ⟨h, pc_le21 _⟩)
  exact this l 0 (by omega)
theorem smT_le (l : List (Nat × Nat)) : smT l ≤ 21 * l.length := by
  unfold smT
  have : ∀ (l : List (Nat × Nat)) a, l.foldl (fun m q => m + pc q.1) a ≤ a + 21 * l.length := by
    intro l
    induction l with
    | nil => intro a; exact Nat.le_refl _
    | cons q l ih =>
      intro a
      rw [List.foldl_cons, List.length_cons]
      have := ih (a + pc q.1)
      have := pc_le21 q.1
      omega
  have := this l 0
  omega
theorem c_fewest {n L : Nat} {M : zM} (hC : zC M) (hL : L < 2 ^ 21) (hG : TG n L M) (hok : okT (Tl n L)) : fp_X8_fewestLines 38 M = some (nI (mnT (Tl n L) (pc L))) := by
  unfold fp_X8_fewestLines
  obtain ⟨g1, g2, hT⟩ := hG
  obtain ⟨l, hl⟩ : ∃ l, l = Tl n L := ⟨_, rfl⟩
  rw [← hl] at hT hok ⊢
  have hlen := hok.1
  rw [ts_38 hC, gI_38 hC, Option.bind_some, g2, c_bitCount hL, Option.bind_some]
  rw [n_0, show nI (pc L) = nI (mnT (l.take 0) (pc L)) from rfl]
  refine up (P := fun i f => fp_X8_fewestLines_L10 38 M f (nI (mnT (l.take i) (pc L))) (nI i) = some (nI (mnT l (pc L)))) (a := 0) (n := l.length) ?_ ?_ FU (by omega) (FU_gt (by omega))
  · intro f
    rw [fp_X8_fewestLines_L10, gI_38 hC, Option.bind_some, hT.1, stp, List.take_length]
  · intro i f _ hi ih
    have h21 := (hok.2 _ (getT_mem hi)).1
    have b1 := mnT_le (l.take i) (pc L)
    have b2 := pc_le21 L
    have b3 := pc_le21 (l.getD i (0, 0)).1
    rw [fp_X8_fewestLines_L10, gI_38 hC, Option.bind_some, hT.1, go hi (by omega), gR_38_3 hC, Option.bind_some, lI_39 hC (by omega), Option.bind_some, (hT.2 i hi).1, c_bitCount h21, Option.bind_some, lett_eq, n_min (by omega) (by omega), inc]
    rw [tkT hi] at ih
    have e : mnT (l.take i ++ [l.getD i (0, 0)]) (pc L) = min (mnT (l.take i) (pc L)) (pc (l.getD i (0, 0)).1) := by
      unfold mnT; rw [List.foldl_append]; rfl
    rw [e] at ih
    exact ih
theorem c_mostL {n L : Nat} {M : zM} (hC : zC M) (hG : TG n L M) (hok : okT (Tl n L)) : fp_X8_mostLines 38 M = some (nI (mxT (Tl n L))) := by
  unfold fp_X8_mostLines
  obtain ⟨g1, g2, hT⟩ := hG
  obtain ⟨l, hl⟩ : ∃ l, l = Tl n L := ⟨_, rfl⟩
  rw [← hl] at hT hok ⊢
  have hlen := hok.1
  rw [ts_38 hC]
  rw [n_0, show fp_X8_mostLines_L4 38 M FU (nI 0) (nI 0) = fp_X8_mostLines_L4 38 M FU (nI (mxT (l.take 0))) (nI 0) from rfl]
  refine up (P := fun i f => fp_X8_mostLines_L4 38 M f (nI (mxT (l.take i))) (nI i) = some (nI (mxT l))) (a := 0) (n := l.length) ?_ ?_ FU (by omega) (FU_gt (by omega))
  · intro f
    rw [fp_X8_mostLines_L4, gI_38 hC, Option.bind_some, hT.1, stp, List.take_length]
  · intro i f _ hi ih
    have h21 := (hok.2 _ (getT_mem hi)).1
    have b1 := mxT_le (l.take i)
    have b3 := pc_le21 (l.getD i (0, 0)).1
    rw [fp_X8_mostLines_L4, gI_38 hC, Option.bind_some, hT.1, go hi (by omega), gR_38_3 hC, Option.bind_some, lI_39 hC (by omega), Option.bind_some, (hT.2 i hi).1, c_bitCount h21, Option.bind_some, lett_eq, n_max (by omega) (by omega), inc]
    rw [tkT hi] at ih
    have e : mxT (l.take i ++ [l.getD i (0, 0)]) = max (mxT (l.take i)) (pc (l.getD i (0, 0)).1) := by
      unfold mxT; rw [List.foldl_append]; rfl
    rw [e] at ih
    exact ih
theorem c_countWith {n L k : Nat} {M : zM} (hC : zC M) (hG : TG n L M) (hok : okT (Tl n L)) (hk : k < 2 ^ 31) : fp_X8_countWith 38 (nI k) M = some (nI (cwT (Tl n L) k)) := by
  unfold fp_X8_countWith
  obtain ⟨g1, g2, hT⟩ := hG
  obtain ⟨l, hl⟩ : ∃ l, l = Tl n L := ⟨_, rfl⟩
  rw [← hl] at hT hok ⊢
  have hlen := hok.1
  rw [ts_38 hC]
  rw [n_0, show fp_X8_countWith_L4 38 (nI k) M FU (nI 0) (nI 0) = fp_X8_countWith_L4 38 (nI k) M FU (nI (cwT (l.take 0) k)) (nI 0) from rfl]
  refine up (P := fun i f => fp_X8_countWith_L4 38 (nI k) M f (nI (cwT (l.take i) k)) (nI i) = some (nI (cwT l k))) (a := 0) (n := l.length) ?_ ?_ FU (by omega) (FU_gt (by omega))
  · intro f
    rw [fp_X8_countWith_L4, gI_38 hC, Option.bind_some, hT.1, stp, List.take_length]
  · intro i f _ hi ih
    have h21 := (hok.2 _ (getT_mem hi)).1
    have b3 := pc_le21 (l.getD i (0, 0)).1
    rw [fp_X8_countWith_L4, gI_38 hC, Option.bind_some, hT.1, go hi (by omega), gR_38_3 hC, Option.bind_some, lI_39 hC (by omega), Option.bind_some, (hT.2 i hi).1, c_bitCount h21, Option.bind_some, zjn_eq]
    simp only [inc]
    rw [tkT hi] at ih
    have e : cwT (l.take i ++ [l.getD i (0, 0)]) k = cwT (l.take i) k + if pc (l.getD i (0, 0)).1 = k then 1 else 0 := by
      unfold cwT
      rw [List.countP_append, List.countP_singleton]
      congr 1
      by_cases q : pc (l.getD i (0, 0)).1 = k
      · rw [if_pos q, if_pos (by simpa using q)]
      · rw [if_neg q, if_neg (by simpa using q)]
    rw [e] at ih
    by_cases q : pc (l.getD i (0, 0)).1 = k
    · rw [if_pos q] at ih
      rw [if_neg (by rw [q]; exact fun z => z rfl)]
      exact ih
    · rw [if_neg q] at ih
      rw [if_pos (by rw [ne_eq, n_eq (by omega) (by omega)]; exact q)]
      exact ih
theorem c_allLines {n L : Nat} {M : zM} (hC : zC M) (hG : TG n L M) (hok : okT (Tl n L)) : fp_X8_allLines 38 M = some (nI (smT (Tl n L))) := by
  unfold fp_X8_allLines
  obtain ⟨g1, g2, hT⟩ := hG
  obtain ⟨l, hl⟩ : ∃ l, l = Tl n L := ⟨_, rfl⟩
  rw [← hl] at hT hok ⊢
  have hlen := hok.1
  rw [ts_38 hC]
  rw [n_0, show fp_X8_allLines_L4 38 M FU (nI 0) (nI 0) = fp_X8_allLines_L4 38 M FU (nI (smT (l.take 0))) (nI 0) from rfl]
  refine up (P := fun i f => fp_X8_allLines_L4 38 M f (nI (smT (l.take i))) (nI i) = some (nI (smT l))) (a := 0) (n := l.length) ?_ ?_ FU (by omega) (FU_gt (by omega))
  · intro f
    rw [fp_X8_allLines_L4, gI_38 hC, Option.bind_some, hT.1, stp, List.take_length]
  · intro i f _ hi ih
    have h21 := (hok.2 _ (getT_mem hi)).1
    rw [fp_X8_allLines_L4, gI_38 hC, Option.bind_some, hT.1, go hi (by omega), gR_38_3 hC, Option.bind_some, lI_39 hC (by omega), Option.bind_some, (hT.2 i hi).1, c_bitCount h21, Option.bind_some, lett_eq, n_add, inc]
    rw [tkT hi] at ih
    have e : smT (l.take i ++ [l.getD i (0, 0)]) = smT (l.take i) + pc (l.getD i (0, 0)).1 := by
      unfold smT; rw [List.foldl_append]; rfl
    rw [e] at ih
    exact ih
theorem c_turnsTo {n L x : Nat} {M : zM} (hC : zC M) (hG : TG n L M) (hok : okT (Tl n L)) (hx : x < 2 ^ 31) : fp_X8_turnsTo 38 (nI x) M = some (match toT (Tl n L) x with | some t => nI t | none => -1) := by
  unfold fp_X8_turnsTo
  obtain ⟨g1, g2, hT⟩ := hG
  obtain ⟨l, hl⟩ : ∃ l, l = Tl n L := ⟨_, rfl⟩
  rw [← hl] at hT hok ⊢
  have hlen := hok.1
  rw [ts_38 hC]
  have key : ((l.take 0).find? fun q => q.1 == x) = none → fp_X8_turnsTo_L2 38 (nI x) M FU (nI 0) = some (match toT l x with | some t => nI t | none => -1) := by
    refine up (P := fun i f => ((l.take i).find? fun q => q.1 == x) = none → fp_X8_turnsTo_L2 38 (nI x) M f (nI i) = some (match toT l x with | some t => nI t | none => -1)) (a := 0) (n := l.length) ?_ ?_ FU (by omega) (FU_gt (by omega))
    · intro f hf
      rw [List.take_length] at hf
      rw [fp_X8_turnsTo_L2, gI_38 hC, Option.bind_some, hT.1, stp]
      unfold toT
      rw [hf]; rfl
    · intro i f _ hi ih hf
      have h21 := (hok.2 _ (getT_mem hi)).1
      rw [fp_X8_turnsTo_L2, gI_38 hC, Option.bind_some, hT.1, go hi (by omega), gR_38_3 hC, Option.bind_some, lI_39 hC (by omega), Option.bind_some, (hT.2 i hi).1, inc]
      by_cases q : (l.getD i (0, 0)).1 = x
      · rw [if_neg (by rw [q]; exact fun z => z rfl), gR_38_4 hC, Option.bind_some, lI_40 hC (by omega), Option.bind_some, (hT.2 i hi).2]
        have e : (l.find? fun q => q.1 == x) = some (l.getD i (0, 0)) := by
          have h1 : l = l.take (i + 1) ++ l.drop (i + 1) := (List.take_append_drop _ _).symm
          have h2 : ((l.take (i + 1)).find? fun q => q.1 == x) = some (l.getD i (0, 0)) := by
            rw [tkT hi, List.find?_append, hf]
            simp only [Option.none_or]
            rw [List.find?_cons, show ((l.getD i (0, 0)).1 == x) = true by simpa using q]
          have h3 : (l.find? fun q => q.1 == x) = ((l.take (i + 1) ++ l.drop (i + 1)).find? fun q => q.1 == x) := by rw [← h1]
          rw [h3, List.find?_append, h2]; rfl
        unfold toT
        rw [e]; rfl
      · rw [if_pos (by rw [ne_eq, n_eq (by omega) (by omega)]; exact q)]
        refine ih ?_
        rw [tkT hi, List.find?_append, hf]
        simp only [Option.none_or]
        rw [List.find?_cons, show ((l.getD i (0, 0)).1 == x) = false by simpa using q]
        rfl
  rw [n_0]
  exact key rfl
theorem c_anyBegins {n L p x : Nat} {M : zM} (hC : zC M) (hG : TG n L M) (hok : okT (Tl n L)) (hp : p < 8) (hx : x < 2 ^ 31) : fp_X8_anyBeginsWith 38 (nI p) (nI x) M = some (bI (abT (Tl n L) (prs (1 <<< p - 1)) x)) := by
  unfold fp_X8_anyBeginsWith
  obtain ⟨g1, g2, hT⟩ := hG
  obtain ⟨l, hl⟩ : ∃ l, l = Tl n L := ⟨_, rfl⟩
  rw [← hl] at hT hok ⊢
  have hlen := hok.1
  have h128 : 1 <<< p - 1 < 128 := by
    rw [all_eq]
    have := two_pow7 hp
    have := Nat.two_pow_pos p
    omega
  rw [ts_38 hC, c_everyPoint p (by omega), Option.bind_some, c_pairsOf _ h128, Option.bind_some]
  obtain ⟨ps, hps⟩ : ∃ ps, ps = prs (1 <<< p - 1) := ⟨_, rfl⟩
  rw [← hps]
  have key : abT (l.take 0) ps x = false → fp_X8_anyBeginsWith_L11 38 (nI x) (nI ps) M FU (nI 0) = some (bI (abT l ps x)) := by
    refine up (P := fun i f => abT (l.take i) ps x = false → fp_X8_anyBeginsWith_L11 38 (nI x) (nI ps) M f (nI i) = some (bI (abT l ps x))) (a := 0) (n := l.length) ?_ ?_ FU (by omega) (FU_gt (by omega))
    · intro f hf
      rw [List.take_length] at hf
      rw [fp_X8_anyBeginsWith_L11, gI_38 hC, Option.bind_some, hT.1, stp, hf]; rfl
    · intro i f _ hi ih hf
      have h21 := (hok.2 _ (getT_mem hi)).1
      have hand : (l.getD i (0, 0)).1 &&& ps < 2 ^ 21 := Nat.lt_of_le_of_lt Nat.and_le_left h21
      rw [fp_X8_anyBeginsWith_L11, gI_38 hC, Option.bind_some, hT.1, go hi (by omega), gR_38_3 hC, Option.bind_some, lI_39 hC (by omega), Option.bind_some, (hT.2 i hi).1, n_and, inc]
      by_cases q : (l.getD i (0, 0)).1 &&& ps = x
      · rw [if_neg (by rw [q]; exact fun z => z rfl)]
        have : abT l ps x = true := List.any_eq_true.mpr ⟨_, getT_mem hi, by simpa using q⟩
        rw [this]; rfl
      · rw [if_pos (by rw [ne_eq, n_eq (by omega) (by omega)]; exact q)]
        refine ih ?_
        unfold abT at hf ⊢
        rw [tkT hi, List.any_append, hf, Bool.false_or, List.any_cons, List.any_nil, Bool.or_false]
        simpa using q
  rw [n_0]
  exact key rfl

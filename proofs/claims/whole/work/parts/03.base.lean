/-! ===== THE MEMORY: what the class' and the reference's own cells hold, as functions; cell k of it lies at bs + k ===== -/
/-- ints (fields, int, byte and boolean arrays), longs, references, lengths of arrays, how many cells, how many slots -/
abbrev zM : Type := (Nat → Nat → Int32) × (Nat → Nat → Int64) × (Nat → Nat → Option Nat) × (Nat → Nat) × Nat × Nat
def zI (M : zM) : Nat → Nat → Int32 := M.1
def zJ (M : zM) : Nat → Nat → Int64 := M.2.1
def zR (M : zM) : Nat → Nat → Option Nat := M.2.2.1
def zL (M : zM) : Nat → Nat := M.2.2.2.1
def zS (M : zM) : Nat := M.2.2.2.2.1
def zU (M : zM) : Nat := M.2.2.2.2.2
def zsI (M : zM) (a k : Nat) (v : Int32) : zM := (fun a' k' => if a' = a ∧ k' = k then v else M.1 a' k', M.2)
def zsJ (M : zM) (a k : Nat) (v : Int64) : zM := (M.1, fun a' k' => if a' = a ∧ k' = k then v else M.2.1 a' k', M.2.2)
def zsR (M : zM) (a k : Nat) (v : Option Nat) : zM := (M.1, M.2.1, fun a' k' => if a' = a ∧ k' = k then v else M.2.2.1 a' k', M.2.2.2)
/-- a new cell: all of it 0 or null, L its length, n its slots -/
def znew (M : zM) (L n : Nat) : zM := (fun a k => if a = zS M then 0 else M.1 a k, fun a k => if a = zS M then 0 else M.2.1 a k, fun a k => if a = zS M then none else M.2.2.1 a k, fun a => if a = zS M then L else M.2.2.2.1 a, zS M + 1, zU M + n)
/-- one array's part copied into another's -/
def zcpI (M : zM) (a sp b dp n : Nat) : zM := (fun a' k' => if a' = b then va_cpy (M.1 a) (M.1 b) sp dp n k' else M.1 a' k', M.2)
def zcpJ (M : zM) (a sp b dp n : Nat) : zM := (M.1, fun a' k' => if a' = b then va_cpy (M.2.1 a) (M.2.1 b) sp dp n k' else M.2.1 a' k', M.2.2)
/-- the kind of each cell: a class' place in vwCl; 100 int[], 101 long[], 102 byte[], 103 boolean[], 104 int[][] -/
def zkl : List Nat := [8, 5, 100, 3, 100, 100, 7, 100, 100, 4, 100, 2, 104, 100, 100, 100, 100, 100, 100, 100, 100, 100, 100, 1, 101, 100, 100, 100, 1, 101, 100, 100, 100, 1, 101, 100, 100, 100, 6, 100, 100, 100, 0, 100, 100, 100, 9, 100, 102, 102, 100, 100, 100, 100, 100, 100, 103, 100, 100, 100, 100, 100, 100, 100, 100, 100, 100, 100, 100, 100, 100, 100]
def kd (a : Nat) : Nat := zkl.getD a 101
/-- a class' fields: 0 an int or boolean, 1 a reference -/
def zf : Nat → List Nat
  | 0 => [0, 0, 0, 0, 1]
  | 1 => [0, 1, 0, 0, 0, 0, 1, 1, 1, 0]
  | 2 => [1, 1, 1, 0, 0]
  | 3 => [0, 0, 0, 0, 1, 0, 0, 0, 0, 1]
  | 4 => [1, 0]
  | 5 => [1, 0]
  | 6 => [0, 0, 0, 1, 1, 1]
  | 7 => [1, 0]
  | 8 => [0, 0, 0, 0, 1, 1, 1, 1, 1, 1, 1, 1, 1, 1, 1, 1, 1]
  | 9 => [0, 0, 1, 1, 1, 0, 0, 0, 0, 0, 0, 0, 0, 1, 1, 1, 1, 1, 1, 1, 0, 1, 0, 1, 1, 1, 1, 1, 0, 0, 1, 1, 1, 1, 1, 1, 0, 0, 0, 0, 0, 0, 0, 0, 0, 1, 0, 1, 1, 0, 0, 0]
  | _ => []
/-- the launch, the tables' numbers, the array classes, where the memory begins, what holds of the cells ahead of it, where the texts lie -/
abbrev zEnv : Type := Launch × va_G × (Nat → ClassId) × Nat × (State → Heap → Prop) × (Nat → Nat)
def zfs (E : zEnv) (M : zM) (a : Nat) (l : List Nat) : List Value := l.mapIdx (fun k t => if t = 0 then Value.int (zI M a k) else va_rf ((zR M a k).map (fun q => E.2.2.2.1 + q)))
def zE (E : zEnv) (M : zM) (a : Nat) : va_E :=
  if kd a < 20 then .inr (kd a, zfs E M a (zf (kd a)))
  else if kd a = 101 then .inl (E.2.2.1 101, (zL M a, .inr (.inl (zJ M a))))
  else if kd a = 104 then .inl (E.2.2.1 104, (zL M a, .inr (.inr (.inr (.inr (fun j => (zR M a j).map (fun q => E.2.2.2.1 + q)))))))
  else .inl (E.2.2.1 (kd a), (zL M a, .inl (zI M a)))
def zW (E : zEnv) (M : zM) : va_W := (List.range (zS M)).map (fun a => (E.2.2.2.1 + a, zE E M a))
def zTy (E : zEnv) : List (ClassId × FieldType) := [(E.2.2.1 100, .int), (E.2.2.1 101, .long), (E.2.2.1 102, .byte), (E.2.2.1 103, .boolean), (E.2.2.1 104, .array .int)]
def zRep (E : zEnv) (M : zM) (H : Heap) : Prop := H.size = E.2.2.2.1 + zS M ∧ va_P E.2.1 vwCl (zW E M) H
abbrev zA (E : zEnv) : Nat → Prop := fun q => E.2.2.2.1 ≤ q
def zPok (E : zEnv) : Prop := (∀ (u U : State) (H : Heap), u.WarmedH U.vm → E.2.2.2.2.1 u H → E.2.2.2.2.1 U H) ∧ ∀ (U : State) (H H1 : Heap), (∀ q, q < E.2.2.2.1 → H1[q]? = H[q]?) → E.2.2.2.2.1 U H → E.2.2.2.2.1 U H1
theorem zW_get {E : zEnv} {M : zM} {a : Nat} (h : a < zS M) : (zW E M)[a]? = some (E.2.2.2.1 + a, zE E M a) := by
  unfold zW
  rw [List.getElem?_map, List.getElem?_range h]
  rfl
theorem zW_inv {E : zEnv} {M : zM} {a : Nat} {q : Nat × va_E} (h : (zW E M)[a]? = some q) : a < zS M ∧ q = (E.2.2.2.1 + a, zE E M a) := by
  have hl : a < zS M := by
    have := (List.getElem?_eq_some_iff.mp h).1
    simpa [zW] using this
  rw [zW_get hl] at h
  exact ⟨hl, (Option.some.inj h).symm⟩
theorem zW_D (E : zEnv) (M : zM) : va_D (zA E) (zW E M) := by
  refine ⟨fun i j p q hi hj h => ?_, fun k q hk => ?_⟩
  · obtain ⟨-, rfl⟩ := zW_inv hi
    obtain ⟨-, rfl⟩ := zW_inv hj
    dsimp only at h
    omega
  · obtain ⟨-, rfl⟩ := zW_inv hk
    exact Nat.le_add_right _ _
theorem zW_set {E : zEnv} {M M' : zM} {a : Nat} (hs : zS M' = zS M) (ho : ∀ b, b ≠ a → zE E M' b = zE E M b) : (zW E M).set a (E.2.2.2.1 + a, zE E M' a) = zW E M' := by
  apply List.ext_getElem?
  intro i
  by_cases hi : i = a
  · subst hi
    by_cases hl : i < zS M
    · rw [List.getElem?_set_self (by simpa [zW] using hl), zW_get (by rw [hs]; exact hl)]
    · rw [List.getElem?_eq_none (by simp [zW]; omega), List.getElem?_eq_none (by simp [zW]; omega)]
  · rw [List.getElem?_set_ne (fun h => hi h.symm)]
    by_cases hl : i < zS M
    · rw [zW_get hl, zW_get (by rw [hs]; exact hl), ho i hi]
    · rw [List.getElem?_eq_none (by simp [zW]; omega), List.getElem?_eq_none (by simp [zW]; omega)]
theorem zsI_S (M : zM) (a k : Nat) (v : Int32) : zS (zsI M a k v) = zS M := rfl
theorem zfs_get {E : zEnv} {M : zM} {a k : Nat} {l : List Nat} {t : Nat} (h : l[k]? = some t) : (zfs E M a l)[k]? = some (if t = 0 then Value.int (zI M a k) else va_rf ((zR M a k).map (fun q => E.2.2.2.1 + q))) := by
  unfold zfs
  rw [List.getElem?_mapIdx, h]
  rfl
theorem zfs_len (E : zEnv) (M : zM) (a : Nat) (l : List Nat) : (zfs E M a l).length = l.length := by simp [zfs]
theorem zfs_setI {E : zEnv} {M : zM} {a k : Nat} {l : List Nat} {v : Int32} (h : l[k]? = some 0) : (zfs E M a l).set k (.int v) = zfs E (zsI M a k v) a l := by
  apply List.ext_getElem?
  intro i
  by_cases hi : i = k
  · subst hi
    rw [List.getElem?_set_self (by rw [zfs_len]; exact (List.getElem?_eq_some_iff.mp h).1), zfs_get h]
    simp [zI, zsI]
  · rw [List.getElem?_set_ne (fun q => hi q.symm)]
    cases hq : l[i]? with
    | none =>
      have : l.length ≤ i := List.getElem?_eq_none_iff.mp hq
      rw [List.getElem?_eq_none (by rw [zfs_len]; exact this), List.getElem?_eq_none (by rw [zfs_len]; exact this)]
    | some t =>
      rw [zfs_get hq, zfs_get hq]
      simp [zI, zsI, zR, hi]
theorem zfs_setR {E : zEnv} {M : zM} {a k : Nat} {l : List Nat} {v : Option Nat} (h : l[k]? = some 1) : (zfs E M a l).set k (va_rf (v.map (fun q => E.2.2.2.1 + q))) = zfs E (zsR M a k v) a l := by
  apply List.ext_getElem?
  intro i
  by_cases hi : i = k
  · subst hi
    rw [List.getElem?_set_self (by rw [zfs_len]; exact (List.getElem?_eq_some_iff.mp h).1), zfs_get h]
    simp [zR, zsR]
  · rw [List.getElem?_set_ne (fun q => hi q.symm)]
    cases hq : l[i]? with
    | none =>
      have : l.length ≤ i := List.getElem?_eq_none_iff.mp hq
      rw [List.getElem?_eq_none (by rw [zfs_len]; exact this), List.getElem?_eq_none (by rw [zfs_len]; exact this)]
    | some t =>
      rw [zfs_get hq, zfs_get hq]
      simp [zI, zsR, zR, hi]
theorem zE_oI {E : zEnv} {M : zM} {a k : Nat} {v : Int32} (b : Nat) (h : b ≠ a) : zE E (zsI M a k v) b = zE E M b := by
  have h1 : zI (zsI M a k v) b = zI M b := by funext j; simp [zI, zsI, h]
  unfold zE zfs
  rw [h1]
  rfl
theorem zE_oJ {E : zEnv} {M : zM} {a k : Nat} {v : Int64} (b : Nat) (h : b ≠ a) : zE E (zsJ M a k v) b = zE E M b := by
  have h1 : zJ (zsJ M a k v) b = zJ M b := by funext j; simp [zJ, zsJ, h]
  unfold zE zfs
  rw [h1]
  rfl
theorem zE_oR {E : zEnv} {M : zM} {a k : Nat} {v : Option Nat} (b : Nat) (h : b ≠ a) : zE E (zsR M a k v) b = zE E M b := by
  have h1 : zR (zsR M a k v) b = zR M b := by funext j; simp [zR, zsR, h]
  unfold zE zfs
  rw [h1]
  rfl
theorem zE_o {E : zEnv} {M : zM} {a c : Nat} (h : kd a = c) (hc : c < 20) : zE E M a = .inr (c, zfs E M a (zf c)) := by
  unfold zE
  rw [h, if_pos hc]
theorem zE_i {E : zEnv} {M : zM} {a c : Nat} (h : kd a = c) (hc : c = 100 ∨ c = 102 ∨ c = 103) : zE E M a = .inl (E.2.2.1 c, (zL M a, .inl (zI M a))) := by
  unfold zE
  rw [h]
  rcases hc with rfl | rfl | rfl <;> rfl
theorem zE_j {E : zEnv} {M : zM} {a : Nat} (h : kd a = 101) : zE E M a = .inl (E.2.2.1 101, (zL M a, .inr (.inl (zJ M a)))) := by
  unfold zE
  rw [h]
  rfl
theorem zE_q {E : zEnv} {M : zM} {a : Nat} (h : kd a = 104) : zE E M a = .inl (E.2.2.1 104, (zL M a, .inr (.inr (.inr (.inr (fun j => (zR M a j).map (fun q => E.2.2.2.1 + q))))))) := by
  unfold zE
  rw [h]
  rfl

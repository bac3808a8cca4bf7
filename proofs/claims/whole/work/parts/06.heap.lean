section ZH
variable {E : zEnv} {μ : zMu} {d : Nat} {M0 : zM} {tg : Option Value × zM} {α : Type} {x0 : α} {t : Option α} {pc : Nat} {loc : List (Nat × Value)} {st : List Value} {M : zM}
theorem zWsz {p : Program} {l : Launch} {e : Env} {R : Room} {s : State} {m : MethodId} {args : Array Value} {below : List Frame} {meth : Method} {c : Code} {H : Heap} {locs : List Loc} {cells slots : Nat} {Q : State → Prop} {g : JFrame} (k : H.size ≤ s.heap.size + cells → W p l e R s m args below meth c H locs cells slots Q g) : W p l e R s m args below meth c H locs cells slots Q g := fun T hT X => k (hT ▸ X.heapSize) T hT X
theorem zStr {A : Nat → Prop} {H0 H H1 : Heap} {l0 l1 : List Loc} (h0 : va_S A H0 H l0) (h1 : va_S A H H1 l1) : va_S A H0 H1 l1 := ⟨Nat.le_trans h0.1 h1.1, fun q a b => (h1.2.1 q (Nat.lt_of_lt_of_le a h0.1) b).trans (h0.2.1 q a b), h1.2.2⟩
theorem zSself {A : Nat → Prop} {H0 H : Heap} {l : List Loc} (h : va_S A H0 H l) : va_S A H H l := ⟨Nat.le_refl _, fun _ _ _ => rfl, h.2.2⟩
/-- behind a store: the memory M' -/
theorem zs_stored {M' : zM} {p : Program} {e : Env} {R : Room} {s : State} {m : MethodId} {args : Array Value} {below : List Frame} {meth : Method} {c : Code} {H H1 : Heap} {locs locs1 : List Loc} {ls : Array Slot} {Q : State → Prop} {pc' : Nat} {loc' : List (Nat × Value)} {st' : List Value} {t' : Option α} (hs : zS M' = zS M) (hu : zU M' = zU M)
    (hh : t' = some x0) (k : zSy E μ d M0 tg x0 t' pc' loc' st' M') (K : zCF E μ d M0 tg p e R s m args below meth c Q) (hl : lv_has ls μ.2.2.2.1 loc') (hP : zRep E M H) (hP1 : va_P E.2.1 vwCl (zW E M') H1) (hS : va_S (zA E) s.heap H locs) (hS1 : va_S (zA E) H H1 locs1) (g : zG M0 M) : W p E.1 e R s m args below meth c H1 locs1 (zS M - zS M0) (zU M - zU M0) Q (F0 m pc' ls st') := by
  refine zWsz (fun hz => ?_)
  have e1 : H1.size = E.2.2.2.1 + zS M' := by
    have h1 := hS1.1
    have h2 := hP.1
    have h3 := K.2.2.2.2.2.2.2.2.1
    have h4 := g.1
    rw [hs]
    omega
  have q := k hh p e R s m args below meth c H1 locs1 ls Q K hl ⟨e1, hP1⟩ (zStr hS hS1) (by unfold zG; rw [hs, hu]; exact g)
  rw [hs, hu] at q
  exact q
/-- what the tables say of a field that a class' code names -/
def zFL (own : String) (index ci k : Nat) (C : String) (T : u_T) (N : Nat) : Prop := vwCl[ci]? = some (C, T, N) ∧ k < N ∧ ci < 20 ∧ (T k).1 = C ∧ Cond.fieldLink own index C (T k).2.1 (T k).2.2.1 ∈ zT ∧ ∀ w ∈ u_ws C T N, w ∈ zT
/-- what a class' own table says, for writing its fields -/
def zFT (C : String) (T : u_T) (N : Nat) (ty : Nat → FieldType) : Prop := (∀ k, k < N → parseFieldDescriptor (T k).2.2.1 = some (ty k)) ∧ ∀ a, a < N → ∀ b, b < N → a ≠ b → (T a).2.1 ≠ (T b).2.1
theorem zs_getI {ci k index N a : Nat} {C : String} {T : u_T} {f : Int32 → Option α} (hd : decode μ.2.2.1 pc = .ok (.getfield index, 3)) (hF : zFL μ.1 index ci k C T N) (ht : (zf ci)[k]? = some 0)
    (kk : ∀ v, zSy E μ d M0 tg x0 (f v) (pc + 3) loc (.int v :: st) M) : zSy E μ d M0 tg x0 ((zgI ci M a k).bind f) pc loc (.ref (E.2.2.2.1 + a) :: st) M := by
  intro hh
  obtain ⟨v, hv, hh⟩ := Option.bind_eq_some_iff.mp hh
  unfold zgI at hv
  split at hv
  case isFalse => cases hv
  case isTrue hc =>
    cases hv
    intro p e R s m args below meth c H locs ls Q K hl hP hS g
    obtain ⟨f1, f2, f3, f4, f5, f6⟩ := hF
    exact va_get K.1 K.2.1 K.2.2.2.2.1 f6 K.2.2.2.1 K.2.2.2.2.2.1 hP.2 a (fs := zfs E M a (zf ci)) (by rw [zW_get hc.1, zE_o hc.2 f3]) f1 k f2 (K.2.2.2.2.1 _ f5) (fun x h => by rw [f4] at h; exact h) (by rw [zfs_get ht]; rfl) hd (kk _ hh p e R s m args below meth c H locs ls Q K hl hP hS g)
theorem zs_getR {ci k index N a : Nat} {C : String} {T : u_T} {f : Nat → Option α} (hd : decode μ.2.2.1 pc = .ok (.getfield index, 3)) (hF : zFL μ.1 index ci k C T N) (ht : (zf ci)[k]? = some 1)
    (kk : ∀ v, zSy E μ d M0 tg x0 (f v) (pc + 3) loc (.ref (E.2.2.2.1 + v) :: st) M) : zSy E μ d M0 tg x0 ((zgR ci M a k).bind f) pc loc (.ref (E.2.2.2.1 + a) :: st) M := by
  intro hh
  obtain ⟨v, hv, hh⟩ := Option.bind_eq_some_iff.mp hh
  unfold zgR at hv
  split at hv
  case isFalse => cases hv
  case isTrue hc =>
    intro p e R s m args below meth c H locs ls Q K hl hP hS g
    obtain ⟨f1, f2, f3, f4, f5, f6⟩ := hF
    exact va_get K.1 K.2.1 K.2.2.2.2.1 f6 K.2.2.2.1 K.2.2.2.2.2.1 hP.2 a (fs := zfs E M a (zf ci)) (by rw [zW_get hc.1, zE_o hc.2 f3]) f1 k f2 (K.2.2.2.2.1 _ f5) (fun x h => by rw [f4] at h; exact h) (by rw [zfs_get ht, hv]; rfl) hd (kk _ hh p e R s m args below meth c H locs ls Q K hl hP hS g)

theorem zs_putI {ci k index N a : Nat} {C : String} {T : u_T} {ty0 : Nat → FieldType} {ty : FieldType} {v : Int32} {f : zM → Option α} (hd : decode μ.2.2.1 pc = .ok (.putfield index, 3)) (hF : zFL μ.1 index ci k C T N) (hT : zFT C T N ty0) (ht : (zf ci)[k]? = some 0) (hfin : (T k).2.2.2 = false) (hty : ty0 k = ty) (hn : narrow ty (.int v) = .int v) (hfit : fits ty (.int v) = true)
    (kk : ∀ M1, zSy E μ d M0 tg x0 (f M1) (pc + 3) loc st M1) : zSy E μ d M0 tg x0 ((zpI ci M a k v).bind f) pc loc (.int v :: .ref (E.2.2.2.1 + a) :: st) M := by
  intro hh
  obtain ⟨M1, hv, hh⟩ := Option.bind_eq_some_iff.mp hh
  unfold zpI at hv
  split at hv
  case isFalse => cases hv
  case isTrue hc =>
    cases hv
    intro p e R s m args below meth c H locs ls Q K hl hP hS g
    obtain ⟨f1, f2, f3, f4, f5, f6⟩ := hF
    refine va_put (ty := ty) K.1 K.2.1 K.2.2.2.2.1 f6 ty0 hT.1 hT.2 K.2.2.2.1 K.2.2.2.2.2.1 hP.2 (zW_D E M) (zSself hS) a (fs := zfs E M a (zf ci)) (by rw [zW_get hc.1, zE_o hc.2 f3]) f1 k f2 (K.2.2.2.2.1 _ f5) (fun x h => by rw [f4] at h; exact h) hfin (hty ▸ hT.1 k f2) hn hfit (by rw [zfs_len]; exact (List.getElem?_eq_some_iff.mp ht).1) hd (fun H1 locs1 hP1 hD1 hS1 => ?_)
    have e1 : (zW E M).set a (E.2.2.2.1 + a, .inr (ci, (zfs E M a (zf ci)).set k (.int v))) = zW E (zsI M a k v) := by
      rw [zfs_setI ht, ← zE_o (M := zsI M a k v) hc.2 f3]
      exact zW_set rfl (fun b hb => zE_oI b hb)
    rw [e1] at hP1
    exact zs_stored (M := M) (M' := zsI M a k v) rfl rfl hh (kk _) K hl hP hP1 hS hS1 g
theorem zs_putR {ci k index N a b : Nat} {C : String} {T : u_T} {ty0 : Nat → FieldType} {ty : FieldType} {f : zM → Option α} (hd : decode μ.2.2.1 pc = .ok (.putfield index, 3)) (hF : zFL μ.1 index ci k C T N) (hT : zFT C T N ty0) (ht : (zf ci)[k]? = some 1) (hfin : (T k).2.2.2 = false) (hty : ty0 k = ty) (hn : narrow ty (.ref (E.2.2.2.1 + b)) = .ref (E.2.2.2.1 + b)) (hfit : fits ty (.ref (E.2.2.2.1 + b)) = true)
    (kk : ∀ M1, zSy E μ d M0 tg x0 (f M1) (pc + 3) loc st M1) : zSy E μ d M0 tg x0 ((zpR ci M a k b).bind f) pc loc (.ref (E.2.2.2.1 + b) :: .ref (E.2.2.2.1 + a) :: st) M := by
  intro hh
  obtain ⟨M1, hv, hh⟩ := Option.bind_eq_some_iff.mp hh
  unfold zpR at hv
  split at hv
  case isFalse => cases hv
  case isTrue hc =>
    cases hv
    intro p e R s m args below meth c H locs ls Q K hl hP hS g
    obtain ⟨f1, f2, f3, f4, f5, f6⟩ := hF
    refine va_put (ty := ty) K.1 K.2.1 K.2.2.2.2.1 f6 ty0 hT.1 hT.2 K.2.2.2.1 K.2.2.2.2.2.1 hP.2 (zW_D E M) (zSself hS) a (fs := zfs E M a (zf ci)) (by rw [zW_get hc.1, zE_o hc.2 f3]) f1 k f2 (K.2.2.2.2.1 _ f5) (fun x h => by rw [f4] at h; exact h) hfin (hty ▸ hT.1 k f2) hn hfit (by rw [zfs_len]; exact (List.getElem?_eq_some_iff.mp ht).1) hd (fun H1 locs1 hP1 hD1 hS1 => ?_)
    have e1 : (zW E M).set a (E.2.2.2.1 + a, .inr (ci, (zfs E M a (zf ci)).set k (.ref (E.2.2.2.1 + b)))) = zW E (zsR M a k (some b)) := by
      rw [show Value.ref (E.2.2.2.1 + b) = va_rf ((some b).map (fun q => E.2.2.2.1 + q)) from rfl, zfs_setR ht, ← zE_o (M := zsR M a k (some b)) hc.2 f3]
      exact zW_set rfl (fun b hb => zE_oR b hb)
    rw [e1] at hP1
    exact zs_stored (M := M) (M' := zsR M a k (some b)) rfl rfl hh (kk _) K hl hP hP1 hS hS1 g
theorem zs_putRF {ci k index N a b : Nat} {C : String} {T : u_T} {ty0 : Nat → FieldType} {ty : FieldType} {f : zM → Option α} (hd : decode μ.2.2.1 pc = .ok (.putfield index, 3)) (hF : zFL μ.1 index ci k C T N) (hT : zFT C T N ty0) (ht : (zf ci)[k]? = some 1) (hfin : (T k).2.2.2 = true) (hin2 : μ.2.1.name = "<init>") (hdecl : C = μ.1) (hty : ty0 k = ty) (hn : narrow ty (.ref (E.2.2.2.1 + b)) = .ref (E.2.2.2.1 + b)) (hfit : fits ty (.ref (E.2.2.2.1 + b)) = true)
    (kk : ∀ M1, zSy E μ d M0 tg x0 (f M1) (pc + 3) loc st M1) : zSy E μ d M0 tg x0 ((zpR ci M a k b).bind f) pc loc (.ref (E.2.2.2.1 + b) :: .ref (E.2.2.2.1 + a) :: st) M := by
  intro hh
  obtain ⟨M1, hv, hh⟩ := Option.bind_eq_some_iff.mp hh
  unfold zpR at hv
  split at hv
  case isFalse => cases hv
  case isTrue hc =>
    cases hv
    intro p e R s m args below meth c H locs ls Q K hl hP hS g
    obtain ⟨f1, f2, f3, f4, f5, f6⟩ := hF
    refine va_putF (ty := ty) K.1 K.2.1 K.2.2.2.2.1 f6 ty0 hT.1 hT.2 K.2.2.2.1 K.2.2.2.2.2.1 hP.2 (zW_D E M) (zSself hS) a (fs := zfs E M a (zf ci)) (by rw [zW_get hc.1, zE_o hc.2 f3]) f1 k f2 (K.2.2.2.2.1 _ f5) (fun x h => by rw [f4] at h; exact h) hfin (K.2.2.2.2.2.2.2.2.2.2.1 hin2) (f4.trans hdecl) (hty ▸ hT.1 k f2) hn hfit (by rw [zfs_len]; exact (List.getElem?_eq_some_iff.mp ht).1) hd (fun H1 locs1 hP1 hD1 hS1 => ?_)
    have e1 : (zW E M).set a (E.2.2.2.1 + a, .inr (ci, (zfs E M a (zf ci)).set k (.ref (E.2.2.2.1 + b)))) = zW E (zsR M a k (some b)) := by
      rw [show Value.ref (E.2.2.2.1 + b) = va_rf ((some b).map (fun q => E.2.2.2.1 + q)) from rfl, zfs_setR ht, ← zE_o (M := zsR M a k (some b)) hc.2 f3]
      exact zW_set rfl (fun b hb => zE_oR b hb)
    rw [e1] at hP1
    exact zs_stored (M := M) (M' := zsR M a k (some b)) rfl rfl hh (kk _) K hl hP hP1 hS hS1 g
theorem zs_ldI {a : Nat} {i : Int32} {f : Int32 → Option α} (hd : decode μ.2.2.1 pc = .ok (.iaload, 1))
    (kk : ∀ v, zSy E μ d M0 tg x0 (f v) (pc + 1) loc (.int v :: st) M) : zSy E μ d M0 tg x0 ((zlI 100 M a i).bind f) pc loc (.int i :: .ref (E.2.2.2.1 + a) :: st) M := by
  intro hh
  obtain ⟨v, hv, hh⟩ := Option.bind_eq_some_iff.mp hh
  unfold zlI at hv
  split at hv
  case isFalse => cases hv
  case isTrue hc =>
    cases hv
    intro p e R s m args below meth c H locs ls Q K hl hP hS g
    exact va_iald K.1 K.2.1 K.2.2.2.2.2.1 hP.2 a 0 (by rw [zW_get hc.1, zE_i hc.2.1 (by decide)]) rfl (show vp_in i (zL M a) from hc.2.2) hd (kk _ hh p e R s m args below meth c H locs ls Q K hl hP hS g)
theorem zs_ldB {a : Nat} {i : Int32} {f : Int32 → Option α} (hd : decode μ.2.2.1 pc = .ok (.baload, 1))
    (kk : ∀ v, zSy E μ d M0 tg x0 (f v) (pc + 1) loc (.int v :: st) M) : zSy E μ d M0 tg x0 ((zlI 102 M a i).bind f) pc loc (.int i :: .ref (E.2.2.2.1 + a) :: st) M := by
  intro hh
  obtain ⟨v, hv, hh⟩ := Option.bind_eq_some_iff.mp hh
  unfold zlI at hv
  split at hv
  case isFalse => cases hv
  case isTrue hc =>
    cases hv
    intro p e R s m args below meth c H locs ls Q K hl hP hS g
    exact va_bald K.1 K.2.1 K.2.2.2.2.2.1 hP.2 a 2 (by rw [zW_get hc.1, zE_i hc.2.1 (by decide)]) rfl (show vp_in i (zL M a) from hc.2.2) hd (kk _ hh p e R s m args below meth c H locs ls Q K hl hP hS g)
theorem zs_ldZ {a : Nat} {i : Int32} {f : Int32 → Option α} (hd : decode μ.2.2.1 pc = .ok (.baload, 1))
    (kk : ∀ v, zSy E μ d M0 tg x0 (f v) (pc + 1) loc (.int v :: st) M) : zSy E μ d M0 tg x0 ((zlI 103 M a i).bind f) pc loc (.int i :: .ref (E.2.2.2.1 + a) :: st) M := by
  intro hh
  obtain ⟨v, hv, hh⟩ := Option.bind_eq_some_iff.mp hh
  unfold zlI at hv
  split at hv
  case isFalse => cases hv
  case isTrue hc =>
    cases hv
    intro p e R s m args below meth c H locs ls Q K hl hP hS g
    exact va_zald K.1 K.2.1 K.2.2.2.2.2.1 hP.2 a 3 (by rw [zW_get hc.1, zE_i hc.2.1 (by decide)]) rfl (show vp_in i (zL M a) from hc.2.2) hd (kk _ hh p e R s m args below meth c H locs ls Q K hl hP hS g)
theorem zs_ldJ {a : Nat} {i : Int32} {f : Int64 → Option α} (hd : decode μ.2.2.1 pc = .ok (.laload, 1))
    (kk : ∀ v, zSy E μ d M0 tg x0 (f v) (pc + 1) loc (.long v :: st) M) : zSy E μ d M0 tg x0 ((zlJ M a i).bind f) pc loc (.int i :: .ref (E.2.2.2.1 + a) :: st) M := by
  intro hh
  obtain ⟨v, hv, hh⟩ := Option.bind_eq_some_iff.mp hh
  unfold zlJ at hv
  split at hv
  case isFalse => cases hv
  case isTrue hc =>
    cases hv
    intro p e R s m args below meth c H locs ls Q K hl hP hS g
    exact va_lald K.1 K.2.1 K.2.2.2.2.2.1 hP.2 a 1 (by rw [zW_get hc.1, zE_j hc.2.1]) rfl (show vp_in i (zL M a) from hc.2.2) hd (kk _ hh p e R s m args below meth c H locs ls Q K hl hP hS g)
theorem zs_ldR {a : Nat} {i : Int32} {f : Nat → Option α} (hd : decode μ.2.2.1 pc = .ok (.aaload, 1))
    (kk : ∀ v, zSy E μ d M0 tg x0 (f v) (pc + 1) loc (.ref (E.2.2.2.1 + v) :: st) M) : zSy E μ d M0 tg x0 ((zlR M a i).bind f) pc loc (.int i :: .ref (E.2.2.2.1 + a) :: st) M := by
  intro hh
  obtain ⟨v, hv, hh⟩ := Option.bind_eq_some_iff.mp hh
  unfold zlR at hv
  split at hv
  case isFalse => cases hv
  case isTrue hc =>
    intro p e R s m args below meth c H locs ls Q K hl hP hS g
    have ha := hP.2 a _ (zW_get hc.1)
    rw [zE_q hc.2.1] at ha
    have hlt : i.toNatClampNeg < zL M a := Nat.not_le.mp fun q => hc.2.2 (Or.inr q)
    exact W.aald (v := .ref (E.2.2.2.1 + v)) (ty := .array .int) K.1 K.2.1 ha ((K.2.2.2.2.2.1.2 4 _ rfl).1 (zL M a) (fun j => va_rf ((zR M a j).map (fun q => E.2.2.2.1 + q)))) rfl (fun q => by cases q) (by show ¬ (i < 0 ∨ (arrV _ _ _).slots.size ≤ _); rw [arrV_size]; exact hc.2.2) (by show (arrV _ _ _).slots[_]? = _; rw [arrV_read _ _ hlt]; show some (va_rf ((zR M a i.toNatClampNeg).map _)) = _; rw [hv]; rfl) rfl rfl hd (kk _ hh p e R s m args below meth c H locs ls Q K hl hP hS g)
theorem zs_stI {a : Nat} {i v : Int32} {f : zM → Option α} (hd : decode μ.2.2.1 pc = .ok (.iastore, 1))
    (kk : ∀ M1, zSy E μ d M0 tg x0 (f M1) (pc + 1) loc st M1) : zSy E μ d M0 tg x0 ((ztI M a i v).bind f) pc loc (.int v :: .int i :: .ref (E.2.2.2.1 + a) :: st) M := by
  intro hh
  obtain ⟨M1, hv, hh⟩ := Option.bind_eq_some_iff.mp hh
  unfold ztI at hv
  split at hv
  case isFalse => cases hv
  case isTrue hc =>
    cases hv
    intro p e R s m args below meth c H locs ls Q K hl hP hS g
    refine va_iast K.1 K.2.1 K.2.2.2.2.2.1 hP.2 (zW_D E M) (zSself hS) a 0 (by rw [zW_get hc.1, zE_i hc.2.1 (by decide)]) rfl (show vp_in i (zL M a) from hc.2.2) hd (fun H1 locs1 hP1 hD1 hS1 => ?_)
    have e1 : (zW E M).set a (E.2.2.2.1 + a, .inl (E.2.2.1 100, (zL M a, .inl (upd (zI M a) i.toNatClampNeg v)))) = zW E (zsI M a i.toNatClampNeg v) := by
      rw [show upd (zI M a) i.toNatClampNeg v = zI (zsI M a i.toNatClampNeg v) a by funext j; simp [upd, zI, zsI], show zL M a = zL (zsI M a i.toNatClampNeg v) a from rfl, ← zE_i (M := zsI M a i.toNatClampNeg v) hc.2.1 (by decide)]
      exact zW_set rfl (fun b hb => zE_oI b hb)
    rw [e1] at hP1
    exact zs_stored (M := M) (M' := zsI M a i.toNatClampNeg v) rfl rfl hh (kk _) K hl hP hP1 hS hS1 g
theorem zs_stB {a : Nat} {i v : Int32} {f : zM → Option α} (hd : decode μ.2.2.1 pc = .ok (.bastore, 1))
    (kk : ∀ M1, zSy E μ d M0 tg x0 (f M1) (pc + 1) loc st M1) : zSy E μ d M0 tg x0 ((ztB M a i v).bind f) pc loc (.int v :: .int i :: .ref (E.2.2.2.1 + a) :: st) M := by
  intro hh
  obtain ⟨M1, hv, hh⟩ := Option.bind_eq_some_iff.mp hh
  unfold ztB at hv
  split at hv
  case isFalse => cases hv
  case isTrue hc =>
    cases hv
    intro p e R s m args below meth c H locs ls Q K hl hP hS g
    refine va_bast K.1 K.2.1 K.2.2.2.2.2.1 hP.2 (zW_D E M) (zSself hS) a 2 (by rw [zW_get hc.1, zE_i hc.2.1 (by decide)]) rfl (show vp_in i (zL M a) from hc.2.2) hd (fun H1 locs1 hP1 hD1 hS1 => ?_)
    have e1 : (zW E M).set a (E.2.2.2.1 + a, .inl (E.2.2.1 102, (zL M a, .inl (upd (zI M a) i.toNatClampNeg (vp_nar .byte v))))) = zW E (zsI M a i.toNatClampNeg (vp_nar .byte v)) := by
      rw [show upd (zI M a) i.toNatClampNeg (vp_nar .byte v) = zI (zsI M a i.toNatClampNeg (vp_nar .byte v)) a by funext j; simp [upd, zI, zsI], show zL M a = zL (zsI M a i.toNatClampNeg (vp_nar .byte v)) a from rfl, ← zE_i (M := zsI M a i.toNatClampNeg (vp_nar .byte v)) hc.2.1 (by decide)]
      exact zW_set rfl (fun b hb => zE_oI b hb)
    rw [e1] at hP1
    exact zs_stored (M := M) (M' := zsI M a i.toNatClampNeg (vp_nar .byte v)) rfl rfl hh (kk _) K hl hP hP1 hS hS1 g
theorem zs_stZ {a : Nat} {i v : Int32} {f : zM → Option α} (hd : decode μ.2.2.1 pc = .ok (.bastore, 1))
    (kk : ∀ M1, zSy E μ d M0 tg x0 (f M1) (pc + 1) loc st M1) : zSy E μ d M0 tg x0 ((ztZ M a i v).bind f) pc loc (.int v :: .int i :: .ref (E.2.2.2.1 + a) :: st) M := by
  intro hh
  obtain ⟨M1, hv, hh⟩ := Option.bind_eq_some_iff.mp hh
  unfold ztZ at hv
  split at hv
  case isFalse => cases hv
  case isTrue hc =>
    cases hv
    intro p e R s m args below meth c H locs ls Q K hl hP hS g
    refine va_zast K.1 K.2.1 K.2.2.2.2.2.1 hP.2 (zW_D E M) (zSself hS) a 3 (by rw [zW_get hc.1, zE_i hc.2.1 (by decide)]) rfl (show vp_in i (zL M a) from hc.2.2) hd (fun H1 locs1 hP1 hD1 hS1 => ?_)
    have e1 : (zW E M).set a (E.2.2.2.1 + a, .inl (E.2.2.1 103, (zL M a, .inl (upd (zI M a) i.toNatClampNeg (vp_nar .boolean v))))) = zW E (zsI M a i.toNatClampNeg (vp_nar .boolean v)) := by
      rw [show upd (zI M a) i.toNatClampNeg (vp_nar .boolean v) = zI (zsI M a i.toNatClampNeg (vp_nar .boolean v)) a by funext j; simp [upd, zI, zsI], show zL M a = zL (zsI M a i.toNatClampNeg (vp_nar .boolean v)) a from rfl, ← zE_i (M := zsI M a i.toNatClampNeg (vp_nar .boolean v)) hc.2.1 (by decide)]
      exact zW_set rfl (fun b hb => zE_oI b hb)
    rw [e1] at hP1
    exact zs_stored (M := M) (M' := zsI M a i.toNatClampNeg (vp_nar .boolean v)) rfl rfl hh (kk _) K hl hP hP1 hS hS1 g
theorem zs_stJ {a : Nat} {i : Int32} {v : Int64} {f : zM → Option α} (hd : decode μ.2.2.1 pc = .ok (.lastore, 1))
    (kk : ∀ M1, zSy E μ d M0 tg x0 (f M1) (pc + 1) loc st M1) : zSy E μ d M0 tg x0 ((ztJ M a i v).bind f) pc loc (.long v :: .int i :: .ref (E.2.2.2.1 + a) :: st) M := by
  intro hh
  obtain ⟨M1, hv, hh⟩ := Option.bind_eq_some_iff.mp hh
  unfold ztJ at hv
  split at hv
  case isFalse => cases hv
  case isTrue hc =>
    cases hv
    intro p e R s m args below meth c H locs ls Q K hl hP hS g
    refine va_last K.1 K.2.1 K.2.2.2.2.2.1 hP.2 (zW_D E M) (zSself hS) a 1 (by rw [zW_get hc.1, zE_j hc.2.1]) rfl (show vp_in i (zL M a) from hc.2.2) hd (fun H1 locs1 hP1 hD1 hS1 => ?_)
    have e1 : (zW E M).set a (E.2.2.2.1 + a, .inl (E.2.2.1 101, (zL M a, .inr (.inl (vp_updL (zJ M a) i.toNatClampNeg v))))) = zW E (zsJ M a i.toNatClampNeg v) := by
      rw [show vp_updL (zJ M a) i.toNatClampNeg v = zJ (zsJ M a i.toNatClampNeg v) a by funext j; simp [vp_updL, zJ, zsJ], show zL M a = zL (zsJ M a i.toNatClampNeg v) a from rfl, ← zE_j (M := zsJ M a i.toNatClampNeg v) hc.2.1]
      exact zW_set rfl (fun b hb => zE_oJ b hb)
    rw [e1] at hP1
    exact zs_stored (M := M) (M' := zsJ M a i.toNatClampNeg v) rfl rfl hh (kk _) K hl hP hP1 hS hS1 g
theorem zs_alen {a : Nat} {f : Int32 → Option α} (hd : decode μ.2.2.1 pc = .ok (.arraylength, 1))
    (kk : ∀ v, zSy E μ d M0 tg x0 (f v) (pc + 1) loc (.int v :: st) M) : zSy E μ d M0 tg x0 ((zln M a).bind f) pc loc (.ref (E.2.2.2.1 + a) :: st) M := by
  intro hh
  obtain ⟨v, hv, hh⟩ := Option.bind_eq_some_iff.mp hh
  unfold zln at hv
  split at hv
  case isFalse => cases hv
  case isTrue hc =>
    cases hv
    intro p e R s m args below meth c H locs ls Q K hl hP hS g
    have g2 := kk _ hh p e R s m args below meth c H locs ls Q K hl hP hS g
    have hk : kd a = 100 ∨ kd a = 101 ∨ kd a = 102 ∨ kd a = 103 ∨ kd a = 104 := by omega
    rcases hk with hk | hk | hk | hk | hk
    · exact va_alen K.1 K.2.1 K.2.2.2.2.2.1 hP.2 a 0 (by rw [zW_get hc.1, zE_i hk (by decide)]) rfl rfl hd g2
    · exact va_alen K.1 K.2.1 K.2.2.2.2.2.1 hP.2 a 1 (by rw [zW_get hc.1, zE_j hk]) rfl rfl hd g2
    · exact va_alen K.1 K.2.1 K.2.2.2.2.2.1 hP.2 a 2 (by rw [zW_get hc.1, zE_i hk (by decide)]) rfl rfl hd g2
    · exact va_alen K.1 K.2.1 K.2.2.2.2.2.1 hP.2 a 3 (by rw [zW_get hc.1, zE_i hk (by decide)]) rfl rfl hd g2
    · exact va_alen K.1 K.2.1 K.2.2.2.2.2.1 hP.2 a 4 (by rw [zW_get hc.1, zE_q hk]) rfl rfl hd g2
theorem zs_idiv {x y : Int32} {f : Int32 → Option α} (hd : decode μ.2.2.1 pc = .ok (.idiv, 1)) (kk : ∀ v, zSy E μ d M0 tg x0 (f v) (pc + 1) loc (.int v :: st) M) : zSy E μ d M0 tg x0 ((zdv x y).bind f) pc loc (.int y :: .int x :: st) M := by
  intro hh
  obtain ⟨v, hv, hh⟩ := Option.bind_eq_some_iff.mp hh
  unfold zdv at hv
  split at hv
  case isTrue => cases hv
  case isFalse hc =>
    cases hv
    exact zs_go (fun p e R s m a b mt c H lo ls ce sl Q hx hb hl kk => lv_idiv hx hb hd hc (kk ls hl)) (kk _) hh
theorem zs_idivK {x y : Int32} (hd : decode μ.2.2.1 pc = .ok (.idiv, 1)) (hy : ¬ y = 0) (k : zSy E μ d M0 tg x0 t (pc + 1) loc (.int (x / y) :: st) M) : zSy E μ d M0 tg x0 t pc loc (.int y :: .int x :: st) M :=
  zs_go (fun p e R s m a b mt c H lo ls ce sl Q hx hb hl kk => lv_idiv hx hb hd hy (kk ls hl)) k
theorem zs_irem {x y : Int32} {f : Int32 → Option α} (hd : decode μ.2.2.1 pc = .ok (.irem, 1)) (kk : ∀ v, zSy E μ d M0 tg x0 (f v) (pc + 1) loc (.int v :: st) M) : zSy E μ d M0 tg x0 ((zrm x y).bind f) pc loc (.int y :: .int x :: st) M := by
  intro hh
  obtain ⟨v, hv, hh⟩ := Option.bind_eq_some_iff.mp hh
  unfold zrm at hv
  split at hv
  case isTrue => cases hv
  case isFalse hc =>
    cases hv
    exact zs_go (fun p e R s m a b mt c H lo ls ce sl Q hx hb hl kk => lv_irem hx hb hd hc (kk ls hl)) (kk _) hh
theorem zs_iremK {x y : Int32} (hd : decode μ.2.2.1 pc = .ok (.irem, 1)) (hy : ¬ y = 0) (k : zSy E μ d M0 tg x0 t (pc + 1) loc (.int (x - x / y * y) :: st) M) : zSy E μ d M0 tg x0 t pc loc (.int y :: .int x :: st) M :=
  zs_go (fun p e R s m a b mt c H lo ls ce sl Q hx hb hl kk => lv_irem hx hb hd hy (kk ls hl)) k
theorem zs_ldiv {x y : Int64} {f : Int64 → Option α} (hd : decode μ.2.2.1 pc = .ok (.ldiv, 1)) (kk : ∀ v, zSy E μ d M0 tg x0 (f v) (pc + 1) loc (.long v :: st) M) : zSy E μ d M0 tg x0 ((zdvL x y).bind f) pc loc (.long y :: .long x :: st) M := by
  intro hh
  obtain ⟨v, hv, hh⟩ := Option.bind_eq_some_iff.mp hh
  unfold zdvL at hv
  split at hv
  case isTrue => cases hv
  case isFalse hc =>
    cases hv
    exact zs_go (fun p e R s m a b mt c H lo ls ce sl Q hx hb hl kk => lv_ldiv hx hb hd hc (kk ls hl)) (kk _) hh
theorem zs_ldivK {x y : Int64} (hd : decode μ.2.2.1 pc = .ok (.ldiv, 1)) (hy : ¬ y = 0) (k : zSy E μ d M0 tg x0 t (pc + 1) loc (.long (x / y) :: st) M) : zSy E μ d M0 tg x0 t pc loc (.long y :: .long x :: st) M :=
  zs_go (fun p e R s m a b mt c H lo ls ce sl Q hx hb hl kk => lv_ldiv hx hb hd hy (kk ls hl)) k
theorem zs_lrem {x y : Int64} {f : Int64 → Option α} (hd : decode μ.2.2.1 pc = .ok (.lrem, 1)) (kk : ∀ v, zSy E μ d M0 tg x0 (f v) (pc + 1) loc (.long v :: st) M) : zSy E μ d M0 tg x0 ((zrmL x y).bind f) pc loc (.long y :: .long x :: st) M := by
  intro hh
  obtain ⟨v, hv, hh⟩ := Option.bind_eq_some_iff.mp hh
  unfold zrmL at hv
  split at hv
  case isTrue => cases hv
  case isFalse hc =>
    cases hv
    exact zs_go (fun p e R s m a b mt c H lo ls ce sl Q hx hb hl kk => lv_lrem hx hb hd hc (kk ls hl)) (kk _) hh
theorem zs_lremK {x y : Int64} (hd : decode μ.2.2.1 pc = .ok (.lrem, 1)) (hy : ¬ y = 0) (k : zSy E μ d M0 tg x0 t (pc + 1) loc (.long (x - x / y * y) :: st) M) : zSy E μ d M0 tg x0 t pc loc (.long y :: .long x :: st) M :=
  zs_go (fun p e R s m a b mt c H lo ls ce sl Q hx hb hl kk => lv_lrem hx hb hd hy (kk ls hl)) k
theorem zs_fdiv {x y : UInt32} {f : UInt32 → Option α} (hd : decode μ.2.2.1 pc = .ok (.fdiv, 1)) (kk : ∀ v, zSy E μ d M0 tg x0 (f v) (pc + 1) loc (.float v :: st) M) : zSy E μ d M0 tg x0 ((zfl (FP.fdiv x y)).bind f) pc loc (.float y :: .float x :: st) M := by
  intro hh
  obtain ⟨v, hv, hh⟩ := Option.bind_eq_some_iff.mp hh
  unfold zfl at hv
  split at hv
  case isFalse => cases hv
  case isTrue hc =>
    cases hv
    exact zs_go (fun p e R s m a b mt c H lo ls ce sl Q hx hb hl kk => lv_fdiv hx hb hd (show vf_n32 _ from hc) (kk ls hl)) (kk _) hh
theorem zs_fmul {x y : UInt32} {f : UInt32 → Option α} (hd : decode μ.2.2.1 pc = .ok (.fmul, 1)) (kk : ∀ v, zSy E μ d M0 tg x0 (f v) (pc + 1) loc (.float v :: st) M) : zSy E μ d M0 tg x0 ((zfl (FP.fmul x y)).bind f) pc loc (.float y :: .float x :: st) M := by
  intro hh
  obtain ⟨v, hv, hh⟩ := Option.bind_eq_some_iff.mp hh
  unfold zfl at hv
  split at hv
  case isFalse => cases hv
  case isTrue hc =>
    cases hv
    exact zs_go (fun p e R s m a b mt c H lo ls ce sl Q hx hb hl kk => lv_fmul hx hb hd (show vf_n32 _ from hc) (kk ls hl)) (kk _) hh
theorem zs_ldc {index : Nat} {v : Int32} (hd : decode μ.2.2.1 pc = .ok (.ldc index, 2)) (hw : Cond.constant μ.1 index v ∈ zT) (k : zSy E μ d M0 tg x0 t (pc + 2) loc (.int v :: st) M) : zSy E μ d M0 tg x0 t pc loc st M := by
  intro hh p e R s m args below meth c H locs ls Q K hl hP hS g
  exact lv_ldc K.1 K.2.1 K.2.2.2.1 (K.2.2.2.2.1 _ hw) hd (k hh p e R s m args below meth c H locs ls Q K hl hP hS g)
theorem zs_ldc2 {index : Nat} {v : Int64} (hd : decode μ.2.2.1 pc = .ok (.ldc2_w index, 3)) (hw : Cond.constantLong μ.1 index v ∈ zT) (k : zSy E μ d M0 tg x0 t (pc + 3) loc (.long v :: st) M) : zSy E μ d M0 tg x0 t pc loc st M := by
  intro hh p e R s m args below meth c H locs ls Q K hl hP hS g
  exact lv_ldc2 K.1 K.2.1 K.2.2.2.1 (K.2.2.2.2.1 _ hw) hd (k hh p e R s m args below meth c H locs ls Q K hl hP hS g)
theorem zs_ldcf {index : Nat} {v : UInt32} (hd : decode μ.2.2.1 pc = .ok (.ldc index, 2)) (hw : Cond.constantFloat μ.1 index v ∈ zT) (k : zSy E μ d M0 tg x0 t (pc + 2) loc (.float v :: st) M) : zSy E μ d M0 tg x0 t pc loc st M := by
  intro hh p e R s m args below meth c H locs ls Q K hl hP hS g
  exact lv_ldcf K.1 K.2.1 K.2.2.2.1 (K.2.2.2.2.1 _ hw) hd (k hh p e R s m args below meth c H locs ls Q K hl hP hS g)
theorem zs_ldcw {index : Nat} {v : Int32} (hd : decode μ.2.2.1 pc = .ok (.ldc_w index, 3)) (hw : Cond.constant μ.1 index v ∈ zT) (k : zSy E μ d M0 tg x0 t (pc + 3) loc (.int v :: st) M) : zSy E μ d M0 tg x0 t pc loc st M := by
  intro hh p e R s m args below meth c H locs ls Q K hl hP hS g
  exact lv_ldcw K.1 K.2.1 K.2.2.2.1 (K.2.2.2.2.1 _ hw) hd (k hh p e R s m args below meth c H locs ls Q K hl hP hS g)
theorem zs_ldcfw {index : Nat} {v : UInt32} (hd : decode μ.2.2.1 pc = .ok (.ldc_w index, 3)) (hw : Cond.constantFloat μ.1 index v ∈ zT) (k : zSy E μ d M0 tg x0 t (pc + 3) loc (.float v :: st) M) : zSy E μ d M0 tg x0 t pc loc st M := by
  intro hh p e R s m args below meth c H locs ls Q K hl hP hS g T hT X
  obtain ⟨t1, a1, b1⟩ := k hh p e R s m args below meth c H locs ls Q K hl hP hS g T hT X
  refine ⟨t1, ?_, b1⟩
  obtain ⟨kk, cf, hk, hcf, hcp⟩ := Cond.constantFloat_spec K.2.2.2.1 (K.2.2.2.2.1 _ hw)
  obtain ⟨k', hk', he⟩ := X.warmed.alike.2.2 _ _ hk
  jvm_step X.here [K.1, K.2.1, hd, ldc_w.wp_float (s := T) (f := F0 m pc ls st) X.here.top hk' (by rw [he]; exact hcf) hcp]
  exact a1
end ZH

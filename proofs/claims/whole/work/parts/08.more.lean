def zpp {α β γ : Type} (p : α × β) (f : α → β → γ) : γ := f p.1 p.2
section ZM
variable {E : zEnv} {μ : zMu} {d : Nat} {M0 : zM} {tg : Option Value × zM} {α β : Type} {x0 : α} {t : Option α} {pc : Nat} {loc : List (Nat × Value)} {st rest : List Value} {M : zM}
def kmin (x y : Int32) : Int32 := if y < x then y else x
def kmax (x y : Int32) : Int32 := if x < y then y else x
def kminL (x y : Int64) : Int64 := if y < x then y else x
theorem zRoomB {p : Program} {e : Env} {R : Room} {s : State} {m : MethodId} {args : Array Value} {below : List Frame} {meth : Method} {c : Code} {Q : State → Prop} (K : zCF E μ d M0 tg p e R s m args below meth c Q) (g : zG M0 M) (hd : 1 ≤ d) : 1 ≤ R.frames ∧ 41 ≤ R.locals ∧ zS M - zS M0 ≤ R.cells ∧ zU M - zU M0 ≤ R.slots := by
  obtain ⟨h1, h2, h3, h4⟩ := K.2.2.2.2.2.2.2.2.2.1
  have := g.2.2.1; have := g.2.2.2
  rw [h3, h4]
  omega
theorem zs_min {index : Nat} {x y : Int32} (hd : decode μ.2.2.1 pc = .ok (.invokestatic index, 3)) (hl1 : Cond.methodLink μ.1 index Lib.Math.min.name ∈ zT) (hl2 : Cond.static Lib.Math.min.name ∈ zT) (hl3 : Cond.initialized "java/lang/Math" ∈ zT) (hl4 : Cond.code Lib.Math.min.name Lib.Math.min.code 2 (some .int) ∈ zT) (hdd : 1 ≤ d) (hr : (st.map fun v => v.category).sum ≤ 8)
    (k : zSy E μ d M0 tg x0 t (pc + 3) loc (.int (kmin x y) :: st) M) : zSy E μ d M0 tg x0 t pc loc (.int y :: .int x :: st) M := by
  intro hh p e R s m args below meth c H locs ls Q K hl hP hS g
  have hw := K.2.2.2.2.1
  obtain ⟨r1, r2, r3, r4⟩ := zRoomB K g hdd
  exact va_mmin K.1 K.2.1 (K.2.2.1.trans hl.1.symm) K.2.2.2.1 (hw _ hl1) (hw _ hl2) (hw _ hl3) (hw _ hl4) r1 (by omega) r3 r4 hd (k hh p e R s m args below meth c H locs ls Q K hl hP hS g)
theorem zs_max {index : Nat} {x y : Int32} (hd : decode μ.2.2.1 pc = .ok (.invokestatic index, 3)) (hl1 : Cond.methodLink μ.1 index Lib.Math.max.name ∈ zT) (hl2 : Cond.static Lib.Math.max.name ∈ zT) (hl3 : Cond.initialized "java/lang/Math" ∈ zT) (hl4 : Cond.code Lib.Math.max.name Lib.Math.max.code 2 (some .int) ∈ zT) (hdd : 1 ≤ d) (hr : (st.map fun v => v.category).sum ≤ 8)
    (k : zSy E μ d M0 tg x0 t (pc + 3) loc (.int (kmax x y) :: st) M) : zSy E μ d M0 tg x0 t pc loc (.int y :: .int x :: st) M := by
  intro hh p e R s m args below meth c H locs ls Q K hl hP hS g
  have hw := K.2.2.2.2.1
  obtain ⟨r1, r2, r3, r4⟩ := zRoomB K g hdd
  exact va_mmax K.1 K.2.1 (K.2.2.1.trans hl.1.symm) K.2.2.2.1 (hw _ hl1) (hw _ hl2) (hw _ hl3) (hw _ hl4) r1 (by omega) r3 r4 hd (k hh p e R s m args below meth c H locs ls Q K hl hP hS g)
theorem zs_minL {index : Nat} {x y : Int64} (hd : decode μ.2.2.1 pc = .ok (.invokestatic index, 3)) (hl1 : Cond.methodLink μ.1 index Lib.MathLoose.min_long.x ∈ zT) (hl2 : Cond.static Lib.MathLoose.min_long.x ∈ zT) (hl3 : Cond.initialized "java/lang/Math" ∈ zT) (hl4 : Cond.code Lib.MathLoose.min_long.x Lib.MathLoose.min_long.code 4 (some .long) ∈ zT) (hdd : 1 ≤ d) (hr : (st.map fun v => v.category).sum ≤ 8)
    (k : zSy E μ d M0 tg x0 t (pc + 3) loc (.long (kminL x y) :: st) M) : zSy E μ d M0 tg x0 t pc loc (.long y :: .long x :: st) M := by
  intro hh p e R s m args below meth c H locs ls Q K hl hP hS g
  have hw := K.2.2.2.2.1
  obtain ⟨r1, r2, r3, r4⟩ := zRoomB K g hdd
  exact va_mmin_long K.1 K.2.1 (K.2.2.1.trans hl.1.symm) K.2.2.2.1 (hw _ hl1) (hw _ hl2) (hw _ hl3) (hw _ hl4) r1 (by omega) r3 r4 hd (k hh p e R s m args below meth c H locs ls Q K hl hP hS g)
theorem zE_oC {a sp b dp n : Nat} (q : Nat) (h : q ≠ b) : zE E (zcpI M a sp b dp n) q = zE E M q := by
  have h1 : zI (zcpI M a sp b dp n) q = zI M q := by funext j; simp [zI, zcpI, h]
  unfold zE zfs
  rw [h1]
  rfl
theorem zE_oCJ {a sp b dp n : Nat} (q : Nat) (h : q ≠ b) : zE E (zcpJ M a sp b dp n) q = zE E M q := by
  have h1 : zJ (zcpJ M a sp b dp n) q = zJ M q := by funext j; simp [zJ, zcpJ, h]
  unfold zE zfs
  rw [h1]
  rfl
theorem zs_copyI {index a b : Nat} {sp dp n : Int32} {f : zM → Option α} (hd : decode μ.2.2.1 pc = .ok (.invokestatic index, 3)) (hl1 : Cond.methodLink μ.1 index arraycopyName ∈ zT) (hl2 : Cond.native arraycopyName ∈ zT) (hl3 : Cond.static arraycopyName ∈ zT) (hl4 : Cond.initialized "java/lang/System" ∈ zT) (hdd : 1 ≤ d) (hr : (st.map fun v => v.category).sum ≤ 8)
    (kk : ∀ M1, zSy E μ d M0 tg x0 (f M1) (pc + 3) loc st M1) : zSy E μ d M0 tg x0 ((zcp 100 M a sp b dp n).bind f) pc loc (.int n :: .int dp :: .ref (E.2.2.2.1 + b) :: .int sp :: .ref (E.2.2.2.1 + a) :: st) M := by
  intro hh
  obtain ⟨M1, hv, hh⟩ := Option.bind_eq_some_iff.mp hh
  unfold zcp at hv
  split at hv
  case isFalse => cases hv
  case isTrue hc =>
    rw [if_neg (by decide)] at hv
    cases hv
    obtain ⟨c1, c2, c3, c4, c5⟩ := hc
    intro p e R s m args below meth c H locs ls Q K hl hP hS g
    have hw := K.2.2.2.2.1
    obtain ⟨r1, r2, r3, r4⟩ := zRoomB K g hdd
    have hk : nativeFrameWords "java/lang/System" "arraycopy" 5 + 11 ≤ 33 := by decide +kernel
    refine va_copyi K.1 K.2.1 (K.2.2.1.trans hl.1.symm) K.2.2.2.1 (hw _ hl1) (hw _ hl2) (hw _ hl3) (hw _ hl4) K.2.2.2.2.2.1 hP.2 (zW_D E M) (zSself hS) a b 0 0 (by rw [zW_get c1.1, zE_i c1.2 (by decide)]) (by rw [zW_get c2.1, zE_i c2.2 (by decide)]) rfl rfl rfl c3.1 c3.2.1 c3.2.2 c4 c5 (fun _ _ => rfl) r1 (by omega) hd (fun H1 locs1 hP1 hD1 hS1 => ?_)
    have e1 : (zW E M).set b (E.2.2.2.1 + b, .inl (E.2.2.1 100, (zL M b, .inl (va_cpy (zI M a) (zI M b) sp.toNatClampNeg dp.toNatClampNeg n.toNatClampNeg)))) = zW E (zcpI M a sp.toNatClampNeg b dp.toNatClampNeg n.toNatClampNeg) := by
      rw [show va_cpy (zI M a) (zI M b) sp.toNatClampNeg dp.toNatClampNeg n.toNatClampNeg = zI (zcpI M a sp.toNatClampNeg b dp.toNatClampNeg n.toNatClampNeg) b by funext j; simp [zI, zcpI], show zL M b = zL (zcpI M a sp.toNatClampNeg b dp.toNatClampNeg n.toNatClampNeg) b from rfl, ← zE_i (M := zcpI M a sp.toNatClampNeg b dp.toNatClampNeg n.toNatClampNeg) c2.2 (by decide)]
      exact zW_set rfl (fun q hq => zE_oC q hq)
    rw [e1] at hP1
    exact zs_stored (M := M) (M' := zcpI M a sp.toNatClampNeg b dp.toNatClampNeg n.toNatClampNeg) rfl rfl hh (kk _) K hl hP hP1 hS hS1 g
theorem zs_copyJ {index a b : Nat} {sp dp n : Int32} {f : zM → Option α} (hd : decode μ.2.2.1 pc = .ok (.invokestatic index, 3)) (hl1 : Cond.methodLink μ.1 index arraycopyName ∈ zT) (hl2 : Cond.native arraycopyName ∈ zT) (hl3 : Cond.static arraycopyName ∈ zT) (hl4 : Cond.initialized "java/lang/System" ∈ zT) (hdd : 1 ≤ d) (hr : (st.map fun v => v.category).sum ≤ 8)
    (kk : ∀ M1, zSy E μ d M0 tg x0 (f M1) (pc + 3) loc st M1) : zSy E μ d M0 tg x0 ((zcp 101 M a sp b dp n).bind f) pc loc (.int n :: .int dp :: .ref (E.2.2.2.1 + b) :: .int sp :: .ref (E.2.2.2.1 + a) :: st) M := by
  intro hh
  obtain ⟨M1, hv, hh⟩ := Option.bind_eq_some_iff.mp hh
  unfold zcp at hv
  split at hv
  case isFalse => cases hv
  case isTrue hc =>
    rw [if_pos rfl] at hv
    cases hv
    obtain ⟨c1, c2, c3, c4, c5⟩ := hc
    intro p e R s m args below meth c H locs ls Q K hl hP hS g
    have hw := K.2.2.2.2.1
    obtain ⟨r1, r2, r3, r4⟩ := zRoomB K g hdd
    have hk : nativeFrameWords "java/lang/System" "arraycopy" 5 + 11 ≤ 33 := by decide +kernel
    refine va_copyl K.1 K.2.1 (K.2.2.1.trans hl.1.symm) K.2.2.2.1 (hw _ hl1) (hw _ hl2) (hw _ hl3) (hw _ hl4) K.2.2.2.2.2.1 hP.2 (zW_D E M) (zSself hS) a b 1 1 (by rw [zW_get c1.1, zE_j c1.2]) (by rw [zW_get c2.1, zE_j c2.2]) rfl rfl rfl c3.1 c3.2.1 c3.2.2 c4 c5 (fun _ _ => rfl) r1 (by omega) hd (fun H1 locs1 hP1 hD1 hS1 => ?_)
    have e1 : (zW E M).set b (E.2.2.2.1 + b, .inl (E.2.2.1 101, (zL M b, .inr (.inl (va_cpy (zJ M a) (zJ M b) sp.toNatClampNeg dp.toNatClampNeg n.toNatClampNeg))))) = zW E (zcpJ M a sp.toNatClampNeg b dp.toNatClampNeg n.toNatClampNeg) := by
      rw [show va_cpy (zJ M a) (zJ M b) sp.toNatClampNeg dp.toNatClampNeg n.toNatClampNeg = zJ (zcpJ M a sp.toNatClampNeg b dp.toNatClampNeg n.toNatClampNeg) b by funext j; simp [zJ, zcpJ], show zL M b = zL (zcpJ M a sp.toNatClampNeg b dp.toNatClampNeg n.toNatClampNeg) b from rfl, ← zE_j (M := zcpJ M a sp.toNatClampNeg b dp.toNatClampNeg n.toNatClampNeg) c2.2]
      exact zW_set rfl (fun q hq => zE_oCJ q hq)
    rw [e1] at hP1
    exact zs_stored (M := M) (M' := zcpJ M a sp.toNatClampNeg b dp.toNatClampNeg n.toNatClampNeg) rfl rfl hh (kk _) K hl hP hP1 hS hS1 g
theorem zE_new {L n : Nat} (b : Nat) (h : b ≠ zS M) : zE E (znew M L n) b = zE E M b := by
  have h1 : zI (znew M L n) b = zI M b := by funext j; simp [zI, znew, h]
  have h2 : zJ (znew M L n) b = zJ M b := by funext j; simp [zJ, znew, h]
  have h3 : zR (znew M L n) b = zR M b := by funext j; simp [zR, znew, h]
  have h4 : zL (znew M L n) b = zL M b := by simp [zL, znew, h]
  unfold zE zfs
  rw [h1, h2, h3, h4]
theorem zW_new {L n : Nat} : zW E (znew M L n) = zW E M ++ [(E.2.2.2.1 + zS M, zE E (znew M L n) (zS M))] := by
  unfold zW
  rw [show zS (znew M L n) = zS M + 1 from rfl, List.range_succ, List.map_append]
  congr 1
  apply List.map_congr_left
  intro a ha
  rw [zE_new a (Nat.ne_of_lt (List.mem_range.mp ha))]
theorem zs_made {L n : Nat} {p : Program} {e : Env} {R : Room} {s : State} {m : MethodId} {args : Array Value} {below : List Frame} {meth : Method} {c : Code} {H H1 : Heap} {locs : List Loc} {ls : Array Slot} {Q : State → Prop} {pc' : Nat} {loc' : List (Nat × Value)} {st' : List Value} {t' : Option α}
    (hh : t' = some x0) (k : zSy E μ d M0 tg x0 t' pc' loc' st' (znew M L n)) (K : zCF E μ d M0 tg p e R s m args below meth c Q) (hl : lv_has ls μ.2.2.2.1 loc') (hP : zRep E M H) (hS : va_S (zA E) s.heap H locs) (g : zG M0 M) (c1 : zS M + 1 ≤ 600000) (c2 : zU M + n ≤ 7302250)
    (z1 : H1.size = H.size + 1) (o1 : ∀ q, q < H.size → H1[q]? = H[q]?) (he : va_at E.2.1 vwCl (E.2.2.2.1 + zS M, zE E (znew M L n) (zS M)) H1) : W p E.1 e R s m args below meth c H1 locs (zS M - zS M0 + 1) (zU M - zU M0 + n) Q (F0 m pc' ls st') := by
  have hP1 : va_P E.2.1 vwCl (zW E (znew M L n)) H1 := by
    rw [zW_new]
    refine va_P.app (hP.2.kept (fun k x hx => o1 x.1 ((hP.2 k x hx).lt))) (fun k x hx => ?_)
    have hz : k < 1 := (List.getElem?_eq_some_iff.mp hx).1
    rw [show k = 0 by omega] at hx
    cases hx
    exact he
  have w := k hh p e R s m args below meth c H1 locs ls Q K hl ⟨by rw [z1, hP.1]; rfl, hP1⟩ ⟨Nat.le_trans hS.1 (by omega), fun x h1 h2 => (o1 x (Nat.lt_of_lt_of_le h1 hS.1)).trans (hS.2.1 x h1 h2), hS.2.2⟩ ⟨Nat.le_trans g.1 (Nat.le_succ _), Nat.le_trans g.2.1 (Nat.le_add_right _ _), c1, c2⟩
  have n1 : zS (znew M L n) - zS M0 = zS M - zS M0 + 1 := by show zS M + 1 - zS M0 = _; have := g.1; omega
  have n2 : zU (znew M L n) - zU M0 = zU M - zU M0 + n := by show zU M + n - zU M0 = _; have := g.2.1; omega
  rw [n1, n2] at w
  exact w
theorem zRoomC {n : Nat} {p : Program} {e : Env} {R : Room} {s : State} {m : MethodId} {args : Array Value} {below : List Frame} {meth : Method} {c : Code} {Q : State → Prop} (K : zCF E μ d M0 tg p e R s m args below meth c Q) (g : zG M0 M) (c1 : zS M + 1 ≤ 600000) (c2 : zU M + n ≤ 7302250) : zS M - zS M0 + 1 ≤ R.cells ∧ zU M - zU M0 + n ≤ R.slots := by
  obtain ⟨-, -, h1, h2⟩ := K.2.2.2.2.2.2.2.2.2.1
  rw [h1, h2]
  have := g.1; have := g.2.1
  omega
theorem zs_newA {ck : Nat} {at' : ArrayType} {ty : FieldType} {n : Int32} {f : Nat → zM → Option α} (hd : decode μ.2.2.1 pc = .ok (.newarray at', 2)) (hty : newarray.typeOf at' = ty) (hck : (ck = 100 ∧ ty = .int) ∨ (ck = 102 ∧ ty = .byte) ∨ (ck = 103 ∧ ty = .boolean) ∨ (ck = 101 ∧ ty = .long)) (hw1 : Cond.arrayClass ty ∈ zT)
    (kk : ∀ q M1, zSy E μ d M0 tg x0 (f q M1) (pc + 2) loc (.ref (E.2.2.2.1 + q) :: st) M1) : zSy E μ d M0 tg x0 ((zna ck M n).bind (fun q => zpp q f)) pc loc (.int n :: st) M := by
  intro hh
  obtain ⟨q, hv, hh⟩ := Option.bind_eq_some_iff.mp hh
  unfold zna at hv
  split at hv
  case isFalse => cases hv
  case isTrue hc =>
    cases hv
    obtain ⟨c1, c2, c3, c4, c5⟩ := hc
    intro p e R s m args below meth c H locs ls Q K hl hP hS g
    have hw := K.2.2.2.2.1
    obtain ⟨r1, r2⟩ := zRoomC K g c4 c5
    subst hty
    refine va_newaK K.1 K.2.1 (hw _ hw1) rfl hd rfl c2 rfl ?_ r1 r2 rfl (fun H1 cA e1 z1 o1 hAr hNm => ?_)
    · rcases hck with ⟨-, h⟩ | ⟨-, h⟩ | ⟨-, h⟩ | ⟨-, h⟩ <;> rw [h] <;> show _ * _ ≤ _ <;> simp only [componentBytes] <;> omega
    · have w := zs_made (L := n.toNatClampNeg) (n := n.toNatClampNeg) hh (kk _ _) K hl hP hS g c4 c5 z1 o1 (by
        rcases hck with ⟨rfl, h⟩ | ⟨rfl, h⟩ | ⟨rfl, h⟩ | ⟨rfl, h⟩ <;> rw [h] at e1 hNm
        · rw [zE_i c1 (by decide)]
          have hA := (K.2.2.2.2.2.1.2 0 _ rfl).2
          have e2 : some cA = some (E.2.2.1 100) := hNm.symm.trans hA
          cases e2
          show H1[E.2.2.2.1 + zS M]? = some (vp_cell _ _)
          rw [← hP.1, e1, vp_cell_i]
          congr 2
          · simp [zL, znew]
          · funext j; simp [zI, znew, defaultValue]
        · rw [zE_i c1 (by decide)]
          have hA := (K.2.2.2.2.2.1.2 2 _ rfl).2
          have e2 : some cA = some (E.2.2.1 102) := hNm.symm.trans hA
          cases e2
          show H1[E.2.2.2.1 + zS M]? = some (vp_cell _ _)
          rw [← hP.1, e1, vp_cell_i]
          congr 2
          · simp [zL, znew]
          · funext j; simp [zI, znew, defaultValue]
        · rw [zE_i c1 (by decide)]
          have hA := (K.2.2.2.2.2.1.2 3 _ rfl).2
          have e2 : some cA = some (E.2.2.1 103) := hNm.symm.trans hA
          cases e2
          show H1[E.2.2.2.1 + zS M]? = some (vp_cell _ _)
          rw [← hP.1, e1, vp_cell_i]
          congr 2
          · simp [zL, znew]
          · funext j; simp [zI, znew, defaultValue]
        · rw [zE_j c1]
          have hA := (K.2.2.2.2.2.1.2 1 _ rfl).2
          have e2 : some cA = some (E.2.2.1 101) := hNm.symm.trans hA
          cases e2
          show H1[E.2.2.2.1 + zS M]? = some (vp_cell _ _)
          rw [← hP.1, e1, vp_cell_l]
          congr 2
          · simp [zL, znew]
          · funext j; simp [zJ, znew, defaultValue])
      rw [hP.1]
      exact w
def zNO (ci : Nat) (C : String) (T : u_T) (N : Nat) (ty : Nat → FieldType) : Prop := vwCl[ci]? = some (C, T, N) ∧ ci < 20 ∧ (∀ w ∈ u_ws C T N, w ∈ zT) ∧ (∀ k, k < N → parseFieldDescriptor (T k).2.2.1 = some (ty k)) ∧ (zf ci).length = N ∧ (∀ k, k < N → defaultValue (ty k) = if (zf ci)[k]? = some 0 then .int 0 else .null) ∧ Cond.instantiable C N ∈ zT ∧ Cond.initialized C ∈ zT
theorem zs_newO {ci index N : Nat} {C : String} {T : u_T} {ty : Nat → FieldType} {f : Nat → zM → Option α} (hd : decode μ.2.2.1 pc = .ok (.new index, 3)) (hno : zNO ci C T N ty) (hw1 : Cond.classLink μ.1 index C ∈ zT)
    (kk : ∀ q M1, zSy E μ d M0 tg x0 (f q M1) (pc + 3) loc (.ref (E.2.2.2.1 + q) :: st) M1) : zSy E μ d M0 tg x0 ((zno ci M).bind (fun q => zpp q f)) pc loc st M := by
  obtain ⟨hc, h20, hin, hty, hlen, hdef, hw2, hw3⟩ := hno
  intro hh
  obtain ⟨q, hv, hh⟩ := Option.bind_eq_some_iff.mp hh
  unfold zno at hv
  split at hv
  case isFalse => cases hv
  case isTrue hcc =>
    cases hv
    obtain ⟨c1, c4, c5⟩ := hcc
    rw [hlen] at c5 hh
    intro p e R s m args below meth c H locs ls Q K hl hP hS g
    have hw := K.2.2.2.2.1
    obtain ⟨r1, r2⟩ := zRoomC K g c4 c5
    have hKn := K.2.2.2.2.2.1.1 ci _ hc
    refine W.newcK K.1 K.2.1 K.2.2.2.1 (hw _ hw1) (hw _ hw2) (hw _ hw3) rfl hd r1 r2 hKn.2.1 rfl (fun H1 kC hkC e1 z1 o1 => ?_)
    have w := zs_made (L := 0) (n := N) hh (kk _ _) K hl hP hS g c4 c5 z1 o1 (by
      rw [zE_o c1 h20]
      refine ⟨_, hc, ?_⟩
      show t_OB (E.2.2.2.1 + zS M) _ _ _ H1 _
      rw [← hP.1]
      refine (u_born ty hw hin hKn hkC e1 hty).to (fun k hk => ?_)
      rw [hdef k hk]
      obtain ⟨tt, htt⟩ : ∃ tt, (zf ci)[k]? = some tt := ⟨_, List.getElem?_eq_getElem (by rw [hlen]; exact hk)⟩
      show _ = (zfs E (znew M 0 N) (zS M) (zf ci)).getD k .null
      rw [List.getD_eq_getElem?_getD, zfs_get htt, htt]
      by_cases h0 : tt = 0
      · subst h0
        simp [zI, znew]
      · simp [h0, zR, znew, va_rf])
    rw [hP.1]
    exact w
theorem zs_objInit {index a : Nat} (hd : decode μ.2.2.1 pc = .ok (.invokespecial index, 3)) (hw1 : Cond.methodLink μ.1 index Lib.objectInit ∈ zT) (hw2 : Cond.instanceMethod Lib.objectInit ∈ zT) (hw3 : Cond.code Lib.objectInit ⟨#[0xb1]⟩ 1 none ∈ zT) (hdd : 1 ≤ d) (hr : (st.map fun v => v.category).sum ≤ 8) (k : zSy E μ d M0 tg x0 t (pc + 3) loc st M) : zSy E μ d M0 tg x0 t pc loc (.ref a :: st) M := by
  intro hh p e R s m args below meth c H locs ls Q K hl hP hS g
  have hw := K.2.2.2.2.1
  obtain ⟨r1, r2, r3, r4⟩ := zRoomB K g hdd
  exact W.objInit K.1 K.2.1 K.2.2.2.1 (hw _ hw1) (hw _ hw2) (hw _ hw3) rfl (hl.1.trans K.2.2.1.symm) rfl hd r1 (by show 2 * 0 + _ + 12 ≤ _; omega) (k hh p e R s m args below meth c H locs ls Q K hl hP hS g)
theorem zs_tsw {dflt lo hi : Int} {offs : Array Int} {len : Nat} {x c : Int32} {off : Int} {tgt : Nat} (hd : decode μ.2.2.1 pc = .ok (.tableswitch dflt lo hi offs, len)) (hx : x = c) (h1 : ¬ c.toInt < lo) (h2 : ¬ hi < c.toInt) (ho : offs[(c.toInt - lo).toNat]? = some off) (ht : (pc : Int) + off = (tgt : Int))
    (k : zSy E μ d M0 tg x0 t tgt loc st M) : zSy E μ d M0 tg x0 t pc loc (.int x :: st) M := by
  subst hx
  exact zs_go (fun p e R s m a b mt c H lo ls ce sl Q hx hb hl kk => lv_tableIn hx hb hd h1 h2 ho ht (kk ls hl)) k
theorem zs_tswD {dflt lo hi : Int} {offs : Array Int} {len : Nat} {x : Int32} {tgt : Nat} (hd : decode μ.2.2.1 pc = .ok (.tableswitch dflt lo hi offs, len)) (hx : x.toInt < lo ∨ hi < x.toInt) (ht : (pc : Int) + dflt = (tgt : Int))
    (k : zSy E μ d M0 tg x0 t tgt loc st M) : zSy E μ d M0 tg x0 t pc loc (.int x :: st) M :=
  zs_go (fun p e R s m a b mt c H lo ls ce sl Q hq hb hl kk => lv_tableOut hq hb hd hx ht (kk ls hl)) k
theorem ztsw_of {x : Int32} {n : Nat} (hn : n < 1000) (h : ∀ k, k ≤ n → x ≠ Int32.ofNat k) : x.toInt < 0 ∨ (n : Int) < x.toInt := by
  rcases Int.lt_or_le x.toInt 0 with h0 | h0
  · exact Or.inl h0
  · refine Or.inr (Int.not_le.mp fun h1 => ?_)
    refine h x.toInt.toNat (by omega) (Int32.toInt_inj.mp ?_)
    rw [Int32.toInt_ofNat_of_lt (by omega)]
    omega
end ZM

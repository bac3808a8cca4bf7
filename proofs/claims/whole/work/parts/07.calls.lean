section ZC
variable {E : zEnv} {μ : zMu} {d : Nat} {M0 : zM} {tg : Option Value × zM} {α β : Type} {x0 : α} {t : Option α} {pc : Nat} {loc : List (Nat × Value)} {st rest : List Value} {M : zM}
theorem zPre_call {M : zM} {U : State} (h : zPre E M U) (g : JFrame) (mk : MethodId) (a : Array Value) : zPre E M (U.calling g mk a) :=
  ⟨h.1, va_K.moved (u := U) (U := U.calling g mk a) (Vm.Alike.refl U.vm) h.2.1, h.2.2.2.1.1 U (U.calling g mk a) _ (State.WarmedH.refl U) h.2.2.1, h.2.2.2⟩
/-- what the tables say of a method that is called -/
def zLM (μ' : zMu) : Prop := Cond.code μ'.2.1 μ'.2.2.1 μ'.2.2.2.1 μ'.2.2.2.2 ∈ zT ∧ Cond.initialized μ'.2.1.cls ∈ zT ∧ (μ'.2.1.cls ≠ "java/lang/invoke/MethodHandle" ∧ μ'.2.1.cls ≠ "java/lang/invoke/VarHandle") ∧ μ'.2.2.2.1 ≤ 22
def zLn (μ' : zMu) (n : Nat) : Prop := (parseMethodDescriptor μ'.2.1.desc).map (fun d => d.parameters.length) = some n
theorem zLn_of {μ' : zMu} {n : Nat} (h : zLn μ' n) (sig : MethodDescriptor) (hs : parseMethodDescriptor μ'.2.1.desc = some sig) : n = sig.parameters.length := by
  unfold zLn at h
  rw [hs] at h
  exact (Option.some.inj h).symm
theorem z_back {p : Program} {e : Env} {R : Room} {s : State} {sargs : Array Value} {below : List Frame} {μ' : zMu} {d' : Nat} {As : List Value} {M1 : zM} {tg1 : Option Value × zM} (hM : zCt E μ' d' As M1 tg1) (hw : ∀ w ∈ zT, w.before sargs s = true) (hL : zLM μ') (hdd : d' + 1 ≤ d) (hR : d ≤ R.frames ∧ 41 * d ≤ R.locals) :
    Back E.1 R p e below s sargs μ'.2.1 3 8 (fun A a => A.cells + (600000 - zS M1) ≤ R.cells ∧ A.slots + (7302250 - zU M1) ≤ R.slots ∧ a = As.toArray ∧ zPre E M1 A.U) (PostOf (zQ E M1 tg1) (zS tg1.2 - zS M1) (zU tg1.2 - zU M1) (zA E)) := by
  have hgood : ∀ w ∈ zT, ∀ (a' : Array Value) (U : State), s.WarmedH U.vm → w.before a' U = true := fun w h a' U hW => zT_move (zT_good w h) hW (hw w h)
  have hall : ∀ w ∈ zWs μ', ∀ (a' : Array Value) (U : State), s.WarmedH U.vm → w.before a' U = true := by
    intro w h a' U hW
    rcases List.mem_cons.mp h with rfl | h
    · exact hgood _ hL.1 a' U hW
    · exact hgood _ h a' U hW
  refine Back.of_free (S := headSpec (zWs μ') { frames := d', cells := 600000 - zS M1, slots := 7302250 - zU M1, locals := 41 * d' }) (P := fun v U => v = As.toArray ∧ zPre E M1 U) (K := fun _ _ _ _ _ => True) (Q := fun a st o t => zQ E M1 tg1 a st o t ∧ ∃ L, FrameEnd st o t L (zS tg1.2 - zS M1) (zU tg1.2 - zU M1) ∧ ∀ q ∈ L, zA E q.base) (bytes := μ'.2.2.1) (maxL := μ'.2.2.2.1) (ret := μ'.2.2.2.2)
    (E := fun a st o t L k n => k = zS tg1.2 - zS M1 ∧ n = zU tg1.2 - zU M1 ∧ ∀ q ∈ L, zA E q.base) hM (Nat.le_trans hdd hR.1) ?_ ?_ ?_ (fun _ _ _ _ _ _ _ _ _ => trivial) ?_ ?_
  · have h1 := hL.2.2.2
    show 8 + (μ'.2.2.2.1 + 11) + 41 * d' ≤ R.locals
    have h2 := hR.2
    omega
  · intro m meth c A a X hp
    exact ⟨atoms_intro fun w h => hall w h _ _ X.warmed, hgood _ hL.1 _ _ X.warmed, hgood _ hL.2.1 _ _ X.warmed, hp.1, hp.2.1⟩
  · intro m meth c A a g mk X hp
    exact ⟨hp.2.2.1, zPre_call hp.2.2.2 g mk a⟩
  · intro a st o t ⟨hq, L, hF, hL⟩
    exact ⟨L, _, _, hF, rfl, rfl, hL⟩
  · intro m meth c A a g mk v t L k n X hp hq hF ⟨e1, e2, hL⟩
    subst e1; subst e2
    exact ⟨g, mk, t, L, rfl, rfl, hq.1, rfl, hL, rfl, rfl⟩
/-- behind a call -/
theorem zs_back {t0 : Option β} {f : β → Option α} {ψ : Option Value × zM} {p : Program} {e : Env} {R : Room} {s : State} {m : MethodId} {args : Array Value} {below : List Frame} {meth : Method} {c : Code} {H : Heap} {locs : List Loc} {ls : Array Slot} {Q : State → Prop} {As : Array Value} {T : State} {vm₁ : Vm} {v : Option Value} {B : Pt} {y : β}
    (K : zCF E μ d M0 tg p e R s m args below meth c Q) (hl : lv_has ls μ.2.2.2.1 loc) (hS : va_S (zA E) s.heap H locs) (g : zG M0 M) (hT : T.heap = H)
    (hp : PostOf (zQ E M ψ) (zS ψ.2 - zS M) (zU ψ.2 - zU M) (zA E) ⟨T.setVm vm₁, locs, zS M - zS M0, zU M - zU M0⟩ As v B) (X' : Stand p E.1 e R s m args below meth c B.U B.locs B.cells B.slots)
    (hst : ∀ target, Steps p.tables e below (B.U.setTop { F0 m pc ls st with pc := pc + 3, stack := v.toList ++ rest }) target → Steps p.tables e below (T.setTop (F0 m pc ls st)) target)
    (hy : f y = some x0) (kk : zSy E μ d M0 tg x0 (f y) (pc + 3) loc (ψ.1.toList ++ rest) ψ.2) : ∃ t, Steps p.tables e below (T.setTop (F0 m pc ls st)) t ∧ Q t := by
  obtain ⟨U', l2, c2, s2⟩ := B
  obtain ⟨g', mk, tt, L, e1, e2, ⟨ho, hR1, hG1, hF1⟩, h1, hL, h2, h3⟩ := hp
  dsimp only [Pt.U, Pt.locs, Pt.cells, Pt.slots] at X' e1 e2 h1 h2 h3 hst
  subst h1; subst h2; subst h3
  cases ho
  have hz : (T.setVm vm₁).heap = H := hT
  have hF2 : va_F (zA E) ((T.setVm vm₁).calling g' mk As) tt := hF1
  have hk : H.size ≤ tt.heap.size ∧ ∀ q : Nat, q < H.size → ¬ zA E q → tt.heap[q]? = H[q]? := by
    have q1 := hF2.1
    have q2 := hF2.2
    rw [show ((T.setVm vm₁).calling g' mk As).heap = H from hT] at q1 q2
    exact ⟨q1, q2⟩
  have hS2 : va_S (zA E) s.heap U'.heap (locs ++ L) := by
    rw [e1]
    refine ⟨Nat.le_trans hS.1 hk.1, fun q a1 a2 => (hk.2 q (Nat.lt_of_lt_of_le a1 hS.1) a2).trans (hS.2.1 q a1 a2), fun q hq => ?_⟩
    rcases List.mem_append.mp hq with h | h
    · exact hS.2.2 q h
    · exact hL q h
  have w := kk hy p e R s m args below meth c U'.heap (locs ++ L) ls Q K hl (by rw [e1]; exact hR1) hS2 ⟨Nat.le_trans g.1 hG1.1, Nat.le_trans g.2.1 hG1.2.1, hG1.2.2⟩
  have n1 : zS M - zS M0 + (zS ψ.2 - zS M) = zS ψ.2 - zS M0 := by have := g.1; have := hG1.1; omega
  have n2 : zU M - zU M0 + (zU ψ.2 - zU M) = zU ψ.2 - zU M0 := by have := g.2.1; have := hG1.2.1; omega
  rw [n1, n2] at X'
  obtain ⟨t2, a1, b1⟩ := w U' rfl X'
  exact ⟨t2, hst t2 a1, b1⟩
theorem zRoomA {p : Program} {e : Env} {R : Room} {s : State} {m : MethodId} {args : Array Value} {below : List Frame} {meth : Method} {c : Code} {Q : State → Prop} (K : zCF E μ d M0 tg p e R s m args below meth c Q) (g : zG M0 M) : zS M - zS M0 + (600000 - zS M) ≤ R.cells ∧ zU M - zU M0 + (7302250 - zU M) ≤ R.slots := by
  obtain ⟨-, -, h1, h2⟩ := K.2.2.2.2.2.2.2.2.2.1
  rw [h1, h2]
  have := g.1; have := g.2.1; have := g.2.2.1; have := g.2.2.2
  omega
theorem zPreA {p : Program} {e : Env} {R : Room} {s : State} {m : MethodId} {args : Array Value} {below : List Frame} {meth : Method} {c : Code} {H : Heap} {locs : List Loc} {Q : State → Prop} {T : State} {vm₁ : Vm} (K : zCF E μ d M0 tg p e R s m args below meth c Q) (hP : zRep E M H) (hS : va_S (zA E) s.heap H locs) (g : zG M0 M) (hT : T.heap = H) (hW : s.WarmedH vm₁) : zPre E M (T.setVm vm₁) := by
  obtain ⟨k1, k2, k3, k4, k5, k6, k7, k8, k9, k10⟩ := K
  refine ⟨hT ▸ hP, va_K.moved hW.alike k6, ?_, k8, g.2.2⟩
  refine k8.2 _ s.heap _ (fun q hq => ?_) (k8.1 s _ _ hW k7)
  show T.heap[q]? = _
  rw [hT]
  exact hS.2.1 q (by rw [k9]; omega) (fun h => Nat.not_le.mpr hq h)
theorem zrecv {s : State} {H : Heap} {ci a N : Nat} {C : String} {T : u_T} (hK : va_K E.2.1 vwCl (zTy E) s) (hP : zRep E M H) (hc : vwCl[ci]? = some (C, T, N)) (h3 : ci < 20) (h : a < zS M ∧ kd a = ci) : ∃ cell : Cell, H[E.2.2.2.1 + a]? = some cell ∧ cell.vm.isStatics = false ∧ s.vm.findClass C = some cell.cls :=
  va_recv (q := (C, T, N)) (fs := zfs E M a (zf ci)) hK hP.2 hc (by rw [zW_get h.1, zE_o h.2 h3])

theorem zs_invS0 {index d' : Nat} {μ' : zMu} {t0 : Option β} {f : β → Option α} {ψ : β → Option Value × zM} (As : List Value) (hd : decode μ.2.2.1 pc = .ok (.invokestatic index, 3)) (hL : zLM μ') (hl1 : Cond.methodLink μ.1 index μ'.2.1 ∈ zT) (hl2 : Cond.static μ'.2.1 ∈ zT) (hn : zLn μ' As.length) (hdd : d' + 1 ≤ d) (hst : st = As.reverse ++ rest) (hr : (rest.map fun v => v.category).sum ≤ 8)
    (hc : ∀ y, t0 = some y → zCt E μ' d' As M (ψ y)) (kk : ∀ y, zSy E μ d M0 tg x0 (f y) (pc + 3) loc ((ψ y).1.toList ++ rest) (ψ y).2) : zSy E μ d M0 tg x0 (t0.bind f) pc loc st M := by
  intro hh
  obtain ⟨y, hv, hy⟩ := Option.bind_eq_some_iff.mp hh
  intro p e R s m args below meth c H locs ls Q K hl hP hS g T hT X
  have hw := K.2.2.2.2.1
  obtain ⟨v, vm₁, B, hW, X', hp, hs⟩ := callS X K.1 (g := F0 m pc ls st) (bytes := μ'.2.2.1) (maxL := μ'.2.2.2.1) (ret := μ'.2.2.2.2) K.2.2.2.1 (hw _ hl1) (hw _ hl2) (hw _ hL.2.1) (hw _ hL.1) hL.2.2.1 (z_back (d := d) (hc y hv) hw hL hdd ⟨K.2.2.2.2.2.2.2.2.2.1.1, K.2.2.2.2.2.2.2.2.2.1.2.1⟩) rfl (hl.1.trans K.2.2.1.symm) (argsL := As) (rest := rest) (zLn_of hn) hst (lv_room hr) (by rw [K.2.1]; exact hd) (fun vm₁ hW => ⟨(zRoomA K g).1, (zRoomA K g).2, rfl, zPreA K hP hS g hT hW⟩)
  exact zs_back (f := f) (t0 := t0) (y := y) K hl hS g hT hp X' hs hy (kk y)
theorem zs_invV0 {index d' ci a NN : Nat} {C : String} {T : u_T} {μ' : zMu} {t0 : Option β} {f : β → Option α} {ψ : β → Option Value × zM} (As : List Value) (hd : decode μ.2.2.1 pc = .ok (.invokevirtual index, 3)) (hL : zLM μ') (hl1 : Cond.methodLink μ.1 index μ'.2.1 ∈ zT) (hl2 : Cond.instanceMethod μ'.2.1 ∈ zT) (hl3 : Cond.selects C μ'.2.1 μ'.2.1 ∈ lw_tbl) (hcl : vwCl[ci]? = some (C, T, NN)) (h20 : ci < 20) (hth : ∀ y, t0 = some y → a < zS M ∧ kd a = ci) (hn : zLn μ' As.length) (hdd : d' + 1 ≤ d) (hst : st = As.reverse ++ .ref (E.2.2.2.1 + a) :: rest) (hr : (rest.map fun v => v.category).sum ≤ 8)
    (hc : ∀ y, t0 = some y → zCt E μ' d' (.ref (E.2.2.2.1 + a) :: As) M (ψ y)) (kk : ∀ y, zSy E μ d M0 tg x0 (f y) (pc + 3) loc ((ψ y).1.toList ++ rest) (ψ y).2) : zSy E μ d M0 tg x0 (t0.bind f) pc loc st M := by
  intro hh
  obtain ⟨y, hv, hy⟩ := Option.bind_eq_some_iff.mp hh
  intro p e R s m args below meth c H locs ls Q K hl hP hS g T hT X
  have hw := K.2.2.2.2.1
  obtain ⟨cell, k1, k2, k3⟩ := zrecv K.2.2.2.2.2.1 hP hcl h20 (hth y hv)
  obtain ⟨v, vm₁, B, hW, X', hp, hs⟩ := callV X K.1 (g := F0 m pc ls st) (C := C) (bytes := μ'.2.2.1) (maxL := μ'.2.2.2.1) (ret := μ'.2.2.2.2) K.2.2.2.1 (hw _ hl1) (hw _ hl2) (hw _ (zT_in hl3 rfl)) (hw _ hL.1) hL.2.2.1 (z_back (d := d) (hc y hv) hw hL hdd ⟨K.2.2.2.2.2.2.2.2.2.1.1, K.2.2.2.2.2.2.2.2.2.1.2.1⟩) (by rw [hT]; exact k1) k2 k3 rfl (hl.1.trans K.2.2.1.symm) (argsL := As) (rest := rest) (zLn_of hn) hst (lv_room hr) (by rw [K.2.1]; exact hd) (fun vm₁ hW => ⟨(zRoomA K g).1, (zRoomA K g).2, rfl, zPreA K hP hS g hT hW⟩)
  exact zs_back (f := f) (t0 := t0) (y := y) K hl hS g hT hp X' hs hy (kk y)
theorem zs_invI0 {index d' a : Nat} {y' : MethodName} {own' : String} {cc' : ByteArray} {mL' : Nat} {t0 : Option β} {f : β → Option α} {ψ : β → Option Value × zM} (As : List Value) (hd : decode μ.2.2.1 pc = .ok (.invokespecial index, 3)) (hy1 : y'.name = "<init>") (hL : zLM (own', y', cc', mL', none)) (hl1 : Cond.methodLink μ.1 index y' ∈ zT) (hl2 : Cond.instanceMethod y' ∈ zT) (hn : zLn (own', y', cc', mL', none) As.length) (hdd : d' + 1 ≤ d) (hst : st = As.reverse ++ .ref (E.2.2.2.1 + a) :: rest) (hr : (rest.map fun v => v.category).sum ≤ 8)
    (hc : ∀ y, t0 = some y → zCt E (own', y', cc', mL', none) d' (.ref (E.2.2.2.1 + a) :: As) M (ψ y)) (kk : ∀ y, zSy E μ d M0 tg x0 (f y) (pc + 3) loc ((ψ y).1.toList ++ rest) (ψ y).2) : zSy E μ d M0 tg x0 (t0.bind f) pc loc st M := by
  intro hh
  obtain ⟨y, hv, hy⟩ := Option.bind_eq_some_iff.mp hh
  intro p e R s m args below meth c H locs ls Q K hl hP hS g T hT X
  have hw := K.2.2.2.2.1
  obtain ⟨v, vm₁, B, hW, X', hp, hs⟩ := callI X K.1 (g := F0 m pc ls st) (y := y') (bytes := cc') (maxL := mL') K.2.2.2.1 hy1 (hw _ hl1) (hw _ hl2) (hw _ hL.1) hL.2.2.1 (z_back (d := d) (hc y hv) hw hL hdd ⟨K.2.2.2.2.2.2.2.2.2.1.1, K.2.2.2.2.2.2.2.2.2.1.2.1⟩) rfl (hl.1.trans K.2.2.1.symm) (a := E.2.2.2.1 + a) (argsL := As) (rest := rest) (zLn_of hn) hst (lv_room hr) (by rw [K.2.1]; exact hd) (fun vm₁ hW => ⟨(zRoomA K g).1, (zRoomA K g).2, rfl, zPreA K hP hS g hT hW⟩)
  exact zs_back (f := f) (t0 := t0) (y := y) K hl hS g hT hp X' hs hy (kk y)
theorem zs_invSN0 {index d' : Nat} {host : String} {μ' : zMu} {t0 : Option β} {f : β → Option α} {ψ : β → Option Value × zM} (As : List Value) (hd : decode μ.2.2.1 pc = .ok (.invokestatic index, 3)) (hL : zLM μ') (hl1 : Cond.methodLinkNest μ.1 index μ'.2.1 host ∈ zT) (hl2 : Cond.static μ'.2.1 ∈ zT) (hn : zLn μ' As.length) (hdd : d' + 1 ≤ d) (hst : st = As.reverse ++ rest) (hr : (rest.map fun v => v.category).sum ≤ 8)
    (hc : ∀ y, t0 = some y → zCt E μ' d' As M (ψ y)) (kk : ∀ y, zSy E μ d M0 tg x0 (f y) (pc + 3) loc ((ψ y).1.toList ++ rest) (ψ y).2) : zSy E μ d M0 tg x0 (t0.bind f) pc loc st M := by
  intro hh
  obtain ⟨y, hv, hy⟩ := Option.bind_eq_some_iff.mp hh
  intro p e R s m args below meth c H locs ls Q K hl hP hS g T hT X
  have hw := K.2.2.2.2.1
  obtain ⟨v, vm₁, B, hW, X', hp, hs⟩ := va_callSN X K.1 (g := F0 m pc ls st) (bytes := μ'.2.2.1) (maxL := μ'.2.2.2.1) (ret := μ'.2.2.2.2) K.2.2.2.1 (hw _ hl1) (hw _ hl2) (hw _ hL.2.1) (hw _ hL.1) hL.2.2.1 (z_back (d := d) (hc y hv) hw hL hdd ⟨K.2.2.2.2.2.2.2.2.2.1.1, K.2.2.2.2.2.2.2.2.2.1.2.1⟩) rfl (hl.1.trans K.2.2.1.symm) (argsL := As) (rest := rest) (zLn_of hn) hst (lv_room hr) (by rw [K.2.1]; exact hd) (fun vm₁ hW => ⟨(zRoomA K g).1, (zRoomA K g).2, rfl, zPreA K hP hS g hT hW⟩)
  exact zs_back (f := f) (t0 := t0) (y := y) K hl hS g hT hp X' hs hy (kk y)
theorem zs_invVN0 {index d' ci a NN : Nat} {host : String} {C : String} {T : u_T} {μ' : zMu} {t0 : Option β} {f : β → Option α} {ψ : β → Option Value × zM} (As : List Value) (hd : decode μ.2.2.1 pc = .ok (.invokevirtual index, 3)) (hL : zLM μ') (hl1 : Cond.methodLinkNest μ.1 index μ'.2.1 host ∈ zT) (hl2 : Cond.instanceMethod μ'.2.1 ∈ zT) (hl3 : Cond.selects C μ'.2.1 μ'.2.1 ∈ lw_tbl) (hcl : vwCl[ci]? = some (C, T, NN)) (h20 : ci < 20) (hth : ∀ y, t0 = some y → a < zS M ∧ kd a = ci) (hn : zLn μ' As.length) (hdd : d' + 1 ≤ d) (hst : st = As.reverse ++ .ref (E.2.2.2.1 + a) :: rest) (hr : (rest.map fun v => v.category).sum ≤ 8)
    (hc : ∀ y, t0 = some y → zCt E μ' d' (.ref (E.2.2.2.1 + a) :: As) M (ψ y)) (kk : ∀ y, zSy E μ d M0 tg x0 (f y) (pc + 3) loc ((ψ y).1.toList ++ rest) (ψ y).2) : zSy E μ d M0 tg x0 (t0.bind f) pc loc st M := by
  intro hh
  obtain ⟨y, hv, hy⟩ := Option.bind_eq_some_iff.mp hh
  intro p e R s m args below meth c H locs ls Q K hl hP hS g T hT X
  have hw := K.2.2.2.2.1
  obtain ⟨cell, k1, k2, k3⟩ := zrecv K.2.2.2.2.2.1 hP hcl h20 (hth y hv)
  obtain ⟨v, vm₁, B, hW, X', hp, hs⟩ := va_callVN X K.1 (g := F0 m pc ls st) (C := C) (bytes := μ'.2.2.1) (maxL := μ'.2.2.2.1) (ret := μ'.2.2.2.2) K.2.2.2.1 (hw _ hl1) (hw _ hl2) (hw _ (zT_in hl3 rfl)) (hw _ hL.1) hL.2.2.1 (z_back (d := d) (hc y hv) hw hL hdd ⟨K.2.2.2.2.2.2.2.2.2.1.1, K.2.2.2.2.2.2.2.2.2.1.2.1⟩) (by rw [hT]; exact k1) k2 k3 rfl (hl.1.trans K.2.2.1.symm) (argsL := As) (rest := rest) (zLn_of hn) hst (lv_room hr) (by rw [K.2.1]; exact hd) (fun vm₁ hW => ⟨(zRoomA K g).1, (zRoomA K g).2, rfl, zPreA K hP hS g hT hW⟩)
  exact zs_back (f := f) (t0 := t0) (y := y) K hl hS g hT hp X' hs hy (kk y)
theorem zs_invIN0 {index d' a : Nat} {host : String} {y' : MethodName} {own' : String} {cc' : ByteArray} {mL' : Nat} {t0 : Option β} {f : β → Option α} {ψ : β → Option Value × zM} (As : List Value) (hd : decode μ.2.2.1 pc = .ok (.invokespecial index, 3)) (hy1 : y'.name = "<init>") (hL : zLM (own', y', cc', mL', none)) (hl1 : Cond.methodLinkNest μ.1 index y' host ∈ zT) (hl2 : Cond.instanceMethod y' ∈ zT) (hn : zLn (own', y', cc', mL', none) As.length) (hdd : d' + 1 ≤ d) (hst : st = As.reverse ++ .ref (E.2.2.2.1 + a) :: rest) (hr : (rest.map fun v => v.category).sum ≤ 8)
    (hc : ∀ y, t0 = some y → zCt E (own', y', cc', mL', none) d' (.ref (E.2.2.2.1 + a) :: As) M (ψ y)) (kk : ∀ y, zSy E μ d M0 tg x0 (f y) (pc + 3) loc ((ψ y).1.toList ++ rest) (ψ y).2) : zSy E μ d M0 tg x0 (t0.bind f) pc loc st M := by
  intro hh
  obtain ⟨y, hv, hy⟩ := Option.bind_eq_some_iff.mp hh
  intro p e R s m args below meth c H locs ls Q K hl hP hS g T hT X
  have hw := K.2.2.2.2.1
  obtain ⟨v, vm₁, B, hW, X', hp, hs⟩ := va_callIN X K.1 (g := F0 m pc ls st) (y := y') (bytes := cc') (maxL := mL') K.2.2.2.1 hy1 (hw _ hl1) (hw _ hl2) (hw _ hL.1) hL.2.2.1 (z_back (d := d) (hc y hv) hw hL hdd ⟨K.2.2.2.2.2.2.2.2.2.1.1, K.2.2.2.2.2.2.2.2.2.1.2.1⟩) rfl (hl.1.trans K.2.2.1.symm) (a := E.2.2.2.1 + a) (argsL := As) (rest := rest) (zLn_of hn) hst (lv_room hr) (by rw [K.2.1]; exact hd) (fun vm₁ hW => ⟨(zRoomA K g).1, (zRoomA K g).2, rfl, zPreA K hP hS g hT hW⟩)
  exact zs_back (f := f) (t0 := t0) (y := y) K hl hS g hT hp X' hs hy (kk y)
/-- A METHOD's CONTRACT out of its run -/
theorem zCt_of {As : List Value} (hy : plainName μ.2.1.cls = true) (hown : μ.1 = μ.2.1.cls) (hn : (lg_sl As).length ≤ μ.2.2.2.1) (ht : t = some x0) (h : zSy E μ d M tg x0 t 0 (lv_args 0 As) [] M) : zCt E μ d As M tg := by
  refine Met.ofW (cc := μ.2.2.1) (maxL := μ.2.2.2.1) (ret := μ.2.2.2.2) hy rfl ?_
  intro p e s m args below meth c s₁ B hml hv
  obtain ⟨rfl, hP, hK, hE, hok, hG⟩ := hv
  have hts := atoms_spec (ws := zWs μ) B.pre
  have hnamed : s.vm.findClass μ.1 = some m.cls := by rw [hown]; exact findClass_of_methodNamed B.named
  have hl := lv_entry As hn
  rw [lg_entry_eq]
  have hr := B.returns
  have hlocks := B.notSynchronized
  have w := h ht p e { frames := d, cells := 600000 - zS M, slots := 7302250 - zU M, locals := 41 * d } s m As.toArray below meth c s.heap [] _ (MQ below (zQ E M tg) As.toArray s (zS tg.2 - zS M) (zU tg.2 - zU M) (zA E)) ⟨B.exec, B.bytes, hml, hnamed, fun w hw => hts w (List.mem_cons_of_mem _ hw), hK, hE, hok, hP.1, ⟨Nat.le_refl _, Nat.le_refl _, rfl, rfl⟩, (fun h => (name_of_methodNamed B.named B.method).1.trans h), ?_⟩ hl hP va_S.rf ⟨Nat.le_refl _, Nat.le_refl _, hG⟩
  · rw [Nat.sub_self, Nat.sub_self] at w
    exact w
  · intro H locs ls pc hR hS g hnar hdg
    have hq : ∀ t : State, t.heap = H → s.WarmedH t.vm → zQ E M tg As.toArray s (.returned tg.1) t := fun t ht hW => ⟨rfl, ht ▸ hR, g, hS.F ht⟩
    obtain ⟨v, M'⟩ := tg
    dsimp only at hq hdg hnar ⊢
    cases v with
    | none =>
      cases hre : μ.2.2.2.2 with
      | none => exact W.vret B.exec B.bytes (hr.trans hre) hq hS.2.2 hdg
      | some ty => rw [hre] at hnar; cases ty <;> exact hnar.elim
    | some v =>
      cases hre : μ.2.2.2.2 with
      | none => rw [hre] at hnar; exact hnar.elim
      | some ty =>
        rw [hre] at hnar
        cases v with
        | int v =>
          have hn2 : narrow ty (.int v) = .int v := by cases ty <;> exact hnar
          exact W.zret B.exec B.bytes (hr.trans hre) hn2 hq hS.2.2 hdg
        | long v => cases ty <;> first | exact hnar.elim | exact W.lret B.exec B.bytes (hr.trans hre) hq hS.2.2 hdg
        | float v => cases ty <;> first | exact hnar.elim | exact W.fret B.exec B.bytes (hr.trans hre) hq hS.2.2 hdg
        | ref v => cases ty <;> first | exact hnar.elim | exact W.aret B.exec B.bytes (hr.trans hre) (Or.inr ⟨_, rfl⟩) (Or.inr ⟨_, rfl⟩) hq hS.2.2 hdg
        | _ => cases ty <;> exact hnar.elim
/-- RETURNS -/
theorem zs_ret {v : Option Value} (hd : decode μ.2.2.1 pc = .ok (zRi v, 1)) (hn : zNar μ.2.2.2.2 v) (h : t = some x0 → tg = (v, M)) : zSy E μ d M0 tg x0 t pc loc v.toList M := by
  intro hh p e R s m args below meth c H locs ls Q K hl hP hS g
  have e1 := h hh
  subst e1
  exact K.2.2.2.2.2.2.2.2.2.2.2 H locs ls pc hP hS g hn hd
end ZC

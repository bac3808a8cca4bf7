/-! ===== A method that runs as a function tells: zSy t pc loc st M: if the function's rest t answers x0, the machine, at pc with these locals, this stack and this memory, comes to the end that tg tells ===== -/
/-- own class, name, code, locals, what it returns -/
abbrev zMu : Type := String × MethodName × ByteArray × Nat × Option FieldType
/-- the words of the tables that every method is handed -/
def zgood : Cond → Bool
  | .methodLinkNest _ _ _ _ => true
  | w => goodWord w
def zT : List Cond := lw_tbl.filter zgood
theorem zT_in {w : Cond} (h : w ∈ lw_tbl) (hg : zgood w = true) : w ∈ zT := List.mem_filter.mpr ⟨h, hg⟩
theorem zT_good (w : Cond) (h : w ∈ zT) : zgood w = true := (List.mem_filter.mp h).2
theorem zT_move {w : Cond} {args a' : Array Value} {s U : State} (h : zgood w = true) (hW : s.WarmedH U.vm) (hb : w.before args s = true) : w.before a' U = true := by
  unfold zgood at h
  split at h
  · exact va_Nw.use rfl (va_Nw.warmM hW (va_Nw.of rfl hb))
  · exact word_at hW (good_of_word h) hb
def zWs (μ : zMu) : List Cond := .code μ.2.1 μ.2.2.1 μ.2.2.2.1 μ.2.2.2.2 :: zT
/-- an answer of the type that is declared, as narrow as that -/
def zNar : Option FieldType → Option Value → Prop
  | none, none => True
  | some ty, some (.int v) => narrow ty (.int v) = .int v
  | some .long, some (.long _) => True
  | some .float, some (.float _) => True
  | some (.array _), some (.ref _) => True
  | _, _ => False
def zRi : Option Value → Instr
  | none => .return_
  | some (.long _) => .lreturn
  | some (.float _) => .freturn
  | some (.ref _) => .areturn
  | _ => .ireturn
def zPre (E : zEnv) (M : zM) (U : State) : Prop := zRep E M U.heap ∧ va_K E.2.1 vwCl (zTy E) U ∧ E.2.2.2.2.1 U U.heap ∧ zPok E ∧ zS M ≤ 600000 ∧ zU M ≤ 7302250
/-- where the run stands: this much of the memory was there at the method's start, this much is there now -/
abbrev zG (M0 M : zM) : Prop := zS M0 ≤ zS M ∧ zU M0 ≤ zU M ∧ zS M ≤ 600000 ∧ zU M ≤ 7302250
def zQ (E : zEnv) (M : zM) (tg : Option Value × zM) : Array Value → State → Outcome → State → Prop := fun _ st o t => o = .returned tg.1 ∧ zRep E tg.2 t.heap ∧ zG M tg.2 ∧ va_F (zA E) st t
/-- THE CONTRACT: from the memory M, with these arguments, the method comes to tg -/
def zCt (E : zEnv) (μ : zMu) (d : Nat) (As : List Value) (M : zM) (tg : Option Value × zM) : Prop :=
  Met E.1 μ.2.1 (zWs μ) { frames := d, cells := 600000 - zS M, slots := 7302250 - zU M, locals := 41 * d } (fun v U => v = As.toArray ∧ zPre E M U) (zQ E M tg) (zS tg.2 - zS M) (zU tg.2 - zU M) (zA E)
/-- what is at hand all along a method's run -/
def zCF (E : zEnv) (μ : zMu) (d : Nat) (M0 : zM) (tg : Option Value × zM) (p : Program) (e : Env) (R : Room) (s : State) (m : MethodId) (args : Array Value) (below : List Frame) (meth : Method) (c : Code) (Q : State → Prop) : Prop :=
  p.tables.exec = Jvm.exec ∧ c.code = μ.2.2.1 ∧ c.maxLocals = μ.2.2.2.1 ∧ s.vm.findClass μ.1 = some m.cls ∧ (∀ w ∈ zT, w.before args s = true) ∧ va_K E.2.1 vwCl (zTy E) s ∧ E.2.2.2.2.1 s s.heap ∧ zPok E ∧ s.heap.size = E.2.2.2.1 + zS M0 ∧
  (d ≤ R.frames ∧ 41 * d ≤ R.locals ∧ R.cells = 600000 - zS M0 ∧ R.slots = 7302250 - zU M0) ∧ (μ.2.1.name = "<init>" → meth.name = "<init>") ∧
  ∀ (H : Heap) (locs : List Loc) (ls : Array Slot) (pc : Nat), zRep E tg.2 H → va_S (zA E) s.heap H locs → zG M0 tg.2 → zNar μ.2.2.2.2 tg.1 → decode μ.2.2.1 pc = .ok (zRi tg.1, 1) → W p E.1 e R s m args below meth c H locs (zS tg.2 - zS M0) (zU tg.2 - zU M0) Q (F0 m pc ls tg.1.toList)
def zWp (E : zEnv) (μ : zMu) (d : Nat) (M0 : zM) (tg : Option Value × zM) (pc : Nat) (loc : List (Nat × Value)) (st : List Value) (M : zM) : Prop :=
  ∀ (p : Program) (e : Env) (R : Room) (s : State) (m : MethodId) (args : Array Value) (below : List Frame) (meth : Method) (c : Code) (H : Heap) (locs : List Loc) (ls : Array Slot) (Q : State → Prop),
    zCF E μ d M0 tg p e R s m args below meth c Q → lv_has ls μ.2.2.2.1 loc → zRep E M H → va_S (zA E) s.heap H locs → zG M0 M → W p E.1 e R s m args below meth c H locs (zS M - zS M0) (zU M - zU M0) Q (F0 m pc ls st)
def zSy (E : zEnv) (μ : zMu) (d : Nat) (M0 : zM) (tg : Option Value × zM) {α : Type} (x0 : α) (t : Option α) (pc : Nat) (loc : List (Nat × Value)) (st : List Value) (M : zM) : Prop := t = some x0 → zWp E μ d M0 tg pc loc st M
/-- a let that is seen -/
def lett {α β : Type} (e : α) (f : α → β) : β := f e
/-- a place where two ways meet -/
def zjn {α : Type} {β : Type} (r : α) (b : α → β) : β := b r
def zthis {α : Type} (c : Nat) (M : zM) (a : Nat) (t : Option α) : Option α := if a < zS M ∧ kd a = c then t else none
theorem zthis_of {α : Type} {c : Nat} {M : zM} {a : Nat} {t : Option α} {x : α} (h : zthis c M a t = some x) : a < zS M ∧ kd a = c := by
  unfold zthis at h
  split at h
  · assumption
  · cases h
theorem zthis_in {α : Type} {c : Nat} {M : zM} {a : Nat} {t : Option α} {x : α} (h : zthis c M a t = some x) : t = some x := by
  unfold zthis at h
  split at h
  · exact h
  · cases h
def zgI (c : Nat) (M : zM) (a k : Nat) : Option Int32 := if a < zS M ∧ kd a = c then some (zI M a k) else none
def zgR (c : Nat) (M : zM) (a k : Nat) : Option Nat := if a < zS M ∧ kd a = c then zR M a k else none
def zpI (c : Nat) (M : zM) (a k : Nat) (v : Int32) : Option zM := if a < zS M ∧ kd a = c then some (zsI M a k v) else none
def zpR (c : Nat) (M : zM) (a k b : Nat) : Option zM := if a < zS M ∧ kd a = c then some (zsR M a k (some b)) else none
def zlI (c : Nat) (M : zM) (a : Nat) (i : Int32) : Option Int32 := if a < zS M ∧ kd a = c ∧ ¬ (i < 0 ∨ zL M a ≤ i.toNatClampNeg) then some (zI M a i.toNatClampNeg) else none
def zlJ (M : zM) (a : Nat) (i : Int32) : Option Int64 := if a < zS M ∧ kd a = 101 ∧ ¬ (i < 0 ∨ zL M a ≤ i.toNatClampNeg) then some (zJ M a i.toNatClampNeg) else none
def zlR (M : zM) (a : Nat) (i : Int32) : Option Nat := if a < zS M ∧ kd a = 104 ∧ ¬ (i < 0 ∨ zL M a ≤ i.toNatClampNeg) then zR M a i.toNatClampNeg else none
def ztI (M : zM) (a : Nat) (i v : Int32) : Option zM := if a < zS M ∧ kd a = 100 ∧ ¬ (i < 0 ∨ zL M a ≤ i.toNatClampNeg) then some (zsI M a i.toNatClampNeg v) else none
def ztB (M : zM) (a : Nat) (i v : Int32) : Option zM := if a < zS M ∧ kd a = 102 ∧ ¬ (i < 0 ∨ zL M a ≤ i.toNatClampNeg) then some (zsI M a i.toNatClampNeg (vp_nar .byte v)) else none
def ztZ (M : zM) (a : Nat) (i v : Int32) : Option zM := if a < zS M ∧ kd a = 103 ∧ ¬ (i < 0 ∨ zL M a ≤ i.toNatClampNeg) then some (zsI M a i.toNatClampNeg (vp_nar .boolean v)) else none
def ztJ (M : zM) (a : Nat) (i : Int32) (v : Int64) : Option zM := if a < zS M ∧ kd a = 101 ∧ ¬ (i < 0 ∨ zL M a ≤ i.toNatClampNeg) then some (zsJ M a i.toNatClampNeg v) else none
def zln (M : zM) (a : Nat) : Option Int32 := if a < zS M ∧ 100 ≤ kd a ∧ kd a ≤ 104 then some (Int32.ofNat (zL M a)) else none
def zdv (x y : Int32) : Option Int32 := if y = 0 then none else some (x / y)
def zrm (x y : Int32) : Option Int32 := if y = 0 then none else some (x - x / y * y)
def zdvL (x y : Int64) : Option Int64 := if y = 0 then none else some (x / y)
def zrmL (x y : Int64) : Option Int64 := if y = 0 then none else some (x - x / y * y)
def zb (v : Int32) : Option Int32 := if v = 0 ∨ v = 1 then some v else none
def zfl (v : UInt32) : Option UInt32 := if v &&& 0x7fffffff ≤ 0x7f800000 then some v else none
/-- an array copied in part: System.arraycopy -/
def zcp (c : Nat) (M : zM) (a : Nat) (sp : Int32) (b : Nat) (dp n : Int32) : Option zM :=
  if (a < zS M ∧ kd a = c) ∧ (b < zS M ∧ kd b = c) ∧ (¬ sp < 0 ∧ ¬ dp < 0 ∧ ¬ n < 0) ∧ sp.toNatClampNeg + n.toNatClampNeg ≤ zL M a ∧ dp.toNatClampNeg + n.toNatClampNeg ≤ zL M b then some (if c = 101 then zcpJ M a sp.toNatClampNeg b dp.toNatClampNeg n.toNatClampNeg else zcpI M a sp.toNatClampNeg b dp.toNatClampNeg n.toNatClampNeg) else none
/-- a new array, a new object: which cell it is, the memory then -/
def zna (c : Nat) (M : zM) (n : Int32) : Option (Nat × zM) := if kd (zS M) = c ∧ ¬ n < 0 ∧ n.toNatClampNeg ≤ 100000 ∧ zS M + 1 ≤ 600000 ∧ zU M + n.toNatClampNeg ≤ 7302250 then some (zS M, znew M n.toNatClampNeg n.toNatClampNeg) else none
def zno (c : Nat) (M : zM) : Option (Nat × zM) := if kd (zS M) = c ∧ zS M + 1 ≤ 600000 ∧ zU M + (zf c).length ≤ 7302250 then some (zS M, znew M 0 (zf c).length) else none

/-! the texts: "points" 0, "line" 1, "cross" 2, "turn" 3, "swing" 4, " points line cross turn swing " 5 -/
def zsT : List (List Int32) := [[112, 111, 105, 110, 116, 115], [108, 105, 110, 101], [99, 114, 111, 115, 115], [116, 117, 114, 110], [115, 119, 105, 110, 103], [32, 112, 111, 105, 110, 116, 115, 32, 108, 105, 110, 101, 32, 99, 114, 111, 115, 115, 32, 116, 117, 114, 110, 32, 115, 119, 105, 110, 103, 32]]
def zsN : List Nat := [6, 4, 5, 4, 5, 30]
def zsRl : List (String × Nat × String) := [("ChordWords$Reader", 83, "points"), ("ChordWords$Reader", 91, "line"), ("ChordWords$Reader", 97, "cross"), ("ChordWords$Reader", 102, "turn"), ("ChordWords$Reader", 107, "swing"), ("ChordWordsModel", 163, " points line cross turn swing ")]
def zsl (j : Nat) : Option Int32 := if j < 6 then some (Int32.ofNat (zsN.getD j 0)) else none
def zsc (j : Nat) (i : Int32) : Option Int32 := if j < 6 ∧ ¬ (i < 0 ∨ zsN.getD j 0 ≤ i.toNatClampNeg) then some ((zsT.getD j []).getD i.toNatClampNeg 0) else none
/-- what the cells ahead of the memory hold: the texts, two statics of the JDK -/
def zEok (E : zEnv) : Prop := ∃ adV : Nat → Nat, ∀ (U : State) (H : Heap), E.2.2.2.2.1 U H →
  vk_S 6 zsN zsT E.2.2.2.2.2 adV (zA E) U H ∧ va_Z "java/lang/String" "COMPACT_STRINGS" "Z" (.int 1) (zA E) U H ∧ va_Zq "jdk/internal/util/Preconditions" "SIOOBE_FORMATTER" "Ljava/util/function/BiFunction;" (zA E) U H ∧ (∀ (j : Nat) (r : String × Nat × String), zsRl[j]? = some r → vk_R r.1 r.2.1 r.2.2 (E.2.2.2.2.2 j) U) ∧ (Cond.arrayOver (.array .int)).before #[] U = true
section ZT
variable {E : zEnv} {μ : zMu} {d : Nat} {M0 : zM} {tg : Option Value × zM} {α β : Type} {x0 : α} {t : Option α} {pc : Nat} {loc : List (Nat × Value)} {st rest : List Value} {M : zM}
theorem zs_ldcS {index : Nat} {tx : String} (hE : zEok E) (j : Nat) (hj : zsRl[j]? = some (μ.1, index, tx)) (hd : decode μ.2.2.1 pc = .ok (.ldc index, 2)) (k : zSy E μ d M0 tg x0 t (pc + 2) loc (.ref (E.2.2.2.2.2 j) :: st) M) : zSy E μ d M0 tg x0 t pc loc st M := by
  obtain ⟨adV, hE⟩ := hE
  intro hh p e R s m args below meth c H locs ls Q K hl hP hS g
  exact va_ldcS K.1 K.2.1 K.2.2.2.1 ((hE s s.heap K.2.2.2.2.2.2.1).2.2.2.1 j _ hj) hd (k hh p e R s m args below meth c H locs ls Q K hl hP hS g)
end ZT
/-! ===== the short forms that the printed runs use ===== -/
def FU : Nat := 1000000000
def FD : Nat := 20
section ZP
variable {E : zEnv} {μ : zMu} {d : Nat} {M0 : zM} {tg : Option Value × zM} {α β : Type} {x0 : α} {t : Option α} {pc : Nat} {loc : List (Nat × Value)} {st rest : List Value} {M : zM}
theorem zs_aretW {v : Nat} {x0 : Nat × zM} (hd : decode μ.2.2.1 pc = .ok (.areturn, 1)) (hn : zNar μ.2.2.2.2 (some (.ref (E.2.2.2.1 + v)))) : zSy E μ d M0 (some (.ref (E.2.2.2.1 + x0.1)), x0.2) x0 (some (v, M)) pc loc [.ref (E.2.2.2.1 + v)] M := zs_ret (v := some (.ref (E.2.2.2.1 + v))) hd hn (fun h => by cases h; rfl)
theorem zs_none : zSy E μ d M0 tg x0 (none : Option α) pc loc st M := fun h => by cases h
theorem zs_this {c a : Nat} (k : a < zS M ∧ kd a = c → zSy E μ d M0 tg x0 t pc loc st M) : zSy E μ d M0 tg x0 (zthis c M a t) pc loc st M := fun h => k (zthis_of h) (zthis_in h)
theorem zs_iretP {v x0 : Int32} (hd : decode μ.2.2.1 pc = .ok (.ireturn, 1)) (hn : zNar μ.2.2.2.2 (some (.int v))) : zSy E μ d M0 (some (.int x0), M) x0 (some v) pc loc [.int v] M := zs_ret (v := some (.int v)) hd hn (fun h => by cases h; rfl)
theorem zs_iretW {v : Int32} {x0 : Int32 × zM} (hd : decode μ.2.2.1 pc = .ok (.ireturn, 1)) (hn : zNar μ.2.2.2.2 (some (.int v))) : zSy E μ d M0 (some (.int x0.1), x0.2) x0 (some (v, M)) pc loc [.int v] M := zs_ret (v := some (.int v)) hd hn (fun h => by cases h; rfl)
theorem zs_lretP {v x0 : Int64} (hd : decode μ.2.2.1 pc = .ok (.lreturn, 1)) (hn : zNar μ.2.2.2.2 (some (.long v))) : zSy E μ d M0 (some (.long x0), M) x0 (some v) pc loc [.long v] M := zs_ret (v := some (.long v)) hd hn (fun h => by cases h; rfl)
theorem zs_lretW {v : Int64} {x0 : Int64 × zM} (hd : decode μ.2.2.1 pc = .ok (.lreturn, 1)) (hn : zNar μ.2.2.2.2 (some (.long v))) : zSy E μ d M0 (some (.long x0.1), x0.2) x0 (some (v, M)) pc loc [.long v] M := zs_ret (v := some (.long v)) hd hn (fun h => by cases h; rfl)
theorem zs_fretP {v x0 : UInt32} (hd : decode μ.2.2.1 pc = .ok (.freturn, 1)) (hn : zNar μ.2.2.2.2 (some (.float v))) : zSy E μ d M0 (some (.float x0), M) x0 (some v) pc loc [.float v] M := zs_ret (v := some (.float v)) hd hn (fun h => by cases h; rfl)
theorem zs_vret {x0 : zM} (hd : decode μ.2.2.1 pc = .ok (.return_, 1)) (hn : zNar μ.2.2.2.2 none) : zSy E μ d M0 (none, x0) x0 (some M) pc loc [] M := zs_ret (v := none) hd hn (fun h => by cases h; rfl)
theorem zNarB {v : Int32} (h : v = 0 ∨ v = 1) : narrow .boolean (.int v) = .int v := by rcases h with rfl | rfl <;> rfl
theorem zs_zretP {v x0 : Int32} (hd : decode μ.2.2.1 pc = .ok (.ireturn, 1)) (hn : μ.2.2.2.2 = some .boolean) : zSy E μ d M0 (some (.int x0), M) x0 (zb v) pc loc [.int v] M := by
  intro hh
  unfold zb at hh
  split at hh
  case isFalse => cases hh
  case isTrue hc => exact zs_iretP hd (by rw [hn]; exact zNarB hc) hh
theorem zs_zretW {v : Int32} {x0 : Int32 × zM} (hd : decode μ.2.2.1 pc = .ok (.ireturn, 1)) (hn : μ.2.2.2.2 = some .boolean) : zSy E μ d M0 (some (.int x0.1), x0.2) x0 ((zb v).bind fun r => some (r, M)) pc loc [.int v] M := by
  intro hh
  obtain ⟨y, hy, hh⟩ := Option.bind_eq_some_iff.mp hh
  unfold zb at hy
  split at hy
  case isFalse => cases hy
  case isTrue hc =>
    cases hy
    exact zs_iretW hd (by rw [hn]; exact zNarB hc) hh
theorem zdl {a m d : Nat} (h : Nat.ble (a + 1) m = true) (hd : m ≤ d) : a ≤ d - 1 := by have := Nat.le_of_ble_eq_true h; omega
theorem zd1 {m d : Nat} (h : Nat.ble 1 m = true) (hd : m ≤ d) : d - 1 + 1 ≤ d := by have := Nat.le_of_ble_eq_true h; omega
theorem zd0 {a m d : Nat} (h : Nat.ble a m = true) (hd : m ≤ d) : a ≤ d := Nat.le_trans (Nat.le_of_ble_eq_true h) hd
/-- what the tables say of a call -/
def zKS (own : String) (index : Nat) (μ' : zMu) (n : Nat) : Prop := zLM μ' ∧ Cond.methodLink own index μ'.2.1 ∈ zT ∧ Cond.static μ'.2.1 ∈ zT ∧ zLn μ' n
def zKSN (own : String) (index : Nat) (μ' : zMu) (n : Nat) (host : String) : Prop := zLM μ' ∧ Cond.methodLinkNest own index μ'.2.1 host ∈ zT ∧ Cond.static μ'.2.1 ∈ zT ∧ zLn μ' n
def zKV (own : String) (index : Nat) (μ' : zMu) (n ci : Nat) : Prop := zLM μ' ∧ Cond.methodLink own index μ'.2.1 ∈ zT ∧ Cond.instanceMethod μ'.2.1 ∈ zT ∧ (∃ (C : String) (T : u_T) (NN : Nat), vwCl[ci]? = some (C, T, NN) ∧ Cond.selects C μ'.2.1 μ'.2.1 ∈ lw_tbl) ∧ ci < 20 ∧ zLn μ' n
def zKI (own : String) (index : Nat) (y' : MethodName) (own' : String) (cc' : ByteArray) (mL' n : Nat) (host : Option String) : Prop := y'.name = "<init>" ∧ zLM (own', y', cc', mL', none) ∧ (match host with | none => Cond.methodLink own index y' ∈ zT | some h => Cond.methodLinkNest own index y' h ∈ zT) ∧ Cond.instanceMethod y' ∈ zT ∧ zLn (own', y', cc', mL', none) n
theorem zs_invSPI {index d' n : Nat} {μ' : zMu} {t0 : Option (Int32)} {f : Int32 → Option α} (As : List Value) (hd : decode μ.2.2.1 pc = .ok (.invokestatic index, 3)) (L : zKS μ.1 index μ' n) (hn : n = As.length) (hdd : d' + 1 ≤ d) (hst : st = As.reverse ++ rest) (hr : (rest.map fun v => v.category).sum ≤ 8) (hc : ∀ y : Int32, t0 = some y → zCt E μ' d' As M (some (.int y), M))
    (kk : ∀ y : Int32, zSy E μ d M0 tg x0 (f y) (pc + 3) loc (.int y :: rest) M) : zSy E μ d M0 tg x0 (t0.bind f) pc loc st M :=
  zs_invS0 (ψ := fun y : Int32 => (some (.int y), M)) As hd L.1 L.2.1 L.2.2.1 (hn ▸ L.2.2.2) hdd hst hr hc (fun y => kk y)
theorem zs_invSNPI {index d' n : Nat} {host : String} {μ' : zMu} {t0 : Option (Int32)} {f : Int32 → Option α} (As : List Value) (hd : decode μ.2.2.1 pc = .ok (.invokestatic index, 3)) (L : zKSN μ.1 index μ' n host) (hn : n = As.length) (hdd : d' + 1 ≤ d) (hst : st = As.reverse ++ rest) (hr : (rest.map fun v => v.category).sum ≤ 8) (hc : ∀ y : Int32, t0 = some y → zCt E μ' d' As M (some (.int y), M))
    (kk : ∀ y : Int32, zSy E μ d M0 tg x0 (f y) (pc + 3) loc (.int y :: rest) M) : zSy E μ d M0 tg x0 (t0.bind f) pc loc st M :=
  zs_invSN0 (ψ := fun y : Int32 => (some (.int y), M)) As hd L.1 L.2.1 L.2.2.1 (hn ▸ L.2.2.2) hdd hst hr hc (fun y => kk y)
theorem zs_invVPI {index d' n ci a : Nat} {μ' : zMu} {t0 : Option (Int32)} {f : Int32 → Option α} (As : List Value) (hd : decode μ.2.2.1 pc = .ok (.invokevirtual index, 3)) (L : zKV μ.1 index μ' n ci) (hn : n = As.length) (hth : ∀ y, t0 = some y → a < zS M ∧ kd a = ci) (hdd : d' + 1 ≤ d) (hst : st = As.reverse ++ .ref (E.2.2.2.1 + a) :: rest) (hr : (rest.map fun v => v.category).sum ≤ 8) (hc : ∀ y : Int32, t0 = some y → zCt E μ' d' (.ref (E.2.2.2.1 + a) :: As) M (some (.int y), M))
    (kk : ∀ y : Int32, zSy E μ d M0 tg x0 (f y) (pc + 3) loc (.int y :: rest) M) : zSy E μ d M0 tg x0 (t0.bind f) pc loc st M := by
  obtain ⟨C, T, NN, h1, h2⟩ := L.2.2.2.1
  exact zs_invV0 (ψ := fun y : Int32 => (some (.int y), M)) As hd L.1 L.2.1 L.2.2.1 h2 h1 L.2.2.2.2.1 hth (hn ▸ L.2.2.2.2.2) hdd hst hr hc (fun y => kk y)
theorem zs_invSPJ {index d' n : Nat} {μ' : zMu} {t0 : Option (Int64)} {f : Int64 → Option α} (As : List Value) (hd : decode μ.2.2.1 pc = .ok (.invokestatic index, 3)) (L : zKS μ.1 index μ' n) (hn : n = As.length) (hdd : d' + 1 ≤ d) (hst : st = As.reverse ++ rest) (hr : (rest.map fun v => v.category).sum ≤ 8) (hc : ∀ y : Int64, t0 = some y → zCt E μ' d' As M (some (.long y), M))
    (kk : ∀ y : Int64, zSy E μ d M0 tg x0 (f y) (pc + 3) loc (.long y :: rest) M) : zSy E μ d M0 tg x0 (t0.bind f) pc loc st M :=
  zs_invS0 (ψ := fun y : Int64 => (some (.long y), M)) As hd L.1 L.2.1 L.2.2.1 (hn ▸ L.2.2.2) hdd hst hr hc (fun y => kk y)
theorem zs_invSNPJ {index d' n : Nat} {host : String} {μ' : zMu} {t0 : Option (Int64)} {f : Int64 → Option α} (As : List Value) (hd : decode μ.2.2.1 pc = .ok (.invokestatic index, 3)) (L : zKSN μ.1 index μ' n host) (hn : n = As.length) (hdd : d' + 1 ≤ d) (hst : st = As.reverse ++ rest) (hr : (rest.map fun v => v.category).sum ≤ 8) (hc : ∀ y : Int64, t0 = some y → zCt E μ' d' As M (some (.long y), M))
    (kk : ∀ y : Int64, zSy E μ d M0 tg x0 (f y) (pc + 3) loc (.long y :: rest) M) : zSy E μ d M0 tg x0 (t0.bind f) pc loc st M :=
  zs_invSN0 (ψ := fun y : Int64 => (some (.long y), M)) As hd L.1 L.2.1 L.2.2.1 (hn ▸ L.2.2.2) hdd hst hr hc (fun y => kk y)
theorem zs_invVPJ {index d' n ci a : Nat} {μ' : zMu} {t0 : Option (Int64)} {f : Int64 → Option α} (As : List Value) (hd : decode μ.2.2.1 pc = .ok (.invokevirtual index, 3)) (L : zKV μ.1 index μ' n ci) (hn : n = As.length) (hth : ∀ y, t0 = some y → a < zS M ∧ kd a = ci) (hdd : d' + 1 ≤ d) (hst : st = As.reverse ++ .ref (E.2.2.2.1 + a) :: rest) (hr : (rest.map fun v => v.category).sum ≤ 8) (hc : ∀ y : Int64, t0 = some y → zCt E μ' d' (.ref (E.2.2.2.1 + a) :: As) M (some (.long y), M))
    (kk : ∀ y : Int64, zSy E μ d M0 tg x0 (f y) (pc + 3) loc (.long y :: rest) M) : zSy E μ d M0 tg x0 (t0.bind f) pc loc st M := by
  obtain ⟨C, T, NN, h1, h2⟩ := L.2.2.2.1
  exact zs_invV0 (ψ := fun y : Int64 => (some (.long y), M)) As hd L.1 L.2.1 L.2.2.1 h2 h1 L.2.2.2.2.1 hth (hn ▸ L.2.2.2.2.2) hdd hst hr hc (fun y => kk y)
theorem zs_invSPF {index d' n : Nat} {μ' : zMu} {t0 : Option (UInt32)} {f : UInt32 → Option α} (As : List Value) (hd : decode μ.2.2.1 pc = .ok (.invokestatic index, 3)) (L : zKS μ.1 index μ' n) (hn : n = As.length) (hdd : d' + 1 ≤ d) (hst : st = As.reverse ++ rest) (hr : (rest.map fun v => v.category).sum ≤ 8) (hc : ∀ y : UInt32, t0 = some y → zCt E μ' d' As M (some (.float y), M))
    (kk : ∀ y : UInt32, zSy E μ d M0 tg x0 (f y) (pc + 3) loc (.float y :: rest) M) : zSy E μ d M0 tg x0 (t0.bind f) pc loc st M :=
  zs_invS0 (ψ := fun y : UInt32 => (some (.float y), M)) As hd L.1 L.2.1 L.2.2.1 (hn ▸ L.2.2.2) hdd hst hr hc (fun y => kk y)
theorem zs_invSNPF {index d' n : Nat} {host : String} {μ' : zMu} {t0 : Option (UInt32)} {f : UInt32 → Option α} (As : List Value) (hd : decode μ.2.2.1 pc = .ok (.invokestatic index, 3)) (L : zKSN μ.1 index μ' n host) (hn : n = As.length) (hdd : d' + 1 ≤ d) (hst : st = As.reverse ++ rest) (hr : (rest.map fun v => v.category).sum ≤ 8) (hc : ∀ y : UInt32, t0 = some y → zCt E μ' d' As M (some (.float y), M))
    (kk : ∀ y : UInt32, zSy E μ d M0 tg x0 (f y) (pc + 3) loc (.float y :: rest) M) : zSy E μ d M0 tg x0 (t0.bind f) pc loc st M :=
  zs_invSN0 (ψ := fun y : UInt32 => (some (.float y), M)) As hd L.1 L.2.1 L.2.2.1 (hn ▸ L.2.2.2) hdd hst hr hc (fun y => kk y)
theorem zs_invVPF {index d' n ci a : Nat} {μ' : zMu} {t0 : Option (UInt32)} {f : UInt32 → Option α} (As : List Value) (hd : decode μ.2.2.1 pc = .ok (.invokevirtual index, 3)) (L : zKV μ.1 index μ' n ci) (hn : n = As.length) (hth : ∀ y, t0 = some y → a < zS M ∧ kd a = ci) (hdd : d' + 1 ≤ d) (hst : st = As.reverse ++ .ref (E.2.2.2.1 + a) :: rest) (hr : (rest.map fun v => v.category).sum ≤ 8) (hc : ∀ y : UInt32, t0 = some y → zCt E μ' d' (.ref (E.2.2.2.1 + a) :: As) M (some (.float y), M))
    (kk : ∀ y : UInt32, zSy E μ d M0 tg x0 (f y) (pc + 3) loc (.float y :: rest) M) : zSy E μ d M0 tg x0 (t0.bind f) pc loc st M := by
  obtain ⟨C, T, NN, h1, h2⟩ := L.2.2.2.1
  exact zs_invV0 (ψ := fun y : UInt32 => (some (.float y), M)) As hd L.1 L.2.1 L.2.2.1 h2 h1 L.2.2.2.2.1 hth (hn ▸ L.2.2.2.2.2) hdd hst hr hc (fun y => kk y)
theorem zs_invSWA {index d' n : Nat} {μ' : zMu} {t0 : Option (Nat × zM)} {f : Nat → zM → Option α} (As : List Value) (hd : decode μ.2.2.1 pc = .ok (.invokestatic index, 3)) (L : zKS μ.1 index μ' n) (hn : n = As.length) (hdd : d' + 1 ≤ d) (hst : st = As.reverse ++ rest) (hr : (rest.map fun v => v.category).sum ≤ 8) (hc : ∀ y : Nat × zM, t0 = some y → zCt E μ' d' As M (some (.ref (E.2.2.2.1 + y.1)), y.2))
    (kk : ∀ (r : Nat) (M1 : zM), zSy E μ d M0 tg x0 (f r M1) (pc + 3) loc (.ref (E.2.2.2.1 + r) :: rest) M1) : zSy E μ d M0 tg x0 (t0.bind fun y => zpp y f) pc loc st M :=
  zs_invS0 (ψ := fun y : Nat × zM => (some (.ref (E.2.2.2.1 + y.1)), y.2)) As hd L.1 L.2.1 L.2.2.1 (hn ▸ L.2.2.2) hdd hst hr hc (fun y => kk y.1 y.2)
theorem zs_invSWI {index d' n : Nat} {μ' : zMu} {t0 : Option (Int32 × zM)} {f : Int32 → zM → Option α} (As : List Value) (hd : decode μ.2.2.1 pc = .ok (.invokestatic index, 3)) (L : zKS μ.1 index μ' n) (hn : n = As.length) (hdd : d' + 1 ≤ d) (hst : st = As.reverse ++ rest) (hr : (rest.map fun v => v.category).sum ≤ 8) (hc : ∀ y : Int32 × zM, t0 = some y → zCt E μ' d' As M (some (.int y.1), y.2))
    (kk : ∀ (r : Int32) (M1 : zM), zSy E μ d M0 tg x0 (f r M1) (pc + 3) loc (.int r :: rest) M1) : zSy E μ d M0 tg x0 (t0.bind fun y => zpp y f) pc loc st M :=
  zs_invS0 (ψ := fun y : Int32 × zM => (some (.int y.1), y.2)) As hd L.1 L.2.1 L.2.2.1 (hn ▸ L.2.2.2) hdd hst hr hc (fun y => kk y.1 y.2)
theorem zs_invSNWI {index d' n : Nat} {host : String} {μ' : zMu} {t0 : Option (Int32 × zM)} {f : Int32 → zM → Option α} (As : List Value) (hd : decode μ.2.2.1 pc = .ok (.invokestatic index, 3)) (L : zKSN μ.1 index μ' n host) (hn : n = As.length) (hdd : d' + 1 ≤ d) (hst : st = As.reverse ++ rest) (hr : (rest.map fun v => v.category).sum ≤ 8) (hc : ∀ y : Int32 × zM, t0 = some y → zCt E μ' d' As M (some (.int y.1), y.2))
    (kk : ∀ (r : Int32) (M1 : zM), zSy E μ d M0 tg x0 (f r M1) (pc + 3) loc (.int r :: rest) M1) : zSy E μ d M0 tg x0 (t0.bind fun y => zpp y f) pc loc st M :=
  zs_invSN0 (ψ := fun y : Int32 × zM => (some (.int y.1), y.2)) As hd L.1 L.2.1 L.2.2.1 (hn ▸ L.2.2.2) hdd hst hr hc (fun y => kk y.1 y.2)
theorem zs_invVWI {index d' n ci a : Nat} {μ' : zMu} {t0 : Option (Int32 × zM)} {f : Int32 → zM → Option α} (As : List Value) (hd : decode μ.2.2.1 pc = .ok (.invokevirtual index, 3)) (L : zKV μ.1 index μ' n ci) (hn : n = As.length) (hth : ∀ y, t0 = some y → a < zS M ∧ kd a = ci) (hdd : d' + 1 ≤ d) (hst : st = As.reverse ++ .ref (E.2.2.2.1 + a) :: rest) (hr : (rest.map fun v => v.category).sum ≤ 8) (hc : ∀ y : Int32 × zM, t0 = some y → zCt E μ' d' (.ref (E.2.2.2.1 + a) :: As) M (some (.int y.1), y.2))
    (kk : ∀ (r : Int32) (M1 : zM), zSy E μ d M0 tg x0 (f r M1) (pc + 3) loc (.int r :: rest) M1) : zSy E μ d M0 tg x0 (t0.bind fun y => zpp y f) pc loc st M := by
  obtain ⟨C, T, NN, h1, h2⟩ := L.2.2.2.1
  exact zs_invV0 (ψ := fun y : Int32 × zM => (some (.int y.1), y.2)) As hd L.1 L.2.1 L.2.2.1 h2 h1 L.2.2.2.2.1 hth (hn ▸ L.2.2.2.2.2) hdd hst hr hc (fun y => kk y.1 y.2)
theorem zs_invSWJ {index d' n : Nat} {μ' : zMu} {t0 : Option (Int64 × zM)} {f : Int64 → zM → Option α} (As : List Value) (hd : decode μ.2.2.1 pc = .ok (.invokestatic index, 3)) (L : zKS μ.1 index μ' n) (hn : n = As.length) (hdd : d' + 1 ≤ d) (hst : st = As.reverse ++ rest) (hr : (rest.map fun v => v.category).sum ≤ 8) (hc : ∀ y : Int64 × zM, t0 = some y → zCt E μ' d' As M (some (.long y.1), y.2))
    (kk : ∀ (r : Int64) (M1 : zM), zSy E μ d M0 tg x0 (f r M1) (pc + 3) loc (.long r :: rest) M1) : zSy E μ d M0 tg x0 (t0.bind fun y => zpp y f) pc loc st M :=
  zs_invS0 (ψ := fun y : Int64 × zM => (some (.long y.1), y.2)) As hd L.1 L.2.1 L.2.2.1 (hn ▸ L.2.2.2) hdd hst hr hc (fun y => kk y.1 y.2)
theorem zs_invSNWJ {index d' n : Nat} {host : String} {μ' : zMu} {t0 : Option (Int64 × zM)} {f : Int64 → zM → Option α} (As : List Value) (hd : decode μ.2.2.1 pc = .ok (.invokestatic index, 3)) (L : zKSN μ.1 index μ' n host) (hn : n = As.length) (hdd : d' + 1 ≤ d) (hst : st = As.reverse ++ rest) (hr : (rest.map fun v => v.category).sum ≤ 8) (hc : ∀ y : Int64 × zM, t0 = some y → zCt E μ' d' As M (some (.long y.1), y.2))
    (kk : ∀ (r : Int64) (M1 : zM), zSy E μ d M0 tg x0 (f r M1) (pc + 3) loc (.long r :: rest) M1) : zSy E μ d M0 tg x0 (t0.bind fun y => zpp y f) pc loc st M :=
  zs_invSN0 (ψ := fun y : Int64 × zM => (some (.long y.1), y.2)) As hd L.1 L.2.1 L.2.2.1 (hn ▸ L.2.2.2) hdd hst hr hc (fun y => kk y.1 y.2)
theorem zs_invVWJ {index d' n ci a : Nat} {μ' : zMu} {t0 : Option (Int64 × zM)} {f : Int64 → zM → Option α} (As : List Value) (hd : decode μ.2.2.1 pc = .ok (.invokevirtual index, 3)) (L : zKV μ.1 index μ' n ci) (hn : n = As.length) (hth : ∀ y, t0 = some y → a < zS M ∧ kd a = ci) (hdd : d' + 1 ≤ d) (hst : st = As.reverse ++ .ref (E.2.2.2.1 + a) :: rest) (hr : (rest.map fun v => v.category).sum ≤ 8) (hc : ∀ y : Int64 × zM, t0 = some y → zCt E μ' d' (.ref (E.2.2.2.1 + a) :: As) M (some (.long y.1), y.2))
    (kk : ∀ (r : Int64) (M1 : zM), zSy E μ d M0 tg x0 (f r M1) (pc + 3) loc (.long r :: rest) M1) : zSy E μ d M0 tg x0 (t0.bind fun y => zpp y f) pc loc st M := by
  obtain ⟨C, T, NN, h1, h2⟩ := L.2.2.2.1
  exact zs_invV0 (ψ := fun y : Int64 × zM => (some (.long y.1), y.2)) As hd L.1 L.2.1 L.2.2.1 h2 h1 L.2.2.2.2.1 hth (hn ▸ L.2.2.2.2.2) hdd hst hr hc (fun y => kk y.1 y.2)
theorem zs_invSWV {index d' n : Nat} {μ' : zMu} {t0 : Option (zM)} {f : zM → Option α} (As : List Value) (hd : decode μ.2.2.1 pc = .ok (.invokestatic index, 3)) (L : zKS μ.1 index μ' n) (hn : n = As.length) (hdd : d' + 1 ≤ d) (hst : st = As.reverse ++ rest) (hr : (rest.map fun v => v.category).sum ≤ 8) (hc : ∀ y : zM, t0 = some y → zCt E μ' d' As M (none, y))
    (kk : ∀ M1 : zM, zSy E μ d M0 tg x0 (f M1) (pc + 3) loc rest M1) : zSy E μ d M0 tg x0 (t0.bind f) pc loc st M :=
  zs_invS0 (ψ := fun y : zM => (none, y)) As hd L.1 L.2.1 L.2.2.1 (hn ▸ L.2.2.2) hdd hst hr hc (fun y => kk y)
theorem zs_invSNWV {index d' n : Nat} {host : String} {μ' : zMu} {t0 : Option (zM)} {f : zM → Option α} (As : List Value) (hd : decode μ.2.2.1 pc = .ok (.invokestatic index, 3)) (L : zKSN μ.1 index μ' n host) (hn : n = As.length) (hdd : d' + 1 ≤ d) (hst : st = As.reverse ++ rest) (hr : (rest.map fun v => v.category).sum ≤ 8) (hc : ∀ y : zM, t0 = some y → zCt E μ' d' As M (none, y))
    (kk : ∀ M1 : zM, zSy E μ d M0 tg x0 (f M1) (pc + 3) loc rest M1) : zSy E μ d M0 tg x0 (t0.bind f) pc loc st M :=
  zs_invSN0 (ψ := fun y : zM => (none, y)) As hd L.1 L.2.1 L.2.2.1 (hn ▸ L.2.2.2) hdd hst hr hc (fun y => kk y)
theorem zs_invVWV {index d' n ci a : Nat} {μ' : zMu} {t0 : Option (zM)} {f : zM → Option α} (As : List Value) (hd : decode μ.2.2.1 pc = .ok (.invokevirtual index, 3)) (L : zKV μ.1 index μ' n ci) (hn : n = As.length) (hth : ∀ y, t0 = some y → a < zS M ∧ kd a = ci) (hdd : d' + 1 ≤ d) (hst : st = As.reverse ++ .ref (E.2.2.2.1 + a) :: rest) (hr : (rest.map fun v => v.category).sum ≤ 8) (hc : ∀ y : zM, t0 = some y → zCt E μ' d' (.ref (E.2.2.2.1 + a) :: As) M (none, y))
    (kk : ∀ M1 : zM, zSy E μ d M0 tg x0 (f M1) (pc + 3) loc rest M1) : zSy E μ d M0 tg x0 (t0.bind f) pc loc st M := by
  obtain ⟨C, T, NN, h1, h2⟩ := L.2.2.2.1
  exact zs_invV0 (ψ := fun y : zM => (none, y)) As hd L.1 L.2.1 L.2.2.1 h2 h1 L.2.2.2.2.1 hth (hn ▸ L.2.2.2.2.2) hdd hst hr hc (fun y => kk y)
theorem zs_invIWV {index d' n a : Nat} {y' : MethodName} {own' : String} {cc' : ByteArray} {mL' : Nat} {t0 : Option zM} {f : zM → Option α} (host : Option String) (As : List Value) (hd : decode μ.2.2.1 pc = .ok (.invokespecial index, 3)) (L : zKI μ.1 index y' own' cc' mL' n host) (hn : n = As.length) (hdd : d' + 1 ≤ d) (hst : st = As.reverse ++ .ref (E.2.2.2.1 + a) :: rest) (hr : (rest.map fun v => v.category).sum ≤ 8) (hc : ∀ y : zM, t0 = some y → zCt E (own', y', cc', mL', none) d' (.ref (E.2.2.2.1 + a) :: As) M (none, y))
    (kk : ∀ M1 : zM, zSy E μ d M0 tg x0 (f M1) (pc + 3) loc rest M1) : zSy E μ d M0 tg x0 (t0.bind f) pc loc st M := by
  cases host with
  | none => exact zs_invI0 (ψ := fun y : zM => (none, y)) As hd L.1 L.2.1 L.2.2.1 L.2.2.2.1 (hn ▸ L.2.2.2.2) hdd hst hr hc (fun y => kk y)
  | some h => exact zs_invIN0 (host := h) (ψ := fun y : zM => (none, y)) As hd L.1 L.2.1 L.2.2.1 L.2.2.2.1 (hn ▸ L.2.2.2.2) hdd hst hr hc (fun y => kk y)
end ZP

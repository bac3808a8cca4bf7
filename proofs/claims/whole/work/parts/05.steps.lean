section ZS
variable {E : zEnv} {μ : zMu} {d : Nat} {M0 : zM} {tg : Option Value × zM} {α : Type} {x0 : α} {t : Option α} {pc : Nat} {loc : List (Nat × Value)} {st : List Value} {M : zM}
theorem zs_go {pc' : Nat} {loc' : List (Nat × Value)} {st' : List Value}
    (h : ∀ (p : Program) (e : Env) (R : Room) (s : State) (m : MethodId) (args : Array Value) (below : List Frame) (meth : Method) (c : Code) (H : Heap) (locs : List Loc) (ls : Array Slot) (cells slots : Nat) (Q : State → Prop),
      p.tables.exec = Jvm.exec → c.code = μ.2.2.1 → lv_has ls μ.2.2.2.1 loc → (∀ ls' : Array Slot, lv_has ls' μ.2.2.2.1 loc' → W p E.1 e R s m args below meth c H locs cells slots Q (F0 m pc' ls' st')) → W p E.1 e R s m args below meth c H locs cells slots Q (F0 m pc ls st))
    (k : zSy E μ d M0 tg x0 t pc' loc' st' M) : zSy E μ d M0 tg x0 t pc loc st M := by
  intro ht p e R s m args below meth c H locs ls Q C hl hP hS g
  exact h p e R s m args below meth c H locs ls _ _ Q C.1 C.2.1 hl (fun ls' hl' => k ht p e R s m args below meth c H locs ls' Q C hl' hP hS g)
theorem zs_iconst {n : Int} {v : Int32} (hd : decode μ.2.2.1 pc = .ok (.iconst n, 1)) (hv : Int32.ofInt n = v)
    (k : zSy E μ d M0 tg x0 t (pc + 1) loc (.int v :: st) M) : zSy E μ d M0 tg x0 t pc loc (st) M :=
  zs_go (fun p e R s m a b mt c H lo ls ce sl Q hx hb hl kk => lv_iconst hx hb hd hv (kk ls hl)) k
theorem zs_bipush {n : Int} {v : Int32} (hd : decode μ.2.2.1 pc = .ok (.bipush n, 2)) (hv : (Int8.ofInt n).toInt32 = v)
    (k : zSy E μ d M0 tg x0 t (pc + 2) loc (.int v :: st) M) : zSy E μ d M0 tg x0 t pc loc (st) M :=
  zs_go (fun p e R s m a b mt c H lo ls ce sl Q hx hb hl kk => lv_bipush hx hb hd hv (kk ls hl)) k
theorem zs_sipush {n : Int} {v : Int32} (hd : decode μ.2.2.1 pc = .ok (.sipush n, 3)) (hv : (Int16.ofInt n).toInt32 = v)
    (k : zSy E μ d M0 tg x0 t (pc + 3) loc (.int v :: st) M) : zSy E μ d M0 tg x0 t pc loc (st) M :=
  zs_go (fun p e R s m a b mt c H lo ls ce sl Q hx hb hl kk => lv_sipush hx hb hd hv (kk ls hl)) k
theorem zs_lconst {n : Fin 2} {v : Int64} (hd : decode μ.2.2.1 pc = .ok (.lconst n, 1)) (hv : Int64.ofNat (n : Nat) = v)
    (k : zSy E μ d M0 tg x0 t (pc + 1) loc (.long v :: st) M) : zSy E μ d M0 tg x0 t pc loc (st) M :=
  zs_go (fun p e R s m a b mt c H lo ls ce sl Q hx hb hl kk => lv_lconst hx hb hd hv (kk ls hl)) k
theorem zs_fconst0  (hd : decode μ.2.2.1 pc = .ok (.fconst 0, 1))
    (k : zSy E μ d M0 tg x0 t (pc + 1) loc (.float FP.fconst0 :: st) M) : zSy E μ d M0 tg x0 t pc loc (st) M :=
  zs_go (fun p e R s m a b mt c H lo ls ce sl Q hx hb hl kk => lv_fconst0 hx hb hd  (kk ls hl)) k
theorem zs_fconst1  (hd : decode μ.2.2.1 pc = .ok (.fconst 1, 1))
    (k : zSy E μ d M0 tg x0 t (pc + 1) loc (.float FP.fconst1 :: st) M) : zSy E μ d M0 tg x0 t pc loc (st) M :=
  zs_go (fun p e R s m a b mt c H lo ls ce sl Q hx hb hl kk => lv_fconst1 hx hb hd  (kk ls hl)) k
theorem zs_fconst2  (hd : decode μ.2.2.1 pc = .ok (.fconst 2, 1))
    (k : zSy E μ d M0 tg x0 t (pc + 1) loc (.float FP.fconst2 :: st) M) : zSy E μ d M0 tg x0 t pc loc (st) M :=
  zs_go (fun p e R s m a b mt c H lo ls ce sl Q hx hb hl kk => lv_fconst2 hx hb hd  (kk ls hl)) k
theorem zs_iload_n {k : Fin 4} {i : Nat} {x : Int32} (hd : decode μ.2.2.1 pc = .ok (.iload_n k, 1)) (hi : (k : Nat) = i) (j : Nat) (hj : loc[j]? = some (i, .int x))
    (k : zSy E μ d M0 tg x0 t (pc + 1) loc (.int x :: st) M) : zSy E μ d M0 tg x0 t pc loc (st) M :=
  zs_go (fun p e R s m a b mt c H lo ls ce sl Q hx hb hl kk => lv_iload_n hx hb hd hi (lv_at hl j hj) (kk ls hl)) k
theorem zs_iload {i : Nat} {x : Int32} (hd : decode μ.2.2.1 pc = .ok (.iload i, 2)) (j : Nat) (hj : loc[j]? = some (i, .int x))
    (k : zSy E μ d M0 tg x0 t (pc + 2) loc (.int x :: st) M) : zSy E μ d M0 tg x0 t pc loc (st) M :=
  zs_go (fun p e R s m a b mt c H lo ls ce sl Q hx hb hl kk => lv_iload hx hb hd (lv_at hl j hj) (kk ls hl)) k
theorem zs_lload_n {k : Fin 4} {i : Nat} {x : Int64} (hd : decode μ.2.2.1 pc = .ok (.lload_n k, 1)) (hi : (k : Nat) = i) (j : Nat) (hj : loc[j]? = some (i, .long x))
    (k : zSy E μ d M0 tg x0 t (pc + 1) loc (.long x :: st) M) : zSy E μ d M0 tg x0 t pc loc (st) M :=
  zs_go (fun p e R s m a b mt c H lo ls ce sl Q hx hb hl kk => lv_lload_n hx hb hd hi (lv_at hl j hj) (kk ls hl)) k
theorem zs_lload {i : Nat} {x : Int64} (hd : decode μ.2.2.1 pc = .ok (.lload i, 2)) (j : Nat) (hj : loc[j]? = some (i, .long x))
    (k : zSy E μ d M0 tg x0 t (pc + 2) loc (.long x :: st) M) : zSy E μ d M0 tg x0 t pc loc (st) M :=
  zs_go (fun p e R s m a b mt c H lo ls ce sl Q hx hb hl kk => lv_lload hx hb hd (lv_at hl j hj) (kk ls hl)) k
theorem zs_aload_n {k : Fin 4} {i : Nat} {x : Nat} (hd : decode μ.2.2.1 pc = .ok (.aload_n k, 1)) (hi : (k : Nat) = i) (j : Nat) (hj : loc[j]? = some (i, .ref x))
    (k : zSy E μ d M0 tg x0 t (pc + 1) loc (.ref x :: st) M) : zSy E μ d M0 tg x0 t pc loc (st) M :=
  zs_go (fun p e R s m a b mt c H lo ls ce sl Q hx hb hl kk => lv_aload_n hx hb hd hi (lv_at hl j hj) (kk ls hl)) k
theorem zs_aload {i : Nat} {x : Nat} (hd : decode μ.2.2.1 pc = .ok (.aload i, 2)) (j : Nat) (hj : loc[j]? = some (i, .ref x))
    (k : zSy E μ d M0 tg x0 t (pc + 2) loc (.ref x :: st) M) : zSy E μ d M0 tg x0 t pc loc (st) M :=
  zs_go (fun p e R s m a b mt c H lo ls ce sl Q hx hb hl kk => lv_aload hx hb hd (lv_at hl j hj) (kk ls hl)) k
theorem zs_fload_n {k : Fin 4} {i : Nat} {x : UInt32} (hd : decode μ.2.2.1 pc = .ok (.fload_n k, 1)) (hi : (k : Nat) = i) (j : Nat) (hj : loc[j]? = some (i, .float x))
    (k : zSy E μ d M0 tg x0 t (pc + 1) loc (.float x :: st) M) : zSy E μ d M0 tg x0 t pc loc (st) M :=
  zs_go (fun p e R s m a b mt c H lo ls ce sl Q hx hb hl kk => lv_fload_n hx hb hd hi (lv_at hl j hj) (kk ls hl)) k
theorem zs_fload {i : Nat} {x : UInt32} (hd : decode μ.2.2.1 pc = .ok (.fload i, 2)) (j : Nat) (hj : loc[j]? = some (i, .float x))
    (k : zSy E μ d M0 tg x0 t (pc + 2) loc (.float x :: st) M) : zSy E μ d M0 tg x0 t pc loc (st) M :=
  zs_go (fun p e R s m a b mt c H lo ls ce sl Q hx hb hl kk => lv_fload hx hb hd (lv_at hl j hj) (kk ls hl)) k
theorem zs_istore_n {k : Fin 4} {i : Nat} {x : Int32} {loc' : List (Nat × Value)} (hd : decode μ.2.2.1 pc = .ok (.istore_n k, 1)) (hi : (k : Nat) = i) (hn : i < μ.2.2.2.1) (ks : List Nat) (hl' : lv_pick ((i, Value.int x) :: loc.filter (fun q => !(q.1 == i) && !(q.1 + 1 == i && q.2.category == 2))) ks = loc')
    (k : zSy E μ d M0 tg x0 t (pc + 1) loc' st M) : zSy E μ d M0 tg x0 t pc loc (.int x :: st) M :=
  zs_go (fun p e R s m a b mt c H lo ls ce sl Q hx hb hl kk => lv_istore_n hx hb hd hi hl hn rfl (fun ls' h' => kk ls' (lv_sub h' ks hl'))) k
theorem zs_istore_nL {k : Fin 4} {i : Nat} {x : Int32} {f : Int32 → Option α} {loc' : Int32 → List (Nat × Value)} (hd : decode μ.2.2.1 pc = .ok (.istore_n k, 1)) (hi : (k : Nat) = i) (hn : i < μ.2.2.2.1) (ks : List Nat) (hl' : ∀ x : Int32, lv_pick ((i, Value.int x) :: loc.filter (fun q => !(q.1 == i) && !(q.1 + 1 == i && q.2.category == 2))) ks = loc' x)
    (k : ∀ x : Int32, zSy E μ d M0 tg x0 (f x) (pc + 1) (loc' x) st M) : zSy E μ d M0 tg x0 (lett x f) pc loc (.int x :: st) M :=
  zs_istore_n (t := f x) hd hi hn ks (hl' x) (k x)
theorem zs_istore {i : Nat} {x : Int32} {loc' : List (Nat × Value)} (hd : decode μ.2.2.1 pc = .ok (.istore i, 2)) (hn : i < μ.2.2.2.1) (ks : List Nat) (hl' : lv_pick ((i, Value.int x) :: loc.filter (fun q => !(q.1 == i) && !(q.1 + 1 == i && q.2.category == 2))) ks = loc')
    (k : zSy E μ d M0 tg x0 t (pc + 2) loc' st M) : zSy E μ d M0 tg x0 t pc loc (.int x :: st) M :=
  zs_go (fun p e R s m a b mt c H lo ls ce sl Q hx hb hl kk => lv_istore hx hb hd hl hn rfl (fun ls' h' => kk ls' (lv_sub h' ks hl'))) k
theorem zs_istoreL {i : Nat} {x : Int32} {f : Int32 → Option α} {loc' : Int32 → List (Nat × Value)} (hd : decode μ.2.2.1 pc = .ok (.istore i, 2)) (hn : i < μ.2.2.2.1) (ks : List Nat) (hl' : ∀ x : Int32, lv_pick ((i, Value.int x) :: loc.filter (fun q => !(q.1 == i) && !(q.1 + 1 == i && q.2.category == 2))) ks = loc' x)
    (k : ∀ x : Int32, zSy E μ d M0 tg x0 (f x) (pc + 2) (loc' x) st M) : zSy E μ d M0 tg x0 (lett x f) pc loc (.int x :: st) M :=
  zs_istore (t := f x) hd hn ks (hl' x) (k x)
theorem zs_lstore_n {k : Fin 4} {i : Nat} {x : Int64} {loc' : List (Nat × Value)} (hd : decode μ.2.2.1 pc = .ok (.lstore_n k, 1)) (hi : (k : Nat) = i) (hn : i + 1 < μ.2.2.2.1) (ks : List Nat) (hl' : lv_pick ((i, Value.long x) :: loc.filter (fun q => !(q.1 == i) && (!(q.1 == i + 1) && !(q.1 + 1 == i && q.2.category == 2)))) ks = loc')
    (k : zSy E μ d M0 tg x0 t (pc + 1) loc' st M) : zSy E μ d M0 tg x0 t pc loc (.long x :: st) M :=
  zs_go (fun p e R s m a b mt c H lo ls ce sl Q hx hb hl kk => lv_lstore_n hx hb hd hi hl hn rfl (fun ls' h' => kk ls' (lv_sub h' ks hl'))) k
theorem zs_lstore_nL {k : Fin 4} {i : Nat} {x : Int64} {f : Int64 → Option α} {loc' : Int64 → List (Nat × Value)} (hd : decode μ.2.2.1 pc = .ok (.lstore_n k, 1)) (hi : (k : Nat) = i) (hn : i + 1 < μ.2.2.2.1) (ks : List Nat) (hl' : ∀ x : Int64, lv_pick ((i, Value.long x) :: loc.filter (fun q => !(q.1 == i) && (!(q.1 == i + 1) && !(q.1 + 1 == i && q.2.category == 2)))) ks = loc' x)
    (k : ∀ x : Int64, zSy E μ d M0 tg x0 (f x) (pc + 1) (loc' x) st M) : zSy E μ d M0 tg x0 (lett x f) pc loc (.long x :: st) M :=
  zs_lstore_n (t := f x) hd hi hn ks (hl' x) (k x)
theorem zs_lstore {i : Nat} {x : Int64} {loc' : List (Nat × Value)} (hd : decode μ.2.2.1 pc = .ok (.lstore i, 2)) (hn : i + 1 < μ.2.2.2.1) (ks : List Nat) (hl' : lv_pick ((i, Value.long x) :: loc.filter (fun q => !(q.1 == i) && (!(q.1 == i + 1) && !(q.1 + 1 == i && q.2.category == 2)))) ks = loc')
    (k : zSy E μ d M0 tg x0 t (pc + 2) loc' st M) : zSy E μ d M0 tg x0 t pc loc (.long x :: st) M :=
  zs_go (fun p e R s m a b mt c H lo ls ce sl Q hx hb hl kk => lv_lstore hx hb hd hl hn rfl (fun ls' h' => kk ls' (lv_sub h' ks hl'))) k
theorem zs_lstoreL {i : Nat} {x : Int64} {f : Int64 → Option α} {loc' : Int64 → List (Nat × Value)} (hd : decode μ.2.2.1 pc = .ok (.lstore i, 2)) (hn : i + 1 < μ.2.2.2.1) (ks : List Nat) (hl' : ∀ x : Int64, lv_pick ((i, Value.long x) :: loc.filter (fun q => !(q.1 == i) && (!(q.1 == i + 1) && !(q.1 + 1 == i && q.2.category == 2)))) ks = loc' x)
    (k : ∀ x : Int64, zSy E μ d M0 tg x0 (f x) (pc + 2) (loc' x) st M) : zSy E μ d M0 tg x0 (lett x f) pc loc (.long x :: st) M :=
  zs_lstore (t := f x) hd hn ks (hl' x) (k x)
theorem zs_astore_n {k : Fin 4} {i : Nat} {x : Nat} {loc' : List (Nat × Value)} (hd : decode μ.2.2.1 pc = .ok (.astore_n k, 1)) (hi : (k : Nat) = i) (hn : i < μ.2.2.2.1) (ks : List Nat) (hl' : lv_pick ((i, Value.ref x) :: loc.filter (fun q => !(q.1 == i) && !(q.1 + 1 == i && q.2.category == 2))) ks = loc')
    (k : zSy E μ d M0 tg x0 t (pc + 1) loc' st M) : zSy E μ d M0 tg x0 t pc loc (.ref x :: st) M :=
  zs_go (fun p e R s m a b mt c H lo ls ce sl Q hx hb hl kk => lv_astore_n hx hb hd hi hl hn rfl (fun ls' h' => kk ls' (lv_sub h' ks hl'))) k
theorem zs_astore_nL {k : Fin 4} {i : Nat} {x : Nat} {f : Nat → Option α} {loc' : Nat → List (Nat × Value)} (hd : decode μ.2.2.1 pc = .ok (.astore_n k, 1)) (hi : (k : Nat) = i) (hn : i < μ.2.2.2.1) (ks : List Nat) (hl' : ∀ x : Nat, lv_pick ((i, Value.ref x) :: loc.filter (fun q => !(q.1 == i) && !(q.1 + 1 == i && q.2.category == 2))) ks = loc' x)
    (k : ∀ x : Nat, zSy E μ d M0 tg x0 (f x) (pc + 1) (loc' x) st M) : zSy E μ d M0 tg x0 (lett x f) pc loc (.ref x :: st) M :=
  zs_astore_n (t := f x) hd hi hn ks (hl' x) (k x)
theorem zs_astore {i : Nat} {x : Nat} {loc' : List (Nat × Value)} (hd : decode μ.2.2.1 pc = .ok (.astore i, 2)) (hn : i < μ.2.2.2.1) (ks : List Nat) (hl' : lv_pick ((i, Value.ref x) :: loc.filter (fun q => !(q.1 == i) && !(q.1 + 1 == i && q.2.category == 2))) ks = loc')
    (k : zSy E μ d M0 tg x0 t (pc + 2) loc' st M) : zSy E μ d M0 tg x0 t pc loc (.ref x :: st) M :=
  zs_go (fun p e R s m a b mt c H lo ls ce sl Q hx hb hl kk => lv_astore hx hb hd hl hn rfl (fun ls' h' => kk ls' (lv_sub h' ks hl'))) k
theorem zs_astoreL {i : Nat} {x : Nat} {f : Nat → Option α} {loc' : Nat → List (Nat × Value)} (hd : decode μ.2.2.1 pc = .ok (.astore i, 2)) (hn : i < μ.2.2.2.1) (ks : List Nat) (hl' : ∀ x : Nat, lv_pick ((i, Value.ref x) :: loc.filter (fun q => !(q.1 == i) && !(q.1 + 1 == i && q.2.category == 2))) ks = loc' x)
    (k : ∀ x : Nat, zSy E μ d M0 tg x0 (f x) (pc + 2) (loc' x) st M) : zSy E μ d M0 tg x0 (lett x f) pc loc (.ref x :: st) M :=
  zs_astore (t := f x) hd hn ks (hl' x) (k x)
theorem zs_fstore_n {k : Fin 4} {i : Nat} {x : UInt32} {loc' : List (Nat × Value)} (hd : decode μ.2.2.1 pc = .ok (.fstore_n k, 1)) (hi : (k : Nat) = i) (hn : i < μ.2.2.2.1) (ks : List Nat) (hl' : lv_pick ((i, Value.float x) :: loc.filter (fun q => !(q.1 == i) && !(q.1 + 1 == i && q.2.category == 2))) ks = loc')
    (k : zSy E μ d M0 tg x0 t (pc + 1) loc' st M) : zSy E μ d M0 tg x0 t pc loc (.float x :: st) M :=
  zs_go (fun p e R s m a b mt c H lo ls ce sl Q hx hb hl kk => lv_fstore_n hx hb hd hi hl hn rfl (fun ls' h' => kk ls' (lv_sub h' ks hl'))) k
theorem zs_fstore_nL {k : Fin 4} {i : Nat} {x : UInt32} {f : UInt32 → Option α} {loc' : UInt32 → List (Nat × Value)} (hd : decode μ.2.2.1 pc = .ok (.fstore_n k, 1)) (hi : (k : Nat) = i) (hn : i < μ.2.2.2.1) (ks : List Nat) (hl' : ∀ x : UInt32, lv_pick ((i, Value.float x) :: loc.filter (fun q => !(q.1 == i) && !(q.1 + 1 == i && q.2.category == 2))) ks = loc' x)
    (k : ∀ x : UInt32, zSy E μ d M0 tg x0 (f x) (pc + 1) (loc' x) st M) : zSy E μ d M0 tg x0 (lett x f) pc loc (.float x :: st) M :=
  zs_fstore_n (t := f x) hd hi hn ks (hl' x) (k x)
theorem zs_fstore {i : Nat} {x : UInt32} {loc' : List (Nat × Value)} (hd : decode μ.2.2.1 pc = .ok (.fstore i, 2)) (hn : i < μ.2.2.2.1) (ks : List Nat) (hl' : lv_pick ((i, Value.float x) :: loc.filter (fun q => !(q.1 == i) && !(q.1 + 1 == i && q.2.category == 2))) ks = loc')
    (k : zSy E μ d M0 tg x0 t (pc + 2) loc' st M) : zSy E μ d M0 tg x0 t pc loc (.float x :: st) M :=
  zs_go (fun p e R s m a b mt c H lo ls ce sl Q hx hb hl kk => lv_fstore hx hb hd hl hn rfl (fun ls' h' => kk ls' (lv_sub h' ks hl'))) k
theorem zs_fstoreL {i : Nat} {x : UInt32} {f : UInt32 → Option α} {loc' : UInt32 → List (Nat × Value)} (hd : decode μ.2.2.1 pc = .ok (.fstore i, 2)) (hn : i < μ.2.2.2.1) (ks : List Nat) (hl' : ∀ x : UInt32, lv_pick ((i, Value.float x) :: loc.filter (fun q => !(q.1 == i) && !(q.1 + 1 == i && q.2.category == 2))) ks = loc' x)
    (k : ∀ x : UInt32, zSy E μ d M0 tg x0 (f x) (pc + 2) (loc' x) st M) : zSy E μ d M0 tg x0 (lett x f) pc loc (.float x :: st) M :=
  zs_fstore (t := f x) hd hn ks (hl' x) (k x)
theorem zs_iinc {i : Nat} {n : Int} {x v : Int32} {loc' : List (Nat × Value)} (hd : decode μ.2.2.1 pc = .ok (.iinc i n, 3)) (j : Nat) (hj : loc[j]? = some (i, .int x)) (hv : x + Int32.ofInt n = v) (hn : i < μ.2.2.2.1) (ks : List Nat) (hl' : lv_pick ((i, Value.int v) :: loc.filter (fun q => !(q.1 == i) && !(q.1 + 1 == i && q.2.category == 2))) ks = loc')
    (k : zSy E μ d M0 tg x0 t (pc + 3) loc' st M) : zSy E μ d M0 tg x0 t pc loc st M :=
  zs_go (fun p e R s m a b mt c H lo ls ce sl Q hx hb hl kk => lv_iinc hx hb hd hl hj hv hn rfl (fun ls' h' => kk ls' (lv_sub h' ks hl'))) k
theorem zs_sub {loc' : List (Nat × Value)} (ks : List Nat) (hl' : lv_pick loc ks = loc') (k : zSy E μ d M0 tg x0 t pc loc' st M) : zSy E μ d M0 tg x0 t pc loc st M :=
  zs_go (fun p e R s m a b mt c H lo ls ce sl Q hx hb hl kk => kk ls (lv_sub hl ks hl')) k
theorem zs_iadd {x y : Int32} (hd : decode μ.2.2.1 pc = .ok (.iadd, 1))
    (k : zSy E μ d M0 tg x0 t (pc + 1) loc (.int (x + y) :: st) M) : zSy E μ d M0 tg x0 t pc loc (.int y :: .int x :: st) M :=
  zs_go (fun p e R s m a b mt c H lo ls ce sl Q hx hb hl kk => lv_iadd hx hb hd  (kk ls hl)) k
theorem zs_isub {x y : Int32} (hd : decode μ.2.2.1 pc = .ok (.isub, 1))
    (k : zSy E μ d M0 tg x0 t (pc + 1) loc (.int (x - y) :: st) M) : zSy E μ d M0 tg x0 t pc loc (.int y :: .int x :: st) M :=
  zs_go (fun p e R s m a b mt c H lo ls ce sl Q hx hb hl kk => lv_isub hx hb hd  (kk ls hl)) k
theorem zs_imul {x y : Int32} (hd : decode μ.2.2.1 pc = .ok (.imul, 1))
    (k : zSy E μ d M0 tg x0 t (pc + 1) loc (.int (x * y) :: st) M) : zSy E μ d M0 tg x0 t pc loc (.int y :: .int x :: st) M :=
  zs_go (fun p e R s m a b mt c H lo ls ce sl Q hx hb hl kk => lv_imul hx hb hd  (kk ls hl)) k
theorem zs_iand {x y : Int32} (hd : decode μ.2.2.1 pc = .ok (.iand, 1))
    (k : zSy E μ d M0 tg x0 t (pc + 1) loc (.int (x &&& y) :: st) M) : zSy E μ d M0 tg x0 t pc loc (.int y :: .int x :: st) M :=
  zs_go (fun p e R s m a b mt c H lo ls ce sl Q hx hb hl kk => lv_iand hx hb hd  (kk ls hl)) k
theorem zs_ior {x y : Int32} (hd : decode μ.2.2.1 pc = .ok (.ior, 1))
    (k : zSy E μ d M0 tg x0 t (pc + 1) loc (.int (x ||| y) :: st) M) : zSy E μ d M0 tg x0 t pc loc (.int y :: .int x :: st) M :=
  zs_go (fun p e R s m a b mt c H lo ls ce sl Q hx hb hl kk => lv_ior hx hb hd  (kk ls hl)) k
theorem zs_ixor {x y : Int32} (hd : decode μ.2.2.1 pc = .ok (.ixor, 1))
    (k : zSy E μ d M0 tg x0 t (pc + 1) loc (.int (x ^^^ y) :: st) M) : zSy E μ d M0 tg x0 t pc loc (.int y :: .int x :: st) M :=
  zs_go (fun p e R s m a b mt c H lo ls ce sl Q hx hb hl kk => lv_ixor hx hb hd  (kk ls hl)) k
theorem zs_ishl {x y : Int32} (hd : decode μ.2.2.1 pc = .ok (.ishl, 1))
    (k : zSy E μ d M0 tg x0 t (pc + 1) loc (.int (x <<< (y &&& 31)) :: st) M) : zSy E μ d M0 tg x0 t pc loc (.int y :: .int x :: st) M :=
  zs_go (fun p e R s m a b mt c H lo ls ce sl Q hx hb hl kk => lv_ishl hx hb hd  (kk ls hl)) k
theorem zs_ishr {x y : Int32} (hd : decode μ.2.2.1 pc = .ok (.ishr, 1))
    (k : zSy E μ d M0 tg x0 t (pc + 1) loc (.int (x >>> (y &&& 31)) :: st) M) : zSy E μ d M0 tg x0 t pc loc (.int y :: .int x :: st) M :=
  zs_go (fun p e R s m a b mt c H lo ls ce sl Q hx hb hl kk => lv_ishr hx hb hd  (kk ls hl)) k
theorem zs_iushr {x y : Int32} (hd : decode μ.2.2.1 pc = .ok (.iushr, 1))
    (k : zSy E μ d M0 tg x0 t (pc + 1) loc (.int (x.toUInt32 >>> (y.toUInt32 &&& Int32.toUInt32 31)).toInt32 :: st) M) : zSy E μ d M0 tg x0 t pc loc (.int y :: .int x :: st) M :=
  zs_go (fun p e R s m a b mt c H lo ls ce sl Q hx hb hl kk => lv_iushr hx hb hd rfl (kk ls hl)) k
theorem zs_ineg {x : Int32} (hd : decode μ.2.2.1 pc = .ok (.ineg, 1))
    (k : zSy E μ d M0 tg x0 t (pc + 1) loc (.int (-x) :: st) M) : zSy E μ d M0 tg x0 t pc loc (.int x :: st) M :=
  zs_go (fun p e R s m a b mt c H lo ls ce sl Q hx hb hl kk => lv_ineg hx hb hd  (kk ls hl)) k
theorem zs_ladd {x y : Int64} (hd : decode μ.2.2.1 pc = .ok (.ladd, 1))
    (k : zSy E μ d M0 tg x0 t (pc + 1) loc (.long (x + y) :: st) M) : zSy E μ d M0 tg x0 t pc loc (.long y :: .long x :: st) M :=
  zs_go (fun p e R s m a b mt c H lo ls ce sl Q hx hb hl kk => lv_ladd hx hb hd  (kk ls hl)) k
theorem zs_lsub {x y : Int64} (hd : decode μ.2.2.1 pc = .ok (.lsub, 1))
    (k : zSy E μ d M0 tg x0 t (pc + 1) loc (.long (x - y) :: st) M) : zSy E μ d M0 tg x0 t pc loc (.long y :: .long x :: st) M :=
  zs_go (fun p e R s m a b mt c H lo ls ce sl Q hx hb hl kk => lv_lsub hx hb hd  (kk ls hl)) k
theorem zs_lmul {x y : Int64} (hd : decode μ.2.2.1 pc = .ok (.lmul, 1))
    (k : zSy E μ d M0 tg x0 t (pc + 1) loc (.long (x * y) :: st) M) : zSy E μ d M0 tg x0 t pc loc (.long y :: .long x :: st) M :=
  zs_go (fun p e R s m a b mt c H lo ls ce sl Q hx hb hl kk => lv_lmul hx hb hd  (kk ls hl)) k
theorem zs_land {x y : Int64} (hd : decode μ.2.2.1 pc = .ok (.land, 1))
    (k : zSy E μ d M0 tg x0 t (pc + 1) loc (.long (x &&& y) :: st) M) : zSy E μ d M0 tg x0 t pc loc (.long y :: .long x :: st) M :=
  zs_go (fun p e R s m a b mt c H lo ls ce sl Q hx hb hl kk => lv_land hx hb hd  (kk ls hl)) k
theorem zs_lor {x y : Int64} (hd : decode μ.2.2.1 pc = .ok (.lor, 1))
    (k : zSy E μ d M0 tg x0 t (pc + 1) loc (.long (x ||| y) :: st) M) : zSy E μ d M0 tg x0 t pc loc (.long y :: .long x :: st) M :=
  zs_go (fun p e R s m a b mt c H lo ls ce sl Q hx hb hl kk => lv_lor hx hb hd  (kk ls hl)) k
theorem zs_lxor {x y : Int64} (hd : decode μ.2.2.1 pc = .ok (.lxor, 1))
    (k : zSy E μ d M0 tg x0 t (pc + 1) loc (.long (x ^^^ y) :: st) M) : zSy E μ d M0 tg x0 t pc loc (.long y :: .long x :: st) M :=
  zs_go (fun p e R s m a b mt c H lo ls ce sl Q hx hb hl kk => lv_lxor hx hb hd  (kk ls hl)) k
theorem zs_lshl {x : Int64} {y : Int32} (hd : decode μ.2.2.1 pc = .ok (.lshl, 1))
    (k : zSy E μ d M0 tg x0 t (pc + 1) loc (.long (x <<< (y.toInt64 &&& 63)) :: st) M) : zSy E μ d M0 tg x0 t pc loc (.int y :: .long x :: st) M :=
  zs_go (fun p e R s m a b mt c H lo ls ce sl Q hx hb hl kk => lv_lshl hx hb hd rfl (kk ls hl)) k
theorem zs_lshr {x : Int64} {y : Int32} (hd : decode μ.2.2.1 pc = .ok (.lshr, 1))
    (k : zSy E μ d M0 tg x0 t (pc + 1) loc (.long (x >>> (y.toInt64 &&& 63)) :: st) M) : zSy E μ d M0 tg x0 t pc loc (.int y :: .long x :: st) M :=
  zs_go (fun p e R s m a b mt c H lo ls ce sl Q hx hb hl kk => lv_lshr hx hb hd rfl (kk ls hl)) k
theorem zs_i2l {x : Int32} (hd : decode μ.2.2.1 pc = .ok (.i2l, 1))
    (k : zSy E μ d M0 tg x0 t (pc + 1) loc (.long x.toInt64 :: st) M) : zSy E μ d M0 tg x0 t pc loc (.int x :: st) M :=
  zs_go (fun p e R s m a b mt c H lo ls ce sl Q hx hb hl kk => lv_i2l hx hb hd rfl (kk ls hl)) k
theorem zs_l2i {x : Int64} (hd : decode μ.2.2.1 pc = .ok (.l2i, 1))
    (k : zSy E μ d M0 tg x0 t (pc + 1) loc (.int x.toInt32 :: st) M) : zSy E μ d M0 tg x0 t pc loc (.long x :: st) M :=
  zs_go (fun p e R s m a b mt c H lo ls ce sl Q hx hb hl kk => lv_l2i hx hb hd rfl (kk ls hl)) k
theorem zs_i2b {x : Int32} (hd : decode μ.2.2.1 pc = .ok (.i2b, 1))
    (k : zSy E μ d M0 tg x0 t (pc + 1) loc (.int x.toInt8.toInt32 :: st) M) : zSy E μ d M0 tg x0 t pc loc (.int x :: st) M :=
  zs_go (fun p e R s m a b mt c H lo ls ce sl Q hx hb hl kk => lv_i2b hx hb hd rfl (kk ls hl)) k
theorem zs_i2c {x : Int32} (hd : decode μ.2.2.1 pc = .ok (.i2c, 1))
    (k : zSy E μ d M0 tg x0 t (pc + 1) loc (.int (x.toUInt32 % 65536).toInt32 :: st) M) : zSy E μ d M0 tg x0 t pc loc (.int x :: st) M :=
  zs_go (fun p e R s m a b mt c H lo ls ce sl Q hx hb hl kk => lv_i2c hx hb hd rfl (kk ls hl)) k
theorem zs_i2f {x : Int32} (hd : decode μ.2.2.1 pc = .ok (.i2f, 1))
    (k : zSy E μ d M0 tg x0 t (pc + 1) loc (.float (FP.i2f x) :: st) M) : zSy E μ d M0 tg x0 t pc loc (.int x :: st) M :=
  zs_go (fun p e R s m a b mt c H lo ls ce sl Q hx hb hl kk => lv_i2f hx hb hd  (kk ls hl)) k
theorem zs_f2i {x : UInt32} (hd : decode μ.2.2.1 pc = .ok (.f2i, 1))
    (k : zSy E μ d M0 tg x0 t (pc + 1) loc (.int (FP.f2i x) :: st) M) : zSy E μ d M0 tg x0 t pc loc (.float x :: st) M :=
  zs_go (fun p e R s m a b mt c H lo ls ce sl Q hx hb hl kk => lv_f2i hx hb hd  (kk ls hl)) k
theorem zs_fcmp {x y : UInt32} {op : CmpOp} (hd : decode μ.2.2.1 pc = .ok (.fcmp op, 1))
    (k : zSy E μ d M0 tg x0 t (pc + 1) loc (.int (Op.cmpValue (FP.fcmp x y) op) :: st) M) : zSy E μ d M0 tg x0 t pc loc (.float y :: .float x :: st) M :=
  zs_go (fun p e R s m a b mt c H lo ls ce sl Q hx hb hl kk => lv_fcmp hx hb hd  (kk ls hl)) k
theorem zs_lcmp {x y : Int64} (hd : decode μ.2.2.1 pc = .ok (.lcmp, 1))
    (k : zSy E μ d M0 tg x0 t (pc + 1) loc (.int (lg_cmp x y) :: st) M) : zSy E μ d M0 tg x0 t pc loc (.long y :: .long x :: st) M :=
  zs_go (fun p e R s m a b mt c H lo ls ce sl Q hx hb hl kk => W.lcmp hx hb hd  (kk ls hl)) k
theorem zs_pop {va : Value} (hd : decode μ.2.2.1 pc = .ok (.pop, 1)) (hva : va.category = 1)
    (k : zSy E μ d M0 tg x0 t (pc + 1) loc (st) M) : zSy E μ d M0 tg x0 t pc loc (va :: st) M :=
  zs_go (fun p e R s m a b mt c H lo ls ce sl Q hx hb hl kk => lv_pop hx hb hd hva (kk ls hl)) k
theorem zs_dup {va : Value} (hd : decode μ.2.2.1 pc = .ok (.dup, 1)) (hva : va.category = 1)
    (k : zSy E μ d M0 tg x0 t (pc + 1) loc (va :: va :: st) M) : zSy E μ d M0 tg x0 t pc loc (va :: st) M :=
  zs_go (fun p e R s m a b mt c H lo ls ce sl Q hx hb hl kk => lv_dup hx hb hd hva (kk ls hl)) k
theorem zs_dup2 {va vb : Value} (hd : decode μ.2.2.1 pc = .ok (.dup2, 1)) (hva : va.category = 1) (hvb : vb.category = 1)
    (k : zSy E μ d M0 tg x0 t (pc + 1) loc (va :: vb :: va :: vb :: st) M) : zSy E μ d M0 tg x0 t pc loc (va :: vb :: st) M :=
  zs_go (fun p e R s m a b mt c H lo ls ce sl Q hx hb hl kk => lv_dup2_11 hx hb hd hva hvb (kk ls hl)) k
theorem zs_dup2_2 {va : Value} (hd : decode μ.2.2.1 pc = .ok (.dup2, 1)) (hva : va.category = 2)
    (k : zSy E μ d M0 tg x0 t (pc + 1) loc (va :: va :: st) M) : zSy E μ d M0 tg x0 t pc loc (va :: st) M :=
  zs_go (fun p e R s m a b mt c H lo ls ce sl Q hx hb hl kk => lv_dup2_2 hx hb hd hva (kk ls hl)) k
theorem zs_dup_x1 {va vb : Value} (hd : decode μ.2.2.1 pc = .ok (.dup_x1, 1)) (hva : va.category = 1) (hvb : vb.category = 1)
    (k : zSy E μ d M0 tg x0 t (pc + 1) loc (va :: vb :: va :: st) M) : zSy E μ d M0 tg x0 t pc loc (va :: vb :: st) M :=
  zs_go (fun p e R s m a b mt c H lo ls ce sl Q hx hb hl kk => lv_dup_x1 hx hb hd hva hvb (kk ls hl)) k
theorem zs_dup_x2 {va vb vc : Value} (hd : decode μ.2.2.1 pc = .ok (.dup_x2, 1)) (hva : va.category = 1) (hvb : vb.category = 1) (hvc : vc.category = 1)
    (k : zSy E μ d M0 tg x0 t (pc + 1) loc (va :: vb :: vc :: va :: st) M) : zSy E μ d M0 tg x0 t pc loc (va :: vb :: vc :: st) M :=
  zs_go (fun p e R s m a b mt c H lo ls ce sl Q hx hb hl kk => lv_dup_x2 hx hb hd hva hvb hvc (kk ls hl)) k
theorem zs_goto {off : Int} {tgt : Nat} (hd : decode μ.2.2.1 pc = .ok (.goto off, 3)) (ht : (pc : Int) + off = (tgt : Int)) (k : zSy E μ d M0 tg x0 t tgt loc st M) : zSy E μ d M0 tg x0 t pc loc st M :=
  zs_go (fun p e R s m a b mt c H lo ls ce sl Q hx hb hl kk => lv_goto hx hb hd ht (kk ls hl)) k
theorem zs_ite {c : Prop} {inst : Decidable c} {A B : Option α} (k1 : c → zSy E μ d M0 tg x0 A pc loc st M) (k2 : ¬ c → zSy E μ d M0 tg x0 B pc loc st M) : zSy E μ d M0 tg x0 (@ite _ c inst A B) pc loc st M := by
  intro h
  by_cases hc : c
  · rw [if_pos hc] at h
    exact k1 hc h
  · rw [if_neg hc] at h
    exact k2 hc h
theorem zs_jn {β : Type} {r : β} {b : β → Option α} (P : β → Prop) (hr : P r) (hb : ∀ j, P j → zSy E μ d M0 tg x0 (b j) pc loc st M) : zSy E μ d M0 tg x0 (zjn r b) pc loc st M := hb r hr
theorem zs_if_eq {x : Int32} {off : Int} {tgt : Nat} {inst : Decidable (x = 0)} {A B : Option α} (hd : decode μ.2.2.1 pc = .ok (.ifCond .eq off, 3)) (ht : (pc : Int) + off = (tgt : Int))
    (k1 : zSy E μ d M0 tg x0 A tgt loc st M) (k2 : zSy E μ d M0 tg x0 B (pc + 3) loc st M) : zSy E μ d M0 tg x0 (@ite _ (x = 0) inst A B) pc loc (.int x :: st) M := by
  intro h p e R s m args below meth c H locs ls Q C hl hP hS g
  refine lv_if_eq C.1 C.2.1 hd ht (fun q => ?_) (fun q => ?_)
  · rw [if_pos q] at h
    exact k1 h p e R s m args below meth c H locs ls Q C hl hP hS g
  · rw [if_neg q] at h
    exact k2 h p e R s m args below meth c H locs ls Q C hl hP hS g
theorem zs_icmp_eq {x y : Int32} {off : Int} {tgt : Nat} {inst : Decidable (x = y)} {A B : Option α} (hd : decode μ.2.2.1 pc = .ok (.if_icmp .eq off, 3)) (ht : (pc : Int) + off = (tgt : Int))
    (k1 : zSy E μ d M0 tg x0 A tgt loc st M) (k2 : zSy E μ d M0 tg x0 B (pc + 3) loc st M) : zSy E μ d M0 tg x0 (@ite _ (x = y) inst A B) pc loc (.int y :: .int x :: st) M := by
  intro h p e R s m args below meth c H locs ls Q C hl hP hS g
  refine lv_icmp_eq C.1 C.2.1 hd ht (fun q => ?_) (fun q => ?_)
  · rw [if_pos q] at h
    exact k1 h p e R s m args below meth c H locs ls Q C hl hP hS g
  · rw [if_neg q] at h
    exact k2 h p e R s m args below meth c H locs ls Q C hl hP hS g
theorem zs_if_ne {x : Int32} {off : Int} {tgt : Nat} {inst : Decidable (x ≠ 0)} {A B : Option α} (hd : decode μ.2.2.1 pc = .ok (.ifCond .ne off, 3)) (ht : (pc : Int) + off = (tgt : Int))
    (k1 : zSy E μ d M0 tg x0 A tgt loc st M) (k2 : zSy E μ d M0 tg x0 B (pc + 3) loc st M) : zSy E μ d M0 tg x0 (@ite _ (x ≠ 0) inst A B) pc loc (.int x :: st) M := by
  intro h p e R s m args below meth c H locs ls Q C hl hP hS g
  refine lv_if_ne C.1 C.2.1 hd ht (fun q => ?_) (fun q => ?_)
  · rw [if_pos q] at h
    exact k1 h p e R s m args below meth c H locs ls Q C hl hP hS g
  · rw [if_neg (fun z => z q)] at h
    exact k2 h p e R s m args below meth c H locs ls Q C hl hP hS g
theorem zs_icmp_ne {x y : Int32} {off : Int} {tgt : Nat} {inst : Decidable (x ≠ y)} {A B : Option α} (hd : decode μ.2.2.1 pc = .ok (.if_icmp .ne off, 3)) (ht : (pc : Int) + off = (tgt : Int))
    (k1 : zSy E μ d M0 tg x0 A tgt loc st M) (k2 : zSy E μ d M0 tg x0 B (pc + 3) loc st M) : zSy E μ d M0 tg x0 (@ite _ (x ≠ y) inst A B) pc loc (.int y :: .int x :: st) M := by
  intro h p e R s m args below meth c H locs ls Q C hl hP hS g
  refine lv_icmp_ne C.1 C.2.1 hd ht (fun q => ?_) (fun q => ?_)
  · rw [if_pos q] at h
    exact k1 h p e R s m args below meth c H locs ls Q C hl hP hS g
  · rw [if_neg (fun z => z q)] at h
    exact k2 h p e R s m args below meth c H locs ls Q C hl hP hS g
theorem zs_if_lt {x : Int32} {off : Int} {tgt : Nat} {inst : Decidable (x < 0)} {A B : Option α} (hd : decode μ.2.2.1 pc = .ok (.ifCond .lt off, 3)) (ht : (pc : Int) + off = (tgt : Int))
    (k1 : zSy E μ d M0 tg x0 A tgt loc st M) (k2 : zSy E μ d M0 tg x0 B (pc + 3) loc st M) : zSy E μ d M0 tg x0 (@ite _ (x < 0) inst A B) pc loc (.int x :: st) M := by
  intro h p e R s m args below meth c H locs ls Q C hl hP hS g
  refine lv_if_lt C.1 C.2.1 hd ht (fun q => ?_) (fun q => ?_)
  · rw [if_pos q] at h
    exact k1 h p e R s m args below meth c H locs ls Q C hl hP hS g
  · rw [if_neg q] at h
    exact k2 h p e R s m args below meth c H locs ls Q C hl hP hS g
theorem zs_icmp_lt {x y : Int32} {off : Int} {tgt : Nat} {inst : Decidable (x < y)} {A B : Option α} (hd : decode μ.2.2.1 pc = .ok (.if_icmp .lt off, 3)) (ht : (pc : Int) + off = (tgt : Int))
    (k1 : zSy E μ d M0 tg x0 A tgt loc st M) (k2 : zSy E μ d M0 tg x0 B (pc + 3) loc st M) : zSy E μ d M0 tg x0 (@ite _ (x < y) inst A B) pc loc (.int y :: .int x :: st) M := by
  intro h p e R s m args below meth c H locs ls Q C hl hP hS g
  refine lv_icmp_lt C.1 C.2.1 hd ht (fun q => ?_) (fun q => ?_)
  · rw [if_pos q] at h
    exact k1 h p e R s m args below meth c H locs ls Q C hl hP hS g
  · rw [if_neg q] at h
    exact k2 h p e R s m args below meth c H locs ls Q C hl hP hS g
theorem zs_if_ge {x : Int32} {off : Int} {tgt : Nat} {inst : Decidable (x ≥ 0)} {A B : Option α} (hd : decode μ.2.2.1 pc = .ok (.ifCond .ge off, 3)) (ht : (pc : Int) + off = (tgt : Int))
    (k1 : zSy E μ d M0 tg x0 A tgt loc st M) (k2 : zSy E μ d M0 tg x0 B (pc + 3) loc st M) : zSy E μ d M0 tg x0 (@ite _ (x ≥ 0) inst A B) pc loc (.int x :: st) M := by
  intro h p e R s m args below meth c H locs ls Q C hl hP hS g
  refine lv_if_ge C.1 C.2.1 hd ht (fun q => ?_) (fun q => ?_)
  · rw [if_pos q] at h
    exact k1 h p e R s m args below meth c H locs ls Q C hl hP hS g
  · rw [if_neg q] at h
    exact k2 h p e R s m args below meth c H locs ls Q C hl hP hS g
theorem zs_icmp_ge {x y : Int32} {off : Int} {tgt : Nat} {inst : Decidable (x ≥ y)} {A B : Option α} (hd : decode μ.2.2.1 pc = .ok (.if_icmp .ge off, 3)) (ht : (pc : Int) + off = (tgt : Int))
    (k1 : zSy E μ d M0 tg x0 A tgt loc st M) (k2 : zSy E μ d M0 tg x0 B (pc + 3) loc st M) : zSy E μ d M0 tg x0 (@ite _ (x ≥ y) inst A B) pc loc (.int y :: .int x :: st) M := by
  intro h p e R s m args below meth c H locs ls Q C hl hP hS g
  refine lv_icmp_ge C.1 C.2.1 hd ht (fun q => ?_) (fun q => ?_)
  · rw [if_pos q] at h
    exact k1 h p e R s m args below meth c H locs ls Q C hl hP hS g
  · rw [if_neg q] at h
    exact k2 h p e R s m args below meth c H locs ls Q C hl hP hS g
theorem zs_if_gt {x : Int32} {off : Int} {tgt : Nat} {inst : Decidable (x > 0)} {A B : Option α} (hd : decode μ.2.2.1 pc = .ok (.ifCond .gt off, 3)) (ht : (pc : Int) + off = (tgt : Int))
    (k1 : zSy E μ d M0 tg x0 A tgt loc st M) (k2 : zSy E μ d M0 tg x0 B (pc + 3) loc st M) : zSy E μ d M0 tg x0 (@ite _ (x > 0) inst A B) pc loc (.int x :: st) M := by
  intro h p e R s m args below meth c H locs ls Q C hl hP hS g
  refine lv_if_gt C.1 C.2.1 hd ht (fun q => ?_) (fun q => ?_)
  · rw [if_pos q] at h
    exact k1 h p e R s m args below meth c H locs ls Q C hl hP hS g
  · rw [if_neg q] at h
    exact k2 h p e R s m args below meth c H locs ls Q C hl hP hS g
theorem zs_icmp_gt {x y : Int32} {off : Int} {tgt : Nat} {inst : Decidable (x > y)} {A B : Option α} (hd : decode μ.2.2.1 pc = .ok (.if_icmp .gt off, 3)) (ht : (pc : Int) + off = (tgt : Int))
    (k1 : zSy E μ d M0 tg x0 A tgt loc st M) (k2 : zSy E μ d M0 tg x0 B (pc + 3) loc st M) : zSy E μ d M0 tg x0 (@ite _ (x > y) inst A B) pc loc (.int y :: .int x :: st) M := by
  intro h p e R s m args below meth c H locs ls Q C hl hP hS g
  refine lv_icmp_gt C.1 C.2.1 hd ht (fun q => ?_) (fun q => ?_)
  · rw [if_pos q] at h
    exact k1 h p e R s m args below meth c H locs ls Q C hl hP hS g
  · rw [if_neg q] at h
    exact k2 h p e R s m args below meth c H locs ls Q C hl hP hS g
theorem zs_if_le {x : Int32} {off : Int} {tgt : Nat} {inst : Decidable (x ≤ 0)} {A B : Option α} (hd : decode μ.2.2.1 pc = .ok (.ifCond .le off, 3)) (ht : (pc : Int) + off = (tgt : Int))
    (k1 : zSy E μ d M0 tg x0 A tgt loc st M) (k2 : zSy E μ d M0 tg x0 B (pc + 3) loc st M) : zSy E μ d M0 tg x0 (@ite _ (x ≤ 0) inst A B) pc loc (.int x :: st) M := by
  intro h p e R s m args below meth c H locs ls Q C hl hP hS g
  refine lv_if_le C.1 C.2.1 hd ht (fun q => ?_) (fun q => ?_)
  · rw [if_pos q] at h
    exact k1 h p e R s m args below meth c H locs ls Q C hl hP hS g
  · rw [if_neg q] at h
    exact k2 h p e R s m args below meth c H locs ls Q C hl hP hS g
theorem zs_icmp_le {x y : Int32} {off : Int} {tgt : Nat} {inst : Decidable (x ≤ y)} {A B : Option α} (hd : decode μ.2.2.1 pc = .ok (.if_icmp .le off, 3)) (ht : (pc : Int) + off = (tgt : Int))
    (k1 : zSy E μ d M0 tg x0 A tgt loc st M) (k2 : zSy E μ d M0 tg x0 B (pc + 3) loc st M) : zSy E μ d M0 tg x0 (@ite _ (x ≤ y) inst A B) pc loc (.int y :: .int x :: st) M := by
  intro h p e R s m args below meth c H locs ls Q C hl hP hS g
  refine lv_icmp_le C.1 C.2.1 hd ht (fun q => ?_) (fun q => ?_)
  · rw [if_pos q] at h
    exact k1 h p e R s m args below meth c H locs ls Q C hl hP hS g
  · rw [if_neg q] at h
    exact k2 h p e R s m args below meth c H locs ls Q C hl hP hS g
end ZS

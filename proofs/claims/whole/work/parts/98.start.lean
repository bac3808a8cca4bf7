theorem z_aoa_moved {u U : State} (hvm : u.vm.Alike U.vm) (h : (Cond.arrayOver (.array .int)).before #[] u = true) : (Cond.arrayOver (.array .int)).before #[] U = true := by
  unfold Cond.before Cond.holds at h ⊢
  simp only [Cond.value, beq_iff_eq, Option.bind_eq_some_iff, Option.map_eq_some_iff] at h ⊢
  obtain ⟨comp, h1, c, h2, k, h3, h4⟩ := h
  have key : ∀ (i : Nat) (h : i < u.vm.classes.size), ∃ h' : i < U.vm.classes.size, U.vm.classes[i].kind = u.vm.classes[i].kind := by
    intro i h
    obtain ⟨k1, hk1, he1⟩ := hvm.2.2 i _ (Array.getElem?_eq_getElem h)
    obtain ⟨h', e1⟩ := Array.getElem?_eq_some_iff.mp hk1
    refine ⟨h', ?_⟩
    rw [e1, he1]
  rw [Array.findIdx?_eq_some_iff_getElem] at h2
  obtain ⟨hlt, hp, hmin⟩ := h2
  obtain ⟨hlt', hkd⟩ := key c hlt
  have hku : u.vm.classes[c] = k := (Array.getElem?_eq_some_iff.mp h3).2
  refine ⟨comp, by rw [hvm.findClass]; exact h1, c, ?_, U.vm.classes[c], Array.getElem?_eq_getElem hlt', ?_⟩
  · rw [Array.findIdx?_eq_some_iff_getElem]
    refine ⟨hlt', by rw [hkd]; exact hp, fun j hj => ?_⟩
    obtain ⟨hj', hkj⟩ := key j (Nat.lt_trans hj hlt)
    rw [hkj]
    exact hmin j hj
  · rw [hkd, hku]
    cases hq : k.kind with
    | array x ty =>
      rw [hq] at h4
      simp only [Bool.and_eq_true, decide_eq_true_eq] at h4 ⊢
      exact ⟨h4.1, by rw [hvm.findClass]; exact h4.2⟩
    | _ => rw [hq] at h4; simp at h4
theorem z_ra {s : State} {args : Array Value} {ty : FieldType} (hp : ∀ C, ty ≠ .object C) (h : (Cond.arrayClass ty).before args s = true) : ∃ cA, ArrOfT s cA ty ∧ va_RA s cA ty := by
  obtain ⟨c, k, comp, h1, h2, h3⟩ := Cond.arrayClass_spec h
  refine ⟨c, fun n z => ⟨fun k h => (by cases h), k, h2, comp, h3⟩, ?_⟩
  cases ty with
  | object C => exact absurd rfl (hp C)
  | _ => exact h1
theorem z_sref {args : Array Value} {s : State} (hts : ∀ w ∈ lw_tbl, w.before args s = true) (j : Nat) (r : String × Nat × String) (hr : zsRl[j]? = some r) : (Cond.stringRef r.1 r.2.1 r.2.2).before args s = true := by
  match j, hr with
  | 0, hr => cases hr; exact hts _ (tb_2 _ (List.mem_of_getElem? (i := 100) rfl))
  | 1, hr => cases hr; exact hts _ (tb_2 _ (List.mem_of_getElem? (i := 161) rfl))
  | 2, hr => cases hr; exact hts _ (tb_2 _ (List.mem_of_getElem? (i := 193) rfl))
  | 3, hr => cases hr; exact hts _ (tb_2 _ (List.mem_of_getElem? (i := 229) rfl))
  | 4, hr => cases hr; exact hts _ (tb_2 _ (List.mem_of_getElem? (i := 235) rfl))
  | 5, hr => cases hr; exact hts _ (tb_6 _ (List.mem_of_getElem? (i := 65) rfl))
  | j + 6, hr => simp [zsRl] at hr
def zTm : Nat → Term := fun i => .string (zsRl.getD i ("", 0, "")).1 (zsRl.getD i ("", 0, "")).2.1
def zFl : List Cond := flatC (.and given_1 narrow_1)
set_option maxHeartbeats 4000000 in
set_option maxRecDepth 100000 in
theorem z_na1 : ∀ i, i < 6 → Cond.exactly (zTm i) "java/lang/String" ∈ zFl := by decide +kernel
set_option maxHeartbeats 4000000 in
set_option maxRecDepth 100000 in
theorem z_na2 : ∀ i, i < 6 → Cond.eq (.field (zTm i) "java/lang/String" "coder" "B") (.int 0) ∈ zFl := by decide +kernel
set_option maxHeartbeats 4000000 in
set_option maxRecDepth 100000 in
theorem z_na3 : ∀ i, i < 6 → Cond.arrayOf (.field (zTm i) "java/lang/String" "value" "[B") .byte ∈ zFl := by decide +kernel
set_option maxHeartbeats 4000000 in
set_option maxRecDepth 100000 in
theorem z_na4 : ∀ i, i < 6 → Cond.eq (.length (.field (zTm i) "java/lang/String" "value" "[B")) (.int (Int32.ofNat (zsN.getD i 0))) ∈ zFl := by decide +kernel
set_option maxHeartbeats 4000000 in
set_option maxRecDepth 100000 in
theorem z_na5 : ∀ i, i < 6 → ∀ j, j < zsN.getD i 0 → Cond.eq (.elem (.field (zTm i) "java/lang/String" "value" "[B") (.int (Int32.ofNat j))) (.int ((zsT.getD i []).getD j 0)) ∈ zFl := by decide +kernel
set_option maxHeartbeats 4000000 in
set_option maxRecDepth 100000 in
theorem z_na6 : ∀ i, i < 6 → ∀ j, j < 6 → i ≠ j → Cond.not (Cond.eq (zTm i) (zTm j)) ∈ zFl ∨ Cond.not (Cond.eq (zTm j) (zTm i)) ∈ zFl := by decide +kernel
set_option maxHeartbeats 4000000 in
set_option maxRecDepth 100000 in
theorem z_na7 : Cond.eq (.static "java/lang/String" "COMPACT_STRINGS" "Z") (.int 1) ∈ zFl := by decide +kernel
set_option maxHeartbeats 4000000 in
set_option maxRecDepth 100000 in
theorem z_na8 : Cond.isRef (.static "jdk/internal/util/Preconditions" "SIOOBE_FORMATTER" "Ljava/util/function/BiFunction;") ∈ zFl := by decide +kernel
set_option maxHeartbeats 4000000 in
set_option maxRecDepth 100000 in
theorem whole_start {p : Program} {e : Env} {s : State} {m : MethodId} {below : List Frame} {meth : Method} {c : Code} (l : Launch) (hflags : l.flags = flags0) {b L : Nat} {xs : Nat → Int32} (hL : L ≤ 3072) (C0 : lw_At p s m meth c b L xs) : W p l e room_1 s m #[Value.ref b] below meth c s.heap [] 0 0 (lw_Z below #[Value.ref b] s) (entryFrame m ([Value.ref b] : List Value).toArray 4) := by
  obtain ⟨hx, hb, hr, hml, hown, hts, hX, hbl, hlocks, hgv⟩ := id C0
  have htz : ∀ w ∈ zT, w.before #[Value.ref b] s = true := fun w h => hts w (List.mem_filter.mp h).1
  have hA : ∀ a : Nat, a < s.heap.size → ¬ (fun q : Nat => s.heap.size ≤ q) a := fun a h => Nat.not_le.mpr h

  obtain ⟨c0, i0, hKn0⟩ := u_known (C := RX0) (T := TX0) (N := 5) (n := 5) htz uw_X0 (htz (.instantiable RX0 5) (ti_1 208 rfl rfl))
  obtain ⟨c1, i1, hKn1⟩ := u_known (C := RX1) (T := TX1) (N := 10) (n := 10) htz uw_X1 (htz (.instantiable RX1 10) (ti_1 143 rfl rfl))
  obtain ⟨c2, i2, hKn2⟩ := u_known (C := RX3) (T := TX3) (N := 5) (n := 5) htz uw_X3 (htz (.instantiable RX3 5) (ti_1 118 rfl rfl))
  obtain ⟨c3, i3, hKn3⟩ := u_known (C := RX4) (T := TX4) (N := 10) (n := 10) htz uw_X4 (htz (.instantiable RX4 10) (ti_1 46 rfl rfl))
  obtain ⟨c4, i4, hKn4⟩ := u_known (C := RX6) (T := TX6) (N := 2) (n := 2) htz uw_X6 (htz (.instantiable RX6 2) (ti_1 104 rfl rfl))
  obtain ⟨c5, i5, hKn5⟩ := u_known (C := RX7) (T := TX7) (N := 2) (n := 2) htz uw_X7 (htz (.instantiable RX7 2) (ti_1 30 rfl rfl))
  obtain ⟨c6, i6, hKn6⟩ := u_known (C := RX8) (T := TX8) (N := 6) (n := 6) htz uw_X8 (htz (.instantiable RX8 6) (ti_1 182 rfl rfl))
  obtain ⟨c7, i7, hKn7⟩ := u_known (C := RX9) (T := TX9) (N := 2) (n := 2) htz uw_X9 (htz (.instantiable RX9 2) (ti_1 87 rfl rfl))
  obtain ⟨c8, i8, hKn8⟩ := u_known (C := RX10) (T := TX10) (N := 17) (n := 17) htz uw_X10 (htz (.instantiable RX10 17) (ti_1 22 rfl rfl))
  obtain ⟨c9, i9, hKn9⟩ := u_known (C := RX11) (T := TX11) (N := 52) (n := 52) htz uw_X11 (htz (.instantiable RX11 52) (ti_5 93 rfl rfl))
  obtain ⟨dC, dI, hKc⟩ : ∃ (dC : Nat → ClassId) (dI : Nat → Nat → Nat), ∀ (k : Nat) (q : vw_C), vwCl[k]? = some q → u_Kn s q.1 q.2.1 q.2.2 (dC k) (dI k) := by
    refine ⟨fun k => if k = 0 then c0 else if k = 1 then c1 else if k = 2 then c2 else if k = 3 then c3 else if k = 4 then c4 else if k = 5 then c5 else if k = 6 then c6 else if k = 7 then c7 else if k = 8 then c8 else c9, fun k => if k = 0 then i0 else if k = 1 then i1 else if k = 2 then i2 else if k = 3 then i3 else if k = 4 then i4 else if k = 5 then i5 else if k = 6 then i6 else if k = 7 then i7 else if k = 8 then i8 else i9, ?_⟩
    intro k q hq
    match k, hq with
    | 0, hq => cases hq; exact hKn0
    | 1, hq => cases hq; exact hKn1
    | 2, hq => cases hq; exact hKn2
    | 3, hq => cases hq; exact hKn3
    | 4, hq => cases hq; exact hKn4
    | 5, hq => cases hq; exact hKn5
    | 6, hq => cases hq; exact hKn6
    | 7, hq => cases hq; exact hKn7
    | 8, hq => cases hq; exact hKn8
    | 9, hq => cases hq; exact hKn9
    | k + 10, hq => simp [vwCl] at hq
  obtain ⟨a0, ha0, hb0⟩ := z_ra (ty := .int) (fun C h => by cases h) (htz _ (ti_1 44 rfl rfl))
  obtain ⟨a1, ha1, hb1⟩ := z_ra (ty := .long) (fun C h => by cases h) (htz _ (ti_1 180 rfl rfl))
  obtain ⟨a2, ha2, hb2⟩ := z_ra (ty := .byte) (fun C h => by cases h) (htz _ (ti_3 14 rfl rfl))
  obtain ⟨a3, ha3, hb3⟩ := z_ra (ty := .boolean) (fun C h => by cases h) (htz _ (ti_6 15 rfl rfl))
  have hover : (Cond.arrayOver (.array .int)).before #[Value.ref b] s = true := hts _ (tb_1 _ (List.mem_of_getElem? (i := 124) rfl))
  obtain ⟨comp, a4, k4, g1, g3, g4, g5⟩ := Cond.arrayOver_specA hover
  have ha4 : ArrOfT s a4 (.array .int) := fun n z => ⟨fun k h => (by cases h), k4, g3, comp, g4⟩
  have hs := flat_of_before _ hgv
  obtain ⟨adK, adV, hS6, hev⟩ := vk_Sof (N := 6) (tm := zTm) (len := zsN) (byt := zsT) (A := fun q : Nat => s.heap.size ≤ q) (by decide +kernel) (fun i hi => hs _ (z_na1 i hi)) (fun i hi => hs _ (z_na2 i hi)) (fun i hi => hs _ (z_na3 i hi)) (fun i hi => hs _ (z_na4 i hi)) (fun i hi j hj => hs _ (z_na5 i hi j hj)) (fun i j hi hj hne => (z_na6 i hi j hj hne).elim (fun h => Or.inl (hs _ h)) (fun h => Or.inr (hs _ h))) hA
  have hcs : va_Z "java/lang/String" "COMPACT_STRINGS" "Z" (.int 1) (fun q : Nat => s.heap.size ≤ q) s s.heap := va_Zof (hts _ (tb_2 _ (List.mem_of_getElem? (i := 114) rfl))) (hts _ (tb_1 _ (List.mem_of_getElem? (i := 13) rfl))) (va_eqi (hs _ z_na7)) hA
  have hsi : va_Zq "jdk/internal/util/Preconditions" "SIOOBE_FORMATTER" "Ljava/util/function/BiFunction;" (fun q : Nat => s.heap.size ≤ q) s s.heap := va_Zqof (hts _ (tb_2 _ (List.mem_of_getElem? (i := 130) rfl))) (hts _ (tb_1 _ (List.mem_of_getElem? (i := 15) rfl))) (hs _ z_na8) hA
  obtain ⟨PP, hPP⟩ : ∃ PP : State → Heap → Prop, PP = fun U H => va_X b L xs U H ∧ vk_S 6 zsN zsT adK adV (fun q : Nat => s.heap.size ≤ q) U H ∧ va_Z "java/lang/String" "COMPACT_STRINGS" "Z" (.int 1) (fun q : Nat => s.heap.size ≤ q) U H ∧ va_Zq "jdk/internal/util/Preconditions" "SIOOBE_FORMATTER" "Ljava/util/function/BiFunction;" (fun q : Nat => s.heap.size ≤ q) U H ∧ (∀ (j : Nat) (r : String × Nat × String), zsRl[j]? = some r → vk_R r.1 r.2.1 r.2.2 (adK j) U) ∧ (Cond.arrayOver (.array .int)).before #[] U = true := ⟨_, rfl⟩
  obtain ⟨E, hE0⟩ : ∃ E : zEnv, E = (l, (dC, dI), (fun k => if k = 100 then a0 else if k = 101 then a1 else if k = 102 then a2 else if k = 103 then a3 else a4), s.heap.size, PP, adK) := ⟨_, rfl⟩
  have hbs : E.2.2.2.1 = s.heap.size := by rw [hE0]
  have hAA : zA E = fun q : Nat => s.heap.size ≤ q := by rw [hE0]
  have hPPe : E.2.2.2.2.1 = PP := by rw [hE0]
  have hK : va_K E.2.1 vwCl (zTy E) s := by
    rw [hE0]
    refine ⟨hKc, fun k q h => ?_⟩
    match k, h with
    | 0, h => cases h; exact ⟨ha0, hb0⟩
    | 1, h => cases h; exact ⟨ha1, hb1⟩
    | 2, h => cases h; exact ⟨ha2, hb2⟩
    | 3, h => cases h; exact ⟨ha3, hb3⟩
    | 4, h => cases h; exact ⟨ha4, g5⟩
    | k + 5, h => simp [zTy] at h
  have hPok : zPok E := by
    refine ⟨fun u U H hW h => ?_, fun U H H1 hq h => ?_⟩
    · rw [hPPe, hPP] at h ⊢
      obtain ⟨h1, h2, h3, h4, h5, h6⟩ := h
      exact ⟨va_X.moved hW.alike h1, vk_S.moved hW.alike h2, va_Z.moved hW.alike h3, va_Zq.moved hW.alike h4, fun j r hr => vk_R.warm hW (h5 j r hr), z_aoa_moved hW.alike h6⟩
    · rw [hPPe, hPP] at h ⊢
      rw [hbs] at hq
      obtain ⟨h1, h2, h3, h4, h5, h6⟩ := h
      have hq2 : ∀ a : Nat, a < H.size → ¬ (fun q : Nat => s.heap.size ≤ q) a → H1[a]? = H[a]? := fun a _ ha => hq a (Nat.not_le.mp ha)
      exact ⟨h1.kept (hq b hbl), h2.kept hq2, h3.kept hq2, h4.kept hq2, h5, h6⟩
  have hE : zEok E := by
    refine ⟨adV, fun U H h => ?_⟩
    rw [hPPe, hPP] at h
    obtain ⟨h1, h2, h3, h4, h5, h6⟩ := h
    rw [hAA]
    have hk : E.2.2.2.2.2 = adK := by rw [hE0]
    rw [hk]
    exact ⟨h2, h3, h4, h5, h6⟩
  have hPs : E.2.2.2.2.1 s s.heap := by
    rw [hPPe, hPP]
    refine ⟨hX, hS6, hcs, hsi, fun j r hr => ?_, hover⟩
    have hj : j < 6 := (List.getElem?_eq_some_iff.mp hr).1
    refine vk_R.of (A := #[Value.ref b]) (z_sref hts j r hr) ?_
    have h1 := hev j hj
    have h2 : zTm j = .string r.1 r.2.1 := by
      unfold zTm
      rw [List.getD_eq_getElem?_getD, hr]
      rfl
    rw [h2] at h1
    exact h1
  obtain ⟨M', hM⟩ := math_law xs L hL
  have hl := lv_entry ([.ref b]) (n := 4) (Nat.le_of_ble_eq_true rfl)
  rw [lg_entry_eq]
  generalize (lg_sl ([.ref b]) ++ List.replicate (4 - (lg_sl ([.ref b])).length) Slot.unset).toArray = ls at hl ⊢
  have hlE : E.1 = l := by rw [hE0]
  have hP0 : zRep E zM0 s.heap := ⟨by rw [hbs]; rfl, fun k q h => by simp [zW, zM0, zS] at h⟩
  have w := ws_L_law E hE 2048 (by decide) xs L b (fun U H h => by rw [hPPe, hPP] at h; exact h.1) (by rw [hbs]; exact hbl) zM0 (1, M') hM p e room_1 s m #[Value.ref b] below meth c s.heap [] ls (lw_Z below #[Value.ref b] s) ⟨hx, hb, hml, hown, htz, hK, hPs, hPok, by rw [hbs]; rfl, ⟨by decide, by decide, by decide, by decide⟩, (fun h => absurd h (by decide)), ?_⟩ hl hP0 va_S.rf ⟨Nat.le_refl _, Nat.le_refl _, by decide, by decide⟩
  · rw [hlE] at w
    exact w
  · intro H locs ls2 pc hR hS g hnar hdg
    rw [hlE]
    refine va_forget (fun q hq => ?_) ?_
    · have h1 := hS.2.2 q hq
      rw [hAA] at h1
      exact h1
    refine W.widen (k := 600000) (n := 7302250) ?_ ?_ ?_
    · have := g.2.2.1; show zS M' - 0 ≤ _; omega
    · have := g.2.2.2; show zU M' - 0 ≤ _; omega
    exact W.base (lw_ret (Drawn.sameBut.refl s.drawn lw_cs) hx hb hr hlocks hdg)

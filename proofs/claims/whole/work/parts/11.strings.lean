abbrev mu_J0_length_8abf5 : zMu := (RJ0, yJ0_length_8abf5, cJ0_length_8abf5, 1, some .int)
theorem lm_J0_length_8abf5 : zLM mu_J0_length_8abf5 := ⟨ti_2 108 rfl rfl, ti_1 13 rfl rfl, ⟨by decide, by decide⟩, by decide⟩
theorem dJ0_length_8abf5_0 : decode cJ0_length_8abf5 0 = .ok (.aload_n 0, 1) := by decide +kernel
theorem dJ0_length_8abf5_1 : decode cJ0_length_8abf5 1 = .ok (.getfield 9, 3) := by decide +kernel
theorem dJ0_length_8abf5_4 : decode cJ0_length_8abf5 4 = .ok (.arraylength, 1) := by decide +kernel
theorem dJ0_length_8abf5_5 : decode cJ0_length_8abf5 5 = .ok (.aload_n 0, 1) := by decide +kernel
theorem dJ0_length_8abf5_6 : decode cJ0_length_8abf5 6 = .ok (.invokevirtual 335, 3) := by decide +kernel
theorem dJ0_length_8abf5_9 : decode cJ0_length_8abf5 9 = .ok (.ishr, 1) := by decide +kernel
theorem dJ0_length_8abf5_10 : decode cJ0_length_8abf5 10 = .ok (.ireturn, 1) := by decide +kernel
abbrev mu_J0_charAt_5068e : zMu := (RJ0, yJ0_charAt_5068e, cJ0_charAt_5068e, 2, some .char)
theorem lm_J0_charAt_5068e : zLM mu_J0_charAt_5068e := ⟨ti_2 118 rfl rfl, ti_1 13 rfl rfl, ⟨by decide, by decide⟩, by decide⟩
theorem dJ0_charAt_5068e_0 : decode cJ0_charAt_5068e 0 = .ok (.aload_n 0, 1) := by decide +kernel
theorem dJ0_charAt_5068e_1 : decode cJ0_charAt_5068e 1 = .ok (.invokevirtual 492, 3) := by decide +kernel
theorem dJ0_charAt_5068e_4 : decode cJ0_charAt_5068e 4 = .ok (.ifCond .eq 12, 3) := by decide +kernel
theorem dJ0_charAt_5068e_7 : decode cJ0_charAt_5068e 7 = .ok (.aload_n 0, 1) := by decide +kernel
theorem dJ0_charAt_5068e_8 : decode cJ0_charAt_5068e 8 = .ok (.getfield 9, 3) := by decide +kernel
theorem dJ0_charAt_5068e_11 : decode cJ0_charAt_5068e 11 = .ok (.iload_n 1, 1) := by decide +kernel
theorem dJ0_charAt_5068e_12 : decode cJ0_charAt_5068e 12 = .ok (.invokestatic 495, 3) := by decide +kernel
theorem dJ0_charAt_5068e_15 : decode cJ0_charAt_5068e 15 = .ok (.ireturn, 1) := by decide +kernel
theorem dJ0_charAt_5068e_16 : decode cJ0_charAt_5068e 16 = .ok (.aload_n 0, 1) := by decide +kernel
theorem dJ0_charAt_5068e_17 : decode cJ0_charAt_5068e 17 = .ok (.getfield 9, 3) := by decide +kernel
theorem dJ0_charAt_5068e_20 : decode cJ0_charAt_5068e 20 = .ok (.iload_n 1, 1) := by decide +kernel
theorem dJ0_charAt_5068e_21 : decode cJ0_charAt_5068e 21 = .ok (.invokestatic 498, 3) := by decide +kernel
theorem dJ0_charAt_5068e_24 : decode cJ0_charAt_5068e 24 = .ok (.ireturn, 1) := by decide +kernel
abbrev mu_J0_coder_7d493 : zMu := (RJ0, yJ0_coder_7d493, cJ0_coder_7d493, 1, some .byte)
theorem lm_J0_coder_7d493 : zLM mu_J0_coder_7d493 := ⟨ti_2 112 rfl rfl, ti_1 13 rfl rfl, ⟨by decide, by decide⟩, by decide⟩
theorem dJ0_coder_7d493_0 : decode cJ0_coder_7d493 0 = .ok (.getstatic 38, 3) := by decide +kernel
theorem dJ0_coder_7d493_3 : decode cJ0_coder_7d493 3 = .ok (.ifCond .eq 10, 3) := by decide +kernel
theorem dJ0_coder_7d493_6 : decode cJ0_coder_7d493 6 = .ok (.aload_n 0, 1) := by decide +kernel
theorem dJ0_coder_7d493_7 : decode cJ0_coder_7d493 7 = .ok (.getfield 15, 3) := by decide +kernel
theorem dJ0_coder_7d493_10 : decode cJ0_coder_7d493 10 = .ok (.goto 4, 3) := by decide +kernel
theorem dJ0_coder_7d493_13 : decode cJ0_coder_7d493 13 = .ok (.iconst 1, 1) := by decide +kernel
theorem dJ0_coder_7d493_14 : decode cJ0_coder_7d493 14 = .ok (.ireturn, 1) := by decide +kernel
abbrev mu_J0_isLatin1_aae02 : zMu := (RJ0, yJ0_isLatin1_aae02, cJ0_isLatin1_aae02, 1, some .boolean)
theorem lm_J0_isLatin1_aae02 : zLM mu_J0_isLatin1_aae02 := ⟨ti_2 122 rfl rfl, ti_1 13 rfl rfl, ⟨by decide, by decide⟩, by decide⟩
theorem dJ0_isLatin1_aae02_0 : decode cJ0_isLatin1_aae02 0 = .ok (.getstatic 38, 3) := by decide +kernel
theorem dJ0_isLatin1_aae02_3 : decode cJ0_isLatin1_aae02 3 = .ok (.ifCond .eq 14, 3) := by decide +kernel
theorem dJ0_isLatin1_aae02_6 : decode cJ0_isLatin1_aae02 6 = .ok (.aload_n 0, 1) := by decide +kernel
theorem dJ0_isLatin1_aae02_7 : decode cJ0_isLatin1_aae02 7 = .ok (.getfield 15, 3) := by decide +kernel
theorem dJ0_isLatin1_aae02_10 : decode cJ0_isLatin1_aae02 10 = .ok (.ifCond .ne 7, 3) := by decide +kernel
theorem dJ0_isLatin1_aae02_13 : decode cJ0_isLatin1_aae02 13 = .ok (.iconst 1, 1) := by decide +kernel
theorem dJ0_isLatin1_aae02_14 : decode cJ0_isLatin1_aae02 14 = .ok (.goto 4, 3) := by decide +kernel
theorem dJ0_isLatin1_aae02_17 : decode cJ0_isLatin1_aae02 17 = .ok (.iconst 0, 1) := by decide +kernel
theorem dJ0_isLatin1_aae02_18 : decode cJ0_isLatin1_aae02 18 = .ok (.ireturn, 1) := by decide +kernel
abbrev mu_J1_charAt_3b067 : zMu := (RJ1, yJ1_charAt_3b067, cJ1_charAt_3b067, 2, some .char)
theorem lm_J1_charAt_3b067 : zLM mu_J1_charAt_3b067 := ⟨ti_2 125 rfl rfl, ti_1 14 rfl rfl, ⟨by decide, by decide⟩, by decide⟩
theorem dJ1_charAt_3b067_0 : decode cJ1_charAt_3b067 0 = .ok (.iload_n 1, 1) := by decide +kernel
theorem dJ1_charAt_3b067_1 : decode cJ1_charAt_3b067 1 = .ok (.aload_n 0, 1) := by decide +kernel
theorem dJ1_charAt_3b067_2 : decode cJ1_charAt_3b067 2 = .ok (.arraylength, 1) := by decide +kernel
theorem dJ1_charAt_3b067_3 : decode cJ1_charAt_3b067 3 = .ok (.invokestatic 9, 3) := by decide +kernel
theorem dJ1_charAt_3b067_6 : decode cJ1_charAt_3b067 6 = .ok (.aload_n 0, 1) := by decide +kernel
theorem dJ1_charAt_3b067_7 : decode cJ1_charAt_3b067 7 = .ok (.iload_n 1, 1) := by decide +kernel
theorem dJ1_charAt_3b067_8 : decode cJ1_charAt_3b067 8 = .ok (.baload, 1) := by decide +kernel
theorem dJ1_charAt_3b067_9 : decode cJ1_charAt_3b067 9 = .ok (.sipush 255, 3) := by decide +kernel
theorem dJ1_charAt_3b067_12 : decode cJ1_charAt_3b067 12 = .ok (.iand, 1) := by decide +kernel
theorem dJ1_charAt_3b067_13 : decode cJ1_charAt_3b067 13 = .ok (.i2c, 1) := by decide +kernel
theorem dJ1_charAt_3b067_14 : decode cJ1_charAt_3b067 14 = .ok (.ireturn, 1) := by decide +kernel
abbrev mu_J0_checkIndex_df160 : zMu := (RJ0, yJ0_checkIndex_df160, cJ0_checkIndex_df160, 2, none)
theorem lm_J0_checkIndex_df160 : zLM mu_J0_checkIndex_df160 := ⟨ti_2 128 rfl rfl, ti_1 13 rfl rfl, ⟨by decide, by decide⟩, by decide⟩
theorem dJ0_checkIndex_df160_0 : decode cJ0_checkIndex_df160 0 = .ok (.iload_n 0, 1) := by decide +kernel
theorem dJ0_checkIndex_df160_1 : decode cJ0_checkIndex_df160 1 = .ok (.iload_n 1, 1) := by decide +kernel
theorem dJ0_checkIndex_df160_2 : decode cJ0_checkIndex_df160 2 = .ok (.getstatic 1053, 3) := by decide +kernel
theorem dJ0_checkIndex_df160_5 : decode cJ0_checkIndex_df160 5 = .ok (.invokestatic 1059, 3) := by decide +kernel
theorem dJ0_checkIndex_df160_8 : decode cJ0_checkIndex_df160 8 = .ok (.pop, 1) := by decide +kernel
theorem dJ0_checkIndex_df160_9 : decode cJ0_checkIndex_df160 9 = .ok (.return_, 1) := by decide +kernel
abbrev mu_J3_checkIndex_8e157 : zMu := (RJ3, yJ3_checkIndex_8e157, cJ3_checkIndex_8e157, 3, some .int)
theorem lm_J3_checkIndex_8e157 : zLM mu_J3_checkIndex_8e157 := ⟨ti_2 133 rfl rfl, ti_1 15 rfl rfl, ⟨by decide, by decide⟩, by decide⟩
theorem dJ3_checkIndex_8e157_0 : decode cJ3_checkIndex_8e157 0 = .ok (.iload_n 0, 1) := by decide +kernel
theorem dJ3_checkIndex_8e157_1 : decode cJ3_checkIndex_8e157 1 = .ok (.ifCond .lt 8, 3) := by decide +kernel
theorem dJ3_checkIndex_8e157_4 : decode cJ3_checkIndex_8e157 4 = .ok (.iload_n 0, 1) := by decide +kernel
theorem dJ3_checkIndex_8e157_5 : decode cJ3_checkIndex_8e157 5 = .ok (.iload_n 1, 1) := by decide +kernel
theorem dJ3_checkIndex_8e157_6 : decode cJ3_checkIndex_8e157 6 = .ok (.if_icmp .lt 10, 3) := by decide +kernel
theorem dJ3_checkIndex_8e157_9 : decode cJ3_checkIndex_8e157 9 = .ok (.aload_n 2, 1) := by decide +kernel
theorem dJ3_checkIndex_8e157_10 : decode cJ3_checkIndex_8e157 10 = .ok (.iload_n 0, 1) := by decide +kernel
theorem dJ3_checkIndex_8e157_11 : decode cJ3_checkIndex_8e157 11 = .ok (.iload_n 1, 1) := by decide +kernel
theorem dJ3_checkIndex_8e157_12 : decode cJ3_checkIndex_8e157 12 = .ok (.invokestatic 95, 3) := by decide +kernel
theorem dJ3_checkIndex_8e157_15 : decode cJ3_checkIndex_8e157 15 = .ok (.athrow, 1) := by decide +kernel
theorem dJ3_checkIndex_8e157_16 : decode cJ3_checkIndex_8e157 16 = .ok (.iload_n 0, 1) := by decide +kernel
theorem dJ3_checkIndex_8e157_17 : decode cJ3_checkIndex_8e157 17 = .ok (.ireturn, 1) := by decide +kernel
section ZT2
variable {E : zEnv} {μ : zMu} {d : Nat} {M0 : zM} {tg : Option Value × zM} {α β : Type} {x0 : α} {t : Option α} {pc : Nat} {loc : List (Nat × Value)} {st rest : List Value} {M : zM} {adV : Nat → Nat}
/-- what zEok says, its arrays at adV -/
def zStE (E : zEnv) (adV : Nat → Nat) : Prop := ∀ (U : State) (H : Heap), E.2.2.2.2.1 U H →
  vk_S 6 zsN zsT E.2.2.2.2.2 adV (zA E) U H ∧ va_Z "java/lang/String" "COMPACT_STRINGS" "Z" (.int 1) (zA E) U H ∧ va_Zq "jdk/internal/util/Preconditions" "SIOOBE_FORMATTER" "Ljava/util/function/BiFunction;" (zA E) U H
theorem zs_sval {index j : Nat} (hE : zStE E adV) (hj : j < 6) (hd : decode μ.2.2.1 pc = .ok (.getfield index, 3)) (hl : Cond.fieldLink μ.1 index "java/lang/String" "value" "[B" ∈ zT) (k : zSy E μ d M0 tg x0 t (pc + 3) loc (.ref (adV j) :: st) M) : zSy E μ d M0 tg x0 t pc loc (.ref (E.2.2.2.2.2 j) :: st) M := by
  intro hh p e R s m args below meth c H locs ls Q K hl' hP hS g
  exact vk_getf K.1 K.2.1 ((hE s s.heap K.2.2.2.2.2.2.1).1.1 j hj).2.2.1 hS K.2.2.2.1 (K.2.2.2.2.1 _ hl) (fun _ h => h) hd (k hh p e R s m args below meth c H locs ls Q K hl' hP hS g)
theorem zs_scod {index j : Nat} (hE : zStE E adV) (hj : j < 6) (hd : decode μ.2.2.1 pc = .ok (.getfield index, 3)) (hl : Cond.fieldLink μ.1 index "java/lang/String" "coder" "B" ∈ zT) (k : zSy E μ d M0 tg x0 t (pc + 3) loc (.int 0 :: st) M) : zSy E μ d M0 tg x0 t pc loc (.ref (E.2.2.2.2.2 j) :: st) M := by
  intro hh p e R s m args below meth c H locs ls Q K hl' hP hS g
  exact vk_getf K.1 K.2.1 ((hE s s.heap K.2.2.2.2.2.2.1).1.1 j hj).2.1 hS K.2.2.2.1 (K.2.2.2.2.1 _ hl) (fun _ h => h) hd (k hh p e R s m args below meth c H locs ls Q K hl' hP hS g)
theorem zs_scomp {index : Nat} (hE : zStE E adV) (hd : decode μ.2.2.1 pc = .ok (.getstatic index, 3)) (hl : Cond.fieldLink μ.1 index "java/lang/String" "COMPACT_STRINGS" "Z" ∈ zT) (k : zSy E μ d M0 tg x0 t (pc + 3) loc (.int 1 :: st) M) : zSy E μ d M0 tg x0 t pc loc st M := by
  intro hh p e R s m args below meth c H locs ls Q K hl' hP hS g
  exact va_gets K.1 K.2.1 (hE s s.heap K.2.2.2.2.2.2.1).2.1 hS K.2.2.2.1 (K.2.2.2.2.1 _ hl) (fun _ h => h) hd (k hh p e R s m args below meth c H locs ls Q K hl' hP hS g)
theorem zs_ssio {index : Nat} (hE : zStE E adV) (hd : decode μ.2.2.1 pc = .ok (.getstatic index, 3)) (hl : Cond.fieldLink μ.1 index "jdk/internal/util/Preconditions" "SIOOBE_FORMATTER" "Ljava/util/function/BiFunction;" ∈ zT) (k : ∀ v : Value, v = .null ∨ (∃ q, v = .ref q) → zSy E μ d M0 tg x0 t (pc + 3) loc (v :: st) M) : zSy E μ d M0 tg x0 t pc loc st M := by
  intro hh p e R s m args below meth c H locs ls Q K hl' hP hS g
  rcases (hE s s.heap K.2.2.2.2.2.2.1).2.2 with hq | ⟨q, hq⟩
  · exact va_gets K.1 K.2.1 hq hS K.2.2.2.1 (K.2.2.2.2.1 _ hl) (fun _ h => h) hd (k _ (Or.inl rfl) hh p e R s m args below meth c H locs ls Q K hl' hP hS g)
  exact va_gets K.1 K.2.1 hq hS K.2.2.2.1 (K.2.2.2.2.1 _ hl) (fun _ h => h) hd (k _ (Or.inr ⟨q, rfl⟩) hh p e R s m args below meth c H locs ls Q K hl' hP hS g)
theorem zs_sal {j : Nat} (hE : zStE E adV) (hj : j < 6) (hd : decode μ.2.2.1 pc = .ok (.arraylength, 1)) (k : zSy E μ d M0 tg x0 t (pc + 1) loc (.int (Int32.ofNat (zsN.getD j 0)) :: st) M) : zSy E μ d M0 tg x0 t pc loc (.ref (adV j) :: st) M := by
  intro hh p e R s m args below meth c H locs ls Q K hl' hP hS g
  exact va_tlen K.1 K.2.1 ((hE s s.heap K.2.2.2.2.2.2.1).1.1 j hj).2.2.2 hS rfl hd (k hh p e R s m args below meth c H locs ls Q K hl' hP hS g)
theorem zs_sby {j : Nat} {i : Int32} (hE : zStE E adV) (hj : j < 6) (hd : decode μ.2.2.1 pc = .ok (.baload, 1)) (hi : ¬ (i < 0 ∨ zsN.getD j 0 ≤ i.toNatClampNeg)) (k : zSy E μ d M0 tg x0 t (pc + 1) loc (.int ((zsT.getD j []).getD i.toNatClampNeg 0) :: st) M) : zSy E μ d M0 tg x0 t pc loc (.int i :: .ref (adV j) :: st) M := by
  intro hh p e R s m args below meth c H locs ls Q K hl' hP hS g
  exact va_tb K.1 K.2.1 ((hE s s.heap K.2.2.2.2.2.2.1).1.1 j hj).2.2.2 hS (show vp_in i _ from hi) rfl hd (k hh p e R s m args below meth c H locs ls Q K hl' hP hS g)
theorem zs_invS_str {index d' j : Nat} {μ' : zMu} {t0 : Option β} {f : β → Option α} {ψ : β → Option Value × zM} (hE : zStE E adV) (hj : j < 6) (As : List Value) (hd : decode μ.2.2.1 pc = .ok (.invokevirtual index, 3)) (hL : zLM μ') (hl1 : Cond.methodLink μ.1 index μ'.2.1 ∈ zT) (hl2 : Cond.instanceMethod μ'.2.1 ∈ zT) (hl3 : Cond.selects "java/lang/String" μ'.2.1 μ'.2.1 ∈ lw_tbl) (hn : zLn μ' As.length) (hdd : d' + 1 ≤ d) (hst : st = As.reverse ++ .ref (E.2.2.2.2.2 j) :: rest) (hr : (rest.map fun v => v.category).sum ≤ 8)
    (hc : ∀ y, t0 = some y → zCt E μ' d' (.ref (E.2.2.2.2.2 j) :: As) M (ψ y)) (kk : ∀ y, zSy E μ d M0 tg x0 (f y) (pc + 3) loc ((ψ y).1.toList ++ rest) (ψ y).2) : zSy E μ d M0 tg x0 (t0.bind f) pc loc st M := by
  intro hh
  obtain ⟨y, hv, hy⟩ := Option.bind_eq_some_iff.mp hh
  intro p e R s m args below meth c H locs ls Q K hl hP hS g T hT X
  have hw := K.2.2.2.2.1
  obtain ⟨cell, k1, k2, k3⟩ := vk_recv (hE s s.heap K.2.2.2.2.2.2.1).1 hj hS
  obtain ⟨v, vm₁, B, hW, X', hp, hs⟩ := callV X K.1 (g := F0 m pc ls st) (C := "java/lang/String") (bytes := μ'.2.2.1) (maxL := μ'.2.2.2.1) (ret := μ'.2.2.2.2) K.2.2.2.1 (hw _ hl1) (hw _ hl2) (hw _ (zT_in hl3 rfl)) (hw _ hL.1) hL.2.2.1 (z_back (d := d) (hc y hv) hw hL hdd ⟨K.2.2.2.2.2.2.2.2.2.1.1, K.2.2.2.2.2.2.2.2.2.1.2.1⟩) (by rw [hT]; exact k1) k2 k3 rfl (hl.1.trans K.2.2.1.symm) (argsL := As) (rest := rest) (zLn_of hn) hst (lv_room hr) (by rw [K.2.1]; exact hd) (fun vm₁ hW => ⟨(zRoomA K g).1, (zRoomA K g).2, rfl, zPreA K hP hS g hT hW⟩)
  exact zs_back (f := f) (t0 := t0) (y := y) K hl hS g hT hp X' hs hy (kk y)
theorem ct_J0_coder_7d493 {j : Nat} (hE : zStE E adV) (hj : j < 6) (d : Nat) (hd : 1 ≤ d) (M : zM) : zCt E mu_J0_coder_7d493 d [.ref (E.2.2.2.2.2 j)] M (some (.int 0), M) := by
  refine zCt_of (μ := mu_J0_coder_7d493) (t := if (1 : Int32) = 0 then none else some (0 : Int32)) (x0 := 0) rfl rfl (Nat.le_of_ble_eq_true rfl) rfl ?_
  change zSy E mu_J0_coder_7d493 d M (some (.int 0), M) (0 : Int32) _ 0 [(0, .ref (E.2.2.2.2.2 j))] [] M
  refine zs_scomp hE dJ0_coder_7d493_0 (ti_2 113 rfl rfl) ?_
  refine zs_if_eq dJ0_coder_7d493_3 rfl zs_none ?_
  refine zs_aload_n dJ0_coder_7d493_6 rfl 0 rfl ?_
  refine zs_scod hE hj dJ0_coder_7d493_7 (ti_8 43 rfl rfl) ?_
  refine zs_goto dJ0_coder_7d493_10 rfl ?_
  exact zs_iretP dJ0_coder_7d493_14 rfl
theorem ct_J0_isLatin1_aae02 {j : Nat} (hE : zStE E adV) (hj : j < 6) (d : Nat) (hd : 1 ≤ d) (M : zM) : zCt E mu_J0_isLatin1_aae02 d [.ref (E.2.2.2.2.2 j)] M (some (.int 1), M) := by
  refine zCt_of (μ := mu_J0_isLatin1_aae02) (t := if (1 : Int32) = 0 then none else if (0 : Int32) ≠ 0 then none else some (1 : Int32)) (x0 := 1) rfl rfl (Nat.le_of_ble_eq_true rfl) rfl ?_
  change zSy E mu_J0_isLatin1_aae02 d M (some (.int 1), M) (1 : Int32) _ 0 [(0, .ref (E.2.2.2.2.2 j))] [] M
  refine zs_scomp hE dJ0_isLatin1_aae02_0 (ti_2 113 rfl rfl) ?_
  refine zs_if_eq dJ0_isLatin1_aae02_3 rfl zs_none ?_
  refine zs_aload_n dJ0_isLatin1_aae02_6 rfl 0 rfl ?_
  refine zs_scod hE hj dJ0_isLatin1_aae02_7 (ti_8 43 rfl rfl) ?_
  refine zs_if_ne dJ0_isLatin1_aae02_10 rfl zs_none ?_
  refine zs_iconst (v := 1) dJ0_isLatin1_aae02_13 (by rfl) ?_
  refine zs_goto dJ0_isLatin1_aae02_14 rfl ?_
  exact zs_iretP dJ0_isLatin1_aae02_18 rfl
theorem ct_J3_checkIndex_8e157 {i n : Int32} {v : Value} (hv : v = .null ∨ ∃ q, v = .ref q) (h1 : ¬ i < 0) (h2 : i < n) (d : Nat) (hd : 1 ≤ d) (M : zM) : zCt E mu_J3_checkIndex_8e157 d [.int i, .int n, v] M (some (.int i), M) := by
  rcases hv with rfl | ⟨q, rfl⟩
  all_goals
    refine zCt_of (μ := mu_J3_checkIndex_8e157) (t := if i < 0 then none else if i < n then some i else none) (x0 := i) rfl rfl (Nat.le_of_ble_eq_true rfl) (by rw [if_neg h1, if_pos h2]) ?_
    change zSy E mu_J3_checkIndex_8e157 d M (some (.int i), M) i _ 0 [(0, .int i), (1, .int n), (2, _)] [] M
    refine zs_iload_n dJ3_checkIndex_8e157_0 rfl 0 rfl ?_
    refine zs_if_lt dJ3_checkIndex_8e157_1 rfl zs_none ?_
    refine zs_iload_n dJ3_checkIndex_8e157_4 rfl 0 rfl ?_
    refine zs_iload_n dJ3_checkIndex_8e157_5 rfl 1 rfl ?_
    refine zs_icmp_lt dJ3_checkIndex_8e157_6 rfl ?_ zs_none
    refine zs_iload_n dJ3_checkIndex_8e157_16 rfl 0 rfl ?_
    exact zs_iretP dJ3_checkIndex_8e157_17 rfl
theorem ct_J0_checkIndex_df160 {i n : Int32} (hE : zStE E adV) (h1 : ¬ i < 0) (h2 : i < n) (d : Nat) (hd : 2 ≤ d) (M : zM) : zCt E mu_J0_checkIndex_df160 d [.int i, .int n] M (none, M) := by
  refine zCt_of (μ := mu_J0_checkIndex_df160) (t := (some i).bind fun _ => some M) (x0 := M) rfl rfl (Nat.le_of_ble_eq_true rfl) rfl ?_
  change zSy E mu_J0_checkIndex_df160 d M (none, M) M _ 0 [(0, .int i), (1, .int n)] [] M
  refine zs_iload_n dJ0_checkIndex_df160_0 rfl 0 rfl ?_
  refine zs_iload_n dJ0_checkIndex_df160_1 rfl 1 rfl ?_
  refine zs_ssio hE dJ0_checkIndex_df160_2 (ti_2 129 rfl rfl) (fun v hv => ?_)
  refine zs_invS0 (μ' := mu_J3_checkIndex_8e157) (rest := []) (ψ := fun y : Int32 => (some (.int y), M)) [.int i, .int n, v] dJ0_checkIndex_df160_5 lm_J3_checkIndex_8e157 (ti_2 131 rfl rfl) (ti_2 132 rfl rfl) (zLni (n := 3) (by decide +kernel)) (zd1 rfl hd) rfl (Nat.le_of_ble_eq_true rfl) (fun y hy => by cases hy; exact ct_J3_checkIndex_8e157 hv h1 h2 _ (zdl rfl hd) M) (fun y => ?_)
  refine zs_pop (va := .int y) dJ0_checkIndex_df160_8 rfl ?_
  exact zs_vret dJ0_checkIndex_df160_9 trivial
theorem zsb_ok : ∀ j, j < 6 → ∀ i, i < zsN.getD j 0 → ((((zsT.getD j []).getD i 0 &&& 255)).toUInt32 % 65536).toInt32 = (zsT.getD j []).getD i 0 ∧ narrow .char (.int ((zsT.getD j []).getD i 0)) = .int ((zsT.getD j []).getD i 0) := by decide +kernel
theorem zsn_ok : ∀ j, j < 6 → zsN.getD j 0 < 100 ∧ (Int32.ofNat (zsN.getD j 0) >>> ((0 : Int32) &&& 31)) = Int32.ofNat (zsN.getD j 0) := by decide +kernel
theorem zs_ltn {i : Int32} {n : Nat} (hn : n < 100) (h : ¬ (i < 0 ∨ n ≤ i.toNatClampNeg)) : ¬ i < 0 ∧ i < Int32.ofNat n := by
  have h0 : ¬ i < 0 := fun z => h (Or.inl z)
  have h1 : i.toNatClampNeg < n := Nat.not_le.mp fun z => h (Or.inr z)
  refine ⟨h0, ?_⟩
  rw [Int32.lt_iff_toInt_lt, Int32.toInt_ofNat_of_lt (by omega)]
  have h2 : i.toInt.toNat < n := h1
  have h3 : ¬ i.toInt < 0 := by
    rw [Int32.lt_iff_toInt_lt] at h0
    simpa using h0
  omega
theorem ct_J1_charAt_3b067 {j : Nat} {i : Int32} (hE : zStE E adV) (hj : j < 6) (hi : ¬ (i < 0 ∨ zsN.getD j 0 ≤ i.toNatClampNeg)) (d : Nat) (hd : 3 ≤ d) (M : zM) : zCt E mu_J1_charAt_3b067 d [.ref (adV j), .int i] M (some (.int ((zsT.getD j []).getD i.toNatClampNeg 0)), M) := by
  obtain ⟨g1, g2⟩ := zs_ltn (zsn_ok j hj).1 hi
  have hlt : i.toNatClampNeg < zsN.getD j 0 := Nat.not_le.mp fun z => hi (Or.inr z)
  obtain ⟨b1, b2⟩ := zsb_ok j hj _ hlt
  refine zCt_of (μ := mu_J1_charAt_3b067) (t := (some ()).bind fun _ => some ((zsT.getD j []).getD i.toNatClampNeg 0)) (x0 := (zsT.getD j []).getD i.toNatClampNeg 0) rfl rfl (Nat.le_of_ble_eq_true rfl) rfl ?_
  change zSy E mu_J1_charAt_3b067 d M (some (.int ((zsT.getD j []).getD i.toNatClampNeg 0)), M) ((zsT.getD j []).getD i.toNatClampNeg 0) _ 0 [(0, .ref (adV j)), (1, .int i)] [] M
  refine zs_iload_n dJ1_charAt_3b067_0 rfl 1 rfl ?_
  refine zs_aload_n dJ1_charAt_3b067_1 rfl 0 rfl ?_
  refine zs_sal hE hj dJ1_charAt_3b067_2 ?_
  refine zs_invS0 (μ' := mu_J0_checkIndex_df160) (rest := []) (ψ := fun _ : Unit => (none, M)) [.int i, .int (Int32.ofNat (zsN.getD j 0))] dJ1_charAt_3b067_3 lm_J0_checkIndex_df160 (ti_2 126 rfl rfl) (ti_2 127 rfl rfl) (zLni (n := 2) (by decide +kernel)) (zd1 rfl hd) rfl (Nat.le_of_ble_eq_true rfl) (fun y hy => ct_J0_checkIndex_df160 hE g1 g2 _ (zdl rfl hd) M) (fun y => ?_)
  refine zs_aload_n dJ1_charAt_3b067_6 rfl 0 rfl ?_
  refine zs_iload_n dJ1_charAt_3b067_7 rfl 1 rfl ?_
  refine zs_sby hE hj dJ1_charAt_3b067_8 hi ?_
  refine zs_sipush (v := 255) dJ1_charAt_3b067_9 (by decide +kernel) ?_
  refine zs_iand dJ1_charAt_3b067_12 ?_
  refine zs_i2c dJ1_charAt_3b067_13 ?_
  rw [b1]
  exact zs_iretP dJ1_charAt_3b067_14 b2
theorem ct_J0_charAt_5068e {j : Nat} {i : Int32} (hE : zStE E adV) (hj : j < 6) (hi : ¬ (i < 0 ∨ zsN.getD j 0 ≤ i.toNatClampNeg)) (d : Nat) (hd : 4 ≤ d) (M : zM) : zCt E mu_J0_charAt_5068e d [.ref (E.2.2.2.2.2 j), .int i] M (some (.int ((zsT.getD j []).getD i.toNatClampNeg 0)), M) := by
  have hlt : i.toNatClampNeg < zsN.getD j 0 := Nat.not_le.mp fun z => hi (Or.inr z)
  obtain ⟨b1, b2⟩ := zsb_ok j hj _ hlt
  refine zCt_of (μ := mu_J0_charAt_5068e) (t := (some ()).bind fun _ => if (1 : Int32) = 0 then none else (some ((zsT.getD j []).getD i.toNatClampNeg 0)).bind fun r => some r) (x0 := (zsT.getD j []).getD i.toNatClampNeg 0) rfl rfl (Nat.le_of_ble_eq_true rfl) rfl ?_
  change zSy E mu_J0_charAt_5068e d M (some (.int ((zsT.getD j []).getD i.toNatClampNeg 0)), M) ((zsT.getD j []).getD i.toNatClampNeg 0) _ 0 [(0, .ref (E.2.2.2.2.2 j)), (1, .int i)] [] M
  refine zs_aload_n dJ0_charAt_5068e_0 rfl 0 rfl ?_
  refine zs_invS_str (μ' := mu_J0_isLatin1_aae02) (rest := []) (ψ := fun _ : Unit => (some (.int 1), M)) hE hj [] dJ0_charAt_5068e_1 lm_J0_isLatin1_aae02 (ti_2 119 rfl rfl) (ti_2 120 rfl rfl) (tb_2 _ (List.mem_of_getElem? (i := 121) rfl)) (zLni (n := 0) (by decide +kernel)) (zd1 rfl hd) rfl (Nat.le_of_ble_eq_true rfl) (fun y hy => ct_J0_isLatin1_aae02 hE hj _ (zdl rfl hd) M) (fun y => ?_)
  refine zs_if_eq (x := 1) dJ0_charAt_5068e_4 rfl zs_none ?_
  refine zs_aload_n dJ0_charAt_5068e_7 rfl 0 rfl ?_
  refine zs_sval hE hj dJ0_charAt_5068e_8 (ti_8 42 rfl rfl) ?_
  refine zs_iload_n dJ0_charAt_5068e_11 rfl 1 rfl ?_
  refine zs_invS0 (μ' := mu_J1_charAt_3b067) (rest := []) (ψ := fun y : Int32 => (some (.int y), M)) [.ref (adV j), .int i] dJ0_charAt_5068e_12 lm_J1_charAt_3b067 (ti_2 123 rfl rfl) (ti_2 124 rfl rfl) (zLni (n := 2) (by decide +kernel)) (zd1 rfl hd) rfl (Nat.le_of_ble_eq_true rfl) (fun y hy => by cases hy; exact ct_J1_charAt_3b067 hE hj hi _ (zdl rfl hd) M) (fun y => ?_)
  intro hy
  cases hy
  exact zs_iretP (x0 := (zsT.getD j []).getD i.toNatClampNeg 0) dJ0_charAt_5068e_15 b2 rfl
theorem ct_J0_length_8abf5 {j : Nat} (hE : zStE E adV) (hj : j < 6) (d : Nat) (hd : 2 ≤ d) (M : zM) : zCt E mu_J0_length_8abf5 d [.ref (E.2.2.2.2.2 j)] M (some (.int (Int32.ofNat (zsN.getD j 0))), M) := by
  refine zCt_of (μ := mu_J0_length_8abf5) (t := (some ()).bind fun _ => some (Int32.ofNat (zsN.getD j 0))) (x0 := Int32.ofNat (zsN.getD j 0)) rfl rfl (Nat.le_of_ble_eq_true rfl) rfl ?_
  change zSy E mu_J0_length_8abf5 d M (some (.int (Int32.ofNat (zsN.getD j 0))), M) (Int32.ofNat (zsN.getD j 0)) _ 0 [(0, .ref (E.2.2.2.2.2 j))] [] M
  refine zs_aload_n dJ0_length_8abf5_0 rfl 0 rfl ?_
  refine zs_sval hE hj dJ0_length_8abf5_1 (ti_8 42 rfl rfl) ?_
  refine zs_sal hE hj dJ0_length_8abf5_4 ?_
  refine zs_aload_n dJ0_length_8abf5_5 rfl 0 rfl ?_
  refine zs_invS_str (μ' := mu_J0_coder_7d493) (rest := [.int (Int32.ofNat (zsN.getD j 0))]) (ψ := fun _ : Unit => (some (.int 0), M)) hE hj [] dJ0_length_8abf5_6 lm_J0_coder_7d493 (ti_2 109 rfl rfl) (ti_2 110 rfl rfl) (tb_2 _ (List.mem_of_getElem? (i := 111) rfl)) (zLni (n := 0) (by decide +kernel)) (zd1 rfl hd) rfl (Nat.le_of_ble_eq_true rfl) (fun y hy => ct_J0_coder_7d493 hE hj _ (zdl rfl hd) M) (fun y => ?_)
  refine zs_ishr (x := Int32.ofNat (zsN.getD j 0)) (y := 0) dJ0_length_8abf5_9 ?_
  rw [(zsn_ok j hj).2]
  exact zs_iretP dJ0_length_8abf5_10 rfl
theorem zEok_str (hE : zEok E) : ∃ adV, zStE E adV := by
  obtain ⟨adV, h⟩ := hE
  exact ⟨adV, fun U H hP => ⟨(h U H hP).1, (h U H hP).2.1, (h U H hP).2.2.1⟩⟩
theorem zs_slen {index j : Nat} {f : Int32 → Option α} (hE : zEok E) (hd : decode μ.2.2.1 pc = .ok (.invokevirtual index, 3)) (hl1 : Cond.methodLink μ.1 index yJ0_length_8abf5 ∈ zT) (hdd : 4 ≤ d) (hr : (st.map fun v => v.category).sum ≤ 8) (kk : ∀ v, zSy E μ d M0 tg x0 (f v) (pc + 3) loc (.int v :: st) M) : zSy E μ d M0 tg x0 ((zsl j).bind f) pc loc (.ref (E.2.2.2.2.2 j) :: st) M := by
  obtain ⟨adV, hE⟩ := zEok_str hE
  intro hh
  obtain ⟨v, hv, hh⟩ := Option.bind_eq_some_iff.mp hh
  unfold zsl at hv
  split at hv
  case isFalse => cases hv
  case isTrue hj =>
    cases hv
    exact zs_invS_str (μ' := mu_J0_length_8abf5) (rest := st) (t0 := some (Int32.ofNat (zsN.getD j 0))) (f := f) (ψ := fun y : Int32 => (some (.int y), M)) hE hj [] hd lm_J0_length_8abf5 hl1 (ti_2 106 rfl rfl) (tb_2 _ (List.mem_of_getElem? (i := 107) rfl)) (zLni (n := 0) (by decide +kernel)) (zd1 (m := 4) rfl hdd) rfl hr (fun y hy => by cases hy; exact ct_J0_length_8abf5 hE hj _ (zdl (m := 4) rfl hdd) M) (fun y => kk y) hh
theorem zs_schr {index j : Nat} {i : Int32} {f : Int32 → Option α} (hE : zEok E) (hd : decode μ.2.2.1 pc = .ok (.invokevirtual index, 3)) (hl1 : Cond.methodLink μ.1 index yJ0_charAt_5068e ∈ zT) (hdd : 8 ≤ d) (hr : (st.map fun v => v.category).sum ≤ 8) (kk : ∀ v, zSy E μ d M0 tg x0 (f v) (pc + 3) loc (.int v :: st) M) : zSy E μ d M0 tg x0 ((zsc j i).bind f) pc loc (.int i :: .ref (E.2.2.2.2.2 j) :: st) M := by
  obtain ⟨adV, hE⟩ := zEok_str hE
  intro hh
  obtain ⟨v, hv, hh⟩ := Option.bind_eq_some_iff.mp hh
  unfold zsc at hv
  split at hv
  case isFalse => cases hv
  case isTrue hj =>
    cases hv
    exact zs_invS_str (μ' := mu_J0_charAt_5068e) (rest := st) (t0 := some ((zsT.getD j []).getD i.toNatClampNeg 0)) (f := f) (ψ := fun y : Int32 => (some (.int y), M)) hE hj.1 [.int i] hd lm_J0_charAt_5068e hl1 (ti_2 116 rfl rfl) (tb_2 _ (List.mem_of_getElem? (i := 117) rfl)) (zLni (n := 1) (by decide +kernel)) (zd1 (m := 8) rfl hdd) rfl hr (fun y hy => by cases hy; exact ct_J0_charAt_5068e hE hj.1 hj.2 _ (zdl (m := 8) rfl hdd) M) (fun y => kk y) hh
end ZT2
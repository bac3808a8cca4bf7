theorem dX7_copyLetters_0 : decode cX7_copyLetters 0 = .ok (.aload_n 0, 1) := by decide +kernel
theorem dX7_copyLetters_1 : decode cX7_copyLetters 1 = .ok (.iload_n 1, 1) := by decide +kernel
theorem dX7_copyLetters_2 : decode cX7_copyLetters 2 = .ok (.invokevirtual 19, 3) := by decide +kernel
theorem dX7_copyLetters_5 : decode cX7_copyLetters 5 = .ok (.ifCond .eq 9, 3) := by decide +kernel
theorem dX7_copyLetters_8 : decode cX7_copyLetters 8 = .ok (.iload_n 1, 1) := by decide +kernel
theorem dX7_copyLetters_9 : decode cX7_copyLetters 9 = .ok (.aload_n 2, 1) := by decide +kernel
theorem dX7_copyLetters_10 : decode cX7_copyLetters 10 = .ok (.arraylength, 1) := by decide +kernel
theorem dX7_copyLetters_11 : decode cX7_copyLetters 11 = .ok (.if_icmp .le 5, 3) := by decide +kernel
theorem dX7_copyLetters_14 : decode cX7_copyLetters 14 = .ok (.iconst 0, 1) := by decide +kernel
theorem dX7_copyLetters_15 : decode cX7_copyLetters 15 = .ok (.ireturn, 1) := by decide +kernel
theorem dX7_copyLetters_16 : decode cX7_copyLetters 16 = .ok (.iconst 0, 1) := by decide +kernel
theorem dX7_copyLetters_17 : decode cX7_copyLetters 17 = .ok (.istore_n 3, 1) := by decide +kernel
theorem dX7_copyLetters_18 : decode cX7_copyLetters 18 = .ok (.iload_n 3, 1) := by decide +kernel
theorem dX7_copyLetters_19 : decode cX7_copyLetters 19 = .ok (.iload_n 1, 1) := by decide +kernel
theorem dX7_copyLetters_20 : decode cX7_copyLetters 20 = .ok (.if_icmp .ge 21, 3) := by decide +kernel
theorem dX7_copyLetters_23 : decode cX7_copyLetters 23 = .ok (.aload_n 2, 1) := by decide +kernel
theorem dX7_copyLetters_24 : decode cX7_copyLetters 24 = .ok (.iload_n 3, 1) := by decide +kernel
theorem dX7_copyLetters_25 : decode cX7_copyLetters 25 = .ok (.aload_n 0, 1) := by decide +kernel
theorem dX7_copyLetters_26 : decode cX7_copyLetters 26 = .ok (.getfield 9, 3) := by decide +kernel
theorem dX7_copyLetters_29 : decode cX7_copyLetters 29 = .ok (.iload_n 3, 1) := by decide +kernel
theorem dX7_copyLetters_30 : decode cX7_copyLetters 30 = .ok (.iaload, 1) := by decide +kernel
theorem dX7_copyLetters_31 : decode cX7_copyLetters 31 = .ok (.bipush 97, 2) := by decide +kernel
theorem dX7_copyLetters_33 : decode cX7_copyLetters 33 = .ok (.isub, 1) := by decide +kernel
theorem dX7_copyLetters_34 : decode cX7_copyLetters 34 = .ok (.iastore, 1) := by decide +kernel
theorem dX7_copyLetters_35 : decode cX7_copyLetters 35 = .ok (.iinc 3 1, 3) := by decide +kernel
theorem dX7_copyLetters_38 : decode cX7_copyLetters 38 = .ok (.goto (-20), 3) := by decide +kernel
theorem dX7_copyLetters_41 : decode cX7_copyLetters 41 = .ok (.iconst 1, 1) := by decide +kernel
theorem dX7_copyLetters_42 : decode cX7_copyLetters 42 = .ok (.ireturn, 1) := by decide +kernel
def fp_X7_copyLetters_L18 (v0 : Nat) (v1 : Int32) (v2 : Nat) : Nat → Int32 → zM → Option (Int32 × zM)
  | 0, _, _ => none
  | n + 1, v3, M =>
    if v3 ≥ v1 then (
      some (1, M))
    else (
      (zgR 5 M v0 0).bind fun (y3 : Nat) =>
      (zlI 100 M y3 v3).bind fun (y4 : Int32) =>
      (ztI M v2 v3 (y4 - 97)).bind fun (M5 : zM) =>
      fp_X7_copyLetters_L18 v0 v1 v2 n (v3 + 1) M5)
def fp_X7_copyLetters (v0 : Nat) (v1 : Int32) (v2 : Nat) (M : zM) : Option (Int32 × zM) :=
  zthis 5 M v0 (
    (fp_X7_holds v0 v1 M).bind fun (y1 : Int32) =>
    if y1 = 0 then (
      some (0, M))
    else (
      (zln M v2).bind fun (y2 : Int32) =>
      if v1 ≤ y2 then (
        fp_X7_copyLetters_L18 v0 v1 v2 FU 0 M)
      else (
        some (0, M))))
set_option maxHeartbeats 4000000 in
set_option maxRecDepth 100000 in
theorem th_X7_copyLetters {v0 : Nat} {v1 : Int32} {v2 : Nat} {M : zM} {x0 : Int32 × zM} (h : fp_X7_copyLetters v0 v1 v2 M = some x0) : v0 < zS M ∧ kd v0 = 5 := by
  unfold fp_X7_copyLetters at h
  exact zthis_of h
set_option maxHeartbeats 4000000 in
set_option maxRecDepth 100000 in
theorem w_X7_copyLetters_L18 (E : zEnv) (hE : zEok E) (d : Nat) (hd : 2 ≤ d) (M0 : zM) (x0 : Int32 × zM) (v0 : Nat) (v1 : Int32) (v2 : Nat)  : ∀ (n : Nat) (v3 : Int32) (M : zM), zSy E mu_X7_copyLetters d M0 (some (.int x0.1), x0.2) x0 (fp_X7_copyLetters_L18 v0 v1 v2 n v3 M) 18 [(0, .ref (E.2.2.2.1 + v0)), (1, .int v1), (2, .ref (E.2.2.2.1 + v2)), (3, .int v3)] [] M := by
  intro n
  induction n with
  | zero =>
    intro v3 M
    rw [fp_X7_copyLetters_L18]
    exact zs_none
  | succ n ih =>
    intro v3 M
    rw [fp_X7_copyLetters_L18]
    refine zs_iload_n dX7_copyLetters_18 rfl 3 rfl ?_
    refine zs_iload_n dX7_copyLetters_19 rfl 1 rfl ?_
    refine zs_icmp_ge dX7_copyLetters_20 rfl ?_ ?_
    · refine zs_iconst (v := 1) dX7_copyLetters_41 ciconst_1 ?_
      exact zs_iretW dX7_copyLetters_42 rfl
    refine zs_aload_n dX7_copyLetters_23 rfl 2 rfl ?_
    refine zs_iload_n dX7_copyLetters_24 rfl 3 rfl ?_
    refine zs_aload_n dX7_copyLetters_25 rfl 0 rfl ?_
    refine zs_getR dX7_copyLetters_26 fl_X7_9 rfl (fun y3 => ?_)
    refine zs_iload_n dX7_copyLetters_29 rfl 3 rfl ?_
    refine zs_ldI dX7_copyLetters_30 (fun y4 => ?_)
    refine zs_bipush (v := 97) dX7_copyLetters_31 cbipush_97 ?_
    refine zs_isub dX7_copyLetters_33 ?_
    refine zs_stI dX7_copyLetters_34 (fun M5 => ?_)
    refine zs_iinc (v := (v3 + 1)) (loc' := [(0, .ref (E.2.2.2.1 + v0)), (1, .int v1), (2, .ref (E.2.2.2.1 + v2)), (3, .int (v3 + 1))]) dX7_copyLetters_35 3 rfl (by rfl) (Nat.le_of_ble_eq_true rfl) [1, 2, 3, 0] rfl ?_
    refine zs_goto dX7_copyLetters_38 rfl ?_
    exact ih (v3 + 1) M5
set_option maxHeartbeats 4000000 in
set_option maxRecDepth 100000 in
theorem ct_X7_copyLetters (E : zEnv) (hE : zEok E) (d : Nat) (hd : 2 ≤ d) (v0 : Nat) (v1 : Int32) (v2 : Nat) (M : zM) (x0 : Int32 × zM) (hx : fp_X7_copyLetters v0 v1 v2 M = some x0) : zCt E mu_X7_copyLetters d [.ref (E.2.2.2.1 + v0), .int v1, .ref (E.2.2.2.1 + v2)] M (some (.int x0.1), x0.2) := by
  refine zCt_of (μ := mu_X7_copyLetters) (t := fp_X7_copyLetters v0 v1 v2 M) rfl rfl (Nat.le_of_ble_eq_true rfl) hx ?_
  change zSy E mu_X7_copyLetters d M (some (.int x0.1), x0.2) x0 (fp_X7_copyLetters v0 v1 v2 M) 0 [(0, .ref (E.2.2.2.1 + v0)), (1, .int v1), (2, .ref (E.2.2.2.1 + v2))] [] M
  unfold fp_X7_copyLetters
  refine zs_this (fun hth => ?_)
  refine zs_aload_n dX7_copyLetters_0 rfl 0 rfl ?_
  refine zs_iload_n dX7_copyLetters_1 rfl 1 rfl ?_
  refine zs_invVPI (rest := []) [.int v1] dX7_copyLetters_2 lk_X7_19 rfl (fun _ h => th_X7_holds h) (zd1 rfl hd) rfl (Nat.le_of_ble_eq_true rfl) (ct_X7_holds E hE _ (zdl rfl hd) _ _ _) (fun y1 => ?_)
  refine zs_if_eq dX7_copyLetters_5 rfl ?_ ?_
  · refine zs_iconst (v := 0) dX7_copyLetters_14 ciconst_0 ?_
    exact zs_iretW dX7_copyLetters_15 rfl
  refine zs_iload_n dX7_copyLetters_8 rfl 1 rfl ?_
  refine zs_aload_n dX7_copyLetters_9 rfl 2 rfl ?_
  refine zs_alen dX7_copyLetters_10 (fun y2 => ?_)
  refine zs_icmp_le dX7_copyLetters_11 rfl ?_ ?_
  · refine zs_iconst (v := 0) dX7_copyLetters_16 ciconst_0 ?_
    refine zs_istore_n (loc' := [(0, .ref (E.2.2.2.1 + v0)), (1, .int v1), (2, .ref (E.2.2.2.1 + v2)), (3, .int 0)]) dX7_copyLetters_17 rfl (Nat.le_of_ble_eq_true rfl) [1, 2, 3, 0] rfl ?_
    exact w_X7_copyLetters_L18 E hE d hd _ _ _ _ _ _ _ _
  refine zs_iconst (v := 0) dX7_copyLetters_14 ciconst_0 ?_
  exact zs_iretW dX7_copyLetters_15 rfl
theorem dX8_init_0 : decode cX8_init 0 = .ok (.aload_n 0, 1) := by decide +kernel
theorem dX8_init_1 : decode cX8_init 1 = .ok (.invokespecial 3, 3) := by decide +kernel
theorem dX8_init_4 : decode cX8_init 4 = .ok (.aload_n 0, 1) := by decide +kernel
theorem dX8_init_5 : decode cX8_init 5 = .ok (.iconst (-1), 1) := by decide +kernel
theorem dX8_init_6 : decode cX8_init 6 = .ok (.putfield 9, 3) := by decide +kernel
theorem dX8_init_9 : decode cX8_init 9 = .ok (.aload_n 0, 1) := by decide +kernel
theorem dX8_init_10 : decode cX8_init 10 = .ok (.sipush 1096, 3) := by decide +kernel
theorem dX8_init_13 : decode cX8_init 13 = .ok (.newarray .int, 2) := by decide +kernel
theorem dX8_init_15 : decode cX8_init 15 = .ok (.putfield 15, 3) := by decide +kernel
theorem dX8_init_18 : decode cX8_init 18 = .ok (.aload_n 0, 1) := by decide +kernel
theorem dX8_init_19 : decode cX8_init 19 = .ok (.sipush 1096, 3) := by decide +kernel
theorem dX8_init_22 : decode cX8_init 22 = .ok (.newarray .int, 2) := by decide +kernel
theorem dX8_init_24 : decode cX8_init 24 = .ok (.putfield 19, 3) := by decide +kernel
theorem dX8_init_27 : decode cX8_init 27 = .ok (.aload_n 0, 1) := by decide +kernel
theorem dX8_init_28 : decode cX8_init 28 = .ok (.sipush 2048, 3) := by decide +kernel
theorem dX8_init_31 : decode cX8_init 31 = .ok (.newarray .int, 2) := by decide +kernel
theorem dX8_init_33 : decode cX8_init 33 = .ok (.putfield 22, 3) := by decide +kernel
theorem dX8_init_36 : decode cX8_init 36 = .ok (.return_, 1) := by decide +kernel
def fp_X8_init (v0 : Nat) (M : zM) : Option (zM) :=
  zthis 6 M v0 (
    (zpI 6 M v0 1 (-1)).bind fun (M1 : zM) =>
    (zna 100 M1 1096).bind fun p4 => zpp p4 fun (q2 : Nat) (M3 : zM) =>
    (zpR 6 M3 v0 3 q2).bind fun (M5 : zM) =>
    (zna 100 M5 1096).bind fun p8 => zpp p8 fun (q6 : Nat) (M7 : zM) =>
    (zpR 6 M7 v0 4 q6).bind fun (M9 : zM) =>
    (zna 100 M9 2048).bind fun p12 => zpp p12 fun (q10 : Nat) (M11 : zM) =>
    (zpR 6 M11 v0 5 q10).bind fun (M13 : zM) =>
    some M13)
set_option maxHeartbeats 4000000 in
set_option maxRecDepth 100000 in
theorem th_X8_init {v0 : Nat} {M : zM} {x0 : zM} (h : fp_X8_init v0 M = some x0) : v0 < zS M ∧ kd v0 = 6 := by
  unfold fp_X8_init at h
  exact zthis_of h
set_option maxHeartbeats 4000000 in
set_option maxRecDepth 100000 in
theorem ct_X8_init (E : zEnv) (hE : zEok E) (d : Nat) (hd : 2 ≤ d) (v0 : Nat) (M : zM) (x0 : zM) (hx : fp_X8_init v0 M = some x0) : zCt E mu_X8_init d [.ref (E.2.2.2.1 + v0)] M (none, x0) := by
  refine zCt_of (μ := mu_X8_init) (t := fp_X8_init v0 M) rfl rfl (Nat.le_of_ble_eq_true rfl) hx ?_
  change zSy E mu_X8_init d M (none, x0) x0 (fp_X8_init v0 M) 0 [(0, .ref (E.2.2.2.1 + v0))] [] M
  unfold fp_X8_init
  refine zs_this (fun hth => ?_)
  refine zs_aload_n dX8_init_0 rfl 0 rfl ?_
  refine zs_objInit dX8_init_1 (ti_1 186 rfl rfl) mi_oinit mc_oinit (zd0 rfl hd) (Nat.le_of_ble_eq_true rfl) ?_
  refine zs_aload_n dX8_init_4 rfl 0 rfl ?_
  refine zs_iconst (v := (-1)) dX8_init_5 ciconst_m1 ?_
  refine zs_putI dX8_init_6 fl_X8_9 ft_X8 rfl rfl rfl rfl rfl (fun M1 => ?_)
  refine zs_aload_n dX8_init_9 rfl 0 rfl ?_
  refine zs_sipush (v := 1096) dX8_init_10 csipush_1096 ?_
  refine zs_newA dX8_init_13 rfl (by decide) (ti_1 44 rfl rfl) (fun q2 M3 => ?_)
  refine zs_putRF dX8_init_15 fl_X8_15 ft_X8 rfl rfl rfl rfl rfl rfl rfl (fun M5 => ?_)
  refine zs_aload_n dX8_init_18 rfl 0 rfl ?_
  refine zs_sipush (v := 1096) dX8_init_19 csipush_1096 ?_
  refine zs_newA dX8_init_22 rfl (by decide) (ti_1 44 rfl rfl) (fun q6 M7 => ?_)
  refine zs_putRF dX8_init_24 fl_X8_19 ft_X8 rfl rfl rfl rfl rfl rfl rfl (fun M9 => ?_)
  refine zs_aload_n dX8_init_27 rfl 0 rfl ?_
  refine zs_sipush (v := 2048) dX8_init_28 csipush_2048 ?_
  refine zs_newA dX8_init_31 rfl (by decide) (ti_1 44 rfl rfl) (fun q10 M11 => ?_)
  refine zs_putRF dX8_init_33 fl_X8_22 ft_X8 rfl rfl rfl rfl rfl rfl rfl (fun M13 => ?_)
  exact zs_vret dX8_init_36 trivial
theorem dJ7_fill_53178_0 : decode cJ7_fill_53178 0 = .ok (.iconst 0, 1) := by decide +kernel
theorem dJ7_fill_53178_1 : decode cJ7_fill_53178 1 = .ok (.istore_n 2, 1) := by decide +kernel
theorem dJ7_fill_53178_2 : decode cJ7_fill_53178 2 = .ok (.aload_n 0, 1) := by decide +kernel
theorem dJ7_fill_53178_3 : decode cJ7_fill_53178 3 = .ok (.arraylength, 1) := by decide +kernel
theorem dJ7_fill_53178_4 : decode cJ7_fill_53178 4 = .ok (.istore_n 3, 1) := by decide +kernel
theorem dJ7_fill_53178_5 : decode cJ7_fill_53178 5 = .ok (.iload_n 2, 1) := by decide +kernel
theorem dJ7_fill_53178_6 : decode cJ7_fill_53178 6 = .ok (.iload_n 3, 1) := by decide +kernel
theorem dJ7_fill_53178_7 : decode cJ7_fill_53178 7 = .ok (.if_icmp .ge 13, 3) := by decide +kernel
theorem dJ7_fill_53178_10 : decode cJ7_fill_53178 10 = .ok (.aload_n 0, 1) := by decide +kernel
theorem dJ7_fill_53178_11 : decode cJ7_fill_53178 11 = .ok (.iload_n 2, 1) := by decide +kernel
theorem dJ7_fill_53178_12 : decode cJ7_fill_53178 12 = .ok (.iload_n 1, 1) := by decide +kernel
theorem dJ7_fill_53178_13 : decode cJ7_fill_53178 13 = .ok (.iastore, 1) := by decide +kernel
theorem dJ7_fill_53178_14 : decode cJ7_fill_53178 14 = .ok (.iinc 2 1, 3) := by decide +kernel
theorem dJ7_fill_53178_17 : decode cJ7_fill_53178 17 = .ok (.goto (-12), 3) := by decide +kernel
theorem dJ7_fill_53178_20 : decode cJ7_fill_53178 20 = .ok (.return_, 1) := by decide +kernel
def fp_J7_fill_53178_L5 (v0 : Nat) (v1 : Int32) (v3 : Int32) : Nat → Int32 → zM → Option (zM)
  | 0, _, _ => none
  | n + 1, v2, M =>
    if v2 ≥ v3 then (
      some M)
    else (
      (ztI M v0 v2 v1).bind fun (M2 : zM) =>
      fp_J7_fill_53178_L5 v0 v1 v3 n (v2 + 1) M2)
def fp_J7_fill_53178 (v0 : Nat) (v1 : Int32) (M : zM) : Option (zM) :=
  (zln M v0).bind fun (y1 : Int32) =>
  fp_J7_fill_53178_L5 v0 v1 y1 FU 0 M
set_option maxHeartbeats 4000000 in
set_option maxRecDepth 100000 in
theorem w_J7_fill_53178_L5 (E : zEnv) (hE : zEok E) (d : Nat) (hd : 1 ≤ d) (M0 : zM) (x0 : zM) (v0 : Nat) (v1 : Int32) (v3 : Int32)  : ∀ (n : Nat) (v2 : Int32) (M : zM), zSy E mu_J7_fill_53178 d M0 (none, x0) x0 (fp_J7_fill_53178_L5 v0 v1 v3 n v2 M) 5 [(0, .ref (E.2.2.2.1 + v0)), (1, .int v1), (2, .int v2), (3, .int v3)] [] M := by
  intro n
  induction n with
  | zero =>
    intro v2 M
    rw [fp_J7_fill_53178_L5]
    exact zs_none
  | succ n ih =>
    intro v2 M
    rw [fp_J7_fill_53178_L5]
    refine zs_iload_n dJ7_fill_53178_5 rfl 2 rfl ?_
    refine zs_iload_n dJ7_fill_53178_6 rfl 3 rfl ?_
    refine zs_icmp_ge dJ7_fill_53178_7 rfl ?_ ?_
    · exact zs_vret dJ7_fill_53178_20 trivial
    refine zs_aload_n dJ7_fill_53178_10 rfl 0 rfl ?_
    refine zs_iload_n dJ7_fill_53178_11 rfl 2 rfl ?_
    refine zs_iload_n dJ7_fill_53178_12 rfl 1 rfl ?_
    refine zs_stI dJ7_fill_53178_13 (fun M2 => ?_)
    refine zs_iinc (v := (v2 + 1)) (loc' := [(0, .ref (E.2.2.2.1 + v0)), (1, .int v1), (2, .int (v2 + 1)), (3, .int v3)]) dJ7_fill_53178_14 2 rfl (by rfl) (Nat.le_of_ble_eq_true rfl) [1, 2, 0, 3] rfl ?_
    refine zs_goto dJ7_fill_53178_17 rfl ?_
    exact ih (v2 + 1) M2
set_option maxHeartbeats 4000000 in
set_option maxRecDepth 100000 in
theorem ct_J7_fill_53178 (E : zEnv) (hE : zEok E) (d : Nat) (hd : 1 ≤ d) (v0 : Nat) (v1 : Int32) (M : zM) (x0 : zM) (hx : fp_J7_fill_53178 v0 v1 M = some x0) : zCt E mu_J7_fill_53178 d [.ref (E.2.2.2.1 + v0), .int v1] M (none, x0) := by
  refine zCt_of (μ := mu_J7_fill_53178) (t := fp_J7_fill_53178 v0 v1 M) rfl rfl (Nat.le_of_ble_eq_true rfl) hx ?_
  change zSy E mu_J7_fill_53178 d M (none, x0) x0 (fp_J7_fill_53178 v0 v1 M) 0 [(0, .ref (E.2.2.2.1 + v0)), (1, .int v1)] [] M
  unfold fp_J7_fill_53178
  refine zs_iconst (v := 0) dJ7_fill_53178_0 ciconst_0 ?_
  refine zs_istore_n (loc' := [(0, .ref (E.2.2.2.1 + v0)), (1, .int v1), (2, .int 0)]) dJ7_fill_53178_1 rfl (Nat.le_of_ble_eq_true rfl) [1, 2, 0] rfl ?_
  refine zs_aload_n dJ7_fill_53178_2 rfl 0 rfl ?_
  refine zs_alen dJ7_fill_53178_3 (fun y1 => ?_)
  refine zs_istore_n (loc' := [(0, .ref (E.2.2.2.1 + v0)), (1, .int v1), (2, .int 0), (3, .int y1)]) dJ7_fill_53178_4 rfl (Nat.le_of_ble_eq_true rfl) [1, 2, 3, 0] rfl ?_
  exact w_J7_fill_53178_L5 E hE d hd _ _ _ _ _ _ _ _
theorem dX8_keep_0 : decode cX8_keep 0 = .ok (.aload_n 0, 1) := by decide +kernel
theorem dX8_keep_1 : decode cX8_keep 1 = .ok (.getfield 28, 3) := by decide +kernel
theorem dX8_keep_4 : decode cX8_keep 4 = .ok (.sipush 1096, 3) := by decide +kernel
theorem dX8_keep_7 : decode cX8_keep 7 = .ok (.if_icmp .ge 43, 3) := by decide +kernel
theorem dX8_keep_10 : decode cX8_keep 10 = .ok (.aload_n 0, 1) := by decide +kernel
theorem dX8_keep_11 : decode cX8_keep 11 = .ok (.getfield 15, 3) := by decide +kernel
theorem dX8_keep_14 : decode cX8_keep 14 = .ok (.aload_n 0, 1) := by decide +kernel
theorem dX8_keep_15 : decode cX8_keep 15 = .ok (.getfield 28, 3) := by decide +kernel
theorem dX8_keep_18 : decode cX8_keep 18 = .ok (.iload_n 1, 1) := by decide +kernel
theorem dX8_keep_19 : decode cX8_keep 19 = .ok (.iastore, 1) := by decide +kernel
theorem dX8_keep_20 : decode cX8_keep 20 = .ok (.aload_n 0, 1) := by decide +kernel
theorem dX8_keep_21 : decode cX8_keep 21 = .ok (.getfield 19, 3) := by decide +kernel
theorem dX8_keep_24 : decode cX8_keep 24 = .ok (.aload_n 0, 1) := by decide +kernel
theorem dX8_keep_25 : decode cX8_keep 25 = .ok (.getfield 28, 3) := by decide +kernel
theorem dX8_keep_28 : decode cX8_keep 28 = .ok (.iload_n 2, 1) := by decide +kernel
theorem dX8_keep_29 : decode cX8_keep 29 = .ok (.iastore, 1) := by decide +kernel
theorem dX8_keep_30 : decode cX8_keep 30 = .ok (.aload_n 0, 1) := by decide +kernel
theorem dX8_keep_31 : decode cX8_keep 31 = .ok (.dup, 1) := by decide +kernel
theorem dX8_keep_32 : decode cX8_keep 32 = .ok (.getfield 28, 3) := by decide +kernel
theorem dX8_keep_35 : decode cX8_keep 35 = .ok (.iconst 1, 1) := by decide +kernel
theorem dX8_keep_36 : decode cX8_keep 36 = .ok (.iadd, 1) := by decide +kernel
theorem dX8_keep_37 : decode cX8_keep 37 = .ok (.putfield 28, 3) := by decide +kernel
theorem dX8_keep_40 : decode cX8_keep 40 = .ok (.aload_n 0, 1) := by decide +kernel
theorem dX8_keep_41 : decode cX8_keep 41 = .ok (.getfield 22, 3) := by decide +kernel
theorem dX8_keep_44 : decode cX8_keep 44 = .ok (.iload_n 3, 1) := by decide +kernel
theorem dX8_keep_45 : decode cX8_keep 45 = .ok (.aload_n 0, 1) := by decide +kernel
theorem dX8_keep_46 : decode cX8_keep 46 = .ok (.getfield 28, 3) := by decide +kernel
theorem dX8_keep_49 : decode cX8_keep 49 = .ok (.iastore, 1) := by decide +kernel
theorem dX8_keep_50 : decode cX8_keep 50 = .ok (.return_, 1) := by decide +kernel
def fp_X8_keep (v0 : Nat) (v1 : Int32) (v2 : Int32) (v3 : Int32) (M : zM) : Option (zM) :=
  zthis 6 M v0 (
    (zgI 6 M v0 0).bind fun (y1 : Int32) =>
    if y1 ≥ 1096 then (
      some M)
    else (
      (zgR 6 M v0 3).bind fun (y2 : Nat) =>
      (zgI 6 M v0 0).bind fun (y3 : Int32) =>
      (ztI M y2 y3 v1).bind fun (M4 : zM) =>
      (zgR 6 M4 v0 4).bind fun (y5 : Nat) =>
      (zgI 6 M4 v0 0).bind fun (y6 : Int32) =>
      (ztI M4 y5 y6 v2).bind fun (M7 : zM) =>
      (zgI 6 M7 v0 0).bind fun (y8 : Int32) =>
      (zpI 6 M7 v0 0 (y8 + 1)).bind fun (M9 : zM) =>
      (zgR 6 M9 v0 5).bind fun (y10 : Nat) =>
      (zgI 6 M9 v0 0).bind fun (y11 : Int32) =>
      (ztI M9 y10 v3 y11).bind fun (M12 : zM) =>
      some M12))
set_option maxHeartbeats 4000000 in
set_option maxRecDepth 100000 in
theorem th_X8_keep {v0 : Nat} {v1 : Int32} {v2 : Int32} {v3 : Int32} {M : zM} {x0 : zM} (h : fp_X8_keep v0 v1 v2 v3 M = some x0) : v0 < zS M ∧ kd v0 = 6 := by
  unfold fp_X8_keep at h
  exact zthis_of h
set_option maxHeartbeats 4000000 in
set_option maxRecDepth 100000 in
theorem ct_X8_keep (E : zEnv) (hE : zEok E) (d : Nat) (hd : 1 ≤ d) (v0 : Nat) (v1 : Int32) (v2 : Int32) (v3 : Int32) (M : zM) (x0 : zM) (hx : fp_X8_keep v0 v1 v2 v3 M = some x0) : zCt E mu_X8_keep d [.ref (E.2.2.2.1 + v0), .int v1, .int v2, .int v3] M (none, x0) := by
  refine zCt_of (μ := mu_X8_keep) (t := fp_X8_keep v0 v1 v2 v3 M) rfl rfl (Nat.le_of_ble_eq_true rfl) hx ?_
  change zSy E mu_X8_keep d M (none, x0) x0 (fp_X8_keep v0 v1 v2 v3 M) 0 [(0, .ref (E.2.2.2.1 + v0)), (1, .int v1), (2, .int v2), (3, .int v3)] [] M
  unfold fp_X8_keep
  refine zs_this (fun hth => ?_)
  refine zs_aload_n dX8_keep_0 rfl 0 rfl ?_
  refine zs_getI dX8_keep_1 fl_X8_28 rfl (fun y1 => ?_)
  refine zs_sipush (v := 1096) dX8_keep_4 csipush_1096 ?_
  refine zs_icmp_ge dX8_keep_7 rfl ?_ ?_
  · exact zs_vret dX8_keep_50 trivial
  refine zs_aload_n dX8_keep_10 rfl 0 rfl ?_
  refine zs_getR dX8_keep_11 fl_X8_15 rfl (fun y2 => ?_)
  refine zs_aload_n dX8_keep_14 rfl 0 rfl ?_
  refine zs_getI dX8_keep_15 fl_X8_28 rfl (fun y3 => ?_)
  refine zs_iload_n dX8_keep_18 rfl 1 rfl ?_
  refine zs_stI dX8_keep_19 (fun M4 => ?_)
  refine zs_aload_n dX8_keep_20 rfl 0 rfl ?_
  refine zs_getR dX8_keep_21 fl_X8_19 rfl (fun y5 => ?_)
  refine zs_aload_n dX8_keep_24 rfl 0 rfl ?_
  refine zs_getI dX8_keep_25 fl_X8_28 rfl (fun y6 => ?_)
  refine zs_iload_n dX8_keep_28 rfl 2 rfl ?_
  refine zs_stI dX8_keep_29 (fun M7 => ?_)
  refine zs_aload_n dX8_keep_30 rfl 0 rfl ?_
  refine zs_dup dX8_keep_31 rfl ?_
  refine zs_getI dX8_keep_32 fl_X8_28 rfl (fun y8 => ?_)
  refine zs_iconst (v := 1) dX8_keep_35 ciconst_1 ?_
  refine zs_iadd dX8_keep_36 ?_
  refine zs_putI dX8_keep_37 fl_X8_28 ft_X8 rfl rfl rfl rfl rfl (fun M9 => ?_)
  refine zs_aload_n dX8_keep_40 rfl 0 rfl ?_
  refine zs_getR dX8_keep_41 fl_X8_22 rfl (fun y10 => ?_)
  refine zs_iload_n dX8_keep_44 rfl 3 rfl ?_
  refine zs_aload_n dX8_keep_45 rfl 0 rfl ?_
  refine zs_getI dX8_keep_46 fl_X8_28 rfl (fun y11 => ?_)
  refine zs_stI dX8_keep_49 (fun M12 => ?_)
  exact zs_vret dX8_keep_50 trivial
theorem dX8_meet_0 : decode cX8_meet 0 = .ok (.iload_n 1, 1) := by decide +kernel
theorem dX8_meet_1 : decode cX8_meet 1 = .ok (.iload_n 1, 1) := by decide +kernel
theorem dX8_meet_2 : decode cX8_meet 2 = .ok (.bipush 9, 2) := by decide +kernel
theorem dX8_meet_4 : decode cX8_meet 4 = .ok (.ishr, 1) := by decide +kernel
theorem dX8_meet_5 : decode cX8_meet 5 = .ok (.ixor, 1) := by decide +kernel
theorem dX8_meet_6 : decode cX8_meet 6 = .ok (.bipush 31, 2) := by decide +kernel
theorem dX8_meet_8 : decode cX8_meet 8 = .ok (.imul, 1) := by decide +kernel
theorem dX8_meet_9 : decode cX8_meet 9 = .ok (.sipush 2047, 3) := by decide +kernel
theorem dX8_meet_12 : decode cX8_meet 12 = .ok (.iand, 1) := by decide +kernel
theorem dX8_meet_13 : decode cX8_meet 13 = .ok (.istore_n 3, 1) := by decide +kernel
theorem dX8_meet_14 : decode cX8_meet 14 = .ok (.iconst 0, 1) := by decide +kernel
theorem dX8_meet_15 : decode cX8_meet 15 = .ok (.istore 4, 2) := by decide +kernel
theorem dX8_meet_17 : decode cX8_meet 17 = .ok (.iload 4, 2) := by decide +kernel
theorem dX8_meet_19 : decode cX8_meet 19 = .ok (.sipush 2048, 3) := by decide +kernel
theorem dX8_meet_22 : decode cX8_meet 22 = .ok (.if_icmp .ge 60, 3) := by decide +kernel
theorem dX8_meet_25 : decode cX8_meet 25 = .ok (.aload_n 0, 1) := by decide +kernel
theorem dX8_meet_26 : decode cX8_meet 26 = .ok (.getfield 22, 3) := by decide +kernel
theorem dX8_meet_29 : decode cX8_meet 29 = .ok (.iload_n 3, 1) := by decide +kernel
theorem dX8_meet_30 : decode cX8_meet 30 = .ok (.iaload, 1) := by decide +kernel
theorem dX8_meet_31 : decode cX8_meet 31 = .ok (.istore 5, 2) := by decide +kernel
theorem dX8_meet_33 : decode cX8_meet 33 = .ok (.iload 5, 2) := by decide +kernel
theorem dX8_meet_35 : decode cX8_meet 35 = .ok (.ifCond .ne 11, 3) := by decide +kernel
theorem dX8_meet_38 : decode cX8_meet 38 = .ok (.aload_n 0, 1) := by decide +kernel
theorem dX8_meet_39 : decode cX8_meet 39 = .ok (.iload_n 1, 1) := by decide +kernel
theorem dX8_meet_40 : decode cX8_meet 40 = .ok (.iload_n 2, 1) := by decide +kernel
theorem dX8_meet_41 : decode cX8_meet 41 = .ok (.iload_n 3, 1) := by decide +kernel
theorem dX8_meet_42 : decode cX8_meet 42 = .ok (.invokevirtual 47, 3) := by decide +kernel
theorem dX8_meet_45 : decode cX8_meet 45 = .ok (.return_, 1) := by decide +kernel
theorem dX8_meet_46 : decode cX8_meet 46 = .ok (.iload 5, 2) := by decide +kernel
theorem dX8_meet_48 : decode cX8_meet 48 = .ok (.sipush 1096, 3) := by decide +kernel
theorem dX8_meet_51 : decode cX8_meet 51 = .ok (.if_icmp .gt 17, 3) := by decide +kernel
theorem dX8_meet_54 : decode cX8_meet 54 = .ok (.aload_n 0, 1) := by decide +kernel
theorem dX8_meet_55 : decode cX8_meet 55 = .ok (.getfield 15, 3) := by decide +kernel
theorem dX8_meet_58 : decode cX8_meet 58 = .ok (.iload 5, 2) := by decide +kernel
theorem dX8_meet_60 : decode cX8_meet 60 = .ok (.iconst 1, 1) := by decide +kernel
theorem dX8_meet_61 : decode cX8_meet 61 = .ok (.isub, 1) := by decide +kernel
theorem dX8_meet_62 : decode cX8_meet 62 = .ok (.iaload, 1) := by decide +kernel
theorem dX8_meet_63 : decode cX8_meet 63 = .ok (.iload_n 1, 1) := by decide +kernel
theorem dX8_meet_64 : decode cX8_meet 64 = .ok (.if_icmp .ne 4, 3) := by decide +kernel
theorem dX8_meet_67 : decode cX8_meet 67 = .ok (.return_, 1) := by decide +kernel
theorem dX8_meet_68 : decode cX8_meet 68 = .ok (.iload_n 3, 1) := by decide +kernel
theorem dX8_meet_69 : decode cX8_meet 69 = .ok (.iconst 1, 1) := by decide +kernel
theorem dX8_meet_70 : decode cX8_meet 70 = .ok (.iadd, 1) := by decide +kernel
theorem dX8_meet_71 : decode cX8_meet 71 = .ok (.sipush 2047, 3) := by decide +kernel
theorem dX8_meet_74 : decode cX8_meet 74 = .ok (.iand, 1) := by decide +kernel
theorem dX8_meet_75 : decode cX8_meet 75 = .ok (.istore_n 3, 1) := by decide +kernel
theorem dX8_meet_76 : decode cX8_meet 76 = .ok (.iinc 4 1, 3) := by decide +kernel
theorem dX8_meet_79 : decode cX8_meet 79 = .ok (.goto (-62), 3) := by decide +kernel
theorem dX8_meet_82 : decode cX8_meet 82 = .ok (.return_, 1) := by decide +kernel
def fp_X8_meet_L17 (v0 : Nat) (v1 : Int32) (v2 : Int32) (M : zM) : Nat → Int32 → Int32 → Option (zM)
  | 0, _, _ => none
  | n + 1, v3, v4 =>
    if v4 ≥ 2048 then (
      some M)
    else (
      (zgR 6 M v0 5).bind fun (y2 : Nat) =>
      (zlI 100 M y2 v3).bind fun (y3 : Int32) =>
      if y3 ≠ 0 then (
        zjn (
            lett (((v3 + 1) &&& 2047)) fun (v3_4 : Int32) =>
            fp_X8_meet_L17 v0 v1 v2 M n v3_4 (v4 + 1))
          (fun j68 =>
            if y3 > 1096 then (
              j68)
            else (
              (zgR 6 M v0 3).bind fun (y5 : Nat) =>
              (zlI 100 M y5 (y3 - 1)).bind fun (y6 : Int32) =>
              if y6 ≠ v1 then (
                j68)
              else (
                some M))))
      else (
        (fp_X8_keep v0 v1 v2 v3 M).bind fun (M7 : zM) =>
        some M7))
def fp_X8_meet (v0 : Nat) (v1 : Int32) (v2 : Int32) (M : zM) : Option (zM) :=
  zthis 6 M v0 (
    lett ((((v1 ^^^ (v1 >>> (9 &&& 31))) * 31) &&& 2047)) fun (v3_1 : Int32) =>
    fp_X8_meet_L17 v0 v1 v2 M FU v3_1 0)
set_option maxHeartbeats 4000000 in
set_option maxRecDepth 100000 in
theorem th_X8_meet {v0 : Nat} {v1 : Int32} {v2 : Int32} {M : zM} {x0 : zM} (h : fp_X8_meet v0 v1 v2 M = some x0) : v0 < zS M ∧ kd v0 = 6 := by
  unfold fp_X8_meet at h
  exact zthis_of h
set_option maxHeartbeats 4000000 in
set_option maxRecDepth 100000 in
theorem w_X8_meet_L17 (E : zEnv) (hE : zEok E) (d : Nat) (hd : 2 ≤ d) (M0 : zM) (x0 : zM) (v0 : Nat) (v1 : Int32) (v2 : Int32) (M : zM)  : ∀ (n : Nat) (v3 : Int32) (v4 : Int32), zSy E mu_X8_meet d M0 (none, x0) x0 (fp_X8_meet_L17 v0 v1 v2 M n v3 v4) 17 [(0, .ref (E.2.2.2.1 + v0)), (1, .int v1), (2, .int v2), (3, .int v3), (4, .int v4)] [] M := by
  intro n
  induction n with
  | zero =>
    intro v3 v4
    rw [fp_X8_meet_L17]
    exact zs_none
  | succ n ih =>
    intro v3 v4
    rw [fp_X8_meet_L17]
    refine zs_iload dX8_meet_17 4 rfl ?_
    refine zs_sipush (v := 2048) dX8_meet_19 csipush_2048 ?_
    refine zs_icmp_ge dX8_meet_22 rfl ?_ ?_
    · exact zs_vret dX8_meet_82 trivial
    refine zs_aload_n dX8_meet_25 rfl 0 rfl ?_
    refine zs_getR dX8_meet_26 fl_X8_22 rfl (fun y2 => ?_)
    refine zs_iload_n dX8_meet_29 rfl 3 rfl ?_
    refine zs_ldI dX8_meet_30 (fun y3 => ?_)
    refine zs_istore (loc' := [(0, .ref (E.2.2.2.1 + v0)), (1, .int v1), (2, .int v2), (3, .int v3), (4, .int v4), (5, .int y3)]) dX8_meet_31 (Nat.le_of_ble_eq_true rfl) [1, 2, 3, 4, 5, 0] rfl ?_
    refine zs_iload dX8_meet_33 5 rfl ?_
    refine zs_if_ne dX8_meet_35 rfl ?_ ?_
    · refine zs_iload dX8_meet_46 5 rfl ?_
      refine zs_sipush (v := 1096) dX8_meet_48 csipush_1096 ?_
      refine zs_jn (fun j68 => zSy E mu_X8_meet d M0 (none, x0) x0 (j68) 68 [(0, .ref (E.2.2.2.1 + v0)), (1, .int v1), (2, .int v2), (3, .int v3), (4, .int v4)] [] M) ?_ (fun j68 hj68 => ?_)
      · refine zs_iload_n dX8_meet_68 rfl 3 rfl ?_
        refine zs_iconst (v := 1) dX8_meet_69 ciconst_1 ?_
        refine zs_iadd dX8_meet_70 ?_
        refine zs_sipush (v := 2047) dX8_meet_71 csipush_2047 ?_
        refine zs_iand dX8_meet_74 ?_
        refine zs_istore_nL (loc' := fun v3_4 => [(0, .ref (E.2.2.2.1 + v0)), (1, .int v1), (2, .int v2), (3, .int v3_4), (4, .int v4)]) dX8_meet_75 rfl (Nat.le_of_ble_eq_true rfl) [1, 2, 3, 0, 4] (fun _ => rfl) (fun v3_4 => ?_)
        refine zs_iinc (v := (v4 + 1)) (loc' := [(0, .ref (E.2.2.2.1 + v0)), (1, .int v1), (2, .int v2), (3, .int v3_4), (4, .int (v4 + 1))]) dX8_meet_76 4 rfl (by rfl) (Nat.le_of_ble_eq_true rfl) [1, 2, 3, 4, 0] rfl ?_
        refine zs_goto dX8_meet_79 rfl ?_
        exact ih v3_4 (v4 + 1)
      refine zs_icmp_gt dX8_meet_51 rfl ?_ ?_
      · refine zs_sub (loc' := [(0, .ref (E.2.2.2.1 + v0)), (1, .int v1), (2, .int v2), (3, .int v3), (4, .int v4)]) [0, 1, 2, 3, 4] rfl ?_
        exact hj68
      refine zs_aload_n dX8_meet_54 rfl 0 rfl ?_
      refine zs_getR dX8_meet_55 fl_X8_15 rfl (fun y5 => ?_)
      refine zs_iload dX8_meet_58 5 rfl ?_
      refine zs_iconst (v := 1) dX8_meet_60 ciconst_1 ?_
      refine zs_isub dX8_meet_61 ?_
      refine zs_ldI dX8_meet_62 (fun y6 => ?_)
      refine zs_iload_n dX8_meet_63 rfl 1 rfl ?_
      refine zs_icmp_ne dX8_meet_64 rfl ?_ ?_
      · refine zs_sub (loc' := [(0, .ref (E.2.2.2.1 + v0)), (1, .int v1), (2, .int v2), (3, .int v3), (4, .int v4)]) [0, 1, 2, 3, 4] rfl ?_
        exact hj68
      exact zs_vret dX8_meet_67 trivial
    refine zs_aload_n dX8_meet_38 rfl 0 rfl ?_
    refine zs_iload_n dX8_meet_39 rfl 1 rfl ?_
    refine zs_iload_n dX8_meet_40 rfl 2 rfl ?_
    refine zs_iload_n dX8_meet_41 rfl 3 rfl ?_
    refine zs_invVWV (rest := []) [.int v1, .int v2, .int v3] dX8_meet_42 lk_X8_47 rfl (fun _ h => th_X8_keep h) (zd1 rfl hd) rfl (Nat.le_of_ble_eq_true rfl) (ct_X8_keep E hE _ (zdl rfl hd) _ _ _ _ _) (fun M7 => ?_)
    exact zs_vret dX8_meet_45 trivial
set_option maxHeartbeats 4000000 in
set_option maxRecDepth 100000 in
theorem ct_X8_meet (E : zEnv) (hE : zEok E) (d : Nat) (hd : 2 ≤ d) (v0 : Nat) (v1 : Int32) (v2 : Int32) (M : zM) (x0 : zM) (hx : fp_X8_meet v0 v1 v2 M = some x0) : zCt E mu_X8_meet d [.ref (E.2.2.2.1 + v0), .int v1, .int v2] M (none, x0) := by
  refine zCt_of (μ := mu_X8_meet) (t := fp_X8_meet v0 v1 v2 M) rfl rfl (Nat.le_of_ble_eq_true rfl) hx ?_
  change zSy E mu_X8_meet d M (none, x0) x0 (fp_X8_meet v0 v1 v2 M) 0 [(0, .ref (E.2.2.2.1 + v0)), (1, .int v1), (2, .int v2)] [] M
  unfold fp_X8_meet
  refine zs_this (fun hth => ?_)
  refine zs_iload_n dX8_meet_0 rfl 1 rfl ?_
  refine zs_iload_n dX8_meet_1 rfl 1 rfl ?_
  refine zs_bipush (v := 9) dX8_meet_2 cbipush_9 ?_
  refine zs_ishr dX8_meet_4 ?_
  refine zs_ixor dX8_meet_5 ?_
  refine zs_bipush (v := 31) dX8_meet_6 cbipush_31 ?_
  refine zs_imul dX8_meet_8 ?_
  refine zs_sipush (v := 2047) dX8_meet_9 csipush_2047 ?_
  refine zs_iand dX8_meet_12 ?_
  refine zs_istore_nL (loc' := fun v3_1 => [(0, .ref (E.2.2.2.1 + v0)), (1, .int v1), (2, .int v2), (3, .int v3_1)]) dX8_meet_13 rfl (Nat.le_of_ble_eq_true rfl) [1, 2, 3, 0] (fun _ => rfl) (fun v3_1 => ?_)
  refine zs_iconst (v := 0) dX8_meet_14 ciconst_0 ?_
  refine zs_istore (loc' := [(0, .ref (E.2.2.2.1 + v0)), (1, .int v1), (2, .int v2), (3, .int v3_1), (4, .int 0)]) dX8_meet_15 (Nat.le_of_ble_eq_true rfl) [1, 2, 3, 4, 0] rfl ?_
  exact w_X8_meet_L17 E hE d hd _ _ _ _ _ _ _ _ _
theorem dX8_gather_0 : decode cX8_gather 0 = .ok (.aload_n 0, 1) := by decide +kernel
theorem dX8_gather_1 : decode cX8_gather 1 = .ok (.getfield 9, 3) := by decide +kernel
theorem dX8_gather_4 : decode cX8_gather 4 = .ok (.iload_n 1, 1) := by decide +kernel
theorem dX8_gather_5 : decode cX8_gather 5 = .ok (.if_icmp .ne 12, 3) := by decide +kernel
theorem dX8_gather_8 : decode cX8_gather 8 = .ok (.aload_n 0, 1) := by decide +kernel
theorem dX8_gather_9 : decode cX8_gather 9 = .ok (.getfield 25, 3) := by decide +kernel
theorem dX8_gather_12 : decode cX8_gather 12 = .ok (.iload_n 2, 1) := by decide +kernel
theorem dX8_gather_13 : decode cX8_gather 13 = .ok (.if_icmp .ne 4, 3) := by decide +kernel
theorem dX8_gather_16 : decode cX8_gather 16 = .ok (.return_, 1) := by decide +kernel
theorem dX8_gather_17 : decode cX8_gather 17 = .ok (.aload_n 0, 1) := by decide +kernel
theorem dX8_gather_18 : decode cX8_gather 18 = .ok (.iload_n 1, 1) := by decide +kernel
theorem dX8_gather_19 : decode cX8_gather 19 = .ok (.putfield 9, 3) := by decide +kernel
theorem dX8_gather_22 : decode cX8_gather 22 = .ok (.aload_n 0, 1) := by decide +kernel
theorem dX8_gather_23 : decode cX8_gather 23 = .ok (.iload_n 2, 1) := by decide +kernel
theorem dX8_gather_24 : decode cX8_gather 24 = .ok (.putfield 25, 3) := by decide +kernel
theorem dX8_gather_27 : decode cX8_gather 27 = .ok (.aload_n 0, 1) := by decide +kernel
theorem dX8_gather_28 : decode cX8_gather 28 = .ok (.iconst 0, 1) := by decide +kernel
theorem dX8_gather_29 : decode cX8_gather 29 = .ok (.putfield 28, 3) := by decide +kernel
theorem dX8_gather_32 : decode cX8_gather 32 = .ok (.aload_n 0, 1) := by decide +kernel
theorem dX8_gather_33 : decode cX8_gather 33 = .ok (.getfield 22, 3) := by decide +kernel
theorem dX8_gather_36 : decode cX8_gather 36 = .ok (.iconst 0, 1) := by decide +kernel
theorem dX8_gather_37 : decode cX8_gather 37 = .ok (.invokestatic 31, 3) := by decide +kernel
theorem dX8_gather_40 : decode cX8_gather 40 = .ok (.aload_n 0, 1) := by decide +kernel
theorem dX8_gather_41 : decode cX8_gather 41 = .ok (.aload_n 0, 1) := by decide +kernel
theorem dX8_gather_42 : decode cX8_gather 42 = .ok (.getfield 25, 3) := by decide +kernel
theorem dX8_gather_45 : decode cX8_gather 45 = .ok (.iconst 0, 1) := by decide +kernel
theorem dX8_gather_46 : decode cX8_gather 46 = .ok (.invokevirtual 37, 3) := by decide +kernel
theorem dX8_gather_49 : decode cX8_gather 49 = .ok (.iconst 0, 1) := by decide +kernel
theorem dX8_gather_50 : decode cX8_gather 50 = .ok (.istore_n 3, 1) := by decide +kernel
theorem dX8_gather_51 : decode cX8_gather 51 = .ok (.iload_n 3, 1) := by decide +kernel
theorem dX8_gather_52 : decode cX8_gather 52 = .ok (.aload_n 0, 1) := by decide +kernel
theorem dX8_gather_53 : decode cX8_gather 53 = .ok (.getfield 28, 3) := by decide +kernel
theorem dX8_gather_56 : decode cX8_gather 56 = .ok (.if_icmp .ge 61, 3) := by decide +kernel
theorem dX8_gather_59 : decode cX8_gather 59 = .ok (.iload_n 3, 1) := by decide +kernel
theorem dX8_gather_60 : decode cX8_gather 60 = .ok (.sipush 1096, 3) := by decide +kernel
theorem dX8_gather_63 : decode cX8_gather 63 = .ok (.if_icmp .ge 54, 3) := by decide +kernel
theorem dX8_gather_66 : decode cX8_gather 66 = .ok (.iconst 0, 1) := by decide +kernel
theorem dX8_gather_67 : decode cX8_gather 67 = .ok (.istore 4, 2) := by decide +kernel
theorem dX8_gather_69 : decode cX8_gather 69 = .ok (.iload 4, 2) := by decide +kernel
theorem dX8_gather_71 : decode cX8_gather 71 = .ok (.aload_n 0, 1) := by decide +kernel
theorem dX8_gather_72 : decode cX8_gather 72 = .ok (.getfield 9, 3) := by decide +kernel
theorem dX8_gather_75 : decode cX8_gather 75 = .ok (.if_icmp .ge 36, 3) := by decide +kernel
theorem dX8_gather_78 : decode cX8_gather 78 = .ok (.aload_n 0, 1) := by decide +kernel
theorem dX8_gather_79 : decode cX8_gather 79 = .ok (.aload_n 0, 1) := by decide +kernel
theorem dX8_gather_80 : decode cX8_gather 80 = .ok (.getfield 9, 3) := by decide +kernel
theorem dX8_gather_83 : decode cX8_gather 83 = .ok (.aload_n 0, 1) := by decide +kernel
theorem dX8_gather_84 : decode cX8_gather 84 = .ok (.getfield 15, 3) := by decide +kernel
theorem dX8_gather_87 : decode cX8_gather 87 = .ok (.iload_n 3, 1) := by decide +kernel
theorem dX8_gather_88 : decode cX8_gather 88 = .ok (.iaload, 1) := by decide +kernel
theorem dX8_gather_89 : decode cX8_gather 89 = .ok (.iload 4, 2) := by decide +kernel
theorem dX8_gather_91 : decode cX8_gather 91 = .ok (.invokestatic 41, 3) := by decide +kernel
theorem dX8_gather_94 : decode cX8_gather 94 = .ok (.aload_n 0, 1) := by decide +kernel
theorem dX8_gather_95 : decode cX8_gather 95 = .ok (.getfield 19, 3) := by decide +kernel
theorem dX8_gather_98 : decode cX8_gather 98 = .ok (.iload_n 3, 1) := by decide +kernel
theorem dX8_gather_99 : decode cX8_gather 99 = .ok (.iaload, 1) := by decide +kernel
theorem dX8_gather_100 : decode cX8_gather 100 = .ok (.iconst 1, 1) := by decide +kernel
theorem dX8_gather_101 : decode cX8_gather 101 = .ok (.iadd, 1) := by decide +kernel
theorem dX8_gather_102 : decode cX8_gather 102 = .ok (.invokevirtual 37, 3) := by decide +kernel
theorem dX8_gather_105 : decode cX8_gather 105 = .ok (.iinc 4 1, 3) := by decide +kernel
theorem dX8_gather_108 : decode cX8_gather 108 = .ok (.goto (-39), 3) := by decide +kernel
theorem dX8_gather_111 : decode cX8_gather 111 = .ok (.iinc 3 1, 3) := by decide +kernel
theorem dX8_gather_114 : decode cX8_gather 114 = .ok (.goto (-63), 3) := by decide +kernel
theorem dX8_gather_117 : decode cX8_gather 117 = .ok (.return_, 1) := by decide +kernel
def fp_X8_gather_L69 (k111 : zM → Option (zM)) (v0 : Nat) (v3 : Int32) : Nat → Int32 → zM → Option (zM)
  | 0, _, _ => none
  | n + 1, v4, M =>
    (zgI 6 M v0 1).bind fun (y10 : Int32) =>
    if v4 ≥ y10 then (
      k111 M)
    else (
      (zgI 6 M v0 1).bind fun (y11 : Int32) =>
      (zgR 6 M v0 3).bind fun (y12 : Nat) =>
      (zlI 100 M y12 v3).bind fun (y13 : Int32) =>
      (fp_X2_turnedAt y11 y13 v4).bind fun (y14 : Int32) =>
      (zgR 6 M v0 4).bind fun (y15 : Nat) =>
      (zlI 100 M y15 v3).bind fun (y16 : Int32) =>
      (fp_X8_meet v0 y14 (y16 + 1) M).bind fun (M17 : zM) =>
      fp_X8_gather_L69 k111 v0 v3 n (v4 + 1) M17)
def fp_X8_gather_L51 (v0 : Nat) : Nat → Int32 → zM → Option (zM)
  | 0, _, _ => none
  | n + 1, v3, M =>
    (zgI 6 M v0 0).bind fun (y9 : Int32) =>
    if v3 ≥ y9 then (
      some M)
    else (
      if v3 ≥ 1096 then (
        some M)
      else (
        fp_X8_gather_L69
          (fun M18 =>
            fp_X8_gather_L51 v0 n (v3 + 1) M18) v0 v3 FU 0 M))
def fp_X8_gather (v0 : Nat) (v1 : Int32) (v2 : Int32) (M : zM) : Option (zM) :=
  zthis 6 M v0 (
    (zgI 6 M v0 1).bind fun (y1 : Int32) =>
    zjn (
        (zpI 6 M v0 1 v1).bind fun (M2 : zM) =>
        (zpI 6 M2 v0 2 v2).bind fun (M3 : zM) =>
        (zpI 6 M3 v0 0 0).bind fun (M4 : zM) =>
        (zgR 6 M4 v0 5).bind fun (y5 : Nat) =>
        (fp_J7_fill_53178 y5 0 M4).bind fun (M6 : zM) =>
        (zgI 6 M6 v0 2).bind fun (y7 : Int32) =>
        (fp_X8_meet v0 y7 0 M6).bind fun (M8 : zM) =>
        fp_X8_gather_L51 v0 FU 0 M8)
      (fun j17 =>
        if y1 ≠ v1 then (
          j17)
        else (
          (zgI 6 M v0 2).bind fun (y19 : Int32) =>
          if y19 ≠ v2 then (
            j17)
          else (
            some M))))
set_option maxHeartbeats 4000000 in
set_option maxRecDepth 100000 in
theorem th_X8_gather {v0 : Nat} {v1 : Int32} {v2 : Int32} {M : zM} {x0 : zM} (h : fp_X8_gather v0 v1 v2 M = some x0) : v0 < zS M ∧ kd v0 = 6 := by
  unfold fp_X8_gather at h
  exact zthis_of h
set_option maxHeartbeats 4000000 in
set_option maxRecDepth 100000 in
theorem w_X8_gather_L69 (E : zEnv) (hE : zEok E) (d : Nat) (hd : 3 ≤ d) (M0 : zM) (x0 : zM) (v0 : Nat) (v3 : Int32) (k111 : zM → Option (zM)) (hk111 : ∀ (M : zM), zSy E mu_X8_gather d M0 (none, x0) x0 (k111 M) 111 [(0, .ref (E.2.2.2.1 + v0)), (3, .int v3)] [] M) : ∀ (n : Nat) (v4 : Int32) (M : zM), zSy E mu_X8_gather d M0 (none, x0) x0 (fp_X8_gather_L69 k111 v0 v3 n v4 M) 69 [(0, .ref (E.2.2.2.1 + v0)), (3, .int v3), (4, .int v4)] [] M := by
  intro n
  induction n with
  | zero =>
    intro v4 M
    rw [fp_X8_gather_L69]
    exact zs_none
  | succ n ih =>
    intro v4 M
    rw [fp_X8_gather_L69]
    refine zs_iload dX8_gather_69 2 rfl ?_
    refine zs_aload_n dX8_gather_71 rfl 0 rfl ?_
    refine zs_getI dX8_gather_72 fl_X8_9 rfl (fun y10 => ?_)
    refine zs_icmp_ge dX8_gather_75 rfl ?_ ?_
    · refine zs_sub (loc' := [(0, .ref (E.2.2.2.1 + v0)), (3, .int v3)]) [0, 1] rfl ?_
      exact hk111 M
    refine zs_aload_n dX8_gather_78 rfl 0 rfl ?_
    refine zs_aload_n dX8_gather_79 rfl 0 rfl ?_
    refine zs_getI dX8_gather_80 fl_X8_9 rfl (fun y11 => ?_)
    refine zs_aload_n dX8_gather_83 rfl 0 rfl ?_
    refine zs_getR dX8_gather_84 fl_X8_15 rfl (fun y12 => ?_)
    refine zs_iload_n dX8_gather_87 rfl 1 rfl ?_
    refine zs_ldI dX8_gather_88 (fun y13 => ?_)
    refine zs_iload dX8_gather_89 2 rfl ?_
    refine zs_invSPI (rest := [.ref (E.2.2.2.1 + v0)]) [.int y11, .int y13, .int v4] dX8_gather_91 lk_X8_41 rfl (zd1 rfl hd) rfl (Nat.le_of_ble_eq_true rfl) (ct_X2_turnedAt E hE _ (zdl rfl hd) _ _ _ _) (fun y14 => ?_)
    refine zs_aload_n dX8_gather_94 rfl 0 rfl ?_
    refine zs_getR dX8_gather_95 fl_X8_19 rfl (fun y15 => ?_)
    refine zs_iload_n dX8_gather_98 rfl 1 rfl ?_
    refine zs_ldI dX8_gather_99 (fun y16 => ?_)
    refine zs_iconst (v := 1) dX8_gather_100 ciconst_1 ?_
    refine zs_iadd dX8_gather_101 ?_
    refine zs_invVWV (rest := []) [.int y14, .int (y16 + 1)] dX8_gather_102 lk_X8_37 rfl (fun _ h => th_X8_meet h) (zd1 rfl hd) rfl (Nat.le_of_ble_eq_true rfl) (ct_X8_meet E hE _ (zdl rfl hd) _ _ _ _) (fun M17 => ?_)
    refine zs_iinc (v := (v4 + 1)) (loc' := [(0, .ref (E.2.2.2.1 + v0)), (3, .int v3), (4, .int (v4 + 1))]) dX8_gather_105 2 rfl (by rfl) (Nat.le_of_ble_eq_true rfl) [1, 2, 0] rfl ?_
    refine zs_goto dX8_gather_108 rfl ?_
    exact ih (v4 + 1) M17
set_option maxHeartbeats 4000000 in
set_option maxRecDepth 100000 in
theorem w_X8_gather_L51 (E : zEnv) (hE : zEok E) (d : Nat) (hd : 3 ≤ d) (M0 : zM) (x0 : zM) (v0 : Nat)  : ∀ (n : Nat) (v3 : Int32) (M : zM), zSy E mu_X8_gather d M0 (none, x0) x0 (fp_X8_gather_L51 v0 n v3 M) 51 [(0, .ref (E.2.2.2.1 + v0)), (3, .int v3)] [] M := by
  intro n
  induction n with
  | zero =>
    intro v3 M
    rw [fp_X8_gather_L51]
    exact zs_none
  | succ n ih =>
    intro v3 M
    rw [fp_X8_gather_L51]
    refine zs_iload_n dX8_gather_51 rfl 1 rfl ?_
    refine zs_aload_n dX8_gather_52 rfl 0 rfl ?_
    refine zs_getI dX8_gather_53 fl_X8_28 rfl (fun y9 => ?_)
    refine zs_icmp_ge dX8_gather_56 rfl ?_ ?_
    · exact zs_vret dX8_gather_117 trivial
    refine zs_iload_n dX8_gather_59 rfl 1 rfl ?_
    refine zs_sipush (v := 1096) dX8_gather_60 csipush_1096 ?_
    refine zs_icmp_ge dX8_gather_63 rfl ?_ ?_
    · exact zs_vret dX8_gather_117 trivial
    refine zs_iconst (v := 0) dX8_gather_66 ciconst_0 ?_
    refine zs_istore (loc' := [(0, .ref (E.2.2.2.1 + v0)), (3, .int v3), (4, .int 0)]) dX8_gather_67 (Nat.le_of_ble_eq_true rfl) [1, 2, 0] rfl ?_
    refine w_X8_gather_L69 E hE d hd _ _ _ _ _ (fun M18 => ?_) _ _ _
    refine zs_iinc (v := (v3 + 1)) (loc' := [(0, .ref (E.2.2.2.1 + v0)), (3, .int (v3 + 1))]) dX8_gather_111 1 rfl (by rfl) (Nat.le_of_ble_eq_true rfl) [1, 0] rfl ?_
    refine zs_goto dX8_gather_114 rfl ?_
    exact ih (v3 + 1) M18
set_option maxHeartbeats 4000000 in
set_option maxRecDepth 100000 in
theorem ct_X8_gather (E : zEnv) (hE : zEok E) (d : Nat) (hd : 3 ≤ d) (v0 : Nat) (v1 : Int32) (v2 : Int32) (M : zM) (x0 : zM) (hx : fp_X8_gather v0 v1 v2 M = some x0) : zCt E mu_X8_gather d [.ref (E.2.2.2.1 + v0), .int v1, .int v2] M (none, x0) := by
  refine zCt_of (μ := mu_X8_gather) (t := fp_X8_gather v0 v1 v2 M) rfl rfl (Nat.le_of_ble_eq_true rfl) hx ?_
  change zSy E mu_X8_gather d M (none, x0) x0 (fp_X8_gather v0 v1 v2 M) 0 [(0, .ref (E.2.2.2.1 + v0)), (1, .int v1), (2, .int v2)] [] M
  unfold fp_X8_gather
  refine zs_this (fun hth => ?_)
  refine zs_aload_n dX8_gather_0 rfl 0 rfl ?_
  refine zs_getI dX8_gather_1 fl_X8_9 rfl (fun y1 => ?_)
  refine zs_iload_n dX8_gather_4 rfl 1 rfl ?_
  refine zs_jn (fun j17 => zSy E mu_X8_gather d M (none, x0) x0 (j17) 17 [(0, .ref (E.2.2.2.1 + v0)), (1, .int v1), (2, .int v2)] [] M) ?_ (fun j17 hj17 => ?_)
  · refine zs_aload_n dX8_gather_17 rfl 0 rfl ?_
    refine zs_iload_n dX8_gather_18 rfl 1 rfl ?_
    refine zs_putI dX8_gather_19 fl_X8_9 ft_X8 rfl rfl rfl rfl rfl (fun M2 => ?_)
    refine zs_aload_n dX8_gather_22 rfl 0 rfl ?_
    refine zs_iload_n dX8_gather_23 rfl 2 rfl ?_
    refine zs_putI dX8_gather_24 fl_X8_25 ft_X8 rfl rfl rfl rfl rfl (fun M3 => ?_)
    refine zs_aload_n dX8_gather_27 rfl 0 rfl ?_
    refine zs_iconst (v := 0) dX8_gather_28 ciconst_0 ?_
    refine zs_putI dX8_gather_29 fl_X8_28 ft_X8 rfl rfl rfl rfl rfl (fun M4 => ?_)
    refine zs_aload_n dX8_gather_32 rfl 0 rfl ?_
    refine zs_getR dX8_gather_33 fl_X8_22 rfl (fun y5 => ?_)
    refine zs_iconst (v := 0) dX8_gather_36 ciconst_0 ?_
    refine zs_invSWV (rest := []) [.ref (E.2.2.2.1 + y5), .int 0] dX8_gather_37 lk_X8_31 rfl (zd1 rfl hd) rfl (Nat.le_of_ble_eq_true rfl) (ct_J7_fill_53178 E hE _ (zdl rfl hd) _ _ _) (fun M6 => ?_)
    refine zs_aload_n dX8_gather_40 rfl 0 rfl ?_
    refine zs_aload_n dX8_gather_41 rfl 0 rfl ?_
    refine zs_getI dX8_gather_42 fl_X8_25 rfl (fun y7 => ?_)
    refine zs_iconst (v := 0) dX8_gather_45 ciconst_0 ?_
    refine zs_invVWV (rest := []) [.int y7, .int 0] dX8_gather_46 lk_X8_37 rfl (fun _ h => th_X8_meet h) (zd1 rfl hd) rfl (Nat.le_of_ble_eq_true rfl) (ct_X8_meet E hE _ (zdl rfl hd) _ _ _ _) (fun M8 => ?_)
    refine zs_iconst (v := 0) dX8_gather_49 ciconst_0 ?_
    refine zs_istore_n (loc' := [(0, .ref (E.2.2.2.1 + v0)), (3, .int 0)]) dX8_gather_50 rfl (Nat.le_of_ble_eq_true rfl) [1, 0] rfl ?_
    exact w_X8_gather_L51 E hE d hd _ _ _ _ _ _
  refine zs_icmp_ne dX8_gather_5 rfl ?_ ?_
  · exact hj17
  refine zs_aload_n dX8_gather_8 rfl 0 rfl ?_
  refine zs_getI dX8_gather_9 fl_X8_25 rfl (fun y19 => ?_)
  refine zs_iload_n dX8_gather_12 rfl 2 rfl ?_
  refine zs_icmp_ne dX8_gather_13 rfl ?_ ?_
  · exact hj17
  exact zs_vret dX8_gather_16 trivial
theorem dX8_fewestLines_0 : decode cX8_fewestLines 0 = .ok (.aload_n 0, 1) := by decide +kernel
theorem dX8_fewestLines_1 : decode cX8_fewestLines 1 = .ok (.getfield 25, 3) := by decide +kernel
theorem dX8_fewestLines_4 : decode cX8_fewestLines 4 = .ok (.invokestatic 51, 3) := by decide +kernel
theorem dX8_fewestLines_7 : decode cX8_fewestLines 7 = .ok (.istore_n 1, 1) := by decide +kernel
theorem dX8_fewestLines_8 : decode cX8_fewestLines 8 = .ok (.iconst 0, 1) := by decide +kernel
theorem dX8_fewestLines_9 : decode cX8_fewestLines 9 = .ok (.istore_n 2, 1) := by decide +kernel
theorem dX8_fewestLines_10 : decode cX8_fewestLines 10 = .ok (.iload_n 2, 1) := by decide +kernel
theorem dX8_fewestLines_11 : decode cX8_fewestLines 11 = .ok (.aload_n 0, 1) := by decide +kernel
theorem dX8_fewestLines_12 : decode cX8_fewestLines 12 = .ok (.getfield 28, 3) := by decide +kernel
theorem dX8_fewestLines_15 : decode cX8_fewestLines 15 = .ok (.if_icmp .ge 23, 3) := by decide +kernel
theorem dX8_fewestLines_18 : decode cX8_fewestLines 18 = .ok (.iload_n 1, 1) := by decide +kernel
theorem dX8_fewestLines_19 : decode cX8_fewestLines 19 = .ok (.aload_n 0, 1) := by decide +kernel
theorem dX8_fewestLines_20 : decode cX8_fewestLines 20 = .ok (.getfield 15, 3) := by decide +kernel
theorem dX8_fewestLines_23 : decode cX8_fewestLines 23 = .ok (.iload_n 2, 1) := by decide +kernel
theorem dX8_fewestLines_24 : decode cX8_fewestLines 24 = .ok (.iaload, 1) := by decide +kernel
theorem dX8_fewestLines_25 : decode cX8_fewestLines 25 = .ok (.invokestatic 51, 3) := by decide +kernel
theorem dX8_fewestLines_28 : decode cX8_fewestLines 28 = .ok (.invokestatic 57, 3) := by decide +kernel
theorem dX8_fewestLines_31 : decode cX8_fewestLines 31 = .ok (.istore_n 1, 1) := by decide +kernel
theorem dX8_fewestLines_32 : decode cX8_fewestLines 32 = .ok (.iinc 2 1, 3) := by decide +kernel
theorem dX8_fewestLines_35 : decode cX8_fewestLines 35 = .ok (.goto (-25), 3) := by decide +kernel
theorem dX8_fewestLines_38 : decode cX8_fewestLines 38 = .ok (.iload_n 1, 1) := by decide +kernel
theorem dX8_fewestLines_39 : decode cX8_fewestLines 39 = .ok (.ireturn, 1) := by decide +kernel
def fp_X8_fewestLines_L10 (v0 : Nat) (M : zM) : Nat → Int32 → Int32 → Option (Int32)
  | 0, _, _ => none
  | n + 1, v1, v2 =>
    (zgI 6 M v0 0).bind fun (y3 : Int32) =>
    if v2 ≥ y3 then (
      some v1)
    else (
      (zgR 6 M v0 3).bind fun (y4 : Nat) =>
      (zlI 100 M y4 v2).bind fun (y5 : Int32) =>
      (fp_J6_bitCount_0f7a4 y5).bind fun (y6 : Int32) =>
      lett ((kmin v1 y6)) fun (v1_7 : Int32) =>
      fp_X8_fewestLines_L10 v0 M n v1_7 (v2 + 1))
def fp_X8_fewestLines (v0 : Nat) (M : zM) : Option (Int32) :=
  zthis 6 M v0 (
    (zgI 6 M v0 2).bind fun (y1 : Int32) =>
    (fp_J6_bitCount_0f7a4 y1).bind fun (y2 : Int32) =>
    fp_X8_fewestLines_L10 v0 M FU y2 0)
set_option maxHeartbeats 4000000 in
set_option maxRecDepth 100000 in
theorem th_X8_fewestLines {v0 : Nat} {M : zM} {x0 : Int32} (h : fp_X8_fewestLines v0 M = some x0) : v0 < zS M ∧ kd v0 = 6 := by
  unfold fp_X8_fewestLines at h
  exact zthis_of h
set_option maxHeartbeats 4000000 in
set_option maxRecDepth 100000 in
theorem w_X8_fewestLines_L10 (E : zEnv) (hE : zEok E) (d : Nat) (hd : 2 ≤ d) (x0 : Int32) (v0 : Nat) (M : zM)  : ∀ (n : Nat) (v1 : Int32) (v2 : Int32), zSy E mu_X8_fewestLines d M (some (.int x0), M) x0 (fp_X8_fewestLines_L10 v0 M n v1 v2) 10 [(0, .ref (E.2.2.2.1 + v0)), (1, .int v1), (2, .int v2)] [] M := by
  intro n
  induction n with
  | zero =>
    intro v1 v2
    rw [fp_X8_fewestLines_L10]
    exact zs_none
  | succ n ih =>
    intro v1 v2
    rw [fp_X8_fewestLines_L10]
    refine zs_iload_n dX8_fewestLines_10 rfl 2 rfl ?_
    refine zs_aload_n dX8_fewestLines_11 rfl 0 rfl ?_
    refine zs_getI dX8_fewestLines_12 fl_X8_28 rfl (fun y3 => ?_)
    refine zs_icmp_ge dX8_fewestLines_15 rfl ?_ ?_
    · refine zs_iload_n dX8_fewestLines_38 rfl 1 rfl ?_
      exact zs_iretP dX8_fewestLines_39 rfl
    refine zs_iload_n dX8_fewestLines_18 rfl 1 rfl ?_
    refine zs_aload_n dX8_fewestLines_19 rfl 0 rfl ?_
    refine zs_getR dX8_fewestLines_20 fl_X8_15 rfl (fun y4 => ?_)
    refine zs_iload_n dX8_fewestLines_23 rfl 2 rfl ?_
    refine zs_ldI dX8_fewestLines_24 (fun y5 => ?_)
    refine zs_invSPI (rest := [.int v1]) [.int y5] dX8_fewestLines_25 lk_X8_51 rfl (zd1 rfl hd) rfl (Nat.le_of_ble_eq_true rfl) (ct_J6_bitCount_0f7a4 E hE _ (zdl rfl hd) _ _) (fun y6 => ?_)
    refine zs_min dX8_fewestLines_28 (ti_5 28 rfl rfl) ms_min mi_Math mc_min (zd0 rfl hd) (Nat.le_of_ble_eq_true rfl) ?_
    refine zs_istore_nL (loc' := fun v1_7 => [(0, .ref (E.2.2.2.1 + v0)), (1, .int v1_7), (2, .int v2)]) dX8_fewestLines_31 rfl (Nat.le_of_ble_eq_true rfl) [1, 0, 2] (fun _ => rfl) (fun v1_7 => ?_)
    refine zs_iinc (v := (v2 + 1)) (loc' := [(0, .ref (E.2.2.2.1 + v0)), (1, .int v1_7), (2, .int (v2 + 1))]) dX8_fewestLines_32 2 rfl (by rfl) (Nat.le_of_ble_eq_true rfl) [1, 2, 0] rfl ?_
    refine zs_goto dX8_fewestLines_35 rfl ?_
    exact ih v1_7 (v2 + 1)
set_option maxHeartbeats 4000000 in
set_option maxRecDepth 100000 in
theorem ct_X8_fewestLines (E : zEnv) (hE : zEok E) (d : Nat) (hd : 2 ≤ d) (v0 : Nat) (M : zM) (x0 : Int32) (hx : fp_X8_fewestLines v0 M = some x0) : zCt E mu_X8_fewestLines d [.ref (E.2.2.2.1 + v0)] M (some (.int x0), M) := by
  refine zCt_of (μ := mu_X8_fewestLines) (t := fp_X8_fewestLines v0 M) rfl rfl (Nat.le_of_ble_eq_true rfl) hx ?_
  change zSy E mu_X8_fewestLines d M (some (.int x0), M) x0 (fp_X8_fewestLines v0 M) 0 [(0, .ref (E.2.2.2.1 + v0))] [] M
  unfold fp_X8_fewestLines
  refine zs_this (fun hth => ?_)
  refine zs_aload_n dX8_fewestLines_0 rfl 0 rfl ?_
  refine zs_getI dX8_fewestLines_1 fl_X8_25 rfl (fun y1 => ?_)
  refine zs_invSPI (rest := []) [.int y1] dX8_fewestLines_4 lk_X8_51 rfl (zd1 rfl hd) rfl (Nat.le_of_ble_eq_true rfl) (ct_J6_bitCount_0f7a4 E hE _ (zdl rfl hd) _ _) (fun y2 => ?_)
  refine zs_istore_n (loc' := [(0, .ref (E.2.2.2.1 + v0)), (1, .int y2)]) dX8_fewestLines_7 rfl (Nat.le_of_ble_eq_true rfl) [1, 0] rfl ?_
  refine zs_iconst (v := 0) dX8_fewestLines_8 ciconst_0 ?_
  refine zs_istore_n (loc' := [(0, .ref (E.2.2.2.1 + v0)), (1, .int y2), (2, .int 0)]) dX8_fewestLines_9 rfl (Nat.le_of_ble_eq_true rfl) [1, 2, 0] rfl ?_
  exact w_X8_fewestLines_L10 E hE d hd _ _ _ _ _ _
theorem dX8_mostLines_0 : decode cX8_mostLines 0 = .ok (.iconst 0, 1) := by decide +kernel
theorem dX8_mostLines_1 : decode cX8_mostLines 1 = .ok (.istore_n 1, 1) := by decide +kernel
theorem dX8_mostLines_2 : decode cX8_mostLines 2 = .ok (.iconst 0, 1) := by decide +kernel
theorem dX8_mostLines_3 : decode cX8_mostLines 3 = .ok (.istore_n 2, 1) := by decide +kernel
theorem dX8_mostLines_4 : decode cX8_mostLines 4 = .ok (.iload_n 2, 1) := by decide +kernel
theorem dX8_mostLines_5 : decode cX8_mostLines 5 = .ok (.aload_n 0, 1) := by decide +kernel
theorem dX8_mostLines_6 : decode cX8_mostLines 6 = .ok (.getfield 28, 3) := by decide +kernel
theorem dX8_mostLines_9 : decode cX8_mostLines 9 = .ok (.if_icmp .ge 23, 3) := by decide +kernel
theorem dX8_mostLines_12 : decode cX8_mostLines 12 = .ok (.iload_n 1, 1) := by decide +kernel
theorem dX8_mostLines_13 : decode cX8_mostLines 13 = .ok (.aload_n 0, 1) := by decide +kernel
theorem dX8_mostLines_14 : decode cX8_mostLines 14 = .ok (.getfield 15, 3) := by decide +kernel
theorem dX8_mostLines_17 : decode cX8_mostLines 17 = .ok (.iload_n 2, 1) := by decide +kernel
theorem dX8_mostLines_18 : decode cX8_mostLines 18 = .ok (.iaload, 1) := by decide +kernel
theorem dX8_mostLines_19 : decode cX8_mostLines 19 = .ok (.invokestatic 51, 3) := by decide +kernel
theorem dX8_mostLines_22 : decode cX8_mostLines 22 = .ok (.invokestatic 63, 3) := by decide +kernel
theorem dX8_mostLines_25 : decode cX8_mostLines 25 = .ok (.istore_n 1, 1) := by decide +kernel
theorem dX8_mostLines_26 : decode cX8_mostLines 26 = .ok (.iinc 2 1, 3) := by decide +kernel
theorem dX8_mostLines_29 : decode cX8_mostLines 29 = .ok (.goto (-25), 3) := by decide +kernel
theorem dX8_mostLines_32 : decode cX8_mostLines 32 = .ok (.iload_n 1, 1) := by decide +kernel
theorem dX8_mostLines_33 : decode cX8_mostLines 33 = .ok (.ireturn, 1) := by decide +kernel
def fp_X8_mostLines_L4 (v0 : Nat) (M : zM) : Nat → Int32 → Int32 → Option (Int32)
  | 0, _, _ => none
  | n + 1, v1, v2 =>
    (zgI 6 M v0 0).bind fun (y1 : Int32) =>
    if v2 ≥ y1 then (
      some v1)
    else (
      (zgR 6 M v0 3).bind fun (y2 : Nat) =>
      (zlI 100 M y2 v2).bind fun (y3 : Int32) =>
      (fp_J6_bitCount_0f7a4 y3).bind fun (y4 : Int32) =>
      lett ((kmax v1 y4)) fun (v1_5 : Int32) =>
      fp_X8_mostLines_L4 v0 M n v1_5 (v2 + 1))
def fp_X8_mostLines (v0 : Nat) (M : zM) : Option (Int32) :=
  zthis 6 M v0 (
    fp_X8_mostLines_L4 v0 M FU 0 0)
set_option maxHeartbeats 4000000 in
set_option maxRecDepth 100000 in
theorem th_X8_mostLines {v0 : Nat} {M : zM} {x0 : Int32} (h : fp_X8_mostLines v0 M = some x0) : v0 < zS M ∧ kd v0 = 6 := by
  unfold fp_X8_mostLines at h
  exact zthis_of h
set_option maxHeartbeats 4000000 in
set_option maxRecDepth 100000 in
theorem w_X8_mostLines_L4 (E : zEnv) (hE : zEok E) (d : Nat) (hd : 2 ≤ d) (x0 : Int32) (v0 : Nat) (M : zM)  : ∀ (n : Nat) (v1 : Int32) (v2 : Int32), zSy E mu_X8_mostLines d M (some (.int x0), M) x0 (fp_X8_mostLines_L4 v0 M n v1 v2) 4 [(0, .ref (E.2.2.2.1 + v0)), (1, .int v1), (2, .int v2)] [] M := by
  intro n
  induction n with
  | zero =>
    intro v1 v2
    rw [fp_X8_mostLines_L4]
    exact zs_none
  | succ n ih =>
    intro v1 v2
    rw [fp_X8_mostLines_L4]
    refine zs_iload_n dX8_mostLines_4 rfl 2 rfl ?_
    refine zs_aload_n dX8_mostLines_5 rfl 0 rfl ?_
    refine zs_getI dX8_mostLines_6 fl_X8_28 rfl (fun y1 => ?_)
    refine zs_icmp_ge dX8_mostLines_9 rfl ?_ ?_
    · refine zs_iload_n dX8_mostLines_32 rfl 1 rfl ?_
      exact zs_iretP dX8_mostLines_33 rfl
    refine zs_iload_n dX8_mostLines_12 rfl 1 rfl ?_
    refine zs_aload_n dX8_mostLines_13 rfl 0 rfl ?_
    refine zs_getR dX8_mostLines_14 fl_X8_15 rfl (fun y2 => ?_)
    refine zs_iload_n dX8_mostLines_17 rfl 2 rfl ?_
    refine zs_ldI dX8_mostLines_18 (fun y3 => ?_)
    refine zs_invSPI (rest := [.int v1]) [.int y3] dX8_mostLines_19 lk_X8_51 rfl (zd1 rfl hd) rfl (Nat.le_of_ble_eq_true rfl) (ct_J6_bitCount_0f7a4 E hE _ (zdl rfl hd) _ _) (fun y4 => ?_)
    refine zs_max dX8_mostLines_22 (ti_5 33 rfl rfl) ms_max mi_Math mc_max (zd0 rfl hd) (Nat.le_of_ble_eq_true rfl) ?_
    refine zs_istore_nL (loc' := fun v1_5 => [(0, .ref (E.2.2.2.1 + v0)), (1, .int v1_5), (2, .int v2)]) dX8_mostLines_25 rfl (Nat.le_of_ble_eq_true rfl) [1, 0, 2] (fun _ => rfl) (fun v1_5 => ?_)
    refine zs_iinc (v := (v2 + 1)) (loc' := [(0, .ref (E.2.2.2.1 + v0)), (1, .int v1_5), (2, .int (v2 + 1))]) dX8_mostLines_26 2 rfl (by rfl) (Nat.le_of_ble_eq_true rfl) [1, 2, 0] rfl ?_
    refine zs_goto dX8_mostLines_29 rfl ?_
    exact ih v1_5 (v2 + 1)
set_option maxHeartbeats 4000000 in
set_option maxRecDepth 100000 in
theorem ct_X8_mostLines (E : zEnv) (hE : zEok E) (d : Nat) (hd : 2 ≤ d) (v0 : Nat) (M : zM) (x0 : Int32) (hx : fp_X8_mostLines v0 M = some x0) : zCt E mu_X8_mostLines d [.ref (E.2.2.2.1 + v0)] M (some (.int x0), M) := by
  refine zCt_of (μ := mu_X8_mostLines) (t := fp_X8_mostLines v0 M) rfl rfl (Nat.le_of_ble_eq_true rfl) hx ?_
  change zSy E mu_X8_mostLines d M (some (.int x0), M) x0 (fp_X8_mostLines v0 M) 0 [(0, .ref (E.2.2.2.1 + v0))] [] M
  unfold fp_X8_mostLines
  refine zs_this (fun hth => ?_)
  refine zs_iconst (v := 0) dX8_mostLines_0 ciconst_0 ?_
  refine zs_istore_n (loc' := [(0, .ref (E.2.2.2.1 + v0)), (1, .int 0)]) dX8_mostLines_1 rfl (Nat.le_of_ble_eq_true rfl) [1, 0] rfl ?_
  refine zs_iconst (v := 0) dX8_mostLines_2 ciconst_0 ?_
  refine zs_istore_n (loc' := [(0, .ref (E.2.2.2.1 + v0)), (1, .int 0), (2, .int 0)]) dX8_mostLines_3 rfl (Nat.le_of_ble_eq_true rfl) [1, 2, 0] rfl ?_
  exact w_X8_mostLines_L4 E hE d hd _ _ _ _ _ _
theorem dX8_countWith_0 : decode cX8_countWith 0 = .ok (.iconst 0, 1) := by decide +kernel
theorem dX8_countWith_1 : decode cX8_countWith 1 = .ok (.istore_n 2, 1) := by decide +kernel
theorem dX8_countWith_2 : decode cX8_countWith 2 = .ok (.iconst 0, 1) := by decide +kernel
theorem dX8_countWith_3 : decode cX8_countWith 3 = .ok (.istore_n 3, 1) := by decide +kernel
theorem dX8_countWith_4 : decode cX8_countWith 4 = .ok (.iload_n 3, 1) := by decide +kernel
theorem dX8_countWith_5 : decode cX8_countWith 5 = .ok (.aload_n 0, 1) := by decide +kernel
theorem dX8_countWith_6 : decode cX8_countWith 6 = .ok (.getfield 28, 3) := by decide +kernel
theorem dX8_countWith_9 : decode cX8_countWith 9 = .ok (.if_icmp .ge 25, 3) := by decide +kernel
theorem dX8_countWith_12 : decode cX8_countWith 12 = .ok (.aload_n 0, 1) := by decide +kernel
theorem dX8_countWith_13 : decode cX8_countWith 13 = .ok (.getfield 15, 3) := by decide +kernel
theorem dX8_countWith_16 : decode cX8_countWith 16 = .ok (.iload_n 3, 1) := by decide +kernel
theorem dX8_countWith_17 : decode cX8_countWith 17 = .ok (.iaload, 1) := by decide +kernel
theorem dX8_countWith_18 : decode cX8_countWith 18 = .ok (.invokestatic 51, 3) := by decide +kernel
theorem dX8_countWith_21 : decode cX8_countWith 21 = .ok (.iload_n 1, 1) := by decide +kernel
theorem dX8_countWith_22 : decode cX8_countWith 22 = .ok (.if_icmp .ne 6, 3) := by decide +kernel
theorem dX8_countWith_25 : decode cX8_countWith 25 = .ok (.iinc 2 1, 3) := by decide +kernel
theorem dX8_countWith_28 : decode cX8_countWith 28 = .ok (.iinc 3 1, 3) := by decide +kernel
theorem dX8_countWith_31 : decode cX8_countWith 31 = .ok (.goto (-27), 3) := by decide +kernel
theorem dX8_countWith_34 : decode cX8_countWith 34 = .ok (.iload_n 2, 1) := by decide +kernel
theorem dX8_countWith_35 : decode cX8_countWith 35 = .ok (.ireturn, 1) := by decide +kernel
def fp_X8_countWith_L4 (v0 : Nat) (v1 : Int32) (M : zM) : Nat → Int32 → Int32 → Option (Int32)
  | 0, _, _ => none
  | n + 1, v2, v3 =>
    (zgI 6 M v0 0).bind fun (y1 : Int32) =>
    if v3 ≥ y1 then (
      some v2)
    else (
      (zgR 6 M v0 3).bind fun (y2 : Nat) =>
      (zlI 100 M y2 v3).bind fun (y3 : Int32) =>
      (fp_J6_bitCount_0f7a4 y3).bind fun (y4 : Int32) =>
      zjn (fun (v2_5 : Int32) =>
          fp_X8_countWith_L4 v0 v1 M n v2_5 (v3 + 1))
        (fun j28 =>
          if y4 ≠ v1 then (
            j28 v2)
          else (
            j28 (v2 + 1))))
def fp_X8_countWith (v0 : Nat) (v1 : Int32) (M : zM) : Option (Int32) :=
  zthis 6 M v0 (
    fp_X8_countWith_L4 v0 v1 M FU 0 0)
set_option maxHeartbeats 4000000 in
set_option maxRecDepth 100000 in
theorem th_X8_countWith {v0 : Nat} {v1 : Int32} {M : zM} {x0 : Int32} (h : fp_X8_countWith v0 v1 M = some x0) : v0 < zS M ∧ kd v0 = 6 := by
  unfold fp_X8_countWith at h
  exact zthis_of h
set_option maxHeartbeats 4000000 in
set_option maxRecDepth 100000 in
theorem w_X8_countWith_L4 (E : zEnv) (hE : zEok E) (d : Nat) (hd : 2 ≤ d) (x0 : Int32) (v0 : Nat) (v1 : Int32) (M : zM)  : ∀ (n : Nat) (v2 : Int32) (v3 : Int32), zSy E mu_X8_countWith d M (some (.int x0), M) x0 (fp_X8_countWith_L4 v0 v1 M n v2 v3) 4 [(0, .ref (E.2.2.2.1 + v0)), (1, .int v1), (2, .int v2), (3, .int v3)] [] M := by
  intro n
  induction n with
  | zero =>
    intro v2 v3
    rw [fp_X8_countWith_L4]
    exact zs_none
  | succ n ih =>
    intro v2 v3
    rw [fp_X8_countWith_L4]
    refine zs_iload_n dX8_countWith_4 rfl 3 rfl ?_
    refine zs_aload_n dX8_countWith_5 rfl 0 rfl ?_
    refine zs_getI dX8_countWith_6 fl_X8_28 rfl (fun y1 => ?_)
    refine zs_icmp_ge dX8_countWith_9 rfl ?_ ?_
    · refine zs_iload_n dX8_countWith_34 rfl 2 rfl ?_
      exact zs_iretP dX8_countWith_35 rfl
    refine zs_aload_n dX8_countWith_12 rfl 0 rfl ?_
    refine zs_getR dX8_countWith_13 fl_X8_15 rfl (fun y2 => ?_)
    refine zs_iload_n dX8_countWith_16 rfl 3 rfl ?_
    refine zs_ldI dX8_countWith_17 (fun y3 => ?_)
    refine zs_invSPI (rest := []) [.int y3] dX8_countWith_18 lk_X8_51 rfl (zd1 rfl hd) rfl (Nat.le_of_ble_eq_true rfl) (ct_J6_bitCount_0f7a4 E hE _ (zdl rfl hd) _ _) (fun y4 => ?_)
    refine zs_iload_n dX8_countWith_21 rfl 1 rfl ?_
    refine zs_jn (fun j28 => ∀ (v2_5 : Int32), zSy E mu_X8_countWith d M (some (.int x0), M) x0 (j28 v2_5) 28 [(0, .ref (E.2.2.2.1 + v0)), (1, .int v1), (2, .int v2_5), (3, .int v3)] [] M) (fun v2_5 => ?_) (fun j28 hj28 => ?_)
    · refine zs_iinc (v := (v3 + 1)) (loc' := [(0, .ref (E.2.2.2.1 + v0)), (1, .int v1), (2, .int v2_5), (3, .int (v3 + 1))]) dX8_countWith_28 3 rfl (by rfl) (Nat.le_of_ble_eq_true rfl) [1, 2, 3, 0] rfl ?_
      refine zs_goto dX8_countWith_31 rfl ?_
      exact ih v2_5 (v3 + 1)
    refine zs_icmp_ne dX8_countWith_22 rfl ?_ ?_
    · exact hj28 v2
    refine zs_iinc (v := (v2 + 1)) (loc' := [(0, .ref (E.2.2.2.1 + v0)), (1, .int v1), (2, .int (v2 + 1)), (3, .int v3)]) dX8_countWith_25 2 rfl (by rfl) (Nat.le_of_ble_eq_true rfl) [1, 2, 0, 3] rfl ?_
    exact hj28 (v2 + 1)
set_option maxHeartbeats 4000000 in
set_option maxRecDepth 100000 in
theorem ct_X8_countWith (E : zEnv) (hE : zEok E) (d : Nat) (hd : 2 ≤ d) (v0 : Nat) (v1 : Int32) (M : zM) (x0 : Int32) (hx : fp_X8_countWith v0 v1 M = some x0) : zCt E mu_X8_countWith d [.ref (E.2.2.2.1 + v0), .int v1] M (some (.int x0), M) := by
  refine zCt_of (μ := mu_X8_countWith) (t := fp_X8_countWith v0 v1 M) rfl rfl (Nat.le_of_ble_eq_true rfl) hx ?_
  change zSy E mu_X8_countWith d M (some (.int x0), M) x0 (fp_X8_countWith v0 v1 M) 0 [(0, .ref (E.2.2.2.1 + v0)), (1, .int v1)] [] M
  unfold fp_X8_countWith
  refine zs_this (fun hth => ?_)
  refine zs_iconst (v := 0) dX8_countWith_0 ciconst_0 ?_
  refine zs_istore_n (loc' := [(0, .ref (E.2.2.2.1 + v0)), (1, .int v1), (2, .int 0)]) dX8_countWith_1 rfl (Nat.le_of_ble_eq_true rfl) [1, 2, 0] rfl ?_
  refine zs_iconst (v := 0) dX8_countWith_2 ciconst_0 ?_
  refine zs_istore_n (loc' := [(0, .ref (E.2.2.2.1 + v0)), (1, .int v1), (2, .int 0), (3, .int 0)]) dX8_countWith_3 rfl (Nat.le_of_ble_eq_true rfl) [1, 2, 3, 0] rfl ?_
  exact w_X8_countWith_L4 E hE d hd _ _ _ _ _ _ _
theorem dX8_allLines_0 : decode cX8_allLines 0 = .ok (.iconst 0, 1) := by decide +kernel
theorem dX8_allLines_1 : decode cX8_allLines 1 = .ok (.istore_n 1, 1) := by decide +kernel
theorem dX8_allLines_2 : decode cX8_allLines 2 = .ok (.iconst 0, 1) := by decide +kernel
theorem dX8_allLines_3 : decode cX8_allLines 3 = .ok (.istore_n 2, 1) := by decide +kernel
theorem dX8_allLines_4 : decode cX8_allLines 4 = .ok (.iload_n 2, 1) := by decide +kernel
theorem dX8_allLines_5 : decode cX8_allLines 5 = .ok (.aload_n 0, 1) := by decide +kernel
theorem dX8_allLines_6 : decode cX8_allLines 6 = .ok (.getfield 28, 3) := by decide +kernel
theorem dX8_allLines_9 : decode cX8_allLines 9 = .ok (.if_icmp .ge 21, 3) := by decide +kernel
theorem dX8_allLines_12 : decode cX8_allLines 12 = .ok (.iload_n 1, 1) := by decide +kernel
theorem dX8_allLines_13 : decode cX8_allLines 13 = .ok (.aload_n 0, 1) := by decide +kernel
theorem dX8_allLines_14 : decode cX8_allLines 14 = .ok (.getfield 15, 3) := by decide +kernel
theorem dX8_allLines_17 : decode cX8_allLines 17 = .ok (.iload_n 2, 1) := by decide +kernel
theorem dX8_allLines_18 : decode cX8_allLines 18 = .ok (.iaload, 1) := by decide +kernel
theorem dX8_allLines_19 : decode cX8_allLines 19 = .ok (.invokestatic 51, 3) := by decide +kernel
theorem dX8_allLines_22 : decode cX8_allLines 22 = .ok (.iadd, 1) := by decide +kernel
theorem dX8_allLines_23 : decode cX8_allLines 23 = .ok (.istore_n 1, 1) := by decide +kernel
theorem dX8_allLines_24 : decode cX8_allLines 24 = .ok (.iinc 2 1, 3) := by decide +kernel
theorem dX8_allLines_27 : decode cX8_allLines 27 = .ok (.goto (-23), 3) := by decide +kernel
theorem dX8_allLines_30 : decode cX8_allLines 30 = .ok (.iload_n 1, 1) := by decide +kernel
theorem dX8_allLines_31 : decode cX8_allLines 31 = .ok (.ireturn, 1) := by decide +kernel
def fp_X8_allLines_L4 (v0 : Nat) (M : zM) : Nat → Int32 → Int32 → Option (Int32)
  | 0, _, _ => none
  | n + 1, v1, v2 =>
    (zgI 6 M v0 0).bind fun (y1 : Int32) =>
    if v2 ≥ y1 then (
      some v1)
    else (
      (zgR 6 M v0 3).bind fun (y2 : Nat) =>
      (zlI 100 M y2 v2).bind fun (y3 : Int32) =>
      (fp_J6_bitCount_0f7a4 y3).bind fun (y4 : Int32) =>
      lett ((v1 + y4)) fun (v1_5 : Int32) =>
      fp_X8_allLines_L4 v0 M n v1_5 (v2 + 1))
def fp_X8_allLines (v0 : Nat) (M : zM) : Option (Int32) :=
  zthis 6 M v0 (
    fp_X8_allLines_L4 v0 M FU 0 0)
set_option maxHeartbeats 4000000 in
set_option maxRecDepth 100000 in
theorem th_X8_allLines {v0 : Nat} {M : zM} {x0 : Int32} (h : fp_X8_allLines v0 M = some x0) : v0 < zS M ∧ kd v0 = 6 := by
  unfold fp_X8_allLines at h
  exact zthis_of h
set_option maxHeartbeats 4000000 in
set_option maxRecDepth 100000 in
theorem w_X8_allLines_L4 (E : zEnv) (hE : zEok E) (d : Nat) (hd : 2 ≤ d) (x0 : Int32) (v0 : Nat) (M : zM)  : ∀ (n : Nat) (v1 : Int32) (v2 : Int32), zSy E mu_X8_allLines d M (some (.int x0), M) x0 (fp_X8_allLines_L4 v0 M n v1 v2) 4 [(0, .ref (E.2.2.2.1 + v0)), (1, .int v1), (2, .int v2)] [] M := by
  intro n
  induction n with
  | zero =>
    intro v1 v2
    rw [fp_X8_allLines_L4]
    exact zs_none
  | succ n ih =>
    intro v1 v2
    rw [fp_X8_allLines_L4]
    refine zs_iload_n dX8_allLines_4 rfl 2 rfl ?_
    refine zs_aload_n dX8_allLines_5 rfl 0 rfl ?_
    refine zs_getI dX8_allLines_6 fl_X8_28 rfl (fun y1 => ?_)
    refine zs_icmp_ge dX8_allLines_9 rfl ?_ ?_
    · refine zs_iload_n dX8_allLines_30 rfl 1 rfl ?_
      exact zs_iretP dX8_allLines_31 rfl
    refine zs_iload_n dX8_allLines_12 rfl 1 rfl ?_
    refine zs_aload_n dX8_allLines_13 rfl 0 rfl ?_
    refine zs_getR dX8_allLines_14 fl_X8_15 rfl (fun y2 => ?_)
    refine zs_iload_n dX8_allLines_17 rfl 2 rfl ?_
    refine zs_ldI dX8_allLines_18 (fun y3 => ?_)
    refine zs_invSPI (rest := [.int v1]) [.int y3] dX8_allLines_19 lk_X8_51 rfl (zd1 rfl hd) rfl (Nat.le_of_ble_eq_true rfl) (ct_J6_bitCount_0f7a4 E hE _ (zdl rfl hd) _ _) (fun y4 => ?_)
    refine zs_iadd dX8_allLines_22 ?_
    refine zs_istore_nL (loc' := fun v1_5 => [(0, .ref (E.2.2.2.1 + v0)), (1, .int v1_5), (2, .int v2)]) dX8_allLines_23 rfl (Nat.le_of_ble_eq_true rfl) [1, 0, 2] (fun _ => rfl) (fun v1_5 => ?_)
    refine zs_iinc (v := (v2 + 1)) (loc' := [(0, .ref (E.2.2.2.1 + v0)), (1, .int v1_5), (2, .int (v2 + 1))]) dX8_allLines_24 2 rfl (by rfl) (Nat.le_of_ble_eq_true rfl) [1, 2, 0] rfl ?_
    refine zs_goto dX8_allLines_27 rfl ?_
    exact ih v1_5 (v2 + 1)
set_option maxHeartbeats 4000000 in
set_option maxRecDepth 100000 in
theorem ct_X8_allLines (E : zEnv) (hE : zEok E) (d : Nat) (hd : 2 ≤ d) (v0 : Nat) (M : zM) (x0 : Int32) (hx : fp_X8_allLines v0 M = some x0) : zCt E mu_X8_allLines d [.ref (E.2.2.2.1 + v0)] M (some (.int x0), M) := by
  refine zCt_of (μ := mu_X8_allLines) (t := fp_X8_allLines v0 M) rfl rfl (Nat.le_of_ble_eq_true rfl) hx ?_
  change zSy E mu_X8_allLines d M (some (.int x0), M) x0 (fp_X8_allLines v0 M) 0 [(0, .ref (E.2.2.2.1 + v0))] [] M
  unfold fp_X8_allLines
  refine zs_this (fun hth => ?_)
  refine zs_iconst (v := 0) dX8_allLines_0 ciconst_0 ?_
  refine zs_istore_n (loc' := [(0, .ref (E.2.2.2.1 + v0)), (1, .int 0)]) dX8_allLines_1 rfl (Nat.le_of_ble_eq_true rfl) [1, 0] rfl ?_
  refine zs_iconst (v := 0) dX8_allLines_2 ciconst_0 ?_
  refine zs_istore_n (loc' := [(0, .ref (E.2.2.2.1 + v0)), (1, .int 0), (2, .int 0)]) dX8_allLines_3 rfl (Nat.le_of_ble_eq_true rfl) [1, 2, 0] rfl ?_
  exact w_X8_allLines_L4 E hE d hd _ _ _ _ _ _
theorem dX8_turnsTo_0 : decode cX8_turnsTo 0 = .ok (.iconst 0, 1) := by decide +kernel
theorem dX8_turnsTo_1 : decode cX8_turnsTo 1 = .ok (.istore_n 2, 1) := by decide +kernel
theorem dX8_turnsTo_2 : decode cX8_turnsTo 2 = .ok (.iload_n 2, 1) := by decide +kernel
theorem dX8_turnsTo_3 : decode cX8_turnsTo 3 = .ok (.aload_n 0, 1) := by decide +kernel
theorem dX8_turnsTo_4 : decode cX8_turnsTo 4 = .ok (.getfield 28, 3) := by decide +kernel
theorem dX8_turnsTo_7 : decode cX8_turnsTo 7 = .ok (.if_icmp .ge 26, 3) := by decide +kernel
theorem dX8_turnsTo_10 : decode cX8_turnsTo 10 = .ok (.aload_n 0, 1) := by decide +kernel
theorem dX8_turnsTo_11 : decode cX8_turnsTo 11 = .ok (.getfield 15, 3) := by decide +kernel
theorem dX8_turnsTo_14 : decode cX8_turnsTo 14 = .ok (.iload_n 2, 1) := by decide +kernel
theorem dX8_turnsTo_15 : decode cX8_turnsTo 15 = .ok (.iaload, 1) := by decide +kernel
theorem dX8_turnsTo_16 : decode cX8_turnsTo 16 = .ok (.iload_n 1, 1) := by decide +kernel
theorem dX8_turnsTo_17 : decode cX8_turnsTo 17 = .ok (.if_icmp .ne 10, 3) := by decide +kernel
theorem dX8_turnsTo_20 : decode cX8_turnsTo 20 = .ok (.aload_n 0, 1) := by decide +kernel
theorem dX8_turnsTo_21 : decode cX8_turnsTo 21 = .ok (.getfield 19, 3) := by decide +kernel
theorem dX8_turnsTo_24 : decode cX8_turnsTo 24 = .ok (.iload_n 2, 1) := by decide +kernel
theorem dX8_turnsTo_25 : decode cX8_turnsTo 25 = .ok (.iaload, 1) := by decide +kernel
theorem dX8_turnsTo_26 : decode cX8_turnsTo 26 = .ok (.ireturn, 1) := by decide +kernel
theorem dX8_turnsTo_27 : decode cX8_turnsTo 27 = .ok (.iinc 2 1, 3) := by decide +kernel
theorem dX8_turnsTo_30 : decode cX8_turnsTo 30 = .ok (.goto (-28), 3) := by decide +kernel
theorem dX8_turnsTo_33 : decode cX8_turnsTo 33 = .ok (.iconst (-1), 1) := by decide +kernel
theorem dX8_turnsTo_34 : decode cX8_turnsTo 34 = .ok (.ireturn, 1) := by decide +kernel
def fp_X8_turnsTo_L2 (v0 : Nat) (v1 : Int32) (M : zM) : Nat → Int32 → Option (Int32)
  | 0, _ => none
  | n + 1, v2 =>
    (zgI 6 M v0 0).bind fun (y1 : Int32) =>
    if v2 ≥ y1 then (
      some (-1))
    else (
      (zgR 6 M v0 3).bind fun (y2 : Nat) =>
      (zlI 100 M y2 v2).bind fun (y3 : Int32) =>
      if y3 ≠ v1 then (
        fp_X8_turnsTo_L2 v0 v1 M n (v2 + 1))
      else (
        (zgR 6 M v0 4).bind fun (y4 : Nat) =>
        (zlI 100 M y4 v2).bind fun (y5 : Int32) =>
        some y5))
def fp_X8_turnsTo (v0 : Nat) (v1 : Int32) (M : zM) : Option (Int32) :=
  zthis 6 M v0 (
    fp_X8_turnsTo_L2 v0 v1 M FU 0)
set_option maxHeartbeats 4000000 in
set_option maxRecDepth 100000 in
theorem th_X8_turnsTo {v0 : Nat} {v1 : Int32} {M : zM} {x0 : Int32} (h : fp_X8_turnsTo v0 v1 M = some x0) : v0 < zS M ∧ kd v0 = 6 := by
  unfold fp_X8_turnsTo at h
  exact zthis_of h
set_option maxHeartbeats 4000000 in
set_option maxRecDepth 100000 in
theorem w_X8_turnsTo_L2 (E : zEnv) (hE : zEok E) (d : Nat) (hd : 1 ≤ d) (x0 : Int32) (v0 : Nat) (v1 : Int32) (M : zM)  : ∀ (n : Nat) (v2 : Int32), zSy E mu_X8_turnsTo d M (some (.int x0), M) x0 (fp_X8_turnsTo_L2 v0 v1 M n v2) 2 [(0, .ref (E.2.2.2.1 + v0)), (1, .int v1), (2, .int v2)] [] M := by
  intro n
  induction n with
  | zero =>
    intro v2
    rw [fp_X8_turnsTo_L2]
    exact zs_none
  | succ n ih =>
    intro v2
    rw [fp_X8_turnsTo_L2]
    refine zs_iload_n dX8_turnsTo_2 rfl 2 rfl ?_
    refine zs_aload_n dX8_turnsTo_3 rfl 0 rfl ?_
    refine zs_getI dX8_turnsTo_4 fl_X8_28 rfl (fun y1 => ?_)
    refine zs_icmp_ge dX8_turnsTo_7 rfl ?_ ?_
    · refine zs_iconst (v := (-1)) dX8_turnsTo_33 ciconst_m1 ?_
      exact zs_iretP dX8_turnsTo_34 rfl
    refine zs_aload_n dX8_turnsTo_10 rfl 0 rfl ?_
    refine zs_getR dX8_turnsTo_11 fl_X8_15 rfl (fun y2 => ?_)
    refine zs_iload_n dX8_turnsTo_14 rfl 2 rfl ?_
    refine zs_ldI dX8_turnsTo_15 (fun y3 => ?_)
    refine zs_iload_n dX8_turnsTo_16 rfl 1 rfl ?_
    refine zs_icmp_ne dX8_turnsTo_17 rfl ?_ ?_
    · refine zs_iinc (v := (v2 + 1)) (loc' := [(0, .ref (E.2.2.2.1 + v0)), (1, .int v1), (2, .int (v2 + 1))]) dX8_turnsTo_27 2 rfl (by rfl) (Nat.le_of_ble_eq_true rfl) [1, 2, 0] rfl ?_
      refine zs_goto dX8_turnsTo_30 rfl ?_
      exact ih (v2 + 1)
    refine zs_aload_n dX8_turnsTo_20 rfl 0 rfl ?_
    refine zs_getR dX8_turnsTo_21 fl_X8_19 rfl (fun y4 => ?_)
    refine zs_iload_n dX8_turnsTo_24 rfl 2 rfl ?_
    refine zs_ldI dX8_turnsTo_25 (fun y5 => ?_)
    exact zs_iretP dX8_turnsTo_26 rfl
set_option maxHeartbeats 4000000 in
set_option maxRecDepth 100000 in
theorem ct_X8_turnsTo (E : zEnv) (hE : zEok E) (d : Nat) (hd : 1 ≤ d) (v0 : Nat) (v1 : Int32) (M : zM) (x0 : Int32) (hx : fp_X8_turnsTo v0 v1 M = some x0) : zCt E mu_X8_turnsTo d [.ref (E.2.2.2.1 + v0), .int v1] M (some (.int x0), M) := by
  refine zCt_of (μ := mu_X8_turnsTo) (t := fp_X8_turnsTo v0 v1 M) rfl rfl (Nat.le_of_ble_eq_true rfl) hx ?_
  change zSy E mu_X8_turnsTo d M (some (.int x0), M) x0 (fp_X8_turnsTo v0 v1 M) 0 [(0, .ref (E.2.2.2.1 + v0)), (1, .int v1)] [] M
  unfold fp_X8_turnsTo
  refine zs_this (fun hth => ?_)
  refine zs_iconst (v := 0) dX8_turnsTo_0 ciconst_0 ?_
  refine zs_istore_n (loc' := [(0, .ref (E.2.2.2.1 + v0)), (1, .int v1), (2, .int 0)]) dX8_turnsTo_1 rfl (Nat.le_of_ble_eq_true rfl) [1, 2, 0] rfl ?_
  exact w_X8_turnsTo_L2 E hE d hd _ _ _ _ _ _
theorem dX8_anyBeginsWith_0 : decode cX8_anyBeginsWith 0 = .ok (.iload_n 1, 1) := by decide +kernel
theorem dX8_anyBeginsWith_1 : decode cX8_anyBeginsWith 1 = .ok (.invokestatic 66, 3) := by decide +kernel
theorem dX8_anyBeginsWith_4 : decode cX8_anyBeginsWith 4 = .ok (.invokestatic 69, 3) := by decide +kernel
theorem dX8_anyBeginsWith_7 : decode cX8_anyBeginsWith 7 = .ok (.istore_n 3, 1) := by decide +kernel
theorem dX8_anyBeginsWith_8 : decode cX8_anyBeginsWith 8 = .ok (.iconst 0, 1) := by decide +kernel
theorem dX8_anyBeginsWith_9 : decode cX8_anyBeginsWith 9 = .ok (.istore 4, 2) := by decide +kernel
theorem dX8_anyBeginsWith_11 : decode cX8_anyBeginsWith 11 = .ok (.iload 4, 2) := by decide +kernel
theorem dX8_anyBeginsWith_13 : decode cX8_anyBeginsWith 13 = .ok (.aload_n 0, 1) := by decide +kernel
theorem dX8_anyBeginsWith_14 : decode cX8_anyBeginsWith 14 = .ok (.getfield 28, 3) := by decide +kernel
theorem dX8_anyBeginsWith_17 : decode cX8_anyBeginsWith 17 = .ok (.if_icmp .ge 24, 3) := by decide +kernel
theorem dX8_anyBeginsWith_20 : decode cX8_anyBeginsWith 20 = .ok (.aload_n 0, 1) := by decide +kernel
theorem dX8_anyBeginsWith_21 : decode cX8_anyBeginsWith 21 = .ok (.getfield 15, 3) := by decide +kernel
theorem dX8_anyBeginsWith_24 : decode cX8_anyBeginsWith 24 = .ok (.iload 4, 2) := by decide +kernel
theorem dX8_anyBeginsWith_26 : decode cX8_anyBeginsWith 26 = .ok (.iaload, 1) := by decide +kernel
theorem dX8_anyBeginsWith_27 : decode cX8_anyBeginsWith 27 = .ok (.iload_n 3, 1) := by decide +kernel
theorem dX8_anyBeginsWith_28 : decode cX8_anyBeginsWith 28 = .ok (.iand, 1) := by decide +kernel
theorem dX8_anyBeginsWith_29 : decode cX8_anyBeginsWith 29 = .ok (.iload_n 2, 1) := by decide +kernel
theorem dX8_anyBeginsWith_30 : decode cX8_anyBeginsWith 30 = .ok (.if_icmp .ne 5, 3) := by decide +kernel
theorem dX8_anyBeginsWith_33 : decode cX8_anyBeginsWith 33 = .ok (.iconst 1, 1) := by decide +kernel
theorem dX8_anyBeginsWith_34 : decode cX8_anyBeginsWith 34 = .ok (.ireturn, 1) := by decide +kernel
theorem dX8_anyBeginsWith_35 : decode cX8_anyBeginsWith 35 = .ok (.iinc 4 1, 3) := by decide +kernel
theorem dX8_anyBeginsWith_38 : decode cX8_anyBeginsWith 38 = .ok (.goto (-27), 3) := by decide +kernel
theorem dX8_anyBeginsWith_41 : decode cX8_anyBeginsWith 41 = .ok (.iconst 0, 1) := by decide +kernel
theorem dX8_anyBeginsWith_42 : decode cX8_anyBeginsWith 42 = .ok (.ireturn, 1) := by decide +kernel
def fp_X8_anyBeginsWith_L11 (v0 : Nat) (v2 : Int32) (v3 : Int32) (M : zM) : Nat → Int32 → Option (Int32)
  | 0, _ => none
  | n + 1, v4 =>
    (zgI 6 M v0 0).bind fun (y3 : Int32) =>
    if v4 ≥ y3 then (
      some 0)
    else (
      (zgR 6 M v0 3).bind fun (y4 : Nat) =>
      (zlI 100 M y4 v4).bind fun (y5 : Int32) =>
      if (y5 &&& v3) ≠ v2 then (
        fp_X8_anyBeginsWith_L11 v0 v2 v3 M n (v4 + 1))
      else (
        some 1))
def fp_X8_anyBeginsWith (v0 : Nat) (v1 : Int32) (v2 : Int32) (M : zM) : Option (Int32) :=
  zthis 6 M v0 (
    (fp_X2_everyPoint v1).bind fun (y1 : Int32) =>
    (fp_X2_pairsOf y1).bind fun (y2 : Int32) =>
    fp_X8_anyBeginsWith_L11 v0 v2 y2 M FU 0)
set_option maxHeartbeats 4000000 in
set_option maxRecDepth 100000 in
theorem th_X8_anyBeginsWith {v0 : Nat} {v1 : Int32} {v2 : Int32} {M : zM} {x0 : Int32} (h : fp_X8_anyBeginsWith v0 v1 v2 M = some x0) : v0 < zS M ∧ kd v0 = 6 := by
  unfold fp_X8_anyBeginsWith at h
  exact zthis_of h
set_option maxHeartbeats 4000000 in
set_option maxRecDepth 100000 in
theorem w_X8_anyBeginsWith_L11 (E : zEnv) (hE : zEok E) (d : Nat) (hd : 2 ≤ d) (x0 : Int32) (v0 : Nat) (v2 : Int32) (v3 : Int32) (M : zM)  : ∀ (n : Nat) (v4 : Int32), zSy E mu_X8_anyBeginsWith d M (some (.int x0), M) x0 (fp_X8_anyBeginsWith_L11 v0 v2 v3 M n v4) 11 [(0, .ref (E.2.2.2.1 + v0)), (2, .int v2), (3, .int v3), (4, .int v4)] [] M := by
  intro n
  induction n with
  | zero =>
    intro v4
    rw [fp_X8_anyBeginsWith_L11]
    exact zs_none
  | succ n ih =>
    intro v4
    rw [fp_X8_anyBeginsWith_L11]
    refine zs_iload dX8_anyBeginsWith_11 3 rfl ?_
    refine zs_aload_n dX8_anyBeginsWith_13 rfl 0 rfl ?_
    refine zs_getI dX8_anyBeginsWith_14 fl_X8_28 rfl (fun y3 => ?_)
    refine zs_icmp_ge dX8_anyBeginsWith_17 rfl ?_ ?_
    · refine zs_iconst (v := 0) dX8_anyBeginsWith_41 ciconst_0 ?_
      exact zs_iretP dX8_anyBeginsWith_42 rfl
    refine zs_aload_n dX8_anyBeginsWith_20 rfl 0 rfl ?_
    refine zs_getR dX8_anyBeginsWith_21 fl_X8_15 rfl (fun y4 => ?_)
    refine zs_iload dX8_anyBeginsWith_24 3 rfl ?_
    refine zs_ldI dX8_anyBeginsWith_26 (fun y5 => ?_)
    refine zs_iload_n dX8_anyBeginsWith_27 rfl 2 rfl ?_
    refine zs_iand dX8_anyBeginsWith_28 ?_
    refine zs_iload_n dX8_anyBeginsWith_29 rfl 1 rfl ?_
    refine zs_icmp_ne dX8_anyBeginsWith_30 rfl ?_ ?_
    · refine zs_iinc (v := (v4 + 1)) (loc' := [(0, .ref (E.2.2.2.1 + v0)), (2, .int v2), (3, .int v3), (4, .int (v4 + 1))]) dX8_anyBeginsWith_35 3 rfl (by rfl) (Nat.le_of_ble_eq_true rfl) [1, 2, 3, 0] rfl ?_
      refine zs_goto dX8_anyBeginsWith_38 rfl ?_
      exact ih (v4 + 1)
    refine zs_iconst (v := 1) dX8_anyBeginsWith_33 ciconst_1 ?_
    exact zs_iretP dX8_anyBeginsWith_34 rfl
set_option maxHeartbeats 4000000 in
set_option maxRecDepth 100000 in
theorem ct_X8_anyBeginsWith (E : zEnv) (hE : zEok E) (d : Nat) (hd : 2 ≤ d) (v0 : Nat) (v1 : Int32) (v2 : Int32) (M : zM) (x0 : Int32) (hx : fp_X8_anyBeginsWith v0 v1 v2 M = some x0) : zCt E mu_X8_anyBeginsWith d [.ref (E.2.2.2.1 + v0), .int v1, .int v2] M (some (.int x0), M) := by
  refine zCt_of (μ := mu_X8_anyBeginsWith) (t := fp_X8_anyBeginsWith v0 v1 v2 M) rfl rfl (Nat.le_of_ble_eq_true rfl) hx ?_
  change zSy E mu_X8_anyBeginsWith d M (some (.int x0), M) x0 (fp_X8_anyBeginsWith v0 v1 v2 M) 0 [(0, .ref (E.2.2.2.1 + v0)), (1, .int v1), (2, .int v2)] [] M
  unfold fp_X8_anyBeginsWith
  refine zs_this (fun hth => ?_)
  refine zs_iload_n dX8_anyBeginsWith_0 rfl 1 rfl ?_
  refine zs_invSPI (rest := []) [.int v1] dX8_anyBeginsWith_1 lk_X8_66 rfl (zd1 rfl hd) rfl (Nat.le_of_ble_eq_true rfl) (ct_X2_everyPoint E hE _ (zdl rfl hd) _ _) (fun y1 => ?_)
  refine zs_invSPI (rest := []) [.int y1] dX8_anyBeginsWith_4 lk_X8_69 rfl (zd1 rfl hd) rfl (Nat.le_of_ble_eq_true rfl) (ct_X2_pairsOf E hE _ (zdl rfl hd) _ _) (fun y2 => ?_)
  refine zs_istore_n (loc' := [(0, .ref (E.2.2.2.1 + v0)), (2, .int v2), (3, .int y2)]) dX8_anyBeginsWith_7 rfl (Nat.le_of_ble_eq_true rfl) [1, 3, 0] rfl ?_
  refine zs_iconst (v := 0) dX8_anyBeginsWith_8 ciconst_0 ?_
  refine zs_istore (loc' := [(0, .ref (E.2.2.2.1 + v0)), (2, .int v2), (3, .int y2), (4, .int 0)]) dX8_anyBeginsWith_9 (Nat.le_of_ble_eq_true rfl) [1, 2, 3, 0] rfl ?_
  exact w_X8_anyBeginsWith_L11 E hE d hd _ _ _ _ _ _ _
theorem dX9_init_0 : decode cX9_init 0 = .ok (.aload_n 0, 1) := by decide +kernel
theorem dX9_init_1 : decode cX9_init 1 = .ok (.invokespecial 3, 3) := by decide +kernel
theorem dX9_init_4 : decode cX9_init 4 = .ok (.aload_n 0, 1) := by decide +kernel
theorem dX9_init_5 : decode cX9_init 5 = .ok (.bipush 12, 2) := by decide +kernel
theorem dX9_init_7 : decode cX9_init 7 = .ok (.newarray .int, 2) := by decide +kernel
theorem dX9_init_9 : decode cX9_init 9 = .ok (.putfield 9, 3) := by decide +kernel
theorem dX9_init_12 : decode cX9_init 12 = .ok (.return_, 1) := by decide +kernel
def fp_X9_init (v0 : Nat) (M : zM) : Option (zM) :=
  zthis 7 M v0 (
    (zna 100 M 12).bind fun p3 => zpp p3 fun (q1 : Nat) (M2 : zM) =>
    (zpR 7 M2 v0 0 q1).bind fun (M4 : zM) =>
    some M4)
set_option maxHeartbeats 4000000 in
set_option maxRecDepth 100000 in
theorem th_X9_init {v0 : Nat} {M : zM} {x0 : zM} (h : fp_X9_init v0 M = some x0) : v0 < zS M ∧ kd v0 = 7 := by
  unfold fp_X9_init at h
  exact zthis_of h
set_option maxHeartbeats 4000000 in
set_option maxRecDepth 100000 in
theorem ct_X9_init (E : zEnv) (hE : zEok E) (d : Nat) (hd : 2 ≤ d) (v0 : Nat) (M : zM) (x0 : zM) (hx : fp_X9_init v0 M = some x0) : zCt E mu_X9_init d [.ref (E.2.2.2.1 + v0)] M (none, x0) := by
  refine zCt_of (μ := mu_X9_init) (t := fp_X9_init v0 M) rfl rfl (Nat.le_of_ble_eq_true rfl) hx ?_
  change zSy E mu_X9_init d M (none, x0) x0 (fp_X9_init v0 M) 0 [(0, .ref (E.2.2.2.1 + v0))] [] M
  unfold fp_X9_init
  refine zs_this (fun hth => ?_)
  refine zs_aload_n dX9_init_0 rfl 0 rfl ?_
  refine zs_objInit dX9_init_1 (ti_1 91 rfl rfl) mi_oinit mc_oinit (zd0 rfl hd) (Nat.le_of_ble_eq_true rfl) ?_
  refine zs_aload_n dX9_init_4 rfl 0 rfl ?_
  refine zs_bipush (v := 12) dX9_init_5 cbipush_12 ?_
  refine zs_newA dX9_init_7 rfl (by decide) (ti_1 44 rfl rfl) (fun q1 M2 => ?_)
  refine zs_putRF dX9_init_9 fl_X9_9 ft_X9 rfl rfl rfl rfl rfl rfl rfl (fun M4 => ?_)
  exact zs_vret dX9_init_12 trivial
theorem dX9_keep_0 : decode cX9_keep 0 = .ok (.aload_n 0, 1) := by decide +kernel
theorem dX9_keep_1 : decode cX9_keep 1 = .ok (.getfield 15, 3) := by decide +kernel
theorem dX9_keep_4 : decode cX9_keep 4 = .ok (.aload_n 0, 1) := by decide +kernel
theorem dX9_keep_5 : decode cX9_keep 5 = .ok (.getfield 9, 3) := by decide +kernel
theorem dX9_keep_8 : decode cX9_keep 8 = .ok (.arraylength, 1) := by decide +kernel
theorem dX9_keep_9 : decode cX9_keep 9 = .ok (.if_icmp .lt 34, 3) := by decide +kernel
theorem dX9_keep_12 : decode cX9_keep 12 = .ok (.aload_n 0, 1) := by decide +kernel
theorem dX9_keep_13 : decode cX9_keep 13 = .ok (.getfield 9, 3) := by decide +kernel
theorem dX9_keep_16 : decode cX9_keep 16 = .ok (.iconst 1, 1) := by decide +kernel
theorem dX9_keep_17 : decode cX9_keep 17 = .ok (.aload_n 0, 1) := by decide +kernel
theorem dX9_keep_18 : decode cX9_keep 18 = .ok (.getfield 9, 3) := by decide +kernel
theorem dX9_keep_21 : decode cX9_keep 21 = .ok (.iconst 0, 1) := by decide +kernel
theorem dX9_keep_22 : decode cX9_keep 22 = .ok (.aload_n 0, 1) := by decide +kernel
theorem dX9_keep_23 : decode cX9_keep 23 = .ok (.getfield 9, 3) := by decide +kernel
theorem dX9_keep_26 : decode cX9_keep 26 = .ok (.arraylength, 1) := by decide +kernel
theorem dX9_keep_27 : decode cX9_keep 27 = .ok (.iconst 1, 1) := by decide +kernel
theorem dX9_keep_28 : decode cX9_keep 28 = .ok (.isub, 1) := by decide +kernel
theorem dX9_keep_29 : decode cX9_keep 29 = .ok (.invokestatic 19, 3) := by decide +kernel
theorem dX9_keep_32 : decode cX9_keep 32 = .ok (.aload_n 0, 1) := by decide +kernel
theorem dX9_keep_33 : decode cX9_keep 33 = .ok (.aload_n 0, 1) := by decide +kernel
theorem dX9_keep_34 : decode cX9_keep 34 = .ok (.getfield 9, 3) := by decide +kernel
theorem dX9_keep_37 : decode cX9_keep 37 = .ok (.arraylength, 1) := by decide +kernel
theorem dX9_keep_38 : decode cX9_keep 38 = .ok (.iconst 1, 1) := by decide +kernel
theorem dX9_keep_39 : decode cX9_keep 39 = .ok (.isub, 1) := by decide +kernel
theorem dX9_keep_40 : decode cX9_keep 40 = .ok (.putfield 15, 3) := by decide +kernel
theorem dX9_keep_43 : decode cX9_keep 43 = .ok (.aload_n 0, 1) := by decide +kernel
theorem dX9_keep_44 : decode cX9_keep 44 = .ok (.getfield 9, 3) := by decide +kernel
theorem dX9_keep_47 : decode cX9_keep 47 = .ok (.aload_n 0, 1) := by decide +kernel
theorem dX9_keep_48 : decode cX9_keep 48 = .ok (.getfield 15, 3) := by decide +kernel
theorem dX9_keep_51 : decode cX9_keep 51 = .ok (.iload_n 1, 1) := by decide +kernel
theorem dX9_keep_52 : decode cX9_keep 52 = .ok (.iastore, 1) := by decide +kernel
theorem dX9_keep_53 : decode cX9_keep 53 = .ok (.aload_n 0, 1) := by decide +kernel
theorem dX9_keep_54 : decode cX9_keep 54 = .ok (.dup, 1) := by decide +kernel
theorem dX9_keep_55 : decode cX9_keep 55 = .ok (.getfield 15, 3) := by decide +kernel
theorem dX9_keep_58 : decode cX9_keep 58 = .ok (.iconst 1, 1) := by decide +kernel
theorem dX9_keep_59 : decode cX9_keep 59 = .ok (.iadd, 1) := by decide +kernel
theorem dX9_keep_60 : decode cX9_keep 60 = .ok (.putfield 15, 3) := by decide +kernel
theorem dX9_keep_63 : decode cX9_keep 63 = .ok (.return_, 1) := by decide +kernel
def fp_X9_keep (v0 : Nat) (v1 : Int32) (M : zM) : Option (zM) :=
  zthis 7 M v0 (
    (zgI 7 M v0 1).bind fun (y1 : Int32) =>
    (zgR 7 M v0 0).bind fun (y2 : Nat) =>
    (zln M y2).bind fun (y3 : Int32) =>
    zjn (fun (M4 : zM) =>
        (zgR 7 M4 v0 0).bind fun (y5 : Nat) =>
        (zgI 7 M4 v0 1).bind fun (y6 : Int32) =>
        (ztI M4 y5 y6 v1).bind fun (M7 : zM) =>
        (zgI 7 M7 v0 1).bind fun (y8 : Int32) =>
        (zpI 7 M7 v0 1 (y8 + 1)).bind fun (M9 : zM) =>
        some M9)
      (fun j43 =>
        if y1 < y3 then (
          j43 M)
        else (
          (zgR 7 M v0 0).bind fun (y10 : Nat) =>
          (zgR 7 M v0 0).bind fun (y11 : Nat) =>
          (zgR 7 M v0 0).bind fun (y12 : Nat) =>
          (zln M y12).bind fun (y13 : Int32) =>
          (zcp 100 M y10 1 y11 0 (y13 - 1)).bind fun (M14 : zM) =>
          (zgR 7 M14 v0 0).bind fun (y15 : Nat) =>
          (zln M14 y15).bind fun (y16 : Int32) =>
          (zpI 7 M14 v0 1 (y16 - 1)).bind fun (M17 : zM) =>
          j43 M17)))
set_option maxHeartbeats 4000000 in
set_option maxRecDepth 100000 in
theorem th_X9_keep {v0 : Nat} {v1 : Int32} {M : zM} {x0 : zM} (h : fp_X9_keep v0 v1 M = some x0) : v0 < zS M ∧ kd v0 = 7 := by
  unfold fp_X9_keep at h
  exact zthis_of h
set_option maxHeartbeats 4000000 in
set_option maxRecDepth 100000 in
theorem ct_X9_keep (E : zEnv) (hE : zEok E) (d : Nat) (hd : 2 ≤ d) (v0 : Nat) (v1 : Int32) (M : zM) (x0 : zM) (hx : fp_X9_keep v0 v1 M = some x0) : zCt E mu_X9_keep d [.ref (E.2.2.2.1 + v0), .int v1] M (none, x0) := by
  refine zCt_of (μ := mu_X9_keep) (t := fp_X9_keep v0 v1 M) rfl rfl (Nat.le_of_ble_eq_true rfl) hx ?_
  change zSy E mu_X9_keep d M (none, x0) x0 (fp_X9_keep v0 v1 M) 0 [(0, .ref (E.2.2.2.1 + v0)), (1, .int v1)] [] M
  unfold fp_X9_keep
  refine zs_this (fun hth => ?_)
  refine zs_aload_n dX9_keep_0 rfl 0 rfl ?_
  refine zs_getI dX9_keep_1 fl_X9_15 rfl (fun y1 => ?_)
  refine zs_aload_n dX9_keep_4 rfl 0 rfl ?_
  refine zs_getR dX9_keep_5 fl_X9_9 rfl (fun y2 => ?_)
  refine zs_alen dX9_keep_8 (fun y3 => ?_)
  refine zs_jn (fun j43 => ∀ (M4 : zM), zSy E mu_X9_keep d M (none, x0) x0 (j43 M4) 43 [(0, .ref (E.2.2.2.1 + v0)), (1, .int v1)] [] M4) (fun M4 => ?_) (fun j43 hj43 => ?_)
  · refine zs_aload_n dX9_keep_43 rfl 0 rfl ?_
    refine zs_getR dX9_keep_44 fl_X9_9 rfl (fun y5 => ?_)
    refine zs_aload_n dX9_keep_47 rfl 0 rfl ?_
    refine zs_getI dX9_keep_48 fl_X9_15 rfl (fun y6 => ?_)
    refine zs_iload_n dX9_keep_51 rfl 1 rfl ?_
    refine zs_stI dX9_keep_52 (fun M7 => ?_)
    refine zs_aload_n dX9_keep_53 rfl 0 rfl ?_
    refine zs_dup dX9_keep_54 rfl ?_
    refine zs_getI dX9_keep_55 fl_X9_15 rfl (fun y8 => ?_)
    refine zs_iconst (v := 1) dX9_keep_58 ciconst_1 ?_
    refine zs_iadd dX9_keep_59 ?_
    refine zs_putI dX9_keep_60 fl_X9_15 ft_X9 rfl rfl rfl rfl rfl (fun M9 => ?_)
    exact zs_vret dX9_keep_63 trivial
  refine zs_icmp_lt dX9_keep_9 rfl ?_ ?_
  · exact hj43 M
  refine zs_aload_n dX9_keep_12 rfl 0 rfl ?_
  refine zs_getR dX9_keep_13 fl_X9_9 rfl (fun y10 => ?_)
  refine zs_iconst (v := 1) dX9_keep_16 ciconst_1 ?_
  refine zs_aload_n dX9_keep_17 rfl 0 rfl ?_
  refine zs_getR dX9_keep_18 fl_X9_9 rfl (fun y11 => ?_)
  refine zs_iconst (v := 0) dX9_keep_21 ciconst_0 ?_
  refine zs_aload_n dX9_keep_22 rfl 0 rfl ?_
  refine zs_getR dX9_keep_23 fl_X9_9 rfl (fun y12 => ?_)
  refine zs_alen dX9_keep_26 (fun y13 => ?_)
  refine zs_iconst (v := 1) dX9_keep_27 ciconst_1 ?_
  refine zs_isub dX9_keep_28 ?_
  refine zs_copyI dX9_keep_29 (ti_3 7 rfl rfl) mn_copy ms_copy mi_System (zd0 rfl hd) (Nat.le_of_ble_eq_true rfl) (fun M14 => ?_)
  refine zs_aload_n dX9_keep_32 rfl 0 rfl ?_
  refine zs_aload_n dX9_keep_33 rfl 0 rfl ?_
  refine zs_getR dX9_keep_34 fl_X9_9 rfl (fun y15 => ?_)
  refine zs_alen dX9_keep_37 (fun y16 => ?_)
  refine zs_iconst (v := 1) dX9_keep_38 ciconst_1 ?_
  refine zs_isub dX9_keep_39 ?_
  refine zs_putI dX9_keep_40 fl_X9_15 ft_X9 rfl rfl rfl rfl rfl (fun M17 => ?_)
  exact hj43 M17
theorem dX9_takeBack_0 : decode cX9_takeBack 0 = .ok (.aload_n 0, 1) := by decide +kernel
theorem dX9_takeBack_1 : decode cX9_takeBack 1 = .ok (.getfield 15, 3) := by decide +kernel
theorem dX9_takeBack_4 : decode cX9_takeBack 4 = .ok (.ifCond .gt 5, 3) := by decide +kernel
theorem dX9_takeBack_7 : decode cX9_takeBack 7 = .ok (.iconst 0, 1) := by decide +kernel
theorem dX9_takeBack_8 : decode cX9_takeBack 8 = .ok (.ireturn, 1) := by decide +kernel
theorem dX9_takeBack_9 : decode cX9_takeBack 9 = .ok (.aload_n 0, 1) := by decide +kernel
theorem dX9_takeBack_10 : decode cX9_takeBack 10 = .ok (.dup, 1) := by decide +kernel
theorem dX9_takeBack_11 : decode cX9_takeBack 11 = .ok (.getfield 15, 3) := by decide +kernel
theorem dX9_takeBack_14 : decode cX9_takeBack 14 = .ok (.iconst 1, 1) := by decide +kernel
theorem dX9_takeBack_15 : decode cX9_takeBack 15 = .ok (.isub, 1) := by decide +kernel
theorem dX9_takeBack_16 : decode cX9_takeBack 16 = .ok (.putfield 15, 3) := by decide +kernel
theorem dX9_takeBack_19 : decode cX9_takeBack 19 = .ok (.aload_n 0, 1) := by decide +kernel
theorem dX9_takeBack_20 : decode cX9_takeBack 20 = .ok (.getfield 9, 3) := by decide +kernel
theorem dX9_takeBack_23 : decode cX9_takeBack 23 = .ok (.aload_n 0, 1) := by decide +kernel
theorem dX9_takeBack_24 : decode cX9_takeBack 24 = .ok (.getfield 15, 3) := by decide +kernel
theorem dX9_takeBack_27 : decode cX9_takeBack 27 = .ok (.iaload, 1) := by decide +kernel
theorem dX9_takeBack_28 : decode cX9_takeBack 28 = .ok (.ireturn, 1) := by decide +kernel
def fp_X9_takeBack (v0 : Nat) (M : zM) : Option (Int32 × zM) :=
  zthis 7 M v0 (
    (zgI 7 M v0 1).bind fun (y1 : Int32) =>
    if y1 > 0 then (
      (zgI 7 M v0 1).bind fun (y2 : Int32) =>
      (zpI 7 M v0 1 (y2 - 1)).bind fun (M3 : zM) =>
      (zgR 7 M3 v0 0).bind fun (y4 : Nat) =>
      (zgI 7 M3 v0 1).bind fun (y5 : Int32) =>
      (zlI 100 M3 y4 y5).bind fun (y6 : Int32) =>
      some (y6, M3))
    else (
      some (0, M)))
set_option maxHeartbeats 4000000 in
set_option maxRecDepth 100000 in
theorem th_X9_takeBack {v0 : Nat} {M : zM} {x0 : Int32 × zM} (h : fp_X9_takeBack v0 M = some x0) : v0 < zS M ∧ kd v0 = 7 := by
  unfold fp_X9_takeBack at h
  exact zthis_of h
set_option maxHeartbeats 4000000 in
set_option maxRecDepth 100000 in
theorem ct_X9_takeBack (E : zEnv) (hE : zEok E) (d : Nat) (hd : 1 ≤ d) (v0 : Nat) (M : zM) (x0 : Int32 × zM) (hx : fp_X9_takeBack v0 M = some x0) : zCt E mu_X9_takeBack d [.ref (E.2.2.2.1 + v0)] M (some (.int x0.1), x0.2) := by
  refine zCt_of (μ := mu_X9_takeBack) (t := fp_X9_takeBack v0 M) rfl rfl (Nat.le_of_ble_eq_true rfl) hx ?_
  change zSy E mu_X9_takeBack d M (some (.int x0.1), x0.2) x0 (fp_X9_takeBack v0 M) 0 [(0, .ref (E.2.2.2.1 + v0))] [] M
  unfold fp_X9_takeBack
  refine zs_this (fun hth => ?_)
  refine zs_aload_n dX9_takeBack_0 rfl 0 rfl ?_
  refine zs_getI dX9_takeBack_1 fl_X9_15 rfl (fun y1 => ?_)
  refine zs_if_gt dX9_takeBack_4 rfl ?_ ?_
  · refine zs_aload_n dX9_takeBack_9 rfl 0 rfl ?_
    refine zs_dup dX9_takeBack_10 rfl ?_
    refine zs_getI dX9_takeBack_11 fl_X9_15 rfl (fun y2 => ?_)
    refine zs_iconst (v := 1) dX9_takeBack_14 ciconst_1 ?_
    refine zs_isub dX9_takeBack_15 ?_
    refine zs_putI dX9_takeBack_16 fl_X9_15 ft_X9 rfl rfl rfl rfl rfl (fun M3 => ?_)
    refine zs_aload_n dX9_takeBack_19 rfl 0 rfl ?_
    refine zs_getR dX9_takeBack_20 fl_X9_9 rfl (fun y4 => ?_)
    refine zs_aload_n dX9_takeBack_23 rfl 0 rfl ?_
    refine zs_getI dX9_takeBack_24 fl_X9_15 rfl (fun y5 => ?_)
    refine zs_ldI dX9_takeBack_27 (fun y6 => ?_)
    exact zs_iretW dX9_takeBack_28 rfl
  refine zs_iconst (v := 0) dX9_takeBack_7 ciconst_0 ?_
  exact zs_iretW dX9_takeBack_8 rfl
theorem dX10_init_0 : decode cX10_init 0 = .ok (.aload_n 0, 1) := by decide +kernel
theorem dX10_init_1 : decode cX10_init 1 = .ok (.invokespecial 1, 3) := by decide +kernel
theorem dX10_init_4 : decode cX10_init 4 = .ok (.aload_n 0, 1) := by decide +kernel
theorem dX10_init_5 : decode cX10_init 5 = .ok (.new 7, 3) := by decide +kernel
theorem dX10_init_8 : decode cX10_init 8 = .ok (.dup, 1) := by decide +kernel
theorem dX10_init_9 : decode cX10_init 9 = .ok (.invokespecial 9, 3) := by decide +kernel
theorem dX10_init_12 : decode cX10_init 12 = .ok (.putfield 10, 3) := by decide +kernel
theorem dX10_init_15 : decode cX10_init 15 = .ok (.aload_n 0, 1) := by decide +kernel
theorem dX10_init_16 : decode cX10_init 16 = .ok (.new 16, 3) := by decide +kernel
theorem dX10_init_19 : decode cX10_init 19 = .ok (.dup, 1) := by decide +kernel
theorem dX10_init_20 : decode cX10_init 20 = .ok (.invokespecial 18, 3) := by decide +kernel
theorem dX10_init_23 : decode cX10_init 23 = .ok (.putfield 19, 3) := by decide +kernel
theorem dX10_init_26 : decode cX10_init 26 = .ok (.aload_n 0, 1) := by decide +kernel
theorem dX10_init_27 : decode cX10_init 27 = .ok (.new 23, 3) := by decide +kernel
theorem dX10_init_30 : decode cX10_init 30 = .ok (.dup, 1) := by decide +kernel
theorem dX10_init_31 : decode cX10_init 31 = .ok (.invokespecial 25, 3) := by decide +kernel
theorem dX10_init_34 : decode cX10_init 34 = .ok (.putfield 26, 3) := by decide +kernel
theorem dX10_init_37 : decode cX10_init 37 = .ok (.aload_n 0, 1) := by decide +kernel
theorem dX10_init_38 : decode cX10_init 38 = .ok (.iconst 3, 1) := by decide +kernel
theorem dX10_init_39 : decode cX10_init 39 = .ok (.newarray .int, 2) := by decide +kernel
theorem dX10_init_41 : decode cX10_init 41 = .ok (.putfield 30, 3) := by decide +kernel
theorem dX10_init_44 : decode cX10_init 44 = .ok (.aload_n 0, 1) := by decide +kernel
theorem dX10_init_45 : decode cX10_init 45 = .ok (.getfield 30, 3) := by decide +kernel
theorem dX10_init_48 : decode cX10_init 48 = .ok (.iconst (-1), 1) := by decide +kernel
theorem dX10_init_49 : decode cX10_init 49 = .ok (.invokestatic 34, 3) := by decide +kernel
theorem dX10_init_52 : decode cX10_init 52 = .ok (.aload_n 0, 1) := by decide +kernel
theorem dX10_init_53 : decode cX10_init 53 = .ok (.new 40, 3) := by decide +kernel
theorem dX10_init_56 : decode cX10_init 56 = .ok (.dup, 1) := by decide +kernel
theorem dX10_init_57 : decode cX10_init 57 = .ok (.invokespecial 42, 3) := by decide +kernel
theorem dX10_init_60 : decode cX10_init 60 = .ok (.putfield 43, 3) := by decide +kernel
theorem dX10_init_63 : decode cX10_init 63 = .ok (.aload_n 0, 1) := by decide +kernel
theorem dX10_init_64 : decode cX10_init 64 = .ok (.new 47, 3) := by decide +kernel
theorem dX10_init_67 : decode cX10_init 67 = .ok (.dup, 1) := by decide +kernel
theorem dX10_init_68 : decode cX10_init 68 = .ok (.invokespecial 49, 3) := by decide +kernel
theorem dX10_init_71 : decode cX10_init 71 = .ok (.putfield 50, 3) := by decide +kernel
theorem dX10_init_74 : decode cX10_init 74 = .ok (.aload_n 0, 1) := by decide +kernel
theorem dX10_init_75 : decode cX10_init 75 = .ok (.new 54, 3) := by decide +kernel
theorem dX10_init_78 : decode cX10_init 78 = .ok (.dup, 1) := by decide +kernel
theorem dX10_init_79 : decode cX10_init 79 = .ok (.invokespecial 56, 3) := by decide +kernel
theorem dX10_init_82 : decode cX10_init 82 = .ok (.putfield 57, 3) := by decide +kernel
theorem dX10_init_85 : decode cX10_init 85 = .ok (.aload_n 0, 1) := by decide +kernel
theorem dX10_init_86 : decode cX10_init 86 = .ok (.new 54, 3) := by decide +kernel
theorem dX10_init_89 : decode cX10_init 89 = .ok (.dup, 1) := by decide +kernel
theorem dX10_init_90 : decode cX10_init 90 = .ok (.invokespecial 56, 3) := by decide +kernel
theorem dX10_init_93 : decode cX10_init 93 = .ok (.putfield 61, 3) := by decide +kernel
theorem dX10_init_96 : decode cX10_init 96 = .ok (.aload_n 0, 1) := by decide +kernel
theorem dX10_init_97 : decode cX10_init 97 = .ok (.new 54, 3) := by decide +kernel
theorem dX10_init_100 : decode cX10_init 100 = .ok (.dup, 1) := by decide +kernel
theorem dX10_init_101 : decode cX10_init 101 = .ok (.invokespecial 56, 3) := by decide +kernel
theorem dX10_init_104 : decode cX10_init 104 = .ok (.putfield 64, 3) := by decide +kernel
theorem dX10_init_107 : decode cX10_init 107 = .ok (.aload_n 0, 1) := by decide +kernel
theorem dX10_init_108 : decode cX10_init 108 = .ok (.new 67, 3) := by decide +kernel
theorem dX10_init_111 : decode cX10_init 111 = .ok (.dup, 1) := by decide +kernel
theorem dX10_init_112 : decode cX10_init 112 = .ok (.invokespecial 69, 3) := by decide +kernel
theorem dX10_init_115 : decode cX10_init 115 = .ok (.putfield 70, 3) := by decide +kernel
theorem dX10_init_118 : decode cX10_init 118 = .ok (.aload_n 0, 1) := by decide +kernel
theorem dX10_init_119 : decode cX10_init 119 = .ok (.new 74, 3) := by decide +kernel
theorem dX10_init_122 : decode cX10_init 122 = .ok (.dup, 1) := by decide +kernel
theorem dX10_init_123 : decode cX10_init 123 = .ok (.invokespecial 76, 3) := by decide +kernel
theorem dX10_init_126 : decode cX10_init 126 = .ok (.putfield 77, 3) := by decide +kernel
theorem dX10_init_129 : decode cX10_init 129 = .ok (.aload_n 0, 1) := by decide +kernel
theorem dX10_init_130 : decode cX10_init 130 = .ok (.bipush 7, 2) := by decide +kernel
theorem dX10_init_132 : decode cX10_init 132 = .ok (.newarray .int, 2) := by decide +kernel
theorem dX10_init_134 : decode cX10_init 134 = .ok (.putfield 81, 3) := by decide +kernel
theorem dX10_init_137 : decode cX10_init 137 = .ok (.aload_n 0, 1) := by decide +kernel
theorem dX10_init_138 : decode cX10_init 138 = .ok (.bipush 14, 2) := by decide +kernel
theorem dX10_init_140 : decode cX10_init 140 = .ok (.newarray .int, 2) := by decide +kernel
theorem dX10_init_142 : decode cX10_init 142 = .ok (.putfield 84, 3) := by decide +kernel
theorem dX10_init_145 : decode cX10_init 145 = .ok (.return_, 1) := by decide +kernel
def fp_X10_init (v0 : Nat) (M : zM) : Option (zM) :=
  zthis 8 M v0 (
    (zno 5 M).bind fun p3 => zpp p3 fun (q1 : Nat) (M2 : zM) =>
    (fp_X7_init q1 M2).bind fun (M4 : zM) =>
    (zpR 8 M4 v0 4 q1).bind fun (M5 : zM) =>
    (zno 3 M5).bind fun p8 => zpp p8 fun (q6 : Nat) (M7 : zM) =>
    (fp_X4_init q6 M7).bind fun (M9 : zM) =>
    (zpR 8 M9 v0 5 q6).bind fun (M10 : zM) =>
    (zno 7 M10).bind fun p13 => zpp p13 fun (q11 : Nat) (M12 : zM) =>
    (fp_X9_init q11 M12).bind fun (M14 : zM) =>
    (zpR 8 M14 v0 6 q11).bind fun (M15 : zM) =>
    (zna 100 M15 3).bind fun p18 => zpp p18 fun (q16 : Nat) (M17 : zM) =>
    (zpR 8 M17 v0 7 q16).bind fun (M19 : zM) =>
    (zgR 8 M19 v0 7).bind fun (y20 : Nat) =>
    (fp_J7_fill_53178 y20 (-1) M19).bind fun (M21 : zM) =>
    (zno 4 M21).bind fun p24 => zpp p24 fun (q22 : Nat) (M23 : zM) =>
    (fp_X6_init q22 M23).bind fun (M25 : zM) =>
    (zpR 8 M25 v0 8 q22).bind fun (M26 : zM) =>
    (zno 2 M26).bind fun p29 => zpp p29 fun (q27 : Nat) (M28 : zM) =>
    (fp_X3_init q27 M28).bind fun (M30 : zM) =>
    (zpR 8 M30 v0 9 q27).bind fun (M31 : zM) =>
    (zno 1 M31).bind fun p34 => zpp p34 fun (q32 : Nat) (M33 : zM) =>
    (fp_X1_init q32 M33).bind fun (M35 : zM) =>
    (zpR 8 M35 v0 10 q32).bind fun (M36 : zM) =>
    (zno 1 M36).bind fun p39 => zpp p39 fun (q37 : Nat) (M38 : zM) =>
    (fp_X1_init q37 M38).bind fun (M40 : zM) =>
    (zpR 8 M40 v0 11 q37).bind fun (M41 : zM) =>
    (zno 1 M41).bind fun p44 => zpp p44 fun (q42 : Nat) (M43 : zM) =>
    (fp_X1_init q42 M43).bind fun (M45 : zM) =>
    (zpR 8 M45 v0 12 q42).bind fun (M46 : zM) =>
    (zno 6 M46).bind fun p49 => zpp p49 fun (q47 : Nat) (M48 : zM) =>
    (fp_X8_init q47 M48).bind fun (M50 : zM) =>
    (zpR 8 M50 v0 13 q47).bind fun (M51 : zM) =>
    (zno 0 M51).bind fun p54 => zpp p54 fun (q52 : Nat) (M53 : zM) =>
    (fp_X0_init q52 M53).bind fun (M55 : zM) =>
    (zpR 8 M55 v0 14 q52).bind fun (M56 : zM) =>
    (zna 100 M56 7).bind fun p59 => zpp p59 fun (q57 : Nat) (M58 : zM) =>
    (zpR 8 M58 v0 15 q57).bind fun (M60 : zM) =>
    (zna 100 M60 14).bind fun p63 => zpp p63 fun (q61 : Nat) (M62 : zM) =>
    (zpR 8 M62 v0 16 q61).bind fun (M64 : zM) =>
    some M64)
set_option maxHeartbeats 4000000 in
set_option maxRecDepth 100000 in
theorem th_X10_init {v0 : Nat} {M : zM} {x0 : zM} (h : fp_X10_init v0 M = some x0) : v0 < zS M ∧ kd v0 = 8 := by
  unfold fp_X10_init at h
  exact zthis_of h
set_option maxHeartbeats 4000000 in
set_option maxRecDepth 100000 in
theorem ct_X10_init (E : zEnv) (hE : zEok E) (d : Nat) (hd : 3 ≤ d) (v0 : Nat) (M : zM) (x0 : zM) (hx : fp_X10_init v0 M = some x0) : zCt E mu_X10_init d [.ref (E.2.2.2.1 + v0)] M (none, x0) := by
  refine zCt_of (μ := mu_X10_init) (t := fp_X10_init v0 M) rfl rfl (Nat.le_of_ble_eq_true rfl) hx ?_
  change zSy E mu_X10_init d M (none, x0) x0 (fp_X10_init v0 M) 0 [(0, .ref (E.2.2.2.1 + v0))] [] M
  unfold fp_X10_init
  refine zs_this (fun hth => ?_)
  refine zs_aload_n dX10_init_0 rfl 0 rfl ?_
  refine zs_objInit dX10_init_1 (ti_1 26 rfl rfl) mi_oinit mc_oinit (zd0 rfl hd) (Nat.le_of_ble_eq_true rfl) ?_
  refine zs_aload_n dX10_init_4 rfl 0 rfl ?_
  refine zs_newO dX10_init_5 no_X7 (ti_1 29 rfl rfl) (fun q1 M2 => ?_)
  refine zs_dup dX10_init_8 rfl ?_
  refine zs_invIWV (rest := [.ref (E.2.2.2.1 + q1), .ref (E.2.2.2.1 + v0)]) (some "ChordWords") [] dX10_init_9 lk_X10_9 rfl (zd1 rfl hd) rfl (Nat.le_of_ble_eq_true rfl) (ct_X7_init E hE _ (zdl rfl hd) _ _) (fun M4 => ?_)
  refine zs_putRF dX10_init_12 fl_X10_10 ft_X10 rfl rfl rfl rfl rfl rfl rfl (fun M5 => ?_)
  refine zs_aload_n dX10_init_15 rfl 0 rfl ?_
  refine zs_newO dX10_init_16 no_X4 (ti_1 45 rfl rfl) (fun q6 M7 => ?_)
  refine zs_dup dX10_init_19 rfl ?_
  refine zs_invIWV (rest := [.ref (E.2.2.2.1 + q6), .ref (E.2.2.2.1 + v0)]) (some "ChordWords") [] dX10_init_20 lk_X10_18 rfl (zd1 rfl hd) rfl (Nat.le_of_ble_eq_true rfl) (ct_X4_init E hE _ (zdl rfl hd) _ _) (fun M9 => ?_)
  refine zs_putRF dX10_init_23 fl_X10_19 ft_X10 rfl rfl rfl rfl rfl rfl rfl (fun M10 => ?_)
  refine zs_aload_n dX10_init_26 rfl 0 rfl ?_
  refine zs_newO dX10_init_27 no_X9 (ti_1 86 rfl rfl) (fun q11 M12 => ?_)
  refine zs_dup dX10_init_30 rfl ?_
  refine zs_invIWV (rest := [.ref (E.2.2.2.1 + q11), .ref (E.2.2.2.1 + v0)]) (some "ChordWords") [] dX10_init_31 lk_X10_25 rfl (zd1 rfl hd) rfl (Nat.le_of_ble_eq_true rfl) (ct_X9_init E hE _ (zdl rfl hd) _ _) (fun M14 => ?_)
  refine zs_putRF dX10_init_34 fl_X10_26 ft_X10 rfl rfl rfl rfl rfl rfl rfl (fun M15 => ?_)
  refine zs_aload_n dX10_init_37 rfl 0 rfl ?_
  refine zs_iconst (v := 3) dX10_init_38 ciconst_3 ?_
  refine zs_newA dX10_init_39 rfl (by decide) (ti_1 44 rfl rfl) (fun q16 M17 => ?_)
  refine zs_putRF dX10_init_41 fl_X10_30 ft_X10 rfl rfl rfl rfl rfl rfl rfl (fun M19 => ?_)
  refine zs_aload_n dX10_init_44 rfl 0 rfl ?_
  refine zs_getR dX10_init_45 fl_X10_30 rfl (fun y20 => ?_)
  refine zs_iconst (v := (-1)) dX10_init_48 ciconst_m1 ?_
  refine zs_invSWV (rest := []) [.ref (E.2.2.2.1 + y20), .int (-1)] dX10_init_49 lk_X10_34 rfl (zd1 rfl hd) rfl (Nat.le_of_ble_eq_true rfl) (ct_J7_fill_53178 E hE _ (zdl rfl hd) _ _ _) (fun M21 => ?_)
  refine zs_aload_n dX10_init_52 rfl 0 rfl ?_
  refine zs_newO dX10_init_53 no_X6 (ti_1 103 rfl rfl) (fun q22 M23 => ?_)
  refine zs_dup dX10_init_56 rfl ?_
  refine zs_invIWV (rest := [.ref (E.2.2.2.1 + q22), .ref (E.2.2.2.1 + v0)]) (some "ChordWords") [] dX10_init_57 lk_X10_42 rfl (zd1 rfl hd) rfl (Nat.le_of_ble_eq_true rfl) (ct_X6_init E hE _ (zdl rfl hd) _ _) (fun M25 => ?_)
  refine zs_putRF dX10_init_60 fl_X10_43 ft_X10 rfl rfl rfl rfl rfl rfl rfl (fun M26 => ?_)
  refine zs_aload_n dX10_init_63 rfl 0 rfl ?_
  refine zs_newO dX10_init_64 no_X3 (ti_1 117 rfl rfl) (fun q27 M28 => ?_)
  refine zs_dup dX10_init_67 rfl ?_
  refine zs_invIWV (rest := [.ref (E.2.2.2.1 + q27), .ref (E.2.2.2.1 + v0)]) (some "ChordWords") [] dX10_init_68 lk_X10_49 rfl (zd1 rfl hd) rfl (Nat.le_of_ble_eq_true rfl) (ct_X3_init E hE _ (zdl rfl hd) _ _) (fun M30 => ?_)
  refine zs_putRF dX10_init_71 fl_X10_50 ft_X10 rfl rfl rfl rfl rfl rfl rfl (fun M31 => ?_)
  refine zs_aload_n dX10_init_74 rfl 0 rfl ?_
  refine zs_newO dX10_init_75 no_X1 (ti_1 142 rfl rfl) (fun q32 M33 => ?_)
  refine zs_dup dX10_init_78 rfl ?_
  refine zs_invIWV (rest := [.ref (E.2.2.2.1 + q32), .ref (E.2.2.2.1 + v0)]) (some "ChordWords") [] dX10_init_79 lk_X10_56 rfl (zd1 rfl hd) rfl (Nat.le_of_ble_eq_true rfl) (ct_X1_init E hE _ (zdl rfl hd) _ _) (fun M35 => ?_)
  refine zs_putRF dX10_init_82 fl_X10_57 ft_X10 rfl rfl rfl rfl rfl rfl rfl (fun M36 => ?_)
  refine zs_aload_n dX10_init_85 rfl 0 rfl ?_
  refine zs_newO dX10_init_86 no_X1 (ti_1 142 rfl rfl) (fun q37 M38 => ?_)
  refine zs_dup dX10_init_89 rfl ?_
  refine zs_invIWV (rest := [.ref (E.2.2.2.1 + q37), .ref (E.2.2.2.1 + v0)]) (some "ChordWords") [] dX10_init_90 lk_X10_56 rfl (zd1 rfl hd) rfl (Nat.le_of_ble_eq_true rfl) (ct_X1_init E hE _ (zdl rfl hd) _ _) (fun M40 => ?_)
  refine zs_putRF dX10_init_93 fl_X10_61 ft_X10 rfl rfl rfl rfl rfl rfl rfl (fun M41 => ?_)
  refine zs_aload_n dX10_init_96 rfl 0 rfl ?_
  refine zs_newO dX10_init_97 no_X1 (ti_1 142 rfl rfl) (fun q42 M43 => ?_)
  refine zs_dup dX10_init_100 rfl ?_
  refine zs_invIWV (rest := [.ref (E.2.2.2.1 + q42), .ref (E.2.2.2.1 + v0)]) (some "ChordWords") [] dX10_init_101 lk_X10_56 rfl (zd1 rfl hd) rfl (Nat.le_of_ble_eq_true rfl) (ct_X1_init E hE _ (zdl rfl hd) _ _) (fun M45 => ?_)
  refine zs_putRF dX10_init_104 fl_X10_64 ft_X10 rfl rfl rfl rfl rfl rfl rfl (fun M46 => ?_)
  refine zs_aload_n dX10_init_107 rfl 0 rfl ?_
  refine zs_newO dX10_init_108 no_X8 (ti_1 181 rfl rfl) (fun q47 M48 => ?_)
  refine zs_dup dX10_init_111 rfl ?_
  refine zs_invIWV (rest := [.ref (E.2.2.2.1 + q47), .ref (E.2.2.2.1 + v0)]) (some "ChordWords") [] dX10_init_112 lk_X10_69 rfl (zd1 rfl hd) rfl (Nat.le_of_ble_eq_true rfl) (ct_X8_init E hE _ (zdl rfl hd) _ _) (fun M50 => ?_)
  refine zs_putRF dX10_init_115 fl_X10_70 ft_X10 rfl rfl rfl rfl rfl rfl rfl (fun M51 => ?_)
  refine zs_aload_n dX10_init_118 rfl 0 rfl ?_
  refine zs_newO dX10_init_119 no_X0 (ti_1 207 rfl rfl) (fun q52 M53 => ?_)
  refine zs_dup dX10_init_122 rfl ?_
  refine zs_invIWV (rest := [.ref (E.2.2.2.1 + q52), .ref (E.2.2.2.1 + v0)]) (some "ChordWords") [] dX10_init_123 lk_X10_76 rfl (zd1 rfl hd) rfl (Nat.le_of_ble_eq_true rfl) (ct_X0_init E hE _ (zdl rfl hd) _ _) (fun M55 => ?_)
  refine zs_putRF dX10_init_126 fl_X10_77 ft_X10 rfl rfl rfl rfl rfl rfl rfl (fun M56 => ?_)
  refine zs_aload_n dX10_init_129 rfl 0 rfl ?_
  refine zs_bipush (v := 7) dX10_init_130 cbipush_7 ?_
  refine zs_newA dX10_init_132 rfl (by decide) (ti_1 44 rfl rfl) (fun q57 M58 => ?_)
  refine zs_putRF dX10_init_134 fl_X10_81 ft_X10 rfl rfl rfl rfl rfl rfl rfl (fun M60 => ?_)
  refine zs_aload_n dX10_init_137 rfl 0 rfl ?_
  refine zs_bipush (v := 14) dX10_init_138 cbipush_14 ?_
  refine zs_newA dX10_init_140 rfl (by decide) (ti_1 44 rfl rfl) (fun q61 M62 => ?_)
  refine zs_putRF dX10_init_142 fl_X10_84 ft_X10 rfl rfl rfl rfl rfl rfl rfl (fun M64 => ?_)
  exact zs_vret dX10_init_145 trivial
theorem dX10_status_0 : decode cX10_status 0 = .ok (.aload_n 0, 1) := by decide +kernel
theorem dX10_status_1 : decode cX10_status 1 = .ok (.getfield 87, 3) := by decide +kernel
theorem dX10_status_4 : decode cX10_status 4 = .ok (.ireturn, 1) := by decide +kernel
def fp_X10_status (v0 : Nat) (M : zM) : Option (Int32) :=
  zthis 8 M v0 (
    (zgI 8 M v0 0).bind fun (y1 : Int32) =>
    some y1)
set_option maxHeartbeats 4000000 in
set_option maxRecDepth 100000 in
theorem th_X10_status {v0 : Nat} {M : zM} {x0 : Int32} (h : fp_X10_status v0 M = some x0) : v0 < zS M ∧ kd v0 = 8 := by
  unfold fp_X10_status at h
  exact zthis_of h
set_option maxHeartbeats 4000000 in
set_option maxRecDepth 100000 in
theorem ct_X10_status (E : zEnv) (hE : zEok E) (d : Nat) (hd : 1 ≤ d) (v0 : Nat) (M : zM) (x0 : Int32) (hx : fp_X10_status v0 M = some x0) : zCt E mu_X10_status d [.ref (E.2.2.2.1 + v0)] M (some (.int x0), M) := by
  refine zCt_of (μ := mu_X10_status) (t := fp_X10_status v0 M) rfl rfl (Nat.le_of_ble_eq_true rfl) hx ?_
  change zSy E mu_X10_status d M (some (.int x0), M) x0 (fp_X10_status v0 M) 0 [(0, .ref (E.2.2.2.1 + v0))] [] M
  unfold fp_X10_status
  refine zs_this (fun hth => ?_)
  refine zs_aload_n dX10_status_0 rfl 0 rfl ?_
  refine zs_getI dX10_status_1 fl_X10_87 rfl (fun y1 => ?_)
  exact zs_iretP dX10_status_4 rfl
theorem dX10_feed_0 : decode cX10_feed 0 = .ok (.aload_n 0, 1) := by decide +kernel
theorem dX10_feed_1 : decode cX10_feed 1 = .ok (.getfield 10, 3) := by decide +kernel
theorem dX10_feed_4 : decode cX10_feed 4 = .ok (.getfield 91, 3) := by decide +kernel
theorem dX10_feed_7 : decode cX10_feed 7 = .ok (.bipush 20, 2) := by decide +kernel
theorem dX10_feed_9 : decode cX10_feed 9 = .ok (.iadd, 1) := by decide +kernel
theorem dX10_feed_10 : decode cX10_feed 10 = .ok (.sipush 200, 3) := by decide +kernel
theorem dX10_feed_13 : decode cX10_feed 13 = .ok (.if_icmp .le 5, 3) := by decide +kernel
theorem dX10_feed_16 : decode cX10_feed 16 = .ok (.iconst (-1), 1) := by decide +kernel
theorem dX10_feed_17 : decode cX10_feed 17 = .ok (.ireturn, 1) := by decide +kernel
theorem dX10_feed_18 : decode cX10_feed 18 = .ok (.aload_n 0, 1) := by decide +kernel
theorem dX10_feed_19 : decode cX10_feed 19 = .ok (.getfield 10, 3) := by decide +kernel
theorem dX10_feed_22 : decode cX10_feed 22 = .ok (.iload_n 1, 1) := by decide +kernel
theorem dX10_feed_23 : decode cX10_feed 23 = .ok (.invokevirtual 94, 3) := by decide +kernel
theorem dX10_feed_26 : decode cX10_feed 26 = .ok (.aload_n 0, 1) := by decide +kernel
theorem dX10_feed_27 : decode cX10_feed 27 = .ok (.getfield 10, 3) := by decide +kernel
theorem dX10_feed_30 : decode cX10_feed 30 = .ok (.iload_n 2, 1) := by decide +kernel
theorem dX10_feed_31 : decode cX10_feed 31 = .ok (.invokevirtual 94, 3) := by decide +kernel
theorem dX10_feed_34 : decode cX10_feed 34 = .ok (.aload_n 0, 1) := by decide +kernel
theorem dX10_feed_35 : decode cX10_feed 35 = .ok (.getfield 10, 3) := by decide +kernel
theorem dX10_feed_38 : decode cX10_feed 38 = .ok (.iload_n 3, 1) := by decide +kernel
theorem dX10_feed_39 : decode cX10_feed 39 = .ok (.invokevirtual 94, 3) := by decide +kernel
theorem dX10_feed_42 : decode cX10_feed 42 = .ok (.aload_n 0, 1) := by decide +kernel
theorem dX10_feed_43 : decode cX10_feed 43 = .ok (.getfield 10, 3) := by decide +kernel
theorem dX10_feed_46 : decode cX10_feed 46 = .ok (.iload 4, 2) := by decide +kernel
theorem dX10_feed_48 : decode cX10_feed 48 = .ok (.invokevirtual 94, 3) := by decide +kernel
theorem dX10_feed_51 : decode cX10_feed 51 = .ok (.aload_n 0, 1) := by decide +kernel
theorem dX10_feed_52 : decode cX10_feed 52 = .ok (.getfield 10, 3) := by decide +kernel
theorem dX10_feed_55 : decode cX10_feed 55 = .ok (.iload 5, 2) := by decide +kernel
theorem dX10_feed_57 : decode cX10_feed 57 = .ok (.invokevirtual 94, 3) := by decide +kernel
theorem dX10_feed_60 : decode cX10_feed 60 = .ok (.aload_n 0, 1) := by decide +kernel
theorem dX10_feed_61 : decode cX10_feed 61 = .ok (.getfield 10, 3) := by decide +kernel
theorem dX10_feed_64 : decode cX10_feed 64 = .ok (.getfield 91, 3) := by decide +kernel
theorem dX10_feed_67 : decode cX10_feed 67 = .ok (.ireturn, 1) := by decide +kernel
def fp_X10_feed (v0 : Nat) (v1 : Int32) (v2 : Int32) (v3 : Int32) (v4 : Int32) (v5 : Int32) (M : zM) : Option (Int32 × zM) :=
  zthis 8 M v0 (
    (zgR 8 M v0 4).bind fun (y1 : Nat) =>
    (zgI 5 M y1 1).bind fun (y2 : Int32) =>
    if (y2 + 20) ≤ 200 then (
      (zgR 8 M v0 4).bind fun (y3 : Nat) =>
      (fp_X7_take y3 v1 M).bind fun (M4 : zM) =>
      (zgR 8 M4 v0 4).bind fun (y5 : Nat) =>
      (fp_X7_take y5 v2 M4).bind fun (M6 : zM) =>
      (zgR 8 M6 v0 4).bind fun (y7 : Nat) =>
      (fp_X7_take y7 v3 M6).bind fun (M8 : zM) =>
      (zgR 8 M8 v0 4).bind fun (y9 : Nat) =>
      (fp_X7_take y9 v4 M8).bind fun (M10 : zM) =>
      (zgR 8 M10 v0 4).bind fun (y11 : Nat) =>
      (fp_X7_take y11 v5 M10).bind fun (M12 : zM) =>
      (zgR 8 M12 v0 4).bind fun (y13 : Nat) =>
      (zgI 5 M12 y13 1).bind fun (y14 : Int32) =>
      some (y14, M12))
    else (
      some ((-1), M)))
set_option maxHeartbeats 4000000 in
set_option maxRecDepth 100000 in
theorem th_X10_feed {v0 : Nat} {v1 : Int32} {v2 : Int32} {v3 : Int32} {v4 : Int32} {v5 : Int32} {M : zM} {x0 : Int32 × zM} (h : fp_X10_feed v0 v1 v2 v3 v4 v5 M = some x0) : v0 < zS M ∧ kd v0 = 8 := by
  unfold fp_X10_feed at h
  exact zthis_of h
set_option maxHeartbeats 4000000 in
set_option maxRecDepth 100000 in
theorem ct_X10_feed (E : zEnv) (hE : zEok E) (d : Nat) (hd : 2 ≤ d) (v0 : Nat) (v1 : Int32) (v2 : Int32) (v3 : Int32) (v4 : Int32) (v5 : Int32) (M : zM) (x0 : Int32 × zM) (hx : fp_X10_feed v0 v1 v2 v3 v4 v5 M = some x0) : zCt E mu_X10_feed d [.ref (E.2.2.2.1 + v0), .int v1, .int v2, .int v3, .int v4, .int v5] M (some (.int x0.1), x0.2) := by
  refine zCt_of (μ := mu_X10_feed) (t := fp_X10_feed v0 v1 v2 v3 v4 v5 M) rfl rfl (Nat.le_of_ble_eq_true rfl) hx ?_
  change zSy E mu_X10_feed d M (some (.int x0.1), x0.2) x0 (fp_X10_feed v0 v1 v2 v3 v4 v5 M) 0 [(0, .ref (E.2.2.2.1 + v0)), (1, .int v1), (2, .int v2), (3, .int v3), (4, .int v4), (5, .int v5)] [] M
  unfold fp_X10_feed
  refine zs_this (fun hth => ?_)
  refine zs_aload_n dX10_feed_0 rfl 0 rfl ?_
  refine zs_getR dX10_feed_1 fl_X10_10 rfl (fun y1 => ?_)
  refine zs_getI dX10_feed_4 fl_X10_91 rfl (fun y2 => ?_)
  refine zs_bipush (v := 20) dX10_feed_7 cbipush_20 ?_
  refine zs_iadd dX10_feed_9 ?_
  refine zs_sipush (v := 200) dX10_feed_10 csipush_200 ?_
  refine zs_icmp_le dX10_feed_13 rfl ?_ ?_
  · refine zs_aload_n dX10_feed_18 rfl 0 rfl ?_
    refine zs_getR dX10_feed_19 fl_X10_10 rfl (fun y3 => ?_)
    refine zs_iload_n dX10_feed_22 rfl 1 rfl ?_
    refine zs_invVWV (rest := []) [.int v1] dX10_feed_23 lk_X10_94 rfl (fun _ h => th_X7_take h) (zd1 rfl hd) rfl (Nat.le_of_ble_eq_true rfl) (ct_X7_take E hE _ (zdl rfl hd) _ _ _) (fun M4 => ?_)
    refine zs_aload_n dX10_feed_26 rfl 0 rfl ?_
    refine zs_getR dX10_feed_27 fl_X10_10 rfl (fun y5 => ?_)
    refine zs_iload_n dX10_feed_30 rfl 2 rfl ?_
    refine zs_invVWV (rest := []) [.int v2] dX10_feed_31 lk_X10_94 rfl (fun _ h => th_X7_take h) (zd1 rfl hd) rfl (Nat.le_of_ble_eq_true rfl) (ct_X7_take E hE _ (zdl rfl hd) _ _ _) (fun M6 => ?_)
    refine zs_aload_n dX10_feed_34 rfl 0 rfl ?_
    refine zs_getR dX10_feed_35 fl_X10_10 rfl (fun y7 => ?_)
    refine zs_iload_n dX10_feed_38 rfl 3 rfl ?_
    refine zs_invVWV (rest := []) [.int v3] dX10_feed_39 lk_X10_94 rfl (fun _ h => th_X7_take h) (zd1 rfl hd) rfl (Nat.le_of_ble_eq_true rfl) (ct_X7_take E hE _ (zdl rfl hd) _ _ _) (fun M8 => ?_)
    refine zs_aload_n dX10_feed_42 rfl 0 rfl ?_
    refine zs_getR dX10_feed_43 fl_X10_10 rfl (fun y9 => ?_)
    refine zs_iload dX10_feed_46 4 rfl ?_
    refine zs_invVWV (rest := []) [.int v4] dX10_feed_48 lk_X10_94 rfl (fun _ h => th_X7_take h) (zd1 rfl hd) rfl (Nat.le_of_ble_eq_true rfl) (ct_X7_take E hE _ (zdl rfl hd) _ _ _) (fun M10 => ?_)
    refine zs_aload_n dX10_feed_51 rfl 0 rfl ?_
    refine zs_getR dX10_feed_52 fl_X10_10 rfl (fun y11 => ?_)
    refine zs_iload dX10_feed_55 5 rfl ?_
    refine zs_invVWV (rest := []) [.int v5] dX10_feed_57 lk_X10_94 rfl (fun _ h => th_X7_take h) (zd1 rfl hd) rfl (Nat.le_of_ble_eq_true rfl) (ct_X7_take E hE _ (zdl rfl hd) _ _ _) (fun M12 => ?_)
    refine zs_aload_n dX10_feed_60 rfl 0 rfl ?_
    refine zs_getR dX10_feed_61 fl_X10_10 rfl (fun y13 => ?_)
    refine zs_getI dX10_feed_64 fl_X10_91 rfl (fun y14 => ?_)
    exact zs_iretW dX10_feed_67 rfl
  refine zs_iconst (v := (-1)) dX10_feed_16 ciconst_m1 ?_
  exact zs_iretW dX10_feed_17 rfl
theorem dX10_refuse_0 : decode cX10_refuse 0 = .ok (.aload_n 0, 1) := by decide +kernel
theorem dX10_refuse_1 : decode cX10_refuse 1 = .ok (.iload_n 1, 1) := by decide +kernel
theorem dX10_refuse_2 : decode cX10_refuse 2 = .ok (.putfield 87, 3) := by decide +kernel
theorem dX10_refuse_5 : decode cX10_refuse 5 = .ok (.iconst (-1), 1) := by decide +kernel
theorem dX10_refuse_6 : decode cX10_refuse 6 = .ok (.ireturn, 1) := by decide +kernel
def fp_X10_refuse (v0 : Nat) (v1 : Int32) (M : zM) : Option (Int32 × zM) :=
  zthis 8 M v0 (
    (zpI 8 M v0 0 v1).bind fun (M1 : zM) =>
    some ((-1), M1))
set_option maxHeartbeats 4000000 in
set_option maxRecDepth 100000 in
theorem th_X10_refuse {v0 : Nat} {v1 : Int32} {M : zM} {x0 : Int32 × zM} (h : fp_X10_refuse v0 v1 M = some x0) : v0 < zS M ∧ kd v0 = 8 := by
  unfold fp_X10_refuse at h
  exact zthis_of h
set_option maxHeartbeats 4000000 in
set_option maxRecDepth 100000 in
theorem ct_X10_refuse (E : zEnv) (hE : zEok E) (d : Nat) (hd : 1 ≤ d) (v0 : Nat) (v1 : Int32) (M : zM) (x0 : Int32 × zM) (hx : fp_X10_refuse v0 v1 M = some x0) : zCt E mu_X10_refuse d [.ref (E.2.2.2.1 + v0), .int v1] M (some (.int x0.1), x0.2) := by
  refine zCt_of (μ := mu_X10_refuse) (t := fp_X10_refuse v0 v1 M) rfl rfl (Nat.le_of_ble_eq_true rfl) hx ?_
  change zSy E mu_X10_refuse d M (some (.int x0.1), x0.2) x0 (fp_X10_refuse v0 v1 M) 0 [(0, .ref (E.2.2.2.1 + v0)), (1, .int v1)] [] M
  unfold fp_X10_refuse
  refine zs_this (fun hth => ?_)
  refine zs_aload_n dX10_refuse_0 rfl 0 rfl ?_
  refine zs_iload_n dX10_refuse_1 rfl 1 rfl ?_
  refine zs_putI dX10_refuse_2 fl_X10_87 ft_X10 rfl rfl rfl rfl rfl (fun M1 => ?_)
  refine zs_iconst (v := (-1)) dX10_refuse_5 ciconst_m1 ?_
  exact zs_iretW dX10_refuse_6 rfl
theorem dX10_become_0 : decode cX10_become 0 = .ok (.aload_n 0, 1) := by decide +kernel
theorem dX10_become_1 : decode cX10_become 1 = .ok (.getfield 26, 3) := by decide +kernel
theorem dX10_become_4 : decode cX10_become 4 = .ok (.aload_n 0, 1) := by decide +kernel
theorem dX10_become_5 : decode cX10_become 5 = .ok (.getfield 129, 3) := by decide +kernel
theorem dX10_become_8 : decode cX10_become 8 = .ok (.aload_n 0, 1) := by decide +kernel
theorem dX10_become_9 : decode cX10_become 9 = .ok (.getfield 136, 3) := by decide +kernel
theorem dX10_become_12 : decode cX10_become 12 = .ok (.invokestatic 210, 3) := by decide +kernel
theorem dX10_become_15 : decode cX10_become 15 = .ok (.invokevirtual 385, 3) := by decide +kernel
theorem dX10_become_18 : decode cX10_become 18 = .ok (.aload_n 0, 1) := by decide +kernel
theorem dX10_become_19 : decode cX10_become 19 = .ok (.iload_n 1, 1) := by decide +kernel
theorem dX10_become_20 : decode cX10_become 20 = .ok (.putfield 129, 3) := by decide +kernel
theorem dX10_become_23 : decode cX10_become 23 = .ok (.aload_n 0, 1) := by decide +kernel
theorem dX10_become_24 : decode cX10_become 24 = .ok (.iload_n 2, 1) := by decide +kernel
theorem dX10_become_25 : decode cX10_become 25 = .ok (.putfield 136, 3) := by decide +kernel
theorem dX10_become_28 : decode cX10_become 28 = .ok (.return_, 1) := by decide +kernel
def fp_X10_become (v0 : Nat) (v1 : Int32) (v2 : Int32) (M : zM) : Option (zM) :=
  zthis 8 M v0 (
    (zgR 8 M v0 6).bind fun (y1 : Nat) =>
    (zgI 8 M v0 1).bind fun (y2 : Int32) =>
    (zgI 8 M v0 2).bind fun (y3 : Int32) =>
    (fp_X2_code y2 y3).bind fun (y4 : Int32) =>
    (fp_X9_keep y1 y4 M).bind fun (M5 : zM) =>
    (zpI 8 M5 v0 1 v1).bind fun (M6 : zM) =>
    (zpI 8 M6 v0 2 v2).bind fun (M7 : zM) =>
    some M7)
set_option maxHeartbeats 4000000 in
set_option maxRecDepth 100000 in
theorem th_X10_become {v0 : Nat} {v1 : Int32} {v2 : Int32} {M : zM} {x0 : zM} (h : fp_X10_become v0 v1 v2 M = some x0) : v0 < zS M ∧ kd v0 = 8 := by
  unfold fp_X10_become at h
  exact zthis_of h
set_option maxHeartbeats 4000000 in
set_option maxRecDepth 100000 in
theorem ct_X10_become (E : zEnv) (hE : zEok E) (d : Nat) (hd : 3 ≤ d) (v0 : Nat) (v1 : Int32) (v2 : Int32) (M : zM) (x0 : zM) (hx : fp_X10_become v0 v1 v2 M = some x0) : zCt E mu_X10_become d [.ref (E.2.2.2.1 + v0), .int v1, .int v2] M (none, x0) := by
  refine zCt_of (μ := mu_X10_become) (t := fp_X10_become v0 v1 v2 M) rfl rfl (Nat.le_of_ble_eq_true rfl) hx ?_
  change zSy E mu_X10_become d M (none, x0) x0 (fp_X10_become v0 v1 v2 M) 0 [(0, .ref (E.2.2.2.1 + v0)), (1, .int v1), (2, .int v2)] [] M
  unfold fp_X10_become
  refine zs_this (fun hth => ?_)
  refine zs_aload_n dX10_become_0 rfl 0 rfl ?_
  refine zs_getR dX10_become_1 fl_X10_26 rfl (fun y1 => ?_)
  refine zs_aload_n dX10_become_4 rfl 0 rfl ?_
  refine zs_getI dX10_become_5 fl_X10_129 rfl (fun y2 => ?_)
  refine zs_aload_n dX10_become_8 rfl 0 rfl ?_
  refine zs_getI dX10_become_9 fl_X10_136 rfl (fun y3 => ?_)
  refine zs_invSPI (rest := [.ref (E.2.2.2.1 + y1)]) [.int y2, .int y3] dX10_become_12 lk_X10_210 rfl (zd1 rfl hd) rfl (Nat.le_of_ble_eq_true rfl) (ct_X2_code E hE _ (zdl rfl hd) _ _ _) (fun y4 => ?_)
  refine zs_invVWV (rest := []) [.int y4] dX10_become_15 lk_X10_385 rfl (fun _ h => th_X9_keep h) (zd1 rfl hd) rfl (Nat.le_of_ble_eq_true rfl) (ct_X9_keep E hE _ (zdl rfl hd) _ _ _) (fun M5 => ?_)
  refine zs_aload_n dX10_become_18 rfl 0 rfl ?_
  refine zs_iload_n dX10_become_19 rfl 1 rfl ?_
  refine zs_putI dX10_become_20 fl_X10_129 ft_X10 rfl rfl rfl rfl rfl (fun M6 => ?_)
  refine zs_aload_n dX10_become_23 rfl 0 rfl ?_
  refine zs_iload_n dX10_become_24 rfl 2 rfl ?_
  refine zs_putI dX10_become_25 fl_X10_136 ft_X10 rfl rfl rfl rfl rfl (fun M7 => ?_)
  exact zs_vret dX10_become_28 trivial
theorem dX10_answer_0 : decode cX10_answer 0 = .ok (.aload_n 0, 1) := by decide +kernel
theorem dX10_answer_1 : decode cX10_answer 1 = .ok (.iconst 0, 1) := by decide +kernel
theorem dX10_answer_2 : decode cX10_answer 2 = .ok (.putfield 87, 3) := by decide +kernel
theorem dX10_answer_5 : decode cX10_answer 5 = .ok (.iload_n 1, 1) := by decide +kernel
theorem dX10_answer_6 : decode cX10_answer 6 = .ok (.ireturn, 1) := by decide +kernel
def fp_X10_answer (v0 : Nat) (v1 : Int32) (M : zM) : Option (Int32 × zM) :=
  zthis 8 M v0 (
    (zpI 8 M v0 0 0).bind fun (M1 : zM) =>
    some (v1, M1))
set_option maxHeartbeats 4000000 in
set_option maxRecDepth 100000 in
theorem th_X10_answer {v0 : Nat} {v1 : Int32} {M : zM} {x0 : Int32 × zM} (h : fp_X10_answer v0 v1 M = some x0) : v0 < zS M ∧ kd v0 = 8 := by
  unfold fp_X10_answer at h
  exact zthis_of h
set_option maxHeartbeats 4000000 in
set_option maxRecDepth 100000 in
theorem ct_X10_answer (E : zEnv) (hE : zEok E) (d : Nat) (hd : 1 ≤ d) (v0 : Nat) (v1 : Int32) (M : zM) (x0 : Int32 × zM) (hx : fp_X10_answer v0 v1 M = some x0) : zCt E mu_X10_answer d [.ref (E.2.2.2.1 + v0), .int v1] M (some (.int x0.1), x0.2) := by
  refine zCt_of (μ := mu_X10_answer) (t := fp_X10_answer v0 v1 M) rfl rfl (Nat.le_of_ble_eq_true rfl) hx ?_
  change zSy E mu_X10_answer d M (some (.int x0.1), x0.2) x0 (fp_X10_answer v0 v1 M) 0 [(0, .ref (E.2.2.2.1 + v0)), (1, .int v1)] [] M
  unfold fp_X10_answer
  refine zs_this (fun hth => ?_)
  refine zs_aload_n dX10_answer_0 rfl 0 rfl ?_
  refine zs_iconst (v := 0) dX10_answer_1 ciconst_0 ?_
  refine zs_putI dX10_answer_2 fl_X10_87 ft_X10 rfl rfl rfl rfl rfl (fun M1 => ?_)
  refine zs_iload_n dX10_answer_5 rfl 1 rfl ?_
  exact zs_iretW dX10_answer_6 rfl
theorem dX10_load_0 : decode cX10_load 0 = .ok (.aload_n 0, 1) := by decide +kernel
theorem dX10_load_1 : decode cX10_load 1 = .ok (.getfield 10, 3) := by decide +kernel
theorem dX10_load_4 : decode cX10_load 4 = .ok (.iload_n 1, 1) := by decide +kernel
theorem dX10_load_5 : decode cX10_load 5 = .ok (.invokevirtual 98, 3) := by decide +kernel
theorem dX10_load_8 : decode cX10_load 8 = .ok (.ifCond .ne 9, 3) := by decide +kernel
theorem dX10_load_11 : decode cX10_load 11 = .ok (.aload_n 0, 1) := by decide +kernel
theorem dX10_load_12 : decode cX10_load 12 = .ok (.iconst 1, 1) := by decide +kernel
theorem dX10_load_13 : decode cX10_load 13 = .ok (.invokevirtual 102, 3) := by decide +kernel
theorem dX10_load_16 : decode cX10_load 16 = .ok (.ireturn, 1) := by decide +kernel
theorem dX10_load_17 : decode cX10_load 17 = .ok (.aload_n 0, 1) := by decide +kernel
theorem dX10_load_18 : decode cX10_load 18 = .ok (.getfield 19, 3) := by decide +kernel
theorem dX10_load_21 : decode cX10_load 21 = .ok (.aload_n 0, 1) := by decide +kernel
theorem dX10_load_22 : decode cX10_load 22 = .ok (.getfield 10, 3) := by decide +kernel
theorem dX10_load_25 : decode cX10_load 25 = .ok (.getfield 106, 3) := by decide +kernel
theorem dX10_load_28 : decode cX10_load 28 = .ok (.iload_n 1, 1) := by decide +kernel
theorem dX10_load_29 : decode cX10_load 29 = .ok (.invokevirtual 109, 3) := by decide +kernel
theorem dX10_load_32 : decode cX10_load 32 = .ok (.aload_n 0, 1) := by decide +kernel
theorem dX10_load_33 : decode cX10_load 33 = .ok (.getfield 10, 3) := by decide +kernel
theorem dX10_load_36 : decode cX10_load 36 = .ok (.iconst 0, 1) := by decide +kernel
theorem dX10_load_37 : decode cX10_load 37 = .ok (.putfield 91, 3) := by decide +kernel
theorem dX10_load_40 : decode cX10_load 40 = .ok (.aload_n 0, 1) := by decide +kernel
theorem dX10_load_41 : decode cX10_load 41 = .ok (.iconst 1, 1) := by decide +kernel
theorem dX10_load_42 : decode cX10_load 42 = .ok (.putfield 112, 3) := by decide +kernel
theorem dX10_load_45 : decode cX10_load 45 = .ok (.aload_n 0, 1) := by decide +kernel
theorem dX10_load_46 : decode cX10_load 46 = .ok (.getfield 19, 3) := by decide +kernel
theorem dX10_load_49 : decode cX10_load 49 = .ok (.getfield 116, 3) := by decide +kernel
theorem dX10_load_52 : decode cX10_load 52 = .ok (.ifCond .eq 10, 3) := by decide +kernel
theorem dX10_load_55 : decode cX10_load 55 = .ok (.aload_n 0, 1) := by decide +kernel
theorem dX10_load_56 : decode cX10_load 56 = .ok (.bipush 9, 2) := by decide +kernel
theorem dX10_load_58 : decode cX10_load 58 = .ok (.invokevirtual 102, 3) := by decide +kernel
theorem dX10_load_61 : decode cX10_load 61 = .ok (.ireturn, 1) := by decide +kernel
theorem dX10_load_62 : decode cX10_load 62 = .ok (.aload_n 0, 1) := by decide +kernel
theorem dX10_load_63 : decode cX10_load 63 = .ok (.aload_n 0, 1) := by decide +kernel
theorem dX10_load_64 : decode cX10_load 64 = .ok (.getfield 19, 3) := by decide +kernel
theorem dX10_load_67 : decode cX10_load 67 = .ok (.getfield 119, 3) := by decide +kernel
theorem dX10_load_70 : decode cX10_load 70 = .ok (.aload_n 0, 1) := by decide +kernel
theorem dX10_load_71 : decode cX10_load 71 = .ok (.getfield 19, 3) := by decide +kernel
theorem dX10_load_74 : decode cX10_load 74 = .ok (.getfield 122, 3) := by decide +kernel
theorem dX10_load_77 : decode cX10_load 77 = .ok (.invokevirtual 125, 3) := by decide +kernel
theorem dX10_load_80 : decode cX10_load 80 = .ok (.aload_n 0, 1) := by decide +kernel
theorem dX10_load_81 : decode cX10_load 81 = .ok (.aload_n 0, 1) := by decide +kernel
theorem dX10_load_82 : decode cX10_load 82 = .ok (.getfield 129, 3) := by decide +kernel
theorem dX10_load_85 : decode cX10_load 85 = .ok (.invokevirtual 130, 3) := by decide +kernel
theorem dX10_load_88 : decode cX10_load 88 = .ok (.ireturn, 1) := by decide +kernel
def fp_X10_load (v0 : Nat) (v1 : Int32) (M : zM) : Option (Int32 × zM) :=
  zthis 8 M v0 (
    (zgR 8 M v0 4).bind fun (y1 : Nat) =>
    (fp_X7_holds y1 v1 M).bind fun (y2 : Int32) =>
    if y2 ≠ 0 then (
      (zgR 8 M v0 5).bind fun (y3 : Nat) =>
      (zgR 8 M v0 4).bind fun (y4 : Nat) =>
      (zgR 5 M y4 0).bind fun (y5 : Nat) =>
      (fp_X4_read y3 y5 v1 M).bind fun (M6 : zM) =>
      (zgR 8 M6 v0 4).bind fun (y7 : Nat) =>
      (zpI 5 M6 y7 1 0).bind fun (M8 : zM) =>
      (zpI 8 M8 v0 3 1).bind fun (M9 : zM) =>
      (zgR 8 M9 v0 5).bind fun (y10 : Nat) =>
      (zgI 3 M9 y10 2).bind fun (y11 : Int32) =>
      if y11 = 0 then (
        (zgR 8 M9 v0 5).bind fun (y12 : Nat) =>
        (zgI 3 M9 y12 0).bind fun (y13 : Int32) =>
        (zgR 8 M9 v0 5).bind fun (y14 : Nat) =>
        (zgI 3 M9 y14 1).bind fun (y15 : Int32) =>
        (fp_X10_become v0 y13 y15 M9).bind fun (M16 : zM) =>
        (zgI 8 M16 v0 1).bind fun (y17 : Int32) =>
        (fp_X10_answer v0 y17 M16).bind fun p20 => zpp p20 fun (y18 : Int32) (M19 : zM) =>
        some (y18, M19))
      else (
        (fp_X10_refuse v0 9 M9).bind fun p23 => zpp p23 fun (y21 : Int32) (M22 : zM) =>
        some (y21, M22)))
    else (
      (fp_X10_refuse v0 1 M).bind fun p26 => zpp p26 fun (y24 : Int32) (M25 : zM) =>
      some (y24, M25)))
set_option maxHeartbeats 4000000 in
set_option maxRecDepth 100000 in
theorem th_X10_load {v0 : Nat} {v1 : Int32} {M : zM} {x0 : Int32 × zM} (h : fp_X10_load v0 v1 M = some x0) : v0 < zS M ∧ kd v0 = 8 := by
  unfold fp_X10_load at h
  exact zthis_of h
set_option maxHeartbeats 4000000 in
set_option maxRecDepth 100000 in
theorem ct_X10_load (E : zEnv) (hE : zEok E) (d : Nat) (hd : 12 ≤ d) (v0 : Nat) (v1 : Int32) (M : zM) (x0 : Int32 × zM) (hx : fp_X10_load v0 v1 M = some x0) : zCt E mu_X10_load d [.ref (E.2.2.2.1 + v0), .int v1] M (some (.int x0.1), x0.2) := by
  refine zCt_of (μ := mu_X10_load) (t := fp_X10_load v0 v1 M) rfl rfl (Nat.le_of_ble_eq_true rfl) hx ?_
  change zSy E mu_X10_load d M (some (.int x0.1), x0.2) x0 (fp_X10_load v0 v1 M) 0 [(0, .ref (E.2.2.2.1 + v0)), (1, .int v1)] [] M
  unfold fp_X10_load
  refine zs_this (fun hth => ?_)
  refine zs_aload_n dX10_load_0 rfl 0 rfl ?_
  refine zs_getR dX10_load_1 fl_X10_10 rfl (fun y1 => ?_)
  refine zs_iload_n dX10_load_4 rfl 1 rfl ?_
  refine zs_invVPI (rest := []) [.int v1] dX10_load_5 lk_X10_98 rfl (fun _ h => th_X7_holds h) (zd1 rfl hd) rfl (Nat.le_of_ble_eq_true rfl) (ct_X7_holds E hE _ (zdl rfl hd) _ _ _) (fun y2 => ?_)
  refine zs_if_ne dX10_load_8 rfl ?_ ?_
  · refine zs_aload_n dX10_load_17 rfl 0 rfl ?_
    refine zs_getR dX10_load_18 fl_X10_19 rfl (fun y3 => ?_)
    refine zs_aload_n dX10_load_21 rfl 0 rfl ?_
    refine zs_getR dX10_load_22 fl_X10_10 rfl (fun y4 => ?_)
    refine zs_getR dX10_load_25 fl_X10_106 rfl (fun y5 => ?_)
    refine zs_iload_n dX10_load_28 rfl 1 rfl ?_
    refine zs_invVWV (rest := []) [.ref (E.2.2.2.1 + y5), .int v1] dX10_load_29 lk_X10_109 rfl (fun _ h => th_X4_read h) (zd1 rfl hd) rfl (Nat.le_of_ble_eq_true rfl) (ct_X4_read E hE _ (zdl rfl hd) _ _ _ _) (fun M6 => ?_)
    refine zs_aload_n dX10_load_32 rfl 0 rfl ?_
    refine zs_getR dX10_load_33 fl_X10_10 rfl (fun y7 => ?_)
    refine zs_iconst (v := 0) dX10_load_36 ciconst_0 ?_
    refine zs_putI dX10_load_37 fl_X10_91 ft_X7 rfl rfl rfl rfl rfl (fun M8 => ?_)
    refine zs_aload_n dX10_load_40 rfl 0 rfl ?_
    refine zs_iconst (v := 1) dX10_load_41 ciconst_1 ?_
    refine zs_putI dX10_load_42 fl_X10_112 ft_X10 rfl rfl rfl rfl rfl (fun M9 => ?_)
    refine zs_aload_n dX10_load_45 rfl 0 rfl ?_
    refine zs_getR dX10_load_46 fl_X10_19 rfl (fun y10 => ?_)
    refine zs_getI dX10_load_49 fl_X10_116 rfl (fun y11 => ?_)
    refine zs_if_eq dX10_load_52 rfl ?_ ?_
    · refine zs_aload_n dX10_load_62 rfl 0 rfl ?_
      refine zs_aload_n dX10_load_63 rfl 0 rfl ?_
      refine zs_getR dX10_load_64 fl_X10_19 rfl (fun y12 => ?_)
      refine zs_getI dX10_load_67 fl_X10_119 rfl (fun y13 => ?_)
      refine zs_aload_n dX10_load_70 rfl 0 rfl ?_
      refine zs_getR dX10_load_71 fl_X10_19 rfl (fun y14 => ?_)
      refine zs_getI dX10_load_74 fl_X10_122 rfl (fun y15 => ?_)
      refine zs_invVWV (rest := []) [.int y13, .int y15] dX10_load_77 lk_X10_125 rfl (fun _ h => th_X10_become h) (zd1 rfl hd) rfl (Nat.le_of_ble_eq_true rfl) (ct_X10_become E hE _ (zdl rfl hd) _ _ _ _) (fun M16 => ?_)
      refine zs_aload_n dX10_load_80 rfl 0 rfl ?_
      refine zs_aload_n dX10_load_81 rfl 0 rfl ?_
      refine zs_getI dX10_load_82 fl_X10_129 rfl (fun y17 => ?_)
      refine zs_invVWI (rest := []) [.int y17] dX10_load_85 lk_X10_130 rfl (fun _ h => th_X10_answer h) (zd1 rfl hd) rfl (Nat.le_of_ble_eq_true rfl) (ct_X10_answer E hE _ (zdl rfl hd) _ _ _) (fun y18 M19 => ?_)
      exact zs_iretW dX10_load_88 rfl
    refine zs_aload_n dX10_load_55 rfl 0 rfl ?_
    refine zs_bipush (v := 9) dX10_load_56 cbipush_9 ?_
    refine zs_invVWI (rest := []) [.int 9] dX10_load_58 lk_X10_102 rfl (fun _ h => th_X10_refuse h) (zd1 rfl hd) rfl (Nat.le_of_ble_eq_true rfl) (ct_X10_refuse E hE _ (zdl rfl hd) _ _ _) (fun y21 M22 => ?_)
    exact zs_iretW dX10_load_61 rfl
  refine zs_aload_n dX10_load_11 rfl 0 rfl ?_
  refine zs_iconst (v := 1) dX10_load_12 ciconst_1 ?_
  refine zs_invVWI (rest := []) [.int 1] dX10_load_13 lk_X10_102 rfl (fun _ h => th_X10_refuse h) (zd1 rfl hd) rfl (Nat.le_of_ble_eq_true rfl) (ct_X10_refuse E hE _ (zdl rfl hd) _ _ _) (fun y24 M25 => ?_)
  exact zs_iretW dX10_load_16 rfl
theorem dX10_fault_0 : decode cX10_fault 0 = .ok (.aload_n 0, 1) := by decide +kernel
theorem dX10_fault_1 : decode cX10_fault 1 = .ok (.getfield 112, 3) := by decide +kernel
theorem dX10_fault_4 : decode cX10_fault 4 = .ok (.ifCond .eq 12, 3) := by decide +kernel
theorem dX10_fault_7 : decode cX10_fault 7 = .ok (.iload_n 1, 1) := by decide +kernel
theorem dX10_fault_8 : decode cX10_fault 8 = .ok (.ifCond .lt 8, 3) := by decide +kernel
theorem dX10_fault_11 : decode cX10_fault 11 = .ok (.iload_n 1, 1) := by decide +kernel
theorem dX10_fault_12 : decode cX10_fault 12 = .ok (.iconst 1, 1) := by decide +kernel
theorem dX10_fault_13 : decode cX10_fault 13 = .ok (.if_icmp .le 5, 3) := by decide +kernel
theorem dX10_fault_16 : decode cX10_fault 16 = .ok (.iconst (-1), 1) := by decide +kernel
theorem dX10_fault_17 : decode cX10_fault 17 = .ok (.ireturn, 1) := by decide +kernel
theorem dX10_fault_18 : decode cX10_fault 18 = .ok (.iload_n 1, 1) := by decide +kernel
theorem dX10_fault_19 : decode cX10_fault 19 = .ok (.ifCond .ne 13, 3) := by decide +kernel
theorem dX10_fault_22 : decode cX10_fault 22 = .ok (.aload_n 0, 1) := by decide +kernel
theorem dX10_fault_23 : decode cX10_fault 23 = .ok (.getfield 19, 3) := by decide +kernel
theorem dX10_fault_26 : decode cX10_fault 26 = .ok (.getfield 116, 3) := by decide +kernel
theorem dX10_fault_29 : decode cX10_fault 29 = .ok (.goto 10, 3) := by decide +kernel
theorem dX10_fault_32 : decode cX10_fault 32 = .ok (.aload_n 0, 1) := by decide +kernel
theorem dX10_fault_33 : decode cX10_fault 33 = .ok (.getfield 19, 3) := by decide +kernel
theorem dX10_fault_36 : decode cX10_fault 36 = .ok (.getfield 133, 3) := by decide +kernel
theorem dX10_fault_39 : decode cX10_fault 39 = .ok (.ireturn, 1) := by decide +kernel
def fp_X10_fault (v0 : Nat) (v1 : Int32) (M : zM) : Option (Int32) :=
  zthis 8 M v0 (
    (zgI 8 M v0 3).bind fun (y1 : Int32) =>
    if y1 = 0 then (
      some (-1))
    else (
      if v1 < 0 then (
        some (-1))
      else (
        if v1 ≤ 1 then (
          if v1 ≠ 0 then (
            (zgR 8 M v0 5).bind fun (y2 : Nat) =>
            (zgI 3 M y2 3).bind fun (y3 : Int32) =>
            some y3)
          else (
            (zgR 8 M v0 5).bind fun (y4 : Nat) =>
            (zgI 3 M y4 2).bind fun (y5 : Int32) =>
            some y5))
        else (
          some (-1)))))
set_option maxHeartbeats 4000000 in
set_option maxRecDepth 100000 in
theorem th_X10_fault {v0 : Nat} {v1 : Int32} {M : zM} {x0 : Int32} (h : fp_X10_fault v0 v1 M = some x0) : v0 < zS M ∧ kd v0 = 8 := by
  unfold fp_X10_fault at h
  exact zthis_of h
set_option maxHeartbeats 4000000 in
set_option maxRecDepth 100000 in
theorem ct_X10_fault (E : zEnv) (hE : zEok E) (d : Nat) (hd : 1 ≤ d) (v0 : Nat) (v1 : Int32) (M : zM) (x0 : Int32) (hx : fp_X10_fault v0 v1 M = some x0) : zCt E mu_X10_fault d [.ref (E.2.2.2.1 + v0), .int v1] M (some (.int x0), M) := by
  refine zCt_of (μ := mu_X10_fault) (t := fp_X10_fault v0 v1 M) rfl rfl (Nat.le_of_ble_eq_true rfl) hx ?_
  change zSy E mu_X10_fault d M (some (.int x0), M) x0 (fp_X10_fault v0 v1 M) 0 [(0, .ref (E.2.2.2.1 + v0)), (1, .int v1)] [] M
  unfold fp_X10_fault
  refine zs_this (fun hth => ?_)
  refine zs_aload_n dX10_fault_0 rfl 0 rfl ?_
  refine zs_getI dX10_fault_1 fl_X10_112 rfl (fun y1 => ?_)
  refine zs_if_eq dX10_fault_4 rfl ?_ ?_
  · refine zs_iconst (v := (-1)) dX10_fault_16 ciconst_m1 ?_
    exact zs_iretP dX10_fault_17 rfl
  refine zs_iload_n dX10_fault_7 rfl 1 rfl ?_
  refine zs_if_lt dX10_fault_8 rfl ?_ ?_
  · refine zs_iconst (v := (-1)) dX10_fault_16 ciconst_m1 ?_
    exact zs_iretP dX10_fault_17 rfl
  refine zs_iload_n dX10_fault_11 rfl 1 rfl ?_
  refine zs_iconst (v := 1) dX10_fault_12 ciconst_1 ?_
  refine zs_icmp_le dX10_fault_13 rfl ?_ ?_
  · refine zs_iload_n dX10_fault_18 rfl 1 rfl ?_
    refine zs_if_ne dX10_fault_19 rfl ?_ ?_
    · refine zs_aload_n dX10_fault_32 rfl 0 rfl ?_
      refine zs_getR dX10_fault_33 fl_X10_19 rfl (fun y2 => ?_)
      refine zs_getI dX10_fault_36 fl_X10_133 rfl (fun y3 => ?_)
      exact zs_iretP dX10_fault_39 rfl
    refine zs_aload_n dX10_fault_22 rfl 0 rfl ?_
    refine zs_getR dX10_fault_23 fl_X10_19 rfl (fun y4 => ?_)
    refine zs_getI dX10_fault_26 fl_X10_116 rfl (fun y5 => ?_)
    refine zs_goto dX10_fault_29 rfl ?_
    exact zs_iretP dX10_fault_39 rfl
  refine zs_iconst (v := (-1)) dX10_fault_16 ciconst_m1 ?_
  exact zs_iretP dX10_fault_17 rfl

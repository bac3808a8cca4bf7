theorem dX3_gather_0 : decode cX3_gather 0 = .ok (.aload_n 0, 1) := by decide +kernel
theorem dX3_gather_1 : decode cX3_gather 1 = .ok (.iconst 0, 1) := by decide +kernel
theorem dX3_gather_2 : decode cX3_gather 2 = .ok (.putfield 23, 3) := by decide +kernel
theorem dX3_gather_5 : decode cX3_gather 5 = .ok (.aload_n 0, 1) := by decide +kernel
theorem dX3_gather_6 : decode cX3_gather 6 = .ok (.iconst 0, 1) := by decide +kernel
theorem dX3_gather_7 : decode cX3_gather 7 = .ok (.putfield 27, 3) := by decide +kernel
theorem dX3_gather_10 : decode cX3_gather 10 = .ok (.iconst 0, 1) := by decide +kernel
theorem dX3_gather_11 : decode cX3_gather 11 = .ok (.istore_n 3, 1) := by decide +kernel
theorem dX3_gather_12 : decode cX3_gather 12 = .ok (.iload_n 3, 1) := by decide +kernel
theorem dX3_gather_13 : decode cX3_gather 13 = .ok (.iload_n 1, 1) := by decide +kernel
theorem dX3_gather_14 : decode cX3_gather 14 = .ok (.if_icmp .ge 34, 3) := by decide +kernel
theorem dX3_gather_17 : decode cX3_gather 17 = .ok (.iload_n 1, 1) := by decide +kernel
theorem dX3_gather_18 : decode cX3_gather 18 = .ok (.iload_n 2, 1) := by decide +kernel
theorem dX3_gather_19 : decode cX3_gather 19 = .ok (.iload_n 3, 1) := by decide +kernel
theorem dX3_gather_20 : decode cX3_gather 20 = .ok (.invokestatic 30, 3) := by decide +kernel
theorem dX3_gather_23 : decode cX3_gather 23 = .ok (.istore 4, 2) := by decide +kernel
theorem dX3_gather_25 : decode cX3_gather 25 = .ok (.iload 4, 2) := by decide +kernel
theorem dX3_gather_27 : decode cX3_gather 27 = .ok (.iload_n 3, 1) := by decide +kernel
theorem dX3_gather_28 : decode cX3_gather 28 = .ok (.invokestatic 36, 3) := by decide +kernel
theorem dX3_gather_31 : decode cX3_gather 31 = .ok (.ifCond .eq 11, 3) := by decide +kernel
theorem dX3_gather_34 : decode cX3_gather 34 = .ok (.aload_n 0, 1) := by decide +kernel
theorem dX3_gather_35 : decode cX3_gather 35 = .ok (.iload_n 1, 1) := by decide +kernel
theorem dX3_gather_36 : decode cX3_gather 36 = .ok (.iload_n 2, 1) := by decide +kernel
theorem dX3_gather_37 : decode cX3_gather 37 = .ok (.iload 4, 2) := by decide +kernel
theorem dX3_gather_39 : decode cX3_gather 39 = .ok (.invokevirtual 40, 3) := by decide +kernel
theorem dX3_gather_42 : decode cX3_gather 42 = .ok (.iinc 3 1, 3) := by decide +kernel
theorem dX3_gather_45 : decode cX3_gather 45 = .ok (.goto (-33), 3) := by decide +kernel
theorem dX3_gather_48 : decode cX3_gather 48 = .ok (.iconst 0, 1) := by decide +kernel
theorem dX3_gather_49 : decode cX3_gather 49 = .ok (.istore_n 3, 1) := by decide +kernel
theorem dX3_gather_50 : decode cX3_gather 50 = .ok (.iload_n 3, 1) := by decide +kernel
theorem dX3_gather_51 : decode cX3_gather 51 = .ok (.bipush 16, 2) := by decide +kernel
theorem dX3_gather_53 : decode cX3_gather 53 = .ok (.if_icmp .ge 26, 3) := by decide +kernel
theorem dX3_gather_56 : decode cX3_gather 56 = .ok (.aload_n 0, 1) := by decide +kernel
theorem dX3_gather_57 : decode cX3_gather 57 = .ok (.invokevirtual 44, 3) := by decide +kernel
theorem dX3_gather_60 : decode cX3_gather 60 = .ok (.ifCond .eq 19, 3) := by decide +kernel
theorem dX3_gather_63 : decode cX3_gather 63 = .ok (.aload_n 0, 1) := by decide +kernel
theorem dX3_gather_64 : decode cX3_gather 64 = .ok (.dup, 1) := by decide +kernel
theorem dX3_gather_65 : decode cX3_gather 65 = .ok (.getfield 27, 3) := by decide +kernel
theorem dX3_gather_68 : decode cX3_gather 68 = .ok (.iconst 1, 1) := by decide +kernel
theorem dX3_gather_69 : decode cX3_gather 69 = .ok (.iadd, 1) := by decide +kernel
theorem dX3_gather_70 : decode cX3_gather 70 = .ok (.putfield 27, 3) := by decide +kernel
theorem dX3_gather_73 : decode cX3_gather 73 = .ok (.iinc 3 1, 3) := by decide +kernel
theorem dX3_gather_76 : decode cX3_gather 76 = .ok (.goto (-26), 3) := by decide +kernel
theorem dX3_gather_79 : decode cX3_gather 79 = .ok (.return_, 1) := by decide +kernel
def fp_X3_gather_L12 (k48 : zM → Option (zM)) (v0 : Nat) (v1 : Int32) (v2 : Int32) : Nat → Int32 → zM → Option (zM)
  | 0, _, _ => none
  | n + 1, v3, M =>
    if v3 ≥ v1 then (
      k48 M)
    else (
      (fp_X2_joinedTo v1 v2 v3).bind fun (y3 : Int32) =>
      (fp_X2_isLeastOf y3 v3).bind fun (y4 : Int32) =>
      zjn (fun (M5 : zM) =>
          fp_X3_gather_L12 k48 v0 v1 v2 n (v3 + 1) M5)
        (fun j42 =>
          if y4 = 0 then (
            j42 M)
          else (
            (fp_X3_begin v0 v1 v2 y3 M).bind fun (M6 : zM) =>
            j42 M6)))
def fp_X3_gather_L50 (v0 : Nat) : Nat → Int32 → zM → Option (zM)
  | 0, _, _ => none
  | n + 1, v3, M =>
    if v3 ≥ 16 then (
      some M)
    else (
      (fp_X3_takeOneApart v0 M).bind fun p10 => zpp p10 fun (y8 : Int32) (M9 : zM) =>
      if y8 = 0 then (
        some M9)
      else (
        (zgI 2 M9 v0 4).bind fun (y11 : Int32) =>
        (zpI 2 M9 v0 4 (y11 + 1)).bind fun (M12 : zM) =>
        fp_X3_gather_L50 v0 n (v3 + 1) M12))
def fp_X3_gather (v0 : Nat) (v1 : Int32) (v2 : Int32) (M : zM) : Option (zM) :=
  zthis 2 M v0 (
    (zpI 2 M v0 3 0).bind fun (M1 : zM) =>
    (zpI 2 M1 v0 4 0).bind fun (M2 : zM) =>
    fp_X3_gather_L12
      (fun M7 =>
        fp_X3_gather_L50 v0 FU 0 M7) v0 v1 v2 FU 0 M2)
set_option maxHeartbeats 4000000 in
set_option maxRecDepth 100000 in
theorem th_X3_gather {v0 : Nat} {v1 : Int32} {v2 : Int32} {M : zM} {x0 : zM} (h : fp_X3_gather v0 v1 v2 M = some x0) : v0 < zS M ∧ kd v0 = 2 := by
  unfold fp_X3_gather at h
  exact zthis_of h
set_option maxHeartbeats 4000000 in
set_option maxRecDepth 100000 in
theorem w_X3_gather_L12 (E : zEnv) (hE : zEok E) (d : Nat) (hd : 6 ≤ d) (M0 : zM) (x0 : zM) (v0 : Nat) (v1 : Int32) (v2 : Int32) (k48 : zM → Option (zM)) (hk48 : ∀ (M : zM), zSy E mu_X3_gather d M0 (none, x0) x0 (k48 M) 48 [(0, .ref (E.2.2.2.1 + v0))] [] M) : ∀ (n : Nat) (v3 : Int32) (M : zM), zSy E mu_X3_gather d M0 (none, x0) x0 (fp_X3_gather_L12 k48 v0 v1 v2 n v3 M) 12 [(0, .ref (E.2.2.2.1 + v0)), (1, .int v1), (2, .int v2), (3, .int v3)] [] M := by
  intro n
  induction n with
  | zero =>
    intro v3 M
    rw [fp_X3_gather_L12]
    exact zs_none
  | succ n ih =>
    intro v3 M
    rw [fp_X3_gather_L12]
    refine zs_iload_n dX3_gather_12 rfl 3 rfl ?_
    refine zs_iload_n dX3_gather_13 rfl 1 rfl ?_
    refine zs_icmp_ge dX3_gather_14 rfl ?_ ?_
    · refine zs_sub (loc' := [(0, .ref (E.2.2.2.1 + v0))]) [0] rfl ?_
      exact hk48 M
    refine zs_iload_n dX3_gather_17 rfl 1 rfl ?_
    refine zs_iload_n dX3_gather_18 rfl 2 rfl ?_
    refine zs_iload_n dX3_gather_19 rfl 3 rfl ?_
    refine zs_invSPI (rest := []) [.int v1, .int v2, .int v3] dX3_gather_20 lk_X3_30 rfl (zd1 rfl hd) rfl (Nat.le_of_ble_eq_true rfl) (ct_X2_joinedTo E hE _ (zdl rfl hd) _ _ _ _) (fun y3 => ?_)
    refine zs_istore (loc' := [(0, .ref (E.2.2.2.1 + v0)), (1, .int v1), (2, .int v2), (3, .int v3), (4, .int y3)]) dX3_gather_23 (Nat.le_of_ble_eq_true rfl) [1, 2, 3, 4, 0] rfl ?_
    refine zs_iload dX3_gather_25 4 rfl ?_
    refine zs_iload_n dX3_gather_27 rfl 3 rfl ?_
    refine zs_invSPI (rest := []) [.int y3, .int v3] dX3_gather_28 lk_X3_36 rfl (zd1 rfl hd) rfl (Nat.le_of_ble_eq_true rfl) (ct_X2_isLeastOf E hE _ (zdl rfl hd) _ _ _) (fun y4 => ?_)
    refine zs_jn (fun j42 => ∀ (M5 : zM), zSy E mu_X3_gather d M0 (none, x0) x0 (j42 M5) 42 [(0, .ref (E.2.2.2.1 + v0)), (1, .int v1), (2, .int v2), (3, .int v3)] [] M5) (fun M5 => ?_) (fun j42 hj42 => ?_)
    · refine zs_iinc (v := (v3 + 1)) (loc' := [(0, .ref (E.2.2.2.1 + v0)), (1, .int v1), (2, .int v2), (3, .int (v3 + 1))]) dX3_gather_42 3 rfl (by rfl) (Nat.le_of_ble_eq_true rfl) [1, 2, 3, 0] rfl ?_
      refine zs_goto dX3_gather_45 rfl ?_
      exact ih (v3 + 1) M5
    refine zs_if_eq dX3_gather_31 rfl ?_ ?_
    · refine zs_sub (loc' := [(0, .ref (E.2.2.2.1 + v0)), (1, .int v1), (2, .int v2), (3, .int v3)]) [0, 1, 2, 3] rfl ?_
      exact hj42 M
    refine zs_aload_n dX3_gather_34 rfl 0 rfl ?_
    refine zs_iload_n dX3_gather_35 rfl 1 rfl ?_
    refine zs_iload_n dX3_gather_36 rfl 2 rfl ?_
    refine zs_iload dX3_gather_37 4 rfl ?_
    refine zs_invVWV (rest := []) [.int v1, .int v2, .int y3] dX3_gather_39 lk_X3_40 rfl (fun _ h => th_X3_begin h) (zd1 rfl hd) rfl (Nat.le_of_ble_eq_true rfl) (ct_X3_begin E hE _ (zdl rfl hd) _ _ _ _ _) (fun M6 => ?_)
    refine zs_sub (loc' := [(0, .ref (E.2.2.2.1 + v0)), (1, .int v1), (2, .int v2), (3, .int v3)]) [0, 1, 2, 3] rfl ?_
    exact hj42 M6
set_option maxHeartbeats 4000000 in
set_option maxRecDepth 100000 in
theorem w_X3_gather_L50 (E : zEnv) (hE : zEok E) (d : Nat) (hd : 6 ≤ d) (M0 : zM) (x0 : zM) (v0 : Nat)  : ∀ (n : Nat) (v3 : Int32) (M : zM), zSy E mu_X3_gather d M0 (none, x0) x0 (fp_X3_gather_L50 v0 n v3 M) 50 [(0, .ref (E.2.2.2.1 + v0)), (3, .int v3)] [] M := by
  intro n
  induction n with
  | zero =>
    intro v3 M
    rw [fp_X3_gather_L50]
    exact zs_none
  | succ n ih =>
    intro v3 M
    rw [fp_X3_gather_L50]
    refine zs_iload_n dX3_gather_50 rfl 1 rfl ?_
    refine zs_bipush (v := 16) dX3_gather_51 cbipush_16 ?_
    refine zs_icmp_ge dX3_gather_53 rfl ?_ ?_
    · exact zs_vret dX3_gather_79 trivial
    refine zs_aload_n dX3_gather_56 rfl 0 rfl ?_
    refine zs_invVWI (rest := []) [] dX3_gather_57 lk_X3_44 rfl (fun _ h => th_X3_takeOneApart h) (zd1 rfl hd) rfl (Nat.le_of_ble_eq_true rfl) (ct_X3_takeOneApart E hE _ (zdl rfl hd) _ _) (fun y8 M9 => ?_)
    refine zs_if_eq dX3_gather_60 rfl ?_ ?_
    · exact zs_vret dX3_gather_79 trivial
    refine zs_aload_n dX3_gather_63 rfl 0 rfl ?_
    refine zs_dup dX3_gather_64 rfl ?_
    refine zs_getI dX3_gather_65 fl_X3_27 rfl (fun y11 => ?_)
    refine zs_iconst (v := 1) dX3_gather_68 ciconst_1 ?_
    refine zs_iadd dX3_gather_69 ?_
    refine zs_putI dX3_gather_70 fl_X3_27 ft_X3 rfl rfl rfl rfl rfl (fun M12 => ?_)
    refine zs_iinc (v := (v3 + 1)) (loc' := [(0, .ref (E.2.2.2.1 + v0)), (3, .int (v3 + 1))]) dX3_gather_73 1 rfl (by rfl) (Nat.le_of_ble_eq_true rfl) [1, 0] rfl ?_
    refine zs_goto dX3_gather_76 rfl ?_
    exact ih (v3 + 1) M12
set_option maxHeartbeats 4000000 in
set_option maxRecDepth 100000 in
theorem ct_X3_gather (E : zEnv) (hE : zEok E) (d : Nat) (hd : 6 ≤ d) (v0 : Nat) (v1 : Int32) (v2 : Int32) (M : zM) (x0 : zM) (hx : fp_X3_gather v0 v1 v2 M = some x0) : zCt E mu_X3_gather d [.ref (E.2.2.2.1 + v0), .int v1, .int v2] M (none, x0) := by
  refine zCt_of (μ := mu_X3_gather) (t := fp_X3_gather v0 v1 v2 M) rfl rfl (Nat.le_of_ble_eq_true rfl) hx ?_
  change zSy E mu_X3_gather d M (none, x0) x0 (fp_X3_gather v0 v1 v2 M) 0 [(0, .ref (E.2.2.2.1 + v0)), (1, .int v1), (2, .int v2)] [] M
  unfold fp_X3_gather
  refine zs_this (fun hth => ?_)
  refine zs_aload_n dX3_gather_0 rfl 0 rfl ?_
  refine zs_iconst (v := 0) dX3_gather_1 ciconst_0 ?_
  refine zs_putI dX3_gather_2 fl_X3_23 ft_X3 rfl rfl rfl rfl rfl (fun M1 => ?_)
  refine zs_aload_n dX3_gather_5 rfl 0 rfl ?_
  refine zs_iconst (v := 0) dX3_gather_6 ciconst_0 ?_
  refine zs_putI dX3_gather_7 fl_X3_27 ft_X3 rfl rfl rfl rfl rfl (fun M2 => ?_)
  refine zs_iconst (v := 0) dX3_gather_10 ciconst_0 ?_
  refine zs_istore_n (loc' := [(0, .ref (E.2.2.2.1 + v0)), (1, .int v1), (2, .int v2), (3, .int 0)]) dX3_gather_11 rfl (Nat.le_of_ble_eq_true rfl) [1, 2, 3, 0] rfl ?_
  refine w_X3_gather_L12 E hE d hd _ _ _ _ _ _ (fun M7 => ?_) _ _ _
  refine zs_iconst (v := 0) dX3_gather_48 ciconst_0 ?_
  refine zs_istore_n (loc' := [(0, .ref (E.2.2.2.1 + v0)), (3, .int 0)]) dX3_gather_49 rfl (Nat.le_of_ble_eq_true rfl) [1, 0] rfl ?_
  exact w_X3_gather_L50 E hE d hd _ _ _ _ _ _
theorem dX3_has_0 : decode cX3_has 0 = .ok (.iload_n 1, 1) := by decide +kernel
theorem dX3_has_1 : decode cX3_has 1 = .ok (.ifCond .lt 15, 3) := by decide +kernel
theorem dX3_has_4 : decode cX3_has 4 = .ok (.iload_n 1, 1) := by decide +kernel
theorem dX3_has_5 : decode cX3_has 5 = .ok (.aload_n 0, 1) := by decide +kernel
theorem dX3_has_6 : decode cX3_has 6 = .ok (.getfield 23, 3) := by decide +kernel
theorem dX3_has_9 : decode cX3_has 9 = .ok (.if_icmp .ge 7, 3) := by decide +kernel
theorem dX3_has_12 : decode cX3_has 12 = .ok (.iconst 1, 1) := by decide +kernel
theorem dX3_has_13 : decode cX3_has 13 = .ok (.goto 4, 3) := by decide +kernel
theorem dX3_has_16 : decode cX3_has 16 = .ok (.iconst 0, 1) := by decide +kernel
theorem dX3_has_17 : decode cX3_has 17 = .ok (.ireturn, 1) := by decide +kernel
def fp_X3_has (v0 : Nat) (v1 : Int32) (M : zM) : Option (Int32) :=
  zthis 2 M v0 (
    if v1 < 0 then (
      some 0)
    else (
      (zgI 2 M v0 3).bind fun (y1 : Int32) =>
      if v1 ≥ y1 then (
        some 0)
      else (
        some 1)))
set_option maxHeartbeats 4000000 in
set_option maxRecDepth 100000 in
theorem th_X3_has {v0 : Nat} {v1 : Int32} {M : zM} {x0 : Int32} (h : fp_X3_has v0 v1 M = some x0) : v0 < zS M ∧ kd v0 = 2 := by
  unfold fp_X3_has at h
  exact zthis_of h
set_option maxHeartbeats 4000000 in
set_option maxRecDepth 100000 in
theorem ct_X3_has (E : zEnv) (hE : zEok E) (d : Nat) (hd : 1 ≤ d) (v0 : Nat) (v1 : Int32) (M : zM) (x0 : Int32) (hx : fp_X3_has v0 v1 M = some x0) : zCt E mu_X3_has d [.ref (E.2.2.2.1 + v0), .int v1] M (some (.int x0), M) := by
  refine zCt_of (μ := mu_X3_has) (t := fp_X3_has v0 v1 M) rfl rfl (Nat.le_of_ble_eq_true rfl) hx ?_
  change zSy E mu_X3_has d M (some (.int x0), M) x0 (fp_X3_has v0 v1 M) 0 [(0, .ref (E.2.2.2.1 + v0)), (1, .int v1)] [] M
  unfold fp_X3_has
  refine zs_this (fun hth => ?_)
  refine zs_iload_n dX3_has_0 rfl 1 rfl ?_
  refine zs_if_lt dX3_has_1 rfl ?_ ?_
  · refine zs_iconst (v := 0) dX3_has_16 ciconst_0 ?_
    exact zs_iretP dX3_has_17 rfl
  refine zs_iload_n dX3_has_4 rfl 1 rfl ?_
  refine zs_aload_n dX3_has_5 rfl 0 rfl ?_
  refine zs_getI dX3_has_6 fl_X3_23 rfl (fun y1 => ?_)
  refine zs_icmp_ge dX3_has_9 rfl ?_ ?_
  · refine zs_iconst (v := 0) dX3_has_16 ciconst_0 ?_
    exact zs_iretP dX3_has_17 rfl
  refine zs_iconst (v := 1) dX3_has_12 ciconst_1 ?_
  refine zs_goto dX3_has_13 rfl ?_
  exact zs_iretP dX3_has_17 rfl
theorem dX3_sizeOf_0 : decode cX3_sizeOf 0 = .ok (.aload_n 0, 1) := by decide +kernel
theorem dX3_sizeOf_1 : decode cX3_sizeOf 1 = .ok (.iload_n 1, 1) := by decide +kernel
theorem dX3_sizeOf_2 : decode cX3_sizeOf 2 = .ok (.invokevirtual 78, 3) := by decide +kernel
theorem dX3_sizeOf_5 : decode cX3_sizeOf 5 = .ok (.ifCond .eq 12, 3) := by decide +kernel
theorem dX3_sizeOf_8 : decode cX3_sizeOf 8 = .ok (.aload_n 0, 1) := by decide +kernel
theorem dX3_sizeOf_9 : decode cX3_sizeOf 9 = .ok (.getfield 16, 3) := by decide +kernel
theorem dX3_sizeOf_12 : decode cX3_sizeOf 12 = .ok (.iload_n 1, 1) := by decide +kernel
theorem dX3_sizeOf_13 : decode cX3_sizeOf 13 = .ok (.iaload, 1) := by decide +kernel
theorem dX3_sizeOf_14 : decode cX3_sizeOf 14 = .ok (.goto 4, 3) := by decide +kernel
theorem dX3_sizeOf_17 : decode cX3_sizeOf 17 = .ok (.iconst 0, 1) := by decide +kernel
theorem dX3_sizeOf_18 : decode cX3_sizeOf 18 = .ok (.ireturn, 1) := by decide +kernel
def fp_X3_sizeOf (v0 : Nat) (v1 : Int32) (M : zM) : Option (Int32) :=
  zthis 2 M v0 (
    (fp_X3_has v0 v1 M).bind fun (y1 : Int32) =>
    if y1 = 0 then (
      some 0)
    else (
      (zgR 2 M v0 1).bind fun (y2 : Nat) =>
      (zlI 100 M y2 v1).bind fun (y3 : Int32) =>
      some y3))
set_option maxHeartbeats 4000000 in
set_option maxRecDepth 100000 in
theorem th_X3_sizeOf {v0 : Nat} {v1 : Int32} {M : zM} {x0 : Int32} (h : fp_X3_sizeOf v0 v1 M = some x0) : v0 < zS M ∧ kd v0 = 2 := by
  unfold fp_X3_sizeOf at h
  exact zthis_of h
set_option maxHeartbeats 4000000 in
set_option maxRecDepth 100000 in
theorem ct_X3_sizeOf (E : zEnv) (hE : zEok E) (d : Nat) (hd : 2 ≤ d) (v0 : Nat) (v1 : Int32) (M : zM) (x0 : Int32) (hx : fp_X3_sizeOf v0 v1 M = some x0) : zCt E mu_X3_sizeOf d [.ref (E.2.2.2.1 + v0), .int v1] M (some (.int x0), M) := by
  refine zCt_of (μ := mu_X3_sizeOf) (t := fp_X3_sizeOf v0 v1 M) rfl rfl (Nat.le_of_ble_eq_true rfl) hx ?_
  change zSy E mu_X3_sizeOf d M (some (.int x0), M) x0 (fp_X3_sizeOf v0 v1 M) 0 [(0, .ref (E.2.2.2.1 + v0)), (1, .int v1)] [] M
  unfold fp_X3_sizeOf
  refine zs_this (fun hth => ?_)
  refine zs_aload_n dX3_sizeOf_0 rfl 0 rfl ?_
  refine zs_iload_n dX3_sizeOf_1 rfl 1 rfl ?_
  refine zs_invVPI (rest := []) [.int v1] dX3_sizeOf_2 lk_X3_78 rfl (fun _ h => th_X3_has h) (zd1 rfl hd) rfl (Nat.le_of_ble_eq_true rfl) (ct_X3_has E hE _ (zdl rfl hd) _ _ _) (fun y1 => ?_)
  refine zs_if_eq dX3_sizeOf_5 rfl ?_ ?_
  · refine zs_iconst (v := 0) dX3_sizeOf_17 ciconst_0 ?_
    exact zs_iretP dX3_sizeOf_18 rfl
  refine zs_aload_n dX3_sizeOf_8 rfl 0 rfl ?_
  refine zs_getR dX3_sizeOf_9 fl_X3_16 rfl (fun y2 => ?_)
  refine zs_iload_n dX3_sizeOf_12 rfl 1 rfl ?_
  refine zs_ldI dX3_sizeOf_13 (fun y3 => ?_)
  refine zs_goto dX3_sizeOf_14 rfl ?_
  exact zs_iretP dX3_sizeOf_18 rfl
theorem dX3_kindOf_0 : decode cX3_kindOf 0 = .ok (.aload_n 0, 1) := by decide +kernel
theorem dX3_kindOf_1 : decode cX3_kindOf 1 = .ok (.iload_n 1, 1) := by decide +kernel
theorem dX3_kindOf_2 : decode cX3_kindOf 2 = .ok (.invokevirtual 82, 3) := by decide +kernel
theorem dX3_kindOf_5 : decode cX3_kindOf 5 = .ok (.istore_n 2, 1) := by decide +kernel
theorem dX3_kindOf_6 : decode cX3_kindOf 6 = .ok (.iload_n 2, 1) := by decide +kernel
theorem dX3_kindOf_7 : decode cX3_kindOf 7 = .ok (.iconst 3, 1) := by decide +kernel
theorem dX3_kindOf_8 : decode cX3_kindOf 8 = .ok (.if_icmp .ge 7, 3) := by decide +kernel
theorem dX3_kindOf_11 : decode cX3_kindOf 11 = .ok (.iload_n 2, 1) := by decide +kernel
theorem dX3_kindOf_12 : decode cX3_kindOf 12 = .ok (.iconst 1, 1) := by decide +kernel
theorem dX3_kindOf_13 : decode cX3_kindOf 13 = .ok (.isub, 1) := by decide +kernel
theorem dX3_kindOf_14 : decode cX3_kindOf 14 = .ok (.ireturn, 1) := by decide +kernel
theorem dX3_kindOf_15 : decode cX3_kindOf 15 = .ok (.iload_n 2, 1) := by decide +kernel
theorem dX3_kindOf_16 : decode cX3_kindOf 16 = .ok (.iconst 3, 1) := by decide +kernel
theorem dX3_kindOf_17 : decode cX3_kindOf 17 = .ok (.if_icmp .ne 15, 3) := by decide +kernel
theorem dX3_kindOf_20 : decode cX3_kindOf 20 = .ok (.aload_n 0, 1) := by decide +kernel
theorem dX3_kindOf_21 : decode cX3_kindOf 21 = .ok (.getfield 20, 3) := by decide +kernel
theorem dX3_kindOf_24 : decode cX3_kindOf 24 = .ok (.iload_n 1, 1) := by decide +kernel
theorem dX3_kindOf_25 : decode cX3_kindOf 25 = .ok (.iaload, 1) := by decide +kernel
theorem dX3_kindOf_26 : decode cX3_kindOf 26 = .ok (.invokestatic 67, 3) := by decide +kernel
theorem dX3_kindOf_29 : decode cX3_kindOf 29 = .ok (.goto 4, 3) := by decide +kernel
theorem dX3_kindOf_32 : decode cX3_kindOf 32 = .ok (.iconst 4, 1) := by decide +kernel
theorem dX3_kindOf_33 : decode cX3_kindOf 33 = .ok (.ireturn, 1) := by decide +kernel
def fp_X3_kindOf (v0 : Nat) (v1 : Int32) (M : zM) : Option (Int32) :=
  zthis 2 M v0 (
    (fp_X3_sizeOf v0 v1 M).bind fun (y1 : Int32) =>
    if y1 ≥ 3 then (
      if y1 ≠ 3 then (
        some 4)
      else (
        (zgR 2 M v0 2).bind fun (y2 : Nat) =>
        (zlI 100 M y2 v1).bind fun (y3 : Int32) =>
        (fp_J6_bitCount_0f7a4 y3).bind fun (y4 : Int32) =>
        some y4))
    else (
      some (y1 - 1)))
set_option maxHeartbeats 4000000 in
set_option maxRecDepth 100000 in
theorem th_X3_kindOf {v0 : Nat} {v1 : Int32} {M : zM} {x0 : Int32} (h : fp_X3_kindOf v0 v1 M = some x0) : v0 < zS M ∧ kd v0 = 2 := by
  unfold fp_X3_kindOf at h
  exact zthis_of h
set_option maxHeartbeats 4000000 in
set_option maxRecDepth 100000 in
theorem ct_X3_kindOf (E : zEnv) (hE : zEok E) (d : Nat) (hd : 3 ≤ d) (v0 : Nat) (v1 : Int32) (M : zM) (x0 : Int32) (hx : fp_X3_kindOf v0 v1 M = some x0) : zCt E mu_X3_kindOf d [.ref (E.2.2.2.1 + v0), .int v1] M (some (.int x0), M) := by
  refine zCt_of (μ := mu_X3_kindOf) (t := fp_X3_kindOf v0 v1 M) rfl rfl (Nat.le_of_ble_eq_true rfl) hx ?_
  change zSy E mu_X3_kindOf d M (some (.int x0), M) x0 (fp_X3_kindOf v0 v1 M) 0 [(0, .ref (E.2.2.2.1 + v0)), (1, .int v1)] [] M
  unfold fp_X3_kindOf
  refine zs_this (fun hth => ?_)
  refine zs_aload_n dX3_kindOf_0 rfl 0 rfl ?_
  refine zs_iload_n dX3_kindOf_1 rfl 1 rfl ?_
  refine zs_invVPI (rest := []) [.int v1] dX3_kindOf_2 lk_X3_82 rfl (fun _ h => th_X3_sizeOf h) (zd1 rfl hd) rfl (Nat.le_of_ble_eq_true rfl) (ct_X3_sizeOf E hE _ (zdl rfl hd) _ _ _) (fun y1 => ?_)
  refine zs_istore_n (loc' := [(0, .ref (E.2.2.2.1 + v0)), (1, .int v1), (2, .int y1)]) dX3_kindOf_5 rfl (Nat.le_of_ble_eq_true rfl) [1, 2, 0] rfl ?_
  refine zs_iload_n dX3_kindOf_6 rfl 2 rfl ?_
  refine zs_iconst (v := 3) dX3_kindOf_7 ciconst_3 ?_
  refine zs_icmp_ge dX3_kindOf_8 rfl ?_ ?_
  · refine zs_iload_n dX3_kindOf_15 rfl 2 rfl ?_
    refine zs_iconst (v := 3) dX3_kindOf_16 ciconst_3 ?_
    refine zs_icmp_ne dX3_kindOf_17 rfl ?_ ?_
    · refine zs_iconst (v := 4) dX3_kindOf_32 ciconst_4 ?_
      exact zs_iretP dX3_kindOf_33 rfl
    refine zs_aload_n dX3_kindOf_20 rfl 0 rfl ?_
    refine zs_getR dX3_kindOf_21 fl_X3_20 rfl (fun y2 => ?_)
    refine zs_iload_n dX3_kindOf_24 rfl 1 rfl ?_
    refine zs_ldI dX3_kindOf_25 (fun y3 => ?_)
    refine zs_invSPI (rest := []) [.int y3] dX3_kindOf_26 lk_X3_67 rfl (zd1 rfl hd) rfl (Nat.le_of_ble_eq_true rfl) (ct_J6_bitCount_0f7a4 E hE _ (zdl rfl hd) _ _) (fun y4 => ?_)
    refine zs_goto dX3_kindOf_29 rfl ?_
    exact zs_iretP dX3_kindOf_33 rfl
  refine zs_iload_n dX3_kindOf_11 rfl 2 rfl ?_
  refine zs_iconst (v := 1) dX3_kindOf_12 ciconst_1 ?_
  refine zs_isub dX3_kindOf_13 ?_
  exact zs_iretP dX3_kindOf_14 rfl
theorem dX3_knotAt_0 : decode cX3_knotAt 0 = .ok (.iload_n 2, 1) := by decide +kernel
theorem dX3_knotAt_1 : decode cX3_knotAt 1 = .ok (.ifCond .lt 23, 3) := by decide +kernel
theorem dX3_knotAt_4 : decode cX3_knotAt 4 = .ok (.iload_n 2, 1) := by decide +kernel
theorem dX3_knotAt_5 : decode cX3_knotAt 5 = .ok (.aload_n 0, 1) := by decide +kernel
theorem dX3_knotAt_6 : decode cX3_knotAt 6 = .ok (.iload_n 1, 1) := by decide +kernel
theorem dX3_knotAt_7 : decode cX3_knotAt 7 = .ok (.invokevirtual 82, 3) := by decide +kernel
theorem dX3_knotAt_10 : decode cX3_knotAt 10 = .ok (.if_icmp .ge 14, 3) := by decide +kernel
theorem dX3_knotAt_13 : decode cX3_knotAt 13 = .ok (.aload_n 0, 1) := by decide +kernel
theorem dX3_knotAt_14 : decode cX3_knotAt 14 = .ok (.getfield 13, 3) := by decide +kernel
theorem dX3_knotAt_17 : decode cX3_knotAt 17 = .ok (.iload_n 1, 1) := by decide +kernel
theorem dX3_knotAt_18 : decode cX3_knotAt 18 = .ok (.aaload, 1) := by decide +kernel
theorem dX3_knotAt_19 : decode cX3_knotAt 19 = .ok (.iload_n 2, 1) := by decide +kernel
theorem dX3_knotAt_20 : decode cX3_knotAt 20 = .ok (.iaload, 1) := by decide +kernel
theorem dX3_knotAt_21 : decode cX3_knotAt 21 = .ok (.goto 4, 3) := by decide +kernel
theorem dX3_knotAt_24 : decode cX3_knotAt 24 = .ok (.iconst (-1), 1) := by decide +kernel
theorem dX3_knotAt_25 : decode cX3_knotAt 25 = .ok (.ireturn, 1) := by decide +kernel
def fp_X3_knotAt (v0 : Nat) (v1 : Int32) (v2 : Int32) (M : zM) : Option (Int32) :=
  zthis 2 M v0 (
    if v2 < 0 then (
      some (-1))
    else (
      (fp_X3_sizeOf v0 v1 M).bind fun (y1 : Int32) =>
      if v2 ≥ y1 then (
        some (-1))
      else (
        (zgR 2 M v0 0).bind fun (y2 : Nat) =>
        (zlR M y2 v1).bind fun (y3 : Nat) =>
        (zlI 100 M y3 v2).bind fun (y4 : Int32) =>
        some y4)))
set_option maxHeartbeats 4000000 in
set_option maxRecDepth 100000 in
theorem th_X3_knotAt {v0 : Nat} {v1 : Int32} {v2 : Int32} {M : zM} {x0 : Int32} (h : fp_X3_knotAt v0 v1 v2 M = some x0) : v0 < zS M ∧ kd v0 = 2 := by
  unfold fp_X3_knotAt at h
  exact zthis_of h
set_option maxHeartbeats 4000000 in
set_option maxRecDepth 100000 in
theorem ct_X3_knotAt (E : zEnv) (hE : zEok E) (d : Nat) (hd : 3 ≤ d) (v0 : Nat) (v1 : Int32) (v2 : Int32) (M : zM) (x0 : Int32) (hx : fp_X3_knotAt v0 v1 v2 M = some x0) : zCt E mu_X3_knotAt d [.ref (E.2.2.2.1 + v0), .int v1, .int v2] M (some (.int x0), M) := by
  refine zCt_of (μ := mu_X3_knotAt) (t := fp_X3_knotAt v0 v1 v2 M) rfl rfl (Nat.le_of_ble_eq_true rfl) hx ?_
  change zSy E mu_X3_knotAt d M (some (.int x0), M) x0 (fp_X3_knotAt v0 v1 v2 M) 0 [(0, .ref (E.2.2.2.1 + v0)), (1, .int v1), (2, .int v2)] [] M
  unfold fp_X3_knotAt
  refine zs_this (fun hth => ?_)
  refine zs_iload_n dX3_knotAt_0 rfl 2 rfl ?_
  refine zs_if_lt dX3_knotAt_1 rfl ?_ ?_
  · refine zs_iconst (v := (-1)) dX3_knotAt_24 ciconst_m1 ?_
    exact zs_iretP dX3_knotAt_25 rfl
  refine zs_iload_n dX3_knotAt_4 rfl 2 rfl ?_
  refine zs_aload_n dX3_knotAt_5 rfl 0 rfl ?_
  refine zs_iload_n dX3_knotAt_6 rfl 1 rfl ?_
  refine zs_invVPI (rest := [.int v2]) [.int v1] dX3_knotAt_7 lk_X3_82 rfl (fun _ h => th_X3_sizeOf h) (zd1 rfl hd) rfl (Nat.le_of_ble_eq_true rfl) (ct_X3_sizeOf E hE _ (zdl rfl hd) _ _ _) (fun y1 => ?_)
  refine zs_icmp_ge dX3_knotAt_10 rfl ?_ ?_
  · refine zs_iconst (v := (-1)) dX3_knotAt_24 ciconst_m1 ?_
    exact zs_iretP dX3_knotAt_25 rfl
  refine zs_aload_n dX3_knotAt_13 rfl 0 rfl ?_
  refine zs_getR dX3_knotAt_14 fl_X3_13 rfl (fun y2 => ?_)
  refine zs_iload_n dX3_knotAt_17 rfl 1 rfl ?_
  refine zs_ldR dX3_knotAt_18 (fun y3 => ?_)
  refine zs_iload_n dX3_knotAt_19 rfl 2 rfl ?_
  refine zs_ldI dX3_knotAt_20 (fun y4 => ?_)
  refine zs_goto dX3_knotAt_21 rfl ?_
  exact zs_iretP dX3_knotAt_25 rfl
theorem dX3_marksIn_0 : decode cX3_marksIn 0 = .ok (.iconst 0, 1) := by decide +kernel
theorem dX3_marksIn_1 : decode cX3_marksIn 1 = .ok (.istore_n 2, 1) := by decide +kernel
theorem dX3_marksIn_2 : decode cX3_marksIn 2 = .ok (.iconst 0, 1) := by decide +kernel
theorem dX3_marksIn_3 : decode cX3_marksIn 3 = .ok (.istore_n 3, 1) := by decide +kernel
theorem dX3_marksIn_4 : decode cX3_marksIn 4 = .ok (.iload_n 3, 1) := by decide +kernel
theorem dX3_marksIn_5 : decode cX3_marksIn 5 = .ok (.aload_n 0, 1) := by decide +kernel
theorem dX3_marksIn_6 : decode cX3_marksIn 6 = .ok (.iload_n 1, 1) := by decide +kernel
theorem dX3_marksIn_7 : decode cX3_marksIn 7 = .ok (.invokevirtual 82, 3) := by decide +kernel
theorem dX3_marksIn_10 : decode cX3_marksIn 10 = .ok (.if_icmp .ge 23, 3) := by decide +kernel
theorem dX3_marksIn_13 : decode cX3_marksIn 13 = .ok (.aload_n 0, 1) := by decide +kernel
theorem dX3_marksIn_14 : decode cX3_marksIn 14 = .ok (.iload_n 1, 1) := by decide +kernel
theorem dX3_marksIn_15 : decode cX3_marksIn 15 = .ok (.iload_n 3, 1) := by decide +kernel
theorem dX3_marksIn_16 : decode cX3_marksIn 16 = .ok (.invokevirtual 85, 3) := by decide +kernel
theorem dX3_marksIn_19 : decode cX3_marksIn 19 = .ok (.bipush 10, 2) := by decide +kernel
theorem dX3_marksIn_21 : decode cX3_marksIn 21 = .ok (.if_icmp .lt 6, 3) := by decide +kernel
theorem dX3_marksIn_24 : decode cX3_marksIn 24 = .ok (.iinc 2 1, 3) := by decide +kernel
theorem dX3_marksIn_27 : decode cX3_marksIn 27 = .ok (.iinc 3 1, 3) := by decide +kernel
theorem dX3_marksIn_30 : decode cX3_marksIn 30 = .ok (.goto (-26), 3) := by decide +kernel
theorem dX3_marksIn_33 : decode cX3_marksIn 33 = .ok (.iload_n 2, 1) := by decide +kernel
theorem dX3_marksIn_34 : decode cX3_marksIn 34 = .ok (.ireturn, 1) := by decide +kernel
def fp_X3_marksIn_L4 (v0 : Nat) (v1 : Int32) (M : zM) : Nat → Int32 → Int32 → Option (Int32)
  | 0, _, _ => none
  | n + 1, v2, v3 =>
    (fp_X3_sizeOf v0 v1 M).bind fun (y1 : Int32) =>
    if v3 ≥ y1 then (
      some v2)
    else (
      (fp_X3_knotAt v0 v1 v3 M).bind fun (y2 : Int32) =>
      zjn (fun (v2_3 : Int32) =>
          fp_X3_marksIn_L4 v0 v1 M n v2_3 (v3 + 1))
        (fun j27 =>
          if y2 < 10 then (
            j27 v2)
          else (
            j27 (v2 + 1))))
def fp_X3_marksIn (v0 : Nat) (v1 : Int32) (M : zM) : Option (Int32) :=
  zthis 2 M v0 (
    fp_X3_marksIn_L4 v0 v1 M FU 0 0)
set_option maxHeartbeats 4000000 in
set_option maxRecDepth 100000 in
theorem th_X3_marksIn {v0 : Nat} {v1 : Int32} {M : zM} {x0 : Int32} (h : fp_X3_marksIn v0 v1 M = some x0) : v0 < zS M ∧ kd v0 = 2 := by
  unfold fp_X3_marksIn at h
  exact zthis_of h
set_option maxHeartbeats 4000000 in
set_option maxRecDepth 100000 in
theorem w_X3_marksIn_L4 (E : zEnv) (hE : zEok E) (d : Nat) (hd : 4 ≤ d) (x0 : Int32) (v0 : Nat) (v1 : Int32) (M : zM)  : ∀ (n : Nat) (v2 : Int32) (v3 : Int32), zSy E mu_X3_marksIn d M (some (.int x0), M) x0 (fp_X3_marksIn_L4 v0 v1 M n v2 v3) 4 [(0, .ref (E.2.2.2.1 + v0)), (1, .int v1), (2, .int v2), (3, .int v3)] [] M := by
  intro n
  induction n with
  | zero =>
    intro v2 v3
    rw [fp_X3_marksIn_L4]
    exact zs_none
  | succ n ih =>
    intro v2 v3
    rw [fp_X3_marksIn_L4]
    refine zs_iload_n dX3_marksIn_4 rfl 3 rfl ?_
    refine zs_aload_n dX3_marksIn_5 rfl 0 rfl ?_
    refine zs_iload_n dX3_marksIn_6 rfl 1 rfl ?_
    refine zs_invVPI (rest := [.int v3]) [.int v1] dX3_marksIn_7 lk_X3_82 rfl (fun _ h => th_X3_sizeOf h) (zd1 rfl hd) rfl (Nat.le_of_ble_eq_true rfl) (ct_X3_sizeOf E hE _ (zdl rfl hd) _ _ _) (fun y1 => ?_)
    refine zs_icmp_ge dX3_marksIn_10 rfl ?_ ?_
    · refine zs_iload_n dX3_marksIn_33 rfl 2 rfl ?_
      exact zs_iretP dX3_marksIn_34 rfl
    refine zs_aload_n dX3_marksIn_13 rfl 0 rfl ?_
    refine zs_iload_n dX3_marksIn_14 rfl 1 rfl ?_
    refine zs_iload_n dX3_marksIn_15 rfl 3 rfl ?_
    refine zs_invVPI (rest := []) [.int v1, .int v3] dX3_marksIn_16 lk_X3_85 rfl (fun _ h => th_X3_knotAt h) (zd1 rfl hd) rfl (Nat.le_of_ble_eq_true rfl) (ct_X3_knotAt E hE _ (zdl rfl hd) _ _ _ _) (fun y2 => ?_)
    refine zs_bipush (v := 10) dX3_marksIn_19 cbipush_10 ?_
    refine zs_jn (fun j27 => ∀ (v2_3 : Int32), zSy E mu_X3_marksIn d M (some (.int x0), M) x0 (j27 v2_3) 27 [(0, .ref (E.2.2.2.1 + v0)), (1, .int v1), (2, .int v2_3), (3, .int v3)] [] M) (fun v2_3 => ?_) (fun j27 hj27 => ?_)
    · refine zs_iinc (v := (v3 + 1)) (loc' := [(0, .ref (E.2.2.2.1 + v0)), (1, .int v1), (2, .int v2_3), (3, .int (v3 + 1))]) dX3_marksIn_27 3 rfl (by rfl) (Nat.le_of_ble_eq_true rfl) [1, 2, 3, 0] rfl ?_
      refine zs_goto dX3_marksIn_30 rfl ?_
      exact ih v2_3 (v3 + 1)
    refine zs_icmp_lt dX3_marksIn_21 rfl ?_ ?_
    · exact hj27 v2
    refine zs_iinc (v := (v2 + 1)) (loc' := [(0, .ref (E.2.2.2.1 + v0)), (1, .int v1), (2, .int (v2 + 1)), (3, .int v3)]) dX3_marksIn_24 2 rfl (by rfl) (Nat.le_of_ble_eq_true rfl) [1, 2, 0, 3] rfl ?_
    exact hj27 (v2 + 1)
set_option maxHeartbeats 4000000 in
set_option maxRecDepth 100000 in
theorem ct_X3_marksIn (E : zEnv) (hE : zEok E) (d : Nat) (hd : 4 ≤ d) (v0 : Nat) (v1 : Int32) (M : zM) (x0 : Int32) (hx : fp_X3_marksIn v0 v1 M = some x0) : zCt E mu_X3_marksIn d [.ref (E.2.2.2.1 + v0), .int v1] M (some (.int x0), M) := by
  refine zCt_of (μ := mu_X3_marksIn) (t := fp_X3_marksIn v0 v1 M) rfl rfl (Nat.le_of_ble_eq_true rfl) hx ?_
  change zSy E mu_X3_marksIn d M (some (.int x0), M) x0 (fp_X3_marksIn v0 v1 M) 0 [(0, .ref (E.2.2.2.1 + v0)), (1, .int v1)] [] M
  unfold fp_X3_marksIn
  refine zs_this (fun hth => ?_)
  refine zs_iconst (v := 0) dX3_marksIn_0 ciconst_0 ?_
  refine zs_istore_n (loc' := [(0, .ref (E.2.2.2.1 + v0)), (1, .int v1), (2, .int 0)]) dX3_marksIn_1 rfl (Nat.le_of_ble_eq_true rfl) [1, 2, 0] rfl ?_
  refine zs_iconst (v := 0) dX3_marksIn_2 ciconst_0 ?_
  refine zs_istore_n (loc' := [(0, .ref (E.2.2.2.1 + v0)), (1, .int v1), (2, .int 0), (3, .int 0)]) dX3_marksIn_3 rfl (Nat.le_of_ble_eq_true rfl) [1, 2, 3, 0] rfl ?_
  exact w_X3_marksIn_L4 E hE d hd _ _ _ _ _ _ _
theorem dX3_tiesOf_0 : decode cX3_tiesOf 0 = .ok (.iload_n 2, 1) := by decide +kernel
theorem dX3_tiesOf_1 : decode cX3_tiesOf 1 = .ok (.ifCond .lt 31, 3) := by decide +kernel
theorem dX3_tiesOf_4 : decode cX3_tiesOf 4 = .ok (.iload_n 2, 1) := by decide +kernel
theorem dX3_tiesOf_5 : decode cX3_tiesOf 5 = .ok (.aload_n 0, 1) := by decide +kernel
theorem dX3_tiesOf_6 : decode cX3_tiesOf 6 = .ok (.iload_n 1, 1) := by decide +kernel
theorem dX3_tiesOf_7 : decode cX3_tiesOf 7 = .ok (.invokevirtual 82, 3) := by decide +kernel
theorem dX3_tiesOf_10 : decode cX3_tiesOf 10 = .ok (.if_icmp .ge 22, 3) := by decide +kernel
theorem dX3_tiesOf_13 : decode cX3_tiesOf 13 = .ok (.aload_n 0, 1) := by decide +kernel
theorem dX3_tiesOf_14 : decode cX3_tiesOf 14 = .ok (.getfield 16, 3) := by decide +kernel
theorem dX3_tiesOf_17 : decode cX3_tiesOf 17 = .ok (.iload_n 1, 1) := by decide +kernel
theorem dX3_tiesOf_18 : decode cX3_tiesOf 18 = .ok (.iaload, 1) := by decide +kernel
theorem dX3_tiesOf_19 : decode cX3_tiesOf 19 = .ok (.aload_n 0, 1) := by decide +kernel
theorem dX3_tiesOf_20 : decode cX3_tiesOf 20 = .ok (.getfield 20, 3) := by decide +kernel
theorem dX3_tiesOf_23 : decode cX3_tiesOf 23 = .ok (.iload_n 1, 1) := by decide +kernel
theorem dX3_tiesOf_24 : decode cX3_tiesOf 24 = .ok (.iaload, 1) := by decide +kernel
theorem dX3_tiesOf_25 : decode cX3_tiesOf 25 = .ok (.iload_n 2, 1) := by decide +kernel
theorem dX3_tiesOf_26 : decode cX3_tiesOf 26 = .ok (.invokestatic 72, 3) := by decide +kernel
theorem dX3_tiesOf_29 : decode cX3_tiesOf 29 = .ok (.goto 4, 3) := by decide +kernel
theorem dX3_tiesOf_32 : decode cX3_tiesOf 32 = .ok (.iconst 0, 1) := by decide +kernel
theorem dX3_tiesOf_33 : decode cX3_tiesOf 33 = .ok (.ireturn, 1) := by decide +kernel
def fp_X3_tiesOf (v0 : Nat) (v1 : Int32) (v2 : Int32) (M : zM) : Option (Int32) :=
  zthis 2 M v0 (
    if v2 < 0 then (
      some 0)
    else (
      (fp_X3_sizeOf v0 v1 M).bind fun (y1 : Int32) =>
      if v2 ≥ y1 then (
        some 0)
      else (
        (zgR 2 M v0 1).bind fun (y2 : Nat) =>
        (zlI 100 M y2 v1).bind fun (y3 : Int32) =>
        (zgR 2 M v0 2).bind fun (y4 : Nat) =>
        (zlI 100 M y4 v1).bind fun (y5 : Int32) =>
        (fp_X2_nearTo y3 y5 v2).bind fun (y6 : Int32) =>
        some y6)))
set_option maxHeartbeats 4000000 in
set_option maxRecDepth 100000 in
theorem th_X3_tiesOf {v0 : Nat} {v1 : Int32} {v2 : Int32} {M : zM} {x0 : Int32} (h : fp_X3_tiesOf v0 v1 v2 M = some x0) : v0 < zS M ∧ kd v0 = 2 := by
  unfold fp_X3_tiesOf at h
  exact zthis_of h
set_option maxHeartbeats 4000000 in
set_option maxRecDepth 100000 in
theorem ct_X3_tiesOf (E : zEnv) (hE : zEok E) (d : Nat) (hd : 3 ≤ d) (v0 : Nat) (v1 : Int32) (v2 : Int32) (M : zM) (x0 : Int32) (hx : fp_X3_tiesOf v0 v1 v2 M = some x0) : zCt E mu_X3_tiesOf d [.ref (E.2.2.2.1 + v0), .int v1, .int v2] M (some (.int x0), M) := by
  refine zCt_of (μ := mu_X3_tiesOf) (t := fp_X3_tiesOf v0 v1 v2 M) rfl rfl (Nat.le_of_ble_eq_true rfl) hx ?_
  change zSy E mu_X3_tiesOf d M (some (.int x0), M) x0 (fp_X3_tiesOf v0 v1 v2 M) 0 [(0, .ref (E.2.2.2.1 + v0)), (1, .int v1), (2, .int v2)] [] M
  unfold fp_X3_tiesOf
  refine zs_this (fun hth => ?_)
  refine zs_iload_n dX3_tiesOf_0 rfl 2 rfl ?_
  refine zs_if_lt dX3_tiesOf_1 rfl ?_ ?_
  · refine zs_iconst (v := 0) dX3_tiesOf_32 ciconst_0 ?_
    exact zs_iretP dX3_tiesOf_33 rfl
  refine zs_iload_n dX3_tiesOf_4 rfl 2 rfl ?_
  refine zs_aload_n dX3_tiesOf_5 rfl 0 rfl ?_
  refine zs_iload_n dX3_tiesOf_6 rfl 1 rfl ?_
  refine zs_invVPI (rest := [.int v2]) [.int v1] dX3_tiesOf_7 lk_X3_82 rfl (fun _ h => th_X3_sizeOf h) (zd1 rfl hd) rfl (Nat.le_of_ble_eq_true rfl) (ct_X3_sizeOf E hE _ (zdl rfl hd) _ _ _) (fun y1 => ?_)
  refine zs_icmp_ge dX3_tiesOf_10 rfl ?_ ?_
  · refine zs_iconst (v := 0) dX3_tiesOf_32 ciconst_0 ?_
    exact zs_iretP dX3_tiesOf_33 rfl
  refine zs_aload_n dX3_tiesOf_13 rfl 0 rfl ?_
  refine zs_getR dX3_tiesOf_14 fl_X3_16 rfl (fun y2 => ?_)
  refine zs_iload_n dX3_tiesOf_17 rfl 1 rfl ?_
  refine zs_ldI dX3_tiesOf_18 (fun y3 => ?_)
  refine zs_aload_n dX3_tiesOf_19 rfl 0 rfl ?_
  refine zs_getR dX3_tiesOf_20 fl_X3_20 rfl (fun y4 => ?_)
  refine zs_iload_n dX3_tiesOf_23 rfl 1 rfl ?_
  refine zs_ldI dX3_tiesOf_24 (fun y5 => ?_)
  refine zs_iload_n dX3_tiesOf_25 rfl 2 rfl ?_
  refine zs_invSPI (rest := []) [.int y3, .int y5, .int v2] dX3_tiesOf_26 lk_X3_72 rfl (zd1 rfl hd) rfl (Nat.le_of_ble_eq_true rfl) (ct_X2_nearTo E hE _ (zdl rfl hd) _ _ _ _) (fun y6 => ?_)
  refine zs_goto dX3_tiesOf_29 rfl ?_
  exact zs_iretP dX3_tiesOf_33 rfl
theorem dX3_isPlain_0 : decode cX3_isPlain 0 = .ok (.iconst 0, 1) := by decide +kernel
theorem dX3_isPlain_1 : decode cX3_isPlain 1 = .ok (.istore_n 1, 1) := by decide +kernel
theorem dX3_isPlain_2 : decode cX3_isPlain 2 = .ok (.iload_n 1, 1) := by decide +kernel
theorem dX3_isPlain_3 : decode cX3_isPlain 3 = .ok (.aload_n 0, 1) := by decide +kernel
theorem dX3_isPlain_4 : decode cX3_isPlain 4 = .ok (.getfield 23, 3) := by decide +kernel
theorem dX3_isPlain_7 : decode cX3_isPlain 7 = .ok (.if_icmp .ge 20, 3) := by decide +kernel
theorem dX3_isPlain_10 : decode cX3_isPlain 10 = .ok (.aload_n 0, 1) := by decide +kernel
theorem dX3_isPlain_11 : decode cX3_isPlain 11 = .ok (.iload_n 1, 1) := by decide +kernel
theorem dX3_isPlain_12 : decode cX3_isPlain 12 = .ok (.invokevirtual 88, 3) := by decide +kernel
theorem dX3_isPlain_15 : decode cX3_isPlain 15 = .ok (.iconst 4, 1) := by decide +kernel
theorem dX3_isPlain_16 : decode cX3_isPlain 16 = .ok (.if_icmp .ne 5, 3) := by decide +kernel
theorem dX3_isPlain_19 : decode cX3_isPlain 19 = .ok (.iconst 0, 1) := by decide +kernel
theorem dX3_isPlain_20 : decode cX3_isPlain 20 = .ok (.ireturn, 1) := by decide +kernel
theorem dX3_isPlain_21 : decode cX3_isPlain 21 = .ok (.iinc 1 1, 3) := by decide +kernel
theorem dX3_isPlain_24 : decode cX3_isPlain 24 = .ok (.goto (-22), 3) := by decide +kernel
theorem dX3_isPlain_27 : decode cX3_isPlain 27 = .ok (.iconst 1, 1) := by decide +kernel
theorem dX3_isPlain_28 : decode cX3_isPlain 28 = .ok (.ireturn, 1) := by decide +kernel
def fp_X3_isPlain_L2 (v0 : Nat) (M : zM) : Nat → Int32 → Option (Int32)
  | 0, _ => none
  | n + 1, v1 =>
    (zgI 2 M v0 3).bind fun (y1 : Int32) =>
    if v1 ≥ y1 then (
      some 1)
    else (
      (fp_X3_kindOf v0 v1 M).bind fun (y2 : Int32) =>
      if y2 ≠ 4 then (
        fp_X3_isPlain_L2 v0 M n (v1 + 1))
      else (
        some 0))
def fp_X3_isPlain (v0 : Nat) (M : zM) : Option (Int32) :=
  zthis 2 M v0 (
    fp_X3_isPlain_L2 v0 M FU 0)
set_option maxHeartbeats 4000000 in
set_option maxRecDepth 100000 in
theorem th_X3_isPlain {v0 : Nat} {M : zM} {x0 : Int32} (h : fp_X3_isPlain v0 M = some x0) : v0 < zS M ∧ kd v0 = 2 := by
  unfold fp_X3_isPlain at h
  exact zthis_of h
set_option maxHeartbeats 4000000 in
set_option maxRecDepth 100000 in
theorem w_X3_isPlain_L2 (E : zEnv) (hE : zEok E) (d : Nat) (hd : 4 ≤ d) (x0 : Int32) (v0 : Nat) (M : zM)  : ∀ (n : Nat) (v1 : Int32), zSy E mu_X3_isPlain d M (some (.int x0), M) x0 (fp_X3_isPlain_L2 v0 M n v1) 2 [(0, .ref (E.2.2.2.1 + v0)), (1, .int v1)] [] M := by
  intro n
  induction n with
  | zero =>
    intro v1
    rw [fp_X3_isPlain_L2]
    exact zs_none
  | succ n ih =>
    intro v1
    rw [fp_X3_isPlain_L2]
    refine zs_iload_n dX3_isPlain_2 rfl 1 rfl ?_
    refine zs_aload_n dX3_isPlain_3 rfl 0 rfl ?_
    refine zs_getI dX3_isPlain_4 fl_X3_23 rfl (fun y1 => ?_)
    refine zs_icmp_ge dX3_isPlain_7 rfl ?_ ?_
    · refine zs_iconst (v := 1) dX3_isPlain_27 ciconst_1 ?_
      exact zs_iretP dX3_isPlain_28 rfl
    refine zs_aload_n dX3_isPlain_10 rfl 0 rfl ?_
    refine zs_iload_n dX3_isPlain_11 rfl 1 rfl ?_
    refine zs_invVPI (rest := []) [.int v1] dX3_isPlain_12 lk_X3_88 rfl (fun _ h => th_X3_kindOf h) (zd1 rfl hd) rfl (Nat.le_of_ble_eq_true rfl) (ct_X3_kindOf E hE _ (zdl rfl hd) _ _ _) (fun y2 => ?_)
    refine zs_iconst (v := 4) dX3_isPlain_15 ciconst_4 ?_
    refine zs_icmp_ne dX3_isPlain_16 rfl ?_ ?_
    · refine zs_iinc (v := (v1 + 1)) (loc' := [(0, .ref (E.2.2.2.1 + v0)), (1, .int (v1 + 1))]) dX3_isPlain_21 1 rfl (by rfl) (Nat.le_of_ble_eq_true rfl) [1, 0] rfl ?_
      refine zs_goto dX3_isPlain_24 rfl ?_
      exact ih (v1 + 1)
    refine zs_iconst (v := 0) dX3_isPlain_19 ciconst_0 ?_
    exact zs_iretP dX3_isPlain_20 rfl
set_option maxHeartbeats 4000000 in
set_option maxRecDepth 100000 in
theorem ct_X3_isPlain (E : zEnv) (hE : zEok E) (d : Nat) (hd : 4 ≤ d) (v0 : Nat) (M : zM) (x0 : Int32) (hx : fp_X3_isPlain v0 M = some x0) : zCt E mu_X3_isPlain d [.ref (E.2.2.2.1 + v0)] M (some (.int x0), M) := by
  refine zCt_of (μ := mu_X3_isPlain) (t := fp_X3_isPlain v0 M) rfl rfl (Nat.le_of_ble_eq_true rfl) hx ?_
  change zSy E mu_X3_isPlain d M (some (.int x0), M) x0 (fp_X3_isPlain v0 M) 0 [(0, .ref (E.2.2.2.1 + v0))] [] M
  unfold fp_X3_isPlain
  refine zs_this (fun hth => ?_)
  refine zs_iconst (v := 0) dX3_isPlain_0 ciconst_0 ?_
  refine zs_istore_n (loc' := [(0, .ref (E.2.2.2.1 + v0)), (1, .int 0)]) dX3_isPlain_1 rfl (Nat.le_of_ble_eq_true rfl) [1, 0] rfl ?_
  exact w_X3_isPlain_L2 E hE d hd _ _ _ _ _
theorem dX4_init_0 : decode cX4_init 0 = .ok (.aload_n 0, 1) := by decide +kernel
theorem dX4_init_1 : decode cX4_init 1 = .ok (.invokespecial 3, 3) := by decide +kernel
theorem dX4_init_4 : decode cX4_init 4 = .ok (.aload_n 0, 1) := by decide +kernel
theorem dX4_init_5 : decode cX4_init 5 = .ok (.iconst (-1), 1) := by decide +kernel
theorem dX4_init_6 : decode cX4_init 6 = .ok (.putfield 9, 3) := by decide +kernel
theorem dX4_init_9 : decode cX4_init 9 = .ok (.aload_n 0, 1) := by decide +kernel
theorem dX4_init_10 : decode cX4_init 10 = .ok (.iconst 0, 1) := by decide +kernel
theorem dX4_init_11 : decode cX4_init 11 = .ok (.newarray .int, 2) := by decide +kernel
theorem dX4_init_13 : decode cX4_init 13 = .ok (.putfield 15, 3) := by decide +kernel
theorem dX4_init_16 : decode cX4_init 16 = .ok (.aload_n 0, 1) := by decide +kernel
theorem dX4_init_17 : decode cX4_init 17 = .ok (.bipush 14, 2) := by decide +kernel
theorem dX4_init_19 : decode cX4_init 19 = .ok (.newarray .int, 2) := by decide +kernel
theorem dX4_init_21 : decode cX4_init 21 = .ok (.putfield 19, 3) := by decide +kernel
theorem dX4_init_24 : decode cX4_init 24 = .ok (.return_, 1) := by decide +kernel
def fp_X4_init (v0 : Nat) (M : zM) : Option (zM) :=
  zthis 3 M v0 (
    (zpI 3 M v0 3 (-1)).bind fun (M1 : zM) =>
    (zna 100 M1 0).bind fun p4 => zpp p4 fun (q2 : Nat) (M3 : zM) =>
    (zpR 3 M3 v0 4 q2).bind fun (M5 : zM) =>
    (zna 100 M5 14).bind fun p8 => zpp p8 fun (q6 : Nat) (M7 : zM) =>
    (zpR 3 M7 v0 9 q6).bind fun (M9 : zM) =>
    some M9)
set_option maxHeartbeats 4000000 in
set_option maxRecDepth 100000 in
theorem th_X4_init {v0 : Nat} {M : zM} {x0 : zM} (h : fp_X4_init v0 M = some x0) : v0 < zS M ∧ kd v0 = 3 := by
  unfold fp_X4_init at h
  exact zthis_of h
set_option maxHeartbeats 4000000 in
set_option maxRecDepth 100000 in
theorem ct_X4_init (E : zEnv) (hE : zEok E) (d : Nat) (hd : 2 ≤ d) (v0 : Nat) (M : zM) (x0 : zM) (hx : fp_X4_init v0 M = some x0) : zCt E mu_X4_init d [.ref (E.2.2.2.1 + v0)] M (none, x0) := by
  refine zCt_of (μ := mu_X4_init) (t := fp_X4_init v0 M) rfl rfl (Nat.le_of_ble_eq_true rfl) hx ?_
  change zSy E mu_X4_init d M (none, x0) x0 (fp_X4_init v0 M) 0 [(0, .ref (E.2.2.2.1 + v0))] [] M
  unfold fp_X4_init
  refine zs_this (fun hth => ?_)
  refine zs_aload_n dX4_init_0 rfl 0 rfl ?_
  refine zs_objInit dX4_init_1 (ti_1 50 rfl rfl) mi_oinit mc_oinit (zd0 rfl hd) (Nat.le_of_ble_eq_true rfl) ?_
  refine zs_aload_n dX4_init_4 rfl 0 rfl ?_
  refine zs_iconst (v := (-1)) dX4_init_5 ciconst_m1 ?_
  refine zs_putI dX4_init_6 fl_X4_9 ft_X4 rfl rfl rfl rfl rfl (fun M1 => ?_)
  refine zs_aload_n dX4_init_9 rfl 0 rfl ?_
  refine zs_iconst (v := 0) dX4_init_10 ciconst_0 ?_
  refine zs_newA dX4_init_11 rfl (by decide) (ti_1 44 rfl rfl) (fun q2 M3 => ?_)
  refine zs_putR dX4_init_13 fl_X4_15 ft_X4 rfl rfl rfl rfl rfl (fun M5 => ?_)
  refine zs_aload_n dX4_init_16 rfl 0 rfl ?_
  refine zs_bipush (v := 14) dX4_init_17 cbipush_14 ?_
  refine zs_newA dX4_init_19 rfl (by decide) (ti_1 44 rfl rfl) (fun q6 M7 => ?_)
  refine zs_putRF dX4_init_21 fl_X4_19 ft_X4 rfl rfl rfl rfl rfl rfl rfl (fun M9 => ?_)
  exact zs_vret dX4_init_24 trivial
theorem dX4_byteAt_0 : decode cX4_byteAt 0 = .ok (.iload_n 1, 1) := by decide +kernel
theorem dX4_byteAt_1 : decode cX4_byteAt 1 = .ok (.ifCond .lt 29, 3) := by decide +kernel
theorem dX4_byteAt_4 : decode cX4_byteAt 4 = .ok (.iload_n 1, 1) := by decide +kernel
theorem dX4_byteAt_5 : decode cX4_byteAt 5 = .ok (.aload_n 0, 1) := by decide +kernel
theorem dX4_byteAt_6 : decode cX4_byteAt 6 = .ok (.getfield 28, 3) := by decide +kernel
theorem dX4_byteAt_9 : decode cX4_byteAt 9 = .ok (.if_icmp .ge 21, 3) := by decide +kernel
theorem dX4_byteAt_12 : decode cX4_byteAt 12 = .ok (.iload_n 1, 1) := by decide +kernel
theorem dX4_byteAt_13 : decode cX4_byteAt 13 = .ok (.aload_n 0, 1) := by decide +kernel
theorem dX4_byteAt_14 : decode cX4_byteAt 14 = .ok (.getfield 15, 3) := by decide +kernel
theorem dX4_byteAt_17 : decode cX4_byteAt 17 = .ok (.arraylength, 1) := by decide +kernel
theorem dX4_byteAt_18 : decode cX4_byteAt 18 = .ok (.if_icmp .ge 12, 3) := by decide +kernel
theorem dX4_byteAt_21 : decode cX4_byteAt 21 = .ok (.aload_n 0, 1) := by decide +kernel
theorem dX4_byteAt_22 : decode cX4_byteAt 22 = .ok (.getfield 15, 3) := by decide +kernel
theorem dX4_byteAt_25 : decode cX4_byteAt 25 = .ok (.iload_n 1, 1) := by decide +kernel
theorem dX4_byteAt_26 : decode cX4_byteAt 26 = .ok (.iaload, 1) := by decide +kernel
theorem dX4_byteAt_27 : decode cX4_byteAt 27 = .ok (.goto 4, 3) := by decide +kernel
theorem dX4_byteAt_30 : decode cX4_byteAt 30 = .ok (.iconst (-1), 1) := by decide +kernel
theorem dX4_byteAt_31 : decode cX4_byteAt 31 = .ok (.ireturn, 1) := by decide +kernel
def fp_X4_byteAt (v0 : Nat) (v1 : Int32) (M : zM) : Option (Int32) :=
  zthis 3 M v0 (
    if v1 < 0 then (
      some (-1))
    else (
      (zgI 3 M v0 5).bind fun (y1 : Int32) =>
      if v1 ≥ y1 then (
        some (-1))
      else (
        (zgR 3 M v0 4).bind fun (y2 : Nat) =>
        (zln M y2).bind fun (y3 : Int32) =>
        if v1 ≥ y3 then (
          some (-1))
        else (
          (zgR 3 M v0 4).bind fun (y4 : Nat) =>
          (zlI 100 M y4 v1).bind fun (y5 : Int32) =>
          some y5))))
set_option maxHeartbeats 4000000 in
set_option maxRecDepth 100000 in
theorem th_X4_byteAt {v0 : Nat} {v1 : Int32} {M : zM} {x0 : Int32} (h : fp_X4_byteAt v0 v1 M = some x0) : v0 < zS M ∧ kd v0 = 3 := by
  unfold fp_X4_byteAt at h
  exact zthis_of h
set_option maxHeartbeats 4000000 in
set_option maxRecDepth 100000 in
theorem ct_X4_byteAt (E : zEnv) (hE : zEok E) (d : Nat) (hd : 1 ≤ d) (v0 : Nat) (v1 : Int32) (M : zM) (x0 : Int32) (hx : fp_X4_byteAt v0 v1 M = some x0) : zCt E mu_X4_byteAt d [.ref (E.2.2.2.1 + v0), .int v1] M (some (.int x0), M) := by
  refine zCt_of (μ := mu_X4_byteAt) (t := fp_X4_byteAt v0 v1 M) rfl rfl (Nat.le_of_ble_eq_true rfl) hx ?_
  change zSy E mu_X4_byteAt d M (some (.int x0), M) x0 (fp_X4_byteAt v0 v1 M) 0 [(0, .ref (E.2.2.2.1 + v0)), (1, .int v1)] [] M
  unfold fp_X4_byteAt
  refine zs_this (fun hth => ?_)
  refine zs_iload_n dX4_byteAt_0 rfl 1 rfl ?_
  refine zs_if_lt dX4_byteAt_1 rfl ?_ ?_
  · refine zs_iconst (v := (-1)) dX4_byteAt_30 ciconst_m1 ?_
    exact zs_iretP dX4_byteAt_31 rfl
  refine zs_iload_n dX4_byteAt_4 rfl 1 rfl ?_
  refine zs_aload_n dX4_byteAt_5 rfl 0 rfl ?_
  refine zs_getI dX4_byteAt_6 fl_X4_28 rfl (fun y1 => ?_)
  refine zs_icmp_ge dX4_byteAt_9 rfl ?_ ?_
  · refine zs_iconst (v := (-1)) dX4_byteAt_30 ciconst_m1 ?_
    exact zs_iretP dX4_byteAt_31 rfl
  refine zs_iload_n dX4_byteAt_12 rfl 1 rfl ?_
  refine zs_aload_n dX4_byteAt_13 rfl 0 rfl ?_
  refine zs_getR dX4_byteAt_14 fl_X4_15 rfl (fun y2 => ?_)
  refine zs_alen dX4_byteAt_17 (fun y3 => ?_)
  refine zs_icmp_ge dX4_byteAt_18 rfl ?_ ?_
  · refine zs_iconst (v := (-1)) dX4_byteAt_30 ciconst_m1 ?_
    exact zs_iretP dX4_byteAt_31 rfl
  refine zs_aload_n dX4_byteAt_21 rfl 0 rfl ?_
  refine zs_getR dX4_byteAt_22 fl_X4_15 rfl (fun y4 => ?_)
  refine zs_iload_n dX4_byteAt_25 rfl 1 rfl ?_
  refine zs_ldI dX4_byteAt_26 (fun y5 => ?_)
  refine zs_goto dX4_byteAt_27 rfl ?_
  exact zs_iretP dX4_byteAt_31 rfl
theorem dX4_isBlank_0 : decode cX4_isBlank 0 = .ok (.iload_n 0, 1) := by decide +kernel
theorem dX4_isBlank_1 : decode cX4_isBlank 1 = .ok (.bipush 32, 2) := by decide +kernel
theorem dX4_isBlank_3 : decode cX4_isBlank 3 = .ok (.if_icmp .eq 9, 3) := by decide +kernel
theorem dX4_isBlank_6 : decode cX4_isBlank 6 = .ok (.iload_n 0, 1) := by decide +kernel
theorem dX4_isBlank_7 : decode cX4_isBlank 7 = .ok (.bipush 10, 2) := by decide +kernel
theorem dX4_isBlank_9 : decode cX4_isBlank 9 = .ok (.if_icmp .ne 7, 3) := by decide +kernel
theorem dX4_isBlank_12 : decode cX4_isBlank 12 = .ok (.iconst 1, 1) := by decide +kernel
theorem dX4_isBlank_13 : decode cX4_isBlank 13 = .ok (.goto 4, 3) := by decide +kernel
theorem dX4_isBlank_16 : decode cX4_isBlank 16 = .ok (.iconst 0, 1) := by decide +kernel
theorem dX4_isBlank_17 : decode cX4_isBlank 17 = .ok (.ireturn, 1) := by decide +kernel
def fp_X4_isBlank (v0 : Int32) : Option (Int32) :=
  zjn (
      some 1)
    (fun j12 =>
      if v0 = 32 then (
        j12)
      else (
        if v0 ≠ 10 then (
          some 0)
        else (
          j12)))
set_option maxHeartbeats 4000000 in
set_option maxRecDepth 100000 in
theorem ct_X4_isBlank (E : zEnv) (hE : zEok E) (d : Nat) (hd : 1 ≤ d) (v0 : Int32) (M : zM) (x0 : Int32) (hx : fp_X4_isBlank v0 = some x0) : zCt E mu_X4_isBlank d [.int v0] M (some (.int x0), M) := by
  refine zCt_of (μ := mu_X4_isBlank) (t := fp_X4_isBlank v0) rfl rfl (Nat.le_of_ble_eq_true rfl) hx ?_
  change zSy E mu_X4_isBlank d M (some (.int x0), M) x0 (fp_X4_isBlank v0) 0 [(0, .int v0)] [] M
  unfold fp_X4_isBlank
  refine zs_iload_n dX4_isBlank_0 rfl 0 rfl ?_
  refine zs_bipush (v := 32) dX4_isBlank_1 cbipush_32 ?_
  refine zs_jn (fun j12 => zSy E mu_X4_isBlank d M (some (.int x0), M) x0 (j12) 12 [] [] M) ?_ (fun j12 hj12 => ?_)
  · refine zs_iconst (v := 1) dX4_isBlank_12 ciconst_1 ?_
    refine zs_goto dX4_isBlank_13 rfl ?_
    exact zs_iretP dX4_isBlank_17 rfl
  refine zs_icmp_eq dX4_isBlank_3 rfl ?_ ?_
  · refine zs_sub (loc' := []) [] rfl ?_
    exact hj12
  refine zs_iload_n dX4_isBlank_6 rfl 0 rfl ?_
  refine zs_bipush (v := 10) dX4_isBlank_7 cbipush_10 ?_
  refine zs_icmp_ne dX4_isBlank_9 rfl ?_ ?_
  · refine zs_iconst (v := 0) dX4_isBlank_16 ciconst_0 ?_
    exact zs_iretP dX4_isBlank_17 rfl
  refine zs_sub (loc' := []) [] rfl ?_
  exact hj12
theorem dX4_isSmall_0 : decode cX4_isSmall 0 = .ok (.iload_n 0, 1) := by decide +kernel
theorem dX4_isSmall_1 : decode cX4_isSmall 1 = .ok (.bipush 97, 2) := by decide +kernel
theorem dX4_isSmall_3 : decode cX4_isSmall 3 = .ok (.if_icmp .lt 13, 3) := by decide +kernel
theorem dX4_isSmall_6 : decode cX4_isSmall 6 = .ok (.iload_n 0, 1) := by decide +kernel
theorem dX4_isSmall_7 : decode cX4_isSmall 7 = .ok (.bipush 122, 2) := by decide +kernel
theorem dX4_isSmall_9 : decode cX4_isSmall 9 = .ok (.if_icmp .gt 7, 3) := by decide +kernel
theorem dX4_isSmall_12 : decode cX4_isSmall 12 = .ok (.iconst 1, 1) := by decide +kernel
theorem dX4_isSmall_13 : decode cX4_isSmall 13 = .ok (.goto 4, 3) := by decide +kernel
theorem dX4_isSmall_16 : decode cX4_isSmall 16 = .ok (.iconst 0, 1) := by decide +kernel
theorem dX4_isSmall_17 : decode cX4_isSmall 17 = .ok (.ireturn, 1) := by decide +kernel
def fp_X4_isSmall (v0 : Int32) : Option (Int32) :=
  if v0 < 97 then (
    some 0)
  else (
    if v0 > 122 then (
      some 0)
    else (
      some 1))
set_option maxHeartbeats 4000000 in
set_option maxRecDepth 100000 in
theorem ct_X4_isSmall (E : zEnv) (hE : zEok E) (d : Nat) (hd : 1 ≤ d) (v0 : Int32) (M : zM) (x0 : Int32) (hx : fp_X4_isSmall v0 = some x0) : zCt E mu_X4_isSmall d [.int v0] M (some (.int x0), M) := by
  refine zCt_of (μ := mu_X4_isSmall) (t := fp_X4_isSmall v0) rfl rfl (Nat.le_of_ble_eq_true rfl) hx ?_
  change zSy E mu_X4_isSmall d M (some (.int x0), M) x0 (fp_X4_isSmall v0) 0 [(0, .int v0)] [] M
  unfold fp_X4_isSmall
  refine zs_iload_n dX4_isSmall_0 rfl 0 rfl ?_
  refine zs_bipush (v := 97) dX4_isSmall_1 cbipush_97 ?_
  refine zs_icmp_lt dX4_isSmall_3 rfl ?_ ?_
  · refine zs_iconst (v := 0) dX4_isSmall_16 ciconst_0 ?_
    exact zs_iretP dX4_isSmall_17 rfl
  refine zs_iload_n dX4_isSmall_6 rfl 0 rfl ?_
  refine zs_bipush (v := 122) dX4_isSmall_7 cbipush_122 ?_
  refine zs_icmp_gt dX4_isSmall_9 rfl ?_ ?_
  · refine zs_iconst (v := 0) dX4_isSmall_16 ciconst_0 ?_
    exact zs_iretP dX4_isSmall_17 rfl
  refine zs_iconst (v := 1) dX4_isSmall_12 ciconst_1 ?_
  refine zs_goto dX4_isSmall_13 rfl ?_
  exact zs_iretP dX4_isSmall_17 rfl
theorem dX4_isDigit_0 : decode cX4_isDigit 0 = .ok (.iload_n 0, 1) := by decide +kernel
theorem dX4_isDigit_1 : decode cX4_isDigit 1 = .ok (.bipush 48, 2) := by decide +kernel
theorem dX4_isDigit_3 : decode cX4_isDigit 3 = .ok (.if_icmp .lt 13, 3) := by decide +kernel
theorem dX4_isDigit_6 : decode cX4_isDigit 6 = .ok (.iload_n 0, 1) := by decide +kernel
theorem dX4_isDigit_7 : decode cX4_isDigit 7 = .ok (.bipush 57, 2) := by decide +kernel
theorem dX4_isDigit_9 : decode cX4_isDigit 9 = .ok (.if_icmp .gt 7, 3) := by decide +kernel
theorem dX4_isDigit_12 : decode cX4_isDigit 12 = .ok (.iconst 1, 1) := by decide +kernel
theorem dX4_isDigit_13 : decode cX4_isDigit 13 = .ok (.goto 4, 3) := by decide +kernel
theorem dX4_isDigit_16 : decode cX4_isDigit 16 = .ok (.iconst 0, 1) := by decide +kernel
theorem dX4_isDigit_17 : decode cX4_isDigit 17 = .ok (.ireturn, 1) := by decide +kernel
def fp_X4_isDigit (v0 : Int32) : Option (Int32) :=
  if v0 < 48 then (
    some 0)
  else (
    if v0 > 57 then (
      some 0)
    else (
      some 1))
set_option maxHeartbeats 4000000 in
set_option maxRecDepth 100000 in
theorem ct_X4_isDigit (E : zEnv) (hE : zEok E) (d : Nat) (hd : 1 ≤ d) (v0 : Int32) (M : zM) (x0 : Int32) (hx : fp_X4_isDigit v0 = some x0) : zCt E mu_X4_isDigit d [.int v0] M (some (.int x0), M) := by
  refine zCt_of (μ := mu_X4_isDigit) (t := fp_X4_isDigit v0) rfl rfl (Nat.le_of_ble_eq_true rfl) hx ?_
  change zSy E mu_X4_isDigit d M (some (.int x0), M) x0 (fp_X4_isDigit v0) 0 [(0, .int v0)] [] M
  unfold fp_X4_isDigit
  refine zs_iload_n dX4_isDigit_0 rfl 0 rfl ?_
  refine zs_bipush (v := 48) dX4_isDigit_1 cbipush_48 ?_
  refine zs_icmp_lt dX4_isDigit_3 rfl ?_ ?_
  · refine zs_iconst (v := 0) dX4_isDigit_16 ciconst_0 ?_
    exact zs_iretP dX4_isDigit_17 rfl
  refine zs_iload_n dX4_isDigit_6 rfl 0 rfl ?_
  refine zs_bipush (v := 57) dX4_isDigit_7 cbipush_57 ?_
  refine zs_icmp_gt dX4_isDigit_9 rfl ?_ ?_
  · refine zs_iconst (v := 0) dX4_isDigit_16 ciconst_0 ?_
    exact zs_iretP dX4_isDigit_17 rfl
  refine zs_iconst (v := 1) dX4_isDigit_12 ciconst_1 ?_
  refine zs_goto dX4_isDigit_13 rfl ?_
  exact zs_iretP dX4_isDigit_17 rfl
theorem dX4_fail_0 : decode cX4_fail 0 = .ok (.aload_n 0, 1) := by decide +kernel
theorem dX4_fail_1 : decode cX4_fail 1 = .ok (.iload_n 1, 1) := by decide +kernel
theorem dX4_fail_2 : decode cX4_fail 2 = .ok (.putfield 37, 3) := by decide +kernel
theorem dX4_fail_5 : decode cX4_fail 5 = .ok (.aload_n 0, 1) := by decide +kernel
theorem dX4_fail_6 : decode cX4_fail 6 = .ok (.aload_n 0, 1) := by decide +kernel
theorem dX4_fail_7 : decode cX4_fail 7 = .ok (.getfield 53, 3) := by decide +kernel
theorem dX4_fail_10 : decode cX4_fail 10 = .ok (.putfield 9, 3) := by decide +kernel
theorem dX4_fail_13 : decode cX4_fail 13 = .ok (.return_, 1) := by decide +kernel
def fp_X4_fail (v0 : Nat) (v1 : Int32) (M : zM) : Option (zM) :=
  zthis 3 M v0 (
    (zpI 3 M v0 2 v1).bind fun (M1 : zM) =>
    (zgI 3 M1 v0 7).bind fun (y2 : Int32) =>
    (zpI 3 M1 v0 3 y2).bind fun (M3 : zM) =>
    some M3)
set_option maxHeartbeats 4000000 in
set_option maxRecDepth 100000 in
theorem th_X4_fail {v0 : Nat} {v1 : Int32} {M : zM} {x0 : zM} (h : fp_X4_fail v0 v1 M = some x0) : v0 < zS M ∧ kd v0 = 3 := by
  unfold fp_X4_fail at h
  exact zthis_of h
set_option maxHeartbeats 4000000 in
set_option maxRecDepth 100000 in
theorem ct_X4_fail (E : zEnv) (hE : zEok E) (d : Nat) (hd : 1 ≤ d) (v0 : Nat) (v1 : Int32) (M : zM) (x0 : zM) (hx : fp_X4_fail v0 v1 M = some x0) : zCt E mu_X4_fail d [.ref (E.2.2.2.1 + v0), .int v1] M (none, x0) := by
  refine zCt_of (μ := mu_X4_fail) (t := fp_X4_fail v0 v1 M) rfl rfl (Nat.le_of_ble_eq_true rfl) hx ?_
  change zSy E mu_X4_fail d M (none, x0) x0 (fp_X4_fail v0 v1 M) 0 [(0, .ref (E.2.2.2.1 + v0)), (1, .int v1)] [] M
  unfold fp_X4_fail
  refine zs_this (fun hth => ?_)
  refine zs_aload_n dX4_fail_0 rfl 0 rfl ?_
  refine zs_iload_n dX4_fail_1 rfl 1 rfl ?_
  refine zs_putI dX4_fail_2 fl_X4_37 ft_X4 rfl rfl rfl rfl rfl (fun M1 => ?_)
  refine zs_aload_n dX4_fail_5 rfl 0 rfl ?_
  refine zs_aload_n dX4_fail_6 rfl 0 rfl ?_
  refine zs_getI dX4_fail_7 fl_X4_53 rfl (fun y2 => ?_)
  refine zs_putI dX4_fail_10 fl_X4_9 ft_X4 rfl rfl rfl rfl rfl (fun M3 => ?_)
  exact zs_vret dX4_fail_13 trivial
theorem dX4_nextToken_0 : decode cX4_nextToken 0 = .ok (.aload_n 0, 1) := by decide +kernel
theorem dX4_nextToken_1 : decode cX4_nextToken 1 = .ok (.aload_n 0, 1) := by decide +kernel
theorem dX4_nextToken_2 : decode cX4_nextToken 2 = .ok (.getfield 40, 3) := by decide +kernel
theorem dX4_nextToken_5 : decode cX4_nextToken 5 = .ok (.putfield 53, 3) := by decide +kernel
theorem dX4_nextToken_8 : decode cX4_nextToken 8 = .ok (.aload_n 0, 1) := by decide +kernel
theorem dX4_nextToken_9 : decode cX4_nextToken 9 = .ok (.getfield 53, 3) := by decide +kernel
theorem dX4_nextToken_12 : decode cX4_nextToken 12 = .ok (.aload_n 0, 1) := by decide +kernel
theorem dX4_nextToken_13 : decode cX4_nextToken 13 = .ok (.getfield 28, 3) := by decide +kernel
theorem dX4_nextToken_16 : decode cX4_nextToken 16 = .ok (.if_icmp .ge 30, 3) := by decide +kernel
theorem dX4_nextToken_19 : decode cX4_nextToken 19 = .ok (.aload_n 0, 1) := by decide +kernel
theorem dX4_nextToken_20 : decode cX4_nextToken 20 = .ok (.aload_n 0, 1) := by decide +kernel
theorem dX4_nextToken_21 : decode cX4_nextToken 21 = .ok (.getfield 53, 3) := by decide +kernel
theorem dX4_nextToken_24 : decode cX4_nextToken 24 = .ok (.invokevirtual 56, 3) := by decide +kernel
theorem dX4_nextToken_27 : decode cX4_nextToken 27 = .ok (.invokestatic 60, 3) := by decide +kernel
theorem dX4_nextToken_30 : decode cX4_nextToken 30 = .ok (.ifCond .eq 16, 3) := by decide +kernel
theorem dX4_nextToken_33 : decode cX4_nextToken 33 = .ok (.aload_n 0, 1) := by decide +kernel
theorem dX4_nextToken_34 : decode cX4_nextToken 34 = .ok (.dup, 1) := by decide +kernel
theorem dX4_nextToken_35 : decode cX4_nextToken 35 = .ok (.getfield 53, 3) := by decide +kernel
theorem dX4_nextToken_38 : decode cX4_nextToken 38 = .ok (.iconst 1, 1) := by decide +kernel
theorem dX4_nextToken_39 : decode cX4_nextToken 39 = .ok (.iadd, 1) := by decide +kernel
theorem dX4_nextToken_40 : decode cX4_nextToken 40 = .ok (.putfield 53, 3) := by decide +kernel
theorem dX4_nextToken_43 : decode cX4_nextToken 43 = .ok (.goto (-35), 3) := by decide +kernel
theorem dX4_nextToken_46 : decode cX4_nextToken 46 = .ok (.aload_n 0, 1) := by decide +kernel
theorem dX4_nextToken_47 : decode cX4_nextToken 47 = .ok (.aload_n 0, 1) := by decide +kernel
theorem dX4_nextToken_48 : decode cX4_nextToken 48 = .ok (.getfield 53, 3) := by decide +kernel
theorem dX4_nextToken_51 : decode cX4_nextToken 51 = .ok (.iconst 1, 1) := by decide +kernel
theorem dX4_nextToken_52 : decode cX4_nextToken 52 = .ok (.iadd, 1) := by decide +kernel
theorem dX4_nextToken_53 : decode cX4_nextToken 53 = .ok (.putfield 40, 3) := by decide +kernel
theorem dX4_nextToken_56 : decode cX4_nextToken 56 = .ok (.aload_n 0, 1) := by decide +kernel
theorem dX4_nextToken_57 : decode cX4_nextToken 57 = .ok (.aload_n 0, 1) := by decide +kernel
theorem dX4_nextToken_58 : decode cX4_nextToken 58 = .ok (.getfield 53, 3) := by decide +kernel
theorem dX4_nextToken_61 : decode cX4_nextToken 61 = .ok (.invokevirtual 56, 3) := by decide +kernel
theorem dX4_nextToken_64 : decode cX4_nextToken 64 = .ok (.istore_n 1, 1) := by decide +kernel
theorem dX4_nextToken_65 : decode cX4_nextToken 65 = .ok (.aload_n 0, 1) := by decide +kernel
theorem dX4_nextToken_66 : decode cX4_nextToken 66 = .ok (.getfield 53, 3) := by decide +kernel
theorem dX4_nextToken_69 : decode cX4_nextToken 69 = .ok (.aload_n 0, 1) := by decide +kernel
theorem dX4_nextToken_70 : decode cX4_nextToken 70 = .ok (.getfield 28, 3) := by decide +kernel
theorem dX4_nextToken_73 : decode cX4_nextToken 73 = .ok (.if_icmp .lt 19, 3) := by decide +kernel
theorem dX4_nextToken_76 : decode cX4_nextToken 76 = .ok (.aload_n 0, 1) := by decide +kernel
theorem dX4_nextToken_77 : decode cX4_nextToken 77 = .ok (.iconst 0, 1) := by decide +kernel
theorem dX4_nextToken_78 : decode cX4_nextToken 78 = .ok (.putfield 47, 3) := by decide +kernel
theorem dX4_nextToken_81 : decode cX4_nextToken 81 = .ok (.aload_n 0, 1) := by decide +kernel
theorem dX4_nextToken_82 : decode cX4_nextToken 82 = .ok (.aload_n 0, 1) := by decide +kernel
theorem dX4_nextToken_83 : decode cX4_nextToken 83 = .ok (.getfield 53, 3) := by decide +kernel
theorem dX4_nextToken_86 : decode cX4_nextToken 86 = .ok (.putfield 40, 3) := by decide +kernel
theorem dX4_nextToken_89 : decode cX4_nextToken 89 = .ok (.goto 101, 3) := by decide +kernel
theorem dX4_nextToken_92 : decode cX4_nextToken 92 = .ok (.iload_n 1, 1) := by decide +kernel
theorem dX4_nextToken_93 : decode cX4_nextToken 93 = .ok (.invokestatic 64, 3) := by decide +kernel
theorem dX4_nextToken_96 : decode cX4_nextToken 96 = .ok (.ifCond .eq 46, 3) := by decide +kernel
theorem dX4_nextToken_99 : decode cX4_nextToken 99 = .ok (.aload_n 0, 1) := by decide +kernel
theorem dX4_nextToken_100 : decode cX4_nextToken 100 = .ok (.iconst 1, 1) := by decide +kernel
theorem dX4_nextToken_101 : decode cX4_nextToken 101 = .ok (.putfield 47, 3) := by decide +kernel
theorem dX4_nextToken_104 : decode cX4_nextToken 104 = .ok (.aload_n 0, 1) := by decide +kernel
theorem dX4_nextToken_105 : decode cX4_nextToken 105 = .ok (.getfield 40, 3) := by decide +kernel
theorem dX4_nextToken_108 : decode cX4_nextToken 108 = .ok (.aload_n 0, 1) := by decide +kernel
theorem dX4_nextToken_109 : decode cX4_nextToken 109 = .ok (.getfield 28, 3) := by decide +kernel
theorem dX4_nextToken_112 : decode cX4_nextToken 112 = .ok (.if_icmp .ge 78, 3) := by decide +kernel
theorem dX4_nextToken_115 : decode cX4_nextToken 115 = .ok (.aload_n 0, 1) := by decide +kernel
theorem dX4_nextToken_116 : decode cX4_nextToken 116 = .ok (.aload_n 0, 1) := by decide +kernel
theorem dX4_nextToken_117 : decode cX4_nextToken 117 = .ok (.getfield 40, 3) := by decide +kernel
theorem dX4_nextToken_120 : decode cX4_nextToken 120 = .ok (.invokevirtual 56, 3) := by decide +kernel
theorem dX4_nextToken_123 : decode cX4_nextToken 123 = .ok (.invokestatic 64, 3) := by decide +kernel
theorem dX4_nextToken_126 : decode cX4_nextToken 126 = .ok (.ifCond .eq 64, 3) := by decide +kernel
theorem dX4_nextToken_129 : decode cX4_nextToken 129 = .ok (.aload_n 0, 1) := by decide +kernel
theorem dX4_nextToken_130 : decode cX4_nextToken 130 = .ok (.dup, 1) := by decide +kernel
theorem dX4_nextToken_131 : decode cX4_nextToken 131 = .ok (.getfield 40, 3) := by decide +kernel
theorem dX4_nextToken_134 : decode cX4_nextToken 134 = .ok (.iconst 1, 1) := by decide +kernel
theorem dX4_nextToken_135 : decode cX4_nextToken 135 = .ok (.iadd, 1) := by decide +kernel
theorem dX4_nextToken_136 : decode cX4_nextToken 136 = .ok (.putfield 40, 3) := by decide +kernel
theorem dX4_nextToken_139 : decode cX4_nextToken 139 = .ok (.goto (-35), 3) := by decide +kernel
theorem dX4_nextToken_142 : decode cX4_nextToken 142 = .ok (.iload_n 1, 1) := by decide +kernel
theorem dX4_nextToken_143 : decode cX4_nextToken 143 = .ok (.invokestatic 67, 3) := by decide +kernel
theorem dX4_nextToken_146 : decode cX4_nextToken 146 = .ok (.ifCond .eq 25, 3) := by decide +kernel
theorem dX4_nextToken_149 : decode cX4_nextToken 149 = .ok (.aload_n 0, 1) := by decide +kernel
theorem dX4_nextToken_150 : decode cX4_nextToken 150 = .ok (.aload_n 0, 1) := by decide +kernel
theorem dX4_nextToken_151 : decode cX4_nextToken 151 = .ok (.getfield 40, 3) := by decide +kernel
theorem dX4_nextToken_154 : decode cX4_nextToken 154 = .ok (.invokevirtual 56, 3) := by decide +kernel
theorem dX4_nextToken_157 : decode cX4_nextToken 157 = .ok (.invokestatic 67, 3) := by decide +kernel
theorem dX4_nextToken_160 : decode cX4_nextToken 160 = .ok (.ifCond .ne 11, 3) := by decide +kernel
theorem dX4_nextToken_163 : decode cX4_nextToken 163 = .ok (.aload_n 0, 1) := by decide +kernel
theorem dX4_nextToken_164 : decode cX4_nextToken 164 = .ok (.iconst 2, 1) := by decide +kernel
theorem dX4_nextToken_165 : decode cX4_nextToken 165 = .ok (.putfield 47, 3) := by decide +kernel
theorem dX4_nextToken_168 : decode cX4_nextToken 168 = .ok (.goto 22, 3) := by decide +kernel
theorem dX4_nextToken_171 : decode cX4_nextToken 171 = .ok (.iload_n 1, 1) := by decide +kernel
theorem dX4_nextToken_172 : decode cX4_nextToken 172 = .ok (.bipush 59, 2) := by decide +kernel
theorem dX4_nextToken_174 : decode cX4_nextToken 174 = .ok (.if_icmp .ne 11, 3) := by decide +kernel
theorem dX4_nextToken_177 : decode cX4_nextToken 177 = .ok (.aload_n 0, 1) := by decide +kernel
theorem dX4_nextToken_178 : decode cX4_nextToken 178 = .ok (.iconst 3, 1) := by decide +kernel
theorem dX4_nextToken_179 : decode cX4_nextToken 179 = .ok (.putfield 47, 3) := by decide +kernel
theorem dX4_nextToken_182 : decode cX4_nextToken 182 = .ok (.goto 8, 3) := by decide +kernel
theorem dX4_nextToken_185 : decode cX4_nextToken 185 = .ok (.aload_n 0, 1) := by decide +kernel
theorem dX4_nextToken_186 : decode cX4_nextToken 186 = .ok (.iconst 1, 1) := by decide +kernel
theorem dX4_nextToken_187 : decode cX4_nextToken 187 = .ok (.invokevirtual 70, 3) := by decide +kernel
theorem dX4_nextToken_190 : decode cX4_nextToken 190 = .ok (.aload_n 0, 1) := by decide +kernel
theorem dX4_nextToken_191 : decode cX4_nextToken 191 = .ok (.getfield 37, 3) := by decide +kernel
theorem dX4_nextToken_194 : decode cX4_nextToken 194 = .ok (.ifCond .ne 7, 3) := by decide +kernel
theorem dX4_nextToken_197 : decode cX4_nextToken 197 = .ok (.iconst 1, 1) := by decide +kernel
theorem dX4_nextToken_198 : decode cX4_nextToken 198 = .ok (.goto 4, 3) := by decide +kernel
theorem dX4_nextToken_201 : decode cX4_nextToken 201 = .ok (.iconst 0, 1) := by decide +kernel
theorem dX4_nextToken_202 : decode cX4_nextToken 202 = .ok (.ireturn, 1) := by decide +kernel
def fp_X4_nextToken_L8 (k46 : zM → Option (Int32 × zM)) (v0 : Nat) : Nat → zM → Option (Int32 × zM)
  | 0, _ => none
  | n + 1, M =>
    (zgI 3 M v0 7).bind fun (y3 : Int32) =>
    (zgI 3 M v0 5).bind fun (y4 : Int32) =>
    if y3 ≥ y4 then (
      k46 M)
    else (
      (zgI 3 M v0 7).bind fun (y5 : Int32) =>
      (fp_X4_byteAt v0 y5 M).bind fun (y6 : Int32) =>
      (fp_X4_isBlank y6).bind fun (y7 : Int32) =>
      if y7 = 0 then (
        k46 M)
      else (
        (zgI 3 M v0 7).bind fun (y8 : Int32) =>
        (zpI 3 M v0 7 (y8 + 1)).bind fun (M9 : zM) =>
        fp_X4_nextToken_L8 k46 v0 n M9))
def fp_X4_nextToken_L104 (k190 : zM → Option (Int32 × zM)) (v0 : Nat) : Nat → zM → Option (Int32 × zM)
  | 0, _ => none
  | n + 1, M =>
    (zgI 3 M v0 8).bind fun (y28 : Int32) =>
    (zgI 3 M v0 5).bind fun (y29 : Int32) =>
    if y28 ≥ y29 then (
      k190 M)
    else (
      (zgI 3 M v0 8).bind fun (y30 : Int32) =>
      (fp_X4_byteAt v0 y30 M).bind fun (y31 : Int32) =>
      (fp_X4_isSmall y31).bind fun (y32 : Int32) =>
      if y32 = 0 then (
        k190 M)
      else (
        (zgI 3 M v0 8).bind fun (y33 : Int32) =>
        (zpI 3 M v0 8 (y33 + 1)).bind fun (M34 : zM) =>
        fp_X4_nextToken_L104 k190 v0 n M34))
def fp_X4_nextToken (v0 : Nat) (M : zM) : Option (Int32 × zM) :=
  zthis 3 M v0 (
    (zgI 3 M v0 8).bind fun (y1 : Int32) =>
    (zpI 3 M v0 7 y1).bind fun (M2 : zM) =>
    fp_X4_nextToken_L8
      (fun M10 =>
        (zgI 3 M10 v0 7).bind fun (y11 : Int32) =>
        (zpI 3 M10 v0 8 (y11 + 1)).bind fun (M12 : zM) =>
        (zgI 3 M12 v0 7).bind fun (y13 : Int32) =>
        (fp_X4_byteAt v0 y13 M12).bind fun (y14 : Int32) =>
        (zgI 3 M12 v0 7).bind fun (y15 : Int32) =>
        (zgI 3 M12 v0 5).bind fun (y16 : Int32) =>
        zjn (fun (M17 : zM) =>
            (zgI 3 M17 v0 2).bind fun (y18 : Int32) =>
            if y18 ≠ 0 then (
              some (0, M17))
            else (
              some (1, M17)))
          (fun j190 =>
            if y15 < y16 then (
              (fp_X4_isSmall y14).bind fun (y19 : Int32) =>
              if y19 = 0 then (
                (fp_X4_isDigit y14).bind fun (y20 : Int32) =>
                zjn (
                    if y14 ≠ 59 then (
                      (fp_X4_fail v0 1 M12).bind fun (M21 : zM) =>
                      j190 M21)
                    else (
                      (zpI 3 M12 v0 6 3).bind fun (M22 : zM) =>
                      j190 M22))
                  (fun j171 =>
                    if y20 = 0 then (
                      j171)
                    else (
                      (zgI 3 M12 v0 8).bind fun (y23 : Int32) =>
                      (fp_X4_byteAt v0 y23 M12).bind fun (y24 : Int32) =>
                      (fp_X4_isDigit y24).bind fun (y25 : Int32) =>
                      if y25 ≠ 0 then (
                        j171)
                      else (
                        (zpI 3 M12 v0 6 2).bind fun (M26 : zM) =>
                        j190 M26))))
              else (
                (zpI 3 M12 v0 6 1).bind fun (M27 : zM) =>
                fp_X4_nextToken_L104
                  (fun M35 =>
                    j190 M35) v0 FU M27))
            else (
              (zpI 3 M12 v0 6 0).bind fun (M36 : zM) =>
              (zgI 3 M36 v0 7).bind fun (y37 : Int32) =>
              (zpI 3 M36 v0 8 y37).bind fun (M38 : zM) =>
              j190 M38))) v0 FU M2)
set_option maxHeartbeats 4000000 in
set_option maxRecDepth 100000 in
theorem th_X4_nextToken {v0 : Nat} {M : zM} {x0 : Int32 × zM} (h : fp_X4_nextToken v0 M = some x0) : v0 < zS M ∧ kd v0 = 3 := by
  unfold fp_X4_nextToken at h
  exact zthis_of h
set_option maxHeartbeats 4000000 in
set_option maxRecDepth 100000 in
theorem w_X4_nextToken_L8 (E : zEnv) (hE : zEok E) (d : Nat) (hd : 2 ≤ d) (M0 : zM) (x0 : Int32 × zM) (v0 : Nat) (k46 : zM → Option (Int32 × zM)) (hk46 : ∀ (M : zM), zSy E mu_X4_nextToken d M0 (some (.int x0.1), x0.2) x0 (k46 M) 46 [(0, .ref (E.2.2.2.1 + v0))] [] M) : ∀ (n : Nat) (M : zM), zSy E mu_X4_nextToken d M0 (some (.int x0.1), x0.2) x0 (fp_X4_nextToken_L8 k46 v0 n M) 8 [(0, .ref (E.2.2.2.1 + v0))] [] M := by
  intro n
  induction n with
  | zero =>
    intro M
    rw [fp_X4_nextToken_L8]
    exact zs_none
  | succ n ih =>
    intro M
    rw [fp_X4_nextToken_L8]
    refine zs_aload_n dX4_nextToken_8 rfl 0 rfl ?_
    refine zs_getI dX4_nextToken_9 fl_X4_53 rfl (fun y3 => ?_)
    refine zs_aload_n dX4_nextToken_12 rfl 0 rfl ?_
    refine zs_getI dX4_nextToken_13 fl_X4_28 rfl (fun y4 => ?_)
    refine zs_icmp_ge dX4_nextToken_16 rfl ?_ ?_
    · exact hk46 M
    refine zs_aload_n dX4_nextToken_19 rfl 0 rfl ?_
    refine zs_aload_n dX4_nextToken_20 rfl 0 rfl ?_
    refine zs_getI dX4_nextToken_21 fl_X4_53 rfl (fun y5 => ?_)
    refine zs_invVPI (rest := []) [.int y5] dX4_nextToken_24 lk_X4_56 rfl (fun _ h => th_X4_byteAt h) (zd1 rfl hd) rfl (Nat.le_of_ble_eq_true rfl) (ct_X4_byteAt E hE _ (zdl rfl hd) _ _ _) (fun y6 => ?_)
    refine zs_invSPI (rest := []) [.int y6] dX4_nextToken_27 lk_X4_60 rfl (zd1 rfl hd) rfl (Nat.le_of_ble_eq_true rfl) (ct_X4_isBlank E hE _ (zdl rfl hd) _ _) (fun y7 => ?_)
    refine zs_if_eq dX4_nextToken_30 rfl ?_ ?_
    · exact hk46 M
    refine zs_aload_n dX4_nextToken_33 rfl 0 rfl ?_
    refine zs_dup dX4_nextToken_34 rfl ?_
    refine zs_getI dX4_nextToken_35 fl_X4_53 rfl (fun y8 => ?_)
    refine zs_iconst (v := 1) dX4_nextToken_38 ciconst_1 ?_
    refine zs_iadd dX4_nextToken_39 ?_
    refine zs_putI dX4_nextToken_40 fl_X4_53 ft_X4 rfl rfl rfl rfl rfl (fun M9 => ?_)
    refine zs_goto dX4_nextToken_43 rfl ?_
    exact ih M9
set_option maxHeartbeats 4000000 in
set_option maxRecDepth 100000 in
theorem w_X4_nextToken_L104 (E : zEnv) (hE : zEok E) (d : Nat) (hd : 2 ≤ d) (M0 : zM) (x0 : Int32 × zM) (v0 : Nat) (k190 : zM → Option (Int32 × zM)) (hk190 : ∀ (M : zM), zSy E mu_X4_nextToken d M0 (some (.int x0.1), x0.2) x0 (k190 M) 190 [(0, .ref (E.2.2.2.1 + v0))] [] M) : ∀ (n : Nat) (M : zM), zSy E mu_X4_nextToken d M0 (some (.int x0.1), x0.2) x0 (fp_X4_nextToken_L104 k190 v0 n M) 104 [(0, .ref (E.2.2.2.1 + v0))] [] M := by
  intro n
  induction n with
  | zero =>
    intro M
    rw [fp_X4_nextToken_L104]
    exact zs_none
  | succ n ih =>
    intro M
    rw [fp_X4_nextToken_L104]
    refine zs_aload_n dX4_nextToken_104 rfl 0 rfl ?_
    refine zs_getI dX4_nextToken_105 fl_X4_40 rfl (fun y28 => ?_)
    refine zs_aload_n dX4_nextToken_108 rfl 0 rfl ?_
    refine zs_getI dX4_nextToken_109 fl_X4_28 rfl (fun y29 => ?_)
    refine zs_icmp_ge dX4_nextToken_112 rfl ?_ ?_
    · exact hk190 M
    refine zs_aload_n dX4_nextToken_115 rfl 0 rfl ?_
    refine zs_aload_n dX4_nextToken_116 rfl 0 rfl ?_
    refine zs_getI dX4_nextToken_117 fl_X4_40 rfl (fun y30 => ?_)
    refine zs_invVPI (rest := []) [.int y30] dX4_nextToken_120 lk_X4_56 rfl (fun _ h => th_X4_byteAt h) (zd1 rfl hd) rfl (Nat.le_of_ble_eq_true rfl) (ct_X4_byteAt E hE _ (zdl rfl hd) _ _ _) (fun y31 => ?_)
    refine zs_invSPI (rest := []) [.int y31] dX4_nextToken_123 lk_X4_64 rfl (zd1 rfl hd) rfl (Nat.le_of_ble_eq_true rfl) (ct_X4_isSmall E hE _ (zdl rfl hd) _ _) (fun y32 => ?_)
    refine zs_if_eq dX4_nextToken_126 rfl ?_ ?_
    · exact hk190 M
    refine zs_aload_n dX4_nextToken_129 rfl 0 rfl ?_
    refine zs_dup dX4_nextToken_130 rfl ?_
    refine zs_getI dX4_nextToken_131 fl_X4_40 rfl (fun y33 => ?_)
    refine zs_iconst (v := 1) dX4_nextToken_134 ciconst_1 ?_
    refine zs_iadd dX4_nextToken_135 ?_
    refine zs_putI dX4_nextToken_136 fl_X4_40 ft_X4 rfl rfl rfl rfl rfl (fun M34 => ?_)
    refine zs_goto dX4_nextToken_139 rfl ?_
    exact ih M34
set_option maxHeartbeats 4000000 in
set_option maxRecDepth 100000 in
theorem ct_X4_nextToken (E : zEnv) (hE : zEok E) (d : Nat) (hd : 2 ≤ d) (v0 : Nat) (M : zM) (x0 : Int32 × zM) (hx : fp_X4_nextToken v0 M = some x0) : zCt E mu_X4_nextToken d [.ref (E.2.2.2.1 + v0)] M (some (.int x0.1), x0.2) := by
  refine zCt_of (μ := mu_X4_nextToken) (t := fp_X4_nextToken v0 M) rfl rfl (Nat.le_of_ble_eq_true rfl) hx ?_
  change zSy E mu_X4_nextToken d M (some (.int x0.1), x0.2) x0 (fp_X4_nextToken v0 M) 0 [(0, .ref (E.2.2.2.1 + v0))] [] M
  unfold fp_X4_nextToken
  refine zs_this (fun hth => ?_)
  refine zs_aload_n dX4_nextToken_0 rfl 0 rfl ?_
  refine zs_aload_n dX4_nextToken_1 rfl 0 rfl ?_
  refine zs_getI dX4_nextToken_2 fl_X4_40 rfl (fun y1 => ?_)
  refine zs_putI dX4_nextToken_5 fl_X4_53 ft_X4 rfl rfl rfl rfl rfl (fun M2 => ?_)
  refine w_X4_nextToken_L8 E hE d hd _ _ _ _ (fun M10 => ?_) _ _
  refine zs_aload_n dX4_nextToken_46 rfl 0 rfl ?_
  refine zs_aload_n dX4_nextToken_47 rfl 0 rfl ?_
  refine zs_getI dX4_nextToken_48 fl_X4_53 rfl (fun y11 => ?_)
  refine zs_iconst (v := 1) dX4_nextToken_51 ciconst_1 ?_
  refine zs_iadd dX4_nextToken_52 ?_
  refine zs_putI dX4_nextToken_53 fl_X4_40 ft_X4 rfl rfl rfl rfl rfl (fun M12 => ?_)
  refine zs_aload_n dX4_nextToken_56 rfl 0 rfl ?_
  refine zs_aload_n dX4_nextToken_57 rfl 0 rfl ?_
  refine zs_getI dX4_nextToken_58 fl_X4_53 rfl (fun y13 => ?_)
  refine zs_invVPI (rest := []) [.int y13] dX4_nextToken_61 lk_X4_56 rfl (fun _ h => th_X4_byteAt h) (zd1 rfl hd) rfl (Nat.le_of_ble_eq_true rfl) (ct_X4_byteAt E hE _ (zdl rfl hd) _ _ _) (fun y14 => ?_)
  refine zs_istore_n (loc' := [(0, .ref (E.2.2.2.1 + v0)), (1, .int y14)]) dX4_nextToken_64 rfl (Nat.le_of_ble_eq_true rfl) [1, 0] rfl ?_
  refine zs_aload_n dX4_nextToken_65 rfl 0 rfl ?_
  refine zs_getI dX4_nextToken_66 fl_X4_53 rfl (fun y15 => ?_)
  refine zs_aload_n dX4_nextToken_69 rfl 0 rfl ?_
  refine zs_getI dX4_nextToken_70 fl_X4_28 rfl (fun y16 => ?_)
  refine zs_jn (fun j190 => ∀ (M17 : zM), zSy E mu_X4_nextToken d M (some (.int x0.1), x0.2) x0 (j190 M17) 190 [(0, .ref (E.2.2.2.1 + v0))] [] M17) (fun M17 => ?_) (fun j190 hj190 => ?_)
  · refine zs_aload_n dX4_nextToken_190 rfl 0 rfl ?_
    refine zs_getI dX4_nextToken_191 fl_X4_37 rfl (fun y18 => ?_)
    refine zs_if_ne dX4_nextToken_194 rfl ?_ ?_
    · refine zs_iconst (v := 0) dX4_nextToken_201 ciconst_0 ?_
      exact zs_iretW dX4_nextToken_202 rfl
    refine zs_iconst (v := 1) dX4_nextToken_197 ciconst_1 ?_
    refine zs_goto dX4_nextToken_198 rfl ?_
    exact zs_iretW dX4_nextToken_202 rfl
  refine zs_icmp_lt dX4_nextToken_73 rfl ?_ ?_
  · refine zs_iload_n dX4_nextToken_92 rfl 1 rfl ?_
    refine zs_invSPI (rest := []) [.int y14] dX4_nextToken_93 lk_X4_64 rfl (zd1 rfl hd) rfl (Nat.le_of_ble_eq_true rfl) (ct_X4_isSmall E hE _ (zdl rfl hd) _ _) (fun y19 => ?_)
    refine zs_if_eq dX4_nextToken_96 rfl ?_ ?_
    · refine zs_iload_n dX4_nextToken_142 rfl 1 rfl ?_
      refine zs_invSPI (rest := []) [.int y14] dX4_nextToken_143 lk_X4_67 rfl (zd1 rfl hd) rfl (Nat.le_of_ble_eq_true rfl) (ct_X4_isDigit E hE _ (zdl rfl hd) _ _) (fun y20 => ?_)
      refine zs_jn (fun j171 => zSy E mu_X4_nextToken d M (some (.int x0.1), x0.2) x0 (j171) 171 [(0, .ref (E.2.2.2.1 + v0)), (1, .int y14)] [] M12) ?_ (fun j171 hj171 => ?_)
      · refine zs_iload_n dX4_nextToken_171 rfl 1 rfl ?_
        refine zs_bipush (v := 59) dX4_nextToken_172 cbipush_59 ?_
        refine zs_icmp_ne dX4_nextToken_174 rfl ?_ ?_
        · refine zs_aload_n dX4_nextToken_185 rfl 0 rfl ?_
          refine zs_iconst (v := 1) dX4_nextToken_186 ciconst_1 ?_
          refine zs_invVWV (rest := []) [.int 1] dX4_nextToken_187 lk_X4_70 rfl (fun _ h => th_X4_fail h) (zd1 rfl hd) rfl (Nat.le_of_ble_eq_true rfl) (ct_X4_fail E hE _ (zdl rfl hd) _ _ _) (fun M21 => ?_)
          refine zs_sub (loc' := [(0, .ref (E.2.2.2.1 + v0))]) [0] rfl ?_
          exact hj190 M21
        refine zs_aload_n dX4_nextToken_177 rfl 0 rfl ?_
        refine zs_iconst (v := 3) dX4_nextToken_178 ciconst_3 ?_
        refine zs_putI dX4_nextToken_179 fl_X4_47 ft_X4 rfl rfl rfl rfl rfl (fun M22 => ?_)
        refine zs_goto dX4_nextToken_182 rfl ?_
        refine zs_sub (loc' := [(0, .ref (E.2.2.2.1 + v0))]) [0] rfl ?_
        exact hj190 M22
      refine zs_if_eq dX4_nextToken_146 rfl ?_ ?_
      · exact hj171
      refine zs_aload_n dX4_nextToken_149 rfl 0 rfl ?_
      refine zs_aload_n dX4_nextToken_150 rfl 0 rfl ?_
      refine zs_getI dX4_nextToken_151 fl_X4_40 rfl (fun y23 => ?_)
      refine zs_invVPI (rest := []) [.int y23] dX4_nextToken_154 lk_X4_56 rfl (fun _ h => th_X4_byteAt h) (zd1 rfl hd) rfl (Nat.le_of_ble_eq_true rfl) (ct_X4_byteAt E hE _ (zdl rfl hd) _ _ _) (fun y24 => ?_)
      refine zs_invSPI (rest := []) [.int y24] dX4_nextToken_157 lk_X4_67 rfl (zd1 rfl hd) rfl (Nat.le_of_ble_eq_true rfl) (ct_X4_isDigit E hE _ (zdl rfl hd) _ _) (fun y25 => ?_)
      refine zs_if_ne dX4_nextToken_160 rfl ?_ ?_
      · exact hj171
      refine zs_aload_n dX4_nextToken_163 rfl 0 rfl ?_
      refine zs_iconst (v := 2) dX4_nextToken_164 ciconst_2 ?_
      refine zs_putI dX4_nextToken_165 fl_X4_47 ft_X4 rfl rfl rfl rfl rfl (fun M26 => ?_)
      refine zs_goto dX4_nextToken_168 rfl ?_
      refine zs_sub (loc' := [(0, .ref (E.2.2.2.1 + v0))]) [0] rfl ?_
      exact hj190 M26
    refine zs_aload_n dX4_nextToken_99 rfl 0 rfl ?_
    refine zs_iconst (v := 1) dX4_nextToken_100 ciconst_1 ?_
    refine zs_putI dX4_nextToken_101 fl_X4_47 ft_X4 rfl rfl rfl rfl rfl (fun M27 => ?_)
    refine zs_sub (loc' := [(0, .ref (E.2.2.2.1 + v0))]) [0] rfl ?_
    refine w_X4_nextToken_L104 E hE d hd _ _ _ _ (fun M35 => ?_) _ _
    exact hj190 M35
  refine zs_aload_n dX4_nextToken_76 rfl 0 rfl ?_
  refine zs_iconst (v := 0) dX4_nextToken_77 ciconst_0 ?_
  refine zs_putI dX4_nextToken_78 fl_X4_47 ft_X4 rfl rfl rfl rfl rfl (fun M36 => ?_)
  refine zs_aload_n dX4_nextToken_81 rfl 0 rfl ?_
  refine zs_aload_n dX4_nextToken_82 rfl 0 rfl ?_
  refine zs_getI dX4_nextToken_83 fl_X4_53 rfl (fun y37 => ?_)
  refine zs_putI dX4_nextToken_86 fl_X4_40 ft_X4 rfl rfl rfl rfl rfl (fun M38 => ?_)
  refine zs_goto dX4_nextToken_89 rfl ?_
  refine zs_sub (loc' := [(0, .ref (E.2.2.2.1 + v0))]) [0] rfl ?_
  exact hj190 M38
theorem dX4_says_0 : decode cX4_says 0 = .ok (.aload_n 0, 1) := by decide +kernel
theorem dX4_says_1 : decode cX4_says 1 = .ok (.getfield 47, 3) := by decide +kernel
theorem dX4_says_4 : decode cX4_says 4 = .ok (.iconst 1, 1) := by decide +kernel
theorem dX4_says_5 : decode cX4_says 5 = .ok (.if_icmp .ne 19, 3) := by decide +kernel
theorem dX4_says_8 : decode cX4_says 8 = .ok (.aload_n 0, 1) := by decide +kernel
theorem dX4_says_9 : decode cX4_says 9 = .ok (.getfield 40, 3) := by decide +kernel
theorem dX4_says_12 : decode cX4_says 12 = .ok (.aload_n 0, 1) := by decide +kernel
theorem dX4_says_13 : decode cX4_says 13 = .ok (.getfield 53, 3) := by decide +kernel
theorem dX4_says_16 : decode cX4_says 16 = .ok (.isub, 1) := by decide +kernel
theorem dX4_says_17 : decode cX4_says 17 = .ok (.aload_n 1, 1) := by decide +kernel
theorem dX4_says_18 : decode cX4_says 18 = .ok (.invokevirtual 74, 3) := by decide +kernel
theorem dX4_says_21 : decode cX4_says 21 = .ok (.if_icmp .eq 5, 3) := by decide +kernel
theorem dX4_says_24 : decode cX4_says 24 = .ok (.iconst 0, 1) := by decide +kernel
theorem dX4_says_25 : decode cX4_says 25 = .ok (.ireturn, 1) := by decide +kernel
theorem dX4_says_26 : decode cX4_says 26 = .ok (.iconst 0, 1) := by decide +kernel
theorem dX4_says_27 : decode cX4_says 27 = .ok (.istore_n 2, 1) := by decide +kernel
theorem dX4_says_28 : decode cX4_says 28 = .ok (.iload_n 2, 1) := by decide +kernel
theorem dX4_says_29 : decode cX4_says 29 = .ok (.aload_n 1, 1) := by decide +kernel
theorem dX4_says_30 : decode cX4_says 30 = .ok (.invokevirtual 74, 3) := by decide +kernel
theorem dX4_says_33 : decode cX4_says 33 = .ok (.if_icmp .ge 29, 3) := by decide +kernel
theorem dX4_says_36 : decode cX4_says 36 = .ok (.aload_n 0, 1) := by decide +kernel
theorem dX4_says_37 : decode cX4_says 37 = .ok (.aload_n 0, 1) := by decide +kernel
theorem dX4_says_38 : decode cX4_says 38 = .ok (.getfield 53, 3) := by decide +kernel
theorem dX4_says_41 : decode cX4_says 41 = .ok (.iload_n 2, 1) := by decide +kernel
theorem dX4_says_42 : decode cX4_says 42 = .ok (.iadd, 1) := by decide +kernel
theorem dX4_says_43 : decode cX4_says 43 = .ok (.invokevirtual 56, 3) := by decide +kernel
theorem dX4_says_46 : decode cX4_says 46 = .ok (.aload_n 1, 1) := by decide +kernel
theorem dX4_says_47 : decode cX4_says 47 = .ok (.iload_n 2, 1) := by decide +kernel
theorem dX4_says_48 : decode cX4_says 48 = .ok (.invokevirtual 79, 3) := by decide +kernel
theorem dX4_says_51 : decode cX4_says 51 = .ok (.if_icmp .eq 5, 3) := by decide +kernel
theorem dX4_says_54 : decode cX4_says 54 = .ok (.iconst 0, 1) := by decide +kernel
theorem dX4_says_55 : decode cX4_says 55 = .ok (.ireturn, 1) := by decide +kernel
theorem dX4_says_56 : decode cX4_says 56 = .ok (.iinc 2 1, 3) := by decide +kernel
theorem dX4_says_59 : decode cX4_says 59 = .ok (.goto (-31), 3) := by decide +kernel
theorem dX4_says_62 : decode cX4_says 62 = .ok (.iconst 1, 1) := by decide +kernel
theorem dX4_says_63 : decode cX4_says 63 = .ok (.ireturn, 1) := by decide +kernel
def fp_X4_says_L28 (v0 : Nat) (v1 : Nat) (M : zM) : Nat → Int32 → Option (Int32)
  | 0, _ => none
  | n + 1, v2 =>
    (zsl v1).bind fun (y5 : Int32) =>
    if v2 ≥ y5 then (
      some 1)
    else (
      (zgI 3 M v0 7).bind fun (y6 : Int32) =>
      (fp_X4_byteAt v0 (y6 + v2) M).bind fun (y7 : Int32) =>
      (zsc v1 v2).bind fun (y8 : Int32) =>
      if y7 = y8 then (
        fp_X4_says_L28 v0 v1 M n (v2 + 1))
      else (
        some 0))
def fp_X4_says (v0 : Nat) (v1 : Nat) (M : zM) : Option (Int32) :=
  zthis 3 M v0 (
    (zgI 3 M v0 6).bind fun (y1 : Int32) =>
    if y1 ≠ 1 then (
      some 0)
    else (
      (zgI 3 M v0 8).bind fun (y2 : Int32) =>
      (zgI 3 M v0 7).bind fun (y3 : Int32) =>
      (zsl v1).bind fun (y4 : Int32) =>
      if (y2 - y3) = y4 then (
        fp_X4_says_L28 v0 v1 M FU 0)
      else (
        some 0)))
set_option maxHeartbeats 4000000 in
set_option maxRecDepth 100000 in
theorem th_X4_says {v0 : Nat} {v1 : Nat} {M : zM} {x0 : Int32} (h : fp_X4_says v0 v1 M = some x0) : v0 < zS M ∧ kd v0 = 3 := by
  unfold fp_X4_says at h
  exact zthis_of h
set_option maxHeartbeats 4000000 in
set_option maxRecDepth 100000 in
theorem w_X4_says_L28 (E : zEnv) (hE : zEok E) (d : Nat) (hd : 9 ≤ d) (x0 : Int32) (v0 : Nat) (v1 : Nat) (M : zM)  : ∀ (n : Nat) (v2 : Int32), zSy E mu_X4_says d M (some (.int x0), M) x0 (fp_X4_says_L28 v0 v1 M n v2) 28 [(0, .ref (E.2.2.2.1 + v0)), (1, .ref (E.2.2.2.2.2 v1)), (2, .int v2)] [] M := by
  intro n
  induction n with
  | zero =>
    intro v2
    rw [fp_X4_says_L28]
    exact zs_none
  | succ n ih =>
    intro v2
    rw [fp_X4_says_L28]
    refine zs_iload_n dX4_says_28 rfl 2 rfl ?_
    refine zs_aload_n dX4_says_29 rfl 1 rfl ?_
    refine zs_slen hE dX4_says_30 (ti_2 105 rfl rfl) (zd0 rfl hd) (Nat.le_of_ble_eq_true rfl) (fun y5 => ?_)
    refine zs_icmp_ge dX4_says_33 rfl ?_ ?_
    · refine zs_iconst (v := 1) dX4_says_62 ciconst_1 ?_
      exact zs_iretP dX4_says_63 rfl
    refine zs_aload_n dX4_says_36 rfl 0 rfl ?_
    refine zs_aload_n dX4_says_37 rfl 0 rfl ?_
    refine zs_getI dX4_says_38 fl_X4_53 rfl (fun y6 => ?_)
    refine zs_iload_n dX4_says_41 rfl 2 rfl ?_
    refine zs_iadd dX4_says_42 ?_
    refine zs_invVPI (rest := []) [.int (y6 + v2)] dX4_says_43 lk_X4_56 rfl (fun _ h => th_X4_byteAt h) (zd1 rfl hd) rfl (Nat.le_of_ble_eq_true rfl) (ct_X4_byteAt E hE _ (zdl rfl hd) _ _ _) (fun y7 => ?_)
    refine zs_aload_n dX4_says_46 rfl 1 rfl ?_
    refine zs_iload_n dX4_says_47 rfl 2 rfl ?_
    refine zs_schr hE dX4_says_48 (ti_2 115 rfl rfl) (zd0 rfl hd) (Nat.le_of_ble_eq_true rfl) (fun y8 => ?_)
    refine zs_icmp_eq dX4_says_51 rfl ?_ ?_
    · refine zs_iinc (v := (v2 + 1)) (loc' := [(0, .ref (E.2.2.2.1 + v0)), (1, .ref (E.2.2.2.2.2 v1)), (2, .int (v2 + 1))]) dX4_says_56 2 rfl (by rfl) (Nat.le_of_ble_eq_true rfl) [1, 2, 0] rfl ?_
      refine zs_goto dX4_says_59 rfl ?_
      exact ih (v2 + 1)
    refine zs_iconst (v := 0) dX4_says_54 ciconst_0 ?_
    exact zs_iretP dX4_says_55 rfl
set_option maxHeartbeats 4000000 in
set_option maxRecDepth 100000 in
theorem ct_X4_says (E : zEnv) (hE : zEok E) (d : Nat) (hd : 9 ≤ d) (v0 : Nat) (v1 : Nat) (M : zM) (x0 : Int32) (hx : fp_X4_says v0 v1 M = some x0) : zCt E mu_X4_says d [.ref (E.2.2.2.1 + v0), .ref (E.2.2.2.2.2 v1)] M (some (.int x0), M) := by
  refine zCt_of (μ := mu_X4_says) (t := fp_X4_says v0 v1 M) rfl rfl (Nat.le_of_ble_eq_true rfl) hx ?_
  change zSy E mu_X4_says d M (some (.int x0), M) x0 (fp_X4_says v0 v1 M) 0 [(0, .ref (E.2.2.2.1 + v0)), (1, .ref (E.2.2.2.2.2 v1))] [] M
  unfold fp_X4_says
  refine zs_this (fun hth => ?_)
  refine zs_aload_n dX4_says_0 rfl 0 rfl ?_
  refine zs_getI dX4_says_1 fl_X4_47 rfl (fun y1 => ?_)
  refine zs_iconst (v := 1) dX4_says_4 ciconst_1 ?_
  refine zs_icmp_ne dX4_says_5 rfl ?_ ?_
  · refine zs_iconst (v := 0) dX4_says_24 ciconst_0 ?_
    exact zs_iretP dX4_says_25 rfl
  refine zs_aload_n dX4_says_8 rfl 0 rfl ?_
  refine zs_getI dX4_says_9 fl_X4_40 rfl (fun y2 => ?_)
  refine zs_aload_n dX4_says_12 rfl 0 rfl ?_
  refine zs_getI dX4_says_13 fl_X4_53 rfl (fun y3 => ?_)
  refine zs_isub dX4_says_16 ?_
  refine zs_aload_n dX4_says_17 rfl 1 rfl ?_
  refine zs_slen hE dX4_says_18 (ti_2 105 rfl rfl) (zd0 rfl hd) (Nat.le_of_ble_eq_true rfl) (fun y4 => ?_)
  refine zs_icmp_eq dX4_says_21 rfl ?_ ?_
  · refine zs_iconst (v := 0) dX4_says_26 ciconst_0 ?_
    refine zs_istore_n (loc' := [(0, .ref (E.2.2.2.1 + v0)), (1, .ref (E.2.2.2.2.2 v1)), (2, .int 0)]) dX4_says_27 rfl (Nat.le_of_ble_eq_true rfl) [1, 2, 0] rfl ?_
    exact w_X4_says_L28 E hE d hd _ _ _ _ _ _
  refine zs_iconst (v := 0) dX4_says_24 ciconst_0 ?_
  exact zs_iretP dX4_says_25 rfl
theorem dX4_expect_0 : decode cX4_expect 0 = .ok (.aload_n 0, 1) := by decide +kernel
theorem dX4_expect_1 : decode cX4_expect 1 = .ok (.invokevirtual 43, 3) := by decide +kernel
theorem dX4_expect_4 : decode cX4_expect 4 = .ok (.ifCond .ne 5, 3) := by decide +kernel
theorem dX4_expect_7 : decode cX4_expect 7 = .ok (.iconst 0, 1) := by decide +kernel
theorem dX4_expect_8 : decode cX4_expect 8 = .ok (.ireturn, 1) := by decide +kernel
theorem dX4_expect_9 : decode cX4_expect 9 = .ok (.aload_n 0, 1) := by decide +kernel
theorem dX4_expect_10 : decode cX4_expect 10 = .ok (.getfield 47, 3) := by decide +kernel
theorem dX4_expect_13 : decode cX4_expect 13 = .ok (.iload_n 1, 1) := by decide +kernel
theorem dX4_expect_14 : decode cX4_expect 14 = .ok (.if_icmp .eq 8, 3) := by decide +kernel
theorem dX4_expect_17 : decode cX4_expect 17 = .ok (.aload_n 0, 1) := by decide +kernel
theorem dX4_expect_18 : decode cX4_expect 18 = .ok (.iconst 2, 1) := by decide +kernel
theorem dX4_expect_19 : decode cX4_expect 19 = .ok (.invokevirtual 70, 3) := by decide +kernel
theorem dX4_expect_22 : decode cX4_expect 22 = .ok (.aload_n 0, 1) := by decide +kernel
theorem dX4_expect_23 : decode cX4_expect 23 = .ok (.getfield 37, 3) := by decide +kernel
theorem dX4_expect_26 : decode cX4_expect 26 = .ok (.ifCond .ne 7, 3) := by decide +kernel
theorem dX4_expect_29 : decode cX4_expect 29 = .ok (.iconst 1, 1) := by decide +kernel
theorem dX4_expect_30 : decode cX4_expect 30 = .ok (.goto 4, 3) := by decide +kernel
theorem dX4_expect_33 : decode cX4_expect 33 = .ok (.iconst 0, 1) := by decide +kernel
theorem dX4_expect_34 : decode cX4_expect 34 = .ok (.ireturn, 1) := by decide +kernel
def fp_X4_expect (v0 : Nat) (v1 : Int32) (M : zM) : Option (Int32 × zM) :=
  zthis 3 M v0 (
    (fp_X4_nextToken v0 M).bind fun p3 => zpp p3 fun (y1 : Int32) (M2 : zM) =>
    if y1 ≠ 0 then (
      (zgI 3 M2 v0 6).bind fun (y4 : Int32) =>
      zjn (fun (M5 : zM) =>
          (zgI 3 M5 v0 2).bind fun (y6 : Int32) =>
          if y6 ≠ 0 then (
            some (0, M5))
          else (
            some (1, M5)))
        (fun j22 =>
          if y4 = v1 then (
            j22 M2)
          else (
            (fp_X4_fail v0 2 M2).bind fun (M7 : zM) =>
            j22 M7)))
    else (
      some (0, M2)))
set_option maxHeartbeats 4000000 in
set_option maxRecDepth 100000 in
theorem th_X4_expect {v0 : Nat} {v1 : Int32} {M : zM} {x0 : Int32 × zM} (h : fp_X4_expect v0 v1 M = some x0) : v0 < zS M ∧ kd v0 = 3 := by
  unfold fp_X4_expect at h
  exact zthis_of h
set_option maxHeartbeats 4000000 in
set_option maxRecDepth 100000 in
theorem ct_X4_expect (E : zEnv) (hE : zEok E) (d : Nat) (hd : 3 ≤ d) (v0 : Nat) (v1 : Int32) (M : zM) (x0 : Int32 × zM) (hx : fp_X4_expect v0 v1 M = some x0) : zCt E mu_X4_expect d [.ref (E.2.2.2.1 + v0), .int v1] M (some (.int x0.1), x0.2) := by
  refine zCt_of (μ := mu_X4_expect) (t := fp_X4_expect v0 v1 M) rfl rfl (Nat.le_of_ble_eq_true rfl) hx ?_
  change zSy E mu_X4_expect d M (some (.int x0.1), x0.2) x0 (fp_X4_expect v0 v1 M) 0 [(0, .ref (E.2.2.2.1 + v0)), (1, .int v1)] [] M
  unfold fp_X4_expect
  refine zs_this (fun hth => ?_)
  refine zs_aload_n dX4_expect_0 rfl 0 rfl ?_
  refine zs_invVWI (rest := []) [] dX4_expect_1 lk_X4_43 rfl (fun _ h => th_X4_nextToken h) (zd1 rfl hd) rfl (Nat.le_of_ble_eq_true rfl) (ct_X4_nextToken E hE _ (zdl rfl hd) _ _) (fun y1 M2 => ?_)
  refine zs_if_ne dX4_expect_4 rfl ?_ ?_
  · refine zs_aload_n dX4_expect_9 rfl 0 rfl ?_
    refine zs_getI dX4_expect_10 fl_X4_47 rfl (fun y4 => ?_)
    refine zs_iload_n dX4_expect_13 rfl 1 rfl ?_
    refine zs_jn (fun j22 => ∀ (M5 : zM), zSy E mu_X4_expect d M (some (.int x0.1), x0.2) x0 (j22 M5) 22 [(0, .ref (E.2.2.2.1 + v0))] [] M5) (fun M5 => ?_) (fun j22 hj22 => ?_)
    · refine zs_aload_n dX4_expect_22 rfl 0 rfl ?_
      refine zs_getI dX4_expect_23 fl_X4_37 rfl (fun y6 => ?_)
      refine zs_if_ne dX4_expect_26 rfl ?_ ?_
      · refine zs_iconst (v := 0) dX4_expect_33 ciconst_0 ?_
        exact zs_iretW dX4_expect_34 rfl
      refine zs_iconst (v := 1) dX4_expect_29 ciconst_1 ?_
      refine zs_goto dX4_expect_30 rfl ?_
      exact zs_iretW dX4_expect_34 rfl
    refine zs_icmp_eq dX4_expect_14 rfl ?_ ?_
    · refine zs_sub (loc' := [(0, .ref (E.2.2.2.1 + v0))]) [0] rfl ?_
      exact hj22 M2
    refine zs_aload_n dX4_expect_17 rfl 0 rfl ?_
    refine zs_iconst (v := 2) dX4_expect_18 ciconst_2 ?_
    refine zs_invVWV (rest := []) [.int 2] dX4_expect_19 lk_X4_70 rfl (fun _ h => th_X4_fail h) (zd1 rfl hd) rfl (Nat.le_of_ble_eq_true rfl) (ct_X4_fail E hE _ (zdl rfl hd) _ _ _) (fun M7 => ?_)
    refine zs_sub (loc' := [(0, .ref (E.2.2.2.1 + v0))]) [0] rfl ?_
    exact hj22 M7
  refine zs_iconst (v := 0) dX4_expect_7 ciconst_0 ?_
  exact zs_iretW dX4_expect_8 rfl
theorem dX4_readPoints_0 : decode cX4_readPoints 0 = .ok (.aload_n 0, 1) := by decide +kernel
theorem dX4_readPoints_1 : decode cX4_readPoints 1 = .ok (.iconst 2, 1) := by decide +kernel
theorem dX4_readPoints_2 : decode cX4_readPoints 2 = .ok (.invokevirtual 109, 3) := by decide +kernel
theorem dX4_readPoints_5 : decode cX4_readPoints 5 = .ok (.ifCond .ne 4, 3) := by decide +kernel
theorem dX4_readPoints_8 : decode cX4_readPoints 8 = .ok (.return_, 1) := by decide +kernel
theorem dX4_readPoints_9 : decode cX4_readPoints 9 = .ok (.aload_n 0, 1) := by decide +kernel
theorem dX4_readPoints_10 : decode cX4_readPoints 10 = .ok (.aload_n 0, 1) := by decide +kernel
theorem dX4_readPoints_11 : decode cX4_readPoints 11 = .ok (.getfield 53, 3) := by decide +kernel
theorem dX4_readPoints_14 : decode cX4_readPoints 14 = .ok (.invokevirtual 56, 3) := by decide +kernel
theorem dX4_readPoints_17 : decode cX4_readPoints 17 = .ok (.bipush 48, 2) := by decide +kernel
theorem dX4_readPoints_19 : decode cX4_readPoints 19 = .ok (.isub, 1) := by decide +kernel
theorem dX4_readPoints_20 : decode cX4_readPoints 20 = .ok (.istore_n 1, 1) := by decide +kernel
theorem dX4_readPoints_21 : decode cX4_readPoints 21 = .ok (.aload_n 0, 1) := by decide +kernel
theorem dX4_readPoints_22 : decode cX4_readPoints 22 = .ok (.getfield 31, 3) := by decide +kernel
theorem dX4_readPoints_25 : decode cX4_readPoints 25 = .ok (.iload_n 1, 1) := by decide +kernel
theorem dX4_readPoints_26 : decode cX4_readPoints 26 = .ok (.iadd, 1) := by decide +kernel
theorem dX4_readPoints_27 : decode cX4_readPoints 27 = .ok (.bipush 7, 2) := by decide +kernel
theorem dX4_readPoints_29 : decode cX4_readPoints 29 = .ok (.if_icmp .le 12, 3) := by decide +kernel
theorem dX4_readPoints_32 : decode cX4_readPoints 32 = .ok (.aload_n 0, 1) := by decide +kernel
theorem dX4_readPoints_33 : decode cX4_readPoints 33 = .ok (.bipush 6, 2) := by decide +kernel
theorem dX4_readPoints_35 : decode cX4_readPoints 35 = .ok (.invokevirtual 70, 3) := by decide +kernel
theorem dX4_readPoints_38 : decode cX4_readPoints 38 = .ok (.goto 13, 3) := by decide +kernel
theorem dX4_readPoints_41 : decode cX4_readPoints 41 = .ok (.aload_n 0, 1) := by decide +kernel
theorem dX4_readPoints_42 : decode cX4_readPoints 42 = .ok (.dup, 1) := by decide +kernel
theorem dX4_readPoints_43 : decode cX4_readPoints 43 = .ok (.getfield 31, 3) := by decide +kernel
theorem dX4_readPoints_46 : decode cX4_readPoints 46 = .ok (.iload_n 1, 1) := by decide +kernel
theorem dX4_readPoints_47 : decode cX4_readPoints 47 = .ok (.iadd, 1) := by decide +kernel
theorem dX4_readPoints_48 : decode cX4_readPoints 48 = .ok (.putfield 31, 3) := by decide +kernel
theorem dX4_readPoints_51 : decode cX4_readPoints 51 = .ok (.return_, 1) := by decide +kernel
def fp_X4_readPoints (v0 : Nat) (M : zM) : Option (zM) :=
  zthis 3 M v0 (
    (fp_X4_expect v0 2 M).bind fun p3 => zpp p3 fun (y1 : Int32) (M2 : zM) =>
    if y1 ≠ 0 then (
      (zgI 3 M2 v0 7).bind fun (y4 : Int32) =>
      (fp_X4_byteAt v0 y4 M2).bind fun (y5 : Int32) =>
      lett ((y5 - 48)) fun (v1_6 : Int32) =>
      (zgI 3 M2 v0 0).bind fun (y7 : Int32) =>
      if (y7 + v1_6) ≤ 7 then (
        (zgI 3 M2 v0 0).bind fun (y8 : Int32) =>
        (zpI 3 M2 v0 0 (y8 + v1_6)).bind fun (M9 : zM) =>
        some M9)
      else (
        (fp_X4_fail v0 6 M2).bind fun (M10 : zM) =>
        some M10))
    else (
      some M2))
set_option maxHeartbeats 4000000 in
set_option maxRecDepth 100000 in
theorem th_X4_readPoints {v0 : Nat} {M : zM} {x0 : zM} (h : fp_X4_readPoints v0 M = some x0) : v0 < zS M ∧ kd v0 = 3 := by
  unfold fp_X4_readPoints at h
  exact zthis_of h
set_option maxHeartbeats 4000000 in
set_option maxRecDepth 100000 in
theorem ct_X4_readPoints (E : zEnv) (hE : zEok E) (d : Nat) (hd : 4 ≤ d) (v0 : Nat) (M : zM) (x0 : zM) (hx : fp_X4_readPoints v0 M = some x0) : zCt E mu_X4_readPoints d [.ref (E.2.2.2.1 + v0)] M (none, x0) := by
  refine zCt_of (μ := mu_X4_readPoints) (t := fp_X4_readPoints v0 M) rfl rfl (Nat.le_of_ble_eq_true rfl) hx ?_
  change zSy E mu_X4_readPoints d M (none, x0) x0 (fp_X4_readPoints v0 M) 0 [(0, .ref (E.2.2.2.1 + v0))] [] M
  unfold fp_X4_readPoints
  refine zs_this (fun hth => ?_)
  refine zs_aload_n dX4_readPoints_0 rfl 0 rfl ?_
  refine zs_iconst (v := 2) dX4_readPoints_1 ciconst_2 ?_
  refine zs_invVWI (rest := []) [.int 2] dX4_readPoints_2 lk_X4_109 rfl (fun _ h => th_X4_expect h) (zd1 rfl hd) rfl (Nat.le_of_ble_eq_true rfl) (ct_X4_expect E hE _ (zdl rfl hd) _ _ _) (fun y1 M2 => ?_)
  refine zs_if_ne dX4_readPoints_5 rfl ?_ ?_
  · refine zs_aload_n dX4_readPoints_9 rfl 0 rfl ?_
    refine zs_aload_n dX4_readPoints_10 rfl 0 rfl ?_
    refine zs_getI dX4_readPoints_11 fl_X4_53 rfl (fun y4 => ?_)
    refine zs_invVPI (rest := []) [.int y4] dX4_readPoints_14 lk_X4_56 rfl (fun _ h => th_X4_byteAt h) (zd1 rfl hd) rfl (Nat.le_of_ble_eq_true rfl) (ct_X4_byteAt E hE _ (zdl rfl hd) _ _ _) (fun y5 => ?_)
    refine zs_bipush (v := 48) dX4_readPoints_17 cbipush_48 ?_
    refine zs_isub dX4_readPoints_19 ?_
    refine zs_istore_nL (loc' := fun v1_6 => [(0, .ref (E.2.2.2.1 + v0)), (1, .int v1_6)]) dX4_readPoints_20 rfl (Nat.le_of_ble_eq_true rfl) [1, 0] (fun _ => rfl) (fun v1_6 => ?_)
    refine zs_aload_n dX4_readPoints_21 rfl 0 rfl ?_
    refine zs_getI dX4_readPoints_22 fl_X4_31 rfl (fun y7 => ?_)
    refine zs_iload_n dX4_readPoints_25 rfl 1 rfl ?_
    refine zs_iadd dX4_readPoints_26 ?_
    refine zs_bipush (v := 7) dX4_readPoints_27 cbipush_7 ?_
    refine zs_icmp_le dX4_readPoints_29 rfl ?_ ?_
    · refine zs_aload_n dX4_readPoints_41 rfl 0 rfl ?_
      refine zs_dup dX4_readPoints_42 rfl ?_
      refine zs_getI dX4_readPoints_43 fl_X4_31 rfl (fun y8 => ?_)
      refine zs_iload_n dX4_readPoints_46 rfl 1 rfl ?_
      refine zs_iadd dX4_readPoints_47 ?_
      refine zs_putI dX4_readPoints_48 fl_X4_31 ft_X4 rfl rfl rfl rfl rfl (fun M9 => ?_)
      exact zs_vret dX4_readPoints_51 trivial
    refine zs_aload_n dX4_readPoints_32 rfl 0 rfl ?_
    refine zs_bipush (v := 6) dX4_readPoints_33 cbipush_6 ?_
    refine zs_invVWV (rest := []) [.int 6] dX4_readPoints_35 lk_X4_70 rfl (fun _ h => th_X4_fail h) (zd1 rfl hd) rfl (Nat.le_of_ble_eq_true rfl) (ct_X4_fail E hE _ (zdl rfl hd) _ _ _) (fun M10 => ?_)
    refine zs_goto dX4_readPoints_38 rfl ?_
    exact zs_vret dX4_readPoints_51 trivial
  exact zs_vret dX4_readPoints_8 trivial
theorem dX4_readPoint_0 : decode cX4_readPoint 0 = .ok (.aload_n 0, 1) := by decide +kernel
theorem dX4_readPoint_1 : decode cX4_readPoint 1 = .ok (.iconst 2, 1) := by decide +kernel
theorem dX4_readPoint_2 : decode cX4_readPoint 2 = .ok (.invokevirtual 109, 3) := by decide +kernel
theorem dX4_readPoint_5 : decode cX4_readPoint 5 = .ok (.ifCond .ne 5, 3) := by decide +kernel
theorem dX4_readPoint_8 : decode cX4_readPoint 8 = .ok (.iconst (-1), 1) := by decide +kernel
theorem dX4_readPoint_9 : decode cX4_readPoint 9 = .ok (.ireturn, 1) := by decide +kernel
theorem dX4_readPoint_10 : decode cX4_readPoint 10 = .ok (.aload_n 0, 1) := by decide +kernel
theorem dX4_readPoint_11 : decode cX4_readPoint 11 = .ok (.aload_n 0, 1) := by decide +kernel
theorem dX4_readPoint_12 : decode cX4_readPoint 12 = .ok (.getfield 53, 3) := by decide +kernel
theorem dX4_readPoint_15 : decode cX4_readPoint 15 = .ok (.invokevirtual 56, 3) := by decide +kernel
theorem dX4_readPoint_18 : decode cX4_readPoint 18 = .ok (.bipush 48, 2) := by decide +kernel
theorem dX4_readPoint_20 : decode cX4_readPoint 20 = .ok (.isub, 1) := by decide +kernel
theorem dX4_readPoint_21 : decode cX4_readPoint 21 = .ok (.istore_n 1, 1) := by decide +kernel
theorem dX4_readPoint_22 : decode cX4_readPoint 22 = .ok (.iload_n 1, 1) := by decide +kernel
theorem dX4_readPoint_23 : decode cX4_readPoint 23 = .ok (.aload_n 0, 1) := by decide +kernel
theorem dX4_readPoint_24 : decode cX4_readPoint 24 = .ok (.getfield 31, 3) := by decide +kernel
theorem dX4_readPoint_27 : decode cX4_readPoint 27 = .ok (.if_icmp .lt 10, 3) := by decide +kernel
theorem dX4_readPoint_30 : decode cX4_readPoint 30 = .ok (.aload_n 0, 1) := by decide +kernel
theorem dX4_readPoint_31 : decode cX4_readPoint 31 = .ok (.iconst 3, 1) := by decide +kernel
theorem dX4_readPoint_32 : decode cX4_readPoint 32 = .ok (.invokevirtual 70, 3) := by decide +kernel
theorem dX4_readPoint_35 : decode cX4_readPoint 35 = .ok (.iconst (-1), 1) := by decide +kernel
theorem dX4_readPoint_36 : decode cX4_readPoint 36 = .ok (.ireturn, 1) := by decide +kernel
theorem dX4_readPoint_37 : decode cX4_readPoint 37 = .ok (.iload_n 1, 1) := by decide +kernel
theorem dX4_readPoint_38 : decode cX4_readPoint 38 = .ok (.ireturn, 1) := by decide +kernel
def fp_X4_readPoint (v0 : Nat) (M : zM) : Option (Int32 × zM) :=
  zthis 3 M v0 (
    (fp_X4_expect v0 2 M).bind fun p3 => zpp p3 fun (y1 : Int32) (M2 : zM) =>
    if y1 ≠ 0 then (
      (zgI 3 M2 v0 7).bind fun (y4 : Int32) =>
      (fp_X4_byteAt v0 y4 M2).bind fun (y5 : Int32) =>
      lett ((y5 - 48)) fun (v1_6 : Int32) =>
      (zgI 3 M2 v0 0).bind fun (y7 : Int32) =>
      if v1_6 < y7 then (
        some (v1_6, M2))
      else (
        (fp_X4_fail v0 3 M2).bind fun (M8 : zM) =>
        some ((-1), M8)))
    else (
      some ((-1), M2)))
set_option maxHeartbeats 4000000 in
set_option maxRecDepth 100000 in
theorem th_X4_readPoint {v0 : Nat} {M : zM} {x0 : Int32 × zM} (h : fp_X4_readPoint v0 M = some x0) : v0 < zS M ∧ kd v0 = 3 := by
  unfold fp_X4_readPoint at h
  exact zthis_of h
set_option maxHeartbeats 4000000 in
set_option maxRecDepth 100000 in
theorem ct_X4_readPoint (E : zEnv) (hE : zEok E) (d : Nat) (hd : 4 ≤ d) (v0 : Nat) (M : zM) (x0 : Int32 × zM) (hx : fp_X4_readPoint v0 M = some x0) : zCt E mu_X4_readPoint d [.ref (E.2.2.2.1 + v0)] M (some (.int x0.1), x0.2) := by
  refine zCt_of (μ := mu_X4_readPoint) (t := fp_X4_readPoint v0 M) rfl rfl (Nat.le_of_ble_eq_true rfl) hx ?_
  change zSy E mu_X4_readPoint d M (some (.int x0.1), x0.2) x0 (fp_X4_readPoint v0 M) 0 [(0, .ref (E.2.2.2.1 + v0))] [] M
  unfold fp_X4_readPoint
  refine zs_this (fun hth => ?_)
  refine zs_aload_n dX4_readPoint_0 rfl 0 rfl ?_
  refine zs_iconst (v := 2) dX4_readPoint_1 ciconst_2 ?_
  refine zs_invVWI (rest := []) [.int 2] dX4_readPoint_2 lk_X4_109 rfl (fun _ h => th_X4_expect h) (zd1 rfl hd) rfl (Nat.le_of_ble_eq_true rfl) (ct_X4_expect E hE _ (zdl rfl hd) _ _ _) (fun y1 M2 => ?_)
  refine zs_if_ne dX4_readPoint_5 rfl ?_ ?_
  · refine zs_aload_n dX4_readPoint_10 rfl 0 rfl ?_
    refine zs_aload_n dX4_readPoint_11 rfl 0 rfl ?_
    refine zs_getI dX4_readPoint_12 fl_X4_53 rfl (fun y4 => ?_)
    refine zs_invVPI (rest := []) [.int y4] dX4_readPoint_15 lk_X4_56 rfl (fun _ h => th_X4_byteAt h) (zd1 rfl hd) rfl (Nat.le_of_ble_eq_true rfl) (ct_X4_byteAt E hE _ (zdl rfl hd) _ _ _) (fun y5 => ?_)
    refine zs_bipush (v := 48) dX4_readPoint_18 cbipush_48 ?_
    refine zs_isub dX4_readPoint_20 ?_
    refine zs_istore_nL (loc' := fun v1_6 => [(0, .ref (E.2.2.2.1 + v0)), (1, .int v1_6)]) dX4_readPoint_21 rfl (Nat.le_of_ble_eq_true rfl) [1, 0] (fun _ => rfl) (fun v1_6 => ?_)
    refine zs_iload_n dX4_readPoint_22 rfl 1 rfl ?_
    refine zs_aload_n dX4_readPoint_23 rfl 0 rfl ?_
    refine zs_getI dX4_readPoint_24 fl_X4_31 rfl (fun y7 => ?_)
    refine zs_icmp_lt dX4_readPoint_27 rfl ?_ ?_
    · refine zs_iload_n dX4_readPoint_37 rfl 1 rfl ?_
      exact zs_iretW dX4_readPoint_38 rfl
    refine zs_aload_n dX4_readPoint_30 rfl 0 rfl ?_
    refine zs_iconst (v := 3) dX4_readPoint_31 ciconst_3 ?_
    refine zs_invVWV (rest := []) [.int 3] dX4_readPoint_32 lk_X4_70 rfl (fun _ h => th_X4_fail h) (zd1 rfl hd) rfl (Nat.le_of_ble_eq_true rfl) (ct_X4_fail E hE _ (zdl rfl hd) _ _ _) (fun M8 => ?_)
    refine zs_iconst (v := (-1)) dX4_readPoint_35 ciconst_m1 ?_
    exact zs_iretW dX4_readPoint_36 rfl
  refine zs_iconst (v := (-1)) dX4_readPoint_8 ciconst_m1 ?_
  exact zs_iretW dX4_readPoint_9 rfl
theorem dX4_readCouple_0 : decode cX4_readCouple 0 = .ok (.aload_n 0, 1) := by decide +kernel
theorem dX4_readCouple_1 : decode cX4_readCouple 1 = .ok (.invokevirtual 112, 3) := by decide +kernel
theorem dX4_readCouple_4 : decode cX4_readCouple 4 = .ok (.istore_n 2, 1) := by decide +kernel
theorem dX4_readCouple_5 : decode cX4_readCouple 5 = .ok (.iload_n 2, 1) := by decide +kernel
theorem dX4_readCouple_6 : decode cX4_readCouple 6 = .ok (.ifCond .ge 7, 3) := by decide +kernel
theorem dX4_readCouple_9 : decode cX4_readCouple 9 = .ok (.iconst (-1), 1) := by decide +kernel
theorem dX4_readCouple_10 : decode cX4_readCouple 10 = .ok (.goto 7, 3) := by decide +kernel
theorem dX4_readCouple_13 : decode cX4_readCouple 13 = .ok (.aload_n 0, 1) := by decide +kernel
theorem dX4_readCouple_14 : decode cX4_readCouple 14 = .ok (.invokevirtual 112, 3) := by decide +kernel
theorem dX4_readCouple_17 : decode cX4_readCouple 17 = .ok (.istore_n 3, 1) := by decide +kernel
theorem dX4_readCouple_18 : decode cX4_readCouple 18 = .ok (.iload_n 3, 1) := by decide +kernel
theorem dX4_readCouple_19 : decode cX4_readCouple 19 = .ok (.ifCond .ge 4, 3) := by decide +kernel
theorem dX4_readCouple_22 : decode cX4_readCouple 22 = .ok (.return_, 1) := by decide +kernel
theorem dX4_readCouple_23 : decode cX4_readCouple 23 = .ok (.iload_n 2, 1) := by decide +kernel
theorem dX4_readCouple_24 : decode cX4_readCouple 24 = .ok (.iload_n 3, 1) := by decide +kernel
theorem dX4_readCouple_25 : decode cX4_readCouple 25 = .ok (.if_icmp .ne 11, 3) := by decide +kernel
theorem dX4_readCouple_28 : decode cX4_readCouple 28 = .ok (.aload_n 0, 1) := by decide +kernel
theorem dX4_readCouple_29 : decode cX4_readCouple 29 = .ok (.iconst 4, 1) := by decide +kernel
theorem dX4_readCouple_30 : decode cX4_readCouple 30 = .ok (.invokevirtual 70, 3) := by decide +kernel
theorem dX4_readCouple_33 : decode cX4_readCouple 33 = .ok (.goto 64, 3) := by decide +kernel
theorem dX4_readCouple_36 : decode cX4_readCouple 36 = .ok (.aload_n 0, 1) := by decide +kernel
theorem dX4_readCouple_37 : decode cX4_readCouple 37 = .ok (.getfield 34, 3) := by decide +kernel
theorem dX4_readCouple_40 : decode cX4_readCouple 40 = .ok (.iload_n 2, 1) := by decide +kernel
theorem dX4_readCouple_41 : decode cX4_readCouple 41 = .ok (.iload_n 3, 1) := by decide +kernel
theorem dX4_readCouple_42 : decode cX4_readCouple 42 = .ok (.invokestatic 121, 3) := by decide +kernel
theorem dX4_readCouple_45 : decode cX4_readCouple 45 = .ok (.iload_n 1, 1) := by decide +kernel
theorem dX4_readCouple_46 : decode cX4_readCouple 46 = .ok (.if_icmp .eq 11, 3) := by decide +kernel
theorem dX4_readCouple_49 : decode cX4_readCouple 49 = .ok (.aload_n 0, 1) := by decide +kernel
theorem dX4_readCouple_50 : decode cX4_readCouple 50 = .ok (.iconst 5, 1) := by decide +kernel
theorem dX4_readCouple_51 : decode cX4_readCouple 51 = .ok (.invokevirtual 70, 3) := by decide +kernel
theorem dX4_readCouple_54 : decode cX4_readCouple 54 = .ok (.goto 43, 3) := by decide +kernel
theorem dX4_readCouple_57 : decode cX4_readCouple 57 = .ok (.iload_n 1, 1) := by decide +kernel
theorem dX4_readCouple_58 : decode cX4_readCouple 58 = .ok (.ifCond .eq 23, 3) := by decide +kernel
theorem dX4_readCouple_61 : decode cX4_readCouple 61 = .ok (.aload_n 0, 1) := by decide +kernel
theorem dX4_readCouple_62 : decode cX4_readCouple 62 = .ok (.aload_n 0, 1) := by decide +kernel
theorem dX4_readCouple_63 : decode cX4_readCouple 63 = .ok (.getfield 31, 3) := by decide +kernel
theorem dX4_readCouple_66 : decode cX4_readCouple 66 = .ok (.aload_n 0, 1) := by decide +kernel
theorem dX4_readCouple_67 : decode cX4_readCouple 67 = .ok (.getfield 34, 3) := by decide +kernel
theorem dX4_readCouple_70 : decode cX4_readCouple 70 = .ok (.iload_n 2, 1) := by decide +kernel
theorem dX4_readCouple_71 : decode cX4_readCouple 71 = .ok (.iload_n 3, 1) := by decide +kernel
theorem dX4_readCouple_72 : decode cX4_readCouple 72 = .ok (.invokestatic 125, 3) := by decide +kernel
theorem dX4_readCouple_75 : decode cX4_readCouple 75 = .ok (.putfield 34, 3) := by decide +kernel
theorem dX4_readCouple_78 : decode cX4_readCouple 78 = .ok (.goto 19, 3) := by decide +kernel
theorem dX4_readCouple_81 : decode cX4_readCouple 81 = .ok (.aload_n 0, 1) := by decide +kernel
theorem dX4_readCouple_82 : decode cX4_readCouple 82 = .ok (.dup, 1) := by decide +kernel
theorem dX4_readCouple_83 : decode cX4_readCouple 83 = .ok (.getfield 34, 3) := by decide +kernel
theorem dX4_readCouple_86 : decode cX4_readCouple 86 = .ok (.iconst 1, 1) := by decide +kernel
theorem dX4_readCouple_87 : decode cX4_readCouple 87 = .ok (.iload_n 2, 1) := by decide +kernel
theorem dX4_readCouple_88 : decode cX4_readCouple 88 = .ok (.iload_n 3, 1) := by decide +kernel
theorem dX4_readCouple_89 : decode cX4_readCouple 89 = .ok (.invokestatic 129, 3) := by decide +kernel
theorem dX4_readCouple_92 : decode cX4_readCouple 92 = .ok (.ishl, 1) := by decide +kernel
theorem dX4_readCouple_93 : decode cX4_readCouple 93 = .ok (.ior, 1) := by decide +kernel
theorem dX4_readCouple_94 : decode cX4_readCouple 94 = .ok (.putfield 34, 3) := by decide +kernel
theorem dX4_readCouple_97 : decode cX4_readCouple 97 = .ok (.return_, 1) := by decide +kernel
def fp_X4_readCouple (v0 : Nat) (v1 : Int32) (M : zM) : Option (zM) :=
  zthis 3 M v0 (
    (fp_X4_readPoint v0 M).bind fun p3 => zpp p3 fun (y1 : Int32) (M2 : zM) =>
    zjn (fun (s4 : Int32) (M5 : zM) =>
        if s4 ≥ 0 then (
          if y1 ≠ s4 then (
            (zgI 3 M5 v0 1).bind fun (y6 : Int32) =>
            (fp_X2_tied y6 y1 s4).bind fun (y7 : Int32) =>
            if y7 = v1 then (
              if v1 = 0 then (
                (zgI 3 M5 v0 1).bind fun (y8 : Int32) =>
                (fp_X2_pair y1 s4).bind fun (y9 : Int32) =>
                (zpI 3 M5 v0 1 (y8 ||| (1 <<< (y9 &&& 31)))).bind fun (M10 : zM) =>
                some M10)
              else (
                (zgI 3 M5 v0 0).bind fun (y11 : Int32) =>
                (zgI 3 M5 v0 1).bind fun (y12 : Int32) =>
                (fp_X2_swungOver y11 y12 y1 s4).bind fun (y13 : Int32) =>
                (zpI 3 M5 v0 1 y13).bind fun (M14 : zM) =>
                some M14))
            else (
              (fp_X4_fail v0 5 M5).bind fun (M15 : zM) =>
              some M15))
          else (
            (fp_X4_fail v0 4 M5).bind fun (M16 : zM) =>
            some M16))
        else (
          some M5))
      (fun j17 =>
        if y1 ≥ 0 then (
          (fp_X4_readPoint v0 M2).bind fun p19 => zpp p19 fun (y17 : Int32) (M18 : zM) =>
          j17 y17 M18)
        else (
          j17 (-1) M2)))
set_option maxHeartbeats 4000000 in
set_option maxRecDepth 100000 in
theorem th_X4_readCouple {v0 : Nat} {v1 : Int32} {M : zM} {x0 : zM} (h : fp_X4_readCouple v0 v1 M = some x0) : v0 < zS M ∧ kd v0 = 3 := by
  unfold fp_X4_readCouple at h
  exact zthis_of h
set_option maxHeartbeats 4000000 in
set_option maxRecDepth 100000 in
theorem ct_X4_readCouple (E : zEnv) (hE : zEok E) (d : Nat) (hd : 5 ≤ d) (v0 : Nat) (v1 : Int32) (M : zM) (x0 : zM) (hx : fp_X4_readCouple v0 v1 M = some x0) : zCt E mu_X4_readCouple d [.ref (E.2.2.2.1 + v0), .int v1] M (none, x0) := by
  refine zCt_of (μ := mu_X4_readCouple) (t := fp_X4_readCouple v0 v1 M) rfl rfl (Nat.le_of_ble_eq_true rfl) hx ?_
  change zSy E mu_X4_readCouple d M (none, x0) x0 (fp_X4_readCouple v0 v1 M) 0 [(0, .ref (E.2.2.2.1 + v0)), (1, .int v1)] [] M
  unfold fp_X4_readCouple
  refine zs_this (fun hth => ?_)
  refine zs_aload_n dX4_readCouple_0 rfl 0 rfl ?_
  refine zs_invVWI (rest := []) [] dX4_readCouple_1 lk_X4_112 rfl (fun _ h => th_X4_readPoint h) (zd1 rfl hd) rfl (Nat.le_of_ble_eq_true rfl) (ct_X4_readPoint E hE _ (zdl rfl hd) _ _) (fun y1 M2 => ?_)
  refine zs_istore_n (loc' := [(0, .ref (E.2.2.2.1 + v0)), (1, .int v1), (2, .int y1)]) dX4_readCouple_4 rfl (Nat.le_of_ble_eq_true rfl) [1, 2, 0] rfl ?_
  refine zs_iload_n dX4_readCouple_5 rfl 2 rfl ?_
  refine zs_jn (fun j17 => ∀ (s4 : Int32) (M5 : zM), zSy E mu_X4_readCouple d M (none, x0) x0 (j17 s4 M5) 17 [(0, .ref (E.2.2.2.1 + v0)), (1, .int v1), (2, .int y1)] [.int s4] M5) (fun s4 M5 => ?_) (fun j17 hj17 => ?_)
  · refine zs_istore_n (loc' := [(0, .ref (E.2.2.2.1 + v0)), (1, .int v1), (2, .int y1), (3, .int s4)]) dX4_readCouple_17 rfl (Nat.le_of_ble_eq_true rfl) [1, 2, 3, 0] rfl ?_
    refine zs_iload_n dX4_readCouple_18 rfl 3 rfl ?_
    refine zs_if_ge dX4_readCouple_19 rfl ?_ ?_
    · refine zs_iload_n dX4_readCouple_23 rfl 2 rfl ?_
      refine zs_iload_n dX4_readCouple_24 rfl 3 rfl ?_
      refine zs_icmp_ne dX4_readCouple_25 rfl ?_ ?_
      · refine zs_aload_n dX4_readCouple_36 rfl 0 rfl ?_
        refine zs_getI dX4_readCouple_37 fl_X4_34 rfl (fun y6 => ?_)
        refine zs_iload_n dX4_readCouple_40 rfl 2 rfl ?_
        refine zs_iload_n dX4_readCouple_41 rfl 3 rfl ?_
        refine zs_invSPI (rest := []) [.int y6, .int y1, .int s4] dX4_readCouple_42 lk_X4_121 rfl (zd1 rfl hd) rfl (Nat.le_of_ble_eq_true rfl) (ct_X2_tied E hE _ (zdl rfl hd) _ _ _ _) (fun y7 => ?_)
        refine zs_iload_n dX4_readCouple_45 rfl 1 rfl ?_
        refine zs_icmp_eq dX4_readCouple_46 rfl ?_ ?_
        · refine zs_iload_n dX4_readCouple_57 rfl 1 rfl ?_
          refine zs_if_eq dX4_readCouple_58 rfl ?_ ?_
          · refine zs_aload_n dX4_readCouple_81 rfl 0 rfl ?_
            refine zs_dup dX4_readCouple_82 rfl ?_
            refine zs_getI dX4_readCouple_83 fl_X4_34 rfl (fun y8 => ?_)
            refine zs_iconst (v := 1) dX4_readCouple_86 ciconst_1 ?_
            refine zs_iload_n dX4_readCouple_87 rfl 2 rfl ?_
            refine zs_iload_n dX4_readCouple_88 rfl 3 rfl ?_
            refine zs_invSPI (rest := [.int 1, .int y8, .ref (E.2.2.2.1 + v0)]) [.int y1, .int s4] dX4_readCouple_89 lk_X4_129 rfl (zd1 rfl hd) rfl (Nat.le_of_ble_eq_true rfl) (ct_X2_pair E hE _ (zdl rfl hd) _ _ _) (fun y9 => ?_)
            refine zs_ishl dX4_readCouple_92 ?_
            refine zs_ior dX4_readCouple_93 ?_
            refine zs_putI dX4_readCouple_94 fl_X4_34 ft_X4 rfl rfl rfl rfl rfl (fun M10 => ?_)
            exact zs_vret dX4_readCouple_97 trivial
          refine zs_aload_n dX4_readCouple_61 rfl 0 rfl ?_
          refine zs_aload_n dX4_readCouple_62 rfl 0 rfl ?_
          refine zs_getI dX4_readCouple_63 fl_X4_31 rfl (fun y11 => ?_)
          refine zs_aload_n dX4_readCouple_66 rfl 0 rfl ?_
          refine zs_getI dX4_readCouple_67 fl_X4_34 rfl (fun y12 => ?_)
          refine zs_iload_n dX4_readCouple_70 rfl 2 rfl ?_
          refine zs_iload_n dX4_readCouple_71 rfl 3 rfl ?_
          refine zs_invSPI (rest := [.ref (E.2.2.2.1 + v0)]) [.int y11, .int y12, .int y1, .int s4] dX4_readCouple_72 lk_X4_125 rfl (zd1 rfl hd) rfl (Nat.le_of_ble_eq_true rfl) (ct_X2_swungOver E hE _ (zdl rfl hd) _ _ _ _ _) (fun y13 => ?_)
          refine zs_putI dX4_readCouple_75 fl_X4_34 ft_X4 rfl rfl rfl rfl rfl (fun M14 => ?_)
          refine zs_goto dX4_readCouple_78 rfl ?_
          exact zs_vret dX4_readCouple_97 trivial
        refine zs_aload_n dX4_readCouple_49 rfl 0 rfl ?_
        refine zs_iconst (v := 5) dX4_readCouple_50 ciconst_5 ?_
        refine zs_invVWV (rest := []) [.int 5] dX4_readCouple_51 lk_X4_70 rfl (fun _ h => th_X4_fail h) (zd1 rfl hd) rfl (Nat.le_of_ble_eq_true rfl) (ct_X4_fail E hE _ (zdl rfl hd) _ _ _) (fun M15 => ?_)
        refine zs_goto dX4_readCouple_54 rfl ?_
        exact zs_vret dX4_readCouple_97 trivial
      refine zs_aload_n dX4_readCouple_28 rfl 0 rfl ?_
      refine zs_iconst (v := 4) dX4_readCouple_29 ciconst_4 ?_
      refine zs_invVWV (rest := []) [.int 4] dX4_readCouple_30 lk_X4_70 rfl (fun _ h => th_X4_fail h) (zd1 rfl hd) rfl (Nat.le_of_ble_eq_true rfl) (ct_X4_fail E hE _ (zdl rfl hd) _ _ _) (fun M16 => ?_)
      refine zs_goto dX4_readCouple_33 rfl ?_
      exact zs_vret dX4_readCouple_97 trivial
    exact zs_vret dX4_readCouple_22 trivial
  refine zs_if_ge dX4_readCouple_6 rfl ?_ ?_
  · refine zs_aload_n dX4_readCouple_13 rfl 0 rfl ?_
    refine zs_invVWI (rest := []) [] dX4_readCouple_14 lk_X4_112 rfl (fun _ h => th_X4_readPoint h) (zd1 rfl hd) rfl (Nat.le_of_ble_eq_true rfl) (ct_X4_readPoint E hE _ (zdl rfl hd) _ _) (fun y17 M18 => ?_)
    exact hj17 y17 M18
  refine zs_iconst (v := (-1)) dX4_readCouple_9 ciconst_m1 ?_
  refine zs_goto dX4_readCouple_10 rfl ?_
  exact hj17 (-1) M2
theorem dX4_unlikeLetters_0 : decode cX4_unlikeLetters 0 = .ok (.iconst 0, 1) := by decide +kernel
theorem dX4_unlikeLetters_1 : decode cX4_unlikeLetters 1 = .ok (.istore_n 1, 1) := by decide +kernel
theorem dX4_unlikeLetters_2 : decode cX4_unlikeLetters 2 = .ok (.aload_n 0, 1) := by decide +kernel
theorem dX4_unlikeLetters_3 : decode cX4_unlikeLetters 3 = .ok (.getfield 53, 3) := by decide +kernel
theorem dX4_unlikeLetters_6 : decode cX4_unlikeLetters 6 = .ok (.istore_n 2, 1) := by decide +kernel
theorem dX4_unlikeLetters_7 : decode cX4_unlikeLetters 7 = .ok (.iload_n 2, 1) := by decide +kernel
theorem dX4_unlikeLetters_8 : decode cX4_unlikeLetters 8 = .ok (.aload_n 0, 1) := by decide +kernel
theorem dX4_unlikeLetters_9 : decode cX4_unlikeLetters 9 = .ok (.getfield 40, 3) := by decide +kernel
theorem dX4_unlikeLetters_12 : decode cX4_unlikeLetters 12 = .ok (.if_icmp .ge 22, 3) := by decide +kernel
theorem dX4_unlikeLetters_15 : decode cX4_unlikeLetters 15 = .ok (.iload_n 1, 1) := by decide +kernel
theorem dX4_unlikeLetters_16 : decode cX4_unlikeLetters 16 = .ok (.iconst 1, 1) := by decide +kernel
theorem dX4_unlikeLetters_17 : decode cX4_unlikeLetters 17 = .ok (.aload_n 0, 1) := by decide +kernel
theorem dX4_unlikeLetters_18 : decode cX4_unlikeLetters 18 = .ok (.iload_n 2, 1) := by decide +kernel
theorem dX4_unlikeLetters_19 : decode cX4_unlikeLetters 19 = .ok (.invokevirtual 56, 3) := by decide +kernel
theorem dX4_unlikeLetters_22 : decode cX4_unlikeLetters 22 = .ok (.bipush 97, 2) := by decide +kernel
theorem dX4_unlikeLetters_24 : decode cX4_unlikeLetters 24 = .ok (.isub, 1) := by decide +kernel
theorem dX4_unlikeLetters_25 : decode cX4_unlikeLetters 25 = .ok (.ishl, 1) := by decide +kernel
theorem dX4_unlikeLetters_26 : decode cX4_unlikeLetters 26 = .ok (.ior, 1) := by decide +kernel
theorem dX4_unlikeLetters_27 : decode cX4_unlikeLetters 27 = .ok (.istore_n 1, 1) := by decide +kernel
theorem dX4_unlikeLetters_28 : decode cX4_unlikeLetters 28 = .ok (.iinc 2 1, 3) := by decide +kernel
theorem dX4_unlikeLetters_31 : decode cX4_unlikeLetters 31 = .ok (.goto (-24), 3) := by decide +kernel
theorem dX4_unlikeLetters_34 : decode cX4_unlikeLetters 34 = .ok (.iload_n 1, 1) := by decide +kernel
theorem dX4_unlikeLetters_35 : decode cX4_unlikeLetters 35 = .ok (.invokestatic 152, 3) := by decide +kernel
theorem dX4_unlikeLetters_38 : decode cX4_unlikeLetters 38 = .ok (.ireturn, 1) := by decide +kernel
def fp_X4_unlikeLetters_L7 (v0 : Nat) (M : zM) : Nat → Int32 → Int32 → Option (Int32)
  | 0, _, _ => none
  | n + 1, v1, v2 =>
    (zgI 3 M v0 8).bind fun (y2 : Int32) =>
    if v2 ≥ y2 then (
      (fp_J6_bitCount_0f7a4 v1).bind fun (y3 : Int32) =>
      some y3)
    else (
      (fp_X4_byteAt v0 v2 M).bind fun (y4 : Int32) =>
      lett ((v1 ||| (1 <<< ((y4 - 97) &&& 31)))) fun (v1_5 : Int32) =>
      fp_X4_unlikeLetters_L7 v0 M n v1_5 (v2 + 1))
def fp_X4_unlikeLetters (v0 : Nat) (M : zM) : Option (Int32) :=
  zthis 3 M v0 (
    (zgI 3 M v0 7).bind fun (y1 : Int32) =>
    fp_X4_unlikeLetters_L7 v0 M FU 0 y1)
set_option maxHeartbeats 4000000 in
set_option maxRecDepth 100000 in
theorem th_X4_unlikeLetters {v0 : Nat} {M : zM} {x0 : Int32} (h : fp_X4_unlikeLetters v0 M = some x0) : v0 < zS M ∧ kd v0 = 3 := by
  unfold fp_X4_unlikeLetters at h
  exact zthis_of h
set_option maxHeartbeats 4000000 in
set_option maxRecDepth 100000 in
theorem w_X4_unlikeLetters_L7 (E : zEnv) (hE : zEok E) (d : Nat) (hd : 2 ≤ d) (x0 : Int32) (v0 : Nat) (M : zM)  : ∀ (n : Nat) (v1 : Int32) (v2 : Int32), zSy E mu_X4_unlikeLetters d M (some (.int x0), M) x0 (fp_X4_unlikeLetters_L7 v0 M n v1 v2) 7 [(0, .ref (E.2.2.2.1 + v0)), (1, .int v1), (2, .int v2)] [] M := by
  intro n
  induction n with
  | zero =>
    intro v1 v2
    rw [fp_X4_unlikeLetters_L7]
    exact zs_none
  | succ n ih =>
    intro v1 v2
    rw [fp_X4_unlikeLetters_L7]
    refine zs_iload_n dX4_unlikeLetters_7 rfl 2 rfl ?_
    refine zs_aload_n dX4_unlikeLetters_8 rfl 0 rfl ?_
    refine zs_getI dX4_unlikeLetters_9 fl_X4_40 rfl (fun y2 => ?_)
    refine zs_icmp_ge dX4_unlikeLetters_12 rfl ?_ ?_
    · refine zs_iload_n dX4_unlikeLetters_34 rfl 1 rfl ?_
      refine zs_invSPI (rest := []) [.int v1] dX4_unlikeLetters_35 lk_X4_152 rfl (zd1 rfl hd) rfl (Nat.le_of_ble_eq_true rfl) (ct_J6_bitCount_0f7a4 E hE _ (zdl rfl hd) _ _) (fun y3 => ?_)
      exact zs_iretP dX4_unlikeLetters_38 rfl
    refine zs_iload_n dX4_unlikeLetters_15 rfl 1 rfl ?_
    refine zs_iconst (v := 1) dX4_unlikeLetters_16 ciconst_1 ?_
    refine zs_aload_n dX4_unlikeLetters_17 rfl 0 rfl ?_
    refine zs_iload_n dX4_unlikeLetters_18 rfl 2 rfl ?_
    refine zs_invVPI (rest := [.int 1, .int v1]) [.int v2] dX4_unlikeLetters_19 lk_X4_56 rfl (fun _ h => th_X4_byteAt h) (zd1 rfl hd) rfl (Nat.le_of_ble_eq_true rfl) (ct_X4_byteAt E hE _ (zdl rfl hd) _ _ _) (fun y4 => ?_)
    refine zs_bipush (v := 97) dX4_unlikeLetters_22 cbipush_97 ?_
    refine zs_isub dX4_unlikeLetters_24 ?_
    refine zs_ishl dX4_unlikeLetters_25 ?_
    refine zs_ior dX4_unlikeLetters_26 ?_
    refine zs_istore_nL (loc' := fun v1_5 => [(0, .ref (E.2.2.2.1 + v0)), (1, .int v1_5), (2, .int v2)]) dX4_unlikeLetters_27 rfl (Nat.le_of_ble_eq_true rfl) [1, 0, 2] (fun _ => rfl) (fun v1_5 => ?_)
    refine zs_iinc (v := (v2 + 1)) (loc' := [(0, .ref (E.2.2.2.1 + v0)), (1, .int v1_5), (2, .int (v2 + 1))]) dX4_unlikeLetters_28 2 rfl (by rfl) (Nat.le_of_ble_eq_true rfl) [1, 2, 0] rfl ?_
    refine zs_goto dX4_unlikeLetters_31 rfl ?_
    exact ih v1_5 (v2 + 1)
set_option maxHeartbeats 4000000 in
set_option maxRecDepth 100000 in
theorem ct_X4_unlikeLetters (E : zEnv) (hE : zEok E) (d : Nat) (hd : 2 ≤ d) (v0 : Nat) (M : zM) (x0 : Int32) (hx : fp_X4_unlikeLetters v0 M = some x0) : zCt E mu_X4_unlikeLetters d [.ref (E.2.2.2.1 + v0)] M (some (.int x0), M) := by
  refine zCt_of (μ := mu_X4_unlikeLetters) (t := fp_X4_unlikeLetters v0 M) rfl rfl (Nat.le_of_ble_eq_true rfl) hx ?_
  change zSy E mu_X4_unlikeLetters d M (some (.int x0), M) x0 (fp_X4_unlikeLetters v0 M) 0 [(0, .ref (E.2.2.2.1 + v0))] [] M
  unfold fp_X4_unlikeLetters
  refine zs_this (fun hth => ?_)
  refine zs_iconst (v := 0) dX4_unlikeLetters_0 ciconst_0 ?_
  refine zs_istore_n (loc' := [(0, .ref (E.2.2.2.1 + v0)), (1, .int 0)]) dX4_unlikeLetters_1 rfl (Nat.le_of_ble_eq_true rfl) [1, 0] rfl ?_
  refine zs_aload_n dX4_unlikeLetters_2 rfl 0 rfl ?_
  refine zs_getI dX4_unlikeLetters_3 fl_X4_53 rfl (fun y1 => ?_)
  refine zs_istore_n (loc' := [(0, .ref (E.2.2.2.1 + v0)), (1, .int 0), (2, .int y1)]) dX4_unlikeLetters_6 rfl (Nat.le_of_ble_eq_true rfl) [1, 2, 0] rfl ?_
  exact w_X4_unlikeLetters_L7 E hE d hd _ _ _ _ _ _
theorem dX4_copyWord_0 : decode cX4_copyWord 0 = .ok (.aload_n 0, 1) := by decide +kernel
theorem dX4_copyWord_1 : decode cX4_copyWord 1 = .ok (.getfield 40, 3) := by decide +kernel
theorem dX4_copyWord_4 : decode cX4_copyWord 4 = .ok (.aload_n 0, 1) := by decide +kernel
theorem dX4_copyWord_5 : decode cX4_copyWord 5 = .ok (.getfield 53, 3) := by decide +kernel
theorem dX4_copyWord_8 : decode cX4_copyWord 8 = .ok (.isub, 1) := by decide +kernel
theorem dX4_copyWord_9 : decode cX4_copyWord 9 = .ok (.aload_n 0, 1) := by decide +kernel
theorem dX4_copyWord_10 : decode cX4_copyWord 10 = .ok (.getfield 19, 3) := by decide +kernel
theorem dX4_copyWord_13 : decode cX4_copyWord 13 = .ok (.arraylength, 1) := by decide +kernel
theorem dX4_copyWord_14 : decode cX4_copyWord 14 = .ok (.if_icmp .le 5, 3) := by decide +kernel
theorem dX4_copyWord_17 : decode cX4_copyWord 17 = .ok (.iconst 0, 1) := by decide +kernel
theorem dX4_copyWord_18 : decode cX4_copyWord 18 = .ok (.ireturn, 1) := by decide +kernel
theorem dX4_copyWord_19 : decode cX4_copyWord 19 = .ok (.iconst 0, 1) := by decide +kernel
theorem dX4_copyWord_20 : decode cX4_copyWord 20 = .ok (.istore_n 1, 1) := by decide +kernel
theorem dX4_copyWord_21 : decode cX4_copyWord 21 = .ok (.iload_n 1, 1) := by decide +kernel
theorem dX4_copyWord_22 : decode cX4_copyWord 22 = .ok (.aload_n 0, 1) := by decide +kernel
theorem dX4_copyWord_23 : decode cX4_copyWord 23 = .ok (.getfield 40, 3) := by decide +kernel
theorem dX4_copyWord_26 : decode cX4_copyWord 26 = .ok (.aload_n 0, 1) := by decide +kernel
theorem dX4_copyWord_27 : decode cX4_copyWord 27 = .ok (.getfield 53, 3) := by decide +kernel
theorem dX4_copyWord_30 : decode cX4_copyWord 30 = .ok (.isub, 1) := by decide +kernel
theorem dX4_copyWord_31 : decode cX4_copyWord 31 = .ok (.if_icmp .ge 37, 3) := by decide +kernel
theorem dX4_copyWord_34 : decode cX4_copyWord 34 = .ok (.iload_n 1, 1) := by decide +kernel
theorem dX4_copyWord_35 : decode cX4_copyWord 35 = .ok (.aload_n 0, 1) := by decide +kernel
theorem dX4_copyWord_36 : decode cX4_copyWord 36 = .ok (.getfield 19, 3) := by decide +kernel
theorem dX4_copyWord_39 : decode cX4_copyWord 39 = .ok (.arraylength, 1) := by decide +kernel
theorem dX4_copyWord_40 : decode cX4_copyWord 40 = .ok (.if_icmp .ge 28, 3) := by decide +kernel
theorem dX4_copyWord_43 : decode cX4_copyWord 43 = .ok (.aload_n 0, 1) := by decide +kernel
theorem dX4_copyWord_44 : decode cX4_copyWord 44 = .ok (.getfield 19, 3) := by decide +kernel
theorem dX4_copyWord_47 : decode cX4_copyWord 47 = .ok (.iload_n 1, 1) := by decide +kernel
theorem dX4_copyWord_48 : decode cX4_copyWord 48 = .ok (.aload_n 0, 1) := by decide +kernel
theorem dX4_copyWord_49 : decode cX4_copyWord 49 = .ok (.aload_n 0, 1) := by decide +kernel
theorem dX4_copyWord_50 : decode cX4_copyWord 50 = .ok (.getfield 53, 3) := by decide +kernel
theorem dX4_copyWord_53 : decode cX4_copyWord 53 = .ok (.iload_n 1, 1) := by decide +kernel
theorem dX4_copyWord_54 : decode cX4_copyWord 54 = .ok (.iadd, 1) := by decide +kernel
theorem dX4_copyWord_55 : decode cX4_copyWord 55 = .ok (.invokevirtual 56, 3) := by decide +kernel
theorem dX4_copyWord_58 : decode cX4_copyWord 58 = .ok (.bipush 97, 2) := by decide +kernel
theorem dX4_copyWord_60 : decode cX4_copyWord 60 = .ok (.isub, 1) := by decide +kernel
theorem dX4_copyWord_61 : decode cX4_copyWord 61 = .ok (.iastore, 1) := by decide +kernel
theorem dX4_copyWord_62 : decode cX4_copyWord 62 = .ok (.iinc 1 1, 3) := by decide +kernel
theorem dX4_copyWord_65 : decode cX4_copyWord 65 = .ok (.goto (-44), 3) := by decide +kernel
theorem dX4_copyWord_68 : decode cX4_copyWord 68 = .ok (.iconst 1, 1) := by decide +kernel
theorem dX4_copyWord_69 : decode cX4_copyWord 69 = .ok (.ireturn, 1) := by decide +kernel
def fp_X4_copyWord_L21 (v0 : Nat) : Nat → Int32 → zM → Option (Int32 × zM)
  | 0, _, _ => none
  | n + 1, v1, M =>
    (zgI 3 M v0 8).bind fun (y5 : Int32) =>
    (zgI 3 M v0 7).bind fun (y6 : Int32) =>
    if v1 ≥ (y5 - y6) then (
      some (1, M))
    else (
      (zgR 3 M v0 9).bind fun (y7 : Nat) =>
      (zln M y7).bind fun (y8 : Int32) =>
      if v1 ≥ y8 then (
        some (1, M))
      else (
        (zgR 3 M v0 9).bind fun (y9 : Nat) =>
        (zgI 3 M v0 7).bind fun (y10 : Int32) =>
        (fp_X4_byteAt v0 (y10 + v1) M).bind fun (y11 : Int32) =>
        (ztI M y9 v1 (y11 - 97)).bind fun (M12 : zM) =>
        fp_X4_copyWord_L21 v0 n (v1 + 1) M12))
def fp_X4_copyWord (v0 : Nat) (M : zM) : Option (Int32 × zM) :=
  zthis 3 M v0 (
    (zgI 3 M v0 8).bind fun (y1 : Int32) =>
    (zgI 3 M v0 7).bind fun (y2 : Int32) =>
    (zgR 3 M v0 9).bind fun (y3 : Nat) =>
    (zln M y3).bind fun (y4 : Int32) =>
    if (y1 - y2) ≤ y4 then (
      fp_X4_copyWord_L21 v0 FU 0 M)
    else (
      some (0, M)))
set_option maxHeartbeats 4000000 in
set_option maxRecDepth 100000 in
theorem th_X4_copyWord {v0 : Nat} {M : zM} {x0 : Int32 × zM} (h : fp_X4_copyWord v0 M = some x0) : v0 < zS M ∧ kd v0 = 3 := by
  unfold fp_X4_copyWord at h
  exact zthis_of h
set_option maxHeartbeats 4000000 in
set_option maxRecDepth 100000 in
theorem w_X4_copyWord_L21 (E : zEnv) (hE : zEok E) (d : Nat) (hd : 2 ≤ d) (M0 : zM) (x0 : Int32 × zM) (v0 : Nat)  : ∀ (n : Nat) (v1 : Int32) (M : zM), zSy E mu_X4_copyWord d M0 (some (.int x0.1), x0.2) x0 (fp_X4_copyWord_L21 v0 n v1 M) 21 [(0, .ref (E.2.2.2.1 + v0)), (1, .int v1)] [] M := by
  intro n
  induction n with
  | zero =>
    intro v1 M
    rw [fp_X4_copyWord_L21]
    exact zs_none
  | succ n ih =>
    intro v1 M
    rw [fp_X4_copyWord_L21]
    refine zs_iload_n dX4_copyWord_21 rfl 1 rfl ?_
    refine zs_aload_n dX4_copyWord_22 rfl 0 rfl ?_
    refine zs_getI dX4_copyWord_23 fl_X4_40 rfl (fun y5 => ?_)
    refine zs_aload_n dX4_copyWord_26 rfl 0 rfl ?_
    refine zs_getI dX4_copyWord_27 fl_X4_53 rfl (fun y6 => ?_)
    refine zs_isub dX4_copyWord_30 ?_
    refine zs_icmp_ge dX4_copyWord_31 rfl ?_ ?_
    · refine zs_iconst (v := 1) dX4_copyWord_68 ciconst_1 ?_
      exact zs_iretW dX4_copyWord_69 rfl
    refine zs_iload_n dX4_copyWord_34 rfl 1 rfl ?_
    refine zs_aload_n dX4_copyWord_35 rfl 0 rfl ?_
    refine zs_getR dX4_copyWord_36 fl_X4_19 rfl (fun y7 => ?_)
    refine zs_alen dX4_copyWord_39 (fun y8 => ?_)
    refine zs_icmp_ge dX4_copyWord_40 rfl ?_ ?_
    · refine zs_iconst (v := 1) dX4_copyWord_68 ciconst_1 ?_
      exact zs_iretW dX4_copyWord_69 rfl
    refine zs_aload_n dX4_copyWord_43 rfl 0 rfl ?_
    refine zs_getR dX4_copyWord_44 fl_X4_19 rfl (fun y9 => ?_)
    refine zs_iload_n dX4_copyWord_47 rfl 1 rfl ?_
    refine zs_aload_n dX4_copyWord_48 rfl 0 rfl ?_
    refine zs_aload_n dX4_copyWord_49 rfl 0 rfl ?_
    refine zs_getI dX4_copyWord_50 fl_X4_53 rfl (fun y10 => ?_)
    refine zs_iload_n dX4_copyWord_53 rfl 1 rfl ?_
    refine zs_iadd dX4_copyWord_54 ?_
    refine zs_invVPI (rest := [.int v1, .ref (E.2.2.2.1 + y9)]) [.int (y10 + v1)] dX4_copyWord_55 lk_X4_56 rfl (fun _ h => th_X4_byteAt h) (zd1 rfl hd) rfl (Nat.le_of_ble_eq_true rfl) (ct_X4_byteAt E hE _ (zdl rfl hd) _ _ _) (fun y11 => ?_)
    refine zs_bipush (v := 97) dX4_copyWord_58 cbipush_97 ?_
    refine zs_isub dX4_copyWord_60 ?_
    refine zs_stI dX4_copyWord_61 (fun M12 => ?_)
    refine zs_iinc (v := (v1 + 1)) (loc' := [(0, .ref (E.2.2.2.1 + v0)), (1, .int (v1 + 1))]) dX4_copyWord_62 1 rfl (by rfl) (Nat.le_of_ble_eq_true rfl) [1, 0] rfl ?_
    refine zs_goto dX4_copyWord_65 rfl ?_
    exact ih (v1 + 1) M12
set_option maxHeartbeats 4000000 in
set_option maxRecDepth 100000 in
theorem ct_X4_copyWord (E : zEnv) (hE : zEok E) (d : Nat) (hd : 2 ≤ d) (v0 : Nat) (M : zM) (x0 : Int32 × zM) (hx : fp_X4_copyWord v0 M = some x0) : zCt E mu_X4_copyWord d [.ref (E.2.2.2.1 + v0)] M (some (.int x0.1), x0.2) := by
  refine zCt_of (μ := mu_X4_copyWord) (t := fp_X4_copyWord v0 M) rfl rfl (Nat.le_of_ble_eq_true rfl) hx ?_
  change zSy E mu_X4_copyWord d M (some (.int x0.1), x0.2) x0 (fp_X4_copyWord v0 M) 0 [(0, .ref (E.2.2.2.1 + v0))] [] M
  unfold fp_X4_copyWord
  refine zs_this (fun hth => ?_)
  refine zs_aload_n dX4_copyWord_0 rfl 0 rfl ?_
  refine zs_getI dX4_copyWord_1 fl_X4_40 rfl (fun y1 => ?_)
  refine zs_aload_n dX4_copyWord_4 rfl 0 rfl ?_
  refine zs_getI dX4_copyWord_5 fl_X4_53 rfl (fun y2 => ?_)
  refine zs_isub dX4_copyWord_8 ?_
  refine zs_aload_n dX4_copyWord_9 rfl 0 rfl ?_
  refine zs_getR dX4_copyWord_10 fl_X4_19 rfl (fun y3 => ?_)
  refine zs_alen dX4_copyWord_13 (fun y4 => ?_)
  refine zs_icmp_le dX4_copyWord_14 rfl ?_ ?_
  · refine zs_iconst (v := 0) dX4_copyWord_19 ciconst_0 ?_
    refine zs_istore_n (loc' := [(0, .ref (E.2.2.2.1 + v0)), (1, .int 0)]) dX4_copyWord_20 rfl (Nat.le_of_ble_eq_true rfl) [1, 0] rfl ?_
    exact w_X4_copyWord_L21 E hE d hd _ _ _ _ _ _
  refine zs_iconst (v := 0) dX4_copyWord_17 ciconst_0 ?_
  exact zs_iretW dX4_copyWord_18 rfl
theorem dX5_count_0 : decode cX5_count 0 = .ok (.iconst 0, 1) := by decide +kernel
theorem dX5_count_1 : decode cX5_count 1 = .ok (.istore_n 3, 1) := by decide +kernel
theorem dX5_count_2 : decode cX5_count 2 = .ok (.iconst 0, 1) := by decide +kernel
theorem dX5_count_3 : decode cX5_count 3 = .ok (.istore 4, 2) := by decide +kernel
theorem dX5_count_5 : decode cX5_count 5 = .ok (.iload 4, 2) := by decide +kernel
theorem dX5_count_7 : decode cX5_count 7 = .ok (.iload_n 1, 1) := by decide +kernel
theorem dX5_count_8 : decode cX5_count 8 = .ok (.if_icmp .ge 27, 3) := by decide +kernel
theorem dX5_count_11 : decode cX5_count 11 = .ok (.iload 4, 2) := by decide +kernel
theorem dX5_count_13 : decode cX5_count 13 = .ok (.aload_n 0, 1) := by decide +kernel
theorem dX5_count_14 : decode cX5_count 14 = .ok (.arraylength, 1) := by decide +kernel
theorem dX5_count_15 : decode cX5_count 15 = .ok (.if_icmp .ge 20, 3) := by decide +kernel
theorem dX5_count_18 : decode cX5_count 18 = .ok (.aload_n 0, 1) := by decide +kernel
theorem dX5_count_19 : decode cX5_count 19 = .ok (.iload 4, 2) := by decide +kernel
theorem dX5_count_21 : decode cX5_count 21 = .ok (.iaload, 1) := by decide +kernel
theorem dX5_count_22 : decode cX5_count 22 = .ok (.iload_n 2, 1) := by decide +kernel
theorem dX5_count_23 : decode cX5_count 23 = .ok (.if_icmp .ne 6, 3) := by decide +kernel
theorem dX5_count_26 : decode cX5_count 26 = .ok (.iinc 3 1, 3) := by decide +kernel
theorem dX5_count_29 : decode cX5_count 29 = .ok (.iinc 4 1, 3) := by decide +kernel
theorem dX5_count_32 : decode cX5_count 32 = .ok (.goto (-27), 3) := by decide +kernel
theorem dX5_count_35 : decode cX5_count 35 = .ok (.iload_n 3, 1) := by decide +kernel
theorem dX5_count_36 : decode cX5_count 36 = .ok (.ireturn, 1) := by decide +kernel
def fp_X5_count_L5 (v0 : Nat) (v1 : Int32) (v2 : Int32) (M : zM) : Nat → Int32 → Int32 → Option (Int32)
  | 0, _, _ => none
  | n + 1, v3, v4 =>
    if v4 ≥ v1 then (
      some v3)
    else (
      (zln M v0).bind fun (y1 : Int32) =>
      if v4 ≥ y1 then (
        some v3)
      else (
        (zlI 100 M v0 v4).bind fun (y2 : Int32) =>
        zjn (fun (v3_3 : Int32) =>
            fp_X5_count_L5 v0 v1 v2 M n v3_3 (v4 + 1))
          (fun j29 =>
            if y2 ≠ v2 then (
              j29 v3)
            else (
              j29 (v3 + 1)))))
def fp_X5_count (v0 : Nat) (v1 : Int32) (v2 : Int32) (M : zM) : Option (Int32) :=
  fp_X5_count_L5 v0 v1 v2 M FU 0 0
set_option maxHeartbeats 4000000 in
set_option maxRecDepth 100000 in
theorem w_X5_count_L5 (E : zEnv) (hE : zEok E) (d : Nat) (hd : 1 ≤ d) (x0 : Int32) (v0 : Nat) (v1 : Int32) (v2 : Int32) (M : zM)  : ∀ (n : Nat) (v3 : Int32) (v4 : Int32), zSy E mu_X5_count d M (some (.int x0), M) x0 (fp_X5_count_L5 v0 v1 v2 M n v3 v4) 5 [(0, .ref (E.2.2.2.1 + v0)), (1, .int v1), (2, .int v2), (3, .int v3), (4, .int v4)] [] M := by
  intro n
  induction n with
  | zero =>
    intro v3 v4
    rw [fp_X5_count_L5]
    exact zs_none
  | succ n ih =>
    intro v3 v4
    rw [fp_X5_count_L5]
    refine zs_iload dX5_count_5 4 rfl ?_
    refine zs_iload_n dX5_count_7 rfl 1 rfl ?_
    refine zs_icmp_ge dX5_count_8 rfl ?_ ?_
    · refine zs_iload_n dX5_count_35 rfl 3 rfl ?_
      exact zs_iretP dX5_count_36 rfl
    refine zs_iload dX5_count_11 4 rfl ?_
    refine zs_aload_n dX5_count_13 rfl 0 rfl ?_
    refine zs_alen dX5_count_14 (fun y1 => ?_)
    refine zs_icmp_ge dX5_count_15 rfl ?_ ?_
    · refine zs_iload_n dX5_count_35 rfl 3 rfl ?_
      exact zs_iretP dX5_count_36 rfl
    refine zs_aload_n dX5_count_18 rfl 0 rfl ?_
    refine zs_iload dX5_count_19 4 rfl ?_
    refine zs_ldI dX5_count_21 (fun y2 => ?_)
    refine zs_iload_n dX5_count_22 rfl 2 rfl ?_
    refine zs_jn (fun j29 => ∀ (v3_3 : Int32), zSy E mu_X5_count d M (some (.int x0), M) x0 (j29 v3_3) 29 [(0, .ref (E.2.2.2.1 + v0)), (1, .int v1), (2, .int v2), (3, .int v3_3), (4, .int v4)] [] M) (fun v3_3 => ?_) (fun j29 hj29 => ?_)
    · refine zs_iinc (v := (v4 + 1)) (loc' := [(0, .ref (E.2.2.2.1 + v0)), (1, .int v1), (2, .int v2), (3, .int v3_3), (4, .int (v4 + 1))]) dX5_count_29 4 rfl (by rfl) (Nat.le_of_ble_eq_true rfl) [1, 2, 3, 4, 0] rfl ?_
      refine zs_goto dX5_count_32 rfl ?_
      exact ih v3_3 (v4 + 1)
    refine zs_icmp_ne dX5_count_23 rfl ?_ ?_
    · exact hj29 v3
    refine zs_iinc (v := (v3 + 1)) (loc' := [(0, .ref (E.2.2.2.1 + v0)), (1, .int v1), (2, .int v2), (3, .int (v3 + 1)), (4, .int v4)]) dX5_count_26 3 rfl (by rfl) (Nat.le_of_ble_eq_true rfl) [1, 2, 3, 0, 4] rfl ?_
    exact hj29 (v3 + 1)
set_option maxHeartbeats 4000000 in
set_option maxRecDepth 100000 in
theorem ct_X5_count (E : zEnv) (hE : zEok E) (d : Nat) (hd : 1 ≤ d) (v0 : Nat) (v1 : Int32) (v2 : Int32) (M : zM) (x0 : Int32) (hx : fp_X5_count v0 v1 v2 M = some x0) : zCt E mu_X5_count d [.ref (E.2.2.2.1 + v0), .int v1, .int v2] M (some (.int x0), M) := by
  refine zCt_of (μ := mu_X5_count) (t := fp_X5_count v0 v1 v2 M) rfl rfl (Nat.le_of_ble_eq_true rfl) hx ?_
  change zSy E mu_X5_count d M (some (.int x0), M) x0 (fp_X5_count v0 v1 v2 M) 0 [(0, .ref (E.2.2.2.1 + v0)), (1, .int v1), (2, .int v2)] [] M
  unfold fp_X5_count
  refine zs_iconst (v := 0) dX5_count_0 ciconst_0 ?_
  refine zs_istore_n (loc' := [(0, .ref (E.2.2.2.1 + v0)), (1, .int v1), (2, .int v2), (3, .int 0)]) dX5_count_1 rfl (Nat.le_of_ble_eq_true rfl) [1, 2, 3, 0] rfl ?_
  refine zs_iconst (v := 0) dX5_count_2 ciconst_0 ?_
  refine zs_istore (loc' := [(0, .ref (E.2.2.2.1 + v0)), (1, .int v1), (2, .int v2), (3, .int 0), (4, .int 0)]) dX5_count_3 (Nat.le_of_ble_eq_true rfl) [1, 2, 3, 4, 0] rfl ?_
  exact w_X5_count_L5 E hE d hd _ _ _ _ _ _ _ _
theorem dX5_isChordWord_0 : decode cX5_isChordWord 0 = .ok (.iload_n 1, 1) := by decide +kernel
theorem dX5_isChordWord_1 : decode cX5_isChordWord 1 = .ok (.iconst 2, 1) := by decide +kernel
theorem dX5_isChordWord_2 : decode cX5_isChordWord 2 = .ok (.iload_n 2, 1) := by decide +kernel
theorem dX5_isChordWord_3 : decode cX5_isChordWord 3 = .ok (.imul, 1) := by decide +kernel
theorem dX5_isChordWord_4 : decode cX5_isChordWord 4 = .ok (.if_icmp .eq 5, 3) := by decide +kernel
theorem dX5_isChordWord_7 : decode cX5_isChordWord 7 = .ok (.iconst 0, 1) := by decide +kernel
theorem dX5_isChordWord_8 : decode cX5_isChordWord 8 = .ok (.ireturn, 1) := by decide +kernel
theorem dX5_isChordWord_9 : decode cX5_isChordWord 9 = .ok (.iconst 0, 1) := by decide +kernel
theorem dX5_isChordWord_10 : decode cX5_isChordWord 10 = .ok (.istore_n 3, 1) := by decide +kernel
theorem dX5_isChordWord_11 : decode cX5_isChordWord 11 = .ok (.iload_n 3, 1) := by decide +kernel
theorem dX5_isChordWord_12 : decode cX5_isChordWord 12 = .ok (.iload_n 2, 1) := by decide +kernel
theorem dX5_isChordWord_13 : decode cX5_isChordWord 13 = .ok (.if_icmp .ge 21, 3) := by decide +kernel
theorem dX5_isChordWord_16 : decode cX5_isChordWord 16 = .ok (.aload_n 0, 1) := by decide +kernel
theorem dX5_isChordWord_17 : decode cX5_isChordWord 17 = .ok (.iload_n 1, 1) := by decide +kernel
theorem dX5_isChordWord_18 : decode cX5_isChordWord 18 = .ok (.iload_n 3, 1) := by decide +kernel
theorem dX5_isChordWord_19 : decode cX5_isChordWord 19 = .ok (.invokestatic 21, 3) := by decide +kernel
theorem dX5_isChordWord_22 : decode cX5_isChordWord 22 = .ok (.iconst 2, 1) := by decide +kernel
theorem dX5_isChordWord_23 : decode cX5_isChordWord 23 = .ok (.if_icmp .eq 5, 3) := by decide +kernel
theorem dX5_isChordWord_26 : decode cX5_isChordWord 26 = .ok (.iconst 0, 1) := by decide +kernel
theorem dX5_isChordWord_27 : decode cX5_isChordWord 27 = .ok (.ireturn, 1) := by decide +kernel
theorem dX5_isChordWord_28 : decode cX5_isChordWord 28 = .ok (.iinc 3 1, 3) := by decide +kernel
theorem dX5_isChordWord_31 : decode cX5_isChordWord 31 = .ok (.goto (-20), 3) := by decide +kernel
theorem dX5_isChordWord_34 : decode cX5_isChordWord 34 = .ok (.iconst 1, 1) := by decide +kernel
theorem dX5_isChordWord_35 : decode cX5_isChordWord 35 = .ok (.ireturn, 1) := by decide +kernel
def fp_X5_isChordWord_L11 (v0 : Nat) (v1 : Int32) (v2 : Int32) (M : zM) : Nat → Int32 → Option (Int32)
  | 0, _ => none
  | n + 1, v3 =>
    if v3 ≥ v2 then (
      some 1)
    else (
      (fp_X5_count v0 v1 v3 M).bind fun (y1 : Int32) =>
      if y1 = 2 then (
        fp_X5_isChordWord_L11 v0 v1 v2 M n (v3 + 1))
      else (
        some 0))
def fp_X5_isChordWord (v0 : Nat) (v1 : Int32) (v2 : Int32) (M : zM) : Option (Int32) :=
  if v1 = (2 * v2) then (
    fp_X5_isChordWord_L11 v0 v1 v2 M FU 0)
  else (
    some 0)
set_option maxHeartbeats 4000000 in
set_option maxRecDepth 100000 in
theorem w_X5_isChordWord_L11 (E : zEnv) (hE : zEok E) (d : Nat) (hd : 2 ≤ d) (x0 : Int32) (v0 : Nat) (v1 : Int32) (v2 : Int32) (M : zM)  : ∀ (n : Nat) (v3 : Int32), zSy E mu_X5_isChordWord d M (some (.int x0), M) x0 (fp_X5_isChordWord_L11 v0 v1 v2 M n v3) 11 [(0, .ref (E.2.2.2.1 + v0)), (1, .int v1), (2, .int v2), (3, .int v3)] [] M := by
  intro n
  induction n with
  | zero =>
    intro v3
    rw [fp_X5_isChordWord_L11]
    exact zs_none
  | succ n ih =>
    intro v3
    rw [fp_X5_isChordWord_L11]
    refine zs_iload_n dX5_isChordWord_11 rfl 3 rfl ?_
    refine zs_iload_n dX5_isChordWord_12 rfl 2 rfl ?_
    refine zs_icmp_ge dX5_isChordWord_13 rfl ?_ ?_
    · refine zs_iconst (v := 1) dX5_isChordWord_34 ciconst_1 ?_
      exact zs_iretP dX5_isChordWord_35 rfl
    refine zs_aload_n dX5_isChordWord_16 rfl 0 rfl ?_
    refine zs_iload_n dX5_isChordWord_17 rfl 1 rfl ?_
    refine zs_iload_n dX5_isChordWord_18 rfl 3 rfl ?_
    refine zs_invSPI (rest := []) [.ref (E.2.2.2.1 + v0), .int v1, .int v3] dX5_isChordWord_19 lk_X5_21 rfl (zd1 rfl hd) rfl (Nat.le_of_ble_eq_true rfl) (ct_X5_count E hE _ (zdl rfl hd) _ _ _ _) (fun y1 => ?_)
    refine zs_iconst (v := 2) dX5_isChordWord_22 ciconst_2 ?_
    refine zs_icmp_eq dX5_isChordWord_23 rfl ?_ ?_
    · refine zs_iinc (v := (v3 + 1)) (loc' := [(0, .ref (E.2.2.2.1 + v0)), (1, .int v1), (2, .int v2), (3, .int (v3 + 1))]) dX5_isChordWord_28 3 rfl (by rfl) (Nat.le_of_ble_eq_true rfl) [1, 2, 3, 0] rfl ?_
      refine zs_goto dX5_isChordWord_31 rfl ?_
      exact ih (v3 + 1)
    refine zs_iconst (v := 0) dX5_isChordWord_26 ciconst_0 ?_
    exact zs_iretP dX5_isChordWord_27 rfl
set_option maxHeartbeats 4000000 in
set_option maxRecDepth 100000 in
theorem ct_X5_isChordWord (E : zEnv) (hE : zEok E) (d : Nat) (hd : 2 ≤ d) (v0 : Nat) (v1 : Int32) (v2 : Int32) (M : zM) (x0 : Int32) (hx : fp_X5_isChordWord v0 v1 v2 M = some x0) : zCt E mu_X5_isChordWord d [.ref (E.2.2.2.1 + v0), .int v1, .int v2] M (some (.int x0), M) := by
  refine zCt_of (μ := mu_X5_isChordWord) (t := fp_X5_isChordWord v0 v1 v2 M) rfl rfl (Nat.le_of_ble_eq_true rfl) hx ?_
  change zSy E mu_X5_isChordWord d M (some (.int x0), M) x0 (fp_X5_isChordWord v0 v1 v2 M) 0 [(0, .ref (E.2.2.2.1 + v0)), (1, .int v1), (2, .int v2)] [] M
  unfold fp_X5_isChordWord
  refine zs_iload_n dX5_isChordWord_0 rfl 1 rfl ?_
  refine zs_iconst (v := 2) dX5_isChordWord_1 ciconst_2 ?_
  refine zs_iload_n dX5_isChordWord_2 rfl 2 rfl ?_
  refine zs_imul dX5_isChordWord_3 ?_
  refine zs_icmp_eq dX5_isChordWord_4 rfl ?_ ?_
  · refine zs_iconst (v := 0) dX5_isChordWord_9 ciconst_0 ?_
    refine zs_istore_n (loc' := [(0, .ref (E.2.2.2.1 + v0)), (1, .int v1), (2, .int v2), (3, .int 0)]) dX5_isChordWord_10 rfl (Nat.le_of_ble_eq_true rfl) [1, 2, 3, 0] rfl ?_
    exact w_X5_isChordWord_L11 E hE d hd _ _ _ _ _ _ _
  refine zs_iconst (v := 0) dX5_isChordWord_7 ciconst_0 ?_
  exact zs_iretP dX5_isChordWord_8 rfl
theorem dX4_addCrossing_0 : decode cX4_addCrossing 0 = .ok (.iconst 1, 1) := by decide +kernel
theorem dX4_addCrossing_1 : decode cX4_addCrossing 1 = .ok (.istore_n 3, 1) := by decide +kernel
theorem dX4_addCrossing_2 : decode cX4_addCrossing 2 = .ok (.iload_n 3, 1) := by decide +kernel
theorem dX4_addCrossing_3 : decode cX4_addCrossing 3 = .ok (.iload_n 1, 1) := by decide +kernel
theorem dX4_addCrossing_4 : decode cX4_addCrossing 4 = .ok (.if_icmp .ge 61, 3) := by decide +kernel
theorem dX4_addCrossing_7 : decode cX4_addCrossing 7 = .ok (.iconst 0, 1) := by decide +kernel
theorem dX4_addCrossing_8 : decode cX4_addCrossing 8 = .ok (.istore 4, 2) := by decide +kernel
theorem dX4_addCrossing_10 : decode cX4_addCrossing 10 = .ok (.iload 4, 2) := by decide +kernel
theorem dX4_addCrossing_12 : decode cX4_addCrossing 12 = .ok (.iload_n 3, 1) := by decide +kernel
theorem dX4_addCrossing_13 : decode cX4_addCrossing 13 = .ok (.if_icmp .ge 46, 3) := by decide +kernel
theorem dX4_addCrossing_16 : decode cX4_addCrossing 16 = .ok (.iload_n 2, 1) := by decide +kernel
theorem dX4_addCrossing_17 : decode cX4_addCrossing 17 = .ok (.iload 4, 2) := by decide +kernel
theorem dX4_addCrossing_19 : decode cX4_addCrossing 19 = .ok (.iload_n 3, 1) := by decide +kernel
theorem dX4_addCrossing_20 : decode cX4_addCrossing 20 = .ok (.invokestatic 121, 3) := by decide +kernel
theorem dX4_addCrossing_23 : decode cX4_addCrossing 23 = .ok (.ifCond .eq 30, 3) := by decide +kernel
theorem dX4_addCrossing_26 : decode cX4_addCrossing 26 = .ok (.aload_n 0, 1) := by decide +kernel
theorem dX4_addCrossing_27 : decode cX4_addCrossing 27 = .ok (.dup, 1) := by decide +kernel
theorem dX4_addCrossing_28 : decode cX4_addCrossing 28 = .ok (.getfield 34, 3) := by decide +kernel
theorem dX4_addCrossing_31 : decode cX4_addCrossing 31 = .ok (.iconst 1, 1) := by decide +kernel
theorem dX4_addCrossing_32 : decode cX4_addCrossing 32 = .ok (.aload_n 0, 1) := by decide +kernel
theorem dX4_addCrossing_33 : decode cX4_addCrossing 33 = .ok (.getfield 31, 3) := by decide +kernel
theorem dX4_addCrossing_36 : decode cX4_addCrossing 36 = .ok (.iload 4, 2) := by decide +kernel
theorem dX4_addCrossing_38 : decode cX4_addCrossing 38 = .ok (.iadd, 1) := by decide +kernel
theorem dX4_addCrossing_39 : decode cX4_addCrossing 39 = .ok (.aload_n 0, 1) := by decide +kernel
theorem dX4_addCrossing_40 : decode cX4_addCrossing 40 = .ok (.getfield 31, 3) := by decide +kernel
theorem dX4_addCrossing_43 : decode cX4_addCrossing 43 = .ok (.iload_n 3, 1) := by decide +kernel
theorem dX4_addCrossing_44 : decode cX4_addCrossing 44 = .ok (.iadd, 1) := by decide +kernel
theorem dX4_addCrossing_45 : decode cX4_addCrossing 45 = .ok (.invokestatic 129, 3) := by decide +kernel
theorem dX4_addCrossing_48 : decode cX4_addCrossing 48 = .ok (.ishl, 1) := by decide +kernel
theorem dX4_addCrossing_49 : decode cX4_addCrossing 49 = .ok (.ior, 1) := by decide +kernel
theorem dX4_addCrossing_50 : decode cX4_addCrossing 50 = .ok (.putfield 34, 3) := by decide +kernel
theorem dX4_addCrossing_53 : decode cX4_addCrossing 53 = .ok (.iinc 4 1, 3) := by decide +kernel
theorem dX4_addCrossing_56 : decode cX4_addCrossing 56 = .ok (.goto (-46), 3) := by decide +kernel
theorem dX4_addCrossing_59 : decode cX4_addCrossing 59 = .ok (.iinc 3 1, 3) := by decide +kernel
theorem dX4_addCrossing_62 : decode cX4_addCrossing 62 = .ok (.goto (-60), 3) := by decide +kernel
theorem dX4_addCrossing_65 : decode cX4_addCrossing 65 = .ok (.aload_n 0, 1) := by decide +kernel
theorem dX4_addCrossing_66 : decode cX4_addCrossing 66 = .ok (.dup, 1) := by decide +kernel
theorem dX4_addCrossing_67 : decode cX4_addCrossing 67 = .ok (.getfield 31, 3) := by decide +kernel
theorem dX4_addCrossing_70 : decode cX4_addCrossing 70 = .ok (.iload_n 1, 1) := by decide +kernel
theorem dX4_addCrossing_71 : decode cX4_addCrossing 71 = .ok (.iadd, 1) := by decide +kernel
theorem dX4_addCrossing_72 : decode cX4_addCrossing 72 = .ok (.putfield 31, 3) := by decide +kernel
theorem dX4_addCrossing_75 : decode cX4_addCrossing 75 = .ok (.return_, 1) := by decide +kernel
def fp_X4_addCrossing_L10 (k59 : zM → Option (zM)) (v0 : Nat) (v1 : Int32) (v2 : Int32) (v3 : Int32) : Nat → Int32 → zM → Option (zM)
  | 0, _, _ => none
  | n + 1, v4, M =>
    if v4 ≥ v3 then (
      k59 M)
    else (
      (fp_X2_tied v2 v4 v3).bind fun (y1 : Int32) =>
      zjn (fun (M2 : zM) =>
          fp_X4_addCrossing_L10 k59 v0 v1 v2 v3 n (v4 + 1) M2)
        (fun j53 =>
          if y1 = 0 then (
            j53 M)
          else (
            (zgI 3 M v0 1).bind fun (y3 : Int32) =>
            (zgI 3 M v0 0).bind fun (y4 : Int32) =>
            (zgI 3 M v0 0).bind fun (y5 : Int32) =>
            (fp_X2_pair (y4 + v4) (y5 + v3)).bind fun (y6 : Int32) =>
            (zpI 3 M v0 1 (y3 ||| (1 <<< (y6 &&& 31)))).bind fun (M7 : zM) =>
            j53 M7)))
def fp_X4_addCrossing_L2 (k65 : zM → Option (zM)) (v0 : Nat) (v1 : Int32) (v2 : Int32) : Nat → Int32 → zM → Option (zM)
  | 0, _, _ => none
  | n + 1, v3, M =>
    if v3 ≥ v1 then (
      k65 M)
    else (
      fp_X4_addCrossing_L10
        (fun M8 =>
          fp_X4_addCrossing_L2 k65 v0 v1 v2 n (v3 + 1) M8) v0 v1 v2 v3 FU 0 M)
def fp_X4_addCrossing (v0 : Nat) (v1 : Int32) (v2 : Int32) (M : zM) : Option (zM) :=
  zthis 3 M v0 (
    fp_X4_addCrossing_L2
      (fun M9 =>
        (zgI 3 M9 v0 0).bind fun (y10 : Int32) =>
        (zpI 3 M9 v0 0 (y10 + v1)).bind fun (M11 : zM) =>
        some M11) v0 v1 v2 FU 1 M)
set_option maxHeartbeats 4000000 in
set_option maxRecDepth 100000 in
theorem th_X4_addCrossing {v0 : Nat} {v1 : Int32} {v2 : Int32} {M : zM} {x0 : zM} (h : fp_X4_addCrossing v0 v1 v2 M = some x0) : v0 < zS M ∧ kd v0 = 3 := by
  unfold fp_X4_addCrossing at h
  exact zthis_of h
set_option maxHeartbeats 4000000 in
set_option maxRecDepth 100000 in
theorem w_X4_addCrossing_L10 (E : zEnv) (hE : zEok E) (d : Nat) (hd : 3 ≤ d) (M0 : zM) (x0 : zM) (v0 : Nat) (v1 : Int32) (v2 : Int32) (v3 : Int32) (k59 : zM → Option (zM)) (hk59 : ∀ (M : zM), zSy E mu_X4_addCrossing d M0 (none, x0) x0 (k59 M) 59 [(0, .ref (E.2.2.2.1 + v0)), (1, .int v1), (2, .int v2), (3, .int v3)] [] M) : ∀ (n : Nat) (v4 : Int32) (M : zM), zSy E mu_X4_addCrossing d M0 (none, x0) x0 (fp_X4_addCrossing_L10 k59 v0 v1 v2 v3 n v4 M) 10 [(0, .ref (E.2.2.2.1 + v0)), (1, .int v1), (2, .int v2), (3, .int v3), (4, .int v4)] [] M := by
  intro n
  induction n with
  | zero =>
    intro v4 M
    rw [fp_X4_addCrossing_L10]
    exact zs_none
  | succ n ih =>
    intro v4 M
    rw [fp_X4_addCrossing_L10]
    refine zs_iload dX4_addCrossing_10 4 rfl ?_
    refine zs_iload_n dX4_addCrossing_12 rfl 3 rfl ?_
    refine zs_icmp_ge dX4_addCrossing_13 rfl ?_ ?_
    · refine zs_sub (loc' := [(0, .ref (E.2.2.2.1 + v0)), (1, .int v1), (2, .int v2), (3, .int v3)]) [0, 1, 2, 3] rfl ?_
      exact hk59 M
    refine zs_iload_n dX4_addCrossing_16 rfl 2 rfl ?_
    refine zs_iload dX4_addCrossing_17 4 rfl ?_
    refine zs_iload_n dX4_addCrossing_19 rfl 3 rfl ?_
    refine zs_invSPI (rest := []) [.int v2, .int v4, .int v3] dX4_addCrossing_20 lk_X4_121 rfl (zd1 rfl hd) rfl (Nat.le_of_ble_eq_true rfl) (ct_X2_tied E hE _ (zdl rfl hd) _ _ _ _) (fun y1 => ?_)
    refine zs_jn (fun j53 => ∀ (M2 : zM), zSy E mu_X4_addCrossing d M0 (none, x0) x0 (j53 M2) 53 [(0, .ref (E.2.2.2.1 + v0)), (1, .int v1), (2, .int v2), (3, .int v3), (4, .int v4)] [] M2) (fun M2 => ?_) (fun j53 hj53 => ?_)
    · refine zs_iinc (v := (v4 + 1)) (loc' := [(0, .ref (E.2.2.2.1 + v0)), (1, .int v1), (2, .int v2), (3, .int v3), (4, .int (v4 + 1))]) dX4_addCrossing_53 4 rfl (by rfl) (Nat.le_of_ble_eq_true rfl) [1, 2, 3, 4, 0] rfl ?_
      refine zs_goto dX4_addCrossing_56 rfl ?_
      exact ih (v4 + 1) M2
    refine zs_if_eq dX4_addCrossing_23 rfl ?_ ?_
    · exact hj53 M
    refine zs_aload_n dX4_addCrossing_26 rfl 0 rfl ?_
    refine zs_dup dX4_addCrossing_27 rfl ?_
    refine zs_getI dX4_addCrossing_28 fl_X4_34 rfl (fun y3 => ?_)
    refine zs_iconst (v := 1) dX4_addCrossing_31 ciconst_1 ?_
    refine zs_aload_n dX4_addCrossing_32 rfl 0 rfl ?_
    refine zs_getI dX4_addCrossing_33 fl_X4_31 rfl (fun y4 => ?_)
    refine zs_iload dX4_addCrossing_36 4 rfl ?_
    refine zs_iadd dX4_addCrossing_38 ?_
    refine zs_aload_n dX4_addCrossing_39 rfl 0 rfl ?_
    refine zs_getI dX4_addCrossing_40 fl_X4_31 rfl (fun y5 => ?_)
    refine zs_iload_n dX4_addCrossing_43 rfl 3 rfl ?_
    refine zs_iadd dX4_addCrossing_44 ?_
    refine zs_invSPI (rest := [.int 1, .int y3, .ref (E.2.2.2.1 + v0)]) [.int (y4 + v4), .int (y5 + v3)] dX4_addCrossing_45 lk_X4_129 rfl (zd1 rfl hd) rfl (Nat.le_of_ble_eq_true rfl) (ct_X2_pair E hE _ (zdl rfl hd) _ _ _) (fun y6 => ?_)
    refine zs_ishl dX4_addCrossing_48 ?_
    refine zs_ior dX4_addCrossing_49 ?_
    refine zs_putI dX4_addCrossing_50 fl_X4_34 ft_X4 rfl rfl rfl rfl rfl (fun M7 => ?_)
    exact hj53 M7
set_option maxHeartbeats 4000000 in
set_option maxRecDepth 100000 in
theorem w_X4_addCrossing_L2 (E : zEnv) (hE : zEok E) (d : Nat) (hd : 3 ≤ d) (M0 : zM) (x0 : zM) (v0 : Nat) (v1 : Int32) (v2 : Int32) (k65 : zM → Option (zM)) (hk65 : ∀ (M : zM), zSy E mu_X4_addCrossing d M0 (none, x0) x0 (k65 M) 65 [(0, .ref (E.2.2.2.1 + v0)), (1, .int v1)] [] M) : ∀ (n : Nat) (v3 : Int32) (M : zM), zSy E mu_X4_addCrossing d M0 (none, x0) x0 (fp_X4_addCrossing_L2 k65 v0 v1 v2 n v3 M) 2 [(0, .ref (E.2.2.2.1 + v0)), (1, .int v1), (2, .int v2), (3, .int v3)] [] M := by
  intro n
  induction n with
  | zero =>
    intro v3 M
    rw [fp_X4_addCrossing_L2]
    exact zs_none
  | succ n ih =>
    intro v3 M
    rw [fp_X4_addCrossing_L2]
    refine zs_iload_n dX4_addCrossing_2 rfl 3 rfl ?_
    refine zs_iload_n dX4_addCrossing_3 rfl 1 rfl ?_
    refine zs_icmp_ge dX4_addCrossing_4 rfl ?_ ?_
    · refine zs_sub (loc' := [(0, .ref (E.2.2.2.1 + v0)), (1, .int v1)]) [0, 1] rfl ?_
      exact hk65 M
    refine zs_iconst (v := 0) dX4_addCrossing_7 ciconst_0 ?_
    refine zs_istore (loc' := [(0, .ref (E.2.2.2.1 + v0)), (1, .int v1), (2, .int v2), (3, .int v3), (4, .int 0)]) dX4_addCrossing_8 (Nat.le_of_ble_eq_true rfl) [1, 2, 3, 4, 0] rfl ?_
    refine w_X4_addCrossing_L10 E hE d hd _ _ _ _ _ _ _ (fun M8 => ?_) _ _ _
    refine zs_iinc (v := (v3 + 1)) (loc' := [(0, .ref (E.2.2.2.1 + v0)), (1, .int v1), (2, .int v2), (3, .int (v3 + 1))]) dX4_addCrossing_59 3 rfl (by rfl) (Nat.le_of_ble_eq_true rfl) [1, 2, 3, 0] rfl ?_
    refine zs_goto dX4_addCrossing_62 rfl ?_
    exact ih (v3 + 1) M8
set_option maxHeartbeats 4000000 in
set_option maxRecDepth 100000 in
theorem ct_X4_addCrossing (E : zEnv) (hE : zEok E) (d : Nat) (hd : 3 ≤ d) (v0 : Nat) (v1 : Int32) (v2 : Int32) (M : zM) (x0 : zM) (hx : fp_X4_addCrossing v0 v1 v2 M = some x0) : zCt E mu_X4_addCrossing d [.ref (E.2.2.2.1 + v0), .int v1, .int v2] M (none, x0) := by
  refine zCt_of (μ := mu_X4_addCrossing) (t := fp_X4_addCrossing v0 v1 v2 M) rfl rfl (Nat.le_of_ble_eq_true rfl) hx ?_
  change zSy E mu_X4_addCrossing d M (none, x0) x0 (fp_X4_addCrossing v0 v1 v2 M) 0 [(0, .ref (E.2.2.2.1 + v0)), (1, .int v1), (2, .int v2)] [] M
  unfold fp_X4_addCrossing
  refine zs_this (fun hth => ?_)
  refine zs_iconst (v := 1) dX4_addCrossing_0 ciconst_1 ?_
  refine zs_istore_n (loc' := [(0, .ref (E.2.2.2.1 + v0)), (1, .int v1), (2, .int v2), (3, .int 1)]) dX4_addCrossing_1 rfl (Nat.le_of_ble_eq_true rfl) [1, 2, 3, 0] rfl ?_
  refine w_X4_addCrossing_L2 E hE d hd _ _ _ _ _ _ (fun M9 => ?_) _ _ _
  refine zs_aload_n dX4_addCrossing_65 rfl 0 rfl ?_
  refine zs_dup dX4_addCrossing_66 rfl ?_
  refine zs_getI dX4_addCrossing_67 fl_X4_31 rfl (fun y10 => ?_)
  refine zs_iload_n dX4_addCrossing_70 rfl 1 rfl ?_
  refine zs_iadd dX4_addCrossing_71 ?_
  refine zs_putI dX4_addCrossing_72 fl_X4_31 ft_X4 rfl rfl rfl rfl rfl (fun M11 => ?_)
  exact zs_vret dX4_addCrossing_75 trivial

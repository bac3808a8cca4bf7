theorem dX4_readCross_0 : decode cX4_readCross 0 = .ok (.aload_n 0, 1) := by decide +kernel
theorem dX4_readCross_1 : decode cX4_readCross 1 = .ok (.iconst 1, 1) := by decide +kernel
theorem dX4_readCross_2 : decode cX4_readCross 2 = .ok (.invokevirtual 109, 3) := by decide +kernel
theorem dX4_readCross_5 : decode cX4_readCross 5 = .ok (.ifCond .ne 4, 3) := by decide +kernel
theorem dX4_readCross_8 : decode cX4_readCross 8 = .ok (.return_, 1) := by decide +kernel
theorem dX4_readCross_9 : decode cX4_readCross 9 = .ok (.aload_n 0, 1) := by decide +kernel
theorem dX4_readCross_10 : decode cX4_readCross 10 = .ok (.invokevirtual 132, 3) := by decide +kernel
theorem dX4_readCross_13 : decode cX4_readCross 13 = .ok (.istore_n 1, 1) := by decide +kernel
theorem dX4_readCross_14 : decode cX4_readCross 14 = .ok (.aload_n 0, 1) := by decide +kernel
theorem dX4_readCross_15 : decode cX4_readCross 15 = .ok (.getfield 31, 3) := by decide +kernel
theorem dX4_readCross_18 : decode cX4_readCross 18 = .ok (.iload_n 1, 1) := by decide +kernel
theorem dX4_readCross_19 : decode cX4_readCross 19 = .ok (.iadd, 1) := by decide +kernel
theorem dX4_readCross_20 : decode cX4_readCross 20 = .ok (.bipush 7, 2) := by decide +kernel
theorem dX4_readCross_22 : decode cX4_readCross 22 = .ok (.if_icmp .le 12, 3) := by decide +kernel
theorem dX4_readCross_25 : decode cX4_readCross 25 = .ok (.aload_n 0, 1) := by decide +kernel
theorem dX4_readCross_26 : decode cX4_readCross 26 = .ok (.bipush 6, 2) := by decide +kernel
theorem dX4_readCross_28 : decode cX4_readCross 28 = .ok (.invokevirtual 70, 3) := by decide +kernel
theorem dX4_readCross_31 : decode cX4_readCross 31 = .ok (.goto 52, 3) := by decide +kernel
theorem dX4_readCross_34 : decode cX4_readCross 34 = .ok (.aload_n 0, 1) := by decide +kernel
theorem dX4_readCross_35 : decode cX4_readCross 35 = .ok (.invokevirtual 135, 3) := by decide +kernel
theorem dX4_readCross_38 : decode cX4_readCross 38 = .ok (.ifCond .eq 23, 3) := by decide +kernel
theorem dX4_readCross_41 : decode cX4_readCross 41 = .ok (.aload_n 0, 1) := by decide +kernel
theorem dX4_readCross_42 : decode cX4_readCross 42 = .ok (.getfield 19, 3) := by decide +kernel
theorem dX4_readCross_45 : decode cX4_readCross 45 = .ok (.aload_n 0, 1) := by decide +kernel
theorem dX4_readCross_46 : decode cX4_readCross 46 = .ok (.getfield 40, 3) := by decide +kernel
theorem dX4_readCross_49 : decode cX4_readCross 49 = .ok (.aload_n 0, 1) := by decide +kernel
theorem dX4_readCross_50 : decode cX4_readCross 50 = .ok (.getfield 53, 3) := by decide +kernel
theorem dX4_readCross_53 : decode cX4_readCross 53 = .ok (.isub, 1) := by decide +kernel
theorem dX4_readCross_54 : decode cX4_readCross 54 = .ok (.iload_n 1, 1) := by decide +kernel
theorem dX4_readCross_55 : decode cX4_readCross 55 = .ok (.invokestatic 138, 3) := by decide +kernel
theorem dX4_readCross_58 : decode cX4_readCross 58 = .ok (.ifCond .ne 12, 3) := by decide +kernel
theorem dX4_readCross_61 : decode cX4_readCross 61 = .ok (.aload_n 0, 1) := by decide +kernel
theorem dX4_readCross_62 : decode cX4_readCross 62 = .ok (.bipush 7, 2) := by decide +kernel
theorem dX4_readCross_64 : decode cX4_readCross 64 = .ok (.invokevirtual 70, 3) := by decide +kernel
theorem dX4_readCross_67 : decode cX4_readCross 67 = .ok (.goto 16, 3) := by decide +kernel
theorem dX4_readCross_70 : decode cX4_readCross 70 = .ok (.aload_n 0, 1) := by decide +kernel
theorem dX4_readCross_71 : decode cX4_readCross 71 = .ok (.iload_n 1, 1) := by decide +kernel
theorem dX4_readCross_72 : decode cX4_readCross 72 = .ok (.aload_n 0, 1) := by decide +kernel
theorem dX4_readCross_73 : decode cX4_readCross 73 = .ok (.getfield 19, 3) := by decide +kernel
theorem dX4_readCross_76 : decode cX4_readCross 76 = .ok (.iload_n 1, 1) := by decide +kernel
theorem dX4_readCross_77 : decode cX4_readCross 77 = .ok (.invokestatic 144, 3) := by decide +kernel
theorem dX4_readCross_80 : decode cX4_readCross 80 = .ok (.invokevirtual 148, 3) := by decide +kernel
theorem dX4_readCross_83 : decode cX4_readCross 83 = .ok (.return_, 1) := by decide +kernel
def fp_X4_readCross (v0 : Nat) (M : zM) : Option (zM) :=
  zthis 3 M v0 (
    (fp_X4_expect v0 1 M).bind fun p3 => zpp p3 fun (y1 : Int32) (M2 : zM) =>
    if y1 ≠ 0 then (
      (fp_X4_unlikeLetters v0 M2).bind fun (y4 : Int32) =>
      (zgI 3 M2 v0 0).bind fun (y5 : Int32) =>
      if (y5 + y4) ≤ 7 then (
        (fp_X4_copyWord v0 M2).bind fun p8 => zpp p8 fun (y6 : Int32) (M7 : zM) =>
        zjn (
            (fp_X4_fail v0 7 M7).bind fun (M9 : zM) =>
            some M9)
          (fun j61 =>
            if y6 = 0 then (
              j61)
            else (
              (zgR 3 M7 v0 9).bind fun (y10 : Nat) =>
              (zgI 3 M7 v0 8).bind fun (y11 : Int32) =>
              (zgI 3 M7 v0 7).bind fun (y12 : Int32) =>
              (fp_X5_isChordWord y10 (y11 - y12) y4 M7).bind fun (y13 : Int32) =>
              if y13 ≠ 0 then (
                (zgR 3 M7 v0 9).bind fun (y14 : Nat) =>
                (fp_X5_crossings y14 y4 M7).bind fun (y15 : Int32) =>
                (fp_X4_addCrossing v0 y4 y15 M7).bind fun (M16 : zM) =>
                some M16)
              else (
                j61))))
      else (
        (fp_X4_fail v0 6 M2).bind fun (M17 : zM) =>
        some M17))
    else (
      some M2))
set_option maxHeartbeats 4000000 in
set_option maxRecDepth 100000 in
theorem th_X4_readCross {v0 : Nat} {M : zM} {x0 : zM} (h : fp_X4_readCross v0 M = some x0) : v0 < zS M ∧ kd v0 = 3 := by
  unfold fp_X4_readCross at h
  exact zthis_of h
set_option maxHeartbeats 4000000 in
set_option maxRecDepth 100000 in
theorem ct_X4_readCross (E : zEnv) (hE : zEok E) (d : Nat) (hd : 4 ≤ d) (v0 : Nat) (M : zM) (x0 : zM) (hx : fp_X4_readCross v0 M = some x0) : zCt E mu_X4_readCross d [.ref (E.2.2.2.1 + v0)] M (none, x0) := by
  refine zCt_of (μ := mu_X4_readCross) (t := fp_X4_readCross v0 M) rfl rfl (Nat.le_of_ble_eq_true rfl) hx ?_
  change zSy E mu_X4_readCross d M (none, x0) x0 (fp_X4_readCross v0 M) 0 [(0, .ref (E.2.2.2.1 + v0))] [] M
  unfold fp_X4_readCross
  refine zs_this (fun hth => ?_)
  refine zs_aload_n dX4_readCross_0 rfl 0 rfl ?_
  refine zs_iconst (v := 1) dX4_readCross_1 ciconst_1 ?_
  refine zs_invVWI (rest := []) [.int 1] dX4_readCross_2 lk_X4_109 rfl (fun _ h => th_X4_expect h) (zd1 rfl hd) rfl (Nat.le_of_ble_eq_true rfl) (ct_X4_expect E hE _ (zdl rfl hd) _ _ _) (fun y1 M2 => ?_)
  refine zs_if_ne dX4_readCross_5 rfl ?_ ?_
  · refine zs_aload_n dX4_readCross_9 rfl 0 rfl ?_
    refine zs_invVPI (rest := []) [] dX4_readCross_10 lk_X4_132 rfl (fun _ h => th_X4_unlikeLetters h) (zd1 rfl hd) rfl (Nat.le_of_ble_eq_true rfl) (ct_X4_unlikeLetters E hE _ (zdl rfl hd) _ _) (fun y4 => ?_)
    refine zs_istore_n (loc' := [(0, .ref (E.2.2.2.1 + v0)), (1, .int y4)]) dX4_readCross_13 rfl (Nat.le_of_ble_eq_true rfl) [1, 0] rfl ?_
    refine zs_aload_n dX4_readCross_14 rfl 0 rfl ?_
    refine zs_getI dX4_readCross_15 fl_X4_31 rfl (fun y5 => ?_)
    refine zs_iload_n dX4_readCross_18 rfl 1 rfl ?_
    refine zs_iadd dX4_readCross_19 ?_
    refine zs_bipush (v := 7) dX4_readCross_20 cbipush_7 ?_
    refine zs_icmp_le dX4_readCross_22 rfl ?_ ?_
    · refine zs_aload_n dX4_readCross_34 rfl 0 rfl ?_
      refine zs_invVWI (rest := []) [] dX4_readCross_35 lk_X4_135 rfl (fun _ h => th_X4_copyWord h) (zd1 rfl hd) rfl (Nat.le_of_ble_eq_true rfl) (ct_X4_copyWord E hE _ (zdl rfl hd) _ _) (fun y6 M7 => ?_)
      refine zs_jn (fun j61 => zSy E mu_X4_readCross d M (none, x0) x0 (j61) 61 [(0, .ref (E.2.2.2.1 + v0))] [] M7) ?_ (fun j61 hj61 => ?_)
      · refine zs_aload_n dX4_readCross_61 rfl 0 rfl ?_
        refine zs_bipush (v := 7) dX4_readCross_62 cbipush_7 ?_
        refine zs_invVWV (rest := []) [.int 7] dX4_readCross_64 lk_X4_70 rfl (fun _ h => th_X4_fail h) (zd1 rfl hd) rfl (Nat.le_of_ble_eq_true rfl) (ct_X4_fail E hE _ (zdl rfl hd) _ _ _) (fun M9 => ?_)
        refine zs_goto dX4_readCross_67 rfl ?_
        exact zs_vret dX4_readCross_83 trivial
      refine zs_if_eq dX4_readCross_38 rfl ?_ ?_
      · refine zs_sub (loc' := [(0, .ref (E.2.2.2.1 + v0))]) [0] rfl ?_
        exact hj61
      refine zs_aload_n dX4_readCross_41 rfl 0 rfl ?_
      refine zs_getR dX4_readCross_42 fl_X4_19 rfl (fun y10 => ?_)
      refine zs_aload_n dX4_readCross_45 rfl 0 rfl ?_
      refine zs_getI dX4_readCross_46 fl_X4_40 rfl (fun y11 => ?_)
      refine zs_aload_n dX4_readCross_49 rfl 0 rfl ?_
      refine zs_getI dX4_readCross_50 fl_X4_53 rfl (fun y12 => ?_)
      refine zs_isub dX4_readCross_53 ?_
      refine zs_iload_n dX4_readCross_54 rfl 1 rfl ?_
      refine zs_invSPI (rest := []) [.ref (E.2.2.2.1 + y10), .int (y11 - y12), .int y4] dX4_readCross_55 lk_X4_138 rfl (zd1 rfl hd) rfl (Nat.le_of_ble_eq_true rfl) (ct_X5_isChordWord E hE _ (zdl rfl hd) _ _ _ _) (fun y13 => ?_)
      refine zs_if_ne dX4_readCross_58 rfl ?_ ?_
      · refine zs_aload_n dX4_readCross_70 rfl 0 rfl ?_
        refine zs_iload_n dX4_readCross_71 rfl 1 rfl ?_
        refine zs_aload_n dX4_readCross_72 rfl 0 rfl ?_
        refine zs_getR dX4_readCross_73 fl_X4_19 rfl (fun y14 => ?_)
        refine zs_iload_n dX4_readCross_76 rfl 1 rfl ?_
        refine zs_invSPI (rest := [.int y4, .ref (E.2.2.2.1 + v0)]) [.ref (E.2.2.2.1 + y14), .int y4] dX4_readCross_77 lk_X4_144 rfl (zd1 rfl hd) rfl (Nat.le_of_ble_eq_true rfl) (ct_X5_crossings E hE _ (zdl rfl hd) _ _ _) (fun y15 => ?_)
        refine zs_invVWV (rest := []) [.int y4, .int y15] dX4_readCross_80 lk_X4_148 rfl (fun _ h => th_X4_addCrossing h) (zd1 rfl hd) rfl (Nat.le_of_ble_eq_true rfl) (ct_X4_addCrossing E hE _ (zdl rfl hd) _ _ _ _) (fun M16 => ?_)
        exact zs_vret dX4_readCross_83 trivial
      refine zs_sub (loc' := [(0, .ref (E.2.2.2.1 + v0))]) [0] rfl ?_
      exact hj61
    refine zs_aload_n dX4_readCross_25 rfl 0 rfl ?_
    refine zs_bipush (v := 6) dX4_readCross_26 cbipush_6 ?_
    refine zs_invVWV (rest := []) [.int 6] dX4_readCross_28 lk_X4_70 rfl (fun _ h => th_X4_fail h) (zd1 rfl hd) rfl (Nat.le_of_ble_eq_true rfl) (ct_X4_fail E hE _ (zdl rfl hd) _ _ _) (fun M17 => ?_)
    refine zs_goto dX4_readCross_31 rfl ?_
    exact zs_vret dX4_readCross_83 trivial
  exact zs_vret dX4_readCross_8 trivial
theorem dX4_readTurn_0 : decode cX4_readTurn 0 = .ok (.aload_n 0, 1) := by decide +kernel
theorem dX4_readTurn_1 : decode cX4_readTurn 1 = .ok (.invokevirtual 112, 3) := by decide +kernel
theorem dX4_readTurn_4 : decode cX4_readTurn 4 = .ok (.istore_n 1, 1) := by decide +kernel
theorem dX4_readTurn_5 : decode cX4_readTurn 5 = .ok (.iload_n 1, 1) := by decide +kernel
theorem dX4_readTurn_6 : decode cX4_readTurn 6 = .ok (.ifCond .lt 19, 3) := by decide +kernel
theorem dX4_readTurn_9 : decode cX4_readTurn 9 = .ok (.aload_n 0, 1) := by decide +kernel
theorem dX4_readTurn_10 : decode cX4_readTurn 10 = .ok (.aload_n 0, 1) := by decide +kernel
theorem dX4_readTurn_11 : decode cX4_readTurn 11 = .ok (.getfield 31, 3) := by decide +kernel
theorem dX4_readTurn_14 : decode cX4_readTurn 14 = .ok (.aload_n 0, 1) := by decide +kernel
theorem dX4_readTurn_15 : decode cX4_readTurn 15 = .ok (.getfield 34, 3) := by decide +kernel
theorem dX4_readTurn_18 : decode cX4_readTurn 18 = .ok (.iload_n 1, 1) := by decide +kernel
theorem dX4_readTurn_19 : decode cX4_readTurn 19 = .ok (.invokestatic 115, 3) := by decide +kernel
theorem dX4_readTurn_22 : decode cX4_readTurn 22 = .ok (.putfield 34, 3) := by decide +kernel
theorem dX4_readTurn_25 : decode cX4_readTurn 25 = .ok (.return_, 1) := by decide +kernel
def fp_X4_readTurn (v0 : Nat) (M : zM) : Option (zM) :=
  zthis 3 M v0 (
    (fp_X4_readPoint v0 M).bind fun p3 => zpp p3 fun (y1 : Int32) (M2 : zM) =>
    if y1 < 0 then (
      some M2)
    else (
      (zgI 3 M2 v0 0).bind fun (y4 : Int32) =>
      (zgI 3 M2 v0 1).bind fun (y5 : Int32) =>
      (fp_X2_turnedAt y4 y5 y1).bind fun (y6 : Int32) =>
      (zpI 3 M2 v0 1 y6).bind fun (M7 : zM) =>
      some M7))
set_option maxHeartbeats 4000000 in
set_option maxRecDepth 100000 in
theorem th_X4_readTurn {v0 : Nat} {M : zM} {x0 : zM} (h : fp_X4_readTurn v0 M = some x0) : v0 < zS M ∧ kd v0 = 3 := by
  unfold fp_X4_readTurn at h
  exact zthis_of h
set_option maxHeartbeats 4000000 in
set_option maxRecDepth 100000 in
theorem ct_X4_readTurn (E : zEnv) (hE : zEok E) (d : Nat) (hd : 5 ≤ d) (v0 : Nat) (M : zM) (x0 : zM) (hx : fp_X4_readTurn v0 M = some x0) : zCt E mu_X4_readTurn d [.ref (E.2.2.2.1 + v0)] M (none, x0) := by
  refine zCt_of (μ := mu_X4_readTurn) (t := fp_X4_readTurn v0 M) rfl rfl (Nat.le_of_ble_eq_true rfl) hx ?_
  change zSy E mu_X4_readTurn d M (none, x0) x0 (fp_X4_readTurn v0 M) 0 [(0, .ref (E.2.2.2.1 + v0))] [] M
  unfold fp_X4_readTurn
  refine zs_this (fun hth => ?_)
  refine zs_aload_n dX4_readTurn_0 rfl 0 rfl ?_
  refine zs_invVWI (rest := []) [] dX4_readTurn_1 lk_X4_112 rfl (fun _ h => th_X4_readPoint h) (zd1 rfl hd) rfl (Nat.le_of_ble_eq_true rfl) (ct_X4_readPoint E hE _ (zdl rfl hd) _ _) (fun y1 M2 => ?_)
  refine zs_istore_n (loc' := [(0, .ref (E.2.2.2.1 + v0)), (1, .int y1)]) dX4_readTurn_4 rfl (Nat.le_of_ble_eq_true rfl) [1, 0] rfl ?_
  refine zs_iload_n dX4_readTurn_5 rfl 1 rfl ?_
  refine zs_if_lt dX4_readTurn_6 rfl ?_ ?_
  · exact zs_vret dX4_readTurn_25 trivial
  refine zs_aload_n dX4_readTurn_9 rfl 0 rfl ?_
  refine zs_aload_n dX4_readTurn_10 rfl 0 rfl ?_
  refine zs_getI dX4_readTurn_11 fl_X4_31 rfl (fun y4 => ?_)
  refine zs_aload_n dX4_readTurn_14 rfl 0 rfl ?_
  refine zs_getI dX4_readTurn_15 fl_X4_34 rfl (fun y5 => ?_)
  refine zs_iload_n dX4_readTurn_18 rfl 1 rfl ?_
  refine zs_invSPI (rest := [.ref (E.2.2.2.1 + v0)]) [.int y4, .int y5, .int y1] dX4_readTurn_19 lk_X4_115 rfl (zd1 rfl hd) rfl (Nat.le_of_ble_eq_true rfl) (ct_X2_turnedAt E hE _ (zdl rfl hd) _ _ _ _) (fun y6 => ?_)
  refine zs_putI dX4_readTurn_22 fl_X4_34 ft_X4 rfl rfl rfl rfl rfl (fun M7 => ?_)
  exact zs_vret dX4_readTurn_25 trivial
theorem dX4_readLine_0 : decode cX4_readLine 0 = .ok (.aload_n 0, 1) := by decide +kernel
theorem dX4_readLine_1 : decode cX4_readLine 1 = .ok (.ldc 83, 2) := by decide +kernel
theorem dX4_readLine_3 : decode cX4_readLine 3 = .ok (.invokevirtual 84, 3) := by decide +kernel
theorem dX4_readLine_6 : decode cX4_readLine 6 = .ok (.ifCond .eq 10, 3) := by decide +kernel
theorem dX4_readLine_9 : decode cX4_readLine 9 = .ok (.aload_n 0, 1) := by decide +kernel
theorem dX4_readLine_10 : decode cX4_readLine 10 = .ok (.invokevirtual 88, 3) := by decide +kernel
theorem dX4_readLine_13 : decode cX4_readLine 13 = .ok (.goto 74, 3) := by decide +kernel
theorem dX4_readLine_16 : decode cX4_readLine 16 = .ok (.aload_n 0, 1) := by decide +kernel
theorem dX4_readLine_17 : decode cX4_readLine 17 = .ok (.ldc 91, 2) := by decide +kernel
theorem dX4_readLine_19 : decode cX4_readLine 19 = .ok (.invokevirtual 84, 3) := by decide +kernel
theorem dX4_readLine_22 : decode cX4_readLine 22 = .ok (.ifCond .eq 11, 3) := by decide +kernel
theorem dX4_readLine_25 : decode cX4_readLine 25 = .ok (.aload_n 0, 1) := by decide +kernel
theorem dX4_readLine_26 : decode cX4_readLine 26 = .ok (.iconst 0, 1) := by decide +kernel
theorem dX4_readLine_27 : decode cX4_readLine 27 = .ok (.invokevirtual 93, 3) := by decide +kernel
theorem dX4_readLine_30 : decode cX4_readLine 30 = .ok (.goto 57, 3) := by decide +kernel
theorem dX4_readLine_33 : decode cX4_readLine 33 = .ok (.aload_n 0, 1) := by decide +kernel
theorem dX4_readLine_34 : decode cX4_readLine 34 = .ok (.ldc 97, 2) := by decide +kernel
theorem dX4_readLine_36 : decode cX4_readLine 36 = .ok (.invokevirtual 84, 3) := by decide +kernel
theorem dX4_readLine_39 : decode cX4_readLine 39 = .ok (.ifCond .eq 10, 3) := by decide +kernel
theorem dX4_readLine_42 : decode cX4_readLine 42 = .ok (.aload_n 0, 1) := by decide +kernel
theorem dX4_readLine_43 : decode cX4_readLine 43 = .ok (.invokevirtual 99, 3) := by decide +kernel
theorem dX4_readLine_46 : decode cX4_readLine 46 = .ok (.goto 41, 3) := by decide +kernel
theorem dX4_readLine_49 : decode cX4_readLine 49 = .ok (.aload_n 0, 1) := by decide +kernel
theorem dX4_readLine_50 : decode cX4_readLine 50 = .ok (.ldc 102, 2) := by decide +kernel
theorem dX4_readLine_52 : decode cX4_readLine 52 = .ok (.invokevirtual 84, 3) := by decide +kernel
theorem dX4_readLine_55 : decode cX4_readLine 55 = .ok (.ifCond .eq 10, 3) := by decide +kernel
theorem dX4_readLine_58 : decode cX4_readLine 58 = .ok (.aload_n 0, 1) := by decide +kernel
theorem dX4_readLine_59 : decode cX4_readLine 59 = .ok (.invokevirtual 104, 3) := by decide +kernel
theorem dX4_readLine_62 : decode cX4_readLine 62 = .ok (.goto 25, 3) := by decide +kernel
theorem dX4_readLine_65 : decode cX4_readLine 65 = .ok (.aload_n 0, 1) := by decide +kernel
theorem dX4_readLine_66 : decode cX4_readLine 66 = .ok (.ldc 107, 2) := by decide +kernel
theorem dX4_readLine_68 : decode cX4_readLine 68 = .ok (.invokevirtual 84, 3) := by decide +kernel
theorem dX4_readLine_71 : decode cX4_readLine 71 = .ok (.ifCond .eq 11, 3) := by decide +kernel
theorem dX4_readLine_74 : decode cX4_readLine 74 = .ok (.aload_n 0, 1) := by decide +kernel
theorem dX4_readLine_75 : decode cX4_readLine 75 = .ok (.iconst 1, 1) := by decide +kernel
theorem dX4_readLine_76 : decode cX4_readLine 76 = .ok (.invokevirtual 93, 3) := by decide +kernel
theorem dX4_readLine_79 : decode cX4_readLine 79 = .ok (.goto 8, 3) := by decide +kernel
theorem dX4_readLine_82 : decode cX4_readLine 82 = .ok (.aload_n 0, 1) := by decide +kernel
theorem dX4_readLine_83 : decode cX4_readLine 83 = .ok (.iconst 2, 1) := by decide +kernel
theorem dX4_readLine_84 : decode cX4_readLine 84 = .ok (.invokevirtual 70, 3) := by decide +kernel
theorem dX4_readLine_87 : decode cX4_readLine 87 = .ok (.aload_n 0, 1) := by decide +kernel
theorem dX4_readLine_88 : decode cX4_readLine 88 = .ok (.getfield 37, 3) := by decide +kernel
theorem dX4_readLine_91 : decode cX4_readLine 91 = .ok (.ifCond .ne 9, 3) := by decide +kernel
theorem dX4_readLine_94 : decode cX4_readLine 94 = .ok (.aload_n 0, 1) := by decide +kernel
theorem dX4_readLine_95 : decode cX4_readLine 95 = .ok (.iconst 3, 1) := by decide +kernel
theorem dX4_readLine_96 : decode cX4_readLine 96 = .ok (.invokevirtual 109, 3) := by decide +kernel
theorem dX4_readLine_99 : decode cX4_readLine 99 = .ok (.pop, 1) := by decide +kernel
theorem dX4_readLine_100 : decode cX4_readLine 100 = .ok (.return_, 1) := by decide +kernel
def fp_X4_readLine (v0 : Nat) (M : zM) : Option (zM) :=
  zthis 3 M v0 (
    (fp_X4_says v0 0 M).bind fun (y1 : Int32) =>
    zjn (fun (M2 : zM) =>
        (zgI 3 M2 v0 2).bind fun (y3 : Int32) =>
        if y3 ≠ 0 then (
          some M2)
        else (
          (fp_X4_expect v0 3 M2).bind fun p6 => zpp p6 fun (y4 : Int32) (M5 : zM) =>
          some M5))
      (fun j87 =>
        if y1 = 0 then (
          (fp_X4_says v0 1 M).bind fun (y7 : Int32) =>
          if y7 = 0 then (
            (fp_X4_says v0 2 M).bind fun (y8 : Int32) =>
            if y8 = 0 then (
              (fp_X4_says v0 3 M).bind fun (y9 : Int32) =>
              if y9 = 0 then (
                (fp_X4_says v0 4 M).bind fun (y10 : Int32) =>
                if y10 = 0 then (
                  (fp_X4_fail v0 2 M).bind fun (M11 : zM) =>
                  j87 M11)
                else (
                  (fp_X4_readCouple v0 1 M).bind fun (M12 : zM) =>
                  j87 M12))
              else (
                (fp_X4_readTurn v0 M).bind fun (M13 : zM) =>
                j87 M13))
            else (
              (fp_X4_readCross v0 M).bind fun (M14 : zM) =>
              j87 M14))
          else (
            (fp_X4_readCouple v0 0 M).bind fun (M15 : zM) =>
            j87 M15))
        else (
          (fp_X4_readPoints v0 M).bind fun (M16 : zM) =>
          j87 M16)))
set_option maxHeartbeats 4000000 in
set_option maxRecDepth 100000 in
theorem th_X4_readLine {v0 : Nat} {M : zM} {x0 : zM} (h : fp_X4_readLine v0 M = some x0) : v0 < zS M ∧ kd v0 = 3 := by
  unfold fp_X4_readLine at h
  exact zthis_of h
set_option maxHeartbeats 4000000 in
set_option maxRecDepth 100000 in
theorem ct_X4_readLine (E : zEnv) (hE : zEok E) (d : Nat) (hd : 10 ≤ d) (v0 : Nat) (M : zM) (x0 : zM) (hx : fp_X4_readLine v0 M = some x0) : zCt E mu_X4_readLine d [.ref (E.2.2.2.1 + v0)] M (none, x0) := by
  refine zCt_of (μ := mu_X4_readLine) (t := fp_X4_readLine v0 M) rfl rfl (Nat.le_of_ble_eq_true rfl) hx ?_
  change zSy E mu_X4_readLine d M (none, x0) x0 (fp_X4_readLine v0 M) 0 [(0, .ref (E.2.2.2.1 + v0))] [] M
  unfold fp_X4_readLine
  refine zs_this (fun hth => ?_)
  refine zs_aload_n dX4_readLine_0 rfl 0 rfl ?_
  refine zs_ldcS hE 0 rfl dX4_readLine_1 ?_
  refine zs_invVPI (rest := []) [.ref (E.2.2.2.2.2 0)] dX4_readLine_3 lk_X4_84 rfl (fun _ h => th_X4_says h) (zd1 rfl hd) rfl (Nat.le_of_ble_eq_true rfl) (ct_X4_says E hE _ (zdl rfl hd) _ _ _) (fun y1 => ?_)
  refine zs_jn (fun j87 => ∀ (M2 : zM), zSy E mu_X4_readLine d M (none, x0) x0 (j87 M2) 87 [(0, .ref (E.2.2.2.1 + v0))] [] M2) (fun M2 => ?_) (fun j87 hj87 => ?_)
  · refine zs_aload_n dX4_readLine_87 rfl 0 rfl ?_
    refine zs_getI dX4_readLine_88 fl_X4_37 rfl (fun y3 => ?_)
    refine zs_if_ne dX4_readLine_91 rfl ?_ ?_
    · exact zs_vret dX4_readLine_100 trivial
    refine zs_aload_n dX4_readLine_94 rfl 0 rfl ?_
    refine zs_iconst (v := 3) dX4_readLine_95 ciconst_3 ?_
    refine zs_invVWI (rest := []) [.int 3] dX4_readLine_96 lk_X4_109 rfl (fun _ h => th_X4_expect h) (zd1 rfl hd) rfl (Nat.le_of_ble_eq_true rfl) (ct_X4_expect E hE _ (zdl rfl hd) _ _ _) (fun y4 M5 => ?_)
    refine zs_pop dX4_readLine_99 rfl ?_
    exact zs_vret dX4_readLine_100 trivial
  refine zs_if_eq dX4_readLine_6 rfl ?_ ?_
  · refine zs_aload_n dX4_readLine_16 rfl 0 rfl ?_
    refine zs_ldcS hE 1 rfl dX4_readLine_17 ?_
    refine zs_invVPI (rest := []) [.ref (E.2.2.2.2.2 1)] dX4_readLine_19 lk_X4_84 rfl (fun _ h => th_X4_says h) (zd1 rfl hd) rfl (Nat.le_of_ble_eq_true rfl) (ct_X4_says E hE _ (zdl rfl hd) _ _ _) (fun y7 => ?_)
    refine zs_if_eq dX4_readLine_22 rfl ?_ ?_
    · refine zs_aload_n dX4_readLine_33 rfl 0 rfl ?_
      refine zs_ldcS hE 2 rfl dX4_readLine_34 ?_
      refine zs_invVPI (rest := []) [.ref (E.2.2.2.2.2 2)] dX4_readLine_36 lk_X4_84 rfl (fun _ h => th_X4_says h) (zd1 rfl hd) rfl (Nat.le_of_ble_eq_true rfl) (ct_X4_says E hE _ (zdl rfl hd) _ _ _) (fun y8 => ?_)
      refine zs_if_eq dX4_readLine_39 rfl ?_ ?_
      · refine zs_aload_n dX4_readLine_49 rfl 0 rfl ?_
        refine zs_ldcS hE 3 rfl dX4_readLine_50 ?_
        refine zs_invVPI (rest := []) [.ref (E.2.2.2.2.2 3)] dX4_readLine_52 lk_X4_84 rfl (fun _ h => th_X4_says h) (zd1 rfl hd) rfl (Nat.le_of_ble_eq_true rfl) (ct_X4_says E hE _ (zdl rfl hd) _ _ _) (fun y9 => ?_)
        refine zs_if_eq dX4_readLine_55 rfl ?_ ?_
        · refine zs_aload_n dX4_readLine_65 rfl 0 rfl ?_
          refine zs_ldcS hE 4 rfl dX4_readLine_66 ?_
          refine zs_invVPI (rest := []) [.ref (E.2.2.2.2.2 4)] dX4_readLine_68 lk_X4_84 rfl (fun _ h => th_X4_says h) (zd1 rfl hd) rfl (Nat.le_of_ble_eq_true rfl) (ct_X4_says E hE _ (zdl rfl hd) _ _ _) (fun y10 => ?_)
          refine zs_if_eq dX4_readLine_71 rfl ?_ ?_
          · refine zs_aload_n dX4_readLine_82 rfl 0 rfl ?_
            refine zs_iconst (v := 2) dX4_readLine_83 ciconst_2 ?_
            refine zs_invVWV (rest := []) [.int 2] dX4_readLine_84 lk_X4_70 rfl (fun _ h => th_X4_fail h) (zd1 rfl hd) rfl (Nat.le_of_ble_eq_true rfl) (ct_X4_fail E hE _ (zdl rfl hd) _ _ _) (fun M11 => ?_)
            exact hj87 M11
          refine zs_aload_n dX4_readLine_74 rfl 0 rfl ?_
          refine zs_iconst (v := 1) dX4_readLine_75 ciconst_1 ?_
          refine zs_invVWV (rest := []) [.int 1] dX4_readLine_76 lk_X4_93 rfl (fun _ h => th_X4_readCouple h) (zd1 rfl hd) rfl (Nat.le_of_ble_eq_true rfl) (ct_X4_readCouple E hE _ (zdl rfl hd) _ _ _) (fun M12 => ?_)
          refine zs_goto dX4_readLine_79 rfl ?_
          exact hj87 M12
        refine zs_aload_n dX4_readLine_58 rfl 0 rfl ?_
        refine zs_invVWV (rest := []) [] dX4_readLine_59 lk_X4_104 rfl (fun _ h => th_X4_readTurn h) (zd1 rfl hd) rfl (Nat.le_of_ble_eq_true rfl) (ct_X4_readTurn E hE _ (zdl rfl hd) _ _) (fun M13 => ?_)
        refine zs_goto dX4_readLine_62 rfl ?_
        exact hj87 M13
      refine zs_aload_n dX4_readLine_42 rfl 0 rfl ?_
      refine zs_invVWV (rest := []) [] dX4_readLine_43 lk_X4_99 rfl (fun _ h => th_X4_readCross h) (zd1 rfl hd) rfl (Nat.le_of_ble_eq_true rfl) (ct_X4_readCross E hE _ (zdl rfl hd) _ _) (fun M14 => ?_)
      refine zs_goto dX4_readLine_46 rfl ?_
      exact hj87 M14
    refine zs_aload_n dX4_readLine_25 rfl 0 rfl ?_
    refine zs_iconst (v := 0) dX4_readLine_26 ciconst_0 ?_
    refine zs_invVWV (rest := []) [.int 0] dX4_readLine_27 lk_X4_93 rfl (fun _ h => th_X4_readCouple h) (zd1 rfl hd) rfl (Nat.le_of_ble_eq_true rfl) (ct_X4_readCouple E hE _ (zdl rfl hd) _ _ _) (fun M15 => ?_)
    refine zs_goto dX4_readLine_30 rfl ?_
    exact hj87 M15
  refine zs_aload_n dX4_readLine_9 rfl 0 rfl ?_
  refine zs_invVWV (rest := []) [] dX4_readLine_10 lk_X4_88 rfl (fun _ h => th_X4_readPoints h) (zd1 rfl hd) rfl (Nat.le_of_ble_eq_true rfl) (ct_X4_readPoints E hE _ (zdl rfl hd) _ _) (fun M16 => ?_)
  refine zs_goto dX4_readLine_13 rfl ?_
  exact hj87 M16
theorem dX4_read_0 : decode cX4_read 0 = .ok (.aload_n 0, 1) := by decide +kernel
theorem dX4_read_1 : decode cX4_read 1 = .ok (.aload_n 1, 1) := by decide +kernel
theorem dX4_read_2 : decode cX4_read 2 = .ok (.putfield 15, 3) := by decide +kernel
theorem dX4_read_5 : decode cX4_read 5 = .ok (.aload_n 0, 1) := by decide +kernel
theorem dX4_read_6 : decode cX4_read 6 = .ok (.iload_n 2, 1) := by decide +kernel
theorem dX4_read_7 : decode cX4_read 7 = .ok (.aload_n 1, 1) := by decide +kernel
theorem dX4_read_8 : decode cX4_read 8 = .ok (.arraylength, 1) := by decide +kernel
theorem dX4_read_9 : decode cX4_read 9 = .ok (.invokestatic 22, 3) := by decide +kernel
theorem dX4_read_12 : decode cX4_read 12 = .ok (.putfield 28, 3) := by decide +kernel
theorem dX4_read_15 : decode cX4_read 15 = .ok (.aload_n 0, 1) := by decide +kernel
theorem dX4_read_16 : decode cX4_read 16 = .ok (.iconst 0, 1) := by decide +kernel
theorem dX4_read_17 : decode cX4_read 17 = .ok (.putfield 31, 3) := by decide +kernel
theorem dX4_read_20 : decode cX4_read 20 = .ok (.aload_n 0, 1) := by decide +kernel
theorem dX4_read_21 : decode cX4_read 21 = .ok (.iconst 0, 1) := by decide +kernel
theorem dX4_read_22 : decode cX4_read 22 = .ok (.putfield 34, 3) := by decide +kernel
theorem dX4_read_25 : decode cX4_read 25 = .ok (.aload_n 0, 1) := by decide +kernel
theorem dX4_read_26 : decode cX4_read 26 = .ok (.iconst 0, 1) := by decide +kernel
theorem dX4_read_27 : decode cX4_read 27 = .ok (.putfield 37, 3) := by decide +kernel
theorem dX4_read_30 : decode cX4_read 30 = .ok (.aload_n 0, 1) := by decide +kernel
theorem dX4_read_31 : decode cX4_read 31 = .ok (.iconst (-1), 1) := by decide +kernel
theorem dX4_read_32 : decode cX4_read 32 = .ok (.putfield 9, 3) := by decide +kernel
theorem dX4_read_35 : decode cX4_read 35 = .ok (.aload_n 0, 1) := by decide +kernel
theorem dX4_read_36 : decode cX4_read 36 = .ok (.iconst 0, 1) := by decide +kernel
theorem dX4_read_37 : decode cX4_read 37 = .ok (.putfield 40, 3) := by decide +kernel
theorem dX4_read_40 : decode cX4_read 40 = .ok (.iconst 0, 1) := by decide +kernel
theorem dX4_read_41 : decode cX4_read 41 = .ok (.istore_n 3, 1) := by decide +kernel
theorem dX4_read_42 : decode cX4_read 42 = .ok (.iload_n 3, 1) := by decide +kernel
theorem dX4_read_43 : decode cX4_read 43 = .ok (.aload_n 0, 1) := by decide +kernel
theorem dX4_read_44 : decode cX4_read 44 = .ok (.getfield 28, 3) := by decide +kernel
theorem dX4_read_47 : decode cX4_read 47 = .ok (.if_icmp .gt 34, 3) := by decide +kernel
theorem dX4_read_50 : decode cX4_read 50 = .ok (.aload_n 0, 1) := by decide +kernel
theorem dX4_read_51 : decode cX4_read 51 = .ok (.getfield 37, 3) := by decide +kernel
theorem dX4_read_54 : decode cX4_read 54 = .ok (.ifCond .ne 27, 3) := by decide +kernel
theorem dX4_read_57 : decode cX4_read 57 = .ok (.aload_n 0, 1) := by decide +kernel
theorem dX4_read_58 : decode cX4_read 58 = .ok (.invokevirtual 43, 3) := by decide +kernel
theorem dX4_read_61 : decode cX4_read 61 = .ok (.ifCond .eq 20, 3) := by decide +kernel
theorem dX4_read_64 : decode cX4_read 64 = .ok (.aload_n 0, 1) := by decide +kernel
theorem dX4_read_65 : decode cX4_read 65 = .ok (.getfield 47, 3) := by decide +kernel
theorem dX4_read_68 : decode cX4_read 68 = .ok (.ifCond .eq 13, 3) := by decide +kernel
theorem dX4_read_71 : decode cX4_read 71 = .ok (.aload_n 0, 1) := by decide +kernel
theorem dX4_read_72 : decode cX4_read 72 = .ok (.invokevirtual 50, 3) := by decide +kernel
theorem dX4_read_75 : decode cX4_read 75 = .ok (.iinc 3 1, 3) := by decide +kernel
theorem dX4_read_78 : decode cX4_read 78 = .ok (.goto (-36), 3) := by decide +kernel
theorem dX4_read_81 : decode cX4_read 81 = .ok (.return_, 1) := by decide +kernel
def fp_X4_read_L42 (v0 : Nat) : Nat → Int32 → zM → Option (zM)
  | 0, _, _ => none
  | n + 1, v3, M =>
    (zgI 3 M v0 5).bind fun (y9 : Int32) =>
    if v3 > y9 then (
      some M)
    else (
      (zgI 3 M v0 2).bind fun (y10 : Int32) =>
      if y10 ≠ 0 then (
        some M)
      else (
        (fp_X4_nextToken v0 M).bind fun p13 => zpp p13 fun (y11 : Int32) (M12 : zM) =>
        if y11 = 0 then (
          some M12)
        else (
          (zgI 3 M12 v0 6).bind fun (y14 : Int32) =>
          if y14 = 0 then (
            some M12)
          else (
            (fp_X4_readLine v0 M12).bind fun (M15 : zM) =>
            fp_X4_read_L42 v0 n (v3 + 1) M15))))
def fp_X4_read (v0 : Nat) (v1 : Nat) (v2 : Int32) (M : zM) : Option (zM) :=
  zthis 3 M v0 (
    (zpR 3 M v0 4 v1).bind fun (M1 : zM) =>
    (zln M1 v1).bind fun (y2 : Int32) =>
    (zpI 3 M1 v0 5 (kmin v2 y2)).bind fun (M3 : zM) =>
    (zpI 3 M3 v0 0 0).bind fun (M4 : zM) =>
    (zpI 3 M4 v0 1 0).bind fun (M5 : zM) =>
    (zpI 3 M5 v0 2 0).bind fun (M6 : zM) =>
    (zpI 3 M6 v0 3 (-1)).bind fun (M7 : zM) =>
    (zpI 3 M7 v0 8 0).bind fun (M8 : zM) =>
    fp_X4_read_L42 v0 FU 0 M8)
set_option maxHeartbeats 4000000 in
set_option maxRecDepth 100000 in
theorem th_X4_read {v0 : Nat} {v1 : Nat} {v2 : Int32} {M : zM} {x0 : zM} (h : fp_X4_read v0 v1 v2 M = some x0) : v0 < zS M ∧ kd v0 = 3 := by
  unfold fp_X4_read at h
  exact zthis_of h
set_option maxHeartbeats 4000000 in
set_option maxRecDepth 100000 in
theorem w_X4_read_L42 (E : zEnv) (hE : zEok E) (d : Nat) (hd : 11 ≤ d) (M0 : zM) (x0 : zM) (v0 : Nat)  : ∀ (n : Nat) (v3 : Int32) (M : zM), zSy E mu_X4_read d M0 (none, x0) x0 (fp_X4_read_L42 v0 n v3 M) 42 [(0, .ref (E.2.2.2.1 + v0)), (3, .int v3)] [] M := by
  intro n
  induction n with
  | zero =>
    intro v3 M
    rw [fp_X4_read_L42]
    exact zs_none
  | succ n ih =>
    intro v3 M
    rw [fp_X4_read_L42]
    refine zs_iload_n dX4_read_42 rfl 1 rfl ?_
    refine zs_aload_n dX4_read_43 rfl 0 rfl ?_
    refine zs_getI dX4_read_44 fl_X4_28 rfl (fun y9 => ?_)
    refine zs_icmp_gt dX4_read_47 rfl ?_ ?_
    · exact zs_vret dX4_read_81 trivial
    refine zs_aload_n dX4_read_50 rfl 0 rfl ?_
    refine zs_getI dX4_read_51 fl_X4_37 rfl (fun y10 => ?_)
    refine zs_if_ne dX4_read_54 rfl ?_ ?_
    · exact zs_vret dX4_read_81 trivial
    refine zs_aload_n dX4_read_57 rfl 0 rfl ?_
    refine zs_invVWI (rest := []) [] dX4_read_58 lk_X4_43 rfl (fun _ h => th_X4_nextToken h) (zd1 rfl hd) rfl (Nat.le_of_ble_eq_true rfl) (ct_X4_nextToken E hE _ (zdl rfl hd) _ _) (fun y11 M12 => ?_)
    refine zs_if_eq dX4_read_61 rfl ?_ ?_
    · exact zs_vret dX4_read_81 trivial
    refine zs_aload_n dX4_read_64 rfl 0 rfl ?_
    refine zs_getI dX4_read_65 fl_X4_47 rfl (fun y14 => ?_)
    refine zs_if_eq dX4_read_68 rfl ?_ ?_
    · exact zs_vret dX4_read_81 trivial
    refine zs_aload_n dX4_read_71 rfl 0 rfl ?_
    refine zs_invVWV (rest := []) [] dX4_read_72 lk_X4_50 rfl (fun _ h => th_X4_readLine h) (zd1 rfl hd) rfl (Nat.le_of_ble_eq_true rfl) (ct_X4_readLine E hE _ (zdl rfl hd) _ _) (fun M15 => ?_)
    refine zs_iinc (v := (v3 + 1)) (loc' := [(0, .ref (E.2.2.2.1 + v0)), (3, .int (v3 + 1))]) dX4_read_75 1 rfl (by rfl) (Nat.le_of_ble_eq_true rfl) [1, 0] rfl ?_
    refine zs_goto dX4_read_78 rfl ?_
    exact ih (v3 + 1) M15
set_option maxHeartbeats 4000000 in
set_option maxRecDepth 100000 in
theorem ct_X4_read (E : zEnv) (hE : zEok E) (d : Nat) (hd : 11 ≤ d) (v0 : Nat) (v1 : Nat) (v2 : Int32) (M : zM) (x0 : zM) (hx : fp_X4_read v0 v1 v2 M = some x0) : zCt E mu_X4_read d [.ref (E.2.2.2.1 + v0), .ref (E.2.2.2.1 + v1), .int v2] M (none, x0) := by
  refine zCt_of (μ := mu_X4_read) (t := fp_X4_read v0 v1 v2 M) rfl rfl (Nat.le_of_ble_eq_true rfl) hx ?_
  change zSy E mu_X4_read d M (none, x0) x0 (fp_X4_read v0 v1 v2 M) 0 [(0, .ref (E.2.2.2.1 + v0)), (1, .ref (E.2.2.2.1 + v1)), (2, .int v2)] [] M
  unfold fp_X4_read
  refine zs_this (fun hth => ?_)
  refine zs_aload_n dX4_read_0 rfl 0 rfl ?_
  refine zs_aload_n dX4_read_1 rfl 1 rfl ?_
  refine zs_putR dX4_read_2 fl_X4_15 ft_X4 rfl rfl rfl rfl rfl (fun M1 => ?_)
  refine zs_aload_n dX4_read_5 rfl 0 rfl ?_
  refine zs_iload_n dX4_read_6 rfl 2 rfl ?_
  refine zs_aload_n dX4_read_7 rfl 1 rfl ?_
  refine zs_alen dX4_read_8 (fun y2 => ?_)
  refine zs_min dX4_read_9 (ti_2 72 rfl rfl) ms_min mi_Math mc_min (zd0 rfl hd) (Nat.le_of_ble_eq_true rfl) ?_
  refine zs_putI dX4_read_12 fl_X4_28 ft_X4 rfl rfl rfl rfl rfl (fun M3 => ?_)
  refine zs_aload_n dX4_read_15 rfl 0 rfl ?_
  refine zs_iconst (v := 0) dX4_read_16 ciconst_0 ?_
  refine zs_putI dX4_read_17 fl_X4_31 ft_X4 rfl rfl rfl rfl rfl (fun M4 => ?_)
  refine zs_aload_n dX4_read_20 rfl 0 rfl ?_
  refine zs_iconst (v := 0) dX4_read_21 ciconst_0 ?_
  refine zs_putI dX4_read_22 fl_X4_34 ft_X4 rfl rfl rfl rfl rfl (fun M5 => ?_)
  refine zs_aload_n dX4_read_25 rfl 0 rfl ?_
  refine zs_iconst (v := 0) dX4_read_26 ciconst_0 ?_
  refine zs_putI dX4_read_27 fl_X4_37 ft_X4 rfl rfl rfl rfl rfl (fun M6 => ?_)
  refine zs_aload_n dX4_read_30 rfl 0 rfl ?_
  refine zs_iconst (v := (-1)) dX4_read_31 ciconst_m1 ?_
  refine zs_putI dX4_read_32 fl_X4_9 ft_X4 rfl rfl rfl rfl rfl (fun M7 => ?_)
  refine zs_aload_n dX4_read_35 rfl 0 rfl ?_
  refine zs_iconst (v := 0) dX4_read_36 ciconst_0 ?_
  refine zs_putI dX4_read_37 fl_X4_40 ft_X4 rfl rfl rfl rfl rfl (fun M8 => ?_)
  refine zs_iconst (v := 0) dX4_read_40 ciconst_0 ?_
  refine zs_istore_n (loc' := [(0, .ref (E.2.2.2.1 + v0)), (3, .int 0)]) dX4_read_41 rfl (Nat.le_of_ble_eq_true rfl) [1, 0] rfl ?_
  exact w_X4_read_L42 E hE d hd _ _ _ _ _ _
theorem dX5_spanOf_0 : decode cX5_spanOf 0 = .ok (.aload_n 0, 1) := by decide +kernel
theorem dX5_spanOf_1 : decode cX5_spanOf 1 = .ok (.iload_n 1, 1) := by decide +kernel
theorem dX5_spanOf_2 : decode cX5_spanOf 2 = .ok (.iload_n 2, 1) := by decide +kernel
theorem dX5_spanOf_3 : decode cX5_spanOf 3 = .ok (.iconst 0, 1) := by decide +kernel
theorem dX5_spanOf_4 : decode cX5_spanOf 4 = .ok (.invokestatic 25, 3) := by decide +kernel
theorem dX5_spanOf_7 : decode cX5_spanOf 7 = .ok (.istore_n 3, 1) := by decide +kernel
theorem dX5_spanOf_8 : decode cX5_spanOf 8 = .ok (.aload_n 0, 1) := by decide +kernel
theorem dX5_spanOf_9 : decode cX5_spanOf 9 = .ok (.iload_n 1, 1) := by decide +kernel
theorem dX5_spanOf_10 : decode cX5_spanOf 10 = .ok (.iload_n 2, 1) := by decide +kernel
theorem dX5_spanOf_11 : decode cX5_spanOf 11 = .ok (.iload_n 3, 1) := by decide +kernel
theorem dX5_spanOf_12 : decode cX5_spanOf 12 = .ok (.iconst 1, 1) := by decide +kernel
theorem dX5_spanOf_13 : decode cX5_spanOf 13 = .ok (.iadd, 1) := by decide +kernel
theorem dX5_spanOf_14 : decode cX5_spanOf 14 = .ok (.invokestatic 25, 3) := by decide +kernel
theorem dX5_spanOf_17 : decode cX5_spanOf 17 = .ok (.iload_n 3, 1) := by decide +kernel
theorem dX5_spanOf_18 : decode cX5_spanOf 18 = .ok (.isub, 1) := by decide +kernel
theorem dX5_spanOf_19 : decode cX5_spanOf 19 = .ok (.istore 4, 2) := by decide +kernel
theorem dX5_spanOf_21 : decode cX5_spanOf 21 = .ok (.iload 4, 2) := by decide +kernel
theorem dX5_spanOf_23 : decode cX5_spanOf 23 = .ok (.iload_n 1, 1) := by decide +kernel
theorem dX5_spanOf_24 : decode cX5_spanOf 24 = .ok (.iload 4, 2) := by decide +kernel
theorem dX5_spanOf_26 : decode cX5_spanOf 26 = .ok (.isub, 1) := by decide +kernel
theorem dX5_spanOf_27 : decode cX5_spanOf 27 = .ok (.invokestatic 29, 3) := by decide +kernel
theorem dX5_spanOf_30 : decode cX5_spanOf 30 = .ok (.ireturn, 1) := by decide +kernel
def fp_X5_spanOf (v0 : Nat) (v1 : Int32) (v2 : Int32) (M : zM) : Option (Int32) :=
  (fp_X5_placeOf v0 v1 v2 0 M).bind fun (y1 : Int32) =>
  (fp_X5_placeOf v0 v1 v2 (y1 + 1) M).bind fun (y2 : Int32) =>
  lett ((y2 - y1)) fun (v4_3 : Int32) =>
  some (kmin v4_3 (v1 - v4_3))
set_option maxHeartbeats 4000000 in
set_option maxRecDepth 100000 in
theorem ct_X5_spanOf (E : zEnv) (hE : zEok E) (d : Nat) (hd : 2 ≤ d) (v0 : Nat) (v1 : Int32) (v2 : Int32) (M : zM) (x0 : Int32) (hx : fp_X5_spanOf v0 v1 v2 M = some x0) : zCt E mu_X5_spanOf d [.ref (E.2.2.2.1 + v0), .int v1, .int v2] M (some (.int x0), M) := by
  refine zCt_of (μ := mu_X5_spanOf) (t := fp_X5_spanOf v0 v1 v2 M) rfl rfl (Nat.le_of_ble_eq_true rfl) hx ?_
  change zSy E mu_X5_spanOf d M (some (.int x0), M) x0 (fp_X5_spanOf v0 v1 v2 M) 0 [(0, .ref (E.2.2.2.1 + v0)), (1, .int v1), (2, .int v2)] [] M
  unfold fp_X5_spanOf
  refine zs_aload_n dX5_spanOf_0 rfl 0 rfl ?_
  refine zs_iload_n dX5_spanOf_1 rfl 1 rfl ?_
  refine zs_iload_n dX5_spanOf_2 rfl 2 rfl ?_
  refine zs_iconst (v := 0) dX5_spanOf_3 ciconst_0 ?_
  refine zs_invSPI (rest := []) [.ref (E.2.2.2.1 + v0), .int v1, .int v2, .int 0] dX5_spanOf_4 lk_X5_25 rfl (zd1 rfl hd) rfl (Nat.le_of_ble_eq_true rfl) (ct_X5_placeOf E hE _ (zdl rfl hd) _ _ _ _ _) (fun y1 => ?_)
  refine zs_istore_n (loc' := [(0, .ref (E.2.2.2.1 + v0)), (1, .int v1), (2, .int v2), (3, .int y1)]) dX5_spanOf_7 rfl (Nat.le_of_ble_eq_true rfl) [1, 2, 3, 0] rfl ?_
  refine zs_aload_n dX5_spanOf_8 rfl 0 rfl ?_
  refine zs_iload_n dX5_spanOf_9 rfl 1 rfl ?_
  refine zs_iload_n dX5_spanOf_10 rfl 2 rfl ?_
  refine zs_iload_n dX5_spanOf_11 rfl 3 rfl ?_
  refine zs_iconst (v := 1) dX5_spanOf_12 ciconst_1 ?_
  refine zs_iadd dX5_spanOf_13 ?_
  refine zs_invSPI (rest := []) [.ref (E.2.2.2.1 + v0), .int v1, .int v2, .int (y1 + 1)] dX5_spanOf_14 lk_X5_25 rfl (zd1 rfl hd) rfl (Nat.le_of_ble_eq_true rfl) (ct_X5_placeOf E hE _ (zdl rfl hd) _ _ _ _ _) (fun y2 => ?_)
  refine zs_iload_n dX5_spanOf_17 rfl 3 rfl ?_
  refine zs_isub dX5_spanOf_18 ?_
  refine zs_istoreL (loc' := fun v4_3 => [(1, .int v1), (4, .int v4_3)]) dX5_spanOf_19 (Nat.le_of_ble_eq_true rfl) [2, 0] (fun _ => rfl) (fun v4_3 => ?_)
  refine zs_iload dX5_spanOf_21 1 rfl ?_
  refine zs_iload_n dX5_spanOf_23 rfl 0 rfl ?_
  refine zs_iload dX5_spanOf_24 1 rfl ?_
  refine zs_isub dX5_spanOf_26 ?_
  refine zs_min dX5_spanOf_27 (ti_4 150 rfl rfl) ms_min mi_Math mc_min (zd0 rfl hd) (Nat.le_of_ble_eq_true rfl) ?_
  exact zs_iretP dX5_spanOf_30 rfl
theorem dX10_ratio_0 : decode cX10_ratio 0 = .ok (.iload_n 1, 1) := by decide +kernel
theorem dX10_ratio_1 : decode cX10_ratio 1 = .ok (.ifCond .ne 8, 3) := by decide +kernel
theorem dX10_ratio_4 : decode cX10_ratio 4 = .ok (.iload_n 2, 1) := by decide +kernel
theorem dX10_ratio_5 : decode cX10_ratio 5 = .ok (.i2f, 1) := by decide +kernel
theorem dX10_ratio_6 : decode cX10_ratio 6 = .ok (.goto 8, 3) := by decide +kernel
theorem dX10_ratio_9 : decode cX10_ratio 9 = .ok (.iload_n 0, 1) := by decide +kernel
theorem dX10_ratio_10 : decode cX10_ratio 10 = .ok (.i2f, 1) := by decide +kernel
theorem dX10_ratio_11 : decode cX10_ratio 11 = .ok (.iload_n 1, 1) := by decide +kernel
theorem dX10_ratio_12 : decode cX10_ratio 12 = .ok (.i2f, 1) := by decide +kernel
theorem dX10_ratio_13 : decode cX10_ratio 13 = .ok (.fdiv, 1) := by decide +kernel
theorem dX10_ratio_14 : decode cX10_ratio 14 = .ok (.freturn, 1) := by decide +kernel
def fp_X10_ratio (v0 : Int32) (v1 : Int32) (v2 : Int32) : Option (UInt32) :=
  if v1 ≠ 0 then (
    (zfl (FP.fdiv (FP.i2f v0) (FP.i2f v1))).bind fun (y1 : UInt32) =>
    some y1)
  else (
    some (FP.i2f v2))
set_option maxHeartbeats 4000000 in
set_option maxRecDepth 100000 in
theorem ct_X10_ratio (E : zEnv) (hE : zEok E) (d : Nat) (hd : 1 ≤ d) (v0 : Int32) (v1 : Int32) (v2 : Int32) (M : zM) (x0 : UInt32) (hx : fp_X10_ratio v0 v1 v2 = some x0) : zCt E mu_X10_ratio d [.int v0, .int v1, .int v2] M (some (.float x0), M) := by
  refine zCt_of (μ := mu_X10_ratio) (t := fp_X10_ratio v0 v1 v2) rfl rfl (Nat.le_of_ble_eq_true rfl) hx ?_
  change zSy E mu_X10_ratio d M (some (.float x0), M) x0 (fp_X10_ratio v0 v1 v2) 0 [(0, .int v0), (1, .int v1), (2, .int v2)] [] M
  unfold fp_X10_ratio
  refine zs_iload_n dX10_ratio_0 rfl 1 rfl ?_
  refine zs_if_ne dX10_ratio_1 rfl ?_ ?_
  · refine zs_iload_n dX10_ratio_9 rfl 0 rfl ?_
    refine zs_i2f dX10_ratio_10 ?_
    refine zs_iload_n dX10_ratio_11 rfl 1 rfl ?_
    refine zs_i2f dX10_ratio_12 ?_
    refine zs_fdiv dX10_ratio_13 (fun y1 => ?_)
    exact zs_fretP dX10_ratio_14 trivial
  refine zs_iload_n dX10_ratio_4 rfl 2 rfl ?_
  refine zs_i2f dX10_ratio_5 ?_
  refine zs_goto dX10_ratio_6 rfl ?_
  exact zs_fretP dX10_ratio_14 trivial
theorem dX5_meanSpan_0 : decode cX5_meanSpan 0 = .ok (.iconst 0, 1) := by decide +kernel
theorem dX5_meanSpan_1 : decode cX5_meanSpan 1 = .ok (.istore_n 2, 1) := by decide +kernel
theorem dX5_meanSpan_2 : decode cX5_meanSpan 2 = .ok (.iconst 0, 1) := by decide +kernel
theorem dX5_meanSpan_3 : decode cX5_meanSpan 3 = .ok (.istore_n 3, 1) := by decide +kernel
theorem dX5_meanSpan_4 : decode cX5_meanSpan 4 = .ok (.iload_n 3, 1) := by decide +kernel
theorem dX5_meanSpan_5 : decode cX5_meanSpan 5 = .ok (.iload_n 1, 1) := by decide +kernel
theorem dX5_meanSpan_6 : decode cX5_meanSpan 6 = .ok (.if_icmp .ge 20, 3) := by decide +kernel
theorem dX5_meanSpan_9 : decode cX5_meanSpan 9 = .ok (.iload_n 2, 1) := by decide +kernel
theorem dX5_meanSpan_10 : decode cX5_meanSpan 10 = .ok (.aload_n 0, 1) := by decide +kernel
theorem dX5_meanSpan_11 : decode cX5_meanSpan 11 = .ok (.iconst 2, 1) := by decide +kernel
theorem dX5_meanSpan_12 : decode cX5_meanSpan 12 = .ok (.iload_n 1, 1) := by decide +kernel
theorem dX5_meanSpan_13 : decode cX5_meanSpan 13 = .ok (.imul, 1) := by decide +kernel
theorem dX5_meanSpan_14 : decode cX5_meanSpan 14 = .ok (.iload_n 3, 1) := by decide +kernel
theorem dX5_meanSpan_15 : decode cX5_meanSpan 15 = .ok (.invokestatic 34, 3) := by decide +kernel
theorem dX5_meanSpan_18 : decode cX5_meanSpan 18 = .ok (.iadd, 1) := by decide +kernel
theorem dX5_meanSpan_19 : decode cX5_meanSpan 19 = .ok (.istore_n 2, 1) := by decide +kernel
theorem dX5_meanSpan_20 : decode cX5_meanSpan 20 = .ok (.iinc 3 1, 3) := by decide +kernel
theorem dX5_meanSpan_23 : decode cX5_meanSpan 23 = .ok (.goto (-19), 3) := by decide +kernel
theorem dX5_meanSpan_26 : decode cX5_meanSpan 26 = .ok (.iload_n 2, 1) := by decide +kernel
theorem dX5_meanSpan_27 : decode cX5_meanSpan 27 = .ok (.iload_n 1, 1) := by decide +kernel
theorem dX5_meanSpan_28 : decode cX5_meanSpan 28 = .ok (.iconst 0, 1) := by decide +kernel
theorem dX5_meanSpan_29 : decode cX5_meanSpan 29 = .ok (.invokestatic 37, 3) := by decide +kernel
theorem dX5_meanSpan_32 : decode cX5_meanSpan 32 = .ok (.freturn, 1) := by decide +kernel
def fp_X5_meanSpan_L4 (v0 : Nat) (v1 : Int32) (M : zM) : Nat → Int32 → Int32 → Option (UInt32)
  | 0, _, _ => none
  | n + 1, v2, v3 =>
    if v3 ≥ v1 then (
      (fp_X10_ratio v2 v1 0).bind fun (y1 : UInt32) =>
      some y1)
    else (
      (fp_X5_spanOf v0 (2 * v1) v3 M).bind fun (y2 : Int32) =>
      lett ((v2 + y2)) fun (v2_3 : Int32) =>
      fp_X5_meanSpan_L4 v0 v1 M n v2_3 (v3 + 1))
def fp_X5_meanSpan (v0 : Nat) (v1 : Int32) (M : zM) : Option (UInt32) :=
  fp_X5_meanSpan_L4 v0 v1 M FU 0 0
set_option maxHeartbeats 4000000 in
set_option maxRecDepth 100000 in
theorem w_X5_meanSpan_L4 (E : zEnv) (hE : zEok E) (d : Nat) (hd : 3 ≤ d) (x0 : UInt32) (v0 : Nat) (v1 : Int32) (M : zM)  : ∀ (n : Nat) (v2 : Int32) (v3 : Int32), zSy E mu_X5_meanSpan d M (some (.float x0), M) x0 (fp_X5_meanSpan_L4 v0 v1 M n v2 v3) 4 [(0, .ref (E.2.2.2.1 + v0)), (1, .int v1), (2, .int v2), (3, .int v3)] [] M := by
  intro n
  induction n with
  | zero =>
    intro v2 v3
    rw [fp_X5_meanSpan_L4]
    exact zs_none
  | succ n ih =>
    intro v2 v3
    rw [fp_X5_meanSpan_L4]
    refine zs_iload_n dX5_meanSpan_4 rfl 3 rfl ?_
    refine zs_iload_n dX5_meanSpan_5 rfl 1 rfl ?_
    refine zs_icmp_ge dX5_meanSpan_6 rfl ?_ ?_
    · refine zs_iload_n dX5_meanSpan_26 rfl 2 rfl ?_
      refine zs_iload_n dX5_meanSpan_27 rfl 1 rfl ?_
      refine zs_iconst (v := 0) dX5_meanSpan_28 ciconst_0 ?_
      refine zs_invSNPF (rest := []) [.int v2, .int v1, .int 0] dX5_meanSpan_29 lk_X5_37 rfl (zd1 rfl hd) rfl (Nat.le_of_ble_eq_true rfl) (ct_X10_ratio E hE _ (zdl rfl hd) _ _ _ _) (fun y1 => ?_)
      exact zs_fretP dX5_meanSpan_32 trivial
    refine zs_iload_n dX5_meanSpan_9 rfl 2 rfl ?_
    refine zs_aload_n dX5_meanSpan_10 rfl 0 rfl ?_
    refine zs_iconst (v := 2) dX5_meanSpan_11 ciconst_2 ?_
    refine zs_iload_n dX5_meanSpan_12 rfl 1 rfl ?_
    refine zs_imul dX5_meanSpan_13 ?_
    refine zs_iload_n dX5_meanSpan_14 rfl 3 rfl ?_
    refine zs_invSPI (rest := [.int v2]) [.ref (E.2.2.2.1 + v0), .int (2 * v1), .int v3] dX5_meanSpan_15 lk_X5_34 rfl (zd1 rfl hd) rfl (Nat.le_of_ble_eq_true rfl) (ct_X5_spanOf E hE _ (zdl rfl hd) _ _ _ _) (fun y2 => ?_)
    refine zs_iadd dX5_meanSpan_18 ?_
    refine zs_istore_nL (loc' := fun v2_3 => [(0, .ref (E.2.2.2.1 + v0)), (1, .int v1), (2, .int v2_3), (3, .int v3)]) dX5_meanSpan_19 rfl (Nat.le_of_ble_eq_true rfl) [1, 2, 0, 3] (fun _ => rfl) (fun v2_3 => ?_)
    refine zs_iinc (v := (v3 + 1)) (loc' := [(0, .ref (E.2.2.2.1 + v0)), (1, .int v1), (2, .int v2_3), (3, .int (v3 + 1))]) dX5_meanSpan_20 3 rfl (by rfl) (Nat.le_of_ble_eq_true rfl) [1, 2, 3, 0] rfl ?_
    refine zs_goto dX5_meanSpan_23 rfl ?_
    exact ih v2_3 (v3 + 1)
set_option maxHeartbeats 4000000 in
set_option maxRecDepth 100000 in
theorem ct_X5_meanSpan (E : zEnv) (hE : zEok E) (d : Nat) (hd : 3 ≤ d) (v0 : Nat) (v1 : Int32) (M : zM) (x0 : UInt32) (hx : fp_X5_meanSpan v0 v1 M = some x0) : zCt E mu_X5_meanSpan d [.ref (E.2.2.2.1 + v0), .int v1] M (some (.float x0), M) := by
  refine zCt_of (μ := mu_X5_meanSpan) (t := fp_X5_meanSpan v0 v1 M) rfl rfl (Nat.le_of_ble_eq_true rfl) hx ?_
  change zSy E mu_X5_meanSpan d M (some (.float x0), M) x0 (fp_X5_meanSpan v0 v1 M) 0 [(0, .ref (E.2.2.2.1 + v0)), (1, .int v1)] [] M
  unfold fp_X5_meanSpan
  refine zs_iconst (v := 0) dX5_meanSpan_0 ciconst_0 ?_
  refine zs_istore_n (loc' := [(0, .ref (E.2.2.2.1 + v0)), (1, .int v1), (2, .int 0)]) dX5_meanSpan_1 rfl (Nat.le_of_ble_eq_true rfl) [1, 2, 0] rfl ?_
  refine zs_iconst (v := 0) dX5_meanSpan_2 ciconst_0 ?_
  refine zs_istore_n (loc' := [(0, .ref (E.2.2.2.1 + v0)), (1, .int v1), (2, .int 0), (3, .int 0)]) dX5_meanSpan_3 rfl (Nat.le_of_ble_eq_true rfl) [1, 2, 3, 0] rfl ?_
  exact w_X5_meanSpan_L4 E hE d hd _ _ _ _ _ _ _
theorem dX5_even_0 : decode cX5_even 0 = .ok (.bipush 14, 2) := by decide +kernel
theorem dX5_even_2 : decode cX5_even 2 = .ok (.istore_n 2, 1) := by decide +kernel
theorem dX5_even_3 : decode cX5_even 3 = .ok (.iconst 0, 1) := by decide +kernel
theorem dX5_even_4 : decode cX5_even 4 = .ok (.istore_n 3, 1) := by decide +kernel
theorem dX5_even_5 : decode cX5_even 5 = .ok (.iconst 0, 1) := by decide +kernel
theorem dX5_even_6 : decode cX5_even 6 = .ok (.istore 4, 2) := by decide +kernel
theorem dX5_even_8 : decode cX5_even 8 = .ok (.iload 4, 2) := by decide +kernel
theorem dX5_even_10 : decode cX5_even 10 = .ok (.iload_n 1, 1) := by decide +kernel
theorem dX5_even_11 : decode cX5_even 11 = .ok (.if_icmp .ge 37, 3) := by decide +kernel
theorem dX5_even_14 : decode cX5_even 14 = .ok (.iload_n 2, 1) := by decide +kernel
theorem dX5_even_15 : decode cX5_even 15 = .ok (.aload_n 0, 1) := by decide +kernel
theorem dX5_even_16 : decode cX5_even 16 = .ok (.iconst 2, 1) := by decide +kernel
theorem dX5_even_17 : decode cX5_even 17 = .ok (.iload_n 1, 1) := by decide +kernel
theorem dX5_even_18 : decode cX5_even 18 = .ok (.imul, 1) := by decide +kernel
theorem dX5_even_19 : decode cX5_even 19 = .ok (.iload 4, 2) := by decide +kernel
theorem dX5_even_21 : decode cX5_even 21 = .ok (.invokestatic 34, 3) := by decide +kernel
theorem dX5_even_24 : decode cX5_even 24 = .ok (.invokestatic 29, 3) := by decide +kernel
theorem dX5_even_27 : decode cX5_even 27 = .ok (.istore_n 2, 1) := by decide +kernel
theorem dX5_even_28 : decode cX5_even 28 = .ok (.iload_n 3, 1) := by decide +kernel
theorem dX5_even_29 : decode cX5_even 29 = .ok (.aload_n 0, 1) := by decide +kernel
theorem dX5_even_30 : decode cX5_even 30 = .ok (.iconst 2, 1) := by decide +kernel
theorem dX5_even_31 : decode cX5_even 31 = .ok (.iload_n 1, 1) := by decide +kernel
theorem dX5_even_32 : decode cX5_even 32 = .ok (.imul, 1) := by decide +kernel
theorem dX5_even_33 : decode cX5_even 33 = .ok (.iload 4, 2) := by decide +kernel
theorem dX5_even_35 : decode cX5_even 35 = .ok (.invokestatic 34, 3) := by decide +kernel
theorem dX5_even_38 : decode cX5_even 38 = .ok (.invokestatic 41, 3) := by decide +kernel
theorem dX5_even_41 : decode cX5_even 41 = .ok (.istore_n 3, 1) := by decide +kernel
theorem dX5_even_42 : decode cX5_even 42 = .ok (.iinc 4 1, 3) := by decide +kernel
theorem dX5_even_45 : decode cX5_even 45 = .ok (.goto (-37), 3) := by decide +kernel
theorem dX5_even_48 : decode cX5_even 48 = .ok (.iload_n 2, 1) := by decide +kernel
theorem dX5_even_49 : decode cX5_even 49 = .ok (.iload_n 3, 1) := by decide +kernel
theorem dX5_even_50 : decode cX5_even 50 = .ok (.iconst 1, 1) := by decide +kernel
theorem dX5_even_51 : decode cX5_even 51 = .ok (.invokestatic 37, 3) := by decide +kernel
theorem dX5_even_54 : decode cX5_even 54 = .ok (.freturn, 1) := by decide +kernel
def fp_X5_even_L8 (v0 : Nat) (v1 : Int32) (M : zM) : Nat → Int32 → Int32 → Int32 → Option (UInt32)
  | 0, _, _, _ => none
  | n + 1, v2, v3, v4 =>
    if v4 ≥ v1 then (
      (fp_X10_ratio v2 v3 1).bind fun (y1 : UInt32) =>
      some y1)
    else (
      (fp_X5_spanOf v0 (2 * v1) v4 M).bind fun (y2 : Int32) =>
      lett ((kmin v2 y2)) fun (v2_3 : Int32) =>
      (fp_X5_spanOf v0 (2 * v1) v4 M).bind fun (y4 : Int32) =>
      lett ((kmax v3 y4)) fun (v3_5 : Int32) =>
      fp_X5_even_L8 v0 v1 M n v2_3 v3_5 (v4 + 1))
def fp_X5_even (v0 : Nat) (v1 : Int32) (M : zM) : Option (UInt32) :=
  fp_X5_even_L8 v0 v1 M FU 14 0 0
set_option maxHeartbeats 4000000 in
set_option maxRecDepth 100000 in
theorem w_X5_even_L8 (E : zEnv) (hE : zEok E) (d : Nat) (hd : 3 ≤ d) (x0 : UInt32) (v0 : Nat) (v1 : Int32) (M : zM)  : ∀ (n : Nat) (v2 : Int32) (v3 : Int32) (v4 : Int32), zSy E mu_X5_even d M (some (.float x0), M) x0 (fp_X5_even_L8 v0 v1 M n v2 v3 v4) 8 [(0, .ref (E.2.2.2.1 + v0)), (1, .int v1), (2, .int v2), (3, .int v3), (4, .int v4)] [] M := by
  intro n
  induction n with
  | zero =>
    intro v2 v3 v4
    rw [fp_X5_even_L8]
    exact zs_none
  | succ n ih =>
    intro v2 v3 v4
    rw [fp_X5_even_L8]
    refine zs_iload dX5_even_8 4 rfl ?_
    refine zs_iload_n dX5_even_10 rfl 1 rfl ?_
    refine zs_icmp_ge dX5_even_11 rfl ?_ ?_
    · refine zs_iload_n dX5_even_48 rfl 2 rfl ?_
      refine zs_iload_n dX5_even_49 rfl 3 rfl ?_
      refine zs_iconst (v := 1) dX5_even_50 ciconst_1 ?_
      refine zs_invSNPF (rest := []) [.int v2, .int v3, .int 1] dX5_even_51 lk_X5_37 rfl (zd1 rfl hd) rfl (Nat.le_of_ble_eq_true rfl) (ct_X10_ratio E hE _ (zdl rfl hd) _ _ _ _) (fun y1 => ?_)
      exact zs_fretP dX5_even_54 trivial
    refine zs_iload_n dX5_even_14 rfl 2 rfl ?_
    refine zs_aload_n dX5_even_15 rfl 0 rfl ?_
    refine zs_iconst (v := 2) dX5_even_16 ciconst_2 ?_
    refine zs_iload_n dX5_even_17 rfl 1 rfl ?_
    refine zs_imul dX5_even_18 ?_
    refine zs_iload dX5_even_19 4 rfl ?_
    refine zs_invSPI (rest := [.int v2]) [.ref (E.2.2.2.1 + v0), .int (2 * v1), .int v4] dX5_even_21 lk_X5_34 rfl (zd1 rfl hd) rfl (Nat.le_of_ble_eq_true rfl) (ct_X5_spanOf E hE _ (zdl rfl hd) _ _ _ _) (fun y2 => ?_)
    refine zs_min dX5_even_24 (ti_4 150 rfl rfl) ms_min mi_Math mc_min (zd0 rfl hd) (Nat.le_of_ble_eq_true rfl) ?_
    refine zs_istore_nL (loc' := fun v2_3 => [(0, .ref (E.2.2.2.1 + v0)), (1, .int v1), (2, .int v2_3), (3, .int v3), (4, .int v4)]) dX5_even_27 rfl (Nat.le_of_ble_eq_true rfl) [1, 2, 0, 3, 4] (fun _ => rfl) (fun v2_3 => ?_)
    refine zs_iload_n dX5_even_28 rfl 3 rfl ?_
    refine zs_aload_n dX5_even_29 rfl 0 rfl ?_
    refine zs_iconst (v := 2) dX5_even_30 ciconst_2 ?_
    refine zs_iload_n dX5_even_31 rfl 1 rfl ?_
    refine zs_imul dX5_even_32 ?_
    refine zs_iload dX5_even_33 4 rfl ?_
    refine zs_invSPI (rest := [.int v3]) [.ref (E.2.2.2.1 + v0), .int (2 * v1), .int v4] dX5_even_35 lk_X5_34 rfl (zd1 rfl hd) rfl (Nat.le_of_ble_eq_true rfl) (ct_X5_spanOf E hE _ (zdl rfl hd) _ _ _ _) (fun y4 => ?_)
    refine zs_max dX5_even_38 (ti_4 165 rfl rfl) ms_max mi_Math mc_max (zd0 rfl hd) (Nat.le_of_ble_eq_true rfl) ?_
    refine zs_istore_nL (loc' := fun v3_5 => [(0, .ref (E.2.2.2.1 + v0)), (1, .int v1), (2, .int v2_3), (3, .int v3_5), (4, .int v4)]) dX5_even_41 rfl (Nat.le_of_ble_eq_true rfl) [1, 2, 3, 0, 4] (fun _ => rfl) (fun v3_5 => ?_)
    refine zs_iinc (v := (v4 + 1)) (loc' := [(0, .ref (E.2.2.2.1 + v0)), (1, .int v1), (2, .int v2_3), (3, .int v3_5), (4, .int (v4 + 1))]) dX5_even_42 4 rfl (by rfl) (Nat.le_of_ble_eq_true rfl) [1, 2, 3, 4, 0] rfl ?_
    refine zs_goto dX5_even_45 rfl ?_
    exact ih v2_3 v3_5 (v4 + 1)
set_option maxHeartbeats 4000000 in
set_option maxRecDepth 100000 in
theorem ct_X5_even (E : zEnv) (hE : zEok E) (d : Nat) (hd : 3 ≤ d) (v0 : Nat) (v1 : Int32) (M : zM) (x0 : UInt32) (hx : fp_X5_even v0 v1 M = some x0) : zCt E mu_X5_even d [.ref (E.2.2.2.1 + v0), .int v1] M (some (.float x0), M) := by
  refine zCt_of (μ := mu_X5_even) (t := fp_X5_even v0 v1 M) rfl rfl (Nat.le_of_ble_eq_true rfl) hx ?_
  change zSy E mu_X5_even d M (some (.float x0), M) x0 (fp_X5_even v0 v1 M) 0 [(0, .ref (E.2.2.2.1 + v0)), (1, .int v1)] [] M
  unfold fp_X5_even
  refine zs_bipush (v := 14) dX5_even_0 cbipush_14 ?_
  refine zs_istore_n (loc' := [(0, .ref (E.2.2.2.1 + v0)), (1, .int v1), (2, .int 14)]) dX5_even_2 rfl (Nat.le_of_ble_eq_true rfl) [1, 2, 0] rfl ?_
  refine zs_iconst (v := 0) dX5_even_3 ciconst_0 ?_
  refine zs_istore_n (loc' := [(0, .ref (E.2.2.2.1 + v0)), (1, .int v1), (2, .int 14), (3, .int 0)]) dX5_even_4 rfl (Nat.le_of_ble_eq_true rfl) [1, 2, 3, 0] rfl ?_
  refine zs_iconst (v := 0) dX5_even_5 ciconst_0 ?_
  refine zs_istore (loc' := [(0, .ref (E.2.2.2.1 + v0)), (1, .int v1), (2, .int 14), (3, .int 0), (4, .int 0)]) dX5_even_6 (Nat.le_of_ble_eq_true rfl) [1, 2, 3, 4, 0] rfl ?_
  exact w_X5_even_L8 E hE d hd _ _ _ _ _ _ _ _
theorem dX5_reverseBetween_0 : decode cX5_reverseBetween 0 = .ok (.aload_n 0, 1) := by decide +kernel
theorem dX5_reverseBetween_1 : decode cX5_reverseBetween 1 = .ok (.iload_n 1, 1) := by decide +kernel
theorem dX5_reverseBetween_2 : decode cX5_reverseBetween 2 = .ok (.iload_n 2, 1) := by decide +kernel
theorem dX5_reverseBetween_3 : decode cX5_reverseBetween 3 = .ok (.iconst 0, 1) := by decide +kernel
theorem dX5_reverseBetween_4 : decode cX5_reverseBetween 4 = .ok (.invokestatic 25, 3) := by decide +kernel
theorem dX5_reverseBetween_7 : decode cX5_reverseBetween 7 = .ok (.iconst 1, 1) := by decide +kernel
theorem dX5_reverseBetween_8 : decode cX5_reverseBetween 8 = .ok (.iadd, 1) := by decide +kernel
theorem dX5_reverseBetween_9 : decode cX5_reverseBetween 9 = .ok (.istore_n 3, 1) := by decide +kernel
theorem dX5_reverseBetween_10 : decode cX5_reverseBetween 10 = .ok (.aload_n 0, 1) := by decide +kernel
theorem dX5_reverseBetween_11 : decode cX5_reverseBetween 11 = .ok (.iload_n 1, 1) := by decide +kernel
theorem dX5_reverseBetween_12 : decode cX5_reverseBetween 12 = .ok (.iload_n 2, 1) := by decide +kernel
theorem dX5_reverseBetween_13 : decode cX5_reverseBetween 13 = .ok (.iload_n 3, 1) := by decide +kernel
theorem dX5_reverseBetween_14 : decode cX5_reverseBetween 14 = .ok (.invokestatic 25, 3) := by decide +kernel
theorem dX5_reverseBetween_17 : decode cX5_reverseBetween 17 = .ok (.iconst 1, 1) := by decide +kernel
theorem dX5_reverseBetween_18 : decode cX5_reverseBetween 18 = .ok (.isub, 1) := by decide +kernel
theorem dX5_reverseBetween_19 : decode cX5_reverseBetween 19 = .ok (.istore 4, 2) := by decide +kernel
theorem dX5_reverseBetween_21 : decode cX5_reverseBetween 21 = .ok (.iload_n 3, 1) := by decide +kernel
theorem dX5_reverseBetween_22 : decode cX5_reverseBetween 22 = .ok (.iload 4, 2) := by decide +kernel
theorem dX5_reverseBetween_24 : decode cX5_reverseBetween 24 = .ok (.if_icmp .ge 37, 3) := by decide +kernel
theorem dX5_reverseBetween_27 : decode cX5_reverseBetween 27 = .ok (.iload 4, 2) := by decide +kernel
theorem dX5_reverseBetween_29 : decode cX5_reverseBetween 29 = .ok (.aload_n 0, 1) := by decide +kernel
theorem dX5_reverseBetween_30 : decode cX5_reverseBetween 30 = .ok (.arraylength, 1) := by decide +kernel
theorem dX5_reverseBetween_31 : decode cX5_reverseBetween 31 = .ok (.if_icmp .ge 30, 3) := by decide +kernel
theorem dX5_reverseBetween_34 : decode cX5_reverseBetween 34 = .ok (.aload_n 0, 1) := by decide +kernel
theorem dX5_reverseBetween_35 : decode cX5_reverseBetween 35 = .ok (.iload_n 3, 1) := by decide +kernel
theorem dX5_reverseBetween_36 : decode cX5_reverseBetween 36 = .ok (.iaload, 1) := by decide +kernel
theorem dX5_reverseBetween_37 : decode cX5_reverseBetween 37 = .ok (.istore 5, 2) := by decide +kernel
theorem dX5_reverseBetween_39 : decode cX5_reverseBetween 39 = .ok (.aload_n 0, 1) := by decide +kernel
theorem dX5_reverseBetween_40 : decode cX5_reverseBetween 40 = .ok (.iload_n 3, 1) := by decide +kernel
theorem dX5_reverseBetween_41 : decode cX5_reverseBetween 41 = .ok (.aload_n 0, 1) := by decide +kernel
theorem dX5_reverseBetween_42 : decode cX5_reverseBetween 42 = .ok (.iload 4, 2) := by decide +kernel
theorem dX5_reverseBetween_44 : decode cX5_reverseBetween 44 = .ok (.iaload, 1) := by decide +kernel
theorem dX5_reverseBetween_45 : decode cX5_reverseBetween 45 = .ok (.iastore, 1) := by decide +kernel
theorem dX5_reverseBetween_46 : decode cX5_reverseBetween 46 = .ok (.aload_n 0, 1) := by decide +kernel
theorem dX5_reverseBetween_47 : decode cX5_reverseBetween 47 = .ok (.iload 4, 2) := by decide +kernel
theorem dX5_reverseBetween_49 : decode cX5_reverseBetween 49 = .ok (.iload 5, 2) := by decide +kernel
theorem dX5_reverseBetween_51 : decode cX5_reverseBetween 51 = .ok (.iastore, 1) := by decide +kernel
theorem dX5_reverseBetween_52 : decode cX5_reverseBetween 52 = .ok (.iinc 3 1, 3) := by decide +kernel
theorem dX5_reverseBetween_55 : decode cX5_reverseBetween 55 = .ok (.iinc 4 (-1), 3) := by decide +kernel
theorem dX5_reverseBetween_58 : decode cX5_reverseBetween 58 = .ok (.goto (-37), 3) := by decide +kernel
theorem dX5_reverseBetween_61 : decode cX5_reverseBetween 61 = .ok (.return_, 1) := by decide +kernel
def fp_X5_reverseBetween_L21 (v0 : Nat) : Nat → Int32 → Int32 → zM → Option (zM)
  | 0, _, _, _ => none
  | n + 1, v3, v4, M =>
    if v3 ≥ v4 then (
      some M)
    else (
      (zln M v0).bind fun (y5 : Int32) =>
      if v4 ≥ y5 then (
        some M)
      else (
        (zlI 100 M v0 v3).bind fun (y6 : Int32) =>
        (zlI 100 M v0 v4).bind fun (y7 : Int32) =>
        (ztI M v0 v3 y7).bind fun (M8 : zM) =>
        (ztI M8 v0 v4 y6).bind fun (M9 : zM) =>
        fp_X5_reverseBetween_L21 v0 n (v3 + 1) (v4 + (-1)) M9))
def fp_X5_reverseBetween (v0 : Nat) (v1 : Int32) (v2 : Int32) (M : zM) : Option (zM) :=
  (fp_X5_placeOf v0 v1 v2 0 M).bind fun (y1 : Int32) =>
  lett ((y1 + 1)) fun (v3_2 : Int32) =>
  (fp_X5_placeOf v0 v1 v2 v3_2 M).bind fun (y3 : Int32) =>
  lett ((y3 - 1)) fun (v4_4 : Int32) =>
  fp_X5_reverseBetween_L21 v0 FU v3_2 v4_4 M
set_option maxHeartbeats 4000000 in
set_option maxRecDepth 100000 in
theorem w_X5_reverseBetween_L21 (E : zEnv) (hE : zEok E) (d : Nat) (hd : 2 ≤ d) (M0 : zM) (x0 : zM) (v0 : Nat)  : ∀ (n : Nat) (v3 : Int32) (v4 : Int32) (M : zM), zSy E mu_X5_reverseBetween d M0 (none, x0) x0 (fp_X5_reverseBetween_L21 v0 n v3 v4 M) 21 [(0, .ref (E.2.2.2.1 + v0)), (3, .int v3), (4, .int v4)] [] M := by
  intro n
  induction n with
  | zero =>
    intro v3 v4 M
    rw [fp_X5_reverseBetween_L21]
    exact zs_none
  | succ n ih =>
    intro v3 v4 M
    rw [fp_X5_reverseBetween_L21]
    refine zs_iload_n dX5_reverseBetween_21 rfl 1 rfl ?_
    refine zs_iload dX5_reverseBetween_22 2 rfl ?_
    refine zs_icmp_ge dX5_reverseBetween_24 rfl ?_ ?_
    · exact zs_vret dX5_reverseBetween_61 trivial
    refine zs_iload dX5_reverseBetween_27 2 rfl ?_
    refine zs_aload_n dX5_reverseBetween_29 rfl 0 rfl ?_
    refine zs_alen dX5_reverseBetween_30 (fun y5 => ?_)
    refine zs_icmp_ge dX5_reverseBetween_31 rfl ?_ ?_
    · exact zs_vret dX5_reverseBetween_61 trivial
    refine zs_aload_n dX5_reverseBetween_34 rfl 0 rfl ?_
    refine zs_iload_n dX5_reverseBetween_35 rfl 1 rfl ?_
    refine zs_ldI dX5_reverseBetween_36 (fun y6 => ?_)
    refine zs_istore (loc' := [(0, .ref (E.2.2.2.1 + v0)), (3, .int v3), (4, .int v4), (5, .int y6)]) dX5_reverseBetween_37 (Nat.le_of_ble_eq_true rfl) [1, 2, 3, 0] rfl ?_
    refine zs_aload_n dX5_reverseBetween_39 rfl 0 rfl ?_
    refine zs_iload_n dX5_reverseBetween_40 rfl 1 rfl ?_
    refine zs_aload_n dX5_reverseBetween_41 rfl 0 rfl ?_
    refine zs_iload dX5_reverseBetween_42 2 rfl ?_
    refine zs_ldI dX5_reverseBetween_44 (fun y7 => ?_)
    refine zs_stI dX5_reverseBetween_45 (fun M8 => ?_)
    refine zs_aload_n dX5_reverseBetween_46 rfl 0 rfl ?_
    refine zs_iload dX5_reverseBetween_47 2 rfl ?_
    refine zs_iload dX5_reverseBetween_49 3 rfl ?_
    refine zs_stI dX5_reverseBetween_51 (fun M9 => ?_)
    refine zs_iinc (v := (v3 + 1)) (loc' := [(0, .ref (E.2.2.2.1 + v0)), (3, .int (v3 + 1)), (4, .int v4)]) dX5_reverseBetween_52 1 rfl (by rfl) (Nat.le_of_ble_eq_true rfl) [1, 0, 2] rfl ?_
    refine zs_iinc (v := (v4 + (-1))) (loc' := [(0, .ref (E.2.2.2.1 + v0)), (3, .int (v3 + 1)), (4, .int (v4 + (-1)))]) dX5_reverseBetween_55 2 rfl (by rfl) (Nat.le_of_ble_eq_true rfl) [1, 2, 0] rfl ?_
    refine zs_goto dX5_reverseBetween_58 rfl ?_
    exact ih (v3 + 1) (v4 + (-1)) M9
set_option maxHeartbeats 4000000 in
set_option maxRecDepth 100000 in
theorem ct_X5_reverseBetween (E : zEnv) (hE : zEok E) (d : Nat) (hd : 2 ≤ d) (v0 : Nat) (v1 : Int32) (v2 : Int32) (M : zM) (x0 : zM) (hx : fp_X5_reverseBetween v0 v1 v2 M = some x0) : zCt E mu_X5_reverseBetween d [.ref (E.2.2.2.1 + v0), .int v1, .int v2] M (none, x0) := by
  refine zCt_of (μ := mu_X5_reverseBetween) (t := fp_X5_reverseBetween v0 v1 v2 M) rfl rfl (Nat.le_of_ble_eq_true rfl) hx ?_
  change zSy E mu_X5_reverseBetween d M (none, x0) x0 (fp_X5_reverseBetween v0 v1 v2 M) 0 [(0, .ref (E.2.2.2.1 + v0)), (1, .int v1), (2, .int v2)] [] M
  unfold fp_X5_reverseBetween
  refine zs_aload_n dX5_reverseBetween_0 rfl 0 rfl ?_
  refine zs_iload_n dX5_reverseBetween_1 rfl 1 rfl ?_
  refine zs_iload_n dX5_reverseBetween_2 rfl 2 rfl ?_
  refine zs_iconst (v := 0) dX5_reverseBetween_3 ciconst_0 ?_
  refine zs_invSPI (rest := []) [.ref (E.2.2.2.1 + v0), .int v1, .int v2, .int 0] dX5_reverseBetween_4 lk_X5_25 rfl (zd1 rfl hd) rfl (Nat.le_of_ble_eq_true rfl) (ct_X5_placeOf E hE _ (zdl rfl hd) _ _ _ _ _) (fun y1 => ?_)
  refine zs_iconst (v := 1) dX5_reverseBetween_7 ciconst_1 ?_
  refine zs_iadd dX5_reverseBetween_8 ?_
  refine zs_istore_nL (loc' := fun v3_2 => [(0, .ref (E.2.2.2.1 + v0)), (1, .int v1), (2, .int v2), (3, .int v3_2)]) dX5_reverseBetween_9 rfl (Nat.le_of_ble_eq_true rfl) [1, 2, 3, 0] (fun _ => rfl) (fun v3_2 => ?_)
  refine zs_aload_n dX5_reverseBetween_10 rfl 0 rfl ?_
  refine zs_iload_n dX5_reverseBetween_11 rfl 1 rfl ?_
  refine zs_iload_n dX5_reverseBetween_12 rfl 2 rfl ?_
  refine zs_iload_n dX5_reverseBetween_13 rfl 3 rfl ?_
  refine zs_invSPI (rest := []) [.ref (E.2.2.2.1 + v0), .int v1, .int v2, .int v3_2] dX5_reverseBetween_14 lk_X5_25 rfl (zd1 rfl hd) rfl (Nat.le_of_ble_eq_true rfl) (ct_X5_placeOf E hE _ (zdl rfl hd) _ _ _ _ _) (fun y3 => ?_)
  refine zs_iconst (v := 1) dX5_reverseBetween_17 ciconst_1 ?_
  refine zs_isub dX5_reverseBetween_18 ?_
  refine zs_istoreL (loc' := fun v4_4 => [(0, .ref (E.2.2.2.1 + v0)), (3, .int v3_2), (4, .int v4_4)]) dX5_reverseBetween_19 (Nat.le_of_ble_eq_true rfl) [1, 4, 0] (fun _ => rfl) (fun v4_4 => ?_)
  exact w_X5_reverseBetween_L21 E hE d hd _ _ _ _ _ _ _
theorem dX5_next_0 : decode cX5_next 0 = .ok (.iload_n 0, 1) := by decide +kernel
theorem dX5_next_1 : decode cX5_next 1 = .ok (.iload_n 1, 1) := by decide +kernel
theorem dX5_next_2 : decode cX5_next 2 = .ok (.iadd, 1) := by decide +kernel
theorem dX5_next_3 : decode cX5_next 3 = .ok (.istore_n 3, 1) := by decide +kernel
theorem dX5_next_4 : decode cX5_next 4 = .ok (.iload_n 3, 1) := by decide +kernel
theorem dX5_next_5 : decode cX5_next 5 = .ok (.ifCond .ge 7, 3) := by decide +kernel
theorem dX5_next_8 : decode cX5_next 8 = .ok (.iload_n 2, 1) := by decide +kernel
theorem dX5_next_9 : decode cX5_next 9 = .ok (.iconst 1, 1) := by decide +kernel
theorem dX5_next_10 : decode cX5_next 10 = .ok (.isub, 1) := by decide +kernel
theorem dX5_next_11 : decode cX5_next 11 = .ok (.ireturn, 1) := by decide +kernel
theorem dX5_next_12 : decode cX5_next 12 = .ok (.iload_n 3, 1) := by decide +kernel
theorem dX5_next_13 : decode cX5_next 13 = .ok (.iload_n 2, 1) := by decide +kernel
theorem dX5_next_14 : decode cX5_next 14 = .ok (.if_icmp .lt 7, 3) := by decide +kernel
theorem dX5_next_17 : decode cX5_next 17 = .ok (.iconst 0, 1) := by decide +kernel
theorem dX5_next_18 : decode cX5_next 18 = .ok (.goto 4, 3) := by decide +kernel
theorem dX5_next_21 : decode cX5_next 21 = .ok (.iload_n 3, 1) := by decide +kernel
theorem dX5_next_22 : decode cX5_next 22 = .ok (.ireturn, 1) := by decide +kernel
def fp_X5_next (v0 : Int32) (v1 : Int32) (v2 : Int32) : Option (Int32) :=
  lett ((v0 + v1)) fun (v3_1 : Int32) =>
  if v3_1 ≥ 0 then (
    if v3_1 < v2 then (
      some v3_1)
    else (
      some 0))
  else (
    some (v2 - 1))
set_option maxHeartbeats 4000000 in
set_option maxRecDepth 100000 in
theorem ct_X5_next (E : zEnv) (hE : zEok E) (d : Nat) (hd : 1 ≤ d) (v0 : Int32) (v1 : Int32) (v2 : Int32) (M : zM) (x0 : Int32) (hx : fp_X5_next v0 v1 v2 = some x0) : zCt E mu_X5_next d [.int v0, .int v1, .int v2] M (some (.int x0), M) := by
  refine zCt_of (μ := mu_X5_next) (t := fp_X5_next v0 v1 v2) rfl rfl (Nat.le_of_ble_eq_true rfl) hx ?_
  change zSy E mu_X5_next d M (some (.int x0), M) x0 (fp_X5_next v0 v1 v2) 0 [(0, .int v0), (1, .int v1), (2, .int v2)] [] M
  unfold fp_X5_next
  refine zs_iload_n dX5_next_0 rfl 0 rfl ?_
  refine zs_iload_n dX5_next_1 rfl 1 rfl ?_
  refine zs_iadd dX5_next_2 ?_
  refine zs_istore_nL (loc' := fun v3_1 => [(2, .int v2), (3, .int v3_1)]) dX5_next_3 rfl (Nat.le_of_ble_eq_true rfl) [3, 0] (fun _ => rfl) (fun v3_1 => ?_)
  refine zs_iload_n dX5_next_4 rfl 1 rfl ?_
  refine zs_if_ge dX5_next_5 rfl ?_ ?_
  · refine zs_iload_n dX5_next_12 rfl 1 rfl ?_
    refine zs_iload_n dX5_next_13 rfl 0 rfl ?_
    refine zs_icmp_lt dX5_next_14 rfl ?_ ?_
    · refine zs_iload_n dX5_next_21 rfl 1 rfl ?_
      exact zs_iretP dX5_next_22 rfl
    refine zs_iconst (v := 0) dX5_next_17 ciconst_0 ?_
    refine zs_goto dX5_next_18 rfl ?_
    exact zs_iretP dX5_next_22 rfl
  refine zs_iload_n dX5_next_8 rfl 0 rfl ?_
  refine zs_iconst (v := 1) dX5_next_9 ciconst_1 ?_
  refine zs_isub dX5_next_10 ?_
  exact zs_iretP dX5_next_11 rfl
theorem dX5_pack_0 : decode cX5_pack 0 = .ok (.lconst 0, 1) := by decide +kernel
theorem dX5_pack_1 : decode cX5_pack 1 = .ok (.lstore 4, 2) := by decide +kernel
theorem dX5_pack_3 : decode cX5_pack 3 = .ok (.iload_n 2, 1) := by decide +kernel
theorem dX5_pack_4 : decode cX5_pack 4 = .ok (.istore 6, 2) := by decide +kernel
theorem dX5_pack_6 : decode cX5_pack 6 = .ok (.iconst 0, 1) := by decide +kernel
theorem dX5_pack_7 : decode cX5_pack 7 = .ok (.istore 7, 2) := by decide +kernel
theorem dX5_pack_9 : decode cX5_pack 9 = .ok (.iload 7, 2) := by decide +kernel
theorem dX5_pack_11 : decode cX5_pack 11 = .ok (.iload_n 1, 1) := by decide +kernel
theorem dX5_pack_12 : decode cX5_pack 12 = .ok (.if_icmp .ge 42, 3) := by decide +kernel
theorem dX5_pack_15 : decode cX5_pack 15 = .ok (.iload 6, 2) := by decide +kernel
theorem dX5_pack_17 : decode cX5_pack 17 = .ok (.ifCond .lt 22, 3) := by decide +kernel
theorem dX5_pack_20 : decode cX5_pack 20 = .ok (.iload 6, 2) := by decide +kernel
theorem dX5_pack_22 : decode cX5_pack 22 = .ok (.aload_n 0, 1) := by decide +kernel
theorem dX5_pack_23 : decode cX5_pack 23 = .ok (.arraylength, 1) := by decide +kernel
theorem dX5_pack_24 : decode cX5_pack 24 = .ok (.if_icmp .ge 15, 3) := by decide +kernel
theorem dX5_pack_27 : decode cX5_pack 27 = .ok (.lload 4, 2) := by decide +kernel
theorem dX5_pack_29 : decode cX5_pack 29 = .ok (.iconst 4, 1) := by decide +kernel
theorem dX5_pack_30 : decode cX5_pack 30 = .ok (.lshl, 1) := by decide +kernel
theorem dX5_pack_31 : decode cX5_pack 31 = .ok (.aload_n 0, 1) := by decide +kernel
theorem dX5_pack_32 : decode cX5_pack 32 = .ok (.iload 6, 2) := by decide +kernel
theorem dX5_pack_34 : decode cX5_pack 34 = .ok (.iaload, 1) := by decide +kernel
theorem dX5_pack_35 : decode cX5_pack 35 = .ok (.i2l, 1) := by decide +kernel
theorem dX5_pack_36 : decode cX5_pack 36 = .ok (.lor, 1) := by decide +kernel
theorem dX5_pack_37 : decode cX5_pack 37 = .ok (.lstore 4, 2) := by decide +kernel
theorem dX5_pack_39 : decode cX5_pack 39 = .ok (.iload 6, 2) := by decide +kernel
theorem dX5_pack_41 : decode cX5_pack 41 = .ok (.iload_n 3, 1) := by decide +kernel
theorem dX5_pack_42 : decode cX5_pack 42 = .ok (.iload_n 1, 1) := by decide +kernel
theorem dX5_pack_43 : decode cX5_pack 43 = .ok (.invokestatic 44, 3) := by decide +kernel
theorem dX5_pack_46 : decode cX5_pack 46 = .ok (.istore 6, 2) := by decide +kernel
theorem dX5_pack_48 : decode cX5_pack 48 = .ok (.iinc 7 1, 3) := by decide +kernel
theorem dX5_pack_51 : decode cX5_pack 51 = .ok (.goto (-42), 3) := by decide +kernel
theorem dX5_pack_54 : decode cX5_pack 54 = .ok (.lload 4, 2) := by decide +kernel
theorem dX5_pack_56 : decode cX5_pack 56 = .ok (.lreturn, 1) := by decide +kernel
def fp_X5_pack_L9 (v0 : Nat) (v1 : Int32) (v3 : Int32) (M : zM) : Nat → Int64 → Int32 → Int32 → Option (Int64)
  | 0, _, _, _ => none
  | n + 1, v4, v6, v7 =>
    if v7 ≥ v1 then (
      some v4)
    else (
      zjn (fun (v4_1 : Int64) =>
          (fp_X5_next v6 v3 v1).bind fun (y2 : Int32) =>
          fp_X5_pack_L9 v0 v1 v3 M n v4_1 y2 (v7 + 1))
        (fun j39 =>
          if v6 < 0 then (
            j39 v4)
          else (
            (zln M v0).bind fun (y3 : Int32) =>
            if v6 ≥ y3 then (
              j39 v4)
            else (
              (zlI 100 M v0 v6).bind fun (y4 : Int32) =>
              lett (((v4 <<< ((4 : Int32).toInt64 &&& 63)) ||| (y4.toInt64))) fun (v4_5 : Int64) =>
              j39 v4_5))))
def fp_X5_pack (v0 : Nat) (v1 : Int32) (v2 : Int32) (v3 : Int32) (M : zM) : Option (Int64) :=
  fp_X5_pack_L9 v0 v1 v3 M FU 0 v2 0
set_option maxHeartbeats 4000000 in
set_option maxRecDepth 100000 in
theorem w_X5_pack_L9 (E : zEnv) (hE : zEok E) (d : Nat) (hd : 2 ≤ d) (x0 : Int64) (v0 : Nat) (v1 : Int32) (v3 : Int32) (M : zM)  : ∀ (n : Nat) (v4 : Int64) (v6 : Int32) (v7 : Int32), zSy E mu_X5_pack d M (some (.long x0), M) x0 (fp_X5_pack_L9 v0 v1 v3 M n v4 v6 v7) 9 [(0, .ref (E.2.2.2.1 + v0)), (1, .int v1), (3, .int v3), (4, .long v4), (6, .int v6), (7, .int v7)] [] M := by
  intro n
  induction n with
  | zero =>
    intro v4 v6 v7
    rw [fp_X5_pack_L9]
    exact zs_none
  | succ n ih =>
    intro v4 v6 v7
    rw [fp_X5_pack_L9]
    refine zs_iload dX5_pack_9 5 rfl ?_
    refine zs_iload_n dX5_pack_11 rfl 1 rfl ?_
    refine zs_icmp_ge dX5_pack_12 rfl ?_ ?_
    · refine zs_lload dX5_pack_54 3 rfl ?_
      exact zs_lretP dX5_pack_56 trivial
    refine zs_iload dX5_pack_15 4 rfl ?_
    refine zs_jn (fun j39 => ∀ (v4_1 : Int64), zSy E mu_X5_pack d M (some (.long x0), M) x0 (j39 v4_1) 39 [(0, .ref (E.2.2.2.1 + v0)), (1, .int v1), (3, .int v3), (4, .long v4_1), (6, .int v6), (7, .int v7)] [] M) (fun v4_1 => ?_) (fun j39 hj39 => ?_)
    · refine zs_iload dX5_pack_39 4 rfl ?_
      refine zs_iload_n dX5_pack_41 rfl 2 rfl ?_
      refine zs_iload_n dX5_pack_42 rfl 1 rfl ?_
      refine zs_invSPI (rest := []) [.int v6, .int v3, .int v1] dX5_pack_43 lk_X5_44 rfl (zd1 rfl hd) rfl (Nat.le_of_ble_eq_true rfl) (ct_X5_next E hE _ (zdl rfl hd) _ _ _ _) (fun y2 => ?_)
      refine zs_istore (loc' := [(0, .ref (E.2.2.2.1 + v0)), (1, .int v1), (3, .int v3), (4, .long v4_1), (6, .int y2), (7, .int v7)]) dX5_pack_46 (Nat.le_of_ble_eq_true rfl) [1, 2, 3, 4, 0, 5] rfl ?_
      refine zs_iinc (v := (v7 + 1)) (loc' := [(0, .ref (E.2.2.2.1 + v0)), (1, .int v1), (3, .int v3), (4, .long v4_1), (6, .int y2), (7, .int (v7 + 1))]) dX5_pack_48 5 rfl (by rfl) (Nat.le_of_ble_eq_true rfl) [1, 2, 3, 4, 5, 0] rfl ?_
      refine zs_goto dX5_pack_51 rfl ?_
      exact ih v4_1 y2 (v7 + 1)
    refine zs_if_lt dX5_pack_17 rfl ?_ ?_
    · exact hj39 v4
    refine zs_iload dX5_pack_20 4 rfl ?_
    refine zs_aload_n dX5_pack_22 rfl 0 rfl ?_
    refine zs_alen dX5_pack_23 (fun y3 => ?_)
    refine zs_icmp_ge dX5_pack_24 rfl ?_ ?_
    · exact hj39 v4
    refine zs_lload dX5_pack_27 3 rfl ?_
    refine zs_iconst (v := 4) dX5_pack_29 ciconst_4 ?_
    refine zs_lshl dX5_pack_30 ?_
    refine zs_aload_n dX5_pack_31 rfl 0 rfl ?_
    refine zs_iload dX5_pack_32 4 rfl ?_
    refine zs_ldI dX5_pack_34 (fun y4 => ?_)
    refine zs_i2l dX5_pack_35 ?_
    refine zs_lor dX5_pack_36 ?_
    refine zs_lstoreL (loc' := fun v4_5 => [(0, .ref (E.2.2.2.1 + v0)), (1, .int v1), (3, .int v3), (4, .long v4_5), (6, .int v6), (7, .int v7)]) dX5_pack_37 (Nat.le_of_ble_eq_true rfl) [1, 2, 3, 0, 4, 5] (fun _ => rfl) (fun v4_5 => ?_)
    exact hj39 v4_5
set_option maxHeartbeats 4000000 in
set_option maxRecDepth 100000 in
theorem ct_X5_pack (E : zEnv) (hE : zEok E) (d : Nat) (hd : 2 ≤ d) (v0 : Nat) (v1 : Int32) (v2 : Int32) (v3 : Int32) (M : zM) (x0 : Int64) (hx : fp_X5_pack v0 v1 v2 v3 M = some x0) : zCt E mu_X5_pack d [.ref (E.2.2.2.1 + v0), .int v1, .int v2, .int v3] M (some (.long x0), M) := by
  refine zCt_of (μ := mu_X5_pack) (t := fp_X5_pack v0 v1 v2 v3 M) rfl rfl (Nat.le_of_ble_eq_true rfl) hx ?_
  change zSy E mu_X5_pack d M (some (.long x0), M) x0 (fp_X5_pack v0 v1 v2 v3 M) 0 [(0, .ref (E.2.2.2.1 + v0)), (1, .int v1), (2, .int v2), (3, .int v3)] [] M
  unfold fp_X5_pack
  refine zs_lconst (v := 0) dX5_pack_0 (by rfl) ?_
  refine zs_lstore (loc' := [(0, .ref (E.2.2.2.1 + v0)), (1, .int v1), (2, .int v2), (3, .int v3), (4, .long 0)]) dX5_pack_1 (Nat.le_of_ble_eq_true rfl) [1, 2, 3, 4, 0] rfl ?_
  refine zs_iload_n dX5_pack_3 rfl 2 rfl ?_
  refine zs_istore (loc' := [(0, .ref (E.2.2.2.1 + v0)), (1, .int v1), (3, .int v3), (4, .long 0), (6, .int v2)]) dX5_pack_4 (Nat.le_of_ble_eq_true rfl) [1, 2, 4, 5, 0] rfl ?_
  refine zs_iconst (v := 0) dX5_pack_6 ciconst_0 ?_
  refine zs_istore (loc' := [(0, .ref (E.2.2.2.1 + v0)), (1, .int v1), (3, .int v3), (4, .long 0), (6, .int v2), (7, .int 0)]) dX5_pack_7 (Nat.le_of_ble_eq_true rfl) [1, 2, 3, 4, 5, 0] rfl ?_
  exact w_X5_pack_L9 E hE d hd _ _ _ _ _ _ _ _ _
theorem dX5_leastReading_0 : decode cX5_leastReading 0 = .ok (.aload_n 0, 1) := by decide +kernel
theorem dX5_leastReading_1 : decode cX5_leastReading 1 = .ok (.iload_n 1, 1) := by decide +kernel
theorem dX5_leastReading_2 : decode cX5_leastReading 2 = .ok (.iconst 0, 1) := by decide +kernel
theorem dX5_leastReading_3 : decode cX5_leastReading 3 = .ok (.iconst 0, 1) := by decide +kernel
theorem dX5_leastReading_4 : decode cX5_leastReading 4 = .ok (.invokestatic 25, 3) := by decide +kernel
theorem dX5_leastReading_7 : decode cX5_leastReading 7 = .ok (.istore_n 2, 1) := by decide +kernel
theorem dX5_leastReading_8 : decode cX5_leastReading 8 = .ok (.aload_n 0, 1) := by decide +kernel
theorem dX5_leastReading_9 : decode cX5_leastReading 9 = .ok (.iload_n 1, 1) := by decide +kernel
theorem dX5_leastReading_10 : decode cX5_leastReading 10 = .ok (.iconst 0, 1) := by decide +kernel
theorem dX5_leastReading_11 : decode cX5_leastReading 11 = .ok (.iload_n 2, 1) := by decide +kernel
theorem dX5_leastReading_12 : decode cX5_leastReading 12 = .ok (.iconst 1, 1) := by decide +kernel
theorem dX5_leastReading_13 : decode cX5_leastReading 13 = .ok (.iadd, 1) := by decide +kernel
theorem dX5_leastReading_14 : decode cX5_leastReading 14 = .ok (.invokestatic 25, 3) := by decide +kernel
theorem dX5_leastReading_17 : decode cX5_leastReading 17 = .ok (.istore_n 3, 1) := by decide +kernel
theorem dX5_leastReading_18 : decode cX5_leastReading 18 = .ok (.aload_n 0, 1) := by decide +kernel
theorem dX5_leastReading_19 : decode cX5_leastReading 19 = .ok (.iload_n 1, 1) := by decide +kernel
theorem dX5_leastReading_20 : decode cX5_leastReading 20 = .ok (.iload_n 2, 1) := by decide +kernel
theorem dX5_leastReading_21 : decode cX5_leastReading 21 = .ok (.iconst 1, 1) := by decide +kernel
theorem dX5_leastReading_22 : decode cX5_leastReading 22 = .ok (.invokestatic 48, 3) := by decide +kernel
theorem dX5_leastReading_25 : decode cX5_leastReading 25 = .ok (.aload_n 0, 1) := by decide +kernel
theorem dX5_leastReading_26 : decode cX5_leastReading 26 = .ok (.iload_n 1, 1) := by decide +kernel
theorem dX5_leastReading_27 : decode cX5_leastReading 27 = .ok (.iload_n 2, 1) := by decide +kernel
theorem dX5_leastReading_28 : decode cX5_leastReading 28 = .ok (.iconst (-1), 1) := by decide +kernel
theorem dX5_leastReading_29 : decode cX5_leastReading 29 = .ok (.invokestatic 48, 3) := by decide +kernel
theorem dX5_leastReading_32 : decode cX5_leastReading 32 = .ok (.invokestatic 52, 3) := by decide +kernel
theorem dX5_leastReading_35 : decode cX5_leastReading 35 = .ok (.lstore 4, 2) := by decide +kernel
theorem dX5_leastReading_37 : decode cX5_leastReading 37 = .ok (.lload 4, 2) := by decide +kernel
theorem dX5_leastReading_39 : decode cX5_leastReading 39 = .ok (.aload_n 0, 1) := by decide +kernel
theorem dX5_leastReading_40 : decode cX5_leastReading 40 = .ok (.iload_n 1, 1) := by decide +kernel
theorem dX5_leastReading_41 : decode cX5_leastReading 41 = .ok (.iload_n 3, 1) := by decide +kernel
theorem dX5_leastReading_42 : decode cX5_leastReading 42 = .ok (.iconst 1, 1) := by decide +kernel
theorem dX5_leastReading_43 : decode cX5_leastReading 43 = .ok (.invokestatic 48, 3) := by decide +kernel
theorem dX5_leastReading_46 : decode cX5_leastReading 46 = .ok (.aload_n 0, 1) := by decide +kernel
theorem dX5_leastReading_47 : decode cX5_leastReading 47 = .ok (.iload_n 1, 1) := by decide +kernel
theorem dX5_leastReading_48 : decode cX5_leastReading 48 = .ok (.iload_n 3, 1) := by decide +kernel
theorem dX5_leastReading_49 : decode cX5_leastReading 49 = .ok (.iconst (-1), 1) := by decide +kernel
theorem dX5_leastReading_50 : decode cX5_leastReading 50 = .ok (.invokestatic 48, 3) := by decide +kernel
theorem dX5_leastReading_53 : decode cX5_leastReading 53 = .ok (.invokestatic 52, 3) := by decide +kernel
theorem dX5_leastReading_56 : decode cX5_leastReading 56 = .ok (.invokestatic 52, 3) := by decide +kernel
theorem dX5_leastReading_59 : decode cX5_leastReading 59 = .ok (.lreturn, 1) := by decide +kernel
def fp_X5_leastReading (v0 : Nat) (v1 : Int32) (M : zM) : Option (Int64) :=
  (fp_X5_placeOf v0 v1 0 0 M).bind fun (y1 : Int32) =>
  (fp_X5_placeOf v0 v1 0 (y1 + 1) M).bind fun (y2 : Int32) =>
  (fp_X5_pack v0 v1 y1 1 M).bind fun (y3 : Int64) =>
  (fp_X5_pack v0 v1 y1 (-1) M).bind fun (y4 : Int64) =>
  lett ((kminL y3 y4)) fun (v4_5 : Int64) =>
  (fp_X5_pack v0 v1 y2 1 M).bind fun (y6 : Int64) =>
  (fp_X5_pack v0 v1 y2 (-1) M).bind fun (y7 : Int64) =>
  some (kminL v4_5 (kminL y6 y7))
set_option maxHeartbeats 4000000 in
set_option maxRecDepth 100000 in
theorem ct_X5_leastReading (E : zEnv) (hE : zEok E) (d : Nat) (hd : 3 ≤ d) (v0 : Nat) (v1 : Int32) (M : zM) (x0 : Int64) (hx : fp_X5_leastReading v0 v1 M = some x0) : zCt E mu_X5_leastReading d [.ref (E.2.2.2.1 + v0), .int v1] M (some (.long x0), M) := by
  refine zCt_of (μ := mu_X5_leastReading) (t := fp_X5_leastReading v0 v1 M) rfl rfl (Nat.le_of_ble_eq_true rfl) hx ?_
  change zSy E mu_X5_leastReading d M (some (.long x0), M) x0 (fp_X5_leastReading v0 v1 M) 0 [(0, .ref (E.2.2.2.1 + v0)), (1, .int v1)] [] M
  unfold fp_X5_leastReading
  refine zs_aload_n dX5_leastReading_0 rfl 0 rfl ?_
  refine zs_iload_n dX5_leastReading_1 rfl 1 rfl ?_
  refine zs_iconst (v := 0) dX5_leastReading_2 ciconst_0 ?_
  refine zs_iconst (v := 0) dX5_leastReading_3 ciconst_0 ?_
  refine zs_invSPI (rest := []) [.ref (E.2.2.2.1 + v0), .int v1, .int 0, .int 0] dX5_leastReading_4 lk_X5_25 rfl (zd1 rfl hd) rfl (Nat.le_of_ble_eq_true rfl) (ct_X5_placeOf E hE _ (zdl rfl hd) _ _ _ _ _) (fun y1 => ?_)
  refine zs_istore_n (loc' := [(0, .ref (E.2.2.2.1 + v0)), (1, .int v1), (2, .int y1)]) dX5_leastReading_7 rfl (Nat.le_of_ble_eq_true rfl) [1, 2, 0] rfl ?_
  refine zs_aload_n dX5_leastReading_8 rfl 0 rfl ?_
  refine zs_iload_n dX5_leastReading_9 rfl 1 rfl ?_
  refine zs_iconst (v := 0) dX5_leastReading_10 ciconst_0 ?_
  refine zs_iload_n dX5_leastReading_11 rfl 2 rfl ?_
  refine zs_iconst (v := 1) dX5_leastReading_12 ciconst_1 ?_
  refine zs_iadd dX5_leastReading_13 ?_
  refine zs_invSPI (rest := []) [.ref (E.2.2.2.1 + v0), .int v1, .int 0, .int (y1 + 1)] dX5_leastReading_14 lk_X5_25 rfl (zd1 rfl hd) rfl (Nat.le_of_ble_eq_true rfl) (ct_X5_placeOf E hE _ (zdl rfl hd) _ _ _ _ _) (fun y2 => ?_)
  refine zs_istore_n (loc' := [(0, .ref (E.2.2.2.1 + v0)), (1, .int v1), (2, .int y1), (3, .int y2)]) dX5_leastReading_17 rfl (Nat.le_of_ble_eq_true rfl) [1, 2, 3, 0] rfl ?_
  refine zs_aload_n dX5_leastReading_18 rfl 0 rfl ?_
  refine zs_iload_n dX5_leastReading_19 rfl 1 rfl ?_
  refine zs_iload_n dX5_leastReading_20 rfl 2 rfl ?_
  refine zs_iconst (v := 1) dX5_leastReading_21 ciconst_1 ?_
  refine zs_invSPJ (rest := []) [.ref (E.2.2.2.1 + v0), .int v1, .int y1, .int 1] dX5_leastReading_22 lk_X5_48 rfl (zd1 rfl hd) rfl (Nat.le_of_ble_eq_true rfl) (ct_X5_pack E hE _ (zdl rfl hd) _ _ _ _ _) (fun y3 => ?_)
  refine zs_aload_n dX5_leastReading_25 rfl 0 rfl ?_
  refine zs_iload_n dX5_leastReading_26 rfl 1 rfl ?_
  refine zs_iload_n dX5_leastReading_27 rfl 2 rfl ?_
  refine zs_iconst (v := (-1)) dX5_leastReading_28 ciconst_m1 ?_
  refine zs_invSPJ (rest := [.long y3]) [.ref (E.2.2.2.1 + v0), .int v1, .int y1, .int (-1)] dX5_leastReading_29 lk_X5_48 rfl (zd1 rfl hd) rfl (Nat.le_of_ble_eq_true rfl) (ct_X5_pack E hE _ (zdl rfl hd) _ _ _ _ _) (fun y4 => ?_)
  refine zs_minL dX5_leastReading_32 (ti_4 190 rfl rfl) ms_minL mi_Math mc_minL (zd0 rfl hd) (Nat.le_of_ble_eq_true rfl) ?_
  refine zs_lstoreL (loc' := fun v4_5 => [(0, .ref (E.2.2.2.1 + v0)), (1, .int v1), (3, .int y2), (4, .long v4_5)]) dX5_leastReading_35 (Nat.le_of_ble_eq_true rfl) [1, 2, 4, 0] (fun _ => rfl) (fun v4_5 => ?_)
  refine zs_lload dX5_leastReading_37 3 rfl ?_
  refine zs_aload_n dX5_leastReading_39 rfl 0 rfl ?_
  refine zs_iload_n dX5_leastReading_40 rfl 1 rfl ?_
  refine zs_iload_n dX5_leastReading_41 rfl 2 rfl ?_
  refine zs_iconst (v := 1) dX5_leastReading_42 ciconst_1 ?_
  refine zs_invSPJ (rest := [.long v4_5]) [.ref (E.2.2.2.1 + v0), .int v1, .int y2, .int 1] dX5_leastReading_43 lk_X5_48 rfl (zd1 rfl hd) rfl (Nat.le_of_ble_eq_true rfl) (ct_X5_pack E hE _ (zdl rfl hd) _ _ _ _ _) (fun y6 => ?_)
  refine zs_aload_n dX5_leastReading_46 rfl 0 rfl ?_
  refine zs_iload_n dX5_leastReading_47 rfl 1 rfl ?_
  refine zs_iload_n dX5_leastReading_48 rfl 2 rfl ?_
  refine zs_iconst (v := (-1)) dX5_leastReading_49 ciconst_m1 ?_
  refine zs_invSPJ (rest := [.long y6, .long v4_5]) [.ref (E.2.2.2.1 + v0), .int v1, .int y2, .int (-1)] dX5_leastReading_50 lk_X5_48 rfl (zd1 rfl hd) rfl (Nat.le_of_ble_eq_true rfl) (ct_X5_pack E hE _ (zdl rfl hd) _ _ _ _ _) (fun y7 => ?_)
  refine zs_minL dX5_leastReading_53 (ti_4 190 rfl rfl) ms_minL mi_Math mc_minL (zd0 rfl hd) (Nat.le_of_ble_eq_true rfl) ?_
  refine zs_minL dX5_leastReading_56 (ti_4 190 rfl rfl) ms_minL mi_Math mc_minL (zd0 rfl hd) (Nat.le_of_ble_eq_true rfl) ?_
  exact zs_lretP dX5_leastReading_59 trivial
theorem dX5_oddBetween_0 : decode cX5_oddBetween 0 = .ok (.iconst 0, 1) := by decide +kernel
theorem dX5_oddBetween_1 : decode cX5_oddBetween 1 = .ok (.istore_n 3, 1) := by decide +kernel
theorem dX5_oddBetween_2 : decode cX5_oddBetween 2 = .ok (.iload_n 1, 1) := by decide +kernel
theorem dX5_oddBetween_3 : decode cX5_oddBetween 3 = .ok (.istore 4, 2) := by decide +kernel
theorem dX5_oddBetween_5 : decode cX5_oddBetween 5 = .ok (.iload 4, 2) := by decide +kernel
theorem dX5_oddBetween_7 : decode cX5_oddBetween 7 = .ok (.iload_n 2, 1) := by decide +kernel
theorem dX5_oddBetween_8 : decode cX5_oddBetween 8 = .ok (.if_icmp .ge 25, 3) := by decide +kernel
theorem dX5_oddBetween_11 : decode cX5_oddBetween 11 = .ok (.iload 4, 2) := by decide +kernel
theorem dX5_oddBetween_13 : decode cX5_oddBetween 13 = .ok (.aload_n 0, 1) := by decide +kernel
theorem dX5_oddBetween_14 : decode cX5_oddBetween 14 = .ok (.arraylength, 1) := by decide +kernel
theorem dX5_oddBetween_15 : decode cX5_oddBetween 15 = .ok (.if_icmp .ge 18, 3) := by decide +kernel
theorem dX5_oddBetween_18 : decode cX5_oddBetween 18 = .ok (.iload_n 3, 1) := by decide +kernel
theorem dX5_oddBetween_19 : decode cX5_oddBetween 19 = .ok (.iconst 1, 1) := by decide +kernel
theorem dX5_oddBetween_20 : decode cX5_oddBetween 20 = .ok (.aload_n 0, 1) := by decide +kernel
theorem dX5_oddBetween_21 : decode cX5_oddBetween 21 = .ok (.iload 4, 2) := by decide +kernel
theorem dX5_oddBetween_23 : decode cX5_oddBetween 23 = .ok (.iaload, 1) := by decide +kernel
theorem dX5_oddBetween_24 : decode cX5_oddBetween 24 = .ok (.ishl, 1) := by decide +kernel
theorem dX5_oddBetween_25 : decode cX5_oddBetween 25 = .ok (.ixor, 1) := by decide +kernel
theorem dX5_oddBetween_26 : decode cX5_oddBetween 26 = .ok (.istore_n 3, 1) := by decide +kernel
theorem dX5_oddBetween_27 : decode cX5_oddBetween 27 = .ok (.iinc 4 1, 3) := by decide +kernel
theorem dX5_oddBetween_30 : decode cX5_oddBetween 30 = .ok (.goto (-25), 3) := by decide +kernel
theorem dX5_oddBetween_33 : decode cX5_oddBetween 33 = .ok (.iload_n 3, 1) := by decide +kernel
theorem dX5_oddBetween_34 : decode cX5_oddBetween 34 = .ok (.ireturn, 1) := by decide +kernel
def fp_X5_oddBetween_L5 (v0 : Nat) (v2 : Int32) (M : zM) : Nat → Int32 → Int32 → Option (Int32)
  | 0, _, _ => none
  | n + 1, v3, v4 =>
    if v4 ≥ v2 then (
      some v3)
    else (
      (zln M v0).bind fun (y1 : Int32) =>
      if v4 ≥ y1 then (
        some v3)
      else (
        (zlI 100 M v0 v4).bind fun (y2 : Int32) =>
        lett ((v3 ^^^ (1 <<< (y2 &&& 31)))) fun (v3_3 : Int32) =>
        fp_X5_oddBetween_L5 v0 v2 M n v3_3 (v4 + 1)))
def fp_X5_oddBetween (v0 : Nat) (v1 : Int32) (v2 : Int32) (M : zM) : Option (Int32) :=
  fp_X5_oddBetween_L5 v0 v2 M FU 0 v1
set_option maxHeartbeats 4000000 in
set_option maxRecDepth 100000 in
theorem w_X5_oddBetween_L5 (E : zEnv) (hE : zEok E) (d : Nat) (hd : 1 ≤ d) (x0 : Int32) (v0 : Nat) (v2 : Int32) (M : zM)  : ∀ (n : Nat) (v3 : Int32) (v4 : Int32), zSy E mu_X5_oddBetween d M (some (.int x0), M) x0 (fp_X5_oddBetween_L5 v0 v2 M n v3 v4) 5 [(0, .ref (E.2.2.2.1 + v0)), (2, .int v2), (3, .int v3), (4, .int v4)] [] M := by
  intro n
  induction n with
  | zero =>
    intro v3 v4
    rw [fp_X5_oddBetween_L5]
    exact zs_none
  | succ n ih =>
    intro v3 v4
    rw [fp_X5_oddBetween_L5]
    refine zs_iload dX5_oddBetween_5 3 rfl ?_
    refine zs_iload_n dX5_oddBetween_7 rfl 1 rfl ?_
    refine zs_icmp_ge dX5_oddBetween_8 rfl ?_ ?_
    · refine zs_iload_n dX5_oddBetween_33 rfl 2 rfl ?_
      exact zs_iretP dX5_oddBetween_34 rfl
    refine zs_iload dX5_oddBetween_11 3 rfl ?_
    refine zs_aload_n dX5_oddBetween_13 rfl 0 rfl ?_
    refine zs_alen dX5_oddBetween_14 (fun y1 => ?_)
    refine zs_icmp_ge dX5_oddBetween_15 rfl ?_ ?_
    · refine zs_iload_n dX5_oddBetween_33 rfl 2 rfl ?_
      exact zs_iretP dX5_oddBetween_34 rfl
    refine zs_iload_n dX5_oddBetween_18 rfl 2 rfl ?_
    refine zs_iconst (v := 1) dX5_oddBetween_19 ciconst_1 ?_
    refine zs_aload_n dX5_oddBetween_20 rfl 0 rfl ?_
    refine zs_iload dX5_oddBetween_21 3 rfl ?_
    refine zs_ldI dX5_oddBetween_23 (fun y2 => ?_)
    refine zs_ishl dX5_oddBetween_24 ?_
    refine zs_ixor dX5_oddBetween_25 ?_
    refine zs_istore_nL (loc' := fun v3_3 => [(0, .ref (E.2.2.2.1 + v0)), (2, .int v2), (3, .int v3_3), (4, .int v4)]) dX5_oddBetween_26 rfl (Nat.le_of_ble_eq_true rfl) [1, 2, 0, 3] (fun _ => rfl) (fun v3_3 => ?_)
    refine zs_iinc (v := (v4 + 1)) (loc' := [(0, .ref (E.2.2.2.1 + v0)), (2, .int v2), (3, .int v3_3), (4, .int (v4 + 1))]) dX5_oddBetween_27 3 rfl (by rfl) (Nat.le_of_ble_eq_true rfl) [1, 2, 3, 0] rfl ?_
    refine zs_goto dX5_oddBetween_30 rfl ?_
    exact ih v3_3 (v4 + 1)
set_option maxHeartbeats 4000000 in
set_option maxRecDepth 100000 in
theorem ct_X5_oddBetween (E : zEnv) (hE : zEok E) (d : Nat) (hd : 1 ≤ d) (v0 : Nat) (v1 : Int32) (v2 : Int32) (M : zM) (x0 : Int32) (hx : fp_X5_oddBetween v0 v1 v2 M = some x0) : zCt E mu_X5_oddBetween d [.ref (E.2.2.2.1 + v0), .int v1, .int v2] M (some (.int x0), M) := by
  refine zCt_of (μ := mu_X5_oddBetween) (t := fp_X5_oddBetween v0 v1 v2 M) rfl rfl (Nat.le_of_ble_eq_true rfl) hx ?_
  change zSy E mu_X5_oddBetween d M (some (.int x0), M) x0 (fp_X5_oddBetween v0 v1 v2 M) 0 [(0, .ref (E.2.2.2.1 + v0)), (1, .int v1), (2, .int v2)] [] M
  unfold fp_X5_oddBetween
  refine zs_iconst (v := 0) dX5_oddBetween_0 ciconst_0 ?_
  refine zs_istore_n (loc' := [(0, .ref (E.2.2.2.1 + v0)), (1, .int v1), (2, .int v2), (3, .int 0)]) dX5_oddBetween_1 rfl (Nat.le_of_ble_eq_true rfl) [1, 2, 3, 0] rfl ?_
  refine zs_iload_n dX5_oddBetween_2 rfl 1 rfl ?_
  refine zs_istore (loc' := [(0, .ref (E.2.2.2.1 + v0)), (2, .int v2), (3, .int 0), (4, .int v1)]) dX5_oddBetween_3 (Nat.le_of_ble_eq_true rfl) [1, 3, 4, 0] rfl ?_
  exact w_X5_oddBetween_L5 E hE d hd _ _ _ _ _ _ _
theorem dX5_countCouples_0 : decode cX5_countCouples 0 = .ok (.iconst 0, 1) := by decide +kernel
theorem dX5_countCouples_1 : decode cX5_countCouples 1 = .ok (.istore_n 3, 1) := by decide +kernel
theorem dX5_countCouples_2 : decode cX5_countCouples 2 = .ok (.iconst 0, 1) := by decide +kernel
theorem dX5_countCouples_3 : decode cX5_countCouples 3 = .ok (.istore 4, 2) := by decide +kernel
theorem dX5_countCouples_5 : decode cX5_countCouples 5 = .ok (.iload 4, 2) := by decide +kernel
theorem dX5_countCouples_7 : decode cX5_countCouples 7 = .ok (.iload_n 1, 1) := by decide +kernel
theorem dX5_countCouples_8 : decode cX5_countCouples 8 = .ok (.if_icmp .gt 40, 3) := by decide +kernel
theorem dX5_countCouples_11 : decode cX5_countCouples 11 = .ok (.iload 4, 2) := by decide +kernel
theorem dX5_countCouples_13 : decode cX5_countCouples 13 = .ok (.istore 5, 2) := by decide +kernel
theorem dX5_countCouples_15 : decode cX5_countCouples 15 = .ok (.iload 5, 2) := by decide +kernel
theorem dX5_countCouples_17 : decode cX5_countCouples 17 = .ok (.iload_n 1, 1) := by decide +kernel
theorem dX5_countCouples_18 : decode cX5_countCouples 18 = .ok (.if_icmp .gt 24, 3) := by decide +kernel
theorem dX5_countCouples_21 : decode cX5_countCouples 21 = .ok (.aload_n 0, 1) := by decide +kernel
theorem dX5_countCouples_22 : decode cX5_countCouples 22 = .ok (.iload 4, 2) := by decide +kernel
theorem dX5_countCouples_24 : decode cX5_countCouples 24 = .ok (.iload 5, 2) := by decide +kernel
theorem dX5_countCouples_26 : decode cX5_countCouples 26 = .ok (.invokestatic 55, 3) := by decide +kernel
theorem dX5_countCouples_29 : decode cX5_countCouples 29 = .ok (.iload_n 2, 1) := by decide +kernel
theorem dX5_countCouples_30 : decode cX5_countCouples 30 = .ok (.if_icmp .ne 6, 3) := by decide +kernel
theorem dX5_countCouples_33 : decode cX5_countCouples 33 = .ok (.iinc 3 1, 3) := by decide +kernel
theorem dX5_countCouples_36 : decode cX5_countCouples 36 = .ok (.iinc 5 1, 3) := by decide +kernel
theorem dX5_countCouples_39 : decode cX5_countCouples 39 = .ok (.goto (-24), 3) := by decide +kernel
theorem dX5_countCouples_42 : decode cX5_countCouples 42 = .ok (.iinc 4 1, 3) := by decide +kernel
theorem dX5_countCouples_45 : decode cX5_countCouples 45 = .ok (.goto (-40), 3) := by decide +kernel
theorem dX5_countCouples_48 : decode cX5_countCouples 48 = .ok (.iload_n 3, 1) := by decide +kernel
theorem dX5_countCouples_49 : decode cX5_countCouples 49 = .ok (.ireturn, 1) := by decide +kernel
def fp_X5_countCouples_L15 (k42 : Int32 → Option (Int32)) (v0 : Nat) (v1 : Int32) (v2 : Int32) (v4 : Int32) (M : zM) : Nat → Int32 → Int32 → Option (Int32)
  | 0, _, _ => none
  | n + 1, v3, v5 =>
    if v5 > v1 then (
      k42 v3)
    else (
      (fp_X5_oddBetween v0 v4 v5 M).bind fun (y1 : Int32) =>
      zjn (fun (v3_2 : Int32) =>
          fp_X5_countCouples_L15 k42 v0 v1 v2 v4 M n v3_2 (v5 + 1))
        (fun j36 =>
          if y1 ≠ v2 then (
            j36 v3)
          else (
            j36 (v3 + 1))))
def fp_X5_countCouples_L5 (v0 : Nat) (v1 : Int32) (v2 : Int32) (M : zM) : Nat → Int32 → Int32 → Option (Int32)
  | 0, _, _ => none
  | n + 1, v3, v4 =>
    if v4 > v1 then (
      some v3)
    else (
      fp_X5_countCouples_L15
        (fun v3_3 =>
          fp_X5_countCouples_L5 v0 v1 v2 M n v3_3 (v4 + 1)) v0 v1 v2 v4 M FU v3 v4)
def fp_X5_countCouples (v0 : Nat) (v1 : Int32) (v2 : Int32) (M : zM) : Option (Int32) :=
  fp_X5_countCouples_L5 v0 v1 v2 M FU 0 0
set_option maxHeartbeats 4000000 in
set_option maxRecDepth 100000 in
theorem w_X5_countCouples_L15 (E : zEnv) (hE : zEok E) (d : Nat) (hd : 2 ≤ d) (x0 : Int32) (v0 : Nat) (v1 : Int32) (v2 : Int32) (v4 : Int32) (M : zM) (k42 : Int32 → Option (Int32)) (hk42 : ∀ (v3 : Int32), zSy E mu_X5_countCouples d M (some (.int x0), M) x0 (k42 v3) 42 [(0, .ref (E.2.2.2.1 + v0)), (1, .int v1), (2, .int v2), (3, .int v3), (4, .int v4)] [] M) : ∀ (n : Nat) (v3 : Int32) (v5 : Int32), zSy E mu_X5_countCouples d M (some (.int x0), M) x0 (fp_X5_countCouples_L15 k42 v0 v1 v2 v4 M n v3 v5) 15 [(0, .ref (E.2.2.2.1 + v0)), (1, .int v1), (2, .int v2), (3, .int v3), (4, .int v4), (5, .int v5)] [] M := by
  intro n
  induction n with
  | zero =>
    intro v3 v5
    rw [fp_X5_countCouples_L15]
    exact zs_none
  | succ n ih =>
    intro v3 v5
    rw [fp_X5_countCouples_L15]
    refine zs_iload dX5_countCouples_15 5 rfl ?_
    refine zs_iload_n dX5_countCouples_17 rfl 1 rfl ?_
    refine zs_icmp_gt dX5_countCouples_18 rfl ?_ ?_
    · refine zs_sub (loc' := [(0, .ref (E.2.2.2.1 + v0)), (1, .int v1), (2, .int v2), (3, .int v3), (4, .int v4)]) [0, 1, 2, 3, 4] rfl ?_
      exact hk42 v3
    refine zs_aload_n dX5_countCouples_21 rfl 0 rfl ?_
    refine zs_iload dX5_countCouples_22 4 rfl ?_
    refine zs_iload dX5_countCouples_24 5 rfl ?_
    refine zs_invSPI (rest := []) [.ref (E.2.2.2.1 + v0), .int v4, .int v5] dX5_countCouples_26 lk_X5_55 rfl (zd1 rfl hd) rfl (Nat.le_of_ble_eq_true rfl) (ct_X5_oddBetween E hE _ (zdl rfl hd) _ _ _ _) (fun y1 => ?_)
    refine zs_iload_n dX5_countCouples_29 rfl 2 rfl ?_
    refine zs_jn (fun j36 => ∀ (v3_2 : Int32), zSy E mu_X5_countCouples d M (some (.int x0), M) x0 (j36 v3_2) 36 [(0, .ref (E.2.2.2.1 + v0)), (1, .int v1), (2, .int v2), (3, .int v3_2), (4, .int v4), (5, .int v5)] [] M) (fun v3_2 => ?_) (fun j36 hj36 => ?_)
    · refine zs_iinc (v := (v5 + 1)) (loc' := [(0, .ref (E.2.2.2.1 + v0)), (1, .int v1), (2, .int v2), (3, .int v3_2), (4, .int v4), (5, .int (v5 + 1))]) dX5_countCouples_36 5 rfl (by rfl) (Nat.le_of_ble_eq_true rfl) [1, 2, 3, 4, 5, 0] rfl ?_
      refine zs_goto dX5_countCouples_39 rfl ?_
      exact ih v3_2 (v5 + 1)
    refine zs_icmp_ne dX5_countCouples_30 rfl ?_ ?_
    · exact hj36 v3
    refine zs_iinc (v := (v3 + 1)) (loc' := [(0, .ref (E.2.2.2.1 + v0)), (1, .int v1), (2, .int v2), (3, .int (v3 + 1)), (4, .int v4), (5, .int v5)]) dX5_countCouples_33 3 rfl (by rfl) (Nat.le_of_ble_eq_true rfl) [1, 2, 3, 0, 4, 5] rfl ?_
    exact hj36 (v3 + 1)
set_option maxHeartbeats 4000000 in
set_option maxRecDepth 100000 in
theorem w_X5_countCouples_L5 (E : zEnv) (hE : zEok E) (d : Nat) (hd : 2 ≤ d) (x0 : Int32) (v0 : Nat) (v1 : Int32) (v2 : Int32) (M : zM)  : ∀ (n : Nat) (v3 : Int32) (v4 : Int32), zSy E mu_X5_countCouples d M (some (.int x0), M) x0 (fp_X5_countCouples_L5 v0 v1 v2 M n v3 v4) 5 [(0, .ref (E.2.2.2.1 + v0)), (1, .int v1), (2, .int v2), (3, .int v3), (4, .int v4)] [] M := by
  intro n
  induction n with
  | zero =>
    intro v3 v4
    rw [fp_X5_countCouples_L5]
    exact zs_none
  | succ n ih =>
    intro v3 v4
    rw [fp_X5_countCouples_L5]
    refine zs_iload dX5_countCouples_5 4 rfl ?_
    refine zs_iload_n dX5_countCouples_7 rfl 1 rfl ?_
    refine zs_icmp_gt dX5_countCouples_8 rfl ?_ ?_
    · refine zs_iload_n dX5_countCouples_48 rfl 3 rfl ?_
      exact zs_iretP dX5_countCouples_49 rfl
    refine zs_iload dX5_countCouples_11 4 rfl ?_
    refine zs_istore (loc' := [(0, .ref (E.2.2.2.1 + v0)), (1, .int v1), (2, .int v2), (3, .int v3), (4, .int v4), (5, .int v4)]) dX5_countCouples_13 (Nat.le_of_ble_eq_true rfl) [1, 2, 3, 4, 5, 0] rfl ?_
    refine w_X5_countCouples_L15 E hE d hd _ _ _ _ _ _ _ (fun v3_3 => ?_) _ _ _
    refine zs_iinc (v := (v4 + 1)) (loc' := [(0, .ref (E.2.2.2.1 + v0)), (1, .int v1), (2, .int v2), (3, .int v3_3), (4, .int (v4 + 1))]) dX5_countCouples_42 4 rfl (by rfl) (Nat.le_of_ble_eq_true rfl) [1, 2, 3, 4, 0] rfl ?_
    refine zs_goto dX5_countCouples_45 rfl ?_
    exact ih v3_3 (v4 + 1)
set_option maxHeartbeats 4000000 in
set_option maxRecDepth 100000 in
theorem ct_X5_countCouples (E : zEnv) (hE : zEok E) (d : Nat) (hd : 2 ≤ d) (v0 : Nat) (v1 : Int32) (v2 : Int32) (M : zM) (x0 : Int32) (hx : fp_X5_countCouples v0 v1 v2 M = some x0) : zCt E mu_X5_countCouples d [.ref (E.2.2.2.1 + v0), .int v1, .int v2] M (some (.int x0), M) := by
  refine zCt_of (μ := mu_X5_countCouples) (t := fp_X5_countCouples v0 v1 v2 M) rfl rfl (Nat.le_of_ble_eq_true rfl) hx ?_
  change zSy E mu_X5_countCouples d M (some (.int x0), M) x0 (fp_X5_countCouples v0 v1 v2 M) 0 [(0, .ref (E.2.2.2.1 + v0)), (1, .int v1), (2, .int v2)] [] M
  unfold fp_X5_countCouples
  refine zs_iconst (v := 0) dX5_countCouples_0 ciconst_0 ?_
  refine zs_istore_n (loc' := [(0, .ref (E.2.2.2.1 + v0)), (1, .int v1), (2, .int v2), (3, .int 0)]) dX5_countCouples_1 rfl (Nat.le_of_ble_eq_true rfl) [1, 2, 3, 0] rfl ?_
  refine zs_iconst (v := 0) dX5_countCouples_2 ciconst_0 ?_
  refine zs_istore (loc' := [(0, .ref (E.2.2.2.1 + v0)), (1, .int v1), (2, .int v2), (3, .int 0), (4, .int 0)]) dX5_countCouples_3 (Nat.le_of_ble_eq_true rfl) [1, 2, 3, 4, 0] rfl ?_
  exact w_X5_countCouples_L5 E hE d hd _ _ _ _ _ _ _ _
theorem dX5_coupleAt_0 : decode cX5_coupleAt 0 = .ok (.iconst 0, 1) := by decide +kernel
theorem dX5_coupleAt_1 : decode cX5_coupleAt 1 = .ok (.istore 4, 2) := by decide +kernel
theorem dX5_coupleAt_3 : decode cX5_coupleAt 3 = .ok (.iconst 0, 1) := by decide +kernel
theorem dX5_coupleAt_4 : decode cX5_coupleAt 4 = .ok (.istore 5, 2) := by decide +kernel
theorem dX5_coupleAt_6 : decode cX5_coupleAt 6 = .ok (.iload 5, 2) := by decide +kernel
theorem dX5_coupleAt_8 : decode cX5_coupleAt 8 = .ok (.iload_n 1, 1) := by decide +kernel
theorem dX5_coupleAt_9 : decode cX5_coupleAt 9 = .ok (.if_icmp .gt 55, 3) := by decide +kernel
theorem dX5_coupleAt_12 : decode cX5_coupleAt 12 = .ok (.iload 5, 2) := by decide +kernel
theorem dX5_coupleAt_14 : decode cX5_coupleAt 14 = .ok (.istore 6, 2) := by decide +kernel
theorem dX5_coupleAt_16 : decode cX5_coupleAt 16 = .ok (.iload 6, 2) := by decide +kernel
theorem dX5_coupleAt_18 : decode cX5_coupleAt 18 = .ok (.iload_n 1, 1) := by decide +kernel
theorem dX5_coupleAt_19 : decode cX5_coupleAt 19 = .ok (.if_icmp .gt 39, 3) := by decide +kernel
theorem dX5_coupleAt_22 : decode cX5_coupleAt 22 = .ok (.aload_n 0, 1) := by decide +kernel
theorem dX5_coupleAt_23 : decode cX5_coupleAt 23 = .ok (.iload 5, 2) := by decide +kernel
theorem dX5_coupleAt_25 : decode cX5_coupleAt 25 = .ok (.iload 6, 2) := by decide +kernel
theorem dX5_coupleAt_27 : decode cX5_coupleAt 27 = .ok (.invokestatic 55, 3) := by decide +kernel
theorem dX5_coupleAt_30 : decode cX5_coupleAt 30 = .ok (.iload_n 2, 1) := by decide +kernel
theorem dX5_coupleAt_31 : decode cX5_coupleAt 31 = .ok (.if_icmp .ne 21, 3) := by decide +kernel
theorem dX5_coupleAt_34 : decode cX5_coupleAt 34 = .ok (.iload 4, 2) := by decide +kernel
theorem dX5_coupleAt_36 : decode cX5_coupleAt 36 = .ok (.iload_n 3, 1) := by decide +kernel
theorem dX5_coupleAt_37 : decode cX5_coupleAt 37 = .ok (.if_icmp .ne 12, 3) := by decide +kernel
theorem dX5_coupleAt_40 : decode cX5_coupleAt 40 = .ok (.iload 5, 2) := by decide +kernel
theorem dX5_coupleAt_42 : decode cX5_coupleAt 42 = .ok (.bipush 15, 2) := by decide +kernel
theorem dX5_coupleAt_44 : decode cX5_coupleAt 44 = .ok (.imul, 1) := by decide +kernel
theorem dX5_coupleAt_45 : decode cX5_coupleAt 45 = .ok (.iload 6, 2) := by decide +kernel
theorem dX5_coupleAt_47 : decode cX5_coupleAt 47 = .ok (.iadd, 1) := by decide +kernel
theorem dX5_coupleAt_48 : decode cX5_coupleAt 48 = .ok (.ireturn, 1) := by decide +kernel
theorem dX5_coupleAt_49 : decode cX5_coupleAt 49 = .ok (.iinc 4 1, 3) := by decide +kernel
theorem dX5_coupleAt_52 : decode cX5_coupleAt 52 = .ok (.iinc 6 1, 3) := by decide +kernel
theorem dX5_coupleAt_55 : decode cX5_coupleAt 55 = .ok (.goto (-39), 3) := by decide +kernel
theorem dX5_coupleAt_58 : decode cX5_coupleAt 58 = .ok (.iinc 5 1, 3) := by decide +kernel
theorem dX5_coupleAt_61 : decode cX5_coupleAt 61 = .ok (.goto (-55), 3) := by decide +kernel
theorem dX5_coupleAt_64 : decode cX5_coupleAt 64 = .ok (.iconst (-1), 1) := by decide +kernel
theorem dX5_coupleAt_65 : decode cX5_coupleAt 65 = .ok (.ireturn, 1) := by decide +kernel
def fp_X5_coupleAt_L16 (k58 : Int32 → Option (Int32)) (v0 : Nat) (v1 : Int32) (v2 : Int32) (v3 : Int32) (v5 : Int32) (M : zM) : Nat → Int32 → Int32 → Option (Int32)
  | 0, _, _ => none
  | n + 1, v4, v6 =>
    if v6 > v1 then (
      k58 v4)
    else (
      (fp_X5_oddBetween v0 v5 v6 M).bind fun (y1 : Int32) =>
      zjn (fun (v4_2 : Int32) =>
          fp_X5_coupleAt_L16 k58 v0 v1 v2 v3 v5 M n v4_2 (v6 + 1))
        (fun j52 =>
          if y1 ≠ v2 then (
            j52 v4)
          else (
            if v4 ≠ v3 then (
              j52 (v4 + 1))
            else (
              some ((v5 * 15) + v6)))))
def fp_X5_coupleAt_L6 (v0 : Nat) (v1 : Int32) (v2 : Int32) (v3 : Int32) (M : zM) : Nat → Int32 → Int32 → Option (Int32)
  | 0, _, _ => none
  | n + 1, v4, v5 =>
    if v5 > v1 then (
      some (-1))
    else (
      fp_X5_coupleAt_L16
        (fun v4_3 =>
          fp_X5_coupleAt_L6 v0 v1 v2 v3 M n v4_3 (v5 + 1)) v0 v1 v2 v3 v5 M FU v4 v5)
def fp_X5_coupleAt (v0 : Nat) (v1 : Int32) (v2 : Int32) (v3 : Int32) (M : zM) : Option (Int32) :=
  fp_X5_coupleAt_L6 v0 v1 v2 v3 M FU 0 0
set_option maxHeartbeats 4000000 in
set_option maxRecDepth 100000 in
theorem w_X5_coupleAt_L16 (E : zEnv) (hE : zEok E) (d : Nat) (hd : 2 ≤ d) (x0 : Int32) (v0 : Nat) (v1 : Int32) (v2 : Int32) (v3 : Int32) (v5 : Int32) (M : zM) (k58 : Int32 → Option (Int32)) (hk58 : ∀ (v4 : Int32), zSy E mu_X5_coupleAt d M (some (.int x0), M) x0 (k58 v4) 58 [(0, .ref (E.2.2.2.1 + v0)), (1, .int v1), (2, .int v2), (3, .int v3), (4, .int v4), (5, .int v5)] [] M) : ∀ (n : Nat) (v4 : Int32) (v6 : Int32), zSy E mu_X5_coupleAt d M (some (.int x0), M) x0 (fp_X5_coupleAt_L16 k58 v0 v1 v2 v3 v5 M n v4 v6) 16 [(0, .ref (E.2.2.2.1 + v0)), (1, .int v1), (2, .int v2), (3, .int v3), (4, .int v4), (5, .int v5), (6, .int v6)] [] M := by
  intro n
  induction n with
  | zero =>
    intro v4 v6
    rw [fp_X5_coupleAt_L16]
    exact zs_none
  | succ n ih =>
    intro v4 v6
    rw [fp_X5_coupleAt_L16]
    refine zs_iload dX5_coupleAt_16 6 rfl ?_
    refine zs_iload_n dX5_coupleAt_18 rfl 1 rfl ?_
    refine zs_icmp_gt dX5_coupleAt_19 rfl ?_ ?_
    · refine zs_sub (loc' := [(0, .ref (E.2.2.2.1 + v0)), (1, .int v1), (2, .int v2), (3, .int v3), (4, .int v4), (5, .int v5)]) [0, 1, 2, 3, 4, 5] rfl ?_
      exact hk58 v4
    refine zs_aload_n dX5_coupleAt_22 rfl 0 rfl ?_
    refine zs_iload dX5_coupleAt_23 5 rfl ?_
    refine zs_iload dX5_coupleAt_25 6 rfl ?_
    refine zs_invSPI (rest := []) [.ref (E.2.2.2.1 + v0), .int v5, .int v6] dX5_coupleAt_27 lk_X5_55 rfl (zd1 rfl hd) rfl (Nat.le_of_ble_eq_true rfl) (ct_X5_oddBetween E hE _ (zdl rfl hd) _ _ _ _) (fun y1 => ?_)
    refine zs_iload_n dX5_coupleAt_30 rfl 2 rfl ?_
    refine zs_jn (fun j52 => ∀ (v4_2 : Int32), zSy E mu_X5_coupleAt d M (some (.int x0), M) x0 (j52 v4_2) 52 [(0, .ref (E.2.2.2.1 + v0)), (1, .int v1), (2, .int v2), (3, .int v3), (4, .int v4_2), (5, .int v5), (6, .int v6)] [] M) (fun v4_2 => ?_) (fun j52 hj52 => ?_)
    · refine zs_iinc (v := (v6 + 1)) (loc' := [(0, .ref (E.2.2.2.1 + v0)), (1, .int v1), (2, .int v2), (3, .int v3), (4, .int v4_2), (5, .int v5), (6, .int (v6 + 1))]) dX5_coupleAt_52 6 rfl (by rfl) (Nat.le_of_ble_eq_true rfl) [1, 2, 3, 4, 5, 6, 0] rfl ?_
      refine zs_goto dX5_coupleAt_55 rfl ?_
      exact ih v4_2 (v6 + 1)
    refine zs_icmp_ne dX5_coupleAt_31 rfl ?_ ?_
    · exact hj52 v4
    refine zs_iload dX5_coupleAt_34 4 rfl ?_
    refine zs_iload_n dX5_coupleAt_36 rfl 3 rfl ?_
    refine zs_icmp_ne dX5_coupleAt_37 rfl ?_ ?_
    · refine zs_iinc (v := (v4 + 1)) (loc' := [(0, .ref (E.2.2.2.1 + v0)), (1, .int v1), (2, .int v2), (3, .int v3), (4, .int (v4 + 1)), (5, .int v5), (6, .int v6)]) dX5_coupleAt_49 4 rfl (by rfl) (Nat.le_of_ble_eq_true rfl) [1, 2, 3, 4, 0, 5, 6] rfl ?_
      exact hj52 (v4 + 1)
    refine zs_iload dX5_coupleAt_40 5 rfl ?_
    refine zs_bipush (v := 15) dX5_coupleAt_42 cbipush_15 ?_
    refine zs_imul dX5_coupleAt_44 ?_
    refine zs_iload dX5_coupleAt_45 6 rfl ?_
    refine zs_iadd dX5_coupleAt_47 ?_
    exact zs_iretP dX5_coupleAt_48 rfl
set_option maxHeartbeats 4000000 in
set_option maxRecDepth 100000 in
theorem w_X5_coupleAt_L6 (E : zEnv) (hE : zEok E) (d : Nat) (hd : 2 ≤ d) (x0 : Int32) (v0 : Nat) (v1 : Int32) (v2 : Int32) (v3 : Int32) (M : zM)  : ∀ (n : Nat) (v4 : Int32) (v5 : Int32), zSy E mu_X5_coupleAt d M (some (.int x0), M) x0 (fp_X5_coupleAt_L6 v0 v1 v2 v3 M n v4 v5) 6 [(0, .ref (E.2.2.2.1 + v0)), (1, .int v1), (2, .int v2), (3, .int v3), (4, .int v4), (5, .int v5)] [] M := by
  intro n
  induction n with
  | zero =>
    intro v4 v5
    rw [fp_X5_coupleAt_L6]
    exact zs_none
  | succ n ih =>
    intro v4 v5
    rw [fp_X5_coupleAt_L6]
    refine zs_iload dX5_coupleAt_6 5 rfl ?_
    refine zs_iload_n dX5_coupleAt_8 rfl 1 rfl ?_
    refine zs_icmp_gt dX5_coupleAt_9 rfl ?_ ?_
    · refine zs_iconst (v := (-1)) dX5_coupleAt_64 ciconst_m1 ?_
      exact zs_iretP dX5_coupleAt_65 rfl
    refine zs_iload dX5_coupleAt_12 5 rfl ?_
    refine zs_istore (loc' := [(0, .ref (E.2.2.2.1 + v0)), (1, .int v1), (2, .int v2), (3, .int v3), (4, .int v4), (5, .int v5), (6, .int v5)]) dX5_coupleAt_14 (Nat.le_of_ble_eq_true rfl) [1, 2, 3, 4, 5, 6, 0] rfl ?_
    refine w_X5_coupleAt_L16 E hE d hd _ _ _ _ _ _ _ _ (fun v4_3 => ?_) _ _ _
    refine zs_iinc (v := (v5 + 1)) (loc' := [(0, .ref (E.2.2.2.1 + v0)), (1, .int v1), (2, .int v2), (3, .int v3), (4, .int v4_3), (5, .int (v5 + 1))]) dX5_coupleAt_58 5 rfl (by rfl) (Nat.le_of_ble_eq_true rfl) [1, 2, 3, 4, 5, 0] rfl ?_
    refine zs_goto dX5_coupleAt_61 rfl ?_
    exact ih v4_3 (v5 + 1)
set_option maxHeartbeats 4000000 in
set_option maxRecDepth 100000 in
theorem ct_X5_coupleAt (E : zEnv) (hE : zEok E) (d : Nat) (hd : 2 ≤ d) (v0 : Nat) (v1 : Int32) (v2 : Int32) (v3 : Int32) (M : zM) (x0 : Int32) (hx : fp_X5_coupleAt v0 v1 v2 v3 M = some x0) : zCt E mu_X5_coupleAt d [.ref (E.2.2.2.1 + v0), .int v1, .int v2, .int v3] M (some (.int x0), M) := by
  refine zCt_of (μ := mu_X5_coupleAt) (t := fp_X5_coupleAt v0 v1 v2 v3 M) rfl rfl (Nat.le_of_ble_eq_true rfl) hx ?_
  change zSy E mu_X5_coupleAt d M (some (.int x0), M) x0 (fp_X5_coupleAt v0 v1 v2 v3 M) 0 [(0, .ref (E.2.2.2.1 + v0)), (1, .int v1), (2, .int v2), (3, .int v3)] [] M
  unfold fp_X5_coupleAt
  refine zs_iconst (v := 0) dX5_coupleAt_0 ciconst_0 ?_
  refine zs_istore (loc' := [(0, .ref (E.2.2.2.1 + v0)), (1, .int v1), (2, .int v2), (3, .int v3), (4, .int 0)]) dX5_coupleAt_1 (Nat.le_of_ble_eq_true rfl) [1, 2, 3, 4, 0] rfl ?_
  refine zs_iconst (v := 0) dX5_coupleAt_3 ciconst_0 ?_
  refine zs_istore (loc' := [(0, .ref (E.2.2.2.1 + v0)), (1, .int v1), (2, .int v2), (3, .int v3), (4, .int 0), (5, .int 0)]) dX5_coupleAt_4 (Nat.le_of_ble_eq_true rfl) [1, 2, 3, 4, 5, 0] rfl ?_
  exact w_X5_coupleAt_L6 E hE d hd _ _ _ _ _ _ _ _ _
theorem dX6_init_0 : decode cX6_init 0 = .ok (.aload_n 0, 1) := by decide +kernel
theorem dX6_init_1 : decode cX6_init 1 = .ok (.invokespecial 3, 3) := by decide +kernel
theorem dX6_init_4 : decode cX6_init 4 = .ok (.aload_n 0, 1) := by decide +kernel
theorem dX6_init_5 : decode cX6_init 5 = .ok (.bipush 64, 2) := by decide +kernel
theorem dX6_init_7 : decode cX6_init 7 = .ok (.newarray .int, 2) := by decide +kernel
theorem dX6_init_9 : decode cX6_init 9 = .ok (.putfield 11, 3) := by decide +kernel
theorem dX6_init_12 : decode cX6_init 12 = .ok (.return_, 1) := by decide +kernel
def fp_X6_init (v0 : Nat) (M : zM) : Option (zM) :=
  zthis 4 M v0 (
    (zna 100 M 64).bind fun p3 => zpp p3 fun (q1 : Nat) (M2 : zM) =>
    (zpR 4 M2 v0 0 q1).bind fun (M4 : zM) =>
    some M4)
set_option maxHeartbeats 4000000 in
set_option maxRecDepth 100000 in
theorem th_X6_init {v0 : Nat} {M : zM} {x0 : zM} (h : fp_X6_init v0 M = some x0) : v0 < zS M ∧ kd v0 = 4 := by
  unfold fp_X6_init at h
  exact zthis_of h
set_option maxHeartbeats 4000000 in
set_option maxRecDepth 100000 in
theorem ct_X6_init (E : zEnv) (hE : zEok E) (d : Nat) (hd : 2 ≤ d) (v0 : Nat) (M : zM) (x0 : zM) (hx : fp_X6_init v0 M = some x0) : zCt E mu_X6_init d [.ref (E.2.2.2.1 + v0)] M (none, x0) := by
  refine zCt_of (μ := mu_X6_init) (t := fp_X6_init v0 M) rfl rfl (Nat.le_of_ble_eq_true rfl) hx ?_
  change zSy E mu_X6_init d M (none, x0) x0 (fp_X6_init v0 M) 0 [(0, .ref (E.2.2.2.1 + v0))] [] M
  unfold fp_X6_init
  refine zs_this (fun hth => ?_)
  refine zs_aload_n dX6_init_0 rfl 0 rfl ?_
  refine zs_objInit dX6_init_1 (ti_1 108 rfl rfl) mi_oinit mc_oinit (zd0 rfl hd) (Nat.le_of_ble_eq_true rfl) ?_
  refine zs_aload_n dX6_init_4 rfl 0 rfl ?_
  refine zs_bipush (v := 64) dX6_init_5 cbipush_64 ?_
  refine zs_newA dX6_init_7 rfl (by decide) (ti_1 44 rfl rfl) (fun q1 M2 => ?_)
  refine zs_putRF dX6_init_9 fl_X6_11 ft_X6 rfl rfl rfl rfl rfl rfl rfl (fun M4 => ?_)
  exact zs_vret dX6_init_12 trivial
theorem dX6_gather_0 : decode cX6_gather 0 = .ok (.aload_n 0, 1) := by decide +kernel
theorem dX6_gather_1 : decode cX6_gather 1 = .ok (.iconst 0, 1) := by decide +kernel
theorem dX6_gather_2 : decode cX6_gather 2 = .ok (.putfield 15, 3) := by decide +kernel
theorem dX6_gather_5 : decode cX6_gather 5 = .ok (.iload_n 1, 1) := by decide +kernel
theorem dX6_gather_6 : decode cX6_gather 6 = .ok (.iload_n 2, 1) := by decide +kernel
theorem dX6_gather_7 : decode cX6_gather 7 = .ok (.invokestatic 19, 3) := by decide +kernel
theorem dX6_gather_10 : decode cX6_gather 10 = .ok (.ifCond .ne 4, 3) := by decide +kernel
theorem dX6_gather_13 : decode cX6_gather 13 = .ok (.return_, 1) := by decide +kernel
theorem dX6_gather_14 : decode cX6_gather 14 = .ok (.iconst 1, 1) := by decide +kernel
theorem dX6_gather_15 : decode cX6_gather 15 = .ok (.istore_n 3, 1) := by decide +kernel
theorem dX6_gather_16 : decode cX6_gather 16 = .ok (.iload_n 3, 1) := by decide +kernel
theorem dX6_gather_17 : decode cX6_gather 17 = .ok (.iconst 1, 1) := by decide +kernel
theorem dX6_gather_18 : decode cX6_gather 18 = .ok (.iload_n 1, 1) := by decide +kernel
theorem dX6_gather_19 : decode cX6_gather 19 = .ok (.ishl, 1) := by decide +kernel
theorem dX6_gather_20 : decode cX6_gather 20 = .ok (.if_icmp .ge 47, 3) := by decide +kernel
theorem dX6_gather_23 : decode cX6_gather 23 = .ok (.aload_n 0, 1) := by decide +kernel
theorem dX6_gather_24 : decode cX6_gather 24 = .ok (.getfield 15, 3) := by decide +kernel
theorem dX6_gather_27 : decode cX6_gather 27 = .ok (.bipush 64, 2) := by decide +kernel
theorem dX6_gather_29 : decode cX6_gather 29 = .ok (.if_icmp .ge 38, 3) := by decide +kernel
theorem dX6_gather_32 : decode cX6_gather 32 = .ok (.iload_n 1, 1) := by decide +kernel
theorem dX6_gather_33 : decode cX6_gather 33 = .ok (.iload_n 2, 1) := by decide +kernel
theorem dX6_gather_34 : decode cX6_gather 34 = .ok (.iload_n 3, 1) := by decide +kernel
theorem dX6_gather_35 : decode cX6_gather 35 = .ok (.invokestatic 25, 3) := by decide +kernel
theorem dX6_gather_38 : decode cX6_gather 38 = .ok (.ifCond .eq 23, 3) := by decide +kernel
theorem dX6_gather_41 : decode cX6_gather 41 = .ok (.aload_n 0, 1) := by decide +kernel
theorem dX6_gather_42 : decode cX6_gather 42 = .ok (.getfield 11, 3) := by decide +kernel
theorem dX6_gather_45 : decode cX6_gather 45 = .ok (.aload_n 0, 1) := by decide +kernel
theorem dX6_gather_46 : decode cX6_gather 46 = .ok (.getfield 15, 3) := by decide +kernel
theorem dX6_gather_49 : decode cX6_gather 49 = .ok (.iload_n 3, 1) := by decide +kernel
theorem dX6_gather_50 : decode cX6_gather 50 = .ok (.iastore, 1) := by decide +kernel
theorem dX6_gather_51 : decode cX6_gather 51 = .ok (.aload_n 0, 1) := by decide +kernel
theorem dX6_gather_52 : decode cX6_gather 52 = .ok (.dup, 1) := by decide +kernel
theorem dX6_gather_53 : decode cX6_gather 53 = .ok (.getfield 15, 3) := by decide +kernel
theorem dX6_gather_56 : decode cX6_gather 56 = .ok (.iconst 1, 1) := by decide +kernel
theorem dX6_gather_57 : decode cX6_gather 57 = .ok (.iadd, 1) := by decide +kernel
theorem dX6_gather_58 : decode cX6_gather 58 = .ok (.putfield 15, 3) := by decide +kernel
theorem dX6_gather_61 : decode cX6_gather 61 = .ok (.iinc 3 2, 3) := by decide +kernel
theorem dX6_gather_64 : decode cX6_gather 64 = .ok (.goto (-48), 3) := by decide +kernel
theorem dX6_gather_67 : decode cX6_gather 67 = .ok (.return_, 1) := by decide +kernel
def fp_X6_gather_L16 (v0 : Nat) (v1 : Int32) (v2 : Int32) : Nat → Int32 → zM → Option (zM)
  | 0, _, _ => none
  | n + 1, v3, M =>
    if v3 ≥ (1 <<< (v1 &&& 31)) then (
      some M)
    else (
      (zgI 4 M v0 1).bind fun (y3 : Int32) =>
      if y3 ≥ 64 then (
        some M)
      else (
        (fp_X6_isSplit v1 v2 v3).bind fun (y4 : Int32) =>
        zjn (fun (M5 : zM) =>
            fp_X6_gather_L16 v0 v1 v2 n (v3 + 2) M5)
          (fun j61 =>
            if y4 = 0 then (
              j61 M)
            else (
              (zgR 4 M v0 0).bind fun (y6 : Nat) =>
              (zgI 4 M v0 1).bind fun (y7 : Int32) =>
              (ztI M y6 y7 v3).bind fun (M8 : zM) =>
              (zgI 4 M8 v0 1).bind fun (y9 : Int32) =>
              (zpI 4 M8 v0 1 (y9 + 1)).bind fun (M10 : zM) =>
              j61 M10))))
def fp_X6_gather (v0 : Nat) (v1 : Int32) (v2 : Int32) (M : zM) : Option (zM) :=
  zthis 4 M v0 (
    (zpI 4 M v0 1 0).bind fun (M1 : zM) =>
    (fp_X2_joined v1 v2).bind fun (y2 : Int32) =>
    if y2 ≠ 0 then (
      fp_X6_gather_L16 v0 v1 v2 FU 1 M1)
    else (
      some M1))
set_option maxHeartbeats 4000000 in
set_option maxRecDepth 100000 in
theorem th_X6_gather {v0 : Nat} {v1 : Int32} {v2 : Int32} {M : zM} {x0 : zM} (h : fp_X6_gather v0 v1 v2 M = some x0) : v0 < zS M ∧ kd v0 = 4 := by
  unfold fp_X6_gather at h
  exact zthis_of h
set_option maxHeartbeats 4000000 in
set_option maxRecDepth 100000 in
theorem w_X6_gather_L16 (E : zEnv) (hE : zEok E) (d : Nat) (hd : 4 ≤ d) (M0 : zM) (x0 : zM) (v0 : Nat) (v1 : Int32) (v2 : Int32)  : ∀ (n : Nat) (v3 : Int32) (M : zM), zSy E mu_X6_gather d M0 (none, x0) x0 (fp_X6_gather_L16 v0 v1 v2 n v3 M) 16 [(0, .ref (E.2.2.2.1 + v0)), (1, .int v1), (2, .int v2), (3, .int v3)] [] M := by
  intro n
  induction n with
  | zero =>
    intro v3 M
    rw [fp_X6_gather_L16]
    exact zs_none
  | succ n ih =>
    intro v3 M
    rw [fp_X6_gather_L16]
    refine zs_iload_n dX6_gather_16 rfl 3 rfl ?_
    refine zs_iconst (v := 1) dX6_gather_17 ciconst_1 ?_
    refine zs_iload_n dX6_gather_18 rfl 1 rfl ?_
    refine zs_ishl dX6_gather_19 ?_
    refine zs_icmp_ge dX6_gather_20 rfl ?_ ?_
    · exact zs_vret dX6_gather_67 trivial
    refine zs_aload_n dX6_gather_23 rfl 0 rfl ?_
    refine zs_getI dX6_gather_24 fl_X6_15 rfl (fun y3 => ?_)
    refine zs_bipush (v := 64) dX6_gather_27 cbipush_64 ?_
    refine zs_icmp_ge dX6_gather_29 rfl ?_ ?_
    · exact zs_vret dX6_gather_67 trivial
    refine zs_iload_n dX6_gather_32 rfl 1 rfl ?_
    refine zs_iload_n dX6_gather_33 rfl 2 rfl ?_
    refine zs_iload_n dX6_gather_34 rfl 3 rfl ?_
    refine zs_invSPI (rest := []) [.int v1, .int v2, .int v3] dX6_gather_35 lk_X6_25 rfl (zd1 rfl hd) rfl (Nat.le_of_ble_eq_true rfl) (ct_X6_isSplit E hE _ (zdl rfl hd) _ _ _ _) (fun y4 => ?_)
    refine zs_jn (fun j61 => ∀ (M5 : zM), zSy E mu_X6_gather d M0 (none, x0) x0 (j61 M5) 61 [(0, .ref (E.2.2.2.1 + v0)), (1, .int v1), (2, .int v2), (3, .int v3)] [] M5) (fun M5 => ?_) (fun j61 hj61 => ?_)
    · refine zs_iinc (v := (v3 + 2)) (loc' := [(0, .ref (E.2.2.2.1 + v0)), (1, .int v1), (2, .int v2), (3, .int (v3 + 2))]) dX6_gather_61 3 rfl (by rfl) (Nat.le_of_ble_eq_true rfl) [1, 2, 3, 0] rfl ?_
      refine zs_goto dX6_gather_64 rfl ?_
      exact ih (v3 + 2) M5
    refine zs_if_eq dX6_gather_38 rfl ?_ ?_
    · exact hj61 M
    refine zs_aload_n dX6_gather_41 rfl 0 rfl ?_
    refine zs_getR dX6_gather_42 fl_X6_11 rfl (fun y6 => ?_)
    refine zs_aload_n dX6_gather_45 rfl 0 rfl ?_
    refine zs_getI dX6_gather_46 fl_X6_15 rfl (fun y7 => ?_)
    refine zs_iload_n dX6_gather_49 rfl 3 rfl ?_
    refine zs_stI dX6_gather_50 (fun M8 => ?_)
    refine zs_aload_n dX6_gather_51 rfl 0 rfl ?_
    refine zs_dup dX6_gather_52 rfl ?_
    refine zs_getI dX6_gather_53 fl_X6_15 rfl (fun y9 => ?_)
    refine zs_iconst (v := 1) dX6_gather_56 ciconst_1 ?_
    refine zs_iadd dX6_gather_57 ?_
    refine zs_putI dX6_gather_58 fl_X6_15 ft_X6 rfl rfl rfl rfl rfl (fun M10 => ?_)
    exact hj61 M10
set_option maxHeartbeats 4000000 in
set_option maxRecDepth 100000 in
theorem ct_X6_gather (E : zEnv) (hE : zEok E) (d : Nat) (hd : 4 ≤ d) (v0 : Nat) (v1 : Int32) (v2 : Int32) (M : zM) (x0 : zM) (hx : fp_X6_gather v0 v1 v2 M = some x0) : zCt E mu_X6_gather d [.ref (E.2.2.2.1 + v0), .int v1, .int v2] M (none, x0) := by
  refine zCt_of (μ := mu_X6_gather) (t := fp_X6_gather v0 v1 v2 M) rfl rfl (Nat.le_of_ble_eq_true rfl) hx ?_
  change zSy E mu_X6_gather d M (none, x0) x0 (fp_X6_gather v0 v1 v2 M) 0 [(0, .ref (E.2.2.2.1 + v0)), (1, .int v1), (2, .int v2)] [] M
  unfold fp_X6_gather
  refine zs_this (fun hth => ?_)
  refine zs_aload_n dX6_gather_0 rfl 0 rfl ?_
  refine zs_iconst (v := 0) dX6_gather_1 ciconst_0 ?_
  refine zs_putI dX6_gather_2 fl_X6_15 ft_X6 rfl rfl rfl rfl rfl (fun M1 => ?_)
  refine zs_iload_n dX6_gather_5 rfl 1 rfl ?_
  refine zs_iload_n dX6_gather_6 rfl 2 rfl ?_
  refine zs_invSPI (rest := []) [.int v1, .int v2] dX6_gather_7 lk_X6_19 rfl (zd1 rfl hd) rfl (Nat.le_of_ble_eq_true rfl) (ct_X2_joined E hE _ (zdl rfl hd) _ _ _) (fun y2 => ?_)
  refine zs_if_ne dX6_gather_10 rfl ?_ ?_
  · refine zs_iconst (v := 1) dX6_gather_14 ciconst_1 ?_
    refine zs_istore_n (loc' := [(0, .ref (E.2.2.2.1 + v0)), (1, .int v1), (2, .int v2), (3, .int 1)]) dX6_gather_15 rfl (Nat.le_of_ble_eq_true rfl) [1, 2, 3, 0] rfl ?_
    exact w_X6_gather_L16 E hE d hd _ _ _ _ _ _ _ _
  exact zs_vret dX6_gather_13 trivial
theorem dX6_setAt_0 : decode cX6_setAt 0 = .ok (.iload_n 1, 1) := by decide +kernel
theorem dX6_setAt_1 : decode cX6_setAt 1 = .ok (.ifCond .lt 20, 3) := by decide +kernel
theorem dX6_setAt_4 : decode cX6_setAt 4 = .ok (.iload_n 1, 1) := by decide +kernel
theorem dX6_setAt_5 : decode cX6_setAt 5 = .ok (.aload_n 0, 1) := by decide +kernel
theorem dX6_setAt_6 : decode cX6_setAt 6 = .ok (.getfield 15, 3) := by decide +kernel
theorem dX6_setAt_9 : decode cX6_setAt 9 = .ok (.if_icmp .ge 12, 3) := by decide +kernel
theorem dX6_setAt_12 : decode cX6_setAt 12 = .ok (.aload_n 0, 1) := by decide +kernel
theorem dX6_setAt_13 : decode cX6_setAt 13 = .ok (.getfield 11, 3) := by decide +kernel
theorem dX6_setAt_16 : decode cX6_setAt 16 = .ok (.iload_n 1, 1) := by decide +kernel
theorem dX6_setAt_17 : decode cX6_setAt 17 = .ok (.iaload, 1) := by decide +kernel
theorem dX6_setAt_18 : decode cX6_setAt 18 = .ok (.goto 4, 3) := by decide +kernel
theorem dX6_setAt_21 : decode cX6_setAt 21 = .ok (.iconst 0, 1) := by decide +kernel
theorem dX6_setAt_22 : decode cX6_setAt 22 = .ok (.ireturn, 1) := by decide +kernel
def fp_X6_setAt (v0 : Nat) (v1 : Int32) (M : zM) : Option (Int32) :=
  zthis 4 M v0 (
    if v1 < 0 then (
      some 0)
    else (
      (zgI 4 M v0 1).bind fun (y1 : Int32) =>
      if v1 ≥ y1 then (
        some 0)
      else (
        (zgR 4 M v0 0).bind fun (y2 : Nat) =>
        (zlI 100 M y2 v1).bind fun (y3 : Int32) =>
        some y3)))
set_option maxHeartbeats 4000000 in
set_option maxRecDepth 100000 in
theorem th_X6_setAt {v0 : Nat} {v1 : Int32} {M : zM} {x0 : Int32} (h : fp_X6_setAt v0 v1 M = some x0) : v0 < zS M ∧ kd v0 = 4 := by
  unfold fp_X6_setAt at h
  exact zthis_of h
set_option maxHeartbeats 4000000 in
set_option maxRecDepth 100000 in
theorem ct_X6_setAt (E : zEnv) (hE : zEok E) (d : Nat) (hd : 1 ≤ d) (v0 : Nat) (v1 : Int32) (M : zM) (x0 : Int32) (hx : fp_X6_setAt v0 v1 M = some x0) : zCt E mu_X6_setAt d [.ref (E.2.2.2.1 + v0), .int v1] M (some (.int x0), M) := by
  refine zCt_of (μ := mu_X6_setAt) (t := fp_X6_setAt v0 v1 M) rfl rfl (Nat.le_of_ble_eq_true rfl) hx ?_
  change zSy E mu_X6_setAt d M (some (.int x0), M) x0 (fp_X6_setAt v0 v1 M) 0 [(0, .ref (E.2.2.2.1 + v0)), (1, .int v1)] [] M
  unfold fp_X6_setAt
  refine zs_this (fun hth => ?_)
  refine zs_iload_n dX6_setAt_0 rfl 1 rfl ?_
  refine zs_if_lt dX6_setAt_1 rfl ?_ ?_
  · refine zs_iconst (v := 0) dX6_setAt_21 ciconst_0 ?_
    exact zs_iretP dX6_setAt_22 rfl
  refine zs_iload_n dX6_setAt_4 rfl 1 rfl ?_
  refine zs_aload_n dX6_setAt_5 rfl 0 rfl ?_
  refine zs_getI dX6_setAt_6 fl_X6_15 rfl (fun y1 => ?_)
  refine zs_icmp_ge dX6_setAt_9 rfl ?_ ?_
  · refine zs_iconst (v := 0) dX6_setAt_21 ciconst_0 ?_
    exact zs_iretP dX6_setAt_22 rfl
  refine zs_aload_n dX6_setAt_12 rfl 0 rfl ?_
  refine zs_getR dX6_setAt_13 fl_X6_11 rfl (fun y2 => ?_)
  refine zs_iload_n dX6_setAt_16 rfl 1 rfl ?_
  refine zs_ldI dX6_setAt_17 (fun y3 => ?_)
  refine zs_goto dX6_setAt_18 rfl ?_
  exact zs_iretP dX6_setAt_22 rfl
theorem dX6_isWithin_0 : decode cX6_isWithin 0 = .ok (.iload_n 0, 1) := by decide +kernel
theorem dX6_isWithin_1 : decode cX6_isWithin 1 = .ok (.iload_n 1, 1) := by decide +kernel
theorem dX6_isWithin_2 : decode cX6_isWithin 2 = .ok (.iconst (-1), 1) := by decide +kernel
theorem dX6_isWithin_3 : decode cX6_isWithin 3 = .ok (.ixor, 1) := by decide +kernel
theorem dX6_isWithin_4 : decode cX6_isWithin 4 = .ok (.iand, 1) := by decide +kernel
theorem dX6_isWithin_5 : decode cX6_isWithin 5 = .ok (.ifCond .ne 7, 3) := by decide +kernel
theorem dX6_isWithin_8 : decode cX6_isWithin 8 = .ok (.iconst 1, 1) := by decide +kernel
theorem dX6_isWithin_9 : decode cX6_isWithin 9 = .ok (.goto 4, 3) := by decide +kernel
theorem dX6_isWithin_12 : decode cX6_isWithin 12 = .ok (.iconst 0, 1) := by decide +kernel
theorem dX6_isWithin_13 : decode cX6_isWithin 13 = .ok (.ireturn, 1) := by decide +kernel
def fp_X6_isWithin (v0 : Int32) (v1 : Int32) : Option (Int32) :=
  if (v0 &&& (v1 ^^^ (-1))) ≠ 0 then (
    some 0)
  else (
    some 1)
set_option maxHeartbeats 4000000 in
set_option maxRecDepth 100000 in
theorem ct_X6_isWithin (E : zEnv) (hE : zEok E) (d : Nat) (hd : 1 ≤ d) (v0 : Int32) (v1 : Int32) (M : zM) (x0 : Int32) (hx : fp_X6_isWithin v0 v1 = some x0) : zCt E mu_X6_isWithin d [.int v0, .int v1] M (some (.int x0), M) := by
  refine zCt_of (μ := mu_X6_isWithin) (t := fp_X6_isWithin v0 v1) rfl rfl (Nat.le_of_ble_eq_true rfl) hx ?_
  change zSy E mu_X6_isWithin d M (some (.int x0), M) x0 (fp_X6_isWithin v0 v1) 0 [(0, .int v0), (1, .int v1)] [] M
  unfold fp_X6_isWithin
  refine zs_iload_n dX6_isWithin_0 rfl 0 rfl ?_
  refine zs_iload_n dX6_isWithin_1 rfl 1 rfl ?_
  refine zs_iconst (v := (-1)) dX6_isWithin_2 ciconst_m1 ?_
  refine zs_ixor dX6_isWithin_3 ?_
  refine zs_iand dX6_isWithin_4 ?_
  refine zs_if_ne dX6_isWithin_5 rfl ?_ ?_
  · refine zs_iconst (v := 0) dX6_isWithin_12 ciconst_0 ?_
    exact zs_iretP dX6_isWithin_13 rfl
  refine zs_iconst (v := 1) dX6_isWithin_8 ciconst_1 ?_
  refine zs_goto dX6_isWithin_9 rfl ?_
  exact zs_iretP dX6_isWithin_13 rfl
theorem dX6_isStrong_0 : decode cX6_isStrong 0 = .ok (.aload_n 0, 1) := by decide +kernel
theorem dX6_isStrong_1 : decode cX6_isStrong 1 = .ok (.iload_n 2, 1) := by decide +kernel
theorem dX6_isStrong_2 : decode cX6_isStrong 2 = .ok (.invokevirtual 29, 3) := by decide +kernel
theorem dX6_isStrong_5 : decode cX6_isStrong 5 = .ok (.istore_n 3, 1) := by decide +kernel
theorem dX6_isStrong_6 : decode cX6_isStrong 6 = .ok (.iload_n 1, 1) := by decide +kernel
theorem dX6_isStrong_7 : decode cX6_isStrong 7 = .ok (.invokestatic 33, 3) := by decide +kernel
theorem dX6_isStrong_10 : decode cX6_isStrong 10 = .ok (.iload_n 3, 1) := by decide +kernel
theorem dX6_isStrong_11 : decode cX6_isStrong 11 = .ok (.ixor, 1) := by decide +kernel
theorem dX6_isStrong_12 : decode cX6_isStrong 12 = .ok (.istore 4, 2) := by decide +kernel
theorem dX6_isStrong_14 : decode cX6_isStrong 14 = .ok (.iconst 0, 1) := by decide +kernel
theorem dX6_isStrong_15 : decode cX6_isStrong 15 = .ok (.istore 5, 2) := by decide +kernel
theorem dX6_isStrong_17 : decode cX6_isStrong 17 = .ok (.iload 5, 2) := by decide +kernel
theorem dX6_isStrong_19 : decode cX6_isStrong 19 = .ok (.aload_n 0, 1) := by decide +kernel
theorem dX6_isStrong_20 : decode cX6_isStrong 20 = .ok (.getfield 15, 3) := by decide +kernel
theorem dX6_isStrong_23 : decode cX6_isStrong 23 = .ok (.if_icmp .ge 79, 3) := by decide +kernel
theorem dX6_isStrong_26 : decode cX6_isStrong 26 = .ok (.aload_n 0, 1) := by decide +kernel
theorem dX6_isStrong_27 : decode cX6_isStrong 27 = .ok (.getfield 11, 3) := by decide +kernel
theorem dX6_isStrong_30 : decode cX6_isStrong 30 = .ok (.iload 5, 2) := by decide +kernel
theorem dX6_isStrong_32 : decode cX6_isStrong 32 = .ok (.iaload, 1) := by decide +kernel
theorem dX6_isStrong_33 : decode cX6_isStrong 33 = .ok (.istore 6, 2) := by decide +kernel
theorem dX6_isStrong_35 : decode cX6_isStrong 35 = .ok (.iload_n 1, 1) := by decide +kernel
theorem dX6_isStrong_36 : decode cX6_isStrong 36 = .ok (.invokestatic 33, 3) := by decide +kernel
theorem dX6_isStrong_39 : decode cX6_isStrong 39 = .ok (.iload 6, 2) := by decide +kernel
theorem dX6_isStrong_41 : decode cX6_isStrong 41 = .ok (.ixor, 1) := by decide +kernel
theorem dX6_isStrong_42 : decode cX6_isStrong 42 = .ok (.istore 7, 2) := by decide +kernel
theorem dX6_isStrong_44 : decode cX6_isStrong 44 = .ok (.iload 6, 2) := by decide +kernel
theorem dX6_isStrong_46 : decode cX6_isStrong 46 = .ok (.iload_n 3, 1) := by decide +kernel
theorem dX6_isStrong_47 : decode cX6_isStrong 47 = .ok (.invokestatic 36, 3) := by decide +kernel
theorem dX6_isStrong_50 : decode cX6_isStrong 50 = .ok (.ifCond .ne 32, 3) := by decide +kernel
theorem dX6_isStrong_53 : decode cX6_isStrong 53 = .ok (.iload 6, 2) := by decide +kernel
theorem dX6_isStrong_55 : decode cX6_isStrong 55 = .ok (.iload 4, 2) := by decide +kernel
theorem dX6_isStrong_57 : decode cX6_isStrong 57 = .ok (.invokestatic 36, 3) := by decide +kernel
theorem dX6_isStrong_60 : decode cX6_isStrong 60 = .ok (.ifCond .ne 22, 3) := by decide +kernel
theorem dX6_isStrong_63 : decode cX6_isStrong 63 = .ok (.iload 7, 2) := by decide +kernel
theorem dX6_isStrong_65 : decode cX6_isStrong 65 = .ok (.iload_n 3, 1) := by decide +kernel
theorem dX6_isStrong_66 : decode cX6_isStrong 66 = .ok (.invokestatic 36, 3) := by decide +kernel
theorem dX6_isStrong_69 : decode cX6_isStrong 69 = .ok (.ifCond .ne 13, 3) := by decide +kernel
theorem dX6_isStrong_72 : decode cX6_isStrong 72 = .ok (.iload 7, 2) := by decide +kernel
theorem dX6_isStrong_74 : decode cX6_isStrong 74 = .ok (.iload 4, 2) := by decide +kernel
theorem dX6_isStrong_76 : decode cX6_isStrong 76 = .ok (.invokestatic 36, 3) := by decide +kernel
theorem dX6_isStrong_79 : decode cX6_isStrong 79 = .ok (.ifCond .eq 7, 3) := by decide +kernel
theorem dX6_isStrong_82 : decode cX6_isStrong 82 = .ok (.iconst 1, 1) := by decide +kernel
theorem dX6_isStrong_83 : decode cX6_isStrong 83 = .ok (.goto 4, 3) := by decide +kernel
theorem dX6_isStrong_86 : decode cX6_isStrong 86 = .ok (.iconst 0, 1) := by decide +kernel
theorem dX6_isStrong_87 : decode cX6_isStrong 87 = .ok (.istore 8, 2) := by decide +kernel
theorem dX6_isStrong_89 : decode cX6_isStrong 89 = .ok (.iload 8, 2) := by decide +kernel
theorem dX6_isStrong_91 : decode cX6_isStrong 91 = .ok (.ifCond .ne 5, 3) := by decide +kernel
theorem dX6_isStrong_94 : decode cX6_isStrong 94 = .ok (.iconst 0, 1) := by decide +kernel
theorem dX6_isStrong_95 : decode cX6_isStrong 95 = .ok (.ireturn, 1) := by decide +kernel
theorem dX6_isStrong_96 : decode cX6_isStrong 96 = .ok (.iinc 5 1, 3) := by decide +kernel
theorem dX6_isStrong_99 : decode cX6_isStrong 99 = .ok (.goto (-82), 3) := by decide +kernel
theorem dX6_isStrong_102 : decode cX6_isStrong 102 = .ok (.iconst 1, 1) := by decide +kernel
theorem dX6_isStrong_103 : decode cX6_isStrong 103 = .ok (.ireturn, 1) := by decide +kernel
def fp_X6_isStrong_L17 (v0 : Nat) (v1 : Int32) (v3 : Int32) (v4 : Int32) (M : zM) : Nat → Int32 → Option (Int32)
  | 0, _ => none
  | n + 1, v5 =>
    (zgI 4 M v0 1).bind fun (y4 : Int32) =>
    if v5 ≥ y4 then (
      some 1)
    else (
      (zgR 4 M v0 0).bind fun (y5 : Nat) =>
      (zlI 100 M y5 v5).bind fun (y6 : Int32) =>
      (fp_X2_everyPoint v1).bind fun (y7 : Int32) =>
      lett ((y7 ^^^ y6)) fun (v7_8 : Int32) =>
      (fp_X6_isWithin y6 v3).bind fun (y9 : Int32) =>
      zjn (fun (s10 : Int32) =>
          if s10 ≠ 0 then (
            fp_X6_isStrong_L17 v0 v1 v3 v4 M n (v5 + 1))
          else (
            some 0))
        (fun j87 =>
          zjn (
              j87 1)
            (fun j82 =>
              if y9 ≠ 0 then (
                j82)
              else (
                (fp_X6_isWithin y6 v4).bind fun (y11 : Int32) =>
                if y11 ≠ 0 then (
                  j82)
                else (
                  (fp_X6_isWithin v7_8 v3).bind fun (y12 : Int32) =>
                  if y12 ≠ 0 then (
                    j82)
                  else (
                    (fp_X6_isWithin v7_8 v4).bind fun (y13 : Int32) =>
                    if y13 = 0 then (
                      j87 0)
                    else (
                      j82)))))))
def fp_X6_isStrong (v0 : Nat) (v1 : Int32) (v2 : Int32) (M : zM) : Option (Int32) :=
  zthis 4 M v0 (
    (fp_X6_setAt v0 v2 M).bind fun (y1 : Int32) =>
    (fp_X2_everyPoint v1).bind fun (y2 : Int32) =>
    lett ((y2 ^^^ y1)) fun (v4_3 : Int32) =>
    fp_X6_isStrong_L17 v0 v1 y1 v4_3 M FU 0)
set_option maxHeartbeats 4000000 in
set_option maxRecDepth 100000 in
theorem th_X6_isStrong {v0 : Nat} {v1 : Int32} {v2 : Int32} {M : zM} {x0 : Int32} (h : fp_X6_isStrong v0 v1 v2 M = some x0) : v0 < zS M ∧ kd v0 = 4 := by
  unfold fp_X6_isStrong at h
  exact zthis_of h
set_option maxHeartbeats 4000000 in
set_option maxRecDepth 100000 in
theorem w_X6_isStrong_L17 (E : zEnv) (hE : zEok E) (d : Nat) (hd : 2 ≤ d) (x0 : Int32) (v0 : Nat) (v1 : Int32) (v3 : Int32) (v4 : Int32) (M : zM)  : ∀ (n : Nat) (v5 : Int32), zSy E mu_X6_isStrong d M (some (.int x0), M) x0 (fp_X6_isStrong_L17 v0 v1 v3 v4 M n v5) 17 [(0, .ref (E.2.2.2.1 + v0)), (1, .int v1), (3, .int v3), (4, .int v4), (5, .int v5)] [] M := by
  intro n
  induction n with
  | zero =>
    intro v5
    rw [fp_X6_isStrong_L17]
    exact zs_none
  | succ n ih =>
    intro v5
    rw [fp_X6_isStrong_L17]
    refine zs_iload dX6_isStrong_17 4 rfl ?_
    refine zs_aload_n dX6_isStrong_19 rfl 0 rfl ?_
    refine zs_getI dX6_isStrong_20 fl_X6_15 rfl (fun y4 => ?_)
    refine zs_icmp_ge dX6_isStrong_23 rfl ?_ ?_
    · refine zs_iconst (v := 1) dX6_isStrong_102 ciconst_1 ?_
      exact zs_iretP dX6_isStrong_103 rfl
    refine zs_aload_n dX6_isStrong_26 rfl 0 rfl ?_
    refine zs_getR dX6_isStrong_27 fl_X6_11 rfl (fun y5 => ?_)
    refine zs_iload dX6_isStrong_30 4 rfl ?_
    refine zs_ldI dX6_isStrong_32 (fun y6 => ?_)
    refine zs_istore (loc' := [(0, .ref (E.2.2.2.1 + v0)), (1, .int v1), (3, .int v3), (4, .int v4), (5, .int v5), (6, .int y6)]) dX6_isStrong_33 (Nat.le_of_ble_eq_true rfl) [1, 2, 3, 4, 5, 0] rfl ?_
    refine zs_iload_n dX6_isStrong_35 rfl 1 rfl ?_
    refine zs_invSPI (rest := []) [.int v1] dX6_isStrong_36 lk_X6_33 rfl (zd1 rfl hd) rfl (Nat.le_of_ble_eq_true rfl) (ct_X2_everyPoint E hE _ (zdl rfl hd) _ _) (fun y7 => ?_)
    refine zs_iload dX6_isStrong_39 5 rfl ?_
    refine zs_ixor dX6_isStrong_41 ?_
    refine zs_istoreL (loc' := fun v7_8 => [(0, .ref (E.2.2.2.1 + v0)), (1, .int v1), (3, .int v3), (4, .int v4), (5, .int v5), (6, .int y6), (7, .int v7_8)]) dX6_isStrong_42 (Nat.le_of_ble_eq_true rfl) [1, 2, 3, 4, 5, 6, 0] (fun _ => rfl) (fun v7_8 => ?_)
    refine zs_iload dX6_isStrong_44 5 rfl ?_
    refine zs_iload_n dX6_isStrong_46 rfl 2 rfl ?_
    refine zs_invSPI (rest := []) [.int y6, .int v3] dX6_isStrong_47 lk_X6_36 rfl (zd1 rfl hd) rfl (Nat.le_of_ble_eq_true rfl) (ct_X6_isWithin E hE _ (zdl rfl hd) _ _ _) (fun y9 => ?_)
    refine zs_jn (fun j87 => ∀ (s10 : Int32), zSy E mu_X6_isStrong d M (some (.int x0), M) x0 (j87 s10) 87 [(0, .ref (E.2.2.2.1 + v0)), (1, .int v1), (3, .int v3), (4, .int v4), (5, .int v5)] [.int s10] M) (fun s10 => ?_) (fun j87 hj87 => ?_)
    · refine zs_istore (loc' := [(0, .ref (E.2.2.2.1 + v0)), (1, .int v1), (3, .int v3), (4, .int v4), (5, .int v5), (8, .int s10)]) dX6_isStrong_87 (Nat.le_of_ble_eq_true rfl) [1, 2, 3, 4, 5, 0] rfl ?_
      refine zs_iload dX6_isStrong_89 5 rfl ?_
      refine zs_if_ne dX6_isStrong_91 rfl ?_ ?_
      · refine zs_iinc (v := (v5 + 1)) (loc' := [(0, .ref (E.2.2.2.1 + v0)), (1, .int v1), (3, .int v3), (4, .int v4), (5, .int (v5 + 1))]) dX6_isStrong_96 4 rfl (by rfl) (Nat.le_of_ble_eq_true rfl) [1, 2, 3, 4, 0] rfl ?_
        refine zs_goto dX6_isStrong_99 rfl ?_
        exact ih (v5 + 1)
      refine zs_iconst (v := 0) dX6_isStrong_94 ciconst_0 ?_
      exact zs_iretP dX6_isStrong_95 rfl
    refine zs_jn (fun j82 => zSy E mu_X6_isStrong d M (some (.int x0), M) x0 (j82) 82 [(0, .ref (E.2.2.2.1 + v0)), (1, .int v1), (3, .int v3), (4, .int v4), (5, .int v5)] [] M) ?_ (fun j82 hj82 => ?_)
    · refine zs_iconst (v := 1) dX6_isStrong_82 ciconst_1 ?_
      refine zs_goto dX6_isStrong_83 rfl ?_
      exact hj87 1
    refine zs_if_ne dX6_isStrong_50 rfl ?_ ?_
    · refine zs_sub (loc' := [(0, .ref (E.2.2.2.1 + v0)), (1, .int v1), (3, .int v3), (4, .int v4), (5, .int v5)]) [0, 1, 2, 3, 4] rfl ?_
      exact hj82
    refine zs_iload dX6_isStrong_53 5 rfl ?_
    refine zs_iload dX6_isStrong_55 3 rfl ?_
    refine zs_invSPI (rest := []) [.int y6, .int v4] dX6_isStrong_57 lk_X6_36 rfl (zd1 rfl hd) rfl (Nat.le_of_ble_eq_true rfl) (ct_X6_isWithin E hE _ (zdl rfl hd) _ _ _) (fun y11 => ?_)
    refine zs_if_ne dX6_isStrong_60 rfl ?_ ?_
    · refine zs_sub (loc' := [(0, .ref (E.2.2.2.1 + v0)), (1, .int v1), (3, .int v3), (4, .int v4), (5, .int v5)]) [0, 1, 2, 3, 4] rfl ?_
      exact hj82
    refine zs_iload dX6_isStrong_63 6 rfl ?_
    refine zs_iload_n dX6_isStrong_65 rfl 2 rfl ?_
    refine zs_invSPI (rest := []) [.int v7_8, .int v3] dX6_isStrong_66 lk_X6_36 rfl (zd1 rfl hd) rfl (Nat.le_of_ble_eq_true rfl) (ct_X6_isWithin E hE _ (zdl rfl hd) _ _ _) (fun y12 => ?_)
    refine zs_if_ne dX6_isStrong_69 rfl ?_ ?_
    · refine zs_sub (loc' := [(0, .ref (E.2.2.2.1 + v0)), (1, .int v1), (3, .int v3), (4, .int v4), (5, .int v5)]) [0, 1, 2, 3, 4] rfl ?_
      exact hj82
    refine zs_iload dX6_isStrong_72 6 rfl ?_
    refine zs_iload dX6_isStrong_74 3 rfl ?_
    refine zs_invSPI (rest := []) [.int v7_8, .int v4] dX6_isStrong_76 lk_X6_36 rfl (zd1 rfl hd) rfl (Nat.le_of_ble_eq_true rfl) (ct_X6_isWithin E hE _ (zdl rfl hd) _ _ _) (fun y13 => ?_)
    refine zs_if_eq dX6_isStrong_79 rfl ?_ ?_
    · refine zs_iconst (v := 0) dX6_isStrong_86 ciconst_0 ?_
      refine zs_sub (loc' := [(0, .ref (E.2.2.2.1 + v0)), (1, .int v1), (3, .int v3), (4, .int v4), (5, .int v5)]) [0, 1, 2, 3, 4] rfl ?_
      exact hj87 0
    refine zs_sub (loc' := [(0, .ref (E.2.2.2.1 + v0)), (1, .int v1), (3, .int v3), (4, .int v4), (5, .int v5)]) [0, 1, 2, 3, 4] rfl ?_
    exact hj82
set_option maxHeartbeats 4000000 in
set_option maxRecDepth 100000 in
theorem ct_X6_isStrong (E : zEnv) (hE : zEok E) (d : Nat) (hd : 2 ≤ d) (v0 : Nat) (v1 : Int32) (v2 : Int32) (M : zM) (x0 : Int32) (hx : fp_X6_isStrong v0 v1 v2 M = some x0) : zCt E mu_X6_isStrong d [.ref (E.2.2.2.1 + v0), .int v1, .int v2] M (some (.int x0), M) := by
  refine zCt_of (μ := mu_X6_isStrong) (t := fp_X6_isStrong v0 v1 v2 M) rfl rfl (Nat.le_of_ble_eq_true rfl) hx ?_
  change zSy E mu_X6_isStrong d M (some (.int x0), M) x0 (fp_X6_isStrong v0 v1 v2 M) 0 [(0, .ref (E.2.2.2.1 + v0)), (1, .int v1), (2, .int v2)] [] M
  unfold fp_X6_isStrong
  refine zs_this (fun hth => ?_)
  refine zs_aload_n dX6_isStrong_0 rfl 0 rfl ?_
  refine zs_iload_n dX6_isStrong_1 rfl 2 rfl ?_
  refine zs_invVPI (rest := []) [.int v2] dX6_isStrong_2 lk_X6_29 rfl (fun _ h => th_X6_setAt h) (zd1 rfl hd) rfl (Nat.le_of_ble_eq_true rfl) (ct_X6_setAt E hE _ (zdl rfl hd) _ _ _) (fun y1 => ?_)
  refine zs_istore_n (loc' := [(0, .ref (E.2.2.2.1 + v0)), (1, .int v1), (3, .int y1)]) dX6_isStrong_5 rfl (Nat.le_of_ble_eq_true rfl) [1, 2, 0] rfl ?_
  refine zs_iload_n dX6_isStrong_6 rfl 1 rfl ?_
  refine zs_invSPI (rest := []) [.int v1] dX6_isStrong_7 lk_X6_33 rfl (zd1 rfl hd) rfl (Nat.le_of_ble_eq_true rfl) (ct_X2_everyPoint E hE _ (zdl rfl hd) _ _) (fun y2 => ?_)
  refine zs_iload_n dX6_isStrong_10 rfl 2 rfl ?_
  refine zs_ixor dX6_isStrong_11 ?_
  refine zs_istoreL (loc' := fun v4_3 => [(0, .ref (E.2.2.2.1 + v0)), (1, .int v1), (3, .int y1), (4, .int v4_3)]) dX6_isStrong_12 (Nat.le_of_ble_eq_true rfl) [1, 2, 3, 0] (fun _ => rfl) (fun v4_3 => ?_)
  refine zs_iconst (v := 0) dX6_isStrong_14 ciconst_0 ?_
  refine zs_istore (loc' := [(0, .ref (E.2.2.2.1 + v0)), (1, .int v1), (3, .int y1), (4, .int v4_3), (5, .int 0)]) dX6_isStrong_15 (Nat.le_of_ble_eq_true rfl) [1, 2, 3, 4, 0] rfl ?_
  exact w_X6_isStrong_L17 E hE d hd _ _ _ _ _ _ _ _
theorem dX6_strongOnes_0 : decode cX6_strongOnes 0 = .ok (.iconst 0, 1) := by decide +kernel
theorem dX6_strongOnes_1 : decode cX6_strongOnes 1 = .ok (.istore_n 2, 1) := by decide +kernel
theorem dX6_strongOnes_2 : decode cX6_strongOnes 2 = .ok (.iconst 0, 1) := by decide +kernel
theorem dX6_strongOnes_3 : decode cX6_strongOnes 3 = .ok (.istore_n 3, 1) := by decide +kernel
theorem dX6_strongOnes_4 : decode cX6_strongOnes 4 = .ok (.iload_n 3, 1) := by decide +kernel
theorem dX6_strongOnes_5 : decode cX6_strongOnes 5 = .ok (.aload_n 0, 1) := by decide +kernel
theorem dX6_strongOnes_6 : decode cX6_strongOnes 6 = .ok (.getfield 15, 3) := by decide +kernel
theorem dX6_strongOnes_9 : decode cX6_strongOnes 9 = .ok (.if_icmp .ge 21, 3) := by decide +kernel
theorem dX6_strongOnes_12 : decode cX6_strongOnes 12 = .ok (.aload_n 0, 1) := by decide +kernel
theorem dX6_strongOnes_13 : decode cX6_strongOnes 13 = .ok (.iload_n 1, 1) := by decide +kernel
theorem dX6_strongOnes_14 : decode cX6_strongOnes 14 = .ok (.iload_n 3, 1) := by decide +kernel
theorem dX6_strongOnes_15 : decode cX6_strongOnes 15 = .ok (.invokevirtual 39, 3) := by decide +kernel
theorem dX6_strongOnes_18 : decode cX6_strongOnes 18 = .ok (.ifCond .eq 6, 3) := by decide +kernel
theorem dX6_strongOnes_21 : decode cX6_strongOnes 21 = .ok (.iinc 2 1, 3) := by decide +kernel
theorem dX6_strongOnes_24 : decode cX6_strongOnes 24 = .ok (.iinc 3 1, 3) := by decide +kernel
theorem dX6_strongOnes_27 : decode cX6_strongOnes 27 = .ok (.goto (-23), 3) := by decide +kernel
theorem dX6_strongOnes_30 : decode cX6_strongOnes 30 = .ok (.iload_n 2, 1) := by decide +kernel
theorem dX6_strongOnes_31 : decode cX6_strongOnes 31 = .ok (.ireturn, 1) := by decide +kernel
def fp_X6_strongOnes_L4 (v0 : Nat) (v1 : Int32) (M : zM) : Nat → Int32 → Int32 → Option (Int32)
  | 0, _, _ => none
  | n + 1, v2, v3 =>
    (zgI 4 M v0 1).bind fun (y1 : Int32) =>
    if v3 ≥ y1 then (
      some v2)
    else (
      (fp_X6_isStrong v0 v1 v3 M).bind fun (y2 : Int32) =>
      zjn (fun (v2_3 : Int32) =>
          fp_X6_strongOnes_L4 v0 v1 M n v2_3 (v3 + 1))
        (fun j24 =>
          if y2 = 0 then (
            j24 v2)
          else (
            j24 (v2 + 1))))
def fp_X6_strongOnes (v0 : Nat) (v1 : Int32) (M : zM) : Option (Int32) :=
  zthis 4 M v0 (
    fp_X6_strongOnes_L4 v0 v1 M FU 0 0)
set_option maxHeartbeats 4000000 in
set_option maxRecDepth 100000 in
theorem th_X6_strongOnes {v0 : Nat} {v1 : Int32} {M : zM} {x0 : Int32} (h : fp_X6_strongOnes v0 v1 M = some x0) : v0 < zS M ∧ kd v0 = 4 := by
  unfold fp_X6_strongOnes at h
  exact zthis_of h
set_option maxHeartbeats 4000000 in
set_option maxRecDepth 100000 in
theorem w_X6_strongOnes_L4 (E : zEnv) (hE : zEok E) (d : Nat) (hd : 3 ≤ d) (x0 : Int32) (v0 : Nat) (v1 : Int32) (M : zM)  : ∀ (n : Nat) (v2 : Int32) (v3 : Int32), zSy E mu_X6_strongOnes d M (some (.int x0), M) x0 (fp_X6_strongOnes_L4 v0 v1 M n v2 v3) 4 [(0, .ref (E.2.2.2.1 + v0)), (1, .int v1), (2, .int v2), (3, .int v3)] [] M := by
  intro n
  induction n with
  | zero =>
    intro v2 v3
    rw [fp_X6_strongOnes_L4]
    exact zs_none
  | succ n ih =>
    intro v2 v3
    rw [fp_X6_strongOnes_L4]
    refine zs_iload_n dX6_strongOnes_4 rfl 3 rfl ?_
    refine zs_aload_n dX6_strongOnes_5 rfl 0 rfl ?_
    refine zs_getI dX6_strongOnes_6 fl_X6_15 rfl (fun y1 => ?_)
    refine zs_icmp_ge dX6_strongOnes_9 rfl ?_ ?_
    · refine zs_iload_n dX6_strongOnes_30 rfl 2 rfl ?_
      exact zs_iretP dX6_strongOnes_31 rfl
    refine zs_aload_n dX6_strongOnes_12 rfl 0 rfl ?_
    refine zs_iload_n dX6_strongOnes_13 rfl 1 rfl ?_
    refine zs_iload_n dX6_strongOnes_14 rfl 3 rfl ?_
    refine zs_invVPI (rest := []) [.int v1, .int v3] dX6_strongOnes_15 lk_X6_39 rfl (fun _ h => th_X6_isStrong h) (zd1 rfl hd) rfl (Nat.le_of_ble_eq_true rfl) (ct_X6_isStrong E hE _ (zdl rfl hd) _ _ _ _) (fun y2 => ?_)
    refine zs_jn (fun j24 => ∀ (v2_3 : Int32), zSy E mu_X6_strongOnes d M (some (.int x0), M) x0 (j24 v2_3) 24 [(0, .ref (E.2.2.2.1 + v0)), (1, .int v1), (2, .int v2_3), (3, .int v3)] [] M) (fun v2_3 => ?_) (fun j24 hj24 => ?_)
    · refine zs_iinc (v := (v3 + 1)) (loc' := [(0, .ref (E.2.2.2.1 + v0)), (1, .int v1), (2, .int v2_3), (3, .int (v3 + 1))]) dX6_strongOnes_24 3 rfl (by rfl) (Nat.le_of_ble_eq_true rfl) [1, 2, 3, 0] rfl ?_
      refine zs_goto dX6_strongOnes_27 rfl ?_
      exact ih v2_3 (v3 + 1)
    refine zs_if_eq dX6_strongOnes_18 rfl ?_ ?_
    · exact hj24 v2
    refine zs_iinc (v := (v2 + 1)) (loc' := [(0, .ref (E.2.2.2.1 + v0)), (1, .int v1), (2, .int (v2 + 1)), (3, .int v3)]) dX6_strongOnes_21 2 rfl (by rfl) (Nat.le_of_ble_eq_true rfl) [1, 2, 0, 3] rfl ?_
    exact hj24 (v2 + 1)
set_option maxHeartbeats 4000000 in
set_option maxRecDepth 100000 in
theorem ct_X6_strongOnes (E : zEnv) (hE : zEok E) (d : Nat) (hd : 3 ≤ d) (v0 : Nat) (v1 : Int32) (M : zM) (x0 : Int32) (hx : fp_X6_strongOnes v0 v1 M = some x0) : zCt E mu_X6_strongOnes d [.ref (E.2.2.2.1 + v0), .int v1] M (some (.int x0), M) := by
  refine zCt_of (μ := mu_X6_strongOnes) (t := fp_X6_strongOnes v0 v1 M) rfl rfl (Nat.le_of_ble_eq_true rfl) hx ?_
  change zSy E mu_X6_strongOnes d M (some (.int x0), M) x0 (fp_X6_strongOnes v0 v1 M) 0 [(0, .ref (E.2.2.2.1 + v0)), (1, .int v1)] [] M
  unfold fp_X6_strongOnes
  refine zs_this (fun hth => ?_)
  refine zs_iconst (v := 0) dX6_strongOnes_0 ciconst_0 ?_
  refine zs_istore_n (loc' := [(0, .ref (E.2.2.2.1 + v0)), (1, .int v1), (2, .int 0)]) dX6_strongOnes_1 rfl (Nat.le_of_ble_eq_true rfl) [1, 2, 0] rfl ?_
  refine zs_iconst (v := 0) dX6_strongOnes_2 ciconst_0 ?_
  refine zs_istore_n (loc' := [(0, .ref (E.2.2.2.1 + v0)), (1, .int v1), (2, .int 0), (3, .int 0)]) dX6_strongOnes_3 rfl (Nat.le_of_ble_eq_true rfl) [1, 2, 3, 0] rfl ?_
  exact w_X6_strongOnes_L4 E hE d hd _ _ _ _ _ _ _
theorem dX7_init_0 : decode cX7_init 0 = .ok (.aload_n 0, 1) := by decide +kernel
theorem dX7_init_1 : decode cX7_init 1 = .ok (.invokespecial 3, 3) := by decide +kernel
theorem dX7_init_4 : decode cX7_init 4 = .ok (.aload_n 0, 1) := by decide +kernel
theorem dX7_init_5 : decode cX7_init 5 = .ok (.sipush 200, 3) := by decide +kernel
theorem dX7_init_8 : decode cX7_init 8 = .ok (.newarray .int, 2) := by decide +kernel
theorem dX7_init_10 : decode cX7_init 10 = .ok (.putfield 9, 3) := by decide +kernel
theorem dX7_init_13 : decode cX7_init 13 = .ok (.return_, 1) := by decide +kernel
def fp_X7_init (v0 : Nat) (M : zM) : Option (zM) :=
  zthis 5 M v0 (
    (zna 100 M 200).bind fun p3 => zpp p3 fun (q1 : Nat) (M2 : zM) =>
    (zpR 5 M2 v0 0 q1).bind fun (M4 : zM) =>
    some M4)
set_option maxHeartbeats 4000000 in
set_option maxRecDepth 100000 in
theorem th_X7_init {v0 : Nat} {M : zM} {x0 : zM} (h : fp_X7_init v0 M = some x0) : v0 < zS M ∧ kd v0 = 5 := by
  unfold fp_X7_init at h
  exact zthis_of h
set_option maxHeartbeats 4000000 in
set_option maxRecDepth 100000 in
theorem ct_X7_init (E : zEnv) (hE : zEok E) (d : Nat) (hd : 2 ≤ d) (v0 : Nat) (M : zM) (x0 : zM) (hx : fp_X7_init v0 M = some x0) : zCt E mu_X7_init d [.ref (E.2.2.2.1 + v0)] M (none, x0) := by
  refine zCt_of (μ := mu_X7_init) (t := fp_X7_init v0 M) rfl rfl (Nat.le_of_ble_eq_true rfl) hx ?_
  change zSy E mu_X7_init d M (none, x0) x0 (fp_X7_init v0 M) 0 [(0, .ref (E.2.2.2.1 + v0))] [] M
  unfold fp_X7_init
  refine zs_this (fun hth => ?_)
  refine zs_aload_n dX7_init_0 rfl 0 rfl ?_
  refine zs_objInit dX7_init_1 (ti_1 34 rfl rfl) mi_oinit mc_oinit (zd0 rfl hd) (Nat.le_of_ble_eq_true rfl) ?_
  refine zs_aload_n dX7_init_4 rfl 0 rfl ?_
  refine zs_sipush (v := 200) dX7_init_5 csipush_200 ?_
  refine zs_newA dX7_init_8 rfl (by decide) (ti_1 44 rfl rfl) (fun q1 M2 => ?_)
  refine zs_putRF dX7_init_10 fl_X7_9 ft_X7 rfl rfl rfl rfl rfl rfl rfl (fun M4 => ?_)
  exact zs_vret dX7_init_13 trivial
theorem dX7_take_0 : decode cX7_take 0 = .ok (.bipush 24, 2) := by decide +kernel
theorem dX7_take_2 : decode cX7_take 2 = .ok (.istore_n 2, 1) := by decide +kernel
theorem dX7_take_3 : decode cX7_take 3 = .ok (.iload_n 2, 1) := by decide +kernel
theorem dX7_take_4 : decode cX7_take 4 = .ok (.ifCond .lt 47, 3) := by decide +kernel
theorem dX7_take_7 : decode cX7_take 7 = .ok (.aload_n 0, 1) := by decide +kernel
theorem dX7_take_8 : decode cX7_take 8 = .ok (.getfield 15, 3) := by decide +kernel
theorem dX7_take_11 : decode cX7_take 11 = .ok (.aload_n 0, 1) := by decide +kernel
theorem dX7_take_12 : decode cX7_take 12 = .ok (.getfield 9, 3) := by decide +kernel
theorem dX7_take_15 : decode cX7_take 15 = .ok (.arraylength, 1) := by decide +kernel
theorem dX7_take_16 : decode cX7_take 16 = .ok (.if_icmp .ge 35, 3) := by decide +kernel
theorem dX7_take_19 : decode cX7_take 19 = .ok (.aload_n 0, 1) := by decide +kernel
theorem dX7_take_20 : decode cX7_take 20 = .ok (.getfield 9, 3) := by decide +kernel
theorem dX7_take_23 : decode cX7_take 23 = .ok (.aload_n 0, 1) := by decide +kernel
theorem dX7_take_24 : decode cX7_take 24 = .ok (.getfield 15, 3) := by decide +kernel
theorem dX7_take_27 : decode cX7_take 27 = .ok (.iload_n 1, 1) := by decide +kernel
theorem dX7_take_28 : decode cX7_take 28 = .ok (.iload_n 2, 1) := by decide +kernel
theorem dX7_take_29 : decode cX7_take 29 = .ok (.ishr, 1) := by decide +kernel
theorem dX7_take_30 : decode cX7_take 30 = .ok (.sipush 255, 3) := by decide +kernel
theorem dX7_take_33 : decode cX7_take 33 = .ok (.iand, 1) := by decide +kernel
theorem dX7_take_34 : decode cX7_take 34 = .ok (.iastore, 1) := by decide +kernel
theorem dX7_take_35 : decode cX7_take 35 = .ok (.aload_n 0, 1) := by decide +kernel
theorem dX7_take_36 : decode cX7_take 36 = .ok (.dup, 1) := by decide +kernel
theorem dX7_take_37 : decode cX7_take 37 = .ok (.getfield 15, 3) := by decide +kernel
theorem dX7_take_40 : decode cX7_take 40 = .ok (.iconst 1, 1) := by decide +kernel
theorem dX7_take_41 : decode cX7_take 41 = .ok (.iadd, 1) := by decide +kernel
theorem dX7_take_42 : decode cX7_take 42 = .ok (.putfield 15, 3) := by decide +kernel
theorem dX7_take_45 : decode cX7_take 45 = .ok (.iinc 2 (-8), 3) := by decide +kernel
theorem dX7_take_48 : decode cX7_take 48 = .ok (.goto (-45), 3) := by decide +kernel
theorem dX7_take_51 : decode cX7_take 51 = .ok (.return_, 1) := by decide +kernel
def fp_X7_take_L3 (v0 : Nat) (v1 : Int32) : Nat → Int32 → zM → Option (zM)
  | 0, _, _ => none
  | n + 1, v2, M =>
    if v2 < 0 then (
      some M)
    else (
      (zgI 5 M v0 1).bind fun (y1 : Int32) =>
      (zgR 5 M v0 0).bind fun (y2 : Nat) =>
      (zln M y2).bind fun (y3 : Int32) =>
      if y1 ≥ y3 then (
        some M)
      else (
        (zgR 5 M v0 0).bind fun (y4 : Nat) =>
        (zgI 5 M v0 1).bind fun (y5 : Int32) =>
        (ztI M y4 y5 ((v1 >>> (v2 &&& 31)) &&& 255)).bind fun (M6 : zM) =>
        (zgI 5 M6 v0 1).bind fun (y7 : Int32) =>
        (zpI 5 M6 v0 1 (y7 + 1)).bind fun (M8 : zM) =>
        fp_X7_take_L3 v0 v1 n (v2 + (-8)) M8))
def fp_X7_take (v0 : Nat) (v1 : Int32) (M : zM) : Option (zM) :=
  zthis 5 M v0 (
    fp_X7_take_L3 v0 v1 FU 24 M)
set_option maxHeartbeats 4000000 in
set_option maxRecDepth 100000 in
theorem th_X7_take {v0 : Nat} {v1 : Int32} {M : zM} {x0 : zM} (h : fp_X7_take v0 v1 M = some x0) : v0 < zS M ∧ kd v0 = 5 := by
  unfold fp_X7_take at h
  exact zthis_of h
set_option maxHeartbeats 4000000 in
set_option maxRecDepth 100000 in
theorem w_X7_take_L3 (E : zEnv) (hE : zEok E) (d : Nat) (hd : 1 ≤ d) (M0 : zM) (x0 : zM) (v0 : Nat) (v1 : Int32)  : ∀ (n : Nat) (v2 : Int32) (M : zM), zSy E mu_X7_take d M0 (none, x0) x0 (fp_X7_take_L3 v0 v1 n v2 M) 3 [(0, .ref (E.2.2.2.1 + v0)), (1, .int v1), (2, .int v2)] [] M := by
  intro n
  induction n with
  | zero =>
    intro v2 M
    rw [fp_X7_take_L3]
    exact zs_none
  | succ n ih =>
    intro v2 M
    rw [fp_X7_take_L3]
    refine zs_iload_n dX7_take_3 rfl 2 rfl ?_
    refine zs_if_lt dX7_take_4 rfl ?_ ?_
    · exact zs_vret dX7_take_51 trivial
    refine zs_aload_n dX7_take_7 rfl 0 rfl ?_
    refine zs_getI dX7_take_8 fl_X7_15 rfl (fun y1 => ?_)
    refine zs_aload_n dX7_take_11 rfl 0 rfl ?_
    refine zs_getR dX7_take_12 fl_X7_9 rfl (fun y2 => ?_)
    refine zs_alen dX7_take_15 (fun y3 => ?_)
    refine zs_icmp_ge dX7_take_16 rfl ?_ ?_
    · exact zs_vret dX7_take_51 trivial
    refine zs_aload_n dX7_take_19 rfl 0 rfl ?_
    refine zs_getR dX7_take_20 fl_X7_9 rfl (fun y4 => ?_)
    refine zs_aload_n dX7_take_23 rfl 0 rfl ?_
    refine zs_getI dX7_take_24 fl_X7_15 rfl (fun y5 => ?_)
    refine zs_iload_n dX7_take_27 rfl 1 rfl ?_
    refine zs_iload_n dX7_take_28 rfl 2 rfl ?_
    refine zs_ishr dX7_take_29 ?_
    refine zs_sipush (v := 255) dX7_take_30 csipush_255 ?_
    refine zs_iand dX7_take_33 ?_
    refine zs_stI dX7_take_34 (fun M6 => ?_)
    refine zs_aload_n dX7_take_35 rfl 0 rfl ?_
    refine zs_dup dX7_take_36 rfl ?_
    refine zs_getI dX7_take_37 fl_X7_15 rfl (fun y7 => ?_)
    refine zs_iconst (v := 1) dX7_take_40 ciconst_1 ?_
    refine zs_iadd dX7_take_41 ?_
    refine zs_putI dX7_take_42 fl_X7_15 ft_X7 rfl rfl rfl rfl rfl (fun M8 => ?_)
    refine zs_iinc (v := (v2 + (-8))) (loc' := [(0, .ref (E.2.2.2.1 + v0)), (1, .int v1), (2, .int (v2 + (-8)))]) dX7_take_45 2 rfl (by rfl) (Nat.le_of_ble_eq_true rfl) [1, 2, 0] rfl ?_
    refine zs_goto dX7_take_48 rfl ?_
    exact ih (v2 + (-8)) M8
set_option maxHeartbeats 4000000 in
set_option maxRecDepth 100000 in
theorem ct_X7_take (E : zEnv) (hE : zEok E) (d : Nat) (hd : 1 ≤ d) (v0 : Nat) (v1 : Int32) (M : zM) (x0 : zM) (hx : fp_X7_take v0 v1 M = some x0) : zCt E mu_X7_take d [.ref (E.2.2.2.1 + v0), .int v1] M (none, x0) := by
  refine zCt_of (μ := mu_X7_take) (t := fp_X7_take v0 v1 M) rfl rfl (Nat.le_of_ble_eq_true rfl) hx ?_
  change zSy E mu_X7_take d M (none, x0) x0 (fp_X7_take v0 v1 M) 0 [(0, .ref (E.2.2.2.1 + v0)), (1, .int v1)] [] M
  unfold fp_X7_take
  refine zs_this (fun hth => ?_)
  refine zs_bipush (v := 24) dX7_take_0 cbipush_24 ?_
  refine zs_istore_n (loc' := [(0, .ref (E.2.2.2.1 + v0)), (1, .int v1), (2, .int 24)]) dX7_take_2 rfl (Nat.le_of_ble_eq_true rfl) [1, 2, 0] rfl ?_
  exact w_X7_take_L3 E hE d hd _ _ _ _ _ _ _
theorem dX7_holds_0 : decode cX7_holds 0 = .ok (.iload_n 1, 1) := by decide +kernel
theorem dX7_holds_1 : decode cX7_holds 1 = .ok (.ifCond .lt 15, 3) := by decide +kernel
theorem dX7_holds_4 : decode cX7_holds 4 = .ok (.iload_n 1, 1) := by decide +kernel
theorem dX7_holds_5 : decode cX7_holds 5 = .ok (.aload_n 0, 1) := by decide +kernel
theorem dX7_holds_6 : decode cX7_holds 6 = .ok (.getfield 15, 3) := by decide +kernel
theorem dX7_holds_9 : decode cX7_holds 9 = .ok (.if_icmp .gt 7, 3) := by decide +kernel
theorem dX7_holds_12 : decode cX7_holds 12 = .ok (.iconst 1, 1) := by decide +kernel
theorem dX7_holds_13 : decode cX7_holds 13 = .ok (.goto 4, 3) := by decide +kernel
theorem dX7_holds_16 : decode cX7_holds 16 = .ok (.iconst 0, 1) := by decide +kernel
theorem dX7_holds_17 : decode cX7_holds 17 = .ok (.ireturn, 1) := by decide +kernel
def fp_X7_holds (v0 : Nat) (v1 : Int32) (M : zM) : Option (Int32) :=
  zthis 5 M v0 (
    if v1 < 0 then (
      some 0)
    else (
      (zgI 5 M v0 1).bind fun (y1 : Int32) =>
      if v1 > y1 then (
        some 0)
      else (
        some 1)))
set_option maxHeartbeats 4000000 in
set_option maxRecDepth 100000 in
theorem th_X7_holds {v0 : Nat} {v1 : Int32} {M : zM} {x0 : Int32} (h : fp_X7_holds v0 v1 M = some x0) : v0 < zS M ∧ kd v0 = 5 := by
  unfold fp_X7_holds at h
  exact zthis_of h
set_option maxHeartbeats 4000000 in
set_option maxRecDepth 100000 in
theorem ct_X7_holds (E : zEnv) (hE : zEok E) (d : Nat) (hd : 1 ≤ d) (v0 : Nat) (v1 : Int32) (M : zM) (x0 : Int32) (hx : fp_X7_holds v0 v1 M = some x0) : zCt E mu_X7_holds d [.ref (E.2.2.2.1 + v0), .int v1] M (some (.int x0), M) := by
  refine zCt_of (μ := mu_X7_holds) (t := fp_X7_holds v0 v1 M) rfl rfl (Nat.le_of_ble_eq_true rfl) hx ?_
  change zSy E mu_X7_holds d M (some (.int x0), M) x0 (fp_X7_holds v0 v1 M) 0 [(0, .ref (E.2.2.2.1 + v0)), (1, .int v1)] [] M
  unfold fp_X7_holds
  refine zs_this (fun hth => ?_)
  refine zs_iload_n dX7_holds_0 rfl 1 rfl ?_
  refine zs_if_lt dX7_holds_1 rfl ?_ ?_
  · refine zs_iconst (v := 0) dX7_holds_16 ciconst_0 ?_
    exact zs_iretP dX7_holds_17 rfl
  refine zs_iload_n dX7_holds_4 rfl 1 rfl ?_
  refine zs_aload_n dX7_holds_5 rfl 0 rfl ?_
  refine zs_getI dX7_holds_6 fl_X7_15 rfl (fun y1 => ?_)
  refine zs_icmp_gt dX7_holds_9 rfl ?_ ?_
  · refine zs_iconst (v := 0) dX7_holds_16 ciconst_0 ?_
    exact zs_iretP dX7_holds_17 rfl
  refine zs_iconst (v := 1) dX7_holds_12 ciconst_1 ?_
  refine zs_goto dX7_holds_13 rfl ?_
  exact zs_iretP dX7_holds_17 rfl

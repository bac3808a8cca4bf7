theorem dX10_ties_0 : decode cX10_ties 0 = .ok (.aload_n 0, 1) := by decide +kernel
theorem dX10_ties_1 : decode cX10_ties 1 = .ok (.iload_n 1, 1) := by decide +kernel
theorem dX10_ties_2 : decode cX10_ties 2 = .ok (.iload_n 2, 1) := by decide +kernel
theorem dX10_ties_3 : decode cX10_ties 3 = .ok (.invokevirtual 244, 3) := by decide +kernel
theorem dX10_ties_6 : decode cX10_ties 6 = .ok (.istore_n 3, 1) := by decide +kernel
theorem dX10_ties_7 : decode cX10_ties 7 = .ok (.iload_n 3, 1) := by decide +kernel
theorem dX10_ties_8 : decode cX10_ties 8 = .ok (.ifCond .eq 9, 3) := by decide +kernel
theorem dX10_ties_11 : decode cX10_ties 11 = .ok (.aload_n 0, 1) := by decide +kernel
theorem dX10_ties_12 : decode cX10_ties 12 = .ok (.iload_n 3, 1) := by decide +kernel
theorem dX10_ties_13 : decode cX10_ties 13 = .ok (.invokevirtual 102, 3) := by decide +kernel
theorem dX10_ties_16 : decode cX10_ties 16 = .ok (.ireturn, 1) := by decide +kernel
theorem dX10_ties_17 : decode cX10_ties 17 = .ok (.aload_n 0, 1) := by decide +kernel
theorem dX10_ties_18 : decode cX10_ties 18 = .ok (.aload_n 0, 1) := by decide +kernel
theorem dX10_ties_19 : decode cX10_ties 19 = .ok (.getfield 50, 3) := by decide +kernel
theorem dX10_ties_22 : decode cX10_ties 22 = .ok (.iload_n 1, 1) := by decide +kernel
theorem dX10_ties_23 : decode cX10_ties 23 = .ok (.iload_n 2, 1) := by decide +kernel
theorem dX10_ties_24 : decode cX10_ties 24 = .ok (.invokevirtual 250, 3) := by decide +kernel
theorem dX10_ties_27 : decode cX10_ties 27 = .ok (.invokevirtual 130, 3) := by decide +kernel
theorem dX10_ties_30 : decode cX10_ties 30 = .ok (.ireturn, 1) := by decide +kernel
def fp_X10_ties (v0 : Nat) (v1 : Int32) (v2 : Int32) (M : zM) : Option (Int32 × zM) :=
  zthis 8 M v0 (
    (fp_X10_badKnot v0 v1 v2 M).bind fun p3 => zpp p3 fun (y1 : Int32) (M2 : zM) =>
    if y1 = 0 then (
      (zgR 8 M2 v0 9).bind fun (y4 : Nat) =>
      (fp_X3_tiesOf y4 v1 v2 M2).bind fun (y5 : Int32) =>
      (fp_X10_answer v0 y5 M2).bind fun p8 => zpp p8 fun (y6 : Int32) (M7 : zM) =>
      some (y6, M7))
    else (
      (fp_X10_refuse v0 y1 M2).bind fun p11 => zpp p11 fun (y9 : Int32) (M10 : zM) =>
      some (y9, M10)))
set_option maxHeartbeats 4000000 in
set_option maxRecDepth 100000 in
theorem th_X10_ties {v0 : Nat} {v1 : Int32} {v2 : Int32} {M : zM} {x0 : Int32 × zM} (h : fp_X10_ties v0 v1 v2 M = some x0) : v0 < zS M ∧ kd v0 = 8 := by
  unfold fp_X10_ties at h
  exact zthis_of h
set_option maxHeartbeats 4000000 in
set_option maxRecDepth 100000 in
theorem ct_X10_ties (E : zEnv) (hE : zEok E) (d : Nat) (hd : 8 ≤ d) (v0 : Nat) (v1 : Int32) (v2 : Int32) (M : zM) (x0 : Int32 × zM) (hx : fp_X10_ties v0 v1 v2 M = some x0) : zCt E mu_X10_ties d [.ref (E.2.2.2.1 + v0), .int v1, .int v2] M (some (.int x0.1), x0.2) := by
  refine zCt_of (μ := mu_X10_ties) (t := fp_X10_ties v0 v1 v2 M) rfl rfl (Nat.le_of_ble_eq_true rfl) hx ?_
  change zSy E mu_X10_ties d M (some (.int x0.1), x0.2) x0 (fp_X10_ties v0 v1 v2 M) 0 [(0, .ref (E.2.2.2.1 + v0)), (1, .int v1), (2, .int v2)] [] M
  unfold fp_X10_ties
  refine zs_this (fun hth => ?_)
  refine zs_aload_n dX10_ties_0 rfl 0 rfl ?_
  refine zs_iload_n dX10_ties_1 rfl 1 rfl ?_
  refine zs_iload_n dX10_ties_2 rfl 2 rfl ?_
  refine zs_invVWI (rest := []) [.int v1, .int v2] dX10_ties_3 lk_X10_244 rfl (fun _ h => th_X10_badKnot h) (zd1 rfl hd) rfl (Nat.le_of_ble_eq_true rfl) (ct_X10_badKnot E hE _ (zdl rfl hd) _ _ _ _) (fun y1 M2 => ?_)
  refine zs_istore_n (loc' := [(0, .ref (E.2.2.2.1 + v0)), (1, .int v1), (2, .int v2), (3, .int y1)]) dX10_ties_6 rfl (Nat.le_of_ble_eq_true rfl) [1, 2, 3, 0] rfl ?_
  refine zs_iload_n dX10_ties_7 rfl 3 rfl ?_
  refine zs_if_eq dX10_ties_8 rfl ?_ ?_
  · refine zs_aload_n dX10_ties_17 rfl 0 rfl ?_
    refine zs_aload_n dX10_ties_18 rfl 0 rfl ?_
    refine zs_getR dX10_ties_19 fl_X10_50 rfl (fun y4 => ?_)
    refine zs_iload_n dX10_ties_22 rfl 1 rfl ?_
    refine zs_iload_n dX10_ties_23 rfl 2 rfl ?_
    refine zs_invVPI (rest := [.ref (E.2.2.2.1 + v0)]) [.int v1, .int v2] dX10_ties_24 lk_X10_250 rfl (fun _ h => th_X3_tiesOf h) (zd1 rfl hd) rfl (Nat.le_of_ble_eq_true rfl) (ct_X3_tiesOf E hE _ (zdl rfl hd) _ _ _ _) (fun y5 => ?_)
    refine zs_invVWI (rest := []) [.int y5] dX10_ties_27 lk_X10_130 rfl (fun _ h => th_X10_answer h) (zd1 rfl hd) rfl (Nat.le_of_ble_eq_true rfl) (ct_X10_answer E hE _ (zdl rfl hd) _ _ _) (fun y6 M7 => ?_)
    exact zs_iretW dX10_ties_30 rfl
  refine zs_aload_n dX10_ties_11 rfl 0 rfl ?_
  refine zs_iload_n dX10_ties_12 rfl 3 rfl ?_
  refine zs_invVWI (rest := []) [.int y1] dX10_ties_13 lk_X10_102 rfl (fun _ h => th_X10_refuse h) (zd1 rfl hd) rfl (Nat.le_of_ble_eq_true rfl) (ct_X10_refuse E hE _ (zdl rfl hd) _ _ _) (fun y9 M10 => ?_)
  exact zs_iretW dX10_ties_16 rfl
theorem dX10_plain_0 : decode cX10_plain 0 = .ok (.aload_n 0, 1) := by decide +kernel
theorem dX10_plain_1 : decode cX10_plain 1 = .ok (.getfield 50, 3) := by decide +kernel
theorem dX10_plain_4 : decode cX10_plain 4 = .ok (.aload_n 0, 1) := by decide +kernel
theorem dX10_plain_5 : decode cX10_plain 5 = .ok (.getfield 129, 3) := by decide +kernel
theorem dX10_plain_8 : decode cX10_plain 8 = .ok (.aload_n 0, 1) := by decide +kernel
theorem dX10_plain_9 : decode cX10_plain 9 = .ok (.getfield 136, 3) := by decide +kernel
theorem dX10_plain_12 : decode cX10_plain 12 = .ok (.invokevirtual 155, 3) := by decide +kernel
theorem dX10_plain_15 : decode cX10_plain 15 = .ok (.aload_n 0, 1) := by decide +kernel
theorem dX10_plain_16 : decode cX10_plain 16 = .ok (.aload_n 0, 1) := by decide +kernel
theorem dX10_plain_17 : decode cX10_plain 17 = .ok (.getfield 50, 3) := by decide +kernel
theorem dX10_plain_20 : decode cX10_plain 20 = .ok (.invokevirtual 253, 3) := by decide +kernel
theorem dX10_plain_23 : decode cX10_plain 23 = .ok (.ifCond .eq 7, 3) := by decide +kernel
theorem dX10_plain_26 : decode cX10_plain 26 = .ok (.iconst 1, 1) := by decide +kernel
theorem dX10_plain_27 : decode cX10_plain 27 = .ok (.goto 4, 3) := by decide +kernel
theorem dX10_plain_30 : decode cX10_plain 30 = .ok (.iconst 0, 1) := by decide +kernel
theorem dX10_plain_31 : decode cX10_plain 31 = .ok (.invokevirtual 130, 3) := by decide +kernel
theorem dX10_plain_34 : decode cX10_plain 34 = .ok (.ireturn, 1) := by decide +kernel
def fp_X10_plain (v0 : Nat) (M : zM) : Option (Int32 × zM) :=
  zthis 8 M v0 (
    (zgR 8 M v0 9).bind fun (y1 : Nat) =>
    (zgI 8 M v0 1).bind fun (y2 : Int32) =>
    (zgI 8 M v0 2).bind fun (y3 : Int32) =>
    (fp_X3_gather y1 y2 y3 M).bind fun (M4 : zM) =>
    (zgR 8 M4 v0 9).bind fun (y5 : Nat) =>
    (fp_X3_isPlain y5 M4).bind fun (y6 : Int32) =>
    if y6 = 0 then (
      (fp_X10_answer v0 0 M4).bind fun p9 => zpp p9 fun (y7 : Int32) (M8 : zM) =>
      some (y7, M8))
    else (
      (fp_X10_answer v0 1 M4).bind fun p12 => zpp p12 fun (y10 : Int32) (M11 : zM) =>
      some (y10, M11)))
set_option maxHeartbeats 4000000 in
set_option maxRecDepth 100000 in
theorem th_X10_plain {v0 : Nat} {M : zM} {x0 : Int32 × zM} (h : fp_X10_plain v0 M = some x0) : v0 < zS M ∧ kd v0 = 8 := by
  unfold fp_X10_plain at h
  exact zthis_of h
set_option maxHeartbeats 4000000 in
set_option maxRecDepth 100000 in
theorem ct_X10_plain (E : zEnv) (hE : zEok E) (d : Nat) (hd : 7 ≤ d) (v0 : Nat) (M : zM) (x0 : Int32 × zM) (hx : fp_X10_plain v0 M = some x0) : zCt E mu_X10_plain d [.ref (E.2.2.2.1 + v0)] M (some (.int x0.1), x0.2) := by
  refine zCt_of (μ := mu_X10_plain) (t := fp_X10_plain v0 M) rfl rfl (Nat.le_of_ble_eq_true rfl) hx ?_
  change zSy E mu_X10_plain d M (some (.int x0.1), x0.2) x0 (fp_X10_plain v0 M) 0 [(0, .ref (E.2.2.2.1 + v0))] [] M
  unfold fp_X10_plain
  refine zs_this (fun hth => ?_)
  refine zs_aload_n dX10_plain_0 rfl 0 rfl ?_
  refine zs_getR dX10_plain_1 fl_X10_50 rfl (fun y1 => ?_)
  refine zs_aload_n dX10_plain_4 rfl 0 rfl ?_
  refine zs_getI dX10_plain_5 fl_X10_129 rfl (fun y2 => ?_)
  refine zs_aload_n dX10_plain_8 rfl 0 rfl ?_
  refine zs_getI dX10_plain_9 fl_X10_136 rfl (fun y3 => ?_)
  refine zs_invVWV (rest := []) [.int y2, .int y3] dX10_plain_12 lk_X10_155 rfl (fun _ h => th_X3_gather h) (zd1 rfl hd) rfl (Nat.le_of_ble_eq_true rfl) (ct_X3_gather E hE _ (zdl rfl hd) _ _ _ _) (fun M4 => ?_)
  refine zs_aload_n dX10_plain_15 rfl 0 rfl ?_
  refine zs_aload_n dX10_plain_16 rfl 0 rfl ?_
  refine zs_getR dX10_plain_17 fl_X10_50 rfl (fun y5 => ?_)
  refine zs_invVPI (rest := [.ref (E.2.2.2.1 + v0)]) [] dX10_plain_20 lk_X10_253 rfl (fun _ h => th_X3_isPlain h) (zd1 rfl hd) rfl (Nat.le_of_ble_eq_true rfl) (ct_X3_isPlain E hE _ (zdl rfl hd) _ _) (fun y6 => ?_)
  refine zs_if_eq dX10_plain_23 rfl ?_ ?_
  · refine zs_iconst (v := 0) dX10_plain_30 ciconst_0 ?_
    refine zs_invVWI (rest := []) [.int 0] dX10_plain_31 lk_X10_130 rfl (fun _ h => th_X10_answer h) (zd1 rfl hd) rfl (Nat.le_of_ble_eq_true rfl) (ct_X10_answer E hE _ (zdl rfl hd) _ _ _) (fun y7 M8 => ?_)
    exact zs_iretW dX10_plain_34 rfl
  refine zs_iconst (v := 1) dX10_plain_26 ciconst_1 ?_
  refine zs_goto dX10_plain_27 rfl ?_
  refine zs_invVWI (rest := []) [.int 1] dX10_plain_31 lk_X10_130 rfl (fun _ h => th_X10_answer h) (zd1 rfl hd) rfl (Nat.le_of_ble_eq_true rfl) (ct_X10_answer E hE _ (zdl rfl hd) _ _ _) (fun y10 M11 => ?_)
  exact zs_iretW dX10_plain_34 rfl
theorem dX10_twins_0 : decode cX10_twins 0 = .ok (.iload_n 1, 1) := by decide +kernel
theorem dX10_twins_1 : decode cX10_twins 1 = .ok (.ifCond .lt 8, 3) := by decide +kernel
theorem dX10_twins_4 : decode cX10_twins 4 = .ok (.iload_n 1, 1) := by decide +kernel
theorem dX10_twins_5 : decode cX10_twins 5 = .ok (.iconst 3, 1) := by decide +kernel
theorem dX10_twins_6 : decode cX10_twins 6 = .ok (.if_icmp .le 9, 3) := by decide +kernel
theorem dX10_twins_9 : decode cX10_twins 9 = .ok (.aload_n 0, 1) := by decide +kernel
theorem dX10_twins_10 : decode cX10_twins 10 = .ok (.iconst 1, 1) := by decide +kernel
theorem dX10_twins_11 : decode cX10_twins 11 = .ok (.invokevirtual 102, 3) := by decide +kernel
theorem dX10_twins_14 : decode cX10_twins 14 = .ok (.ireturn, 1) := by decide +kernel
theorem dX10_twins_15 : decode cX10_twins 15 = .ok (.iload_n 1, 1) := by decide +kernel
theorem dX10_twins_16 : decode cX10_twins 16 = .ok (.iconst 2, 1) := by decide +kernel
theorem dX10_twins_17 : decode cX10_twins 17 = .ok (.if_icmp .ge 29, 3) := by decide +kernel
theorem dX10_twins_20 : decode cX10_twins 20 = .ok (.aload_n 0, 1) := by decide +kernel
theorem dX10_twins_21 : decode cX10_twins 21 = .ok (.aload_n 0, 1) := by decide +kernel
theorem dX10_twins_22 : decode cX10_twins 22 = .ok (.getfield 129, 3) := by decide +kernel
theorem dX10_twins_25 : decode cX10_twins 25 = .ok (.aload_n 0, 1) := by decide +kernel
theorem dX10_twins_26 : decode cX10_twins 26 = .ok (.getfield 136, 3) := by decide +kernel
theorem dX10_twins_29 : decode cX10_twins 29 = .ok (.iload_n 1, 1) := by decide +kernel
theorem dX10_twins_30 : decode cX10_twins 30 = .ok (.iconst 1, 1) := by decide +kernel
theorem dX10_twins_31 : decode cX10_twins 31 = .ok (.if_icmp .ne 7, 3) := by decide +kernel
theorem dX10_twins_34 : decode cX10_twins 34 = .ok (.iconst 1, 1) := by decide +kernel
theorem dX10_twins_35 : decode cX10_twins 35 = .ok (.goto 4, 3) := by decide +kernel
theorem dX10_twins_38 : decode cX10_twins 38 = .ok (.iconst 0, 1) := by decide +kernel
theorem dX10_twins_39 : decode cX10_twins 39 = .ok (.invokestatic 257, 3) := by decide +kernel
theorem dX10_twins_42 : decode cX10_twins 42 = .ok (.invokevirtual 130, 3) := by decide +kernel
theorem dX10_twins_45 : decode cX10_twins 45 = .ok (.ireturn, 1) := by decide +kernel
theorem dX10_twins_46 : decode cX10_twins 46 = .ok (.iload_n 1, 1) := by decide +kernel
theorem dX10_twins_47 : decode cX10_twins 47 = .ok (.iconst 2, 1) := by decide +kernel
theorem dX10_twins_48 : decode cX10_twins 48 = .ok (.if_icmp .ne 19, 3) := by decide +kernel
theorem dX10_twins_51 : decode cX10_twins 51 = .ok (.aload_n 0, 1) := by decide +kernel
theorem dX10_twins_52 : decode cX10_twins 52 = .ok (.aload_n 0, 1) := by decide +kernel
theorem dX10_twins_53 : decode cX10_twins 53 = .ok (.getfield 129, 3) := by decide +kernel
theorem dX10_twins_56 : decode cX10_twins 56 = .ok (.aload_n 0, 1) := by decide +kernel
theorem dX10_twins_57 : decode cX10_twins 57 = .ok (.getfield 136, 3) := by decide +kernel
theorem dX10_twins_60 : decode cX10_twins 60 = .ok (.invokestatic 261, 3) := by decide +kernel
theorem dX10_twins_63 : decode cX10_twins 63 = .ok (.invokevirtual 130, 3) := by decide +kernel
theorem dX10_twins_66 : decode cX10_twins 66 = .ok (.ireturn, 1) := by decide +kernel
theorem dX10_twins_67 : decode cX10_twins 67 = .ok (.aload_n 0, 1) := by decide +kernel
theorem dX10_twins_68 : decode cX10_twins 68 = .ok (.getfield 43, 3) := by decide +kernel
theorem dX10_twins_71 : decode cX10_twins 71 = .ok (.aload_n 0, 1) := by decide +kernel
theorem dX10_twins_72 : decode cX10_twins 72 = .ok (.getfield 129, 3) := by decide +kernel
theorem dX10_twins_75 : decode cX10_twins 75 = .ok (.aload_n 0, 1) := by decide +kernel
theorem dX10_twins_76 : decode cX10_twins 76 = .ok (.getfield 136, 3) := by decide +kernel
theorem dX10_twins_79 : decode cX10_twins 79 = .ok (.invokevirtual 151, 3) := by decide +kernel
theorem dX10_twins_82 : decode cX10_twins 82 = .ok (.aload_n 0, 1) := by decide +kernel
theorem dX10_twins_83 : decode cX10_twins 83 = .ok (.aload_n 0, 1) := by decide +kernel
theorem dX10_twins_84 : decode cX10_twins 84 = .ok (.getfield 43, 3) := by decide +kernel
theorem dX10_twins_87 : decode cX10_twins 87 = .ok (.aload_n 0, 1) := by decide +kernel
theorem dX10_twins_88 : decode cX10_twins 88 = .ok (.getfield 129, 3) := by decide +kernel
theorem dX10_twins_91 : decode cX10_twins 91 = .ok (.invokevirtual 264, 3) := by decide +kernel
theorem dX10_twins_94 : decode cX10_twins 94 = .ok (.invokevirtual 130, 3) := by decide +kernel
theorem dX10_twins_97 : decode cX10_twins 97 = .ok (.ireturn, 1) := by decide +kernel
def fp_X10_twins (v0 : Nat) (v1 : Int32) (M : zM) : Option (Int32 × zM) :=
  zthis 8 M v0 (
    if v1 < 0 then (
      (fp_X10_refuse v0 1 M).bind fun p3 => zpp p3 fun (y1 : Int32) (M2 : zM) =>
      some (y1, M2))
    else (
      if v1 ≤ 3 then (
        if v1 ≥ 2 then (
          if v1 ≠ 2 then (
            (zgR 8 M v0 8).bind fun (y4 : Nat) =>
            (zgI 8 M v0 1).bind fun (y5 : Int32) =>
            (zgI 8 M v0 2).bind fun (y6 : Int32) =>
            (fp_X6_gather y4 y5 y6 M).bind fun (M7 : zM) =>
            (zgR 8 M7 v0 8).bind fun (y8 : Nat) =>
            (zgI 8 M7 v0 1).bind fun (y9 : Int32) =>
            (fp_X6_strongOnes y8 y9 M7).bind fun (y10 : Int32) =>
            (fp_X10_answer v0 y10 M7).bind fun p13 => zpp p13 fun (y11 : Int32) (M12 : zM) =>
            some (y11, M12))
          else (
            (zgI 8 M v0 1).bind fun (y14 : Int32) =>
            (zgI 8 M v0 2).bind fun (y15 : Int32) =>
            (fp_X2_lonePoints y14 y15).bind fun (y16 : Int32) =>
            (fp_X10_answer v0 y16 M).bind fun p19 => zpp p19 fun (y17 : Int32) (M18 : zM) =>
            some (y17, M18)))
        else (
          (zgI 8 M v0 1).bind fun (y20 : Int32) =>
          (zgI 8 M v0 2).bind fun (y21 : Int32) =>
          zjn (fun (s22 : Int32) (s23 : Int32) (s24 : Int32) (s25 : Nat) =>
              (fp_X2_likeCouples s24 s23 s22).bind fun (y26 : Int32) =>
              (fp_X10_answer s25 y26 M).bind fun p29 => zpp p29 fun (y27 : Int32) (M28 : zM) =>
              some (y27, M28))
            (fun j39 =>
              if v1 ≠ 1 then (
                j39 0 y21 y20 v0)
              else (
                j39 1 y21 y20 v0))))
      else (
        (fp_X10_refuse v0 1 M).bind fun p32 => zpp p32 fun (y30 : Int32) (M31 : zM) =>
        some (y30, M31))))
set_option maxHeartbeats 4000000 in
set_option maxRecDepth 100000 in
theorem th_X10_twins {v0 : Nat} {v1 : Int32} {M : zM} {x0 : Int32 × zM} (h : fp_X10_twins v0 v1 M = some x0) : v0 < zS M ∧ kd v0 = 8 := by
  unfold fp_X10_twins at h
  exact zthis_of h
set_option maxHeartbeats 4000000 in
set_option maxRecDepth 100000 in
theorem ct_X10_twins (E : zEnv) (hE : zEok E) (d : Nat) (hd : 5 ≤ d) (v0 : Nat) (v1 : Int32) (M : zM) (x0 : Int32 × zM) (hx : fp_X10_twins v0 v1 M = some x0) : zCt E mu_X10_twins d [.ref (E.2.2.2.1 + v0), .int v1] M (some (.int x0.1), x0.2) := by
  refine zCt_of (μ := mu_X10_twins) (t := fp_X10_twins v0 v1 M) rfl rfl (Nat.le_of_ble_eq_true rfl) hx ?_
  change zSy E mu_X10_twins d M (some (.int x0.1), x0.2) x0 (fp_X10_twins v0 v1 M) 0 [(0, .ref (E.2.2.2.1 + v0)), (1, .int v1)] [] M
  unfold fp_X10_twins
  refine zs_this (fun hth => ?_)
  refine zs_iload_n dX10_twins_0 rfl 1 rfl ?_
  refine zs_if_lt dX10_twins_1 rfl ?_ ?_
  · refine zs_aload_n dX10_twins_9 rfl 0 rfl ?_
    refine zs_iconst (v := 1) dX10_twins_10 ciconst_1 ?_
    refine zs_invVWI (rest := []) [.int 1] dX10_twins_11 lk_X10_102 rfl (fun _ h => th_X10_refuse h) (zd1 rfl hd) rfl (Nat.le_of_ble_eq_true rfl) (ct_X10_refuse E hE _ (zdl rfl hd) _ _ _) (fun y1 M2 => ?_)
    exact zs_iretW dX10_twins_14 rfl
  refine zs_iload_n dX10_twins_4 rfl 1 rfl ?_
  refine zs_iconst (v := 3) dX10_twins_5 ciconst_3 ?_
  refine zs_icmp_le dX10_twins_6 rfl ?_ ?_
  · refine zs_iload_n dX10_twins_15 rfl 1 rfl ?_
    refine zs_iconst (v := 2) dX10_twins_16 ciconst_2 ?_
    refine zs_icmp_ge dX10_twins_17 rfl ?_ ?_
    · refine zs_iload_n dX10_twins_46 rfl 1 rfl ?_
      refine zs_iconst (v := 2) dX10_twins_47 ciconst_2 ?_
      refine zs_icmp_ne dX10_twins_48 rfl ?_ ?_
      · refine zs_aload_n dX10_twins_67 rfl 0 rfl ?_
        refine zs_getR dX10_twins_68 fl_X10_43 rfl (fun y4 => ?_)
        refine zs_aload_n dX10_twins_71 rfl 0 rfl ?_
        refine zs_getI dX10_twins_72 fl_X10_129 rfl (fun y5 => ?_)
        refine zs_aload_n dX10_twins_75 rfl 0 rfl ?_
        refine zs_getI dX10_twins_76 fl_X10_136 rfl (fun y6 => ?_)
        refine zs_invVWV (rest := []) [.int y5, .int y6] dX10_twins_79 lk_X10_151 rfl (fun _ h => th_X6_gather h) (zd1 rfl hd) rfl (Nat.le_of_ble_eq_true rfl) (ct_X6_gather E hE _ (zdl rfl hd) _ _ _ _) (fun M7 => ?_)
        refine zs_aload_n dX10_twins_82 rfl 0 rfl ?_
        refine zs_aload_n dX10_twins_83 rfl 0 rfl ?_
        refine zs_getR dX10_twins_84 fl_X10_43 rfl (fun y8 => ?_)
        refine zs_aload_n dX10_twins_87 rfl 0 rfl ?_
        refine zs_getI dX10_twins_88 fl_X10_129 rfl (fun y9 => ?_)
        refine zs_invVPI (rest := [.ref (E.2.2.2.1 + v0)]) [.int y9] dX10_twins_91 lk_X10_264 rfl (fun _ h => th_X6_strongOnes h) (zd1 rfl hd) rfl (Nat.le_of_ble_eq_true rfl) (ct_X6_strongOnes E hE _ (zdl rfl hd) _ _ _) (fun y10 => ?_)
        refine zs_invVWI (rest := []) [.int y10] dX10_twins_94 lk_X10_130 rfl (fun _ h => th_X10_answer h) (zd1 rfl hd) rfl (Nat.le_of_ble_eq_true rfl) (ct_X10_answer E hE _ (zdl rfl hd) _ _ _) (fun y11 M12 => ?_)
        exact zs_iretW dX10_twins_97 rfl
      refine zs_aload_n dX10_twins_51 rfl 0 rfl ?_
      refine zs_aload_n dX10_twins_52 rfl 0 rfl ?_
      refine zs_getI dX10_twins_53 fl_X10_129 rfl (fun y14 => ?_)
      refine zs_aload_n dX10_twins_56 rfl 0 rfl ?_
      refine zs_getI dX10_twins_57 fl_X10_136 rfl (fun y15 => ?_)
      refine zs_invSPI (rest := [.ref (E.2.2.2.1 + v0)]) [.int y14, .int y15] dX10_twins_60 lk_X10_261 rfl (zd1 rfl hd) rfl (Nat.le_of_ble_eq_true rfl) (ct_X2_lonePoints E hE _ (zdl rfl hd) _ _ _) (fun y16 => ?_)
      refine zs_invVWI (rest := []) [.int y16] dX10_twins_63 lk_X10_130 rfl (fun _ h => th_X10_answer h) (zd1 rfl hd) rfl (Nat.le_of_ble_eq_true rfl) (ct_X10_answer E hE _ (zdl rfl hd) _ _ _) (fun y17 M18 => ?_)
      exact zs_iretW dX10_twins_66 rfl
    refine zs_aload_n dX10_twins_20 rfl 0 rfl ?_
    refine zs_aload_n dX10_twins_21 rfl 0 rfl ?_
    refine zs_getI dX10_twins_22 fl_X10_129 rfl (fun y20 => ?_)
    refine zs_aload_n dX10_twins_25 rfl 0 rfl ?_
    refine zs_getI dX10_twins_26 fl_X10_136 rfl (fun y21 => ?_)
    refine zs_iload_n dX10_twins_29 rfl 1 rfl ?_
    refine zs_iconst (v := 1) dX10_twins_30 ciconst_1 ?_
    refine zs_jn (fun j39 => ∀ (s22 : Int32) (s23 : Int32) (s24 : Int32) (s25 : Nat), zSy E mu_X10_twins d M (some (.int x0.1), x0.2) x0 (j39 s22 s23 s24 s25) 39 [] [.int s22, .int s23, .int s24, .ref (E.2.2.2.1 + s25)] M) (fun s22 s23 s24 s25 => ?_) (fun j39 hj39 => ?_)
    · refine zs_invSPI (rest := [.ref (E.2.2.2.1 + s25)]) [.int s24, .int s23, .int s22] dX10_twins_39 lk_X10_257 rfl (zd1 rfl hd) rfl (Nat.le_of_ble_eq_true rfl) (ct_X2_likeCouples E hE _ (zdl rfl hd) _ _ _ _) (fun y26 => ?_)
      refine zs_invVWI (rest := []) [.int y26] dX10_twins_42 lk_X10_130 rfl (fun _ h => th_X10_answer h) (zd1 rfl hd) rfl (Nat.le_of_ble_eq_true rfl) (ct_X10_answer E hE _ (zdl rfl hd) _ _ _) (fun y27 M28 => ?_)
      exact zs_iretW dX10_twins_45 rfl
    refine zs_icmp_ne dX10_twins_31 rfl ?_ ?_
    · refine zs_iconst (v := 0) dX10_twins_38 ciconst_0 ?_
      refine zs_sub (loc' := []) [] rfl ?_
      exact hj39 0 y21 y20 v0
    refine zs_iconst (v := 1) dX10_twins_34 ciconst_1 ?_
    refine zs_goto dX10_twins_35 rfl ?_
    refine zs_sub (loc' := []) [] rfl ?_
    exact hj39 1 y21 y20 v0
  refine zs_aload_n dX10_twins_9 rfl 0 rfl ?_
  refine zs_iconst (v := 1) dX10_twins_10 ciconst_1 ?_
  refine zs_invVWI (rest := []) [.int 1] dX10_twins_11 lk_X10_102 rfl (fun _ h => th_X10_refuse h) (zd1 rfl hd) rfl (Nat.le_of_ble_eq_true rfl) (ct_X10_refuse E hE _ (zdl rfl hd) _ _ _) (fun y30 M31 => ?_)
  exact zs_iretW dX10_twins_14 rfl
theorem dX10_most_0 : decode cX10_most 0 = .ok (.iload_n 1, 1) := by decide +kernel
theorem dX10_most_1 : decode cX10_most 1 = .ok (.ifCond .lt 8, 3) := by decide +kernel
theorem dX10_most_4 : decode cX10_most 4 = .ok (.iload_n 1, 1) := by decide +kernel
theorem dX10_most_5 : decode cX10_most 5 = .ok (.iconst 1, 1) := by decide +kernel
theorem dX10_most_6 : decode cX10_most 6 = .ok (.if_icmp .le 9, 3) := by decide +kernel
theorem dX10_most_9 : decode cX10_most 9 = .ok (.aload_n 0, 1) := by decide +kernel
theorem dX10_most_10 : decode cX10_most 10 = .ok (.iconst 1, 1) := by decide +kernel
theorem dX10_most_11 : decode cX10_most 11 = .ok (.invokevirtual 102, 3) := by decide +kernel
theorem dX10_most_14 : decode cX10_most 14 = .ok (.ireturn, 1) := by decide +kernel
theorem dX10_most_15 : decode cX10_most 15 = .ok (.aload_n 0, 1) := by decide +kernel
theorem dX10_most_16 : decode cX10_most 16 = .ok (.aload_n 0, 1) := by decide +kernel
theorem dX10_most_17 : decode cX10_most 17 = .ok (.getfield 129, 3) := by decide +kernel
theorem dX10_most_20 : decode cX10_most 20 = .ok (.aload_n 0, 1) := by decide +kernel
theorem dX10_most_21 : decode cX10_most 21 = .ok (.getfield 136, 3) := by decide +kernel
theorem dX10_most_24 : decode cX10_most 24 = .ok (.iload_n 1, 1) := by decide +kernel
theorem dX10_most_25 : decode cX10_most 25 = .ok (.ifCond .ne 7, 3) := by decide +kernel
theorem dX10_most_28 : decode cX10_most 28 = .ok (.iconst 1, 1) := by decide +kernel
theorem dX10_most_29 : decode cX10_most 29 = .ok (.goto 4, 3) := by decide +kernel
theorem dX10_most_32 : decode cX10_most 32 = .ok (.iconst 0, 1) := by decide +kernel
theorem dX10_most_33 : decode cX10_most 33 = .ok (.invokestatic 267, 3) := by decide +kernel
theorem dX10_most_36 : decode cX10_most 36 = .ok (.invokevirtual 130, 3) := by decide +kernel
theorem dX10_most_39 : decode cX10_most 39 = .ok (.ireturn, 1) := by decide +kernel
def fp_X10_most (v0 : Nat) (v1 : Int32) (M : zM) : Option (Int32 × zM) :=
  zthis 8 M v0 (
    if v1 < 0 then (
      (fp_X10_refuse v0 1 M).bind fun p3 => zpp p3 fun (y1 : Int32) (M2 : zM) =>
      some (y1, M2))
    else (
      if v1 ≤ 1 then (
        (zgI 8 M v0 1).bind fun (y4 : Int32) =>
        (zgI 8 M v0 2).bind fun (y5 : Int32) =>
        zjn (fun (s6 : Int32) (s7 : Int32) (s8 : Int32) (s9 : Nat) =>
            (fp_X2_largest s8 s7 s6).bind fun (y10 : Int32) =>
            (fp_X10_answer s9 y10 M).bind fun p13 => zpp p13 fun (y11 : Int32) (M12 : zM) =>
            some (y11, M12))
          (fun j33 =>
            if v1 ≠ 0 then (
              j33 0 y5 y4 v0)
            else (
              j33 1 y5 y4 v0)))
      else (
        (fp_X10_refuse v0 1 M).bind fun p16 => zpp p16 fun (y14 : Int32) (M15 : zM) =>
        some (y14, M15))))
set_option maxHeartbeats 4000000 in
set_option maxRecDepth 100000 in
theorem th_X10_most {v0 : Nat} {v1 : Int32} {M : zM} {x0 : Int32 × zM} (h : fp_X10_most v0 v1 M = some x0) : v0 < zS M ∧ kd v0 = 8 := by
  unfold fp_X10_most at h
  exact zthis_of h
set_option maxHeartbeats 4000000 in
set_option maxRecDepth 100000 in
theorem ct_X10_most (E : zEnv) (hE : zEok E) (d : Nat) (hd : 3 ≤ d) (v0 : Nat) (v1 : Int32) (M : zM) (x0 : Int32 × zM) (hx : fp_X10_most v0 v1 M = some x0) : zCt E mu_X10_most d [.ref (E.2.2.2.1 + v0), .int v1] M (some (.int x0.1), x0.2) := by
  refine zCt_of (μ := mu_X10_most) (t := fp_X10_most v0 v1 M) rfl rfl (Nat.le_of_ble_eq_true rfl) hx ?_
  change zSy E mu_X10_most d M (some (.int x0.1), x0.2) x0 (fp_X10_most v0 v1 M) 0 [(0, .ref (E.2.2.2.1 + v0)), (1, .int v1)] [] M
  unfold fp_X10_most
  refine zs_this (fun hth => ?_)
  refine zs_iload_n dX10_most_0 rfl 1 rfl ?_
  refine zs_if_lt dX10_most_1 rfl ?_ ?_
  · refine zs_aload_n dX10_most_9 rfl 0 rfl ?_
    refine zs_iconst (v := 1) dX10_most_10 ciconst_1 ?_
    refine zs_invVWI (rest := []) [.int 1] dX10_most_11 lk_X10_102 rfl (fun _ h => th_X10_refuse h) (zd1 rfl hd) rfl (Nat.le_of_ble_eq_true rfl) (ct_X10_refuse E hE _ (zdl rfl hd) _ _ _) (fun y1 M2 => ?_)
    exact zs_iretW dX10_most_14 rfl
  refine zs_iload_n dX10_most_4 rfl 1 rfl ?_
  refine zs_iconst (v := 1) dX10_most_5 ciconst_1 ?_
  refine zs_icmp_le dX10_most_6 rfl ?_ ?_
  · refine zs_aload_n dX10_most_15 rfl 0 rfl ?_
    refine zs_aload_n dX10_most_16 rfl 0 rfl ?_
    refine zs_getI dX10_most_17 fl_X10_129 rfl (fun y4 => ?_)
    refine zs_aload_n dX10_most_20 rfl 0 rfl ?_
    refine zs_getI dX10_most_21 fl_X10_136 rfl (fun y5 => ?_)
    refine zs_iload_n dX10_most_24 rfl 1 rfl ?_
    refine zs_jn (fun j33 => ∀ (s6 : Int32) (s7 : Int32) (s8 : Int32) (s9 : Nat), zSy E mu_X10_most d M (some (.int x0.1), x0.2) x0 (j33 s6 s7 s8 s9) 33 [] [.int s6, .int s7, .int s8, .ref (E.2.2.2.1 + s9)] M) (fun s6 s7 s8 s9 => ?_) (fun j33 hj33 => ?_)
    · refine zs_invSPI (rest := [.ref (E.2.2.2.1 + s9)]) [.int s8, .int s7, .int s6] dX10_most_33 lk_X10_267 rfl (zd1 rfl hd) rfl (Nat.le_of_ble_eq_true rfl) (ct_X2_largest E hE _ (zdl rfl hd) _ _ _ _) (fun y10 => ?_)
      refine zs_invVWI (rest := []) [.int y10] dX10_most_36 lk_X10_130 rfl (fun _ h => th_X10_answer h) (zd1 rfl hd) rfl (Nat.le_of_ble_eq_true rfl) (ct_X10_answer E hE _ (zdl rfl hd) _ _ _) (fun y11 M12 => ?_)
      exact zs_iretW dX10_most_39 rfl
    refine zs_if_ne dX10_most_25 rfl ?_ ?_
    · refine zs_iconst (v := 0) dX10_most_32 ciconst_0 ?_
      refine zs_sub (loc' := []) [] rfl ?_
      exact hj33 0 y5 y4 v0
    refine zs_iconst (v := 1) dX10_most_28 ciconst_1 ?_
    refine zs_goto dX10_most_29 rfl ?_
    refine zs_sub (loc' := []) [] rfl ?_
    exact hj33 1 y5 y4 v0
  refine zs_aload_n dX10_most_9 rfl 0 rfl ?_
  refine zs_iconst (v := 1) dX10_most_10 ciconst_1 ?_
  refine zs_invVWI (rest := []) [.int 1] dX10_most_11 lk_X10_102 rfl (fun _ h => th_X10_refuse h) (zd1 rfl hd) rfl (Nat.le_of_ble_eq_true rfl) (ct_X10_refuse E hE _ (zdl rfl hd) _ _ _) (fun y14 M15 => ?_)
  exact zs_iretW dX10_most_14 rfl
theorem dX10_colours_0 : decode cX10_colours 0 = .ok (.iconst 0, 1) := by decide +kernel
theorem dX10_colours_1 : decode cX10_colours 1 = .ok (.istore_n 1, 1) := by decide +kernel
theorem dX10_colours_2 : decode cX10_colours 2 = .ok (.iload_n 1, 1) := by decide +kernel
theorem dX10_colours_3 : decode cX10_colours 3 = .ok (.aload_n 0, 1) := by decide +kernel
theorem dX10_colours_4 : decode cX10_colours 4 = .ok (.getfield 129, 3) := by decide +kernel
theorem dX10_colours_7 : decode cX10_colours 7 = .ok (.if_icmp .ge 32, 3) := by decide +kernel
theorem dX10_colours_10 : decode cX10_colours 10 = .ok (.aload_n 0, 1) := by decide +kernel
theorem dX10_colours_11 : decode cX10_colours 11 = .ok (.getfield 129, 3) := by decide +kernel
theorem dX10_colours_14 : decode cX10_colours 14 = .ok (.aload_n 0, 1) := by decide +kernel
theorem dX10_colours_15 : decode cX10_colours 15 = .ok (.getfield 136, 3) := by decide +kernel
theorem dX10_colours_18 : decode cX10_colours 18 = .ok (.aload_n 0, 1) := by decide +kernel
theorem dX10_colours_19 : decode cX10_colours 19 = .ok (.getfield 81, 3) := by decide +kernel
theorem dX10_colours_22 : decode cX10_colours 22 = .ok (.iconst 0, 1) := by decide +kernel
theorem dX10_colours_23 : decode cX10_colours 23 = .ok (.iconst 0, 1) := by decide +kernel
theorem dX10_colours_24 : decode cX10_colours 24 = .ok (.iload_n 1, 1) := by decide +kernel
theorem dX10_colours_25 : decode cX10_colours 25 = .ok (.invokestatic 270, 3) := by decide +kernel
theorem dX10_colours_28 : decode cX10_colours 28 = .ok (.lconst 0, 1) := by decide +kernel
theorem dX10_colours_29 : decode cX10_colours 29 = .ok (.lcmp, 1) := by decide +kernel
theorem dX10_colours_30 : decode cX10_colours 30 = .ok (.ifCond .ne 9, 3) := by decide +kernel
theorem dX10_colours_33 : decode cX10_colours 33 = .ok (.iinc 1 1, 3) := by decide +kernel
theorem dX10_colours_36 : decode cX10_colours 36 = .ok (.goto (-34), 3) := by decide +kernel
theorem dX10_colours_39 : decode cX10_colours 39 = .ok (.aload_n 0, 1) := by decide +kernel
theorem dX10_colours_40 : decode cX10_colours 40 = .ok (.iload_n 1, 1) := by decide +kernel
theorem dX10_colours_41 : decode cX10_colours 41 = .ok (.invokevirtual 130, 3) := by decide +kernel
theorem dX10_colours_44 : decode cX10_colours 44 = .ok (.ireturn, 1) := by decide +kernel
def fp_X10_colours_L2 (v0 : Nat) : Nat → Int32 → zM → Option (Int32 × zM)
  | 0, _, _ => none
  | n + 1, v1, M =>
    (zgI 8 M v0 1).bind fun (y1 : Int32) =>
    if v1 ≥ y1 then (
      (fp_X10_answer v0 v1 M).bind fun p4 => zpp p4 fun (y2 : Int32) (M3 : zM) =>
      some (y2, M3))
    else (
      (zgI 8 M v0 1).bind fun (y5 : Int32) =>
      (zgI 8 M v0 2).bind fun (y6 : Int32) =>
      (zgR 8 M v0 15).bind fun (y7 : Nat) =>
      (fp_X2_paint FD y5 y6 y7 0 0 v1 M).bind fun p10 => zpp p10 fun (y8 : Int64) (M9 : zM) =>
      if (lg_cmp y8 0) ≠ 0 then (
        (fp_X10_answer v0 v1 M9).bind fun p13 => zpp p13 fun (y11 : Int32) (M12 : zM) =>
        some (y11, M12))
      else (
        fp_X10_colours_L2 v0 n (v1 + 1) M9))
def fp_X10_colours (v0 : Nat) (M : zM) : Option (Int32 × zM) :=
  zthis 8 M v0 (
    fp_X10_colours_L2 v0 FU 0 M)
set_option maxHeartbeats 4000000 in
set_option maxRecDepth 100000 in
theorem th_X10_colours {v0 : Nat} {M : zM} {x0 : Int32 × zM} (h : fp_X10_colours v0 M = some x0) : v0 < zS M ∧ kd v0 = 8 := by
  unfold fp_X10_colours at h
  exact zthis_of h
set_option maxHeartbeats 4000000 in
set_option maxRecDepth 100000 in
theorem w_X10_colours_L2 (E : zEnv) (hE : zEok E) (d : Nat) (hd : 23 ≤ d) (M0 : zM) (x0 : Int32 × zM) (v0 : Nat)  : ∀ (n : Nat) (v1 : Int32) (M : zM), zSy E mu_X10_colours d M0 (some (.int x0.1), x0.2) x0 (fp_X10_colours_L2 v0 n v1 M) 2 [(0, .ref (E.2.2.2.1 + v0)), (1, .int v1)] [] M := by
  intro n
  induction n with
  | zero =>
    intro v1 M
    rw [fp_X10_colours_L2]
    exact zs_none
  | succ n ih =>
    intro v1 M
    rw [fp_X10_colours_L2]
    refine zs_iload_n dX10_colours_2 rfl 1 rfl ?_
    refine zs_aload_n dX10_colours_3 rfl 0 rfl ?_
    refine zs_getI dX10_colours_4 fl_X10_129 rfl (fun y1 => ?_)
    refine zs_icmp_ge dX10_colours_7 rfl ?_ ?_
    · refine zs_aload_n dX10_colours_39 rfl 0 rfl ?_
      refine zs_iload_n dX10_colours_40 rfl 1 rfl ?_
      refine zs_invVWI (rest := []) [.int v1] dX10_colours_41 lk_X10_130 rfl (fun _ h => th_X10_answer h) (zd1 rfl hd) rfl (Nat.le_of_ble_eq_true rfl) (ct_X10_answer E hE _ (zdl rfl hd) _ _ _) (fun y2 M3 => ?_)
      exact zs_iretW dX10_colours_44 rfl
    refine zs_aload_n dX10_colours_10 rfl 0 rfl ?_
    refine zs_getI dX10_colours_11 fl_X10_129 rfl (fun y5 => ?_)
    refine zs_aload_n dX10_colours_14 rfl 0 rfl ?_
    refine zs_getI dX10_colours_15 fl_X10_136 rfl (fun y6 => ?_)
    refine zs_aload_n dX10_colours_18 rfl 0 rfl ?_
    refine zs_getR dX10_colours_19 fl_X10_81 rfl (fun y7 => ?_)
    refine zs_iconst (v := 0) dX10_colours_22 ciconst_0 ?_
    refine zs_iconst (v := 0) dX10_colours_23 ciconst_0 ?_
    refine zs_iload_n dX10_colours_24 rfl 1 rfl ?_
    refine zs_invSNWJ (rest := []) [.int y5, .int y6, .ref (E.2.2.2.1 + y7), .int 0, .int 0, .int v1] dX10_colours_25 lk_X10_270 rfl (zd1 rfl hd) rfl (Nat.le_of_ble_eq_true rfl) (ct_X2_paint E hE FD _ (zdl rfl hd) _ _ _ _ _ _ _) (fun y8 M9 => ?_)
    refine zs_lconst (v := 0) dX10_colours_28 (by rfl) ?_
    refine zs_lcmp dX10_colours_29 ?_
    refine zs_if_ne dX10_colours_30 rfl ?_ ?_
    · refine zs_aload_n dX10_colours_39 rfl 0 rfl ?_
      refine zs_iload_n dX10_colours_40 rfl 1 rfl ?_
      refine zs_invVWI (rest := []) [.int v1] dX10_colours_41 lk_X10_130 rfl (fun _ h => th_X10_answer h) (zd1 rfl hd) rfl (Nat.le_of_ble_eq_true rfl) (ct_X10_answer E hE _ (zdl rfl hd) _ _ _) (fun y11 M12 => ?_)
      exact zs_iretW dX10_colours_44 rfl
    refine zs_iinc (v := (v1 + 1)) (loc' := [(0, .ref (E.2.2.2.1 + v0)), (1, .int (v1 + 1))]) dX10_colours_33 1 rfl (by rfl) (Nat.le_of_ble_eq_true rfl) [1, 0] rfl ?_
    refine zs_goto dX10_colours_36 rfl ?_
    exact ih (v1 + 1) M9
set_option maxHeartbeats 4000000 in
set_option maxRecDepth 100000 in
theorem ct_X10_colours (E : zEnv) (hE : zEok E) (d : Nat) (hd : 23 ≤ d) (v0 : Nat) (M : zM) (x0 : Int32 × zM) (hx : fp_X10_colours v0 M = some x0) : zCt E mu_X10_colours d [.ref (E.2.2.2.1 + v0)] M (some (.int x0.1), x0.2) := by
  refine zCt_of (μ := mu_X10_colours) (t := fp_X10_colours v0 M) rfl rfl (Nat.le_of_ble_eq_true rfl) hx ?_
  change zSy E mu_X10_colours d M (some (.int x0.1), x0.2) x0 (fp_X10_colours v0 M) 0 [(0, .ref (E.2.2.2.1 + v0))] [] M
  unfold fp_X10_colours
  refine zs_this (fun hth => ?_)
  refine zs_iconst (v := 0) dX10_colours_0 ciconst_0 ?_
  refine zs_istore_n (loc' := [(0, .ref (E.2.2.2.1 + v0)), (1, .int 0)]) dX10_colours_1 rfl (Nat.le_of_ble_eq_true rfl) [1, 0] rfl ?_
  exact w_X10_colours_L2 E hE d hd _ _ _ _ _ _
theorem dX10_paintings_0 : decode cX10_paintings 0 = .ok (.iload_n 1, 1) := by decide +kernel
theorem dX10_paintings_1 : decode cX10_paintings 1 = .ok (.ifCond .lt 9, 3) := by decide +kernel
theorem dX10_paintings_4 : decode cX10_paintings 4 = .ok (.iload_n 1, 1) := by decide +kernel
theorem dX10_paintings_5 : decode cX10_paintings 5 = .ok (.bipush 9, 2) := by decide +kernel
theorem dX10_paintings_7 : decode cX10_paintings 7 = .ok (.if_icmp .le 10, 3) := by decide +kernel
theorem dX10_paintings_10 : decode cX10_paintings 10 = .ok (.aload_n 0, 1) := by decide +kernel
theorem dX10_paintings_11 : decode cX10_paintings 11 = .ok (.iconst 1, 1) := by decide +kernel
theorem dX10_paintings_12 : decode cX10_paintings 12 = .ok (.invokevirtual 102, 3) := by decide +kernel
theorem dX10_paintings_15 : decode cX10_paintings 15 = .ok (.i2l, 1) := by decide +kernel
theorem dX10_paintings_16 : decode cX10_paintings 16 = .ok (.lreturn, 1) := by decide +kernel
theorem dX10_paintings_17 : decode cX10_paintings 17 = .ok (.aload_n 0, 1) := by decide +kernel
theorem dX10_paintings_18 : decode cX10_paintings 18 = .ok (.iconst 0, 1) := by decide +kernel
theorem dX10_paintings_19 : decode cX10_paintings 19 = .ok (.putfield 87, 3) := by decide +kernel
theorem dX10_paintings_22 : decode cX10_paintings 22 = .ok (.aload_n 0, 1) := by decide +kernel
theorem dX10_paintings_23 : decode cX10_paintings 23 = .ok (.getfield 129, 3) := by decide +kernel
theorem dX10_paintings_26 : decode cX10_paintings 26 = .ok (.aload_n 0, 1) := by decide +kernel
theorem dX10_paintings_27 : decode cX10_paintings 27 = .ok (.getfield 136, 3) := by decide +kernel
theorem dX10_paintings_30 : decode cX10_paintings 30 = .ok (.aload_n 0, 1) := by decide +kernel
theorem dX10_paintings_31 : decode cX10_paintings 31 = .ok (.getfield 81, 3) := by decide +kernel
theorem dX10_paintings_34 : decode cX10_paintings 34 = .ok (.iconst 0, 1) := by decide +kernel
theorem dX10_paintings_35 : decode cX10_paintings 35 = .ok (.iconst 0, 1) := by decide +kernel
theorem dX10_paintings_36 : decode cX10_paintings 36 = .ok (.iload_n 1, 1) := by decide +kernel
theorem dX10_paintings_37 : decode cX10_paintings 37 = .ok (.invokestatic 270, 3) := by decide +kernel
theorem dX10_paintings_40 : decode cX10_paintings 40 = .ok (.lreturn, 1) := by decide +kernel
def fp_X10_paintings (v0 : Nat) (v1 : Int32) (M : zM) : Option (Int64 × zM) :=
  zthis 8 M v0 (
    if v1 < 0 then (
      (fp_X10_refuse v0 1 M).bind fun p3 => zpp p3 fun (y1 : Int32) (M2 : zM) =>
      some ((y1.toInt64), M2))
    else (
      if v1 ≤ 9 then (
        (zpI 8 M v0 0 0).bind fun (M4 : zM) =>
        (zgI 8 M4 v0 1).bind fun (y5 : Int32) =>
        (zgI 8 M4 v0 2).bind fun (y6 : Int32) =>
        (zgR 8 M4 v0 15).bind fun (y7 : Nat) =>
        (fp_X2_paint FD y5 y6 y7 0 0 v1 M4).bind fun p10 => zpp p10 fun (y8 : Int64) (M9 : zM) =>
        some (y8, M9))
      else (
        (fp_X10_refuse v0 1 M).bind fun p13 => zpp p13 fun (y11 : Int32) (M12 : zM) =>
        some ((y11.toInt64), M12))))
set_option maxHeartbeats 4000000 in
set_option maxRecDepth 100000 in
theorem th_X10_paintings {v0 : Nat} {v1 : Int32} {M : zM} {x0 : Int64 × zM} (h : fp_X10_paintings v0 v1 M = some x0) : v0 < zS M ∧ kd v0 = 8 := by
  unfold fp_X10_paintings at h
  exact zthis_of h
set_option maxHeartbeats 4000000 in
set_option maxRecDepth 100000 in
theorem ct_X10_paintings (E : zEnv) (hE : zEok E) (d : Nat) (hd : 23 ≤ d) (v0 : Nat) (v1 : Int32) (M : zM) (x0 : Int64 × zM) (hx : fp_X10_paintings v0 v1 M = some x0) : zCt E mu_X10_paintings d [.ref (E.2.2.2.1 + v0), .int v1] M (some (.long x0.1), x0.2) := by
  refine zCt_of (μ := mu_X10_paintings) (t := fp_X10_paintings v0 v1 M) rfl rfl (Nat.le_of_ble_eq_true rfl) hx ?_
  change zSy E mu_X10_paintings d M (some (.long x0.1), x0.2) x0 (fp_X10_paintings v0 v1 M) 0 [(0, .ref (E.2.2.2.1 + v0)), (1, .int v1)] [] M
  unfold fp_X10_paintings
  refine zs_this (fun hth => ?_)
  refine zs_iload_n dX10_paintings_0 rfl 1 rfl ?_
  refine zs_if_lt dX10_paintings_1 rfl ?_ ?_
  · refine zs_aload_n dX10_paintings_10 rfl 0 rfl ?_
    refine zs_iconst (v := 1) dX10_paintings_11 ciconst_1 ?_
    refine zs_invVWI (rest := []) [.int 1] dX10_paintings_12 lk_X10_102 rfl (fun _ h => th_X10_refuse h) (zd1 rfl hd) rfl (Nat.le_of_ble_eq_true rfl) (ct_X10_refuse E hE _ (zdl rfl hd) _ _ _) (fun y1 M2 => ?_)
    refine zs_i2l dX10_paintings_15 ?_
    exact zs_lretW dX10_paintings_16 trivial
  refine zs_iload_n dX10_paintings_4 rfl 1 rfl ?_
  refine zs_bipush (v := 9) dX10_paintings_5 cbipush_9 ?_
  refine zs_icmp_le dX10_paintings_7 rfl ?_ ?_
  · refine zs_aload_n dX10_paintings_17 rfl 0 rfl ?_
    refine zs_iconst (v := 0) dX10_paintings_18 ciconst_0 ?_
    refine zs_putI dX10_paintings_19 fl_X10_87 ft_X10 rfl rfl rfl rfl rfl (fun M4 => ?_)
    refine zs_aload_n dX10_paintings_22 rfl 0 rfl ?_
    refine zs_getI dX10_paintings_23 fl_X10_129 rfl (fun y5 => ?_)
    refine zs_aload_n dX10_paintings_26 rfl 0 rfl ?_
    refine zs_getI dX10_paintings_27 fl_X10_136 rfl (fun y6 => ?_)
    refine zs_aload_n dX10_paintings_30 rfl 0 rfl ?_
    refine zs_getR dX10_paintings_31 fl_X10_81 rfl (fun y7 => ?_)
    refine zs_iconst (v := 0) dX10_paintings_34 ciconst_0 ?_
    refine zs_iconst (v := 0) dX10_paintings_35 ciconst_0 ?_
    refine zs_iload_n dX10_paintings_36 rfl 1 rfl ?_
    refine zs_invSNWJ (rest := []) [.int y5, .int y6, .ref (E.2.2.2.1 + y7), .int 0, .int 0, .int v1] dX10_paintings_37 lk_X10_270 rfl (zd1 rfl hd) rfl (Nat.le_of_ble_eq_true rfl) (ct_X2_paint E hE FD _ (zdl rfl hd) _ _ _ _ _ _ _) (fun y8 M9 => ?_)
    exact zs_lretW dX10_paintings_40 trivial
  refine zs_aload_n dX10_paintings_10 rfl 0 rfl ?_
  refine zs_iconst (v := 1) dX10_paintings_11 ciconst_1 ?_
  refine zs_invVWI (rest := []) [.int 1] dX10_paintings_12 lk_X10_102 rfl (fun _ h => th_X10_refuse h) (zd1 rfl hd) rfl (Nat.le_of_ble_eq_true rfl) (ct_X10_refuse E hE _ (zdl rfl hd) _ _ _) (fun y11 M12 => ?_)
  refine zs_i2l dX10_paintings_15 ?_
  exact zs_lretW dX10_paintings_16 trivial
theorem dX10_hasModel_0 : decode cX10_hasModel 0 = .ok (.aload_n 0, 1) := by decide +kernel
theorem dX10_hasModel_1 : decode cX10_hasModel 1 = .ok (.getfield 57, 3) := by decide +kernel
theorem dX10_hasModel_4 : decode cX10_hasModel 4 = .ok (.aload_n 0, 1) := by decide +kernel
theorem dX10_hasModel_5 : decode cX10_hasModel 5 = .ok (.getfield 129, 3) := by decide +kernel
theorem dX10_hasModel_8 : decode cX10_hasModel 8 = .ok (.aload_n 0, 1) := by decide +kernel
theorem dX10_hasModel_9 : decode cX10_hasModel 9 = .ok (.getfield 136, 3) := by decide +kernel
theorem dX10_hasModel_12 : decode cX10_hasModel 12 = .ok (.ldc 157, 2) := by decide +kernel
theorem dX10_hasModel_14 : decode cX10_hasModel 14 = .ok (.invokevirtual 158, 3) := by decide +kernel
theorem dX10_hasModel_17 : decode cX10_hasModel 17 = .ok (.iload_n 1, 1) := by decide +kernel
theorem dX10_hasModel_18 : decode cX10_hasModel 18 = .ok (.ifCond .lt 18, 3) := by decide +kernel
theorem dX10_hasModel_21 : decode cX10_hasModel 21 = .ok (.iload_n 1, 1) := by decide +kernel
theorem dX10_hasModel_22 : decode cX10_hasModel 22 = .ok (.aload_n 0, 1) := by decide +kernel
theorem dX10_hasModel_23 : decode cX10_hasModel 23 = .ok (.getfield 57, 3) := by decide +kernel
theorem dX10_hasModel_26 : decode cX10_hasModel 26 = .ok (.getfield 161, 3) := by decide +kernel
theorem dX10_hasModel_29 : decode cX10_hasModel 29 = .ok (.if_icmp .ge 7, 3) := by decide +kernel
theorem dX10_hasModel_32 : decode cX10_hasModel 32 = .ok (.iconst 1, 1) := by decide +kernel
theorem dX10_hasModel_33 : decode cX10_hasModel 33 = .ok (.goto 4, 3) := by decide +kernel
theorem dX10_hasModel_36 : decode cX10_hasModel 36 = .ok (.iconst 0, 1) := by decide +kernel
theorem dX10_hasModel_37 : decode cX10_hasModel 37 = .ok (.ireturn, 1) := by decide +kernel
def fp_X10_hasModel (v0 : Nat) (v1 : Int32) (M : zM) : Option (Int32 × zM) :=
  zthis 8 M v0 (
    (zgR 8 M v0 10).bind fun (y1 : Nat) =>
    (zgI 8 M v0 1).bind fun (y2 : Int32) =>
    (zgI 8 M v0 2).bind fun (y3 : Int32) =>
    (fp_X1_gather y1 y2 y3 80000 M).bind fun (M4 : zM) =>
    if v1 < 0 then (
      some (0, M4))
    else (
      (zgR 8 M4 v0 10).bind fun (y5 : Nat) =>
      (zgI 1 M4 y5 0).bind fun (y6 : Int32) =>
      if v1 ≥ y6 then (
        some (0, M4))
      else (
        some (1, M4))))
set_option maxHeartbeats 4000000 in
set_option maxRecDepth 100000 in
theorem th_X10_hasModel {v0 : Nat} {v1 : Int32} {M : zM} {x0 : Int32 × zM} (h : fp_X10_hasModel v0 v1 M = some x0) : v0 < zS M ∧ kd v0 = 8 := by
  unfold fp_X10_hasModel at h
  exact zthis_of h
set_option maxHeartbeats 4000000 in
set_option maxRecDepth 100000 in
theorem ct_X10_hasModel (E : zEnv) (hE : zEok E) (d : Nat) (hd : 27 ≤ d) (v0 : Nat) (v1 : Int32) (M : zM) (x0 : Int32 × zM) (hx : fp_X10_hasModel v0 v1 M = some x0) : zCt E mu_X10_hasModel d [.ref (E.2.2.2.1 + v0), .int v1] M (some (.int x0.1), x0.2) := by
  refine zCt_of (μ := mu_X10_hasModel) (t := fp_X10_hasModel v0 v1 M) rfl rfl (Nat.le_of_ble_eq_true rfl) hx ?_
  change zSy E mu_X10_hasModel d M (some (.int x0.1), x0.2) x0 (fp_X10_hasModel v0 v1 M) 0 [(0, .ref (E.2.2.2.1 + v0)), (1, .int v1)] [] M
  unfold fp_X10_hasModel
  refine zs_this (fun hth => ?_)
  refine zs_aload_n dX10_hasModel_0 rfl 0 rfl ?_
  refine zs_getR dX10_hasModel_1 fl_X10_57 rfl (fun y1 => ?_)
  refine zs_aload_n dX10_hasModel_4 rfl 0 rfl ?_
  refine zs_getI dX10_hasModel_5 fl_X10_129 rfl (fun y2 => ?_)
  refine zs_aload_n dX10_hasModel_8 rfl 0 rfl ?_
  refine zs_getI dX10_hasModel_9 fl_X10_136 rfl (fun y3 => ?_)
  refine zs_ldc (v := 80000) dX10_hasModel_12 (ti_3 86 rfl rfl) ?_
  refine zs_invVWV (rest := []) [.int y2, .int y3, .int 80000] dX10_hasModel_14 lk_X10_158 rfl (fun _ h => th_X1_gather h) (zd1 rfl hd) rfl (Nat.le_of_ble_eq_true rfl) (ct_X1_gather E hE _ (zdl rfl hd) _ _ _ _ _) (fun M4 => ?_)
  refine zs_iload_n dX10_hasModel_17 rfl 1 rfl ?_
  refine zs_if_lt dX10_hasModel_18 rfl ?_ ?_
  · refine zs_iconst (v := 0) dX10_hasModel_36 ciconst_0 ?_
    exact zs_iretW dX10_hasModel_37 rfl
  refine zs_iload_n dX10_hasModel_21 rfl 1 rfl ?_
  refine zs_aload_n dX10_hasModel_22 rfl 0 rfl ?_
  refine zs_getR dX10_hasModel_23 fl_X10_57 rfl (fun y5 => ?_)
  refine zs_getI dX10_hasModel_26 fl_X10_161 rfl (fun y6 => ?_)
  refine zs_icmp_ge dX10_hasModel_29 rfl ?_ ?_
  · refine zs_iconst (v := 0) dX10_hasModel_36 ciconst_0 ?_
    exact zs_iretW dX10_hasModel_37 rfl
  refine zs_iconst (v := 1) dX10_hasModel_32 ciconst_1 ?_
  refine zs_goto dX10_hasModel_33 rfl ?_
  exact zs_iretW dX10_hasModel_37 rfl
theorem dX10_letter_0 : decode cX10_letter 0 = .ok (.iload_n 1, 1) := by decide +kernel
theorem dX10_letter_1 : decode cX10_letter 1 = .ok (.ifCond .lt 7, 3) := by decide +kernel
theorem dX10_letter_4 : decode cX10_letter 4 = .ok (.iload_n 2, 1) := by decide +kernel
theorem dX10_letter_5 : decode cX10_letter 5 = .ok (.ifCond .ge 9, 3) := by decide +kernel
theorem dX10_letter_8 : decode cX10_letter 8 = .ok (.aload_n 0, 1) := by decide +kernel
theorem dX10_letter_9 : decode cX10_letter 9 = .ok (.iconst 1, 1) := by decide +kernel
theorem dX10_letter_10 : decode cX10_letter 10 = .ok (.invokevirtual 102, 3) := by decide +kernel
theorem dX10_letter_13 : decode cX10_letter 13 = .ok (.ireturn, 1) := by decide +kernel
theorem dX10_letter_14 : decode cX10_letter 14 = .ok (.aload_n 0, 1) := by decide +kernel
theorem dX10_letter_15 : decode cX10_letter 15 = .ok (.iload_n 1, 1) := by decide +kernel
theorem dX10_letter_16 : decode cX10_letter 16 = .ok (.invokevirtual 274, 3) := by decide +kernel
theorem dX10_letter_19 : decode cX10_letter 19 = .ok (.ifCond .eq 13, 3) := by decide +kernel
theorem dX10_letter_22 : decode cX10_letter 22 = .ok (.iload_n 2, 1) := by decide +kernel
theorem dX10_letter_23 : decode cX10_letter 23 = .ok (.iconst 2, 1) := by decide +kernel
theorem dX10_letter_24 : decode cX10_letter 24 = .ok (.aload_n 0, 1) := by decide +kernel
theorem dX10_letter_25 : decode cX10_letter 25 = .ok (.getfield 129, 3) := by decide +kernel
theorem dX10_letter_28 : decode cX10_letter 28 = .ok (.imul, 1) := by decide +kernel
theorem dX10_letter_29 : decode cX10_letter 29 = .ok (.if_icmp .lt 10, 3) := by decide +kernel
theorem dX10_letter_32 : decode cX10_letter 32 = .ok (.aload_n 0, 1) := by decide +kernel
theorem dX10_letter_33 : decode cX10_letter 33 = .ok (.bipush 6, 2) := by decide +kernel
theorem dX10_letter_35 : decode cX10_letter 35 = .ok (.invokevirtual 102, 3) := by decide +kernel
theorem dX10_letter_38 : decode cX10_letter 38 = .ok (.ireturn, 1) := by decide +kernel
theorem dX10_letter_39 : decode cX10_letter 39 = .ok (.aload_n 0, 1) := by decide +kernel
theorem dX10_letter_40 : decode cX10_letter 40 = .ok (.getfield 57, 3) := by decide +kernel
theorem dX10_letter_43 : decode cX10_letter 43 = .ok (.iload_n 1, 1) := by decide +kernel
theorem dX10_letter_44 : decode cX10_letter 44 = .ok (.aload_n 0, 1) := by decide +kernel
theorem dX10_letter_45 : decode cX10_letter 45 = .ok (.getfield 84, 3) := by decide +kernel
theorem dX10_letter_48 : decode cX10_letter 48 = .ok (.invokevirtual 277, 3) := by decide +kernel
theorem dX10_letter_51 : decode cX10_letter 51 = .ok (.aload_n 0, 1) := by decide +kernel
theorem dX10_letter_52 : decode cX10_letter 52 = .ok (.aload_n 0, 1) := by decide +kernel
theorem dX10_letter_53 : decode cX10_letter 53 = .ok (.getfield 84, 3) := by decide +kernel
theorem dX10_letter_56 : decode cX10_letter 56 = .ok (.iload_n 2, 1) := by decide +kernel
theorem dX10_letter_57 : decode cX10_letter 57 = .ok (.iaload, 1) := by decide +kernel
theorem dX10_letter_58 : decode cX10_letter 58 = .ok (.invokevirtual 130, 3) := by decide +kernel
theorem dX10_letter_61 : decode cX10_letter 61 = .ok (.ireturn, 1) := by decide +kernel
def fp_X10_letter (v0 : Nat) (v1 : Int32) (v2 : Int32) (M : zM) : Option (Int32 × zM) :=
  zthis 8 M v0 (
    if v1 < 0 then (
      (fp_X10_refuse v0 1 M).bind fun p3 => zpp p3 fun (y1 : Int32) (M2 : zM) =>
      some (y1, M2))
    else (
      if v2 ≥ 0 then (
        (fp_X10_hasModel v0 v1 M).bind fun p6 => zpp p6 fun (y4 : Int32) (M5 : zM) =>
        if y4 = 0 then (
          (fp_X10_refuse v0 6 M5).bind fun p9 => zpp p9 fun (y7 : Int32) (M8 : zM) =>
          some (y7, M8))
        else (
          (zgI 8 M5 v0 1).bind fun (y10 : Int32) =>
          if v2 < (2 * y10) then (
            (zgR 8 M5 v0 10).bind fun (y11 : Nat) =>
            (zgR 8 M5 v0 16).bind fun (y12 : Nat) =>
            (fp_X1_spell y11 v1 y12 M5).bind fun (M13 : zM) =>
            (zgR 8 M13 v0 16).bind fun (y14 : Nat) =>
            (zlI 100 M13 y14 v2).bind fun (y15 : Int32) =>
            (fp_X10_answer v0 y15 M13).bind fun p18 => zpp p18 fun (y16 : Int32) (M17 : zM) =>
            some (y16, M17))
          else (
            (fp_X10_refuse v0 6 M5).bind fun p21 => zpp p21 fun (y19 : Int32) (M20 : zM) =>
            some (y19, M20))))
      else (
        (fp_X10_refuse v0 1 M).bind fun p24 => zpp p24 fun (y22 : Int32) (M23 : zM) =>
        some (y22, M23))))
set_option maxHeartbeats 4000000 in
set_option maxRecDepth 100000 in
theorem th_X10_letter {v0 : Nat} {v1 : Int32} {v2 : Int32} {M : zM} {x0 : Int32 × zM} (h : fp_X10_letter v0 v1 v2 M = some x0) : v0 < zS M ∧ kd v0 = 8 := by
  unfold fp_X10_letter at h
  exact zthis_of h
set_option maxHeartbeats 4000000 in
set_option maxRecDepth 100000 in
theorem ct_X10_letter (E : zEnv) (hE : zEok E) (d : Nat) (hd : 28 ≤ d) (v0 : Nat) (v1 : Int32) (v2 : Int32) (M : zM) (x0 : Int32 × zM) (hx : fp_X10_letter v0 v1 v2 M = some x0) : zCt E mu_X10_letter d [.ref (E.2.2.2.1 + v0), .int v1, .int v2] M (some (.int x0.1), x0.2) := by
  refine zCt_of (μ := mu_X10_letter) (t := fp_X10_letter v0 v1 v2 M) rfl rfl (Nat.le_of_ble_eq_true rfl) hx ?_
  change zSy E mu_X10_letter d M (some (.int x0.1), x0.2) x0 (fp_X10_letter v0 v1 v2 M) 0 [(0, .ref (E.2.2.2.1 + v0)), (1, .int v1), (2, .int v2)] [] M
  unfold fp_X10_letter
  refine zs_this (fun hth => ?_)
  refine zs_iload_n dX10_letter_0 rfl 1 rfl ?_
  refine zs_if_lt dX10_letter_1 rfl ?_ ?_
  · refine zs_aload_n dX10_letter_8 rfl 0 rfl ?_
    refine zs_iconst (v := 1) dX10_letter_9 ciconst_1 ?_
    refine zs_invVWI (rest := []) [.int 1] dX10_letter_10 lk_X10_102 rfl (fun _ h => th_X10_refuse h) (zd1 rfl hd) rfl (Nat.le_of_ble_eq_true rfl) (ct_X10_refuse E hE _ (zdl rfl hd) _ _ _) (fun y1 M2 => ?_)
    exact zs_iretW dX10_letter_13 rfl
  refine zs_iload_n dX10_letter_4 rfl 2 rfl ?_
  refine zs_if_ge dX10_letter_5 rfl ?_ ?_
  · refine zs_aload_n dX10_letter_14 rfl 0 rfl ?_
    refine zs_iload_n dX10_letter_15 rfl 1 rfl ?_
    refine zs_invVWI (rest := []) [.int v1] dX10_letter_16 lk_X10_274 rfl (fun _ h => th_X10_hasModel h) (zd1 rfl hd) rfl (Nat.le_of_ble_eq_true rfl) (ct_X10_hasModel E hE _ (zdl rfl hd) _ _ _) (fun y4 M5 => ?_)
    refine zs_if_eq dX10_letter_19 rfl ?_ ?_
    · refine zs_aload_n dX10_letter_32 rfl 0 rfl ?_
      refine zs_bipush (v := 6) dX10_letter_33 cbipush_6 ?_
      refine zs_invVWI (rest := []) [.int 6] dX10_letter_35 lk_X10_102 rfl (fun _ h => th_X10_refuse h) (zd1 rfl hd) rfl (Nat.le_of_ble_eq_true rfl) (ct_X10_refuse E hE _ (zdl rfl hd) _ _ _) (fun y7 M8 => ?_)
      exact zs_iretW dX10_letter_38 rfl
    refine zs_iload_n dX10_letter_22 rfl 2 rfl ?_
    refine zs_iconst (v := 2) dX10_letter_23 ciconst_2 ?_
    refine zs_aload_n dX10_letter_24 rfl 0 rfl ?_
    refine zs_getI dX10_letter_25 fl_X10_129 rfl (fun y10 => ?_)
    refine zs_imul dX10_letter_28 ?_
    refine zs_icmp_lt dX10_letter_29 rfl ?_ ?_
    · refine zs_aload_n dX10_letter_39 rfl 0 rfl ?_
      refine zs_getR dX10_letter_40 fl_X10_57 rfl (fun y11 => ?_)
      refine zs_iload_n dX10_letter_43 rfl 1 rfl ?_
      refine zs_aload_n dX10_letter_44 rfl 0 rfl ?_
      refine zs_getR dX10_letter_45 fl_X10_84 rfl (fun y12 => ?_)
      refine zs_invVWV (rest := []) [.int v1, .ref (E.2.2.2.1 + y12)] dX10_letter_48 lk_X10_277 rfl (fun _ h => th_X1_spell h) (zd1 rfl hd) rfl (Nat.le_of_ble_eq_true rfl) (ct_X1_spell E hE _ (zdl rfl hd) _ _ _ _) (fun M13 => ?_)
      refine zs_aload_n dX10_letter_51 rfl 0 rfl ?_
      refine zs_aload_n dX10_letter_52 rfl 0 rfl ?_
      refine zs_getR dX10_letter_53 fl_X10_84 rfl (fun y14 => ?_)
      refine zs_iload_n dX10_letter_56 rfl 2 rfl ?_
      refine zs_ldI dX10_letter_57 (fun y15 => ?_)
      refine zs_invVWI (rest := []) [.int y15] dX10_letter_58 lk_X10_130 rfl (fun _ h => th_X10_answer h) (zd1 rfl hd) rfl (Nat.le_of_ble_eq_true rfl) (ct_X10_answer E hE _ (zdl rfl hd) _ _ _) (fun y16 M17 => ?_)
      exact zs_iretW dX10_letter_61 rfl
    refine zs_aload_n dX10_letter_32 rfl 0 rfl ?_
    refine zs_bipush (v := 6) dX10_letter_33 cbipush_6 ?_
    refine zs_invVWI (rest := []) [.int 6] dX10_letter_35 lk_X10_102 rfl (fun _ h => th_X10_refuse h) (zd1 rfl hd) rfl (Nat.le_of_ble_eq_true rfl) (ct_X10_refuse E hE _ (zdl rfl hd) _ _ _) (fun y19 M20 => ?_)
    exact zs_iretW dX10_letter_38 rfl
  refine zs_aload_n dX10_letter_8 rfl 0 rfl ?_
  refine zs_iconst (v := 1) dX10_letter_9 ciconst_1 ?_
  refine zs_invVWI (rest := []) [.int 1] dX10_letter_10 lk_X10_102 rfl (fun _ h => th_X10_refuse h) (zd1 rfl hd) rfl (Nat.le_of_ble_eq_true rfl) (ct_X10_refuse E hE _ (zdl rfl hd) _ _ _) (fun y22 M23 => ?_)
  exact zs_iretW dX10_letter_13 rfl
theorem dX10_badModelPoint_0 : decode cX10_badModelPoint 0 = .ok (.iload_n 1, 1) := by decide +kernel
theorem dX10_badModelPoint_1 : decode cX10_badModelPoint 1 = .ok (.ifCond .ge 5, 3) := by decide +kernel
theorem dX10_badModelPoint_4 : decode cX10_badModelPoint 4 = .ok (.iconst 1, 1) := by decide +kernel
theorem dX10_badModelPoint_5 : decode cX10_badModelPoint 5 = .ok (.ireturn, 1) := by decide +kernel
theorem dX10_badModelPoint_6 : decode cX10_badModelPoint 6 = .ok (.aload_n 0, 1) := by decide +kernel
theorem dX10_badModelPoint_7 : decode cX10_badModelPoint 7 = .ok (.iload_n 2, 1) := by decide +kernel
theorem dX10_badModelPoint_8 : decode cX10_badModelPoint 8 = .ok (.invokevirtual 164, 3) := by decide +kernel
theorem dX10_badModelPoint_11 : decode cX10_badModelPoint 11 = .ok (.ifCond .ne 5, 3) := by decide +kernel
theorem dX10_badModelPoint_14 : decode cX10_badModelPoint 14 = .ok (.iconst 2, 1) := by decide +kernel
theorem dX10_badModelPoint_15 : decode cX10_badModelPoint 15 = .ok (.ireturn, 1) := by decide +kernel
theorem dX10_badModelPoint_16 : decode cX10_badModelPoint 16 = .ok (.aload_n 0, 1) := by decide +kernel
theorem dX10_badModelPoint_17 : decode cX10_badModelPoint 17 = .ok (.iload_n 1, 1) := by decide +kernel
theorem dX10_badModelPoint_18 : decode cX10_badModelPoint 18 = .ok (.invokevirtual 274, 3) := by decide +kernel
theorem dX10_badModelPoint_21 : decode cX10_badModelPoint 21 = .ok (.ifCond .eq 7, 3) := by decide +kernel
theorem dX10_badModelPoint_24 : decode cX10_badModelPoint 24 = .ok (.iconst 0, 1) := by decide +kernel
theorem dX10_badModelPoint_25 : decode cX10_badModelPoint 25 = .ok (.goto 5, 3) := by decide +kernel
theorem dX10_badModelPoint_28 : decode cX10_badModelPoint 28 = .ok (.bipush 6, 2) := by decide +kernel
theorem dX10_badModelPoint_30 : decode cX10_badModelPoint 30 = .ok (.ireturn, 1) := by decide +kernel
def fp_X10_badModelPoint (v0 : Nat) (v1 : Int32) (v2 : Int32) (M : zM) : Option (Int32 × zM) :=
  zthis 8 M v0 (
    if v1 ≥ 0 then (
      (fp_X10_hasPoint v0 v2 M).bind fun (y1 : Int32) =>
      if y1 ≠ 0 then (
        (fp_X10_hasModel v0 v1 M).bind fun p4 => zpp p4 fun (y2 : Int32) (M3 : zM) =>
        if y2 = 0 then (
          some (6, M3))
        else (
          some (0, M3)))
      else (
        some (2, M)))
    else (
      some (1, M)))
set_option maxHeartbeats 4000000 in
set_option maxRecDepth 100000 in
theorem th_X10_badModelPoint {v0 : Nat} {v1 : Int32} {v2 : Int32} {M : zM} {x0 : Int32 × zM} (h : fp_X10_badModelPoint v0 v1 v2 M = some x0) : v0 < zS M ∧ kd v0 = 8 := by
  unfold fp_X10_badModelPoint at h
  exact zthis_of h
set_option maxHeartbeats 4000000 in
set_option maxRecDepth 100000 in
theorem ct_X10_badModelPoint (E : zEnv) (hE : zEok E) (d : Nat) (hd : 28 ≤ d) (v0 : Nat) (v1 : Int32) (v2 : Int32) (M : zM) (x0 : Int32 × zM) (hx : fp_X10_badModelPoint v0 v1 v2 M = some x0) : zCt E mu_X10_badModelPoint d [.ref (E.2.2.2.1 + v0), .int v1, .int v2] M (some (.int x0.1), x0.2) := by
  refine zCt_of (μ := mu_X10_badModelPoint) (t := fp_X10_badModelPoint v0 v1 v2 M) rfl rfl (Nat.le_of_ble_eq_true rfl) hx ?_
  change zSy E mu_X10_badModelPoint d M (some (.int x0.1), x0.2) x0 (fp_X10_badModelPoint v0 v1 v2 M) 0 [(0, .ref (E.2.2.2.1 + v0)), (1, .int v1), (2, .int v2)] [] M
  unfold fp_X10_badModelPoint
  refine zs_this (fun hth => ?_)
  refine zs_iload_n dX10_badModelPoint_0 rfl 1 rfl ?_
  refine zs_if_ge dX10_badModelPoint_1 rfl ?_ ?_
  · refine zs_aload_n dX10_badModelPoint_6 rfl 0 rfl ?_
    refine zs_iload_n dX10_badModelPoint_7 rfl 2 rfl ?_
    refine zs_invVPI (rest := []) [.int v2] dX10_badModelPoint_8 lk_X10_164 rfl (fun _ h => th_X10_hasPoint h) (zd1 rfl hd) rfl (Nat.le_of_ble_eq_true rfl) (ct_X10_hasPoint E hE _ (zdl rfl hd) _ _ _) (fun y1 => ?_)
    refine zs_if_ne dX10_badModelPoint_11 rfl ?_ ?_
    · refine zs_aload_n dX10_badModelPoint_16 rfl 0 rfl ?_
      refine zs_iload_n dX10_badModelPoint_17 rfl 1 rfl ?_
      refine zs_invVWI (rest := []) [.int v1] dX10_badModelPoint_18 lk_X10_274 rfl (fun _ h => th_X10_hasModel h) (zd1 rfl hd) rfl (Nat.le_of_ble_eq_true rfl) (ct_X10_hasModel E hE _ (zdl rfl hd) _ _ _) (fun y2 M3 => ?_)
      refine zs_if_eq dX10_badModelPoint_21 rfl ?_ ?_
      · refine zs_bipush (v := 6) dX10_badModelPoint_28 cbipush_6 ?_
        exact zs_iretW dX10_badModelPoint_30 rfl
      refine zs_iconst (v := 0) dX10_badModelPoint_24 ciconst_0 ?_
      refine zs_goto dX10_badModelPoint_25 rfl ?_
      exact zs_iretW dX10_badModelPoint_30 rfl
    refine zs_iconst (v := 2) dX10_badModelPoint_14 ciconst_2 ?_
    exact zs_iretW dX10_badModelPoint_15 rfl
  refine zs_iconst (v := 1) dX10_badModelPoint_4 ciconst_1 ?_
  exact zs_iretW dX10_badModelPoint_5 rfl
theorem dX10_span_0 : decode cX10_span 0 = .ok (.aload_n 0, 1) := by decide +kernel
theorem dX10_span_1 : decode cX10_span 1 = .ok (.iload_n 1, 1) := by decide +kernel
theorem dX10_span_2 : decode cX10_span 2 = .ok (.iload_n 2, 1) := by decide +kernel
theorem dX10_span_3 : decode cX10_span 3 = .ok (.invokevirtual 281, 3) := by decide +kernel
theorem dX10_span_6 : decode cX10_span 6 = .ok (.istore_n 3, 1) := by decide +kernel
theorem dX10_span_7 : decode cX10_span 7 = .ok (.iload_n 3, 1) := by decide +kernel
theorem dX10_span_8 : decode cX10_span 8 = .ok (.ifCond .eq 9, 3) := by decide +kernel
theorem dX10_span_11 : decode cX10_span 11 = .ok (.aload_n 0, 1) := by decide +kernel
theorem dX10_span_12 : decode cX10_span 12 = .ok (.iload_n 3, 1) := by decide +kernel
theorem dX10_span_13 : decode cX10_span 13 = .ok (.invokevirtual 102, 3) := by decide +kernel
theorem dX10_span_16 : decode cX10_span 16 = .ok (.ireturn, 1) := by decide +kernel
theorem dX10_span_17 : decode cX10_span 17 = .ok (.aload_n 0, 1) := by decide +kernel
theorem dX10_span_18 : decode cX10_span 18 = .ok (.getfield 57, 3) := by decide +kernel
theorem dX10_span_21 : decode cX10_span 21 = .ok (.iload_n 1, 1) := by decide +kernel
theorem dX10_span_22 : decode cX10_span 22 = .ok (.aload_n 0, 1) := by decide +kernel
theorem dX10_span_23 : decode cX10_span 23 = .ok (.getfield 84, 3) := by decide +kernel
theorem dX10_span_26 : decode cX10_span 26 = .ok (.invokevirtual 277, 3) := by decide +kernel
theorem dX10_span_29 : decode cX10_span 29 = .ok (.aload_n 0, 1) := by decide +kernel
theorem dX10_span_30 : decode cX10_span 30 = .ok (.aload_n 0, 1) := by decide +kernel
theorem dX10_span_31 : decode cX10_span 31 = .ok (.getfield 84, 3) := by decide +kernel
theorem dX10_span_34 : decode cX10_span 34 = .ok (.iconst 2, 1) := by decide +kernel
theorem dX10_span_35 : decode cX10_span 35 = .ok (.aload_n 0, 1) := by decide +kernel
theorem dX10_span_36 : decode cX10_span 36 = .ok (.getfield 129, 3) := by decide +kernel
theorem dX10_span_39 : decode cX10_span 39 = .ok (.imul, 1) := by decide +kernel
theorem dX10_span_40 : decode cX10_span 40 = .ok (.iload_n 2, 1) := by decide +kernel
theorem dX10_span_41 : decode cX10_span 41 = .ok (.invokestatic 284, 3) := by decide +kernel
theorem dX10_span_44 : decode cX10_span 44 = .ok (.invokevirtual 130, 3) := by decide +kernel
theorem dX10_span_47 : decode cX10_span 47 = .ok (.ireturn, 1) := by decide +kernel
def fp_X10_span (v0 : Nat) (v1 : Int32) (v2 : Int32) (M : zM) : Option (Int32 × zM) :=
  zthis 8 M v0 (
    (fp_X10_badModelPoint v0 v1 v2 M).bind fun p3 => zpp p3 fun (y1 : Int32) (M2 : zM) =>
    if y1 = 0 then (
      (zgR 8 M2 v0 10).bind fun (y4 : Nat) =>
      (zgR 8 M2 v0 16).bind fun (y5 : Nat) =>
      (fp_X1_spell y4 v1 y5 M2).bind fun (M6 : zM) =>
      (zgR 8 M6 v0 16).bind fun (y7 : Nat) =>
      (zgI 8 M6 v0 1).bind fun (y8 : Int32) =>
      (fp_X5_spanOf y7 (2 * y8) v2 M6).bind fun (y9 : Int32) =>
      (fp_X10_answer v0 y9 M6).bind fun p12 => zpp p12 fun (y10 : Int32) (M11 : zM) =>
      some (y10, M11))
    else (
      (fp_X10_refuse v0 y1 M2).bind fun p15 => zpp p15 fun (y13 : Int32) (M14 : zM) =>
      some (y13, M14)))
set_option maxHeartbeats 4000000 in
set_option maxRecDepth 100000 in
theorem th_X10_span {v0 : Nat} {v1 : Int32} {v2 : Int32} {M : zM} {x0 : Int32 × zM} (h : fp_X10_span v0 v1 v2 M = some x0) : v0 < zS M ∧ kd v0 = 8 := by
  unfold fp_X10_span at h
  exact zthis_of h
set_option maxHeartbeats 4000000 in
set_option maxRecDepth 100000 in
theorem ct_X10_span (E : zEnv) (hE : zEok E) (d : Nat) (hd : 29 ≤ d) (v0 : Nat) (v1 : Int32) (v2 : Int32) (M : zM) (x0 : Int32 × zM) (hx : fp_X10_span v0 v1 v2 M = some x0) : zCt E mu_X10_span d [.ref (E.2.2.2.1 + v0), .int v1, .int v2] M (some (.int x0.1), x0.2) := by
  refine zCt_of (μ := mu_X10_span) (t := fp_X10_span v0 v1 v2 M) rfl rfl (Nat.le_of_ble_eq_true rfl) hx ?_
  change zSy E mu_X10_span d M (some (.int x0.1), x0.2) x0 (fp_X10_span v0 v1 v2 M) 0 [(0, .ref (E.2.2.2.1 + v0)), (1, .int v1), (2, .int v2)] [] M
  unfold fp_X10_span
  refine zs_this (fun hth => ?_)
  refine zs_aload_n dX10_span_0 rfl 0 rfl ?_
  refine zs_iload_n dX10_span_1 rfl 1 rfl ?_
  refine zs_iload_n dX10_span_2 rfl 2 rfl ?_
  refine zs_invVWI (rest := []) [.int v1, .int v2] dX10_span_3 lk_X10_281 rfl (fun _ h => th_X10_badModelPoint h) (zd1 rfl hd) rfl (Nat.le_of_ble_eq_true rfl) (ct_X10_badModelPoint E hE _ (zdl rfl hd) _ _ _ _) (fun y1 M2 => ?_)
  refine zs_istore_n (loc' := [(0, .ref (E.2.2.2.1 + v0)), (1, .int v1), (2, .int v2), (3, .int y1)]) dX10_span_6 rfl (Nat.le_of_ble_eq_true rfl) [1, 2, 3, 0] rfl ?_
  refine zs_iload_n dX10_span_7 rfl 3 rfl ?_
  refine zs_if_eq dX10_span_8 rfl ?_ ?_
  · refine zs_aload_n dX10_span_17 rfl 0 rfl ?_
    refine zs_getR dX10_span_18 fl_X10_57 rfl (fun y4 => ?_)
    refine zs_iload_n dX10_span_21 rfl 1 rfl ?_
    refine zs_aload_n dX10_span_22 rfl 0 rfl ?_
    refine zs_getR dX10_span_23 fl_X10_84 rfl (fun y5 => ?_)
    refine zs_invVWV (rest := []) [.int v1, .ref (E.2.2.2.1 + y5)] dX10_span_26 lk_X10_277 rfl (fun _ h => th_X1_spell h) (zd1 rfl hd) rfl (Nat.le_of_ble_eq_true rfl) (ct_X1_spell E hE _ (zdl rfl hd) _ _ _ _) (fun M6 => ?_)
    refine zs_aload_n dX10_span_29 rfl 0 rfl ?_
    refine zs_aload_n dX10_span_30 rfl 0 rfl ?_
    refine zs_getR dX10_span_31 fl_X10_84 rfl (fun y7 => ?_)
    refine zs_iconst (v := 2) dX10_span_34 ciconst_2 ?_
    refine zs_aload_n dX10_span_35 rfl 0 rfl ?_
    refine zs_getI dX10_span_36 fl_X10_129 rfl (fun y8 => ?_)
    refine zs_imul dX10_span_39 ?_
    refine zs_iload_n dX10_span_40 rfl 2 rfl ?_
    refine zs_invSPI (rest := [.ref (E.2.2.2.1 + v0)]) [.ref (E.2.2.2.1 + y7), .int (2 * y8), .int v2] dX10_span_41 lk_X10_284 rfl (zd1 rfl hd) rfl (Nat.le_of_ble_eq_true rfl) (ct_X5_spanOf E hE _ (zdl rfl hd) _ _ _ _) (fun y9 => ?_)
    refine zs_invVWI (rest := []) [.int y9] dX10_span_44 lk_X10_130 rfl (fun _ h => th_X10_answer h) (zd1 rfl hd) rfl (Nat.le_of_ble_eq_true rfl) (ct_X10_answer E hE _ (zdl rfl hd) _ _ _) (fun y10 M11 => ?_)
    exact zs_iretW dX10_span_47 rfl
  refine zs_aload_n dX10_span_11 rfl 0 rfl ?_
  refine zs_iload_n dX10_span_12 rfl 3 rfl ?_
  refine zs_invVWI (rest := []) [.int y1] dX10_span_13 lk_X10_102 rfl (fun _ h => th_X10_refuse h) (zd1 rfl hd) rfl (Nat.le_of_ble_eq_true rfl) (ct_X10_refuse E hE _ (zdl rfl hd) _ _ _) (fun y13 M14 => ?_)
  exact zs_iretW dX10_span_16 rfl
theorem dX10_bitsOf_0 : decode cX10_bitsOf 0 = .ok (.fload_n 0, 1) := by decide +kernel
theorem dX10_bitsOf_1 : decode cX10_bitsOf 1 = .ok (.fconst 0, 1) := by decide +kernel
theorem dX10_bitsOf_2 : decode cX10_bitsOf 2 = .ok (.fcmp .l, 1) := by decide +kernel
theorem dX10_bitsOf_3 : decode cX10_bitsOf 3 = .ok (.ifCond .gt 5, 3) := by decide +kernel
theorem dX10_bitsOf_6 : decode cX10_bitsOf 6 = .ok (.iconst 0, 1) := by decide +kernel
theorem dX10_bitsOf_7 : decode cX10_bitsOf 7 = .ok (.ireturn, 1) := by decide +kernel
theorem dX10_bitsOf_8 : decode cX10_bitsOf 8 = .ok (.fload_n 0, 1) := by decide +kernel
theorem dX10_bitsOf_9 : decode cX10_bitsOf 9 = .ok (.fstore_n 1, 1) := by decide +kernel
theorem dX10_bitsOf_10 : decode cX10_bitsOf 10 = .ok (.bipush 127, 2) := by decide +kernel
theorem dX10_bitsOf_12 : decode cX10_bitsOf 12 = .ok (.istore_n 2, 1) := by decide +kernel
theorem dX10_bitsOf_13 : decode cX10_bitsOf 13 = .ok (.iconst 0, 1) := by decide +kernel
theorem dX10_bitsOf_14 : decode cX10_bitsOf 14 = .ok (.istore_n 3, 1) := by decide +kernel
theorem dX10_bitsOf_15 : decode cX10_bitsOf 15 = .ok (.iload_n 3, 1) := by decide +kernel
theorem dX10_bitsOf_16 : decode cX10_bitsOf 16 = .ok (.bipush 127, 2) := by decide +kernel
theorem dX10_bitsOf_18 : decode cX10_bitsOf 18 = .ok (.if_icmp .ge 22, 3) := by decide +kernel
theorem dX10_bitsOf_21 : decode cX10_bitsOf 21 = .ok (.fload_n 1, 1) := by decide +kernel
theorem dX10_bitsOf_22 : decode cX10_bitsOf 22 = .ok (.fconst 2, 1) := by decide +kernel
theorem dX10_bitsOf_23 : decode cX10_bitsOf 23 = .ok (.fcmp .l, 1) := by decide +kernel
theorem dX10_bitsOf_24 : decode cX10_bitsOf 24 = .ok (.ifCond .lt 16, 3) := by decide +kernel
theorem dX10_bitsOf_27 : decode cX10_bitsOf 27 = .ok (.fload_n 1, 1) := by decide +kernel
theorem dX10_bitsOf_28 : decode cX10_bitsOf 28 = .ok (.fconst 2, 1) := by decide +kernel
theorem dX10_bitsOf_29 : decode cX10_bitsOf 29 = .ok (.fdiv, 1) := by decide +kernel
theorem dX10_bitsOf_30 : decode cX10_bitsOf 30 = .ok (.fstore_n 1, 1) := by decide +kernel
theorem dX10_bitsOf_31 : decode cX10_bitsOf 31 = .ok (.iinc 2 1, 3) := by decide +kernel
theorem dX10_bitsOf_34 : decode cX10_bitsOf 34 = .ok (.iinc 3 1, 3) := by decide +kernel
theorem dX10_bitsOf_37 : decode cX10_bitsOf 37 = .ok (.goto (-22), 3) := by decide +kernel
theorem dX10_bitsOf_40 : decode cX10_bitsOf 40 = .ok (.iconst 0, 1) := by decide +kernel
theorem dX10_bitsOf_41 : decode cX10_bitsOf 41 = .ok (.istore_n 3, 1) := by decide +kernel
theorem dX10_bitsOf_42 : decode cX10_bitsOf 42 = .ok (.iload_n 3, 1) := by decide +kernel
theorem dX10_bitsOf_43 : decode cX10_bitsOf 43 = .ok (.bipush 126, 2) := by decide +kernel
theorem dX10_bitsOf_45 : decode cX10_bitsOf 45 = .ok (.if_icmp .ge 22, 3) := by decide +kernel
theorem dX10_bitsOf_48 : decode cX10_bitsOf 48 = .ok (.fload_n 1, 1) := by decide +kernel
theorem dX10_bitsOf_49 : decode cX10_bitsOf 49 = .ok (.fconst 1, 1) := by decide +kernel
theorem dX10_bitsOf_50 : decode cX10_bitsOf 50 = .ok (.fcmp .g, 1) := by decide +kernel
theorem dX10_bitsOf_51 : decode cX10_bitsOf 51 = .ok (.ifCond .ge 16, 3) := by decide +kernel
theorem dX10_bitsOf_54 : decode cX10_bitsOf 54 = .ok (.fload_n 1, 1) := by decide +kernel
theorem dX10_bitsOf_55 : decode cX10_bitsOf 55 = .ok (.fconst 2, 1) := by decide +kernel
theorem dX10_bitsOf_56 : decode cX10_bitsOf 56 = .ok (.fmul, 1) := by decide +kernel
theorem dX10_bitsOf_57 : decode cX10_bitsOf 57 = .ok (.fstore_n 1, 1) := by decide +kernel
theorem dX10_bitsOf_58 : decode cX10_bitsOf 58 = .ok (.iinc 2 (-1), 3) := by decide +kernel
theorem dX10_bitsOf_61 : decode cX10_bitsOf 61 = .ok (.iinc 3 1, 3) := by decide +kernel
theorem dX10_bitsOf_64 : decode cX10_bitsOf 64 = .ok (.goto (-22), 3) := by decide +kernel
theorem dX10_bitsOf_67 : decode cX10_bitsOf 67 = .ok (.iload_n 2, 1) := by decide +kernel
theorem dX10_bitsOf_68 : decode cX10_bitsOf 68 = .ok (.bipush 23, 2) := by decide +kernel
theorem dX10_bitsOf_70 : decode cX10_bitsOf 70 = .ok (.ishl, 1) := by decide +kernel
theorem dX10_bitsOf_71 : decode cX10_bitsOf 71 = .ok (.fload_n 1, 1) := by decide +kernel
theorem dX10_bitsOf_72 : decode cX10_bitsOf 72 = .ok (.ldc_w 391, 3) := by decide +kernel
theorem dX10_bitsOf_75 : decode cX10_bitsOf 75 = .ok (.fmul, 1) := by decide +kernel
theorem dX10_bitsOf_76 : decode cX10_bitsOf 76 = .ok (.f2i, 1) := by decide +kernel
theorem dX10_bitsOf_77 : decode cX10_bitsOf 77 = .ok (.ldc_w 392, 3) := by decide +kernel
theorem dX10_bitsOf_80 : decode cX10_bitsOf 80 = .ok (.iand, 1) := by decide +kernel
theorem dX10_bitsOf_81 : decode cX10_bitsOf 81 = .ok (.ior, 1) := by decide +kernel
theorem dX10_bitsOf_82 : decode cX10_bitsOf 82 = .ok (.ireturn, 1) := by decide +kernel
def fp_X10_bitsOf_L15 (k40 : UInt32 → Int32 → Option (Int32)) : Nat → UInt32 → Int32 → Int32 → Option (Int32)
  | 0, _, _, _ => none
  | n + 1, v1, v2, v3 =>
    if v3 ≥ 127 then (
      k40 v1 v2)
    else (
      if (Op.cmpValue (FP.fcmp v1 FP.fconst2) .l) < 0 then (
        k40 v1 v2)
      else (
        (zfl (FP.fdiv v1 FP.fconst2)).bind fun (y1 : UInt32) =>
        fp_X10_bitsOf_L15 k40 n y1 (v2 + 1) (v3 + 1)))
def fp_X10_bitsOf_L42 (k67 : UInt32 → Int32 → Option (Int32)) : Nat → UInt32 → Int32 → Int32 → Option (Int32)
  | 0, _, _, _ => none
  | n + 1, v1, v2, v3 =>
    if v3 ≥ 126 then (
      k67 v1 v2)
    else (
      if (Op.cmpValue (FP.fcmp v1 FP.fconst1) .g) ≥ 0 then (
        k67 v1 v2)
      else (
        (zfl (FP.fmul v1 FP.fconst2)).bind fun (y4 : UInt32) =>
        fp_X10_bitsOf_L42 k67 n y4 (v2 + (-1)) (v3 + 1)))
def fp_X10_bitsOf (v0 : UInt32) : Option (Int32) :=
  if (Op.cmpValue (FP.fcmp v0 FP.fconst0) .l) > 0 then (
    fp_X10_bitsOf_L15
      (fun v1_2 v2_3 =>
        fp_X10_bitsOf_L42
          (fun v1_5 v2_6 =>
            (zfl (FP.fmul v1_5 1258291200)).bind fun (y7 : UInt32) =>
            some ((v2_6 <<< (23 &&& 31)) ||| ((FP.f2i y7) &&& 8388607))) FU v1_2 v2_3 0) FU v0 127 0)
  else (
    some 0)
set_option maxHeartbeats 4000000 in
set_option maxRecDepth 100000 in
theorem w_X10_bitsOf_L15 (E : zEnv) (hE : zEok E) (d : Nat) (hd : 1 ≤ d) (x0 : Int32)  (M : zM) (k40 : UInt32 → Int32 → Option (Int32)) (hk40 : ∀ (v1 : UInt32) (v2 : Int32), zSy E mu_X10_bitsOf d M (some (.int x0), M) x0 (k40 v1 v2) 40 [(1, .float v1), (2, .int v2)] [] M) : ∀ (n : Nat) (v1 : UInt32) (v2 : Int32) (v3 : Int32), zSy E mu_X10_bitsOf d M (some (.int x0), M) x0 (fp_X10_bitsOf_L15 k40 n v1 v2 v3) 15 [(1, .float v1), (2, .int v2), (3, .int v3)] [] M := by
  intro n
  induction n with
  | zero =>
    intro v1 v2 v3
    rw [fp_X10_bitsOf_L15]
    exact zs_none
  | succ n ih =>
    intro v1 v2 v3
    rw [fp_X10_bitsOf_L15]
    refine zs_iload_n dX10_bitsOf_15 rfl 2 rfl ?_
    refine zs_bipush (v := 127) dX10_bitsOf_16 cbipush_127 ?_
    refine zs_icmp_ge dX10_bitsOf_18 rfl ?_ ?_
    · refine zs_sub (loc' := [(1, .float v1), (2, .int v2)]) [0, 1] rfl ?_
      exact hk40 v1 v2
    refine zs_fload_n dX10_bitsOf_21 rfl 0 rfl ?_
    refine zs_fconst2 dX10_bitsOf_22 ?_
    refine zs_fcmp dX10_bitsOf_23 ?_
    refine zs_if_lt dX10_bitsOf_24 rfl ?_ ?_
    · refine zs_sub (loc' := [(1, .float v1), (2, .int v2)]) [0, 1] rfl ?_
      exact hk40 v1 v2
    refine zs_fload_n dX10_bitsOf_27 rfl 0 rfl ?_
    refine zs_fconst2 dX10_bitsOf_28 ?_
    refine zs_fdiv dX10_bitsOf_29 (fun y1 => ?_)
    refine zs_fstore_n (loc' := [(1, .float y1), (2, .int v2), (3, .int v3)]) dX10_bitsOf_30 rfl (Nat.le_of_ble_eq_true rfl) [0, 1, 2] rfl ?_
    refine zs_iinc (v := (v2 + 1)) (loc' := [(1, .float y1), (2, .int (v2 + 1)), (3, .int v3)]) dX10_bitsOf_31 1 rfl (by rfl) (Nat.le_of_ble_eq_true rfl) [1, 0, 2] rfl ?_
    refine zs_iinc (v := (v3 + 1)) (loc' := [(1, .float y1), (2, .int (v2 + 1)), (3, .int (v3 + 1))]) dX10_bitsOf_34 2 rfl (by rfl) (Nat.le_of_ble_eq_true rfl) [1, 2, 0] rfl ?_
    refine zs_goto dX10_bitsOf_37 rfl ?_
    exact ih y1 (v2 + 1) (v3 + 1)
set_option maxHeartbeats 4000000 in
set_option maxRecDepth 100000 in
theorem w_X10_bitsOf_L42 (E : zEnv) (hE : zEok E) (d : Nat) (hd : 1 ≤ d) (x0 : Int32)  (M : zM) (k67 : UInt32 → Int32 → Option (Int32)) (hk67 : ∀ (v1 : UInt32) (v2 : Int32), zSy E mu_X10_bitsOf d M (some (.int x0), M) x0 (k67 v1 v2) 67 [(1, .float v1), (2, .int v2)] [] M) : ∀ (n : Nat) (v1 : UInt32) (v2 : Int32) (v3 : Int32), zSy E mu_X10_bitsOf d M (some (.int x0), M) x0 (fp_X10_bitsOf_L42 k67 n v1 v2 v3) 42 [(1, .float v1), (2, .int v2), (3, .int v3)] [] M := by
  intro n
  induction n with
  | zero =>
    intro v1 v2 v3
    rw [fp_X10_bitsOf_L42]
    exact zs_none
  | succ n ih =>
    intro v1 v2 v3
    rw [fp_X10_bitsOf_L42]
    refine zs_iload_n dX10_bitsOf_42 rfl 2 rfl ?_
    refine zs_bipush (v := 126) dX10_bitsOf_43 cbipush_126 ?_
    refine zs_icmp_ge dX10_bitsOf_45 rfl ?_ ?_
    · refine zs_sub (loc' := [(1, .float v1), (2, .int v2)]) [0, 1] rfl ?_
      exact hk67 v1 v2
    refine zs_fload_n dX10_bitsOf_48 rfl 0 rfl ?_
    refine zs_fconst1 dX10_bitsOf_49 ?_
    refine zs_fcmp dX10_bitsOf_50 ?_
    refine zs_if_ge dX10_bitsOf_51 rfl ?_ ?_
    · refine zs_sub (loc' := [(1, .float v1), (2, .int v2)]) [0, 1] rfl ?_
      exact hk67 v1 v2
    refine zs_fload_n dX10_bitsOf_54 rfl 0 rfl ?_
    refine zs_fconst2 dX10_bitsOf_55 ?_
    refine zs_fmul dX10_bitsOf_56 (fun y4 => ?_)
    refine zs_fstore_n (loc' := [(1, .float y4), (2, .int v2), (3, .int v3)]) dX10_bitsOf_57 rfl (Nat.le_of_ble_eq_true rfl) [0, 1, 2] rfl ?_
    refine zs_iinc (v := (v2 + (-1))) (loc' := [(1, .float y4), (2, .int (v2 + (-1))), (3, .int v3)]) dX10_bitsOf_58 1 rfl (by rfl) (Nat.le_of_ble_eq_true rfl) [1, 0, 2] rfl ?_
    refine zs_iinc (v := (v3 + 1)) (loc' := [(1, .float y4), (2, .int (v2 + (-1))), (3, .int (v3 + 1))]) dX10_bitsOf_61 2 rfl (by rfl) (Nat.le_of_ble_eq_true rfl) [1, 2, 0] rfl ?_
    refine zs_goto dX10_bitsOf_64 rfl ?_
    exact ih y4 (v2 + (-1)) (v3 + 1)
set_option maxHeartbeats 4000000 in
set_option maxRecDepth 100000 in
theorem ct_X10_bitsOf (E : zEnv) (hE : zEok E) (d : Nat) (hd : 1 ≤ d) (v0 : UInt32) (M : zM) (x0 : Int32) (hx : fp_X10_bitsOf v0 = some x0) : zCt E mu_X10_bitsOf d [.float v0] M (some (.int x0), M) := by
  refine zCt_of (μ := mu_X10_bitsOf) (t := fp_X10_bitsOf v0) rfl rfl (Nat.le_of_ble_eq_true rfl) hx ?_
  change zSy E mu_X10_bitsOf d M (some (.int x0), M) x0 (fp_X10_bitsOf v0) 0 [(0, .float v0)] [] M
  unfold fp_X10_bitsOf
  refine zs_fload_n dX10_bitsOf_0 rfl 0 rfl ?_
  refine zs_fconst0 dX10_bitsOf_1 ?_
  refine zs_fcmp dX10_bitsOf_2 ?_
  refine zs_if_gt dX10_bitsOf_3 rfl ?_ ?_
  · refine zs_fload_n dX10_bitsOf_8 rfl 0 rfl ?_
    refine zs_fstore_n (loc' := [(1, .float v0)]) dX10_bitsOf_9 rfl (Nat.le_of_ble_eq_true rfl) [0] rfl ?_
    refine zs_bipush (v := 127) dX10_bitsOf_10 cbipush_127 ?_
    refine zs_istore_n (loc' := [(1, .float v0), (2, .int 127)]) dX10_bitsOf_12 rfl (Nat.le_of_ble_eq_true rfl) [1, 0] rfl ?_
    refine zs_iconst (v := 0) dX10_bitsOf_13 ciconst_0 ?_
    refine zs_istore_n (loc' := [(1, .float v0), (2, .int 127), (3, .int 0)]) dX10_bitsOf_14 rfl (Nat.le_of_ble_eq_true rfl) [1, 2, 0] rfl ?_
    refine w_X10_bitsOf_L15 E hE d hd _ _ _ (fun v1_2 v2_3 => ?_) _ _ _ _
    refine zs_iconst (v := 0) dX10_bitsOf_40 ciconst_0 ?_
    refine zs_istore_n (loc' := [(1, .float v1_2), (2, .int v2_3), (3, .int 0)]) dX10_bitsOf_41 rfl (Nat.le_of_ble_eq_true rfl) [1, 2, 0] rfl ?_
    refine w_X10_bitsOf_L42 E hE d hd _ _ _ (fun v1_5 v2_6 => ?_) _ _ _ _
    refine zs_iload_n dX10_bitsOf_67 rfl 1 rfl ?_
    refine zs_bipush (v := 23) dX10_bitsOf_68 cbipush_23 ?_
    refine zs_ishl dX10_bitsOf_70 ?_
    refine zs_fload_n dX10_bitsOf_71 rfl 0 rfl ?_
    refine zs_ldcfw (v := 1258291200) dX10_bitsOf_72 (ti_4 169 rfl rfl) ?_
    refine zs_fmul dX10_bitsOf_75 (fun y7 => ?_)
    refine zs_f2i dX10_bitsOf_76 ?_
    refine zs_ldcw (v := 8388607) dX10_bitsOf_77 (ti_4 170 rfl rfl) ?_
    refine zs_iand dX10_bitsOf_80 ?_
    refine zs_ior dX10_bitsOf_81 ?_
    exact zs_iretP dX10_bitsOf_82 rfl
  refine zs_iconst (v := 0) dX10_bitsOf_6 ciconst_0 ?_
  exact zs_iretP dX10_bitsOf_7 rfl
theorem dX10_mean_0 : decode cX10_mean 0 = .ok (.iload_n 1, 1) := by decide +kernel
theorem dX10_mean_1 : decode cX10_mean 1 = .ok (.ifCond .lt 12, 3) := by decide +kernel
theorem dX10_mean_4 : decode cX10_mean 4 = .ok (.iload_n 2, 1) := by decide +kernel
theorem dX10_mean_5 : decode cX10_mean 5 = .ok (.ifCond .lt 8, 3) := by decide +kernel
theorem dX10_mean_8 : decode cX10_mean 8 = .ok (.iload_n 2, 1) := by decide +kernel
theorem dX10_mean_9 : decode cX10_mean 9 = .ok (.iconst 1, 1) := by decide +kernel
theorem dX10_mean_10 : decode cX10_mean 10 = .ok (.if_icmp .le 9, 3) := by decide +kernel
theorem dX10_mean_13 : decode cX10_mean 13 = .ok (.aload_n 0, 1) := by decide +kernel
theorem dX10_mean_14 : decode cX10_mean 14 = .ok (.iconst 1, 1) := by decide +kernel
theorem dX10_mean_15 : decode cX10_mean 15 = .ok (.invokevirtual 102, 3) := by decide +kernel
theorem dX10_mean_18 : decode cX10_mean 18 = .ok (.ireturn, 1) := by decide +kernel
theorem dX10_mean_19 : decode cX10_mean 19 = .ok (.aload_n 0, 1) := by decide +kernel
theorem dX10_mean_20 : decode cX10_mean 20 = .ok (.iload_n 1, 1) := by decide +kernel
theorem dX10_mean_21 : decode cX10_mean 21 = .ok (.invokevirtual 274, 3) := by decide +kernel
theorem dX10_mean_24 : decode cX10_mean 24 = .ok (.ifCond .ne 10, 3) := by decide +kernel
theorem dX10_mean_27 : decode cX10_mean 27 = .ok (.aload_n 0, 1) := by decide +kernel
theorem dX10_mean_28 : decode cX10_mean 28 = .ok (.bipush 6, 2) := by decide +kernel
theorem dX10_mean_30 : decode cX10_mean 30 = .ok (.invokevirtual 102, 3) := by decide +kernel
theorem dX10_mean_33 : decode cX10_mean 33 = .ok (.ireturn, 1) := by decide +kernel
theorem dX10_mean_34 : decode cX10_mean 34 = .ok (.aload_n 0, 1) := by decide +kernel
theorem dX10_mean_35 : decode cX10_mean 35 = .ok (.getfield 57, 3) := by decide +kernel
theorem dX10_mean_38 : decode cX10_mean 38 = .ok (.iload_n 1, 1) := by decide +kernel
theorem dX10_mean_39 : decode cX10_mean 39 = .ok (.aload_n 0, 1) := by decide +kernel
theorem dX10_mean_40 : decode cX10_mean 40 = .ok (.getfield 84, 3) := by decide +kernel
theorem dX10_mean_43 : decode cX10_mean 43 = .ok (.invokevirtual 277, 3) := by decide +kernel
theorem dX10_mean_46 : decode cX10_mean 46 = .ok (.iload_n 2, 1) := by decide +kernel
theorem dX10_mean_47 : decode cX10_mean 47 = .ok (.ifCond .ne 17, 3) := by decide +kernel
theorem dX10_mean_50 : decode cX10_mean 50 = .ok (.aload_n 0, 1) := by decide +kernel
theorem dX10_mean_51 : decode cX10_mean 51 = .ok (.getfield 84, 3) := by decide +kernel
theorem dX10_mean_54 : decode cX10_mean 54 = .ok (.aload_n 0, 1) := by decide +kernel
theorem dX10_mean_55 : decode cX10_mean 55 = .ok (.getfield 129, 3) := by decide +kernel
theorem dX10_mean_58 : decode cX10_mean 58 = .ok (.invokestatic 290, 3) := by decide +kernel
theorem dX10_mean_61 : decode cX10_mean 61 = .ok (.goto 14, 3) := by decide +kernel
theorem dX10_mean_64 : decode cX10_mean 64 = .ok (.aload_n 0, 1) := by decide +kernel
theorem dX10_mean_65 : decode cX10_mean 65 = .ok (.getfield 84, 3) := by decide +kernel
theorem dX10_mean_68 : decode cX10_mean 68 = .ok (.aload_n 0, 1) := by decide +kernel
theorem dX10_mean_69 : decode cX10_mean 69 = .ok (.getfield 129, 3) := by decide +kernel
theorem dX10_mean_72 : decode cX10_mean 72 = .ok (.invokestatic 294, 3) := by decide +kernel
theorem dX10_mean_75 : decode cX10_mean 75 = .ok (.fstore_n 3, 1) := by decide +kernel
theorem dX10_mean_76 : decode cX10_mean 76 = .ok (.aload_n 0, 1) := by decide +kernel
theorem dX10_mean_77 : decode cX10_mean 77 = .ok (.fload_n 3, 1) := by decide +kernel
theorem dX10_mean_78 : decode cX10_mean 78 = .ok (.invokestatic 297, 3) := by decide +kernel
theorem dX10_mean_81 : decode cX10_mean 81 = .ok (.invokevirtual 130, 3) := by decide +kernel
theorem dX10_mean_84 : decode cX10_mean 84 = .ok (.ireturn, 1) := by decide +kernel
def fp_X10_mean (v0 : Nat) (v1 : Int32) (v2 : Int32) (M : zM) : Option (Int32 × zM) :=
  zthis 8 M v0 (
    if v1 < 0 then (
      (fp_X10_refuse v0 1 M).bind fun p3 => zpp p3 fun (y1 : Int32) (M2 : zM) =>
      some (y1, M2))
    else (
      if v2 < 0 then (
        (fp_X10_refuse v0 1 M).bind fun p6 => zpp p6 fun (y4 : Int32) (M5 : zM) =>
        some (y4, M5))
      else (
        if v2 ≤ 1 then (
          (fp_X10_hasModel v0 v1 M).bind fun p9 => zpp p9 fun (y7 : Int32) (M8 : zM) =>
          if y7 ≠ 0 then (
            (zgR 8 M8 v0 10).bind fun (y10 : Nat) =>
            (zgR 8 M8 v0 16).bind fun (y11 : Nat) =>
            (fp_X1_spell y10 v1 y11 M8).bind fun (M12 : zM) =>
            zjn (fun (s13 : UInt32) =>
                (fp_X10_bitsOf s13).bind fun (y14 : Int32) =>
                (fp_X10_answer v0 y14 M12).bind fun p17 => zpp p17 fun (y15 : Int32) (M16 : zM) =>
                some (y15, M16))
              (fun j75 =>
                if v2 ≠ 0 then (
                  (zgR 8 M12 v0 16).bind fun (y18 : Nat) =>
                  (zgI 8 M12 v0 1).bind fun (y19 : Int32) =>
                  (fp_X5_even y18 y19 M12).bind fun (y20 : UInt32) =>
                  j75 y20)
                else (
                  (zgR 8 M12 v0 16).bind fun (y21 : Nat) =>
                  (zgI 8 M12 v0 1).bind fun (y22 : Int32) =>
                  (fp_X5_meanSpan y21 y22 M12).bind fun (y23 : UInt32) =>
                  j75 y23)))
          else (
            (fp_X10_refuse v0 6 M8).bind fun p26 => zpp p26 fun (y24 : Int32) (M25 : zM) =>
            some (y24, M25)))
        else (
          (fp_X10_refuse v0 1 M).bind fun p29 => zpp p29 fun (y27 : Int32) (M28 : zM) =>
          some (y27, M28)))))
set_option maxHeartbeats 4000000 in
set_option maxRecDepth 100000 in
theorem th_X10_mean {v0 : Nat} {v1 : Int32} {v2 : Int32} {M : zM} {x0 : Int32 × zM} (h : fp_X10_mean v0 v1 v2 M = some x0) : v0 < zS M ∧ kd v0 = 8 := by
  unfold fp_X10_mean at h
  exact zthis_of h
set_option maxHeartbeats 4000000 in
set_option maxRecDepth 100000 in
theorem ct_X10_mean (E : zEnv) (hE : zEok E) (d : Nat) (hd : 28 ≤ d) (v0 : Nat) (v1 : Int32) (v2 : Int32) (M : zM) (x0 : Int32 × zM) (hx : fp_X10_mean v0 v1 v2 M = some x0) : zCt E mu_X10_mean d [.ref (E.2.2.2.1 + v0), .int v1, .int v2] M (some (.int x0.1), x0.2) := by
  refine zCt_of (μ := mu_X10_mean) (t := fp_X10_mean v0 v1 v2 M) rfl rfl (Nat.le_of_ble_eq_true rfl) hx ?_
  change zSy E mu_X10_mean d M (some (.int x0.1), x0.2) x0 (fp_X10_mean v0 v1 v2 M) 0 [(0, .ref (E.2.2.2.1 + v0)), (1, .int v1), (2, .int v2)] [] M
  unfold fp_X10_mean
  refine zs_this (fun hth => ?_)
  refine zs_iload_n dX10_mean_0 rfl 1 rfl ?_
  refine zs_if_lt dX10_mean_1 rfl ?_ ?_
  · refine zs_aload_n dX10_mean_13 rfl 0 rfl ?_
    refine zs_iconst (v := 1) dX10_mean_14 ciconst_1 ?_
    refine zs_invVWI (rest := []) [.int 1] dX10_mean_15 lk_X10_102 rfl (fun _ h => th_X10_refuse h) (zd1 rfl hd) rfl (Nat.le_of_ble_eq_true rfl) (ct_X10_refuse E hE _ (zdl rfl hd) _ _ _) (fun y1 M2 => ?_)
    exact zs_iretW dX10_mean_18 rfl
  refine zs_iload_n dX10_mean_4 rfl 2 rfl ?_
  refine zs_if_lt dX10_mean_5 rfl ?_ ?_
  · refine zs_aload_n dX10_mean_13 rfl 0 rfl ?_
    refine zs_iconst (v := 1) dX10_mean_14 ciconst_1 ?_
    refine zs_invVWI (rest := []) [.int 1] dX10_mean_15 lk_X10_102 rfl (fun _ h => th_X10_refuse h) (zd1 rfl hd) rfl (Nat.le_of_ble_eq_true rfl) (ct_X10_refuse E hE _ (zdl rfl hd) _ _ _) (fun y4 M5 => ?_)
    exact zs_iretW dX10_mean_18 rfl
  refine zs_iload_n dX10_mean_8 rfl 2 rfl ?_
  refine zs_iconst (v := 1) dX10_mean_9 ciconst_1 ?_
  refine zs_icmp_le dX10_mean_10 rfl ?_ ?_
  · refine zs_aload_n dX10_mean_19 rfl 0 rfl ?_
    refine zs_iload_n dX10_mean_20 rfl 1 rfl ?_
    refine zs_invVWI (rest := []) [.int v1] dX10_mean_21 lk_X10_274 rfl (fun _ h => th_X10_hasModel h) (zd1 rfl hd) rfl (Nat.le_of_ble_eq_true rfl) (ct_X10_hasModel E hE _ (zdl rfl hd) _ _ _) (fun y7 M8 => ?_)
    refine zs_if_ne dX10_mean_24 rfl ?_ ?_
    · refine zs_aload_n dX10_mean_34 rfl 0 rfl ?_
      refine zs_getR dX10_mean_35 fl_X10_57 rfl (fun y10 => ?_)
      refine zs_iload_n dX10_mean_38 rfl 1 rfl ?_
      refine zs_aload_n dX10_mean_39 rfl 0 rfl ?_
      refine zs_getR dX10_mean_40 fl_X10_84 rfl (fun y11 => ?_)
      refine zs_invVWV (rest := []) [.int v1, .ref (E.2.2.2.1 + y11)] dX10_mean_43 lk_X10_277 rfl (fun _ h => th_X1_spell h) (zd1 rfl hd) rfl (Nat.le_of_ble_eq_true rfl) (ct_X1_spell E hE _ (zdl rfl hd) _ _ _ _) (fun M12 => ?_)
      refine zs_iload_n dX10_mean_46 rfl 2 rfl ?_
      refine zs_jn (fun j75 => ∀ (s13 : UInt32), zSy E mu_X10_mean d M (some (.int x0.1), x0.2) x0 (j75 s13) 75 [(0, .ref (E.2.2.2.1 + v0))] [.float s13] M12) (fun s13 => ?_) (fun j75 hj75 => ?_)
      · refine zs_fstore_n (loc' := [(0, .ref (E.2.2.2.1 + v0)), (3, .float s13)]) dX10_mean_75 rfl (Nat.le_of_ble_eq_true rfl) [1, 0] rfl ?_
        refine zs_aload_n dX10_mean_76 rfl 0 rfl ?_
        refine zs_fload_n dX10_mean_77 rfl 1 rfl ?_
        refine zs_invSPI (rest := [.ref (E.2.2.2.1 + v0)]) [.float s13] dX10_mean_78 lk_X10_297 rfl (zd1 rfl hd) rfl (Nat.le_of_ble_eq_true rfl) (ct_X10_bitsOf E hE _ (zdl rfl hd) _ _) (fun y14 => ?_)
        refine zs_invVWI (rest := []) [.int y14] dX10_mean_81 lk_X10_130 rfl (fun _ h => th_X10_answer h) (zd1 rfl hd) rfl (Nat.le_of_ble_eq_true rfl) (ct_X10_answer E hE _ (zdl rfl hd) _ _ _) (fun y15 M16 => ?_)
        exact zs_iretW dX10_mean_84 rfl
      refine zs_if_ne dX10_mean_47 rfl ?_ ?_
      · refine zs_aload_n dX10_mean_64 rfl 0 rfl ?_
        refine zs_getR dX10_mean_65 fl_X10_84 rfl (fun y18 => ?_)
        refine zs_aload_n dX10_mean_68 rfl 0 rfl ?_
        refine zs_getI dX10_mean_69 fl_X10_129 rfl (fun y19 => ?_)
        refine zs_invSPF (rest := []) [.ref (E.2.2.2.1 + y18), .int y19] dX10_mean_72 lk_X10_294 rfl (zd1 rfl hd) rfl (Nat.le_of_ble_eq_true rfl) (ct_X5_even E hE _ (zdl rfl hd) _ _ _) (fun y20 => ?_)
        refine zs_sub (loc' := [(0, .ref (E.2.2.2.1 + v0))]) [0] rfl ?_
        exact hj75 y20
      refine zs_aload_n dX10_mean_50 rfl 0 rfl ?_
      refine zs_getR dX10_mean_51 fl_X10_84 rfl (fun y21 => ?_)
      refine zs_aload_n dX10_mean_54 rfl 0 rfl ?_
      refine zs_getI dX10_mean_55 fl_X10_129 rfl (fun y22 => ?_)
      refine zs_invSPF (rest := []) [.ref (E.2.2.2.1 + y21), .int y22] dX10_mean_58 lk_X10_290 rfl (zd1 rfl hd) rfl (Nat.le_of_ble_eq_true rfl) (ct_X5_meanSpan E hE _ (zdl rfl hd) _ _ _) (fun y23 => ?_)
      refine zs_goto dX10_mean_61 rfl ?_
      refine zs_sub (loc' := [(0, .ref (E.2.2.2.1 + v0))]) [0] rfl ?_
      exact hj75 y23
    refine zs_aload_n dX10_mean_27 rfl 0 rfl ?_
    refine zs_bipush (v := 6) dX10_mean_28 cbipush_6 ?_
    refine zs_invVWI (rest := []) [.int 6] dX10_mean_30 lk_X10_102 rfl (fun _ h => th_X10_refuse h) (zd1 rfl hd) rfl (Nat.le_of_ble_eq_true rfl) (ct_X10_refuse E hE _ (zdl rfl hd) _ _ _) (fun y24 M25 => ?_)
    exact zs_iretW dX10_mean_33 rfl
  refine zs_aload_n dX10_mean_13 rfl 0 rfl ?_
  refine zs_iconst (v := 1) dX10_mean_14 ciconst_1 ?_
  refine zs_invVWI (rest := []) [.int 1] dX10_mean_15 lk_X10_102 rfl (fun _ h => th_X10_refuse h) (zd1 rfl hd) rfl (Nat.le_of_ble_eq_true rfl) (ct_X10_refuse E hE _ (zdl rfl hd) _ _ _) (fun y27 M28 => ?_)
  exact zs_iretW dX10_mean_18 rfl
theorem dX10_find_0 : decode cX10_find 0 = .ok (.aload_n 0, 1) := by decide +kernel
theorem dX10_find_1 : decode cX10_find 1 = .ok (.getfield 10, 3) := by decide +kernel
theorem dX10_find_4 : decode cX10_find 4 = .ok (.iload_n 1, 1) := by decide +kernel
theorem dX10_find_5 : decode cX10_find 5 = .ok (.invokevirtual 98, 3) := by decide +kernel
theorem dX10_find_8 : decode cX10_find 8 = .ok (.ifCond .ne 9, 3) := by decide +kernel
theorem dX10_find_11 : decode cX10_find 11 = .ok (.aload_n 0, 1) := by decide +kernel
theorem dX10_find_12 : decode cX10_find 12 = .ok (.iconst 1, 1) := by decide +kernel
theorem dX10_find_13 : decode cX10_find 13 = .ok (.invokevirtual 102, 3) := by decide +kernel
theorem dX10_find_16 : decode cX10_find 16 = .ok (.ireturn, 1) := by decide +kernel
theorem dX10_find_17 : decode cX10_find 17 = .ok (.iload_n 1, 1) := by decide +kernel
theorem dX10_find_18 : decode cX10_find 18 = .ok (.iconst 2, 1) := by decide +kernel
theorem dX10_find_19 : decode cX10_find 19 = .ok (.aload_n 0, 1) := by decide +kernel
theorem dX10_find_20 : decode cX10_find 20 = .ok (.getfield 129, 3) := by decide +kernel
theorem dX10_find_23 : decode cX10_find 23 = .ok (.imul, 1) := by decide +kernel
theorem dX10_find_24 : decode cX10_find 24 = .ok (.if_icmp .ne 33, 3) := by decide +kernel
theorem dX10_find_27 : decode cX10_find 27 = .ok (.aload_n 0, 1) := by decide +kernel
theorem dX10_find_28 : decode cX10_find 28 = .ok (.getfield 10, 3) := by decide +kernel
theorem dX10_find_31 : decode cX10_find 31 = .ok (.iload_n 1, 1) := by decide +kernel
theorem dX10_find_32 : decode cX10_find 32 = .ok (.aload_n 0, 1) := by decide +kernel
theorem dX10_find_33 : decode cX10_find 33 = .ok (.getfield 84, 3) := by decide +kernel
theorem dX10_find_36 : decode cX10_find 36 = .ok (.invokevirtual 301, 3) := by decide +kernel
theorem dX10_find_39 : decode cX10_find 39 = .ok (.ifCond .eq 18, 3) := by decide +kernel
theorem dX10_find_42 : decode cX10_find 42 = .ok (.aload_n 0, 1) := by decide +kernel
theorem dX10_find_43 : decode cX10_find 43 = .ok (.getfield 84, 3) := by decide +kernel
theorem dX10_find_46 : decode cX10_find 46 = .ok (.iload_n 1, 1) := by decide +kernel
theorem dX10_find_47 : decode cX10_find 47 = .ok (.aload_n 0, 1) := by decide +kernel
theorem dX10_find_48 : decode cX10_find 48 = .ok (.getfield 129, 3) := by decide +kernel
theorem dX10_find_51 : decode cX10_find 51 = .ok (.invokestatic 305, 3) := by decide +kernel
theorem dX10_find_54 : decode cX10_find 54 = .ok (.ifCond .ne 10, 3) := by decide +kernel
theorem dX10_find_57 : decode cX10_find 57 = .ok (.aload_n 0, 1) := by decide +kernel
theorem dX10_find_58 : decode cX10_find 58 = .ok (.bipush 6, 2) := by decide +kernel
theorem dX10_find_60 : decode cX10_find 60 = .ok (.invokevirtual 102, 3) := by decide +kernel
theorem dX10_find_63 : decode cX10_find 63 = .ok (.ireturn, 1) := by decide +kernel
theorem dX10_find_64 : decode cX10_find 64 = .ok (.aload_n 0, 1) := by decide +kernel
theorem dX10_find_65 : decode cX10_find 65 = .ok (.getfield 57, 3) := by decide +kernel
theorem dX10_find_68 : decode cX10_find 68 = .ok (.aload_n 0, 1) := by decide +kernel
theorem dX10_find_69 : decode cX10_find 69 = .ok (.getfield 129, 3) := by decide +kernel
theorem dX10_find_72 : decode cX10_find 72 = .ok (.aload_n 0, 1) := by decide +kernel
theorem dX10_find_73 : decode cX10_find 73 = .ok (.getfield 136, 3) := by decide +kernel
theorem dX10_find_76 : decode cX10_find 76 = .ok (.ldc 157, 2) := by decide +kernel
theorem dX10_find_78 : decode cX10_find 78 = .ok (.invokevirtual 158, 3) := by decide +kernel
theorem dX10_find_81 : decode cX10_find 81 = .ok (.aload_n 0, 1) := by decide +kernel
theorem dX10_find_82 : decode cX10_find 82 = .ok (.getfield 57, 3) := by decide +kernel
theorem dX10_find_85 : decode cX10_find 85 = .ok (.aload_n 0, 1) := by decide +kernel
theorem dX10_find_86 : decode cX10_find 86 = .ok (.getfield 84, 3) := by decide +kernel
theorem dX10_find_89 : decode cX10_find 89 = .ok (.iload_n 1, 1) := by decide +kernel
theorem dX10_find_90 : decode cX10_find 90 = .ok (.invokestatic 309, 3) := by decide +kernel
theorem dX10_find_93 : decode cX10_find 93 = .ok (.invokevirtual 313, 3) := by decide +kernel
theorem dX10_find_96 : decode cX10_find 96 = .ok (.istore_n 2, 1) := by decide +kernel
theorem dX10_find_97 : decode cX10_find 97 = .ok (.iload_n 2, 1) := by decide +kernel
theorem dX10_find_98 : decode cX10_find 98 = .ok (.ifCond .ge 10, 3) := by decide +kernel
theorem dX10_find_101 : decode cX10_find 101 = .ok (.aload_n 0, 1) := by decide +kernel
theorem dX10_find_102 : decode cX10_find 102 = .ok (.bipush 6, 2) := by decide +kernel
theorem dX10_find_104 : decode cX10_find 104 = .ok (.invokevirtual 102, 3) := by decide +kernel
theorem dX10_find_107 : decode cX10_find 107 = .ok (.ireturn, 1) := by decide +kernel
theorem dX10_find_108 : decode cX10_find 108 = .ok (.aload_n 0, 1) := by decide +kernel
theorem dX10_find_109 : decode cX10_find 109 = .ok (.getfield 10, 3) := by decide +kernel
theorem dX10_find_112 : decode cX10_find 112 = .ok (.iconst 0, 1) := by decide +kernel
theorem dX10_find_113 : decode cX10_find 113 = .ok (.putfield 91, 3) := by decide +kernel
theorem dX10_find_116 : decode cX10_find 116 = .ok (.aload_n 0, 1) := by decide +kernel
theorem dX10_find_117 : decode cX10_find 117 = .ok (.iload_n 2, 1) := by decide +kernel
theorem dX10_find_118 : decode cX10_find 118 = .ok (.invokevirtual 130, 3) := by decide +kernel
theorem dX10_find_121 : decode cX10_find 121 = .ok (.ireturn, 1) := by decide +kernel
def fp_X10_find (v0 : Nat) (v1 : Int32) (M : zM) : Option (Int32 × zM) :=
  zthis 8 M v0 (
    (zgR 8 M v0 4).bind fun (y1 : Nat) =>
    (fp_X7_holds y1 v1 M).bind fun (y2 : Int32) =>
    if y2 ≠ 0 then (
      (zgI 8 M v0 1).bind fun (y3 : Int32) =>
      if v1 ≠ (2 * y3) then (
        (fp_X10_refuse v0 6 M).bind fun p6 => zpp p6 fun (y4 : Int32) (M5 : zM) =>
        some (y4, M5))
      else (
        (zgR 8 M v0 4).bind fun (y7 : Nat) =>
        (zgR 8 M v0 16).bind fun (y8 : Nat) =>
        (fp_X7_copyLetters y7 v1 y8 M).bind fun p11 => zpp p11 fun (y9 : Int32) (M10 : zM) =>
        if y9 = 0 then (
          (fp_X10_refuse v0 6 M10).bind fun p14 => zpp p14 fun (y12 : Int32) (M13 : zM) =>
          some (y12, M13))
        else (
          (zgR 8 M10 v0 16).bind fun (y15 : Nat) =>
          (zgI 8 M10 v0 1).bind fun (y16 : Int32) =>
          (fp_X5_isChordWord y15 v1 y16 M10).bind fun (y17 : Int32) =>
          if y17 ≠ 0 then (
            (zgR 8 M10 v0 10).bind fun (y18 : Nat) =>
            (zgI 8 M10 v0 1).bind fun (y19 : Int32) =>
            (zgI 8 M10 v0 2).bind fun (y20 : Int32) =>
            (fp_X1_gather y18 y19 y20 80000 M10).bind fun (M21 : zM) =>
            (zgR 8 M21 v0 10).bind fun (y22 : Nat) =>
            (zgR 8 M21 v0 16).bind fun (y23 : Nat) =>
            (fp_X5_leastReading y23 v1 M21).bind fun (y24 : Int64) =>
            (fp_X1_indexOf y22 y24 M21).bind fun (y25 : Int32) =>
            if y25 ≥ 0 then (
              (zgR 8 M21 v0 4).bind fun (y26 : Nat) =>
              (zpI 5 M21 y26 1 0).bind fun (M27 : zM) =>
              (fp_X10_answer v0 y25 M27).bind fun p30 => zpp p30 fun (y28 : Int32) (M29 : zM) =>
              some (y28, M29))
            else (
              (fp_X10_refuse v0 6 M21).bind fun p33 => zpp p33 fun (y31 : Int32) (M32 : zM) =>
              some (y31, M32)))
          else (
            (fp_X10_refuse v0 6 M10).bind fun p36 => zpp p36 fun (y34 : Int32) (M35 : zM) =>
            some (y34, M35)))))
    else (
      (fp_X10_refuse v0 1 M).bind fun p39 => zpp p39 fun (y37 : Int32) (M38 : zM) =>
      some (y37, M38)))
set_option maxHeartbeats 4000000 in
set_option maxRecDepth 100000 in
theorem th_X10_find {v0 : Nat} {v1 : Int32} {M : zM} {x0 : Int32 × zM} (h : fp_X10_find v0 v1 M = some x0) : v0 < zS M ∧ kd v0 = 8 := by
  unfold fp_X10_find at h
  exact zthis_of h
set_option maxHeartbeats 4000000 in
set_option maxRecDepth 100000 in
theorem ct_X10_find (E : zEnv) (hE : zEok E) (d : Nat) (hd : 27 ≤ d) (v0 : Nat) (v1 : Int32) (M : zM) (x0 : Int32 × zM) (hx : fp_X10_find v0 v1 M = some x0) : zCt E mu_X10_find d [.ref (E.2.2.2.1 + v0), .int v1] M (some (.int x0.1), x0.2) := by
  refine zCt_of (μ := mu_X10_find) (t := fp_X10_find v0 v1 M) rfl rfl (Nat.le_of_ble_eq_true rfl) hx ?_
  change zSy E mu_X10_find d M (some (.int x0.1), x0.2) x0 (fp_X10_find v0 v1 M) 0 [(0, .ref (E.2.2.2.1 + v0)), (1, .int v1)] [] M
  unfold fp_X10_find
  refine zs_this (fun hth => ?_)
  refine zs_aload_n dX10_find_0 rfl 0 rfl ?_
  refine zs_getR dX10_find_1 fl_X10_10 rfl (fun y1 => ?_)
  refine zs_iload_n dX10_find_4 rfl 1 rfl ?_
  refine zs_invVPI (rest := []) [.int v1] dX10_find_5 lk_X10_98 rfl (fun _ h => th_X7_holds h) (zd1 rfl hd) rfl (Nat.le_of_ble_eq_true rfl) (ct_X7_holds E hE _ (zdl rfl hd) _ _ _) (fun y2 => ?_)
  refine zs_if_ne dX10_find_8 rfl ?_ ?_
  · refine zs_iload_n dX10_find_17 rfl 1 rfl ?_
    refine zs_iconst (v := 2) dX10_find_18 ciconst_2 ?_
    refine zs_aload_n dX10_find_19 rfl 0 rfl ?_
    refine zs_getI dX10_find_20 fl_X10_129 rfl (fun y3 => ?_)
    refine zs_imul dX10_find_23 ?_
    refine zs_icmp_ne dX10_find_24 rfl ?_ ?_
    · refine zs_aload_n dX10_find_57 rfl 0 rfl ?_
      refine zs_bipush (v := 6) dX10_find_58 cbipush_6 ?_
      refine zs_invVWI (rest := []) [.int 6] dX10_find_60 lk_X10_102 rfl (fun _ h => th_X10_refuse h) (zd1 rfl hd) rfl (Nat.le_of_ble_eq_true rfl) (ct_X10_refuse E hE _ (zdl rfl hd) _ _ _) (fun y4 M5 => ?_)
      exact zs_iretW dX10_find_63 rfl
    refine zs_aload_n dX10_find_27 rfl 0 rfl ?_
    refine zs_getR dX10_find_28 fl_X10_10 rfl (fun y7 => ?_)
    refine zs_iload_n dX10_find_31 rfl 1 rfl ?_
    refine zs_aload_n dX10_find_32 rfl 0 rfl ?_
    refine zs_getR dX10_find_33 fl_X10_84 rfl (fun y8 => ?_)
    refine zs_invVWI (rest := []) [.int v1, .ref (E.2.2.2.1 + y8)] dX10_find_36 lk_X10_301 rfl (fun _ h => th_X7_copyLetters h) (zd1 rfl hd) rfl (Nat.le_of_ble_eq_true rfl) (ct_X7_copyLetters E hE _ (zdl rfl hd) _ _ _ _) (fun y9 M10 => ?_)
    refine zs_if_eq dX10_find_39 rfl ?_ ?_
    · refine zs_aload_n dX10_find_57 rfl 0 rfl ?_
      refine zs_bipush (v := 6) dX10_find_58 cbipush_6 ?_
      refine zs_invVWI (rest := []) [.int 6] dX10_find_60 lk_X10_102 rfl (fun _ h => th_X10_refuse h) (zd1 rfl hd) rfl (Nat.le_of_ble_eq_true rfl) (ct_X10_refuse E hE _ (zdl rfl hd) _ _ _) (fun y12 M13 => ?_)
      exact zs_iretW dX10_find_63 rfl
    refine zs_aload_n dX10_find_42 rfl 0 rfl ?_
    refine zs_getR dX10_find_43 fl_X10_84 rfl (fun y15 => ?_)
    refine zs_iload_n dX10_find_46 rfl 1 rfl ?_
    refine zs_aload_n dX10_find_47 rfl 0 rfl ?_
    refine zs_getI dX10_find_48 fl_X10_129 rfl (fun y16 => ?_)
    refine zs_invSPI (rest := []) [.ref (E.2.2.2.1 + y15), .int v1, .int y16] dX10_find_51 lk_X10_305 rfl (zd1 rfl hd) rfl (Nat.le_of_ble_eq_true rfl) (ct_X5_isChordWord E hE _ (zdl rfl hd) _ _ _ _) (fun y17 => ?_)
    refine zs_if_ne dX10_find_54 rfl ?_ ?_
    · refine zs_aload_n dX10_find_64 rfl 0 rfl ?_
      refine zs_getR dX10_find_65 fl_X10_57 rfl (fun y18 => ?_)
      refine zs_aload_n dX10_find_68 rfl 0 rfl ?_
      refine zs_getI dX10_find_69 fl_X10_129 rfl (fun y19 => ?_)
      refine zs_aload_n dX10_find_72 rfl 0 rfl ?_
      refine zs_getI dX10_find_73 fl_X10_136 rfl (fun y20 => ?_)
      refine zs_ldc (v := 80000) dX10_find_76 (ti_3 86 rfl rfl) ?_
      refine zs_invVWV (rest := []) [.int y19, .int y20, .int 80000] dX10_find_78 lk_X10_158 rfl (fun _ h => th_X1_gather h) (zd1 rfl hd) rfl (Nat.le_of_ble_eq_true rfl) (ct_X1_gather E hE _ (zdl rfl hd) _ _ _ _ _) (fun M21 => ?_)
      refine zs_aload_n dX10_find_81 rfl 0 rfl ?_
      refine zs_getR dX10_find_82 fl_X10_57 rfl (fun y22 => ?_)
      refine zs_aload_n dX10_find_85 rfl 0 rfl ?_
      refine zs_getR dX10_find_86 fl_X10_84 rfl (fun y23 => ?_)
      refine zs_iload_n dX10_find_89 rfl 1 rfl ?_
      refine zs_invSPJ (rest := [.ref (E.2.2.2.1 + y22)]) [.ref (E.2.2.2.1 + y23), .int v1] dX10_find_90 lk_X10_309 rfl (zd1 rfl hd) rfl (Nat.le_of_ble_eq_true rfl) (ct_X5_leastReading E hE _ (zdl rfl hd) _ _ _) (fun y24 => ?_)
      refine zs_invVPI (rest := []) [.long y24] dX10_find_93 lk_X10_313 rfl (fun _ h => th_X1_indexOf h) (zd1 rfl hd) rfl (Nat.le_of_ble_eq_true rfl) (ct_X1_indexOf E hE _ (zdl rfl hd) _ _ _) (fun y25 => ?_)
      refine zs_istore_n (loc' := [(0, .ref (E.2.2.2.1 + v0)), (2, .int y25)]) dX10_find_96 rfl (Nat.le_of_ble_eq_true rfl) [1, 0] rfl ?_
      refine zs_iload_n dX10_find_97 rfl 1 rfl ?_
      refine zs_if_ge dX10_find_98 rfl ?_ ?_
      · refine zs_aload_n dX10_find_108 rfl 0 rfl ?_
        refine zs_getR dX10_find_109 fl_X10_10 rfl (fun y26 => ?_)
        refine zs_iconst (v := 0) dX10_find_112 ciconst_0 ?_
        refine zs_putI dX10_find_113 fl_X10_91 ft_X7 rfl rfl rfl rfl rfl (fun M27 => ?_)
        refine zs_aload_n dX10_find_116 rfl 0 rfl ?_
        refine zs_iload_n dX10_find_117 rfl 1 rfl ?_
        refine zs_invVWI (rest := []) [.int y25] dX10_find_118 lk_X10_130 rfl (fun _ h => th_X10_answer h) (zd1 rfl hd) rfl (Nat.le_of_ble_eq_true rfl) (ct_X10_answer E hE _ (zdl rfl hd) _ _ _) (fun y28 M29 => ?_)
        exact zs_iretW dX10_find_121 rfl
      refine zs_aload_n dX10_find_101 rfl 0 rfl ?_
      refine zs_bipush (v := 6) dX10_find_102 cbipush_6 ?_
      refine zs_invVWI (rest := []) [.int 6] dX10_find_104 lk_X10_102 rfl (fun _ h => th_X10_refuse h) (zd1 rfl hd) rfl (Nat.le_of_ble_eq_true rfl) (ct_X10_refuse E hE _ (zdl rfl hd) _ _ _) (fun y31 M32 => ?_)
      exact zs_iretW dX10_find_107 rfl
    refine zs_aload_n dX10_find_57 rfl 0 rfl ?_
    refine zs_bipush (v := 6) dX10_find_58 cbipush_6 ?_
    refine zs_invVWI (rest := []) [.int 6] dX10_find_60 lk_X10_102 rfl (fun _ h => th_X10_refuse h) (zd1 rfl hd) rfl (Nat.le_of_ble_eq_true rfl) (ct_X10_refuse E hE _ (zdl rfl hd) _ _ _) (fun y34 M35 => ?_)
    exact zs_iretW dX10_find_63 rfl
  refine zs_aload_n dX10_find_11 rfl 0 rfl ?_
  refine zs_iconst (v := 1) dX10_find_12 ciconst_1 ?_
  refine zs_invVWI (rest := []) [.int 1] dX10_find_13 lk_X10_102 rfl (fun _ h => th_X10_refuse h) (zd1 rfl hd) rfl (Nat.le_of_ble_eq_true rfl) (ct_X10_refuse E hE _ (zdl rfl hd) _ _ _) (fun y37 M38 => ?_)
  exact zs_iretW dX10_find_16 rfl
theorem dX10_cross_0 : decode cX10_cross 0 = .ok (.aload_n 0, 1) := by decide +kernel
theorem dX10_cross_1 : decode cX10_cross 1 = .ok (.getfield 10, 3) := by decide +kernel
theorem dX10_cross_4 : decode cX10_cross 4 = .ok (.iload_n 1, 1) := by decide +kernel
theorem dX10_cross_5 : decode cX10_cross 5 = .ok (.invokevirtual 98, 3) := by decide +kernel
theorem dX10_cross_8 : decode cX10_cross 8 = .ok (.ifCond .eq 23, 3) := by decide +kernel
theorem dX10_cross_11 : decode cX10_cross 11 = .ok (.iload_n 2, 1) := by decide +kernel
theorem dX10_cross_12 : decode cX10_cross 12 = .ok (.ifCond .lt 19, 3) := by decide +kernel
theorem dX10_cross_15 : decode cX10_cross 15 = .ok (.iload_n 2, 1) := by decide +kernel
theorem dX10_cross_16 : decode cX10_cross 16 = .ok (.bipush 26, 2) := by decide +kernel
theorem dX10_cross_18 : decode cX10_cross 18 = .ok (.if_icmp .ge 13, 3) := by decide +kernel
theorem dX10_cross_21 : decode cX10_cross 21 = .ok (.iload_n 3, 1) := by decide +kernel
theorem dX10_cross_22 : decode cX10_cross 22 = .ok (.ifCond .lt 9, 3) := by decide +kernel
theorem dX10_cross_25 : decode cX10_cross 25 = .ok (.iload_n 3, 1) := by decide +kernel
theorem dX10_cross_26 : decode cX10_cross 26 = .ok (.bipush 26, 2) := by decide +kernel
theorem dX10_cross_28 : decode cX10_cross 28 = .ok (.if_icmp .lt 9, 3) := by decide +kernel
theorem dX10_cross_31 : decode cX10_cross 31 = .ok (.aload_n 0, 1) := by decide +kernel
theorem dX10_cross_32 : decode cX10_cross 32 = .ok (.iconst 1, 1) := by decide +kernel
theorem dX10_cross_33 : decode cX10_cross 33 = .ok (.invokevirtual 102, 3) := by decide +kernel
theorem dX10_cross_36 : decode cX10_cross 36 = .ok (.ireturn, 1) := by decide +kernel
theorem dX10_cross_37 : decode cX10_cross 37 = .ok (.iload_n 2, 1) := by decide +kernel
theorem dX10_cross_38 : decode cX10_cross 38 = .ok (.bipush 97, 2) := by decide +kernel
theorem dX10_cross_40 : decode cX10_cross 40 = .ok (.iadd, 1) := by decide +kernel
theorem dX10_cross_41 : decode cX10_cross 41 = .ok (.istore 4, 2) := by decide +kernel
theorem dX10_cross_43 : decode cX10_cross 43 = .ok (.iload_n 3, 1) := by decide +kernel
theorem dX10_cross_44 : decode cX10_cross 44 = .ok (.bipush 97, 2) := by decide +kernel
theorem dX10_cross_46 : decode cX10_cross 46 = .ok (.iadd, 1) := by decide +kernel
theorem dX10_cross_47 : decode cX10_cross 47 = .ok (.istore 5, 2) := by decide +kernel
theorem dX10_cross_49 : decode cX10_cross 49 = .ok (.aload_n 0, 1) := by decide +kernel
theorem dX10_cross_50 : decode cX10_cross 50 = .ok (.getfield 10, 3) := by decide +kernel
theorem dX10_cross_53 : decode cX10_cross 53 = .ok (.getfield 106, 3) := by decide +kernel
theorem dX10_cross_56 : decode cX10_cross 56 = .ok (.iload_n 1, 1) := by decide +kernel
theorem dX10_cross_57 : decode cX10_cross 57 = .ok (.iload 4, 2) := by decide +kernel
theorem dX10_cross_59 : decode cX10_cross 59 = .ok (.invokestatic 317, 3) := by decide +kernel
theorem dX10_cross_62 : decode cX10_cross 62 = .ok (.iconst 2, 1) := by decide +kernel
theorem dX10_cross_63 : decode cX10_cross 63 = .ok (.if_icmp .ne 20, 3) := by decide +kernel
theorem dX10_cross_66 : decode cX10_cross 66 = .ok (.aload_n 0, 1) := by decide +kernel
theorem dX10_cross_67 : decode cX10_cross 67 = .ok (.getfield 10, 3) := by decide +kernel
theorem dX10_cross_70 : decode cX10_cross 70 = .ok (.getfield 106, 3) := by decide +kernel
theorem dX10_cross_73 : decode cX10_cross 73 = .ok (.iload_n 1, 1) := by decide +kernel
theorem dX10_cross_74 : decode cX10_cross 74 = .ok (.iload 5, 2) := by decide +kernel
theorem dX10_cross_76 : decode cX10_cross 76 = .ok (.invokestatic 317, 3) := by decide +kernel
theorem dX10_cross_79 : decode cX10_cross 79 = .ok (.iconst 2, 1) := by decide +kernel
theorem dX10_cross_80 : decode cX10_cross 80 = .ok (.if_icmp .eq 9, 3) := by decide +kernel
theorem dX10_cross_83 : decode cX10_cross 83 = .ok (.aload_n 0, 1) := by decide +kernel
theorem dX10_cross_84 : decode cX10_cross 84 = .ok (.iconst 2, 1) := by decide +kernel
theorem dX10_cross_85 : decode cX10_cross 85 = .ok (.invokevirtual 102, 3) := by decide +kernel
theorem dX10_cross_88 : decode cX10_cross 88 = .ok (.ireturn, 1) := by decide +kernel
theorem dX10_cross_89 : decode cX10_cross 89 = .ok (.iload_n 2, 1) := by decide +kernel
theorem dX10_cross_90 : decode cX10_cross 90 = .ok (.iload_n 3, 1) := by decide +kernel
theorem dX10_cross_91 : decode cX10_cross 91 = .ok (.if_icmp .ne 9, 3) := by decide +kernel
theorem dX10_cross_94 : decode cX10_cross 94 = .ok (.aload_n 0, 1) := by decide +kernel
theorem dX10_cross_95 : decode cX10_cross 95 = .ok (.iconst 4, 1) := by decide +kernel
theorem dX10_cross_96 : decode cX10_cross 96 = .ok (.invokevirtual 102, 3) := by decide +kernel
theorem dX10_cross_99 : decode cX10_cross 99 = .ok (.ireturn, 1) := by decide +kernel
theorem dX10_cross_100 : decode cX10_cross 100 = .ok (.aload_n 0, 1) := by decide +kernel
theorem dX10_cross_101 : decode cX10_cross 101 = .ok (.getfield 10, 3) := by decide +kernel
theorem dX10_cross_104 : decode cX10_cross 104 = .ok (.iconst 0, 1) := by decide +kernel
theorem dX10_cross_105 : decode cX10_cross 105 = .ok (.putfield 91, 3) := by decide +kernel
theorem dX10_cross_108 : decode cX10_cross 108 = .ok (.aload_n 0, 1) := by decide +kernel
theorem dX10_cross_109 : decode cX10_cross 109 = .ok (.aload_n 0, 1) := by decide +kernel
theorem dX10_cross_110 : decode cX10_cross 110 = .ok (.getfield 10, 3) := by decide +kernel
theorem dX10_cross_113 : decode cX10_cross 113 = .ok (.getfield 106, 3) := by decide +kernel
theorem dX10_cross_116 : decode cX10_cross 116 = .ok (.iload_n 1, 1) := by decide +kernel
theorem dX10_cross_117 : decode cX10_cross 117 = .ok (.iload 4, 2) := by decide +kernel
theorem dX10_cross_119 : decode cX10_cross 119 = .ok (.iload 5, 2) := by decide +kernel
theorem dX10_cross_121 : decode cX10_cross 121 = .ok (.invokestatic 319, 3) := by decide +kernel
theorem dX10_cross_124 : decode cX10_cross 124 = .ok (.ifCond .eq 7, 3) := by decide +kernel
theorem dX10_cross_127 : decode cX10_cross 127 = .ok (.iconst 1, 1) := by decide +kernel
theorem dX10_cross_128 : decode cX10_cross 128 = .ok (.goto 4, 3) := by decide +kernel
theorem dX10_cross_131 : decode cX10_cross 131 = .ok (.iconst 0, 1) := by decide +kernel
theorem dX10_cross_132 : decode cX10_cross 132 = .ok (.invokevirtual 130, 3) := by decide +kernel
theorem dX10_cross_135 : decode cX10_cross 135 = .ok (.ireturn, 1) := by decide +kernel
def fp_X10_cross (v0 : Nat) (v1 : Int32) (v2 : Int32) (v3 : Int32) (M : zM) : Option (Int32 × zM) :=
  zthis 8 M v0 (
    (zgR 8 M v0 4).bind fun (y1 : Nat) =>
    (fp_X7_holds y1 v1 M).bind fun (y2 : Int32) =>
    if y2 = 0 then (
      (fp_X10_refuse v0 1 M).bind fun p5 => zpp p5 fun (y3 : Int32) (M4 : zM) =>
      some (y3, M4))
    else (
      if v2 < 0 then (
        (fp_X10_refuse v0 1 M).bind fun p8 => zpp p8 fun (y6 : Int32) (M7 : zM) =>
        some (y6, M7))
      else (
        if v2 ≥ 26 then (
          (fp_X10_refuse v0 1 M).bind fun p11 => zpp p11 fun (y9 : Int32) (M10 : zM) =>
          some (y9, M10))
        else (
          if v3 < 0 then (
            (fp_X10_refuse v0 1 M).bind fun p14 => zpp p14 fun (y12 : Int32) (M13 : zM) =>
            some (y12, M13))
          else (
            if v3 < 26 then (
              lett ((v2 + 97)) fun (v4_15 : Int32) =>
              lett ((v3 + 97)) fun (v5_16 : Int32) =>
              (zgR 8 M v0 4).bind fun (y17 : Nat) =>
              (zgR 5 M y17 0).bind fun (y18 : Nat) =>
              (fp_X5_count y18 v1 v4_15 M).bind fun (y19 : Int32) =>
              if y19 ≠ 2 then (
                (fp_X10_refuse v0 2 M).bind fun p22 => zpp p22 fun (y20 : Int32) (M21 : zM) =>
                some (y20, M21))
              else (
                (zgR 8 M v0 4).bind fun (y23 : Nat) =>
                (zgR 5 M y23 0).bind fun (y24 : Nat) =>
                (fp_X5_count y24 v1 v5_16 M).bind fun (y25 : Int32) =>
                if y25 = 2 then (
                  if v2 ≠ v3 then (
                    (zgR 8 M v0 4).bind fun (y26 : Nat) =>
                    (zpI 5 M y26 1 0).bind fun (M27 : zM) =>
                    (zgR 8 M27 v0 4).bind fun (y28 : Nat) =>
                    (zgR 5 M27 y28 0).bind fun (y29 : Nat) =>
                    (fp_X5_crossing y29 v1 v4_15 v5_16 M27).bind fun (y30 : Int32) =>
                    if y30 = 0 then (
                      (fp_X10_answer v0 0 M27).bind fun p33 => zpp p33 fun (y31 : Int32) (M32 : zM) =>
                      some (y31, M32))
                    else (
                      (fp_X10_answer v0 1 M27).bind fun p36 => zpp p36 fun (y34 : Int32) (M35 : zM) =>
                      some (y34, M35)))
                  else (
                    (fp_X10_refuse v0 4 M).bind fun p39 => zpp p39 fun (y37 : Int32) (M38 : zM) =>
                    some (y37, M38)))
                else (
                  (fp_X10_refuse v0 2 M).bind fun p42 => zpp p42 fun (y40 : Int32) (M41 : zM) =>
                  some (y40, M41))))
            else (
              (fp_X10_refuse v0 1 M).bind fun p45 => zpp p45 fun (y43 : Int32) (M44 : zM) =>
              some (y43, M44)))))))
set_option maxHeartbeats 4000000 in
set_option maxRecDepth 100000 in
theorem th_X10_cross {v0 : Nat} {v1 : Int32} {v2 : Int32} {v3 : Int32} {M : zM} {x0 : Int32 × zM} (h : fp_X10_cross v0 v1 v2 v3 M = some x0) : v0 < zS M ∧ kd v0 = 8 := by
  unfold fp_X10_cross at h
  exact zthis_of h
set_option maxHeartbeats 4000000 in
set_option maxRecDepth 100000 in
theorem ct_X10_cross (E : zEnv) (hE : zEok E) (d : Nat) (hd : 2 ≤ d) (v0 : Nat) (v1 : Int32) (v2 : Int32) (v3 : Int32) (M : zM) (x0 : Int32 × zM) (hx : fp_X10_cross v0 v1 v2 v3 M = some x0) : zCt E mu_X10_cross d [.ref (E.2.2.2.1 + v0), .int v1, .int v2, .int v3] M (some (.int x0.1), x0.2) := by
  refine zCt_of (μ := mu_X10_cross) (t := fp_X10_cross v0 v1 v2 v3 M) rfl rfl (Nat.le_of_ble_eq_true rfl) hx ?_
  change zSy E mu_X10_cross d M (some (.int x0.1), x0.2) x0 (fp_X10_cross v0 v1 v2 v3 M) 0 [(0, .ref (E.2.2.2.1 + v0)), (1, .int v1), (2, .int v2), (3, .int v3)] [] M
  unfold fp_X10_cross
  refine zs_this (fun hth => ?_)
  refine zs_aload_n dX10_cross_0 rfl 0 rfl ?_
  refine zs_getR dX10_cross_1 fl_X10_10 rfl (fun y1 => ?_)
  refine zs_iload_n dX10_cross_4 rfl 1 rfl ?_
  refine zs_invVPI (rest := []) [.int v1] dX10_cross_5 lk_X10_98 rfl (fun _ h => th_X7_holds h) (zd1 rfl hd) rfl (Nat.le_of_ble_eq_true rfl) (ct_X7_holds E hE _ (zdl rfl hd) _ _ _) (fun y2 => ?_)
  refine zs_if_eq dX10_cross_8 rfl ?_ ?_
  · refine zs_aload_n dX10_cross_31 rfl 0 rfl ?_
    refine zs_iconst (v := 1) dX10_cross_32 ciconst_1 ?_
    refine zs_invVWI (rest := []) [.int 1] dX10_cross_33 lk_X10_102 rfl (fun _ h => th_X10_refuse h) (zd1 rfl hd) rfl (Nat.le_of_ble_eq_true rfl) (ct_X10_refuse E hE _ (zdl rfl hd) _ _ _) (fun y3 M4 => ?_)
    exact zs_iretW dX10_cross_36 rfl
  refine zs_iload_n dX10_cross_11 rfl 2 rfl ?_
  refine zs_if_lt dX10_cross_12 rfl ?_ ?_
  · refine zs_aload_n dX10_cross_31 rfl 0 rfl ?_
    refine zs_iconst (v := 1) dX10_cross_32 ciconst_1 ?_
    refine zs_invVWI (rest := []) [.int 1] dX10_cross_33 lk_X10_102 rfl (fun _ h => th_X10_refuse h) (zd1 rfl hd) rfl (Nat.le_of_ble_eq_true rfl) (ct_X10_refuse E hE _ (zdl rfl hd) _ _ _) (fun y6 M7 => ?_)
    exact zs_iretW dX10_cross_36 rfl
  refine zs_iload_n dX10_cross_15 rfl 2 rfl ?_
  refine zs_bipush (v := 26) dX10_cross_16 cbipush_26 ?_
  refine zs_icmp_ge dX10_cross_18 rfl ?_ ?_
  · refine zs_aload_n dX10_cross_31 rfl 0 rfl ?_
    refine zs_iconst (v := 1) dX10_cross_32 ciconst_1 ?_
    refine zs_invVWI (rest := []) [.int 1] dX10_cross_33 lk_X10_102 rfl (fun _ h => th_X10_refuse h) (zd1 rfl hd) rfl (Nat.le_of_ble_eq_true rfl) (ct_X10_refuse E hE _ (zdl rfl hd) _ _ _) (fun y9 M10 => ?_)
    exact zs_iretW dX10_cross_36 rfl
  refine zs_iload_n dX10_cross_21 rfl 3 rfl ?_
  refine zs_if_lt dX10_cross_22 rfl ?_ ?_
  · refine zs_aload_n dX10_cross_31 rfl 0 rfl ?_
    refine zs_iconst (v := 1) dX10_cross_32 ciconst_1 ?_
    refine zs_invVWI (rest := []) [.int 1] dX10_cross_33 lk_X10_102 rfl (fun _ h => th_X10_refuse h) (zd1 rfl hd) rfl (Nat.le_of_ble_eq_true rfl) (ct_X10_refuse E hE _ (zdl rfl hd) _ _ _) (fun y12 M13 => ?_)
    exact zs_iretW dX10_cross_36 rfl
  refine zs_iload_n dX10_cross_25 rfl 3 rfl ?_
  refine zs_bipush (v := 26) dX10_cross_26 cbipush_26 ?_
  refine zs_icmp_lt dX10_cross_28 rfl ?_ ?_
  · refine zs_iload_n dX10_cross_37 rfl 2 rfl ?_
    refine zs_bipush (v := 97) dX10_cross_38 cbipush_97 ?_
    refine zs_iadd dX10_cross_40 ?_
    refine zs_istoreL (loc' := fun v4_15 => [(0, .ref (E.2.2.2.1 + v0)), (1, .int v1), (2, .int v2), (3, .int v3), (4, .int v4_15)]) dX10_cross_41 (Nat.le_of_ble_eq_true rfl) [1, 2, 3, 4, 0] (fun _ => rfl) (fun v4_15 => ?_)
    refine zs_iload_n dX10_cross_43 rfl 3 rfl ?_
    refine zs_bipush (v := 97) dX10_cross_44 cbipush_97 ?_
    refine zs_iadd dX10_cross_46 ?_
    refine zs_istoreL (loc' := fun v5_16 => [(0, .ref (E.2.2.2.1 + v0)), (1, .int v1), (2, .int v2), (3, .int v3), (4, .int v4_15), (5, .int v5_16)]) dX10_cross_47 (Nat.le_of_ble_eq_true rfl) [1, 2, 3, 4, 5, 0] (fun _ => rfl) (fun v5_16 => ?_)
    refine zs_aload_n dX10_cross_49 rfl 0 rfl ?_
    refine zs_getR dX10_cross_50 fl_X10_10 rfl (fun y17 => ?_)
    refine zs_getR dX10_cross_53 fl_X10_106 rfl (fun y18 => ?_)
    refine zs_iload_n dX10_cross_56 rfl 1 rfl ?_
    refine zs_iload dX10_cross_57 4 rfl ?_
    refine zs_invSPI (rest := []) [.ref (E.2.2.2.1 + y18), .int v1, .int v4_15] dX10_cross_59 lk_X10_317 rfl (zd1 rfl hd) rfl (Nat.le_of_ble_eq_true rfl) (ct_X5_count E hE _ (zdl rfl hd) _ _ _ _) (fun y19 => ?_)
    refine zs_iconst (v := 2) dX10_cross_62 ciconst_2 ?_
    refine zs_icmp_ne dX10_cross_63 rfl ?_ ?_
    · refine zs_aload_n dX10_cross_83 rfl 0 rfl ?_
      refine zs_iconst (v := 2) dX10_cross_84 ciconst_2 ?_
      refine zs_invVWI (rest := []) [.int 2] dX10_cross_85 lk_X10_102 rfl (fun _ h => th_X10_refuse h) (zd1 rfl hd) rfl (Nat.le_of_ble_eq_true rfl) (ct_X10_refuse E hE _ (zdl rfl hd) _ _ _) (fun y20 M21 => ?_)
      exact zs_iretW dX10_cross_88 rfl
    refine zs_aload_n dX10_cross_66 rfl 0 rfl ?_
    refine zs_getR dX10_cross_67 fl_X10_10 rfl (fun y23 => ?_)
    refine zs_getR dX10_cross_70 fl_X10_106 rfl (fun y24 => ?_)
    refine zs_iload_n dX10_cross_73 rfl 1 rfl ?_
    refine zs_iload dX10_cross_74 5 rfl ?_
    refine zs_invSPI (rest := []) [.ref (E.2.2.2.1 + y24), .int v1, .int v5_16] dX10_cross_76 lk_X10_317 rfl (zd1 rfl hd) rfl (Nat.le_of_ble_eq_true rfl) (ct_X5_count E hE _ (zdl rfl hd) _ _ _ _) (fun y25 => ?_)
    refine zs_iconst (v := 2) dX10_cross_79 ciconst_2 ?_
    refine zs_icmp_eq dX10_cross_80 rfl ?_ ?_
    · refine zs_iload_n dX10_cross_89 rfl 2 rfl ?_
      refine zs_iload_n dX10_cross_90 rfl 3 rfl ?_
      refine zs_icmp_ne dX10_cross_91 rfl ?_ ?_
      · refine zs_aload_n dX10_cross_100 rfl 0 rfl ?_
        refine zs_getR dX10_cross_101 fl_X10_10 rfl (fun y26 => ?_)
        refine zs_iconst (v := 0) dX10_cross_104 ciconst_0 ?_
        refine zs_putI dX10_cross_105 fl_X10_91 ft_X7 rfl rfl rfl rfl rfl (fun M27 => ?_)
        refine zs_aload_n dX10_cross_108 rfl 0 rfl ?_
        refine zs_aload_n dX10_cross_109 rfl 0 rfl ?_
        refine zs_getR dX10_cross_110 fl_X10_10 rfl (fun y28 => ?_)
        refine zs_getR dX10_cross_113 fl_X10_106 rfl (fun y29 => ?_)
        refine zs_iload_n dX10_cross_116 rfl 1 rfl ?_
        refine zs_iload dX10_cross_117 4 rfl ?_
        refine zs_iload dX10_cross_119 5 rfl ?_
        refine zs_invSPI (rest := [.ref (E.2.2.2.1 + v0)]) [.ref (E.2.2.2.1 + y29), .int v1, .int v4_15, .int v5_16] dX10_cross_121 lk_X10_319 rfl (zd1 rfl hd) rfl (Nat.le_of_ble_eq_true rfl) (ct_X5_crossing E hE _ (zdl rfl hd) _ _ _ _ _) (fun y30 => ?_)
        refine zs_if_eq dX10_cross_124 rfl ?_ ?_
        · refine zs_iconst (v := 0) dX10_cross_131 ciconst_0 ?_
          refine zs_invVWI (rest := []) [.int 0] dX10_cross_132 lk_X10_130 rfl (fun _ h => th_X10_answer h) (zd1 rfl hd) rfl (Nat.le_of_ble_eq_true rfl) (ct_X10_answer E hE _ (zdl rfl hd) _ _ _) (fun y31 M32 => ?_)
          exact zs_iretW dX10_cross_135 rfl
        refine zs_iconst (v := 1) dX10_cross_127 ciconst_1 ?_
        refine zs_goto dX10_cross_128 rfl ?_
        refine zs_invVWI (rest := []) [.int 1] dX10_cross_132 lk_X10_130 rfl (fun _ h => th_X10_answer h) (zd1 rfl hd) rfl (Nat.le_of_ble_eq_true rfl) (ct_X10_answer E hE _ (zdl rfl hd) _ _ _) (fun y34 M35 => ?_)
        exact zs_iretW dX10_cross_135 rfl
      refine zs_aload_n dX10_cross_94 rfl 0 rfl ?_
      refine zs_iconst (v := 4) dX10_cross_95 ciconst_4 ?_
      refine zs_invVWI (rest := []) [.int 4] dX10_cross_96 lk_X10_102 rfl (fun _ h => th_X10_refuse h) (zd1 rfl hd) rfl (Nat.le_of_ble_eq_true rfl) (ct_X10_refuse E hE _ (zdl rfl hd) _ _ _) (fun y37 M38 => ?_)
      exact zs_iretW dX10_cross_99 rfl
    refine zs_aload_n dX10_cross_83 rfl 0 rfl ?_
    refine zs_iconst (v := 2) dX10_cross_84 ciconst_2 ?_
    refine zs_invVWI (rest := []) [.int 2] dX10_cross_85 lk_X10_102 rfl (fun _ h => th_X10_refuse h) (zd1 rfl hd) rfl (Nat.le_of_ble_eq_true rfl) (ct_X10_refuse E hE _ (zdl rfl hd) _ _ _) (fun y40 M41 => ?_)
    exact zs_iretW dX10_cross_88 rfl
  refine zs_aload_n dX10_cross_31 rfl 0 rfl ?_
  refine zs_iconst (v := 1) dX10_cross_32 ciconst_1 ?_
  refine zs_invVWI (rest := []) [.int 1] dX10_cross_33 lk_X10_102 rfl (fun _ h => th_X10_refuse h) (zd1 rfl hd) rfl (Nat.le_of_ble_eq_true rfl) (ct_X10_refuse E hE _ (zdl rfl hd) _ _ _) (fun y43 M44 => ?_)
  exact zs_iretW dX10_cross_36 rfl
theorem dX10_fits_0 : decode cX10_fits 0 = .ok (.iload_n 1, 1) := by decide +kernel
theorem dX10_fits_1 : decode cX10_fits 1 = .ok (.ifCond .lt 11, 3) := by decide +kernel
theorem dX10_fits_4 : decode cX10_fits 4 = .ok (.aload_n 0, 1) := by decide +kernel
theorem dX10_fits_5 : decode cX10_fits 5 = .ok (.iload_n 2, 1) := by decide +kernel
theorem dX10_fits_6 : decode cX10_fits 6 = .ok (.invokevirtual 171, 3) := by decide +kernel
theorem dX10_fits_9 : decode cX10_fits 9 = .ok (.ifCond .ne 9, 3) := by decide +kernel
theorem dX10_fits_12 : decode cX10_fits 12 = .ok (.aload_n 0, 1) := by decide +kernel
theorem dX10_fits_13 : decode cX10_fits 13 = .ok (.iconst 1, 1) := by decide +kernel
theorem dX10_fits_14 : decode cX10_fits 14 = .ok (.invokevirtual 102, 3) := by decide +kernel
theorem dX10_fits_17 : decode cX10_fits 17 = .ok (.ireturn, 1) := by decide +kernel
theorem dX10_fits_18 : decode cX10_fits 18 = .ok (.aload_n 0, 1) := by decide +kernel
theorem dX10_fits_19 : decode cX10_fits 19 = .ok (.iload_n 1, 1) := by decide +kernel
theorem dX10_fits_20 : decode cX10_fits 20 = .ok (.invokevirtual 274, 3) := by decide +kernel
theorem dX10_fits_23 : decode cX10_fits 23 = .ok (.ifCond .ne 10, 3) := by decide +kernel
theorem dX10_fits_26 : decode cX10_fits 26 = .ok (.aload_n 0, 1) := by decide +kernel
theorem dX10_fits_27 : decode cX10_fits 27 = .ok (.bipush 6, 2) := by decide +kernel
theorem dX10_fits_29 : decode cX10_fits 29 = .ok (.invokevirtual 102, 3) := by decide +kernel
theorem dX10_fits_32 : decode cX10_fits 32 = .ok (.ireturn, 1) := by decide +kernel
theorem dX10_fits_33 : decode cX10_fits 33 = .ok (.aload_n 0, 1) := by decide +kernel
theorem dX10_fits_34 : decode cX10_fits 34 = .ok (.getfield 57, 3) := by decide +kernel
theorem dX10_fits_37 : decode cX10_fits 37 = .ok (.iload_n 1, 1) := by decide +kernel
theorem dX10_fits_38 : decode cX10_fits 38 = .ok (.aload_n 0, 1) := by decide +kernel
theorem dX10_fits_39 : decode cX10_fits 39 = .ok (.getfield 84, 3) := by decide +kernel
theorem dX10_fits_42 : decode cX10_fits 42 = .ok (.invokevirtual 277, 3) := by decide +kernel
theorem dX10_fits_45 : decode cX10_fits 45 = .ok (.aload_n 0, 1) := by decide +kernel
theorem dX10_fits_46 : decode cX10_fits 46 = .ok (.aload_n 0, 1) := by decide +kernel
theorem dX10_fits_47 : decode cX10_fits 47 = .ok (.getfield 84, 3) := by decide +kernel
theorem dX10_fits_50 : decode cX10_fits 50 = .ok (.iconst 2, 1) := by decide +kernel
theorem dX10_fits_51 : decode cX10_fits 51 = .ok (.aload_n 0, 1) := by decide +kernel
theorem dX10_fits_52 : decode cX10_fits 52 = .ok (.getfield 129, 3) := by decide +kernel
theorem dX10_fits_55 : decode cX10_fits 55 = .ok (.imul, 1) := by decide +kernel
theorem dX10_fits_56 : decode cX10_fits 56 = .ok (.iload_n 2, 1) := by decide +kernel
theorem dX10_fits_57 : decode cX10_fits 57 = .ok (.invokestatic 323, 3) := by decide +kernel
theorem dX10_fits_60 : decode cX10_fits 60 = .ok (.invokevirtual 130, 3) := by decide +kernel
theorem dX10_fits_63 : decode cX10_fits 63 = .ok (.ireturn, 1) := by decide +kernel
def fp_X10_fits (v0 : Nat) (v1 : Int32) (v2 : Int32) (M : zM) : Option (Int32 × zM) :=
  zthis 8 M v0 (
    if v1 < 0 then (
      (fp_X10_refuse v0 1 M).bind fun p3 => zpp p3 fun (y1 : Int32) (M2 : zM) =>
      some (y1, M2))
    else (
      (fp_X10_hasSet v0 v2 M).bind fun (y4 : Int32) =>
      if y4 ≠ 0 then (
        (fp_X10_hasModel v0 v1 M).bind fun p7 => zpp p7 fun (y5 : Int32) (M6 : zM) =>
        if y5 ≠ 0 then (
          (zgR 8 M6 v0 10).bind fun (y8 : Nat) =>
          (zgR 8 M6 v0 16).bind fun (y9 : Nat) =>
          (fp_X1_spell y8 v1 y9 M6).bind fun (M10 : zM) =>
          (zgR 8 M10 v0 16).bind fun (y11 : Nat) =>
          (zgI 8 M10 v0 1).bind fun (y12 : Int32) =>
          (fp_X5_countCouples y11 (2 * y12) v2 M10).bind fun (y13 : Int32) =>
          (fp_X10_answer v0 y13 M10).bind fun p16 => zpp p16 fun (y14 : Int32) (M15 : zM) =>
          some (y14, M15))
        else (
          (fp_X10_refuse v0 6 M6).bind fun p19 => zpp p19 fun (y17 : Int32) (M18 : zM) =>
          some (y17, M18)))
      else (
        (fp_X10_refuse v0 1 M).bind fun p22 => zpp p22 fun (y20 : Int32) (M21 : zM) =>
        some (y20, M21))))
set_option maxHeartbeats 4000000 in
set_option maxRecDepth 100000 in
theorem th_X10_fits {v0 : Nat} {v1 : Int32} {v2 : Int32} {M : zM} {x0 : Int32 × zM} (h : fp_X10_fits v0 v1 v2 M = some x0) : v0 < zS M ∧ kd v0 = 8 := by
  unfold fp_X10_fits at h
  exact zthis_of h
set_option maxHeartbeats 4000000 in
set_option maxRecDepth 100000 in
theorem ct_X10_fits (E : zEnv) (hE : zEok E) (d : Nat) (hd : 28 ≤ d) (v0 : Nat) (v1 : Int32) (v2 : Int32) (M : zM) (x0 : Int32 × zM) (hx : fp_X10_fits v0 v1 v2 M = some x0) : zCt E mu_X10_fits d [.ref (E.2.2.2.1 + v0), .int v1, .int v2] M (some (.int x0.1), x0.2) := by
  refine zCt_of (μ := mu_X10_fits) (t := fp_X10_fits v0 v1 v2 M) rfl rfl (Nat.le_of_ble_eq_true rfl) hx ?_
  change zSy E mu_X10_fits d M (some (.int x0.1), x0.2) x0 (fp_X10_fits v0 v1 v2 M) 0 [(0, .ref (E.2.2.2.1 + v0)), (1, .int v1), (2, .int v2)] [] M
  unfold fp_X10_fits
  refine zs_this (fun hth => ?_)
  refine zs_iload_n dX10_fits_0 rfl 1 rfl ?_
  refine zs_if_lt dX10_fits_1 rfl ?_ ?_
  · refine zs_aload_n dX10_fits_12 rfl 0 rfl ?_
    refine zs_iconst (v := 1) dX10_fits_13 ciconst_1 ?_
    refine zs_invVWI (rest := []) [.int 1] dX10_fits_14 lk_X10_102 rfl (fun _ h => th_X10_refuse h) (zd1 rfl hd) rfl (Nat.le_of_ble_eq_true rfl) (ct_X10_refuse E hE _ (zdl rfl hd) _ _ _) (fun y1 M2 => ?_)
    exact zs_iretW dX10_fits_17 rfl
  refine zs_aload_n dX10_fits_4 rfl 0 rfl ?_
  refine zs_iload_n dX10_fits_5 rfl 2 rfl ?_
  refine zs_invVPI (rest := []) [.int v2] dX10_fits_6 lk_X10_171 rfl (fun _ h => th_X10_hasSet h) (zd1 rfl hd) rfl (Nat.le_of_ble_eq_true rfl) (ct_X10_hasSet E hE _ (zdl rfl hd) _ _ _) (fun y4 => ?_)
  refine zs_if_ne dX10_fits_9 rfl ?_ ?_
  · refine zs_aload_n dX10_fits_18 rfl 0 rfl ?_
    refine zs_iload_n dX10_fits_19 rfl 1 rfl ?_
    refine zs_invVWI (rest := []) [.int v1] dX10_fits_20 lk_X10_274 rfl (fun _ h => th_X10_hasModel h) (zd1 rfl hd) rfl (Nat.le_of_ble_eq_true rfl) (ct_X10_hasModel E hE _ (zdl rfl hd) _ _ _) (fun y5 M6 => ?_)
    refine zs_if_ne dX10_fits_23 rfl ?_ ?_
    · refine zs_aload_n dX10_fits_33 rfl 0 rfl ?_
      refine zs_getR dX10_fits_34 fl_X10_57 rfl (fun y8 => ?_)
      refine zs_iload_n dX10_fits_37 rfl 1 rfl ?_
      refine zs_aload_n dX10_fits_38 rfl 0 rfl ?_
      refine zs_getR dX10_fits_39 fl_X10_84 rfl (fun y9 => ?_)
      refine zs_invVWV (rest := []) [.int v1, .ref (E.2.2.2.1 + y9)] dX10_fits_42 lk_X10_277 rfl (fun _ h => th_X1_spell h) (zd1 rfl hd) rfl (Nat.le_of_ble_eq_true rfl) (ct_X1_spell E hE _ (zdl rfl hd) _ _ _ _) (fun M10 => ?_)
      refine zs_aload_n dX10_fits_45 rfl 0 rfl ?_
      refine zs_aload_n dX10_fits_46 rfl 0 rfl ?_
      refine zs_getR dX10_fits_47 fl_X10_84 rfl (fun y11 => ?_)
      refine zs_iconst (v := 2) dX10_fits_50 ciconst_2 ?_
      refine zs_aload_n dX10_fits_51 rfl 0 rfl ?_
      refine zs_getI dX10_fits_52 fl_X10_129 rfl (fun y12 => ?_)
      refine zs_imul dX10_fits_55 ?_
      refine zs_iload_n dX10_fits_56 rfl 2 rfl ?_
      refine zs_invSPI (rest := [.ref (E.2.2.2.1 + v0)]) [.ref (E.2.2.2.1 + y11), .int (2 * y12), .int v2] dX10_fits_57 lk_X10_323 rfl (zd1 rfl hd) rfl (Nat.le_of_ble_eq_true rfl) (ct_X5_countCouples E hE _ (zdl rfl hd) _ _ _ _) (fun y13 => ?_)
      refine zs_invVWI (rest := []) [.int y13] dX10_fits_60 lk_X10_130 rfl (fun _ h => th_X10_answer h) (zd1 rfl hd) rfl (Nat.le_of_ble_eq_true rfl) (ct_X10_answer E hE _ (zdl rfl hd) _ _ _) (fun y14 M15 => ?_)
      exact zs_iretW dX10_fits_63 rfl
    refine zs_aload_n dX10_fits_26 rfl 0 rfl ?_
    refine zs_bipush (v := 6) dX10_fits_27 cbipush_6 ?_
    refine zs_invVWI (rest := []) [.int 6] dX10_fits_29 lk_X10_102 rfl (fun _ h => th_X10_refuse h) (zd1 rfl hd) rfl (Nat.le_of_ble_eq_true rfl) (ct_X10_refuse E hE _ (zdl rfl hd) _ _ _) (fun y17 M18 => ?_)
    exact zs_iretW dX10_fits_32 rfl
  refine zs_aload_n dX10_fits_12 rfl 0 rfl ?_
  refine zs_iconst (v := 1) dX10_fits_13 ciconst_1 ?_
  refine zs_invVWI (rest := []) [.int 1] dX10_fits_14 lk_X10_102 rfl (fun _ h => th_X10_refuse h) (zd1 rfl hd) rfl (Nat.le_of_ble_eq_true rfl) (ct_X10_refuse E hE _ (zdl rfl hd) _ _ _) (fun y20 M21 => ?_)
  exact zs_iretW dX10_fits_17 rfl
theorem dX10_gap_0 : decode cX10_gap 0 = .ok (.iload_n 1, 1) := by decide +kernel
theorem dX10_gap_1 : decode cX10_gap 1 = .ok (.ifCond .lt 26, 3) := by decide +kernel
theorem dX10_gap_4 : decode cX10_gap 4 = .ok (.aload_n 0, 1) := by decide +kernel
theorem dX10_gap_5 : decode cX10_gap 5 = .ok (.iload_n 2, 1) := by decide +kernel
theorem dX10_gap_6 : decode cX10_gap 6 = .ok (.invokevirtual 171, 3) := by decide +kernel
theorem dX10_gap_9 : decode cX10_gap 9 = .ok (.ifCond .eq 18, 3) := by decide +kernel
theorem dX10_gap_12 : decode cX10_gap 12 = .ok (.iload_n 3, 1) := by decide +kernel
theorem dX10_gap_13 : decode cX10_gap 13 = .ok (.ifCond .lt 14, 3) := by decide +kernel
theorem dX10_gap_16 : decode cX10_gap 16 = .ok (.iload 4, 2) := by decide +kernel
theorem dX10_gap_18 : decode cX10_gap 18 = .ok (.ifCond .lt 9, 3) := by decide +kernel
theorem dX10_gap_21 : decode cX10_gap 21 = .ok (.iload 4, 2) := by decide +kernel
theorem dX10_gap_23 : decode cX10_gap 23 = .ok (.iconst 1, 1) := by decide +kernel
theorem dX10_gap_24 : decode cX10_gap 24 = .ok (.if_icmp .le 9, 3) := by decide +kernel
theorem dX10_gap_27 : decode cX10_gap 27 = .ok (.aload_n 0, 1) := by decide +kernel
theorem dX10_gap_28 : decode cX10_gap 28 = .ok (.iconst 1, 1) := by decide +kernel
theorem dX10_gap_29 : decode cX10_gap 29 = .ok (.invokevirtual 102, 3) := by decide +kernel
theorem dX10_gap_32 : decode cX10_gap 32 = .ok (.ireturn, 1) := by decide +kernel
theorem dX10_gap_33 : decode cX10_gap 33 = .ok (.aload_n 0, 1) := by decide +kernel
theorem dX10_gap_34 : decode cX10_gap 34 = .ok (.iload_n 1, 1) := by decide +kernel
theorem dX10_gap_35 : decode cX10_gap 35 = .ok (.invokevirtual 274, 3) := by decide +kernel
theorem dX10_gap_38 : decode cX10_gap 38 = .ok (.ifCond .ne 10, 3) := by decide +kernel
theorem dX10_gap_41 : decode cX10_gap 41 = .ok (.aload_n 0, 1) := by decide +kernel
theorem dX10_gap_42 : decode cX10_gap 42 = .ok (.bipush 6, 2) := by decide +kernel
theorem dX10_gap_44 : decode cX10_gap 44 = .ok (.invokevirtual 102, 3) := by decide +kernel
theorem dX10_gap_47 : decode cX10_gap 47 = .ok (.ireturn, 1) := by decide +kernel
theorem dX10_gap_48 : decode cX10_gap 48 = .ok (.aload_n 0, 1) := by decide +kernel
theorem dX10_gap_49 : decode cX10_gap 49 = .ok (.getfield 57, 3) := by decide +kernel
theorem dX10_gap_52 : decode cX10_gap 52 = .ok (.iload_n 1, 1) := by decide +kernel
theorem dX10_gap_53 : decode cX10_gap 53 = .ok (.aload_n 0, 1) := by decide +kernel
theorem dX10_gap_54 : decode cX10_gap 54 = .ok (.getfield 84, 3) := by decide +kernel
theorem dX10_gap_57 : decode cX10_gap 57 = .ok (.invokevirtual 277, 3) := by decide +kernel
theorem dX10_gap_60 : decode cX10_gap 60 = .ok (.aload_n 0, 1) := by decide +kernel
theorem dX10_gap_61 : decode cX10_gap 61 = .ok (.getfield 84, 3) := by decide +kernel
theorem dX10_gap_64 : decode cX10_gap 64 = .ok (.iconst 2, 1) := by decide +kernel
theorem dX10_gap_65 : decode cX10_gap 65 = .ok (.aload_n 0, 1) := by decide +kernel
theorem dX10_gap_66 : decode cX10_gap 66 = .ok (.getfield 129, 3) := by decide +kernel
theorem dX10_gap_69 : decode cX10_gap 69 = .ok (.imul, 1) := by decide +kernel
theorem dX10_gap_70 : decode cX10_gap 70 = .ok (.iload_n 2, 1) := by decide +kernel
theorem dX10_gap_71 : decode cX10_gap 71 = .ok (.iload_n 3, 1) := by decide +kernel
theorem dX10_gap_72 : decode cX10_gap 72 = .ok (.invokestatic 326, 3) := by decide +kernel
theorem dX10_gap_75 : decode cX10_gap 75 = .ok (.istore 5, 2) := by decide +kernel
theorem dX10_gap_77 : decode cX10_gap 77 = .ok (.iload 5, 2) := by decide +kernel
theorem dX10_gap_79 : decode cX10_gap 79 = .ok (.ifCond .ge 10, 3) := by decide +kernel
theorem dX10_gap_82 : decode cX10_gap 82 = .ok (.aload_n 0, 1) := by decide +kernel
theorem dX10_gap_83 : decode cX10_gap 83 = .ok (.bipush 6, 2) := by decide +kernel
theorem dX10_gap_85 : decode cX10_gap 85 = .ok (.invokevirtual 102, 3) := by decide +kernel
theorem dX10_gap_88 : decode cX10_gap 88 = .ok (.ireturn, 1) := by decide +kernel
theorem dX10_gap_89 : decode cX10_gap 89 = .ok (.aload_n 0, 1) := by decide +kernel
theorem dX10_gap_90 : decode cX10_gap 90 = .ok (.iload 4, 2) := by decide +kernel
theorem dX10_gap_92 : decode cX10_gap 92 = .ok (.ifCond .ne 11, 3) := by decide +kernel
theorem dX10_gap_95 : decode cX10_gap 95 = .ok (.iload 5, 2) := by decide +kernel
theorem dX10_gap_97 : decode cX10_gap 97 = .ok (.bipush 15, 2) := by decide +kernel
theorem dX10_gap_99 : decode cX10_gap 99 = .ok (.idiv, 1) := by decide +kernel
theorem dX10_gap_100 : decode cX10_gap 100 = .ok (.goto 8, 3) := by decide +kernel
theorem dX10_gap_103 : decode cX10_gap 103 = .ok (.iload 5, 2) := by decide +kernel
theorem dX10_gap_105 : decode cX10_gap 105 = .ok (.bipush 15, 2) := by decide +kernel
theorem dX10_gap_107 : decode cX10_gap 107 = .ok (.irem, 1) := by decide +kernel
theorem dX10_gap_108 : decode cX10_gap 108 = .ok (.invokevirtual 130, 3) := by decide +kernel
theorem dX10_gap_111 : decode cX10_gap 111 = .ok (.ireturn, 1) := by decide +kernel
def fp_X10_gap (v0 : Nat) (v1 : Int32) (v2 : Int32) (v3 : Int32) (v4 : Int32) (M : zM) : Option (Int32 × zM) :=
  zthis 8 M v0 (
    if v1 < 0 then (
      (fp_X10_refuse v0 1 M).bind fun p3 => zpp p3 fun (y1 : Int32) (M2 : zM) =>
      some (y1, M2))
    else (
      (fp_X10_hasSet v0 v2 M).bind fun (y4 : Int32) =>
      if y4 = 0 then (
        (fp_X10_refuse v0 1 M).bind fun p7 => zpp p7 fun (y5 : Int32) (M6 : zM) =>
        some (y5, M6))
      else (
        if v3 < 0 then (
          (fp_X10_refuse v0 1 M).bind fun p10 => zpp p10 fun (y8 : Int32) (M9 : zM) =>
          some (y8, M9))
        else (
          if v4 < 0 then (
            (fp_X10_refuse v0 1 M).bind fun p13 => zpp p13 fun (y11 : Int32) (M12 : zM) =>
            some (y11, M12))
          else (
            if v4 ≤ 1 then (
              (fp_X10_hasModel v0 v1 M).bind fun p16 => zpp p16 fun (y14 : Int32) (M15 : zM) =>
              if y14 ≠ 0 then (
                (zgR 8 M15 v0 10).bind fun (y17 : Nat) =>
                (zgR 8 M15 v0 16).bind fun (y18 : Nat) =>
                (fp_X1_spell y17 v1 y18 M15).bind fun (M19 : zM) =>
                (zgR 8 M19 v0 16).bind fun (y20 : Nat) =>
                (zgI 8 M19 v0 1).bind fun (y21 : Int32) =>
                (fp_X5_coupleAt y20 (2 * y21) v2 v3 M19).bind fun (y22 : Int32) =>
                if y22 ≥ 0 then (
                  if v4 ≠ 0 then (
                    (fp_X10_answer v0 (y22 - y22 / 15 * 15) M19).bind fun p25 => zpp p25 fun (y23 : Int32) (M24 : zM) =>
                    some (y23, M24))
                  else (
                    (fp_X10_answer v0 (y22 / 15) M19).bind fun p28 => zpp p28 fun (y26 : Int32) (M27 : zM) =>
                    some (y26, M27)))
                else (
                  (fp_X10_refuse v0 6 M19).bind fun p31 => zpp p31 fun (y29 : Int32) (M30 : zM) =>
                  some (y29, M30)))
              else (
                (fp_X10_refuse v0 6 M15).bind fun p34 => zpp p34 fun (y32 : Int32) (M33 : zM) =>
                some (y32, M33)))
            else (
              (fp_X10_refuse v0 1 M).bind fun p37 => zpp p37 fun (y35 : Int32) (M36 : zM) =>
              some (y35, M36)))))))
set_option maxHeartbeats 4000000 in
set_option maxRecDepth 100000 in
theorem th_X10_gap {v0 : Nat} {v1 : Int32} {v2 : Int32} {v3 : Int32} {v4 : Int32} {M : zM} {x0 : Int32 × zM} (h : fp_X10_gap v0 v1 v2 v3 v4 M = some x0) : v0 < zS M ∧ kd v0 = 8 := by
  unfold fp_X10_gap at h
  exact zthis_of h
set_option maxHeartbeats 4000000 in
set_option maxRecDepth 100000 in
theorem ct_X10_gap (E : zEnv) (hE : zEok E) (d : Nat) (hd : 28 ≤ d) (v0 : Nat) (v1 : Int32) (v2 : Int32) (v3 : Int32) (v4 : Int32) (M : zM) (x0 : Int32 × zM) (hx : fp_X10_gap v0 v1 v2 v3 v4 M = some x0) : zCt E mu_X10_gap d [.ref (E.2.2.2.1 + v0), .int v1, .int v2, .int v3, .int v4] M (some (.int x0.1), x0.2) := by
  refine zCt_of (μ := mu_X10_gap) (t := fp_X10_gap v0 v1 v2 v3 v4 M) rfl rfl (Nat.le_of_ble_eq_true rfl) hx ?_
  change zSy E mu_X10_gap d M (some (.int x0.1), x0.2) x0 (fp_X10_gap v0 v1 v2 v3 v4 M) 0 [(0, .ref (E.2.2.2.1 + v0)), (1, .int v1), (2, .int v2), (3, .int v3), (4, .int v4)] [] M
  unfold fp_X10_gap
  refine zs_this (fun hth => ?_)
  refine zs_iload_n dX10_gap_0 rfl 1 rfl ?_
  refine zs_if_lt dX10_gap_1 rfl ?_ ?_
  · refine zs_aload_n dX10_gap_27 rfl 0 rfl ?_
    refine zs_iconst (v := 1) dX10_gap_28 ciconst_1 ?_
    refine zs_invVWI (rest := []) [.int 1] dX10_gap_29 lk_X10_102 rfl (fun _ h => th_X10_refuse h) (zd1 rfl hd) rfl (Nat.le_of_ble_eq_true rfl) (ct_X10_refuse E hE _ (zdl rfl hd) _ _ _) (fun y1 M2 => ?_)
    exact zs_iretW dX10_gap_32 rfl
  refine zs_aload_n dX10_gap_4 rfl 0 rfl ?_
  refine zs_iload_n dX10_gap_5 rfl 2 rfl ?_
  refine zs_invVPI (rest := []) [.int v2] dX10_gap_6 lk_X10_171 rfl (fun _ h => th_X10_hasSet h) (zd1 rfl hd) rfl (Nat.le_of_ble_eq_true rfl) (ct_X10_hasSet E hE _ (zdl rfl hd) _ _ _) (fun y4 => ?_)
  refine zs_if_eq dX10_gap_9 rfl ?_ ?_
  · refine zs_aload_n dX10_gap_27 rfl 0 rfl ?_
    refine zs_iconst (v := 1) dX10_gap_28 ciconst_1 ?_
    refine zs_invVWI (rest := []) [.int 1] dX10_gap_29 lk_X10_102 rfl (fun _ h => th_X10_refuse h) (zd1 rfl hd) rfl (Nat.le_of_ble_eq_true rfl) (ct_X10_refuse E hE _ (zdl rfl hd) _ _ _) (fun y5 M6 => ?_)
    exact zs_iretW dX10_gap_32 rfl
  refine zs_iload_n dX10_gap_12 rfl 3 rfl ?_
  refine zs_if_lt dX10_gap_13 rfl ?_ ?_
  · refine zs_aload_n dX10_gap_27 rfl 0 rfl ?_
    refine zs_iconst (v := 1) dX10_gap_28 ciconst_1 ?_
    refine zs_invVWI (rest := []) [.int 1] dX10_gap_29 lk_X10_102 rfl (fun _ h => th_X10_refuse h) (zd1 rfl hd) rfl (Nat.le_of_ble_eq_true rfl) (ct_X10_refuse E hE _ (zdl rfl hd) _ _ _) (fun y8 M9 => ?_)
    exact zs_iretW dX10_gap_32 rfl
  refine zs_iload dX10_gap_16 4 rfl ?_
  refine zs_if_lt dX10_gap_18 rfl ?_ ?_
  · refine zs_aload_n dX10_gap_27 rfl 0 rfl ?_
    refine zs_iconst (v := 1) dX10_gap_28 ciconst_1 ?_
    refine zs_invVWI (rest := []) [.int 1] dX10_gap_29 lk_X10_102 rfl (fun _ h => th_X10_refuse h) (zd1 rfl hd) rfl (Nat.le_of_ble_eq_true rfl) (ct_X10_refuse E hE _ (zdl rfl hd) _ _ _) (fun y11 M12 => ?_)
    exact zs_iretW dX10_gap_32 rfl
  refine zs_iload dX10_gap_21 4 rfl ?_
  refine zs_iconst (v := 1) dX10_gap_23 ciconst_1 ?_
  refine zs_icmp_le dX10_gap_24 rfl ?_ ?_
  · refine zs_aload_n dX10_gap_33 rfl 0 rfl ?_
    refine zs_iload_n dX10_gap_34 rfl 1 rfl ?_
    refine zs_invVWI (rest := []) [.int v1] dX10_gap_35 lk_X10_274 rfl (fun _ h => th_X10_hasModel h) (zd1 rfl hd) rfl (Nat.le_of_ble_eq_true rfl) (ct_X10_hasModel E hE _ (zdl rfl hd) _ _ _) (fun y14 M15 => ?_)
    refine zs_if_ne dX10_gap_38 rfl ?_ ?_
    · refine zs_aload_n dX10_gap_48 rfl 0 rfl ?_
      refine zs_getR dX10_gap_49 fl_X10_57 rfl (fun y17 => ?_)
      refine zs_iload_n dX10_gap_52 rfl 1 rfl ?_
      refine zs_aload_n dX10_gap_53 rfl 0 rfl ?_
      refine zs_getR dX10_gap_54 fl_X10_84 rfl (fun y18 => ?_)
      refine zs_invVWV (rest := []) [.int v1, .ref (E.2.2.2.1 + y18)] dX10_gap_57 lk_X10_277 rfl (fun _ h => th_X1_spell h) (zd1 rfl hd) rfl (Nat.le_of_ble_eq_true rfl) (ct_X1_spell E hE _ (zdl rfl hd) _ _ _ _) (fun M19 => ?_)
      refine zs_aload_n dX10_gap_60 rfl 0 rfl ?_
      refine zs_getR dX10_gap_61 fl_X10_84 rfl (fun y20 => ?_)
      refine zs_iconst (v := 2) dX10_gap_64 ciconst_2 ?_
      refine zs_aload_n dX10_gap_65 rfl 0 rfl ?_
      refine zs_getI dX10_gap_66 fl_X10_129 rfl (fun y21 => ?_)
      refine zs_imul dX10_gap_69 ?_
      refine zs_iload_n dX10_gap_70 rfl 2 rfl ?_
      refine zs_iload_n dX10_gap_71 rfl 3 rfl ?_
      refine zs_invSPI (rest := []) [.ref (E.2.2.2.1 + y20), .int (2 * y21), .int v2, .int v3] dX10_gap_72 lk_X10_326 rfl (zd1 rfl hd) rfl (Nat.le_of_ble_eq_true rfl) (ct_X5_coupleAt E hE _ (zdl rfl hd) _ _ _ _ _) (fun y22 => ?_)
      refine zs_istore (loc' := [(0, .ref (E.2.2.2.1 + v0)), (4, .int v4), (5, .int y22)]) dX10_gap_75 (Nat.le_of_ble_eq_true rfl) [1, 5, 0] rfl ?_
      refine zs_iload dX10_gap_77 2 rfl ?_
      refine zs_if_ge dX10_gap_79 rfl ?_ ?_
      · refine zs_aload_n dX10_gap_89 rfl 0 rfl ?_
        refine zs_iload dX10_gap_90 1 rfl ?_
        refine zs_if_ne dX10_gap_92 rfl ?_ ?_
        · refine zs_iload dX10_gap_103 2 rfl ?_
          refine zs_bipush (v := 15) dX10_gap_105 cbipush_15 ?_
          refine zs_iremK dX10_gap_107 (by decide) ?_
          refine zs_invVWI (rest := []) [.int (y22 - y22 / 15 * 15)] dX10_gap_108 lk_X10_130 rfl (fun _ h => th_X10_answer h) (zd1 rfl hd) rfl (Nat.le_of_ble_eq_true rfl) (ct_X10_answer E hE _ (zdl rfl hd) _ _ _) (fun y23 M24 => ?_)
          exact zs_iretW dX10_gap_111 rfl
        refine zs_iload dX10_gap_95 2 rfl ?_
        refine zs_bipush (v := 15) dX10_gap_97 cbipush_15 ?_
        refine zs_idivK dX10_gap_99 (by decide) ?_
        refine zs_goto dX10_gap_100 rfl ?_
        refine zs_invVWI (rest := []) [.int (y22 / 15)] dX10_gap_108 lk_X10_130 rfl (fun _ h => th_X10_answer h) (zd1 rfl hd) rfl (Nat.le_of_ble_eq_true rfl) (ct_X10_answer E hE _ (zdl rfl hd) _ _ _) (fun y26 M27 => ?_)
        exact zs_iretW dX10_gap_111 rfl
      refine zs_aload_n dX10_gap_82 rfl 0 rfl ?_
      refine zs_bipush (v := 6) dX10_gap_83 cbipush_6 ?_
      refine zs_invVWI (rest := []) [.int 6] dX10_gap_85 lk_X10_102 rfl (fun _ h => th_X10_refuse h) (zd1 rfl hd) rfl (Nat.le_of_ble_eq_true rfl) (ct_X10_refuse E hE _ (zdl rfl hd) _ _ _) (fun y29 M30 => ?_)
      exact zs_iretW dX10_gap_88 rfl
    refine zs_aload_n dX10_gap_41 rfl 0 rfl ?_
    refine zs_bipush (v := 6) dX10_gap_42 cbipush_6 ?_
    refine zs_invVWI (rest := []) [.int 6] dX10_gap_44 lk_X10_102 rfl (fun _ h => th_X10_refuse h) (zd1 rfl hd) rfl (Nat.le_of_ble_eq_true rfl) (ct_X10_refuse E hE _ (zdl rfl hd) _ _ _) (fun y32 M33 => ?_)
    exact zs_iretW dX10_gap_47 rfl
  refine zs_aload_n dX10_gap_27 rfl 0 rfl ?_
  refine zs_iconst (v := 1) dX10_gap_28 ciconst_1 ?_
  refine zs_invVWI (rest := []) [.int 1] dX10_gap_29 lk_X10_102 rfl (fun _ h => th_X10_refuse h) (zd1 rfl hd) rfl (Nat.le_of_ble_eq_true rfl) (ct_X10_refuse E hE _ (zdl rfl hd) _ _ _) (fun y35 M36 => ?_)
  exact zs_iretW dX10_gap_32 rfl
theorem dX10_could_0 : decode cX10_could 0 = .ok (.aload_n 0, 1) := by decide +kernel
theorem dX10_could_1 : decode cX10_could 1 = .ok (.iload_n 1, 1) := by decide +kernel
theorem dX10_could_2 : decode cX10_could 2 = .ok (.invokevirtual 171, 3) := by decide +kernel
theorem dX10_could_5 : decode cX10_could 5 = .ok (.ifCond .ne 9, 3) := by decide +kernel
theorem dX10_could_8 : decode cX10_could 8 = .ok (.aload_n 0, 1) := by decide +kernel
theorem dX10_could_9 : decode cX10_could 9 = .ok (.iconst 1, 1) := by decide +kernel
theorem dX10_could_10 : decode cX10_could 10 = .ok (.invokevirtual 102, 3) := by decide +kernel
theorem dX10_could_13 : decode cX10_could 13 = .ok (.ireturn, 1) := by decide +kernel
theorem dX10_could_14 : decode cX10_could 14 = .ok (.aload_n 0, 1) := by decide +kernel
theorem dX10_could_15 : decode cX10_could 15 = .ok (.getfield 57, 3) := by decide +kernel
theorem dX10_could_18 : decode cX10_could 18 = .ok (.aload_n 0, 1) := by decide +kernel
theorem dX10_could_19 : decode cX10_could 19 = .ok (.getfield 129, 3) := by decide +kernel
theorem dX10_could_22 : decode cX10_could 22 = .ok (.aload_n 0, 1) := by decide +kernel
theorem dX10_could_23 : decode cX10_could 23 = .ok (.getfield 136, 3) := by decide +kernel
theorem dX10_could_26 : decode cX10_could 26 = .ok (.ldc 157, 2) := by decide +kernel
theorem dX10_could_28 : decode cX10_could 28 = .ok (.invokevirtual 158, 3) := by decide +kernel
theorem dX10_could_31 : decode cX10_could 31 = .ok (.iconst 0, 1) := by decide +kernel
theorem dX10_could_32 : decode cX10_could 32 = .ok (.istore_n 2, 1) := by decide +kernel
theorem dX10_could_33 : decode cX10_could 33 = .ok (.iconst 0, 1) := by decide +kernel
theorem dX10_could_34 : decode cX10_could 34 = .ok (.istore_n 3, 1) := by decide +kernel
theorem dX10_could_35 : decode cX10_could 35 = .ok (.iload_n 3, 1) := by decide +kernel
theorem dX10_could_36 : decode cX10_could 36 = .ok (.aload_n 0, 1) := by decide +kernel
theorem dX10_could_37 : decode cX10_could 37 = .ok (.getfield 57, 3) := by decide +kernel
theorem dX10_could_40 : decode cX10_could 40 = .ok (.getfield 161, 3) := by decide +kernel
theorem dX10_could_43 : decode cX10_could 43 = .ok (.if_icmp .ge 24, 3) := by decide +kernel
theorem dX10_could_46 : decode cX10_could 46 = .ok (.aload_n 0, 1) := by decide +kernel
theorem dX10_could_47 : decode cX10_could 47 = .ok (.getfield 57, 3) := by decide +kernel
theorem dX10_could_50 : decode cX10_could 50 = .ok (.iload_n 3, 1) := by decide +kernel
theorem dX10_could_51 : decode cX10_could 51 = .ok (.iload_n 1, 1) := by decide +kernel
theorem dX10_could_52 : decode cX10_could 52 = .ok (.invokevirtual 330, 3) := by decide +kernel
theorem dX10_could_55 : decode cX10_could 55 = .ok (.ifCond .eq 6, 3) := by decide +kernel
theorem dX10_could_58 : decode cX10_could 58 = .ok (.iinc 2 1, 3) := by decide +kernel
theorem dX10_could_61 : decode cX10_could 61 = .ok (.iinc 3 1, 3) := by decide +kernel
theorem dX10_could_64 : decode cX10_could 64 = .ok (.goto (-29), 3) := by decide +kernel
theorem dX10_could_67 : decode cX10_could 67 = .ok (.aload_n 0, 1) := by decide +kernel
theorem dX10_could_68 : decode cX10_could 68 = .ok (.iload_n 2, 1) := by decide +kernel
theorem dX10_could_69 : decode cX10_could 69 = .ok (.invokevirtual 130, 3) := by decide +kernel
theorem dX10_could_72 : decode cX10_could 72 = .ok (.ireturn, 1) := by decide +kernel
def fp_X10_could_L35 (v0 : Nat) (v1 : Int32) : Nat → Int32 → Int32 → zM → Option (Int32 × zM)
  | 0, _, _, _ => none
  | n + 1, v2, v3, M =>
    (zgR 8 M v0 10).bind fun (y6 : Nat) =>
    (zgI 1 M y6 0).bind fun (y7 : Int32) =>
    if v3 ≥ y7 then (
      (fp_X10_answer v0 v2 M).bind fun p10 => zpp p10 fun (y8 : Int32) (M9 : zM) =>
      some (y8, M9))
    else (
      (zgR 8 M v0 10).bind fun (y11 : Nat) =>
      (fp_X1_letsIn y11 v3 v1 M).bind fun p14 => zpp p14 fun (y12 : Int32) (M13 : zM) =>
      zjn (fun (v2_15 : Int32) =>
          fp_X10_could_L35 v0 v1 n v2_15 (v3 + 1) M13)
        (fun j61 =>
          if y12 = 0 then (
            j61 v2)
          else (
            j61 (v2 + 1))))
def fp_X10_could (v0 : Nat) (v1 : Int32) (M : zM) : Option (Int32 × zM) :=
  zthis 8 M v0 (
    (fp_X10_hasSet v0 v1 M).bind fun (y1 : Int32) =>
    if y1 ≠ 0 then (
      (zgR 8 M v0 10).bind fun (y2 : Nat) =>
      (zgI 8 M v0 1).bind fun (y3 : Int32) =>
      (zgI 8 M v0 2).bind fun (y4 : Int32) =>
      (fp_X1_gather y2 y3 y4 80000 M).bind fun (M5 : zM) =>
      fp_X10_could_L35 v0 v1 FU 0 0 M5)
    else (
      (fp_X10_refuse v0 1 M).bind fun p18 => zpp p18 fun (y16 : Int32) (M17 : zM) =>
      some (y16, M17)))
set_option maxHeartbeats 4000000 in
set_option maxRecDepth 100000 in
theorem th_X10_could {v0 : Nat} {v1 : Int32} {M : zM} {x0 : Int32 × zM} (h : fp_X10_could v0 v1 M = some x0) : v0 < zS M ∧ kd v0 = 8 := by
  unfold fp_X10_could at h
  exact zthis_of h
set_option maxHeartbeats 4000000 in
set_option maxRecDepth 100000 in
theorem w_X10_could_L35 (E : zEnv) (hE : zEok E) (d : Nat) (hd : 27 ≤ d) (M0 : zM) (x0 : Int32 × zM) (v0 : Nat) (v1 : Int32)  : ∀ (n : Nat) (v2 : Int32) (v3 : Int32) (M : zM), zSy E mu_X10_could d M0 (some (.int x0.1), x0.2) x0 (fp_X10_could_L35 v0 v1 n v2 v3 M) 35 [(0, .ref (E.2.2.2.1 + v0)), (1, .int v1), (2, .int v2), (3, .int v3)] [] M := by
  intro n
  induction n with
  | zero =>
    intro v2 v3 M
    rw [fp_X10_could_L35]
    exact zs_none
  | succ n ih =>
    intro v2 v3 M
    rw [fp_X10_could_L35]
    refine zs_iload_n dX10_could_35 rfl 3 rfl ?_
    refine zs_aload_n dX10_could_36 rfl 0 rfl ?_
    refine zs_getR dX10_could_37 fl_X10_57 rfl (fun y6 => ?_)
    refine zs_getI dX10_could_40 fl_X10_161 rfl (fun y7 => ?_)
    refine zs_icmp_ge dX10_could_43 rfl ?_ ?_
    · refine zs_aload_n dX10_could_67 rfl 0 rfl ?_
      refine zs_iload_n dX10_could_68 rfl 2 rfl ?_
      refine zs_invVWI (rest := []) [.int v2] dX10_could_69 lk_X10_130 rfl (fun _ h => th_X10_answer h) (zd1 rfl hd) rfl (Nat.le_of_ble_eq_true rfl) (ct_X10_answer E hE _ (zdl rfl hd) _ _ _) (fun y8 M9 => ?_)
      exact zs_iretW dX10_could_72 rfl
    refine zs_aload_n dX10_could_46 rfl 0 rfl ?_
    refine zs_getR dX10_could_47 fl_X10_57 rfl (fun y11 => ?_)
    refine zs_iload_n dX10_could_50 rfl 3 rfl ?_
    refine zs_iload_n dX10_could_51 rfl 1 rfl ?_
    refine zs_invVWI (rest := []) [.int v3, .int v1] dX10_could_52 lk_X10_330 rfl (fun _ h => th_X1_letsIn h) (zd1 rfl hd) rfl (Nat.le_of_ble_eq_true rfl) (ct_X1_letsIn E hE _ (zdl rfl hd) _ _ _ _) (fun y12 M13 => ?_)
    refine zs_jn (fun j61 => ∀ (v2_15 : Int32), zSy E mu_X10_could d M0 (some (.int x0.1), x0.2) x0 (j61 v2_15) 61 [(0, .ref (E.2.2.2.1 + v0)), (1, .int v1), (2, .int v2_15), (3, .int v3)] [] M13) (fun v2_15 => ?_) (fun j61 hj61 => ?_)
    · refine zs_iinc (v := (v3 + 1)) (loc' := [(0, .ref (E.2.2.2.1 + v0)), (1, .int v1), (2, .int v2_15), (3, .int (v3 + 1))]) dX10_could_61 3 rfl (by rfl) (Nat.le_of_ble_eq_true rfl) [1, 2, 3, 0] rfl ?_
      refine zs_goto dX10_could_64 rfl ?_
      exact ih v2_15 (v3 + 1) M13
    refine zs_if_eq dX10_could_55 rfl ?_ ?_
    · exact hj61 v2
    refine zs_iinc (v := (v2 + 1)) (loc' := [(0, .ref (E.2.2.2.1 + v0)), (1, .int v1), (2, .int (v2 + 1)), (3, .int v3)]) dX10_could_58 2 rfl (by rfl) (Nat.le_of_ble_eq_true rfl) [1, 2, 0, 3] rfl ?_
    exact hj61 (v2 + 1)
set_option maxHeartbeats 4000000 in
set_option maxRecDepth 100000 in
theorem ct_X10_could (E : zEnv) (hE : zEok E) (d : Nat) (hd : 27 ≤ d) (v0 : Nat) (v1 : Int32) (M : zM) (x0 : Int32 × zM) (hx : fp_X10_could v0 v1 M = some x0) : zCt E mu_X10_could d [.ref (E.2.2.2.1 + v0), .int v1] M (some (.int x0.1), x0.2) := by
  refine zCt_of (μ := mu_X10_could) (t := fp_X10_could v0 v1 M) rfl rfl (Nat.le_of_ble_eq_true rfl) hx ?_
  change zSy E mu_X10_could d M (some (.int x0.1), x0.2) x0 (fp_X10_could v0 v1 M) 0 [(0, .ref (E.2.2.2.1 + v0)), (1, .int v1)] [] M
  unfold fp_X10_could
  refine zs_this (fun hth => ?_)
  refine zs_aload_n dX10_could_0 rfl 0 rfl ?_
  refine zs_iload_n dX10_could_1 rfl 1 rfl ?_
  refine zs_invVPI (rest := []) [.int v1] dX10_could_2 lk_X10_171 rfl (fun _ h => th_X10_hasSet h) (zd1 rfl hd) rfl (Nat.le_of_ble_eq_true rfl) (ct_X10_hasSet E hE _ (zdl rfl hd) _ _ _) (fun y1 => ?_)
  refine zs_if_ne dX10_could_5 rfl ?_ ?_
  · refine zs_aload_n dX10_could_14 rfl 0 rfl ?_
    refine zs_getR dX10_could_15 fl_X10_57 rfl (fun y2 => ?_)
    refine zs_aload_n dX10_could_18 rfl 0 rfl ?_
    refine zs_getI dX10_could_19 fl_X10_129 rfl (fun y3 => ?_)
    refine zs_aload_n dX10_could_22 rfl 0 rfl ?_
    refine zs_getI dX10_could_23 fl_X10_136 rfl (fun y4 => ?_)
    refine zs_ldc (v := 80000) dX10_could_26 (ti_3 86 rfl rfl) ?_
    refine zs_invVWV (rest := []) [.int y3, .int y4, .int 80000] dX10_could_28 lk_X10_158 rfl (fun _ h => th_X1_gather h) (zd1 rfl hd) rfl (Nat.le_of_ble_eq_true rfl) (ct_X1_gather E hE _ (zdl rfl hd) _ _ _ _ _) (fun M5 => ?_)
    refine zs_iconst (v := 0) dX10_could_31 ciconst_0 ?_
    refine zs_istore_n (loc' := [(0, .ref (E.2.2.2.1 + v0)), (1, .int v1), (2, .int 0)]) dX10_could_32 rfl (Nat.le_of_ble_eq_true rfl) [1, 2, 0] rfl ?_
    refine zs_iconst (v := 0) dX10_could_33 ciconst_0 ?_
    refine zs_istore_n (loc' := [(0, .ref (E.2.2.2.1 + v0)), (1, .int v1), (2, .int 0), (3, .int 0)]) dX10_could_34 rfl (Nat.le_of_ble_eq_true rfl) [1, 2, 3, 0] rfl ?_
    exact w_X10_could_L35 E hE d hd _ _ _ _ _ _ _ _
  refine zs_aload_n dX10_could_8 rfl 0 rfl ?_
  refine zs_iconst (v := 1) dX10_could_9 ciconst_1 ?_
  refine zs_invVWI (rest := []) [.int 1] dX10_could_10 lk_X10_102 rfl (fun _ h => th_X10_refuse h) (zd1 rfl hd) rfl (Nat.le_of_ble_eq_true rfl) (ct_X10_refuse E hE _ (zdl rfl hd) _ _ _) (fun y16 M17 => ?_)
  exact zs_iretW dX10_could_13 rfl

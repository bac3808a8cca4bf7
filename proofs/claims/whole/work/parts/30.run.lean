theorem dX11_counts_0 : decode cX11_counts 0 = .ok (.iconst 0, 1) := by decide +kernel
theorem dX11_counts_1 : decode cX11_counts 1 = .ok (.istore 4, 2) := by decide +kernel
theorem dX11_counts_3 : decode cX11_counts 3 = .ok (.iload 4, 2) := by decide +kernel
theorem dX11_counts_5 : decode cX11_counts 5 = .ok (.bipush 26, 2) := by decide +kernel
theorem dX11_counts_7 : decode cX11_counts 7 = .ok (.if_icmp .ge 17, 3) := by decide +kernel
theorem dX11_counts_10 : decode cX11_counts 10 = .ok (.aload_n 0, 1) := by decide +kernel
theorem dX11_counts_11 : decode cX11_counts 11 = .ok (.getfield 27, 3) := by decide +kernel
theorem dX11_counts_14 : decode cX11_counts 14 = .ok (.iload 4, 2) := by decide +kernel
theorem dX11_counts_16 : decode cX11_counts 16 = .ok (.iconst 0, 1) := by decide +kernel
theorem dX11_counts_17 : decode cX11_counts 17 = .ok (.iastore, 1) := by decide +kernel
theorem dX11_counts_18 : decode cX11_counts 18 = .ok (.iinc 4 1, 3) := by decide +kernel
theorem dX11_counts_21 : decode cX11_counts 21 = .ok (.goto (-18), 3) := by decide +kernel
theorem dX11_counts_24 : decode cX11_counts 24 = .ok (.iload_n 2, 1) := by decide +kernel
theorem dX11_counts_25 : decode cX11_counts 25 = .ok (.istore 4, 2) := by decide +kernel
theorem dX11_counts_27 : decode cX11_counts 27 = .ok (.iload 4, 2) := by decide +kernel
theorem dX11_counts_29 : decode cX11_counts 29 = .ok (.iload_n 3, 1) := by decide +kernel
theorem dX11_counts_30 : decode cX11_counts 30 = .ok (.if_icmp .ge 71, 3) := by decide +kernel
theorem dX11_counts_33 : decode cX11_counts 33 = .ok (.aload_n 1, 1) := by decide +kernel
theorem dX11_counts_34 : decode cX11_counts 34 = .ok (.iload 4, 2) := by decide +kernel
theorem dX11_counts_36 : decode cX11_counts 36 = .ok (.baload, 1) := by decide +kernel
theorem dX11_counts_37 : decode cX11_counts 37 = .ok (.bipush 97, 2) := by decide +kernel
theorem dX11_counts_39 : decode cX11_counts 39 = .ok (.isub, 1) := by decide +kernel
theorem dX11_counts_40 : decode cX11_counts 40 = .ok (.istore 5, 2) := by decide +kernel
theorem dX11_counts_42 : decode cX11_counts 42 = .ok (.iload 5, 2) := by decide +kernel
theorem dX11_counts_44 : decode cX11_counts 44 = .ok (.iconst 0, 1) := by decide +kernel
theorem dX11_counts_45 : decode cX11_counts 45 = .ok (.bipush 25, 2) := by decide +kernel
theorem dX11_counts_47 : decode cX11_counts 47 = .ok (.invokestatic 195, 3) := by decide +kernel
theorem dX11_counts_50 : decode cX11_counts 50 = .ok (.ifCond .ne 6, 3) := by decide +kernel
theorem dX11_counts_53 : decode cX11_counts 53 = .ok (.goto 42, 3) := by decide +kernel
theorem dX11_counts_56 : decode cX11_counts 56 = .ok (.aload_n 0, 1) := by decide +kernel
theorem dX11_counts_57 : decode cX11_counts 57 = .ok (.getfield 27, 3) := by decide +kernel
theorem dX11_counts_60 : decode cX11_counts 60 = .ok (.iload 5, 2) := by decide +kernel
theorem dX11_counts_62 : decode cX11_counts 62 = .ok (.iaload, 1) := by decide +kernel
theorem dX11_counts_63 : decode cX11_counts 63 = .ok (.ifCond .ne 12, 3) := by decide +kernel
theorem dX11_counts_66 : decode cX11_counts 66 = .ok (.aload_n 0, 1) := by decide +kernel
theorem dX11_counts_67 : decode cX11_counts 67 = .ok (.getfield 30, 3) := by decide +kernel
theorem dX11_counts_70 : decode cX11_counts 70 = .ok (.iload 5, 2) := by decide +kernel
theorem dX11_counts_72 : decode cX11_counts 72 = .ok (.iload 4, 2) := by decide +kernel
theorem dX11_counts_74 : decode cX11_counts 74 = .ok (.iastore, 1) := by decide +kernel
theorem dX11_counts_75 : decode cX11_counts 75 = .ok (.aload_n 0, 1) := by decide +kernel
theorem dX11_counts_76 : decode cX11_counts 76 = .ok (.getfield 33, 3) := by decide +kernel
theorem dX11_counts_79 : decode cX11_counts 79 = .ok (.iload 5, 2) := by decide +kernel
theorem dX11_counts_81 : decode cX11_counts 81 = .ok (.iload 4, 2) := by decide +kernel
theorem dX11_counts_83 : decode cX11_counts 83 = .ok (.iastore, 1) := by decide +kernel
theorem dX11_counts_84 : decode cX11_counts 84 = .ok (.aload_n 0, 1) := by decide +kernel
theorem dX11_counts_85 : decode cX11_counts 85 = .ok (.getfield 27, 3) := by decide +kernel
theorem dX11_counts_88 : decode cX11_counts 88 = .ok (.iload 5, 2) := by decide +kernel
theorem dX11_counts_90 : decode cX11_counts 90 = .ok (.dup2, 1) := by decide +kernel
theorem dX11_counts_91 : decode cX11_counts 91 = .ok (.iaload, 1) := by decide +kernel
theorem dX11_counts_92 : decode cX11_counts 92 = .ok (.iconst 1, 1) := by decide +kernel
theorem dX11_counts_93 : decode cX11_counts 93 = .ok (.iadd, 1) := by decide +kernel
theorem dX11_counts_94 : decode cX11_counts 94 = .ok (.iastore, 1) := by decide +kernel
theorem dX11_counts_95 : decode cX11_counts 95 = .ok (.iinc 4 1, 3) := by decide +kernel
theorem dX11_counts_98 : decode cX11_counts 98 = .ok (.goto (-71), 3) := by decide +kernel
theorem dX11_counts_101 : decode cX11_counts 101 = .ok (.return_, 1) := by decide +kernel
def fp_X11_counts_L3 (k24 : zM → Option (zM)) (v0 : Nat) (v1 : Nat) (v2 : Int32) (v3 : Int32) : Nat → Int32 → zM → Option (zM)
  | 0, _, _ => none
  | n + 1, v4, M =>
    if v4 ≥ 26 then (
      k24 M)
    else (
      (zgR 9 M v0 13).bind fun (y1 : Nat) =>
      (ztI M y1 v4 0).bind fun (M2 : zM) =>
      fp_X11_counts_L3 k24 v0 v1 v2 v3 n (v4 + 1) M2)
def fp_X11_counts_L27 (v0 : Nat) (v1 : Nat) (v3 : Int32) : Nat → Int32 → zM → Option (zM)
  | 0, _, _ => none
  | n + 1, v4, M =>
    if v4 ≥ v3 then (
      some M)
    else (
      (zlI 102 M v1 v4).bind fun (y4 : Int32) =>
      lett ((y4 - 97)) fun (v5_5 : Int32) =>
      (fp_X11_isFrom v5_5 0 25).bind fun (y6 : Int32) =>
      zjn (fun (M7 : zM) =>
          fp_X11_counts_L27 v0 v1 v3 n (v4 + 1) M7)
        (fun j95 =>
          if y6 ≠ 0 then (
            (zgR 9 M v0 13).bind fun (y8 : Nat) =>
            (zlI 100 M y8 v5_5).bind fun (y9 : Int32) =>
            zjn (fun (M10 : zM) =>
                (zgR 9 M10 v0 15).bind fun (y11 : Nat) =>
                (ztI M10 y11 v5_5 v4).bind fun (M12 : zM) =>
                (zgR 9 M12 v0 13).bind fun (y13 : Nat) =>
                (zlI 100 M12 y13 v5_5).bind fun (y14 : Int32) =>
                (ztI M12 y13 v5_5 (y14 + 1)).bind fun (M15 : zM) =>
                j95 M15)
              (fun j75 =>
                if y9 ≠ 0 then (
                  j75 M)
                else (
                  (zgR 9 M v0 14).bind fun (y16 : Nat) =>
                  (ztI M y16 v5_5 v4).bind fun (M17 : zM) =>
                  j75 M17)))
          else (
            j95 M)))
def fp_X11_counts (v0 : Nat) (v1 : Nat) (v2 : Int32) (v3 : Int32) (M : zM) : Option (zM) :=
  zthis 9 M v0 (
    fp_X11_counts_L3
      (fun M3 =>
        fp_X11_counts_L27 v0 v1 v3 FU v2 M3) v0 v1 v2 v3 FU 0 M)
set_option maxHeartbeats 4000000 in
set_option maxRecDepth 100000 in
theorem th_X11_counts {v0 : Nat} {v1 : Nat} {v2 : Int32} {v3 : Int32} {M : zM} {x0 : zM} (h : fp_X11_counts v0 v1 v2 v3 M = some x0) : v0 < zS M ∧ kd v0 = 9 := by
  unfold fp_X11_counts at h
  exact zthis_of h
set_option maxHeartbeats 4000000 in
set_option maxRecDepth 100000 in
theorem w_X11_counts_L3 (E : zEnv) (hE : zEok E) (d : Nat) (hd : 2 ≤ d) (M0 : zM) (x0 : zM) (v0 : Nat) (v1 : Nat) (v2 : Int32) (v3 : Int32) (k24 : zM → Option (zM)) (hk24 : ∀ (M : zM), zSy E mu_X11_counts d M0 (none, x0) x0 (k24 M) 24 [(0, .ref (E.2.2.2.1 + v0)), (1, .ref (E.2.2.2.1 + v1)), (2, .int v2), (3, .int v3)] [] M) : ∀ (n : Nat) (v4 : Int32) (M : zM), zSy E mu_X11_counts d M0 (none, x0) x0 (fp_X11_counts_L3 k24 v0 v1 v2 v3 n v4 M) 3 [(0, .ref (E.2.2.2.1 + v0)), (1, .ref (E.2.2.2.1 + v1)), (2, .int v2), (3, .int v3), (4, .int v4)] [] M := by
  intro n
  induction n with
  | zero =>
    intro v4 M
    rw [fp_X11_counts_L3]
    exact zs_none
  | succ n ih =>
    intro v4 M
    rw [fp_X11_counts_L3]
    refine zs_iload dX11_counts_3 4 rfl ?_
    refine zs_bipush (v := 26) dX11_counts_5 cbipush_26 ?_
    refine zs_icmp_ge dX11_counts_7 rfl ?_ ?_
    · refine zs_sub (loc' := [(0, .ref (E.2.2.2.1 + v0)), (1, .ref (E.2.2.2.1 + v1)), (2, .int v2), (3, .int v3)]) [0, 1, 2, 3] rfl ?_
      exact hk24 M
    refine zs_aload_n dX11_counts_10 rfl 0 rfl ?_
    refine zs_getR dX11_counts_11 fl_X11_27 rfl (fun y1 => ?_)
    refine zs_iload dX11_counts_14 4 rfl ?_
    refine zs_iconst (v := 0) dX11_counts_16 ciconst_0 ?_
    refine zs_stI dX11_counts_17 (fun M2 => ?_)
    refine zs_iinc (v := (v4 + 1)) (loc' := [(0, .ref (E.2.2.2.1 + v0)), (1, .ref (E.2.2.2.1 + v1)), (2, .int v2), (3, .int v3), (4, .int (v4 + 1))]) dX11_counts_18 4 rfl (by rfl) (Nat.le_of_ble_eq_true rfl) [1, 2, 3, 4, 0] rfl ?_
    refine zs_goto dX11_counts_21 rfl ?_
    exact ih (v4 + 1) M2
set_option maxHeartbeats 4000000 in
set_option maxRecDepth 100000 in
theorem w_X11_counts_L27 (E : zEnv) (hE : zEok E) (d : Nat) (hd : 2 ≤ d) (M0 : zM) (x0 : zM) (v0 : Nat) (v1 : Nat) (v3 : Int32)  : ∀ (n : Nat) (v4 : Int32) (M : zM), zSy E mu_X11_counts d M0 (none, x0) x0 (fp_X11_counts_L27 v0 v1 v3 n v4 M) 27 [(0, .ref (E.2.2.2.1 + v0)), (1, .ref (E.2.2.2.1 + v1)), (3, .int v3), (4, .int v4)] [] M := by
  intro n
  induction n with
  | zero =>
    intro v4 M
    rw [fp_X11_counts_L27]
    exact zs_none
  | succ n ih =>
    intro v4 M
    rw [fp_X11_counts_L27]
    refine zs_iload dX11_counts_27 3 rfl ?_
    refine zs_iload_n dX11_counts_29 rfl 2 rfl ?_
    refine zs_icmp_ge dX11_counts_30 rfl ?_ ?_
    · exact zs_vret dX11_counts_101 trivial
    refine zs_aload_n dX11_counts_33 rfl 1 rfl ?_
    refine zs_iload dX11_counts_34 3 rfl ?_
    refine zs_ldB dX11_counts_36 (fun y4 => ?_)
    refine zs_bipush (v := 97) dX11_counts_37 cbipush_97 ?_
    refine zs_isub dX11_counts_39 ?_
    refine zs_istoreL (loc' := fun v5_5 => [(0, .ref (E.2.2.2.1 + v0)), (1, .ref (E.2.2.2.1 + v1)), (3, .int v3), (4, .int v4), (5, .int v5_5)]) dX11_counts_40 (Nat.le_of_ble_eq_true rfl) [1, 2, 3, 4, 0] (fun _ => rfl) (fun v5_5 => ?_)
    refine zs_iload dX11_counts_42 4 rfl ?_
    refine zs_iconst (v := 0) dX11_counts_44 ciconst_0 ?_
    refine zs_bipush (v := 25) dX11_counts_45 cbipush_25 ?_
    refine zs_invSPI (rest := []) [.int v5_5, .int 0, .int 25] dX11_counts_47 lk_X11_195 rfl (zd1 rfl hd) rfl (Nat.le_of_ble_eq_true rfl) (ct_X11_isFrom E hE _ (zdl rfl hd) _ _ _ _) (fun y6 => ?_)
    refine zs_jn (fun j95 => ∀ (M7 : zM), zSy E mu_X11_counts d M0 (none, x0) x0 (j95 M7) 95 [(0, .ref (E.2.2.2.1 + v0)), (1, .ref (E.2.2.2.1 + v1)), (3, .int v3), (4, .int v4)] [] M7) (fun M7 => ?_) (fun j95 hj95 => ?_)
    · refine zs_iinc (v := (v4 + 1)) (loc' := [(0, .ref (E.2.2.2.1 + v0)), (1, .ref (E.2.2.2.1 + v1)), (3, .int v3), (4, .int (v4 + 1))]) dX11_counts_95 3 rfl (by rfl) (Nat.le_of_ble_eq_true rfl) [1, 2, 3, 0] rfl ?_
      refine zs_goto dX11_counts_98 rfl ?_
      exact ih (v4 + 1) M7
    refine zs_if_ne dX11_counts_50 rfl ?_ ?_
    · refine zs_aload_n dX11_counts_56 rfl 0 rfl ?_
      refine zs_getR dX11_counts_57 fl_X11_27 rfl (fun y8 => ?_)
      refine zs_iload dX11_counts_60 4 rfl ?_
      refine zs_ldI dX11_counts_62 (fun y9 => ?_)
      refine zs_jn (fun j75 => ∀ (M10 : zM), zSy E mu_X11_counts d M0 (none, x0) x0 (j75 M10) 75 [(0, .ref (E.2.2.2.1 + v0)), (1, .ref (E.2.2.2.1 + v1)), (3, .int v3), (4, .int v4), (5, .int v5_5)] [] M10) (fun M10 => ?_) (fun j75 hj75 => ?_)
      · refine zs_aload_n dX11_counts_75 rfl 0 rfl ?_
        refine zs_getR dX11_counts_76 fl_X11_33 rfl (fun y11 => ?_)
        refine zs_iload dX11_counts_79 4 rfl ?_
        refine zs_iload dX11_counts_81 3 rfl ?_
        refine zs_stI dX11_counts_83 (fun M12 => ?_)
        refine zs_aload_n dX11_counts_84 rfl 0 rfl ?_
        refine zs_getR dX11_counts_85 fl_X11_27 rfl (fun y13 => ?_)
        refine zs_iload dX11_counts_88 4 rfl ?_
        refine zs_dup2 dX11_counts_90 rfl rfl ?_
        refine zs_ldI dX11_counts_91 (fun y14 => ?_)
        refine zs_iconst (v := 1) dX11_counts_92 ciconst_1 ?_
        refine zs_iadd dX11_counts_93 ?_
        refine zs_stI dX11_counts_94 (fun M15 => ?_)
        refine zs_sub (loc' := [(0, .ref (E.2.2.2.1 + v0)), (1, .ref (E.2.2.2.1 + v1)), (3, .int v3), (4, .int v4)]) [0, 1, 2, 3] rfl ?_
        exact hj95 M15
      refine zs_if_ne dX11_counts_63 rfl ?_ ?_
      · exact hj75 M
      refine zs_aload_n dX11_counts_66 rfl 0 rfl ?_
      refine zs_getR dX11_counts_67 fl_X11_30 rfl (fun y16 => ?_)
      refine zs_iload dX11_counts_70 4 rfl ?_
      refine zs_iload dX11_counts_72 3 rfl ?_
      refine zs_stI dX11_counts_74 (fun M17 => ?_)
      exact hj75 M17
    refine zs_goto dX11_counts_53 rfl ?_
    refine zs_sub (loc' := [(0, .ref (E.2.2.2.1 + v0)), (1, .ref (E.2.2.2.1 + v1)), (3, .int v3), (4, .int v4)]) [0, 1, 2, 3] rfl ?_
    exact hj95 M
set_option maxHeartbeats 4000000 in
set_option maxRecDepth 100000 in
theorem ct_X11_counts (E : zEnv) (hE : zEok E) (d : Nat) (hd : 2 ≤ d) (v0 : Nat) (v1 : Nat) (v2 : Int32) (v3 : Int32) (M : zM) (x0 : zM) (hx : fp_X11_counts v0 v1 v2 v3 M = some x0) : zCt E mu_X11_counts d [.ref (E.2.2.2.1 + v0), .ref (E.2.2.2.1 + v1), .int v2, .int v3] M (none, x0) := by
  refine zCt_of (μ := mu_X11_counts) (t := fp_X11_counts v0 v1 v2 v3 M) rfl rfl (Nat.le_of_ble_eq_true rfl) hx ?_
  change zSy E mu_X11_counts d M (none, x0) x0 (fp_X11_counts v0 v1 v2 v3 M) 0 [(0, .ref (E.2.2.2.1 + v0)), (1, .ref (E.2.2.2.1 + v1)), (2, .int v2), (3, .int v3)] [] M
  unfold fp_X11_counts
  refine zs_this (fun hth => ?_)
  refine zs_iconst (v := 0) dX11_counts_0 ciconst_0 ?_
  refine zs_istore (loc' := [(0, .ref (E.2.2.2.1 + v0)), (1, .ref (E.2.2.2.1 + v1)), (2, .int v2), (3, .int v3), (4, .int 0)]) dX11_counts_1 (Nat.le_of_ble_eq_true rfl) [1, 2, 3, 4, 0] rfl ?_
  refine w_X11_counts_L3 E hE d hd _ _ _ _ _ _ _ (fun M3 => ?_) _ _ _
  refine zs_iload_n dX11_counts_24 rfl 2 rfl ?_
  refine zs_istore (loc' := [(0, .ref (E.2.2.2.1 + v0)), (1, .ref (E.2.2.2.1 + v1)), (3, .int v3), (4, .int v2)]) dX11_counts_25 (Nat.le_of_ble_eq_true rfl) [1, 2, 4, 0] rfl ?_
  exact w_X11_counts_L27 E hE d hd _ _ _ _ _ _ _ _
theorem dX11_isCrossed_0 : decode cX11_isCrossed 0 = .ok (.aload_n 0, 1) := by decide +kernel
theorem dX11_isCrossed_1 : decode cX11_isCrossed 1 = .ok (.getfield 30, 3) := by decide +kernel
theorem dX11_isCrossed_4 : decode cX11_isCrossed 4 = .ok (.iload_n 2, 1) := by decide +kernel
theorem dX11_isCrossed_5 : decode cX11_isCrossed 5 = .ok (.iaload, 1) := by decide +kernel
theorem dX11_isCrossed_6 : decode cX11_isCrossed 6 = .ok (.aload_n 0, 1) := by decide +kernel
theorem dX11_isCrossed_7 : decode cX11_isCrossed 7 = .ok (.getfield 30, 3) := by decide +kernel
theorem dX11_isCrossed_10 : decode cX11_isCrossed 10 = .ok (.iload_n 1, 1) := by decide +kernel
theorem dX11_isCrossed_11 : decode cX11_isCrossed 11 = .ok (.iaload, 1) := by decide +kernel
theorem dX11_isCrossed_12 : decode cX11_isCrossed 12 = .ok (.if_icmp .le 22, 3) := by decide +kernel
theorem dX11_isCrossed_15 : decode cX11_isCrossed 15 = .ok (.aload_n 0, 1) := by decide +kernel
theorem dX11_isCrossed_16 : decode cX11_isCrossed 16 = .ok (.getfield 30, 3) := by decide +kernel
theorem dX11_isCrossed_19 : decode cX11_isCrossed 19 = .ok (.iload_n 2, 1) := by decide +kernel
theorem dX11_isCrossed_20 : decode cX11_isCrossed 20 = .ok (.iaload, 1) := by decide +kernel
theorem dX11_isCrossed_21 : decode cX11_isCrossed 21 = .ok (.aload_n 0, 1) := by decide +kernel
theorem dX11_isCrossed_22 : decode cX11_isCrossed 22 = .ok (.getfield 33, 3) := by decide +kernel
theorem dX11_isCrossed_25 : decode cX11_isCrossed 25 = .ok (.iload_n 1, 1) := by decide +kernel
theorem dX11_isCrossed_26 : decode cX11_isCrossed 26 = .ok (.iaload, 1) := by decide +kernel
theorem dX11_isCrossed_27 : decode cX11_isCrossed 27 = .ok (.if_icmp .ge 7, 3) := by decide +kernel
theorem dX11_isCrossed_30 : decode cX11_isCrossed 30 = .ok (.iconst 1, 1) := by decide +kernel
theorem dX11_isCrossed_31 : decode cX11_isCrossed 31 = .ok (.goto 4, 3) := by decide +kernel
theorem dX11_isCrossed_34 : decode cX11_isCrossed 34 = .ok (.iconst 0, 1) := by decide +kernel
theorem dX11_isCrossed_35 : decode cX11_isCrossed 35 = .ok (.istore_n 3, 1) := by decide +kernel
theorem dX11_isCrossed_36 : decode cX11_isCrossed 36 = .ok (.aload_n 0, 1) := by decide +kernel
theorem dX11_isCrossed_37 : decode cX11_isCrossed 37 = .ok (.getfield 33, 3) := by decide +kernel
theorem dX11_isCrossed_40 : decode cX11_isCrossed 40 = .ok (.iload_n 2, 1) := by decide +kernel
theorem dX11_isCrossed_41 : decode cX11_isCrossed 41 = .ok (.iaload, 1) := by decide +kernel
theorem dX11_isCrossed_42 : decode cX11_isCrossed 42 = .ok (.aload_n 0, 1) := by decide +kernel
theorem dX11_isCrossed_43 : decode cX11_isCrossed 43 = .ok (.getfield 30, 3) := by decide +kernel
theorem dX11_isCrossed_46 : decode cX11_isCrossed 46 = .ok (.iload_n 1, 1) := by decide +kernel
theorem dX11_isCrossed_47 : decode cX11_isCrossed 47 = .ok (.iaload, 1) := by decide +kernel
theorem dX11_isCrossed_48 : decode cX11_isCrossed 48 = .ok (.if_icmp .le 22, 3) := by decide +kernel
theorem dX11_isCrossed_51 : decode cX11_isCrossed 51 = .ok (.aload_n 0, 1) := by decide +kernel
theorem dX11_isCrossed_52 : decode cX11_isCrossed 52 = .ok (.getfield 33, 3) := by decide +kernel
theorem dX11_isCrossed_55 : decode cX11_isCrossed 55 = .ok (.iload_n 2, 1) := by decide +kernel
theorem dX11_isCrossed_56 : decode cX11_isCrossed 56 = .ok (.iaload, 1) := by decide +kernel
theorem dX11_isCrossed_57 : decode cX11_isCrossed 57 = .ok (.aload_n 0, 1) := by decide +kernel
theorem dX11_isCrossed_58 : decode cX11_isCrossed 58 = .ok (.getfield 33, 3) := by decide +kernel
theorem dX11_isCrossed_61 : decode cX11_isCrossed 61 = .ok (.iload_n 1, 1) := by decide +kernel
theorem dX11_isCrossed_62 : decode cX11_isCrossed 62 = .ok (.iaload, 1) := by decide +kernel
theorem dX11_isCrossed_63 : decode cX11_isCrossed 63 = .ok (.if_icmp .ge 7, 3) := by decide +kernel
theorem dX11_isCrossed_66 : decode cX11_isCrossed 66 = .ok (.iconst 1, 1) := by decide +kernel
theorem dX11_isCrossed_67 : decode cX11_isCrossed 67 = .ok (.goto 4, 3) := by decide +kernel
theorem dX11_isCrossed_70 : decode cX11_isCrossed 70 = .ok (.iconst 0, 1) := by decide +kernel
theorem dX11_isCrossed_71 : decode cX11_isCrossed 71 = .ok (.istore 4, 2) := by decide +kernel
theorem dX11_isCrossed_73 : decode cX11_isCrossed 73 = .ok (.iload_n 3, 1) := by decide +kernel
theorem dX11_isCrossed_74 : decode cX11_isCrossed 74 = .ok (.iload 4, 2) := by decide +kernel
theorem dX11_isCrossed_76 : decode cX11_isCrossed 76 = .ok (.if_icmp .eq 7, 3) := by decide +kernel
theorem dX11_isCrossed_79 : decode cX11_isCrossed 79 = .ok (.iconst 1, 1) := by decide +kernel
theorem dX11_isCrossed_80 : decode cX11_isCrossed 80 = .ok (.goto 4, 3) := by decide +kernel
theorem dX11_isCrossed_83 : decode cX11_isCrossed 83 = .ok (.iconst 0, 1) := by decide +kernel
theorem dX11_isCrossed_84 : decode cX11_isCrossed 84 = .ok (.ireturn, 1) := by decide +kernel
def fp_X11_isCrossed (v0 : Nat) (v1 : Int32) (v2 : Int32) (M : zM) : Option (Int32) :=
  zthis 9 M v0 (
    (zgR 9 M v0 14).bind fun (y1 : Nat) =>
    (zlI 100 M y1 v2).bind fun (y2 : Int32) =>
    (zgR 9 M v0 14).bind fun (y3 : Nat) =>
    (zlI 100 M y3 v1).bind fun (y4 : Int32) =>
    zjn (fun (s5 : Int32) =>
        (zgR 9 M v0 15).bind fun (y6 : Nat) =>
        (zlI 100 M y6 v2).bind fun (y7 : Int32) =>
        (zgR 9 M v0 14).bind fun (y8 : Nat) =>
        (zlI 100 M y8 v1).bind fun (y9 : Int32) =>
        zjn (fun (s10 : Int32) =>
            if s5 = s10 then (
              some 0)
            else (
              some 1))
          (fun j71 =>
            zjn (
                j71 0)
              (fun j70 =>
                if y7 ≤ y9 then (
                  j70)
                else (
                  (zgR 9 M v0 15).bind fun (y11 : Nat) =>
                  (zlI 100 M y11 v2).bind fun (y12 : Int32) =>
                  (zgR 9 M v0 15).bind fun (y13 : Nat) =>
                  (zlI 100 M y13 v1).bind fun (y14 : Int32) =>
                  if y12 ≥ y14 then (
                    j70)
                  else (
                    j71 1)))))
      (fun j35 =>
        zjn (
            j35 0)
          (fun j34 =>
            if y2 ≤ y4 then (
              j34)
            else (
              (zgR 9 M v0 14).bind fun (y15 : Nat) =>
              (zlI 100 M y15 v2).bind fun (y16 : Int32) =>
              (zgR 9 M v0 15).bind fun (y17 : Nat) =>
              (zlI 100 M y17 v1).bind fun (y18 : Int32) =>
              if y16 ≥ y18 then (
                j34)
              else (
                j35 1)))))
set_option maxHeartbeats 4000000 in
set_option maxRecDepth 100000 in
theorem th_X11_isCrossed {v0 : Nat} {v1 : Int32} {v2 : Int32} {M : zM} {x0 : Int32} (h : fp_X11_isCrossed v0 v1 v2 M = some x0) : v0 < zS M ∧ kd v0 = 9 := by
  unfold fp_X11_isCrossed at h
  exact zthis_of h
set_option maxHeartbeats 4000000 in
set_option maxRecDepth 100000 in
theorem ct_X11_isCrossed (E : zEnv) (hE : zEok E) (d : Nat) (hd : 1 ≤ d) (v0 : Nat) (v1 : Int32) (v2 : Int32) (M : zM) (x0 : Int32) (hx : fp_X11_isCrossed v0 v1 v2 M = some x0) : zCt E mu_X11_isCrossed d [.ref (E.2.2.2.1 + v0), .int v1, .int v2] M (some (.int x0), M) := by
  refine zCt_of (μ := mu_X11_isCrossed) (t := fp_X11_isCrossed v0 v1 v2 M) rfl rfl (Nat.le_of_ble_eq_true rfl) hx ?_
  change zSy E mu_X11_isCrossed d M (some (.int x0), M) x0 (fp_X11_isCrossed v0 v1 v2 M) 0 [(0, .ref (E.2.2.2.1 + v0)), (1, .int v1), (2, .int v2)] [] M
  unfold fp_X11_isCrossed
  refine zs_this (fun hth => ?_)
  refine zs_aload_n dX11_isCrossed_0 rfl 0 rfl ?_
  refine zs_getR dX11_isCrossed_1 fl_X11_30 rfl (fun y1 => ?_)
  refine zs_iload_n dX11_isCrossed_4 rfl 2 rfl ?_
  refine zs_ldI dX11_isCrossed_5 (fun y2 => ?_)
  refine zs_aload_n dX11_isCrossed_6 rfl 0 rfl ?_
  refine zs_getR dX11_isCrossed_7 fl_X11_30 rfl (fun y3 => ?_)
  refine zs_iload_n dX11_isCrossed_10 rfl 1 rfl ?_
  refine zs_ldI dX11_isCrossed_11 (fun y4 => ?_)
  refine zs_jn (fun j35 => ∀ (s5 : Int32), zSy E mu_X11_isCrossed d M (some (.int x0), M) x0 (j35 s5) 35 [(0, .ref (E.2.2.2.1 + v0)), (1, .int v1), (2, .int v2)] [.int s5] M) (fun s5 => ?_) (fun j35 hj35 => ?_)
  · refine zs_istore_n (loc' := [(0, .ref (E.2.2.2.1 + v0)), (1, .int v1), (2, .int v2), (3, .int s5)]) dX11_isCrossed_35 rfl (Nat.le_of_ble_eq_true rfl) [1, 2, 3, 0] rfl ?_
    refine zs_aload_n dX11_isCrossed_36 rfl 0 rfl ?_
    refine zs_getR dX11_isCrossed_37 fl_X11_33 rfl (fun y6 => ?_)
    refine zs_iload_n dX11_isCrossed_40 rfl 2 rfl ?_
    refine zs_ldI dX11_isCrossed_41 (fun y7 => ?_)
    refine zs_aload_n dX11_isCrossed_42 rfl 0 rfl ?_
    refine zs_getR dX11_isCrossed_43 fl_X11_30 rfl (fun y8 => ?_)
    refine zs_iload_n dX11_isCrossed_46 rfl 1 rfl ?_
    refine zs_ldI dX11_isCrossed_47 (fun y9 => ?_)
    refine zs_jn (fun j71 => ∀ (s10 : Int32), zSy E mu_X11_isCrossed d M (some (.int x0), M) x0 (j71 s10) 71 [(3, .int s5)] [.int s10] M) (fun s10 => ?_) (fun j71 hj71 => ?_)
    · refine zs_istore (loc' := [(3, .int s5), (4, .int s10)]) dX11_isCrossed_71 (Nat.le_of_ble_eq_true rfl) [1, 0] rfl ?_
      refine zs_iload_n dX11_isCrossed_73 rfl 0 rfl ?_
      refine zs_iload dX11_isCrossed_74 1 rfl ?_
      refine zs_icmp_eq dX11_isCrossed_76 rfl ?_ ?_
      · refine zs_iconst (v := 0) dX11_isCrossed_83 ciconst_0 ?_
        exact zs_iretP dX11_isCrossed_84 rfl
      refine zs_iconst (v := 1) dX11_isCrossed_79 ciconst_1 ?_
      refine zs_goto dX11_isCrossed_80 rfl ?_
      exact zs_iretP dX11_isCrossed_84 rfl
    refine zs_jn (fun j70 => zSy E mu_X11_isCrossed d M (some (.int x0), M) x0 (j70) 70 [(3, .int s5)] [] M) ?_ (fun j70 hj70 => ?_)
    · refine zs_iconst (v := 0) dX11_isCrossed_70 ciconst_0 ?_
      exact hj71 0
    refine zs_icmp_le dX11_isCrossed_48 rfl ?_ ?_
    · refine zs_sub (loc' := [(3, .int s5)]) [3] rfl ?_
      exact hj70
    refine zs_aload_n dX11_isCrossed_51 rfl 0 rfl ?_
    refine zs_getR dX11_isCrossed_52 fl_X11_33 rfl (fun y11 => ?_)
    refine zs_iload_n dX11_isCrossed_55 rfl 2 rfl ?_
    refine zs_ldI dX11_isCrossed_56 (fun y12 => ?_)
    refine zs_aload_n dX11_isCrossed_57 rfl 0 rfl ?_
    refine zs_getR dX11_isCrossed_58 fl_X11_33 rfl (fun y13 => ?_)
    refine zs_iload_n dX11_isCrossed_61 rfl 1 rfl ?_
    refine zs_ldI dX11_isCrossed_62 (fun y14 => ?_)
    refine zs_icmp_ge dX11_isCrossed_63 rfl ?_ ?_
    · refine zs_sub (loc' := [(3, .int s5)]) [3] rfl ?_
      exact hj70
    refine zs_iconst (v := 1) dX11_isCrossed_66 ciconst_1 ?_
    refine zs_goto dX11_isCrossed_67 rfl ?_
    refine zs_sub (loc' := [(3, .int s5)]) [3] rfl ?_
    exact hj71 1
  refine zs_jn (fun j34 => zSy E mu_X11_isCrossed d M (some (.int x0), M) x0 (j34) 34 [(0, .ref (E.2.2.2.1 + v0)), (1, .int v1), (2, .int v2)] [] M) ?_ (fun j34 hj34 => ?_)
  · refine zs_iconst (v := 0) dX11_isCrossed_34 ciconst_0 ?_
    exact hj35 0
  refine zs_icmp_le dX11_isCrossed_12 rfl ?_ ?_
  · exact hj34
  refine zs_aload_n dX11_isCrossed_15 rfl 0 rfl ?_
  refine zs_getR dX11_isCrossed_16 fl_X11_30 rfl (fun y15 => ?_)
  refine zs_iload_n dX11_isCrossed_19 rfl 2 rfl ?_
  refine zs_ldI dX11_isCrossed_20 (fun y16 => ?_)
  refine zs_aload_n dX11_isCrossed_21 rfl 0 rfl ?_
  refine zs_getR dX11_isCrossed_22 fl_X11_33 rfl (fun y17 => ?_)
  refine zs_iload_n dX11_isCrossed_25 rfl 1 rfl ?_
  refine zs_ldI dX11_isCrossed_26 (fun y18 => ?_)
  refine zs_icmp_ge dX11_isCrossed_27 rfl ?_ ?_
  · exact hj34
  refine zs_iconst (v := 1) dX11_isCrossed_30 ciconst_1 ?_
  refine zs_goto dX11_isCrossed_31 rfl ?_
  exact hj35 1
theorem dX11_aCross_0 : decode cX11_aCross 0 = .ok (.aload_n 0, 1) := by decide +kernel
theorem dX11_aCross_1 : decode cX11_aCross 1 = .ok (.getfield 153, 3) := by decide +kernel
theorem dX11_aCross_4 : decode cX11_aCross 4 = .ok (.iconst 2, 1) := by decide +kernel
theorem dX11_aCross_5 : decode cX11_aCross 5 = .ok (.if_icmp .eq 9, 3) := by decide +kernel
theorem dX11_aCross_8 : decode cX11_aCross 8 = .ok (.aload_n 0, 1) := by decide +kernel
theorem dX11_aCross_9 : decode cX11_aCross 9 = .ok (.iconst 2, 1) := by decide +kernel
theorem dX11_aCross_10 : decode cX11_aCross 10 = .ok (.invokevirtual 177, 3) := by decide +kernel
theorem dX11_aCross_13 : decode cX11_aCross 13 = .ok (.ireturn, 1) := by decide +kernel
theorem dX11_aCross_14 : decode cX11_aCross 14 = .ok (.aload_n 0, 1) := by decide +kernel
theorem dX11_aCross_15 : decode cX11_aCross 15 = .ok (.aload_n 0, 1) := by decide +kernel
theorem dX11_aCross_16 : decode cX11_aCross 16 = .ok (.getfield 17, 3) := by decide +kernel
theorem dX11_aCross_19 : decode cX11_aCross 19 = .ok (.aload_n 0, 1) := by decide +kernel
theorem dX11_aCross_20 : decode cX11_aCross 20 = .ok (.getfield 150, 3) := by decide +kernel
theorem dX11_aCross_23 : decode cX11_aCross 23 = .ok (.aload_n 0, 1) := by decide +kernel
theorem dX11_aCross_24 : decode cX11_aCross 24 = .ok (.getfield 144, 3) := by decide +kernel
theorem dX11_aCross_27 : decode cX11_aCross 27 = .ok (.invokevirtual 199, 3) := by decide +kernel
theorem dX11_aCross_30 : decode cX11_aCross 30 = .ok (.iconst 0, 1) := by decide +kernel
theorem dX11_aCross_31 : decode cX11_aCross 31 = .ok (.istore_n 1, 1) := by decide +kernel
theorem dX11_aCross_32 : decode cX11_aCross 32 = .ok (.aload_n 0, 1) := by decide +kernel
theorem dX11_aCross_33 : decode cX11_aCross 33 = .ok (.getfield 144, 3) := by decide +kernel
theorem dX11_aCross_36 : decode cX11_aCross 36 = .ok (.aload_n 0, 1) := by decide +kernel
theorem dX11_aCross_37 : decode cX11_aCross 37 = .ok (.getfield 150, 3) := by decide +kernel
theorem dX11_aCross_40 : decode cX11_aCross 40 = .ok (.isub, 1) := by decide +kernel
theorem dX11_aCross_41 : decode cX11_aCross 41 = .ok (.bipush 14, 2) := by decide +kernel
theorem dX11_aCross_43 : decode cX11_aCross 43 = .ok (.if_icmp .gt 7, 3) := by decide +kernel
theorem dX11_aCross_46 : decode cX11_aCross 46 = .ok (.iconst 1, 1) := by decide +kernel
theorem dX11_aCross_47 : decode cX11_aCross 47 = .ok (.goto 4, 3) := by decide +kernel
theorem dX11_aCross_50 : decode cX11_aCross 50 = .ok (.iconst 0, 1) := by decide +kernel
theorem dX11_aCross_51 : decode cX11_aCross 51 = .ok (.istore_n 2, 1) := by decide +kernel
theorem dX11_aCross_52 : decode cX11_aCross 52 = .ok (.iconst 0, 1) := by decide +kernel
theorem dX11_aCross_53 : decode cX11_aCross 53 = .ok (.istore_n 3, 1) := by decide +kernel
theorem dX11_aCross_54 : decode cX11_aCross 54 = .ok (.iload_n 3, 1) := by decide +kernel
theorem dX11_aCross_55 : decode cX11_aCross 55 = .ok (.bipush 26, 2) := by decide +kernel
theorem dX11_aCross_57 : decode cX11_aCross 57 = .ok (.if_icmp .ge 26, 3) := by decide +kernel
theorem dX11_aCross_60 : decode cX11_aCross 60 = .ok (.iload_n 1, 1) := by decide +kernel
theorem dX11_aCross_61 : decode cX11_aCross 61 = .ok (.aload_n 0, 1) := by decide +kernel
theorem dX11_aCross_62 : decode cX11_aCross 62 = .ok (.getfield 27, 3) := by decide +kernel
theorem dX11_aCross_65 : decode cX11_aCross 65 = .ok (.iload_n 3, 1) := by decide +kernel
theorem dX11_aCross_66 : decode cX11_aCross 66 = .ok (.iaload, 1) := by decide +kernel
theorem dX11_aCross_67 : decode cX11_aCross 67 = .ok (.ifCond .le 7, 3) := by decide +kernel
theorem dX11_aCross_70 : decode cX11_aCross 70 = .ok (.iconst 1, 1) := by decide +kernel
theorem dX11_aCross_71 : decode cX11_aCross 71 = .ok (.goto 4, 3) := by decide +kernel
theorem dX11_aCross_74 : decode cX11_aCross 74 = .ok (.iconst 0, 1) := by decide +kernel
theorem dX11_aCross_75 : decode cX11_aCross 75 = .ok (.iadd, 1) := by decide +kernel
theorem dX11_aCross_76 : decode cX11_aCross 76 = .ok (.istore_n 1, 1) := by decide +kernel
theorem dX11_aCross_77 : decode cX11_aCross 77 = .ok (.iinc 3 1, 3) := by decide +kernel
theorem dX11_aCross_80 : decode cX11_aCross 80 = .ok (.goto (-26), 3) := by decide +kernel
theorem dX11_aCross_83 : decode cX11_aCross 83 = .ok (.iconst 0, 1) := by decide +kernel
theorem dX11_aCross_84 : decode cX11_aCross 84 = .ok (.istore_n 3, 1) := by decide +kernel
theorem dX11_aCross_85 : decode cX11_aCross 85 = .ok (.iload_n 3, 1) := by decide +kernel
theorem dX11_aCross_86 : decode cX11_aCross 86 = .ok (.bipush 26, 2) := by decide +kernel
theorem dX11_aCross_88 : decode cX11_aCross 88 = .ok (.if_icmp .ge 38, 3) := by decide +kernel
theorem dX11_aCross_91 : decode cX11_aCross 91 = .ok (.iload_n 2, 1) := by decide +kernel
theorem dX11_aCross_92 : decode cX11_aCross 92 = .ok (.ifCond .eq 26, 3) := by decide +kernel
theorem dX11_aCross_95 : decode cX11_aCross 95 = .ok (.aload_n 0, 1) := by decide +kernel
theorem dX11_aCross_96 : decode cX11_aCross 96 = .ok (.getfield 27, 3) := by decide +kernel
theorem dX11_aCross_99 : decode cX11_aCross 99 = .ok (.iload_n 3, 1) := by decide +kernel
theorem dX11_aCross_100 : decode cX11_aCross 100 = .ok (.iaload, 1) := by decide +kernel
theorem dX11_aCross_101 : decode cX11_aCross 101 = .ok (.iload_n 3, 1) := by decide +kernel
theorem dX11_aCross_102 : decode cX11_aCross 102 = .ok (.iload_n 1, 1) := by decide +kernel
theorem dX11_aCross_103 : decode cX11_aCross 103 = .ok (.if_icmp .ge 7, 3) := by decide +kernel
theorem dX11_aCross_106 : decode cX11_aCross 106 = .ok (.iconst 2, 1) := by decide +kernel
theorem dX11_aCross_107 : decode cX11_aCross 107 = .ok (.goto 4, 3) := by decide +kernel
theorem dX11_aCross_110 : decode cX11_aCross 110 = .ok (.iconst 0, 1) := by decide +kernel
theorem dX11_aCross_111 : decode cX11_aCross 111 = .ok (.if_icmp .ne 7, 3) := by decide +kernel
theorem dX11_aCross_114 : decode cX11_aCross 114 = .ok (.iconst 1, 1) := by decide +kernel
theorem dX11_aCross_115 : decode cX11_aCross 115 = .ok (.goto 4, 3) := by decide +kernel
theorem dX11_aCross_118 : decode cX11_aCross 118 = .ok (.iconst 0, 1) := by decide +kernel
theorem dX11_aCross_119 : decode cX11_aCross 119 = .ok (.istore_n 2, 1) := by decide +kernel
theorem dX11_aCross_120 : decode cX11_aCross 120 = .ok (.iinc 3 1, 3) := by decide +kernel
theorem dX11_aCross_123 : decode cX11_aCross 123 = .ok (.goto (-38), 3) := by decide +kernel
theorem dX11_aCross_126 : decode cX11_aCross 126 = .ok (.aload_n 0, 1) := by decide +kernel
theorem dX11_aCross_127 : decode cX11_aCross 127 = .ok (.getfield 101, 3) := by decide +kernel
theorem dX11_aCross_130 : decode cX11_aCross 130 = .ok (.iload_n 1, 1) := by decide +kernel
theorem dX11_aCross_131 : decode cX11_aCross 131 = .ok (.iadd, 1) := by decide +kernel
theorem dX11_aCross_132 : decode cX11_aCross 132 = .ok (.bipush 7, 2) := by decide +kernel
theorem dX11_aCross_134 : decode cX11_aCross 134 = .ok (.if_icmp .le 10, 3) := by decide +kernel
theorem dX11_aCross_137 : decode cX11_aCross 137 = .ok (.aload_n 0, 1) := by decide +kernel
theorem dX11_aCross_138 : decode cX11_aCross 138 = .ok (.bipush 6, 2) := by decide +kernel
theorem dX11_aCross_140 : decode cX11_aCross 140 = .ok (.invokevirtual 177, 3) := by decide +kernel
theorem dX11_aCross_143 : decode cX11_aCross 143 = .ok (.ireturn, 1) := by decide +kernel
theorem dX11_aCross_144 : decode cX11_aCross 144 = .ok (.iload_n 2, 1) := by decide +kernel
theorem dX11_aCross_145 : decode cX11_aCross 145 = .ok (.ifCond .ne 10, 3) := by decide +kernel
theorem dX11_aCross_148 : decode cX11_aCross 148 = .ok (.aload_n 0, 1) := by decide +kernel
theorem dX11_aCross_149 : decode cX11_aCross 149 = .ok (.bipush 7, 2) := by decide +kernel
theorem dX11_aCross_151 : decode cX11_aCross 151 = .ok (.invokevirtual 177, 3) := by decide +kernel
theorem dX11_aCross_154 : decode cX11_aCross 154 = .ok (.ireturn, 1) := by decide +kernel
theorem dX11_aCross_155 : decode cX11_aCross 155 = .ok (.aload_n 0, 1) := by decide +kernel
theorem dX11_aCross_156 : decode cX11_aCross 156 = .ok (.getfield 101, 3) := by decide +kernel
theorem dX11_aCross_159 : decode cX11_aCross 159 = .ok (.istore_n 3, 1) := by decide +kernel
theorem dX11_aCross_160 : decode cX11_aCross 160 = .ok (.iconst 0, 1) := by decide +kernel
theorem dX11_aCross_161 : decode cX11_aCross 161 = .ok (.istore 4, 2) := by decide +kernel
theorem dX11_aCross_163 : decode cX11_aCross 163 = .ok (.iload 4, 2) := by decide +kernel
theorem dX11_aCross_165 : decode cX11_aCross 165 = .ok (.iload_n 1, 1) := by decide +kernel
theorem dX11_aCross_166 : decode cX11_aCross 166 = .ok (.if_icmp .ge 53, 3) := by decide +kernel
theorem dX11_aCross_169 : decode cX11_aCross 169 = .ok (.aload_n 0, 1) := by decide +kernel
theorem dX11_aCross_170 : decode cX11_aCross 170 = .ok (.iconst 0, 1) := by decide +kernel
theorem dX11_aCross_171 : decode cX11_aCross 171 = .ok (.invokevirtual 186, 3) := by decide +kernel
theorem dX11_aCross_174 : decode cX11_aCross 174 = .ok (.iconst 0, 1) := by decide +kernel
theorem dX11_aCross_175 : decode cX11_aCross 175 = .ok (.istore 5, 2) := by decide +kernel
theorem dX11_aCross_177 : decode cX11_aCross 177 = .ok (.iload 5, 2) := by decide +kernel
theorem dX11_aCross_179 : decode cX11_aCross 179 = .ok (.iload 4, 2) := by decide +kernel
theorem dX11_aCross_181 : decode cX11_aCross 181 = .ok (.if_icmp .ge 32, 3) := by decide +kernel
theorem dX11_aCross_184 : decode cX11_aCross 184 = .ok (.aload_n 0, 1) := by decide +kernel
theorem dX11_aCross_185 : decode cX11_aCross 185 = .ok (.iload 4, 2) := by decide +kernel
theorem dX11_aCross_187 : decode cX11_aCross 187 = .ok (.iload 5, 2) := by decide +kernel
theorem dX11_aCross_189 : decode cX11_aCross 189 = .ok (.invokevirtual 203, 3) := by decide +kernel
theorem dX11_aCross_192 : decode cX11_aCross 192 = .ok (.ifCond .eq 15, 3) := by decide +kernel
theorem dX11_aCross_195 : decode cX11_aCross 195 = .ok (.aload_n 0, 1) := by decide +kernel
theorem dX11_aCross_196 : decode cX11_aCross 196 = .ok (.iload_n 3, 1) := by decide +kernel
theorem dX11_aCross_197 : decode cX11_aCross 197 = .ok (.iload 4, 2) := by decide +kernel
theorem dX11_aCross_199 : decode cX11_aCross 199 = .ok (.iadd, 1) := by decide +kernel
theorem dX11_aCross_200 : decode cX11_aCross 200 = .ok (.iload_n 3, 1) := by decide +kernel
theorem dX11_aCross_201 : decode cX11_aCross 201 = .ok (.iload 5, 2) := by decide +kernel
theorem dX11_aCross_203 : decode cX11_aCross 203 = .ok (.iadd, 1) := by decide +kernel
theorem dX11_aCross_204 : decode cX11_aCross 204 = .ok (.invokevirtual 108, 3) := by decide +kernel
theorem dX11_aCross_207 : decode cX11_aCross 207 = .ok (.iinc 5 1, 3) := by decide +kernel
theorem dX11_aCross_210 : decode cX11_aCross 210 = .ok (.goto (-33), 3) := by decide +kernel
theorem dX11_aCross_213 : decode cX11_aCross 213 = .ok (.iinc 4 1, 3) := by decide +kernel
theorem dX11_aCross_216 : decode cX11_aCross 216 = .ok (.goto (-53), 3) := by decide +kernel
theorem dX11_aCross_219 : decode cX11_aCross 219 = .ok (.aload_n 0, 1) := by decide +kernel
theorem dX11_aCross_220 : decode cX11_aCross 220 = .ok (.invokevirtual 180, 3) := by decide +kernel
theorem dX11_aCross_223 : decode cX11_aCross 223 = .ok (.iconst 1, 1) := by decide +kernel
theorem dX11_aCross_224 : decode cX11_aCross 224 = .ok (.ireturn, 1) := by decide +kernel
def fp_X11_aCross_L54 (k83 : Int32 → Option (Int32 × zM)) (v0 : Nat) (v2 : Int32) (M : zM) : Nat → Int32 → Int32 → Option (Int32 × zM)
  | 0, _, _ => none
  | n + 1, v1, v3 =>
    if v3 ≥ 26 then (
      k83 v1)
    else (
      (zgR 9 M v0 13).bind fun (y9 : Nat) =>
      (zlI 100 M y9 v3).bind fun (y10 : Int32) =>
      zjn (fun (s11 : Int32) (s12 : Int32) =>
          lett ((s12 + s11)) fun (v1_13 : Int32) =>
          fp_X11_aCross_L54 k83 v0 v2 M n v1_13 (v3 + 1))
        (fun j75 =>
          if y10 ≤ 0 then (
            j75 0 v1)
          else (
            j75 1 v1)))
def fp_X11_aCross_L85 (k126 : Int32 → Option (Int32 × zM)) (v0 : Nat) (v1 : Int32) (M : zM) : Nat → Int32 → Int32 → Option (Int32 × zM)
  | 0, _, _ => none
  | n + 1, v2, v3 =>
    if v3 ≥ 26 then (
      k126 v2)
    else (
      zjn (fun (s15 : Int32) =>
          fp_X11_aCross_L85 k126 v0 v1 M n s15 (v3 + 1))
        (fun j119 =>
          zjn (
              j119 0)
            (fun j118 =>
              if v2 = 0 then (
                j118)
              else (
                (zgR 9 M v0 13).bind fun (y16 : Nat) =>
                (zlI 100 M y16 v3).bind fun (y17 : Int32) =>
                zjn (fun (s18 : Int32) (s19 : Int32) =>
                    if s19 ≠ s18 then (
                      j118)
                    else (
                      j119 1))
                  (fun j111 =>
                    if v3 ≥ v1 then (
                      j111 0 y17)
                    else (
                      j111 2 y17))))))
def fp_X11_aCross_L177 (k213 : zM → Option (Int32 × zM)) (v0 : Nat) (v1 : Int32) (v3 : Int32) (v4 : Int32) : Nat → Int32 → zM → Option (Int32 × zM)
  | 0, _, _ => none
  | n + 1, v5, M =>
    if v5 ≥ v4 then (
      k213 M)
    else (
      (fp_X11_isCrossed v0 v4 v5 M).bind fun (y25 : Int32) =>
      zjn (fun (M26 : zM) =>
          fp_X11_aCross_L177 k213 v0 v1 v3 v4 n (v5 + 1) M26)
        (fun j207 =>
          if y25 = 0 then (
            j207 M)
          else (
            (fp_X11_flips v0 (v3 + v4) (v3 + v5) M).bind fun (M27 : zM) =>
            j207 M27)))
def fp_X11_aCross_L163 (v0 : Nat) (v1 : Int32) (v3 : Int32) : Nat → Int32 → zM → Option (Int32 × zM)
  | 0, _, _ => none
  | n + 1, v4, M =>
    if v4 ≥ v1 then (
      (fp_X11_ahead v0 M).bind fun (M23 : zM) =>
      some (1, M23))
    else (
      (fp_X11_comes v0 0 M).bind fun (M24 : zM) =>
      fp_X11_aCross_L177
        (fun M28 =>
          fp_X11_aCross_L163 v0 v1 v3 n (v4 + 1) M28) v0 v1 v3 v4 FU 0 M24)
def fp_X11_aCross (v0 : Nat) (M : zM) : Option (Int32 × zM) :=
  zthis 9 M v0 (
    (zgI 9 M v0 7).bind fun (y1 : Int32) =>
    if y1 = 2 then (
      (zgR 9 M v0 4).bind fun (y2 : Nat) =>
      (zgI 9 M v0 8).bind fun (y3 : Int32) =>
      (zgI 9 M v0 9).bind fun (y4 : Int32) =>
      (fp_X11_counts v0 y2 y3 y4 M).bind fun (M5 : zM) =>
      (zgI 9 M5 v0 9).bind fun (y6 : Int32) =>
      (zgI 9 M5 v0 8).bind fun (y7 : Int32) =>
      zjn (fun (s8 : Int32) =>
          fp_X11_aCross_L54
            (fun v1_14 =>
              fp_X11_aCross_L85
                (fun v2_20 =>
                  (zgI 9 M5 v0 0).bind fun (y21 : Int32) =>
                  if (y21 + v1_14) ≤ 7 then (
                    if v2_20 ≠ 0 then (
                      (zgI 9 M5 v0 0).bind fun (y22 : Int32) =>
                      fp_X11_aCross_L163 v0 v1_14 y22 FU 0 M5)
                    else (
                      (fp_X11_fails v0 7 M5).bind fun p31 => zpp p31 fun (y29 : Int32) (M30 : zM) =>
                      (zb y29).bind fun (r : Int32) => some (r, M30)))
                  else (
                    (fp_X11_fails v0 6 M5).bind fun p34 => zpp p34 fun (y32 : Int32) (M33 : zM) =>
                    (zb y32).bind fun (r : Int32) => some (r, M33))) v0 v1_14 M5 FU s8 0) v0 s8 M5 FU 0 0)
        (fun j51 =>
          if (y6 - y7) > 14 then (
            j51 0)
          else (
            j51 1)))
    else (
      (fp_X11_fails v0 2 M).bind fun p37 => zpp p37 fun (y35 : Int32) (M36 : zM) =>
      (zb y35).bind fun (r : Int32) => some (r, M36)))
set_option maxHeartbeats 4000000 in
set_option maxRecDepth 100000 in
theorem th_X11_aCross {v0 : Nat} {M : zM} {x0 : Int32 × zM} (h : fp_X11_aCross v0 M = some x0) : v0 < zS M ∧ kd v0 = 9 := by
  unfold fp_X11_aCross at h
  exact zthis_of h
set_option maxHeartbeats 4000000 in
set_option maxRecDepth 100000 in
theorem w_X11_aCross_L54 (E : zEnv) (hE : zEok E) (d : Nat) (hd : 3 ≤ d) (M0 : zM) (x0 : Int32 × zM) (v0 : Nat) (v2 : Int32) (M : zM) (k83 : Int32 → Option (Int32 × zM)) (hk83 : ∀ (v1 : Int32), zSy E mu_X11_aCross d M0 (some (.int x0.1), x0.2) x0 (k83 v1) 83 [(0, .ref (E.2.2.2.1 + v0)), (1, .int v1), (2, .int v2)] [] M) : ∀ (n : Nat) (v1 : Int32) (v3 : Int32), zSy E mu_X11_aCross d M0 (some (.int x0.1), x0.2) x0 (fp_X11_aCross_L54 k83 v0 v2 M n v1 v3) 54 [(0, .ref (E.2.2.2.1 + v0)), (1, .int v1), (2, .int v2), (3, .int v3)] [] M := by
  intro n
  induction n with
  | zero =>
    intro v1 v3
    rw [fp_X11_aCross_L54]
    exact zs_none
  | succ n ih =>
    intro v1 v3
    rw [fp_X11_aCross_L54]
    refine zs_iload_n dX11_aCross_54 rfl 3 rfl ?_
    refine zs_bipush (v := 26) dX11_aCross_55 cbipush_26 ?_
    refine zs_icmp_ge dX11_aCross_57 rfl ?_ ?_
    · refine zs_sub (loc' := [(0, .ref (E.2.2.2.1 + v0)), (1, .int v1), (2, .int v2)]) [0, 1, 2] rfl ?_
      exact hk83 v1
    refine zs_iload_n dX11_aCross_60 rfl 1 rfl ?_
    refine zs_aload_n dX11_aCross_61 rfl 0 rfl ?_
    refine zs_getR dX11_aCross_62 fl_X11_27 rfl (fun y9 => ?_)
    refine zs_iload_n dX11_aCross_65 rfl 3 rfl ?_
    refine zs_ldI dX11_aCross_66 (fun y10 => ?_)
    refine zs_jn (fun j75 => ∀ (s11 : Int32) (s12 : Int32), zSy E mu_X11_aCross d M0 (some (.int x0.1), x0.2) x0 (j75 s11 s12) 75 [(0, .ref (E.2.2.2.1 + v0)), (2, .int v2), (3, .int v3)] [.int s11, .int s12] M) (fun s11 s12 => ?_) (fun j75 hj75 => ?_)
    · refine zs_iadd dX11_aCross_75 ?_
      refine zs_istore_nL (loc' := fun v1_13 => [(0, .ref (E.2.2.2.1 + v0)), (1, .int v1_13), (2, .int v2), (3, .int v3)]) dX11_aCross_76 rfl (Nat.le_of_ble_eq_true rfl) [1, 0, 2, 3] (fun _ => rfl) (fun v1_13 => ?_)
      refine zs_iinc (v := (v3 + 1)) (loc' := [(0, .ref (E.2.2.2.1 + v0)), (1, .int v1_13), (2, .int v2), (3, .int (v3 + 1))]) dX11_aCross_77 3 rfl (by rfl) (Nat.le_of_ble_eq_true rfl) [1, 2, 3, 0] rfl ?_
      refine zs_goto dX11_aCross_80 rfl ?_
      exact ih v1_13 (v3 + 1)
    refine zs_if_le dX11_aCross_67 rfl ?_ ?_
    · refine zs_iconst (v := 0) dX11_aCross_74 ciconst_0 ?_
      refine zs_sub (loc' := [(0, .ref (E.2.2.2.1 + v0)), (2, .int v2), (3, .int v3)]) [0, 2, 3] rfl ?_
      exact hj75 0 v1
    refine zs_iconst (v := 1) dX11_aCross_70 ciconst_1 ?_
    refine zs_goto dX11_aCross_71 rfl ?_
    refine zs_sub (loc' := [(0, .ref (E.2.2.2.1 + v0)), (2, .int v2), (3, .int v3)]) [0, 2, 3] rfl ?_
    exact hj75 1 v1
set_option maxHeartbeats 4000000 in
set_option maxRecDepth 100000 in
theorem w_X11_aCross_L85 (E : zEnv) (hE : zEok E) (d : Nat) (hd : 3 ≤ d) (M0 : zM) (x0 : Int32 × zM) (v0 : Nat) (v1 : Int32) (M : zM) (k126 : Int32 → Option (Int32 × zM)) (hk126 : ∀ (v2 : Int32), zSy E mu_X11_aCross d M0 (some (.int x0.1), x0.2) x0 (k126 v2) 126 [(0, .ref (E.2.2.2.1 + v0)), (1, .int v1), (2, .int v2)] [] M) : ∀ (n : Nat) (v2 : Int32) (v3 : Int32), zSy E mu_X11_aCross d M0 (some (.int x0.1), x0.2) x0 (fp_X11_aCross_L85 k126 v0 v1 M n v2 v3) 85 [(0, .ref (E.2.2.2.1 + v0)), (1, .int v1), (2, .int v2), (3, .int v3)] [] M := by
  intro n
  induction n with
  | zero =>
    intro v2 v3
    rw [fp_X11_aCross_L85]
    exact zs_none
  | succ n ih =>
    intro v2 v3
    rw [fp_X11_aCross_L85]
    refine zs_iload_n dX11_aCross_85 rfl 3 rfl ?_
    refine zs_bipush (v := 26) dX11_aCross_86 cbipush_26 ?_
    refine zs_icmp_ge dX11_aCross_88 rfl ?_ ?_
    · refine zs_sub (loc' := [(0, .ref (E.2.2.2.1 + v0)), (1, .int v1), (2, .int v2)]) [0, 1, 2] rfl ?_
      exact hk126 v2
    refine zs_iload_n dX11_aCross_91 rfl 2 rfl ?_
    refine zs_jn (fun j119 => ∀ (s15 : Int32), zSy E mu_X11_aCross d M0 (some (.int x0.1), x0.2) x0 (j119 s15) 119 [(0, .ref (E.2.2.2.1 + v0)), (1, .int v1), (3, .int v3)] [.int s15] M) (fun s15 => ?_) (fun j119 hj119 => ?_)
    · refine zs_istore_n (loc' := [(0, .ref (E.2.2.2.1 + v0)), (1, .int v1), (2, .int s15), (3, .int v3)]) dX11_aCross_119 rfl (Nat.le_of_ble_eq_true rfl) [1, 2, 0, 3] rfl ?_
      refine zs_iinc (v := (v3 + 1)) (loc' := [(0, .ref (E.2.2.2.1 + v0)), (1, .int v1), (2, .int s15), (3, .int (v3 + 1))]) dX11_aCross_120 3 rfl (by rfl) (Nat.le_of_ble_eq_true rfl) [1, 2, 3, 0] rfl ?_
      refine zs_goto dX11_aCross_123 rfl ?_
      exact ih s15 (v3 + 1)
    refine zs_jn (fun j118 => zSy E mu_X11_aCross d M0 (some (.int x0.1), x0.2) x0 (j118) 118 [(0, .ref (E.2.2.2.1 + v0)), (1, .int v1), (3, .int v3)] [] M) ?_ (fun j118 hj118 => ?_)
    · refine zs_iconst (v := 0) dX11_aCross_118 ciconst_0 ?_
      exact hj119 0
    refine zs_if_eq dX11_aCross_92 rfl ?_ ?_
    · refine zs_sub (loc' := [(0, .ref (E.2.2.2.1 + v0)), (1, .int v1), (3, .int v3)]) [0, 1, 3] rfl ?_
      exact hj118
    refine zs_aload_n dX11_aCross_95 rfl 0 rfl ?_
    refine zs_getR dX11_aCross_96 fl_X11_27 rfl (fun y16 => ?_)
    refine zs_iload_n dX11_aCross_99 rfl 3 rfl ?_
    refine zs_ldI dX11_aCross_100 (fun y17 => ?_)
    refine zs_iload_n dX11_aCross_101 rfl 3 rfl ?_
    refine zs_iload_n dX11_aCross_102 rfl 1 rfl ?_
    refine zs_jn (fun j111 => ∀ (s18 : Int32) (s19 : Int32), zSy E mu_X11_aCross d M0 (some (.int x0.1), x0.2) x0 (j111 s18 s19) 111 [(0, .ref (E.2.2.2.1 + v0)), (1, .int v1), (3, .int v3)] [.int s18, .int s19] M) (fun s18 s19 => ?_) (fun j111 hj111 => ?_)
    · refine zs_icmp_ne dX11_aCross_111 rfl ?_ ?_
      · exact hj118
      refine zs_iconst (v := 1) dX11_aCross_114 ciconst_1 ?_
      refine zs_goto dX11_aCross_115 rfl ?_
      exact hj119 1
    refine zs_icmp_ge dX11_aCross_103 rfl ?_ ?_
    · refine zs_iconst (v := 0) dX11_aCross_110 ciconst_0 ?_
      refine zs_sub (loc' := [(0, .ref (E.2.2.2.1 + v0)), (1, .int v1), (3, .int v3)]) [0, 1, 3] rfl ?_
      exact hj111 0 y17
    refine zs_iconst (v := 2) dX11_aCross_106 ciconst_2 ?_
    refine zs_goto dX11_aCross_107 rfl ?_
    refine zs_sub (loc' := [(0, .ref (E.2.2.2.1 + v0)), (1, .int v1), (3, .int v3)]) [0, 1, 3] rfl ?_
    exact hj111 2 y17
set_option maxHeartbeats 4000000 in
set_option maxRecDepth 100000 in
theorem w_X11_aCross_L177 (E : zEnv) (hE : zEok E) (d : Nat) (hd : 3 ≤ d) (M0 : zM) (x0 : Int32 × zM) (v0 : Nat) (v1 : Int32) (v3 : Int32) (v4 : Int32) (k213 : zM → Option (Int32 × zM)) (hk213 : ∀ (M : zM), zSy E mu_X11_aCross d M0 (some (.int x0.1), x0.2) x0 (k213 M) 213 [(0, .ref (E.2.2.2.1 + v0)), (1, .int v1), (3, .int v3), (4, .int v4)] [] M) : ∀ (n : Nat) (v5 : Int32) (M : zM), zSy E mu_X11_aCross d M0 (some (.int x0.1), x0.2) x0 (fp_X11_aCross_L177 k213 v0 v1 v3 v4 n v5 M) 177 [(0, .ref (E.2.2.2.1 + v0)), (1, .int v1), (3, .int v3), (4, .int v4), (5, .int v5)] [] M := by
  intro n
  induction n with
  | zero =>
    intro v5 M
    rw [fp_X11_aCross_L177]
    exact zs_none
  | succ n ih =>
    intro v5 M
    rw [fp_X11_aCross_L177]
    refine zs_iload dX11_aCross_177 4 rfl ?_
    refine zs_iload dX11_aCross_179 3 rfl ?_
    refine zs_icmp_ge dX11_aCross_181 rfl ?_ ?_
    · refine zs_sub (loc' := [(0, .ref (E.2.2.2.1 + v0)), (1, .int v1), (3, .int v3), (4, .int v4)]) [0, 1, 2, 3] rfl ?_
      exact hk213 M
    refine zs_aload_n dX11_aCross_184 rfl 0 rfl ?_
    refine zs_iload dX11_aCross_185 3 rfl ?_
    refine zs_iload dX11_aCross_187 4 rfl ?_
    refine zs_invVPI (rest := []) [.int v4, .int v5] dX11_aCross_189 lk_X11_203 rfl (fun _ h => th_X11_isCrossed h) (zd1 rfl hd) rfl (Nat.le_of_ble_eq_true rfl) (ct_X11_isCrossed E hE _ (zdl rfl hd) _ _ _ _) (fun y25 => ?_)
    refine zs_jn (fun j207 => ∀ (M26 : zM), zSy E mu_X11_aCross d M0 (some (.int x0.1), x0.2) x0 (j207 M26) 207 [(0, .ref (E.2.2.2.1 + v0)), (1, .int v1), (3, .int v3), (4, .int v4), (5, .int v5)] [] M26) (fun M26 => ?_) (fun j207 hj207 => ?_)
    · refine zs_iinc (v := (v5 + 1)) (loc' := [(0, .ref (E.2.2.2.1 + v0)), (1, .int v1), (3, .int v3), (4, .int v4), (5, .int (v5 + 1))]) dX11_aCross_207 4 rfl (by rfl) (Nat.le_of_ble_eq_true rfl) [1, 2, 3, 4, 0] rfl ?_
      refine zs_goto dX11_aCross_210 rfl ?_
      exact ih (v5 + 1) M26
    refine zs_if_eq dX11_aCross_192 rfl ?_ ?_
    · exact hj207 M
    refine zs_aload_n dX11_aCross_195 rfl 0 rfl ?_
    refine zs_iload_n dX11_aCross_196 rfl 2 rfl ?_
    refine zs_iload dX11_aCross_197 3 rfl ?_
    refine zs_iadd dX11_aCross_199 ?_
    refine zs_iload_n dX11_aCross_200 rfl 2 rfl ?_
    refine zs_iload dX11_aCross_201 4 rfl ?_
    refine zs_iadd dX11_aCross_203 ?_
    refine zs_invVWV (rest := []) [.int (v3 + v4), .int (v3 + v5)] dX11_aCross_204 lk_X11_108 rfl (fun _ h => th_X11_flips h) (zd1 rfl hd) rfl (Nat.le_of_ble_eq_true rfl) (ct_X11_flips E hE _ (zdl rfl hd) _ _ _ _) (fun M27 => ?_)
    exact hj207 M27
set_option maxHeartbeats 4000000 in
set_option maxRecDepth 100000 in
theorem w_X11_aCross_L163 (E : zEnv) (hE : zEok E) (d : Nat) (hd : 3 ≤ d) (M0 : zM) (x0 : Int32 × zM) (v0 : Nat) (v1 : Int32) (v3 : Int32)  : ∀ (n : Nat) (v4 : Int32) (M : zM), zSy E mu_X11_aCross d M0 (some (.int x0.1), x0.2) x0 (fp_X11_aCross_L163 v0 v1 v3 n v4 M) 163 [(0, .ref (E.2.2.2.1 + v0)), (1, .int v1), (3, .int v3), (4, .int v4)] [] M := by
  intro n
  induction n with
  | zero =>
    intro v4 M
    rw [fp_X11_aCross_L163]
    exact zs_none
  | succ n ih =>
    intro v4 M
    rw [fp_X11_aCross_L163]
    refine zs_iload dX11_aCross_163 3 rfl ?_
    refine zs_iload_n dX11_aCross_165 rfl 1 rfl ?_
    refine zs_icmp_ge dX11_aCross_166 rfl ?_ ?_
    · refine zs_aload_n dX11_aCross_219 rfl 0 rfl ?_
      refine zs_invVWV (rest := []) [] dX11_aCross_220 lk_X11_180 rfl (fun _ h => th_X11_ahead h) (zd1 rfl hd) rfl (Nat.le_of_ble_eq_true rfl) (ct_X11_ahead E hE _ (zdl rfl hd) _ _) (fun M23 => ?_)
      refine zs_iconst (v := 1) dX11_aCross_223 ciconst_1 ?_
      exact zs_iretW dX11_aCross_224 rfl
    refine zs_aload_n dX11_aCross_169 rfl 0 rfl ?_
    refine zs_iconst (v := 0) dX11_aCross_170 ciconst_0 ?_
    refine zs_invVWV (rest := []) [.int 0] dX11_aCross_171 lk_X11_186 rfl (fun _ h => th_X11_comes h) (zd1 rfl hd) rfl (Nat.le_of_ble_eq_true rfl) (ct_X11_comes E hE _ (zdl rfl hd) _ _ _) (fun M24 => ?_)
    refine zs_iconst (v := 0) dX11_aCross_174 ciconst_0 ?_
    refine zs_istore (loc' := [(0, .ref (E.2.2.2.1 + v0)), (1, .int v1), (3, .int v3), (4, .int v4), (5, .int 0)]) dX11_aCross_175 (Nat.le_of_ble_eq_true rfl) [1, 2, 3, 4, 0] rfl ?_
    refine w_X11_aCross_L177 E hE d hd _ _ _ _ _ _ _ (fun M28 => ?_) _ _ _
    refine zs_iinc (v := (v4 + 1)) (loc' := [(0, .ref (E.2.2.2.1 + v0)), (1, .int v1), (3, .int v3), (4, .int (v4 + 1))]) dX11_aCross_213 3 rfl (by rfl) (Nat.le_of_ble_eq_true rfl) [1, 2, 3, 0] rfl ?_
    refine zs_goto dX11_aCross_216 rfl ?_
    exact ih (v4 + 1) M28
set_option maxHeartbeats 4000000 in
set_option maxRecDepth 100000 in
theorem ct_X11_aCross (E : zEnv) (hE : zEok E) (d : Nat) (hd : 3 ≤ d) (v0 : Nat) (M : zM) (x0 : Int32 × zM) (hx : fp_X11_aCross v0 M = some x0) : zCt E mu_X11_aCross d [.ref (E.2.2.2.1 + v0)] M (some (.int x0.1), x0.2) := by
  refine zCt_of (μ := mu_X11_aCross) (t := fp_X11_aCross v0 M) rfl rfl (Nat.le_of_ble_eq_true rfl) hx ?_
  change zSy E mu_X11_aCross d M (some (.int x0.1), x0.2) x0 (fp_X11_aCross v0 M) 0 [(0, .ref (E.2.2.2.1 + v0))] [] M
  unfold fp_X11_aCross
  refine zs_this (fun hth => ?_)
  refine zs_aload_n dX11_aCross_0 rfl 0 rfl ?_
  refine zs_getI dX11_aCross_1 fl_X11_153 rfl (fun y1 => ?_)
  refine zs_iconst (v := 2) dX11_aCross_4 ciconst_2 ?_
  refine zs_icmp_eq dX11_aCross_5 rfl ?_ ?_
  · refine zs_aload_n dX11_aCross_14 rfl 0 rfl ?_
    refine zs_aload_n dX11_aCross_15 rfl 0 rfl ?_
    refine zs_getR dX11_aCross_16 fl_X11_17 rfl (fun y2 => ?_)
    refine zs_aload_n dX11_aCross_19 rfl 0 rfl ?_
    refine zs_getI dX11_aCross_20 fl_X11_150 rfl (fun y3 => ?_)
    refine zs_aload_n dX11_aCross_23 rfl 0 rfl ?_
    refine zs_getI dX11_aCross_24 fl_X11_144 rfl (fun y4 => ?_)
    refine zs_invVWV (rest := []) [.ref (E.2.2.2.1 + y2), .int y3, .int y4] dX11_aCross_27 lk_X11_199 rfl (fun _ h => th_X11_counts h) (zd1 rfl hd) rfl (Nat.le_of_ble_eq_true rfl) (ct_X11_counts E hE _ (zdl rfl hd) _ _ _ _ _) (fun M5 => ?_)
    refine zs_iconst (v := 0) dX11_aCross_30 ciconst_0 ?_
    refine zs_istore_n (loc' := [(0, .ref (E.2.2.2.1 + v0)), (1, .int 0)]) dX11_aCross_31 rfl (Nat.le_of_ble_eq_true rfl) [1, 0] rfl ?_
    refine zs_aload_n dX11_aCross_32 rfl 0 rfl ?_
    refine zs_getI dX11_aCross_33 fl_X11_144 rfl (fun y6 => ?_)
    refine zs_aload_n dX11_aCross_36 rfl 0 rfl ?_
    refine zs_getI dX11_aCross_37 fl_X11_150 rfl (fun y7 => ?_)
    refine zs_isub dX11_aCross_40 ?_
    refine zs_bipush (v := 14) dX11_aCross_41 cbipush_14 ?_
    refine zs_jn (fun j51 => ∀ (s8 : Int32), zSy E mu_X11_aCross d M (some (.int x0.1), x0.2) x0 (j51 s8) 51 [(0, .ref (E.2.2.2.1 + v0)), (1, .int 0)] [.int s8] M5) (fun s8 => ?_) (fun j51 hj51 => ?_)
    · refine zs_istore_n (loc' := [(0, .ref (E.2.2.2.1 + v0)), (1, .int 0), (2, .int s8)]) dX11_aCross_51 rfl (Nat.le_of_ble_eq_true rfl) [1, 2, 0] rfl ?_
      refine zs_iconst (v := 0) dX11_aCross_52 ciconst_0 ?_
      refine zs_istore_n (loc' := [(0, .ref (E.2.2.2.1 + v0)), (1, .int 0), (2, .int s8), (3, .int 0)]) dX11_aCross_53 rfl (Nat.le_of_ble_eq_true rfl) [1, 2, 3, 0] rfl ?_
      refine w_X11_aCross_L54 E hE d hd _ _ _ _ _ _ (fun v1_14 => ?_) _ _ _
      refine zs_iconst (v := 0) dX11_aCross_83 ciconst_0 ?_
      refine zs_istore_n (loc' := [(0, .ref (E.2.2.2.1 + v0)), (1, .int v1_14), (2, .int s8), (3, .int 0)]) dX11_aCross_84 rfl (Nat.le_of_ble_eq_true rfl) [1, 2, 3, 0] rfl ?_
      refine w_X11_aCross_L85 E hE d hd _ _ _ _ _ _ (fun v2_20 => ?_) _ _ _
      refine zs_aload_n dX11_aCross_126 rfl 0 rfl ?_
      refine zs_getI dX11_aCross_127 fl_X11_101 rfl (fun y21 => ?_)
      refine zs_iload_n dX11_aCross_130 rfl 1 rfl ?_
      refine zs_iadd dX11_aCross_131 ?_
      refine zs_bipush (v := 7) dX11_aCross_132 cbipush_7 ?_
      refine zs_icmp_le dX11_aCross_134 rfl ?_ ?_
      · refine zs_iload_n dX11_aCross_144 rfl 2 rfl ?_
        refine zs_if_ne dX11_aCross_145 rfl ?_ ?_
        · refine zs_aload_n dX11_aCross_155 rfl 0 rfl ?_
          refine zs_getI dX11_aCross_156 fl_X11_101 rfl (fun y22 => ?_)
          refine zs_istore_n (loc' := [(0, .ref (E.2.2.2.1 + v0)), (1, .int v1_14), (3, .int y22)]) dX11_aCross_159 rfl (Nat.le_of_ble_eq_true rfl) [1, 2, 0] rfl ?_
          refine zs_iconst (v := 0) dX11_aCross_160 ciconst_0 ?_
          refine zs_istore (loc' := [(0, .ref (E.2.2.2.1 + v0)), (1, .int v1_14), (3, .int y22), (4, .int 0)]) dX11_aCross_161 (Nat.le_of_ble_eq_true rfl) [1, 2, 3, 0] rfl ?_
          exact w_X11_aCross_L163 E hE d hd _ _ _ _ _ _ _ _
        refine zs_aload_n dX11_aCross_148 rfl 0 rfl ?_
        refine zs_bipush (v := 7) dX11_aCross_149 cbipush_7 ?_
        refine zs_invVWI (rest := []) [.int 7] dX11_aCross_151 lk_X11_177 rfl (fun _ h => th_X11_fails h) (zd1 rfl hd) rfl (Nat.le_of_ble_eq_true rfl) (ct_X11_fails E hE _ (zdl rfl hd) _ _ _) (fun y29 M30 => ?_)
        exact zs_zretW dX11_aCross_154 rfl
      refine zs_aload_n dX11_aCross_137 rfl 0 rfl ?_
      refine zs_bipush (v := 6) dX11_aCross_138 cbipush_6 ?_
      refine zs_invVWI (rest := []) [.int 6] dX11_aCross_140 lk_X11_177 rfl (fun _ h => th_X11_fails h) (zd1 rfl hd) rfl (Nat.le_of_ble_eq_true rfl) (ct_X11_fails E hE _ (zdl rfl hd) _ _ _) (fun y32 M33 => ?_)
      exact zs_zretW dX11_aCross_143 rfl
    refine zs_icmp_gt dX11_aCross_43 rfl ?_ ?_
    · refine zs_iconst (v := 0) dX11_aCross_50 ciconst_0 ?_
      exact hj51 0
    refine zs_iconst (v := 1) dX11_aCross_46 ciconst_1 ?_
    refine zs_goto dX11_aCross_47 rfl ?_
    exact hj51 1
  refine zs_aload_n dX11_aCross_8 rfl 0 rfl ?_
  refine zs_iconst (v := 2) dX11_aCross_9 ciconst_2 ?_
  refine zs_invVWI (rest := []) [.int 2] dX11_aCross_10 lk_X11_177 rfl (fun _ h => th_X11_fails h) (zd1 rfl hd) rfl (Nat.le_of_ble_eq_true rfl) (ct_X11_fails E hE _ (zdl rfl hd) _ _ _) (fun y35 M36 => ?_)
  exact zs_zretW dX11_aCross_13 rfl
theorem dX11_aTurn_0 : decode cX11_aTurn 0 = .ok (.aload_n 0, 1) := by decide +kernel
theorem dX11_aTurn_1 : decode cX11_aTurn 1 = .ok (.iconst (-1), 1) := by decide +kernel
theorem dX11_aTurn_2 : decode cX11_aTurn 2 = .ok (.invokevirtual 189, 3) := by decide +kernel
theorem dX11_aTurn_5 : decode cX11_aTurn 5 = .ok (.istore_n 1, 1) := by decide +kernel
theorem dX11_aTurn_6 : decode cX11_aTurn 6 = .ok (.iload_n 1, 1) := by decide +kernel
theorem dX11_aTurn_7 : decode cX11_aTurn 7 = .ok (.iconst (-1), 1) := by decide +kernel
theorem dX11_aTurn_8 : decode cX11_aTurn 8 = .ok (.if_icmp .ne 5, 3) := by decide +kernel
theorem dX11_aTurn_11 : decode cX11_aTurn 11 = .ok (.iconst 0, 1) := by decide +kernel
theorem dX11_aTurn_12 : decode cX11_aTurn 12 = .ok (.ireturn, 1) := by decide +kernel
theorem dX11_aTurn_13 : decode cX11_aTurn 13 = .ok (.aload_n 0, 1) := by decide +kernel
theorem dX11_aTurn_14 : decode cX11_aTurn 14 = .ok (.iload_n 1, 1) := by decide +kernel
theorem dX11_aTurn_15 : decode cX11_aTurn 15 = .ok (.invokevirtual 118, 3) := by decide +kernel
theorem dX11_aTurn_18 : decode cX11_aTurn 18 = .ok (.aload_n 0, 1) := by decide +kernel
theorem dX11_aTurn_19 : decode cX11_aTurn 19 = .ok (.invokevirtual 180, 3) := by decide +kernel
theorem dX11_aTurn_22 : decode cX11_aTurn 22 = .ok (.iconst 1, 1) := by decide +kernel
theorem dX11_aTurn_23 : decode cX11_aTurn 23 = .ok (.ireturn, 1) := by decide +kernel
def fp_X11_aTurn (v0 : Nat) (M : zM) : Option (Int32 × zM) :=
  zthis 9 M v0 (
    (fp_X11_pointHere v0 (-1) M).bind fun p3 => zpp p3 fun (y1 : Int32) (M2 : zM) =>
    if y1 ≠ (-1) then (
      (fp_X11_turns0 v0 y1 M2).bind fun (M4 : zM) =>
      (fp_X11_ahead v0 M4).bind fun (M5 : zM) =>
      some (1, M5))
    else (
      some (0, M2)))
set_option maxHeartbeats 4000000 in
set_option maxRecDepth 100000 in
theorem th_X11_aTurn {v0 : Nat} {M : zM} {x0 : Int32 × zM} (h : fp_X11_aTurn v0 M = some x0) : v0 < zS M ∧ kd v0 = 9 := by
  unfold fp_X11_aTurn at h
  exact zthis_of h
set_option maxHeartbeats 4000000 in
set_option maxRecDepth 100000 in
theorem ct_X11_aTurn (E : zEnv) (hE : zEok E) (d : Nat) (hd : 4 ≤ d) (v0 : Nat) (M : zM) (x0 : Int32 × zM) (hx : fp_X11_aTurn v0 M = some x0) : zCt E mu_X11_aTurn d [.ref (E.2.2.2.1 + v0)] M (some (.int x0.1), x0.2) := by
  refine zCt_of (μ := mu_X11_aTurn) (t := fp_X11_aTurn v0 M) rfl rfl (Nat.le_of_ble_eq_true rfl) hx ?_
  change zSy E mu_X11_aTurn d M (some (.int x0.1), x0.2) x0 (fp_X11_aTurn v0 M) 0 [(0, .ref (E.2.2.2.1 + v0))] [] M
  unfold fp_X11_aTurn
  refine zs_this (fun hth => ?_)
  refine zs_aload_n dX11_aTurn_0 rfl 0 rfl ?_
  refine zs_iconst (v := (-1)) dX11_aTurn_1 ciconst_m1 ?_
  refine zs_invVWI (rest := []) [.int (-1)] dX11_aTurn_2 lk_X11_189 rfl (fun _ h => th_X11_pointHere h) (zd1 rfl hd) rfl (Nat.le_of_ble_eq_true rfl) (ct_X11_pointHere E hE _ (zdl rfl hd) _ _ _) (fun y1 M2 => ?_)
  refine zs_istore_n (loc' := [(0, .ref (E.2.2.2.1 + v0)), (1, .int y1)]) dX11_aTurn_5 rfl (Nat.le_of_ble_eq_true rfl) [1, 0] rfl ?_
  refine zs_iload_n dX11_aTurn_6 rfl 1 rfl ?_
  refine zs_iconst (v := (-1)) dX11_aTurn_7 ciconst_m1 ?_
  refine zs_icmp_ne dX11_aTurn_8 rfl ?_ ?_
  · refine zs_aload_n dX11_aTurn_13 rfl 0 rfl ?_
    refine zs_iload_n dX11_aTurn_14 rfl 1 rfl ?_
    refine zs_invVWV (rest := []) [.int y1] dX11_aTurn_15 lk_X11_118 rfl (fun _ h => th_X11_turns0 h) (zd1 rfl hd) rfl (Nat.le_of_ble_eq_true rfl) (ct_X11_turns0 E hE _ (zdl rfl hd) _ _ _) (fun M4 => ?_)
    refine zs_aload_n dX11_aTurn_18 rfl 0 rfl ?_
    refine zs_invVWV (rest := []) [] dX11_aTurn_19 lk_X11_180 rfl (fun _ h => th_X11_ahead h) (zd1 rfl hd) rfl (Nat.le_of_ble_eq_true rfl) (ct_X11_ahead E hE _ (zdl rfl hd) _ _) (fun M5 => ?_)
    refine zs_iconst (v := 1) dX11_aTurn_22 ciconst_1 ?_
    exact zs_iretW dX11_aTurn_23 rfl
  refine zs_iconst (v := 0) dX11_aTurn_11 ciconst_0 ?_
  exact zs_iretW dX11_aTurn_12 rfl
theorem dX11_aLine_0 : decode cX11_aLine 0 = .ok (.aload_n 0, 1) := by decide +kernel
theorem dX11_aLine_1 : decode cX11_aLine 1 = .ok (.invokevirtual 206, 3) := by decide +kernel
theorem dX11_aLine_4 : decode cX11_aLine 4 = .ok (.istore_n 1, 1) := by decide +kernel
theorem dX11_aLine_5 : decode cX11_aLine 5 = .ok (.iload_n 1, 1) := by decide +kernel
theorem dX11_aLine_6 : decode cX11_aLine 6 = .ok (.iconst (-1), 1) := by decide +kernel
theorem dX11_aLine_7 : decode cX11_aLine 7 = .ok (.if_icmp .ne 9, 3) := by decide +kernel
theorem dX11_aLine_10 : decode cX11_aLine 10 = .ok (.aload_n 0, 1) := by decide +kernel
theorem dX11_aLine_11 : decode cX11_aLine 11 = .ok (.iconst 2, 1) := by decide +kernel
theorem dX11_aLine_12 : decode cX11_aLine 12 = .ok (.invokevirtual 177, 3) := by decide +kernel
theorem dX11_aLine_15 : decode cX11_aLine 15 = .ok (.ireturn, 1) := by decide +kernel
theorem dX11_aLine_16 : decode cX11_aLine 16 = .ok (.aload_n 0, 1) := by decide +kernel
theorem dX11_aLine_17 : decode cX11_aLine 17 = .ok (.invokevirtual 180, 3) := by decide +kernel
theorem dX11_aLine_20 : decode cX11_aLine 20 = .ok (.iload_n 1, 1) := by decide +kernel
theorem dX11_aLine_21 : decode cX11_aLine 21 = .ok (.tableswitch 112 0 3 #[31, 51, 72, 92], 31) := by decide +kernel
theorem dX11_aLine_52 : decode cX11_aLine 52 = .ok (.aload_n 0, 1) := by decide +kernel
theorem dX11_aLine_53 : decode cX11_aLine 53 = .ok (.invokevirtual 209, 3) := by decide +kernel
theorem dX11_aLine_56 : decode cX11_aLine 56 = .ok (.ifCond .eq 14, 3) := by decide +kernel
theorem dX11_aLine_59 : decode cX11_aLine 59 = .ok (.aload_n 0, 1) := by decide +kernel
theorem dX11_aLine_60 : decode cX11_aLine 60 = .ok (.invokevirtual 213, 3) := by decide +kernel
theorem dX11_aLine_63 : decode cX11_aLine 63 = .ok (.ifCond .eq 7, 3) := by decide +kernel
theorem dX11_aLine_66 : decode cX11_aLine 66 = .ok (.iconst 1, 1) := by decide +kernel
theorem dX11_aLine_67 : decode cX11_aLine 67 = .ok (.goto 4, 3) := by decide +kernel
theorem dX11_aLine_70 : decode cX11_aLine 70 = .ok (.iconst 0, 1) := by decide +kernel
theorem dX11_aLine_71 : decode cX11_aLine 71 = .ok (.ireturn, 1) := by decide +kernel
theorem dX11_aLine_72 : decode cX11_aLine 72 = .ok (.aload_n 0, 1) := by decide +kernel
theorem dX11_aLine_73 : decode cX11_aLine 73 = .ok (.iconst 0, 1) := by decide +kernel
theorem dX11_aLine_74 : decode cX11_aLine 74 = .ok (.invokevirtual 216, 3) := by decide +kernel
theorem dX11_aLine_77 : decode cX11_aLine 77 = .ok (.ifCond .eq 14, 3) := by decide +kernel
theorem dX11_aLine_80 : decode cX11_aLine 80 = .ok (.aload_n 0, 1) := by decide +kernel
theorem dX11_aLine_81 : decode cX11_aLine 81 = .ok (.invokevirtual 213, 3) := by decide +kernel
theorem dX11_aLine_84 : decode cX11_aLine 84 = .ok (.ifCond .eq 7, 3) := by decide +kernel
theorem dX11_aLine_87 : decode cX11_aLine 87 = .ok (.iconst 1, 1) := by decide +kernel
theorem dX11_aLine_88 : decode cX11_aLine 88 = .ok (.goto 4, 3) := by decide +kernel
theorem dX11_aLine_91 : decode cX11_aLine 91 = .ok (.iconst 0, 1) := by decide +kernel
theorem dX11_aLine_92 : decode cX11_aLine 92 = .ok (.ireturn, 1) := by decide +kernel
theorem dX11_aLine_93 : decode cX11_aLine 93 = .ok (.aload_n 0, 1) := by decide +kernel
theorem dX11_aLine_94 : decode cX11_aLine 94 = .ok (.invokevirtual 220, 3) := by decide +kernel
theorem dX11_aLine_97 : decode cX11_aLine 97 = .ok (.ifCond .eq 14, 3) := by decide +kernel
theorem dX11_aLine_100 : decode cX11_aLine 100 = .ok (.aload_n 0, 1) := by decide +kernel
theorem dX11_aLine_101 : decode cX11_aLine 101 = .ok (.invokevirtual 213, 3) := by decide +kernel
theorem dX11_aLine_104 : decode cX11_aLine 104 = .ok (.ifCond .eq 7, 3) := by decide +kernel
theorem dX11_aLine_107 : decode cX11_aLine 107 = .ok (.iconst 1, 1) := by decide +kernel
theorem dX11_aLine_108 : decode cX11_aLine 108 = .ok (.goto 4, 3) := by decide +kernel
theorem dX11_aLine_111 : decode cX11_aLine 111 = .ok (.iconst 0, 1) := by decide +kernel
theorem dX11_aLine_112 : decode cX11_aLine 112 = .ok (.ireturn, 1) := by decide +kernel
theorem dX11_aLine_113 : decode cX11_aLine 113 = .ok (.aload_n 0, 1) := by decide +kernel
theorem dX11_aLine_114 : decode cX11_aLine 114 = .ok (.invokevirtual 223, 3) := by decide +kernel
theorem dX11_aLine_117 : decode cX11_aLine 117 = .ok (.ifCond .eq 14, 3) := by decide +kernel
theorem dX11_aLine_120 : decode cX11_aLine 120 = .ok (.aload_n 0, 1) := by decide +kernel
theorem dX11_aLine_121 : decode cX11_aLine 121 = .ok (.invokevirtual 213, 3) := by decide +kernel
theorem dX11_aLine_124 : decode cX11_aLine 124 = .ok (.ifCond .eq 7, 3) := by decide +kernel
theorem dX11_aLine_127 : decode cX11_aLine 127 = .ok (.iconst 1, 1) := by decide +kernel
theorem dX11_aLine_128 : decode cX11_aLine 128 = .ok (.goto 4, 3) := by decide +kernel
theorem dX11_aLine_131 : decode cX11_aLine 131 = .ok (.iconst 0, 1) := by decide +kernel
theorem dX11_aLine_132 : decode cX11_aLine 132 = .ok (.ireturn, 1) := by decide +kernel
theorem dX11_aLine_133 : decode cX11_aLine 133 = .ok (.aload_n 0, 1) := by decide +kernel
theorem dX11_aLine_134 : decode cX11_aLine 134 = .ok (.iconst 1, 1) := by decide +kernel
theorem dX11_aLine_135 : decode cX11_aLine 135 = .ok (.invokevirtual 216, 3) := by decide +kernel
theorem dX11_aLine_138 : decode cX11_aLine 138 = .ok (.ifCond .eq 14, 3) := by decide +kernel
theorem dX11_aLine_141 : decode cX11_aLine 141 = .ok (.aload_n 0, 1) := by decide +kernel
theorem dX11_aLine_142 : decode cX11_aLine 142 = .ok (.invokevirtual 213, 3) := by decide +kernel
theorem dX11_aLine_145 : decode cX11_aLine 145 = .ok (.ifCond .eq 7, 3) := by decide +kernel
theorem dX11_aLine_148 : decode cX11_aLine 148 = .ok (.iconst 1, 1) := by decide +kernel
theorem dX11_aLine_149 : decode cX11_aLine 149 = .ok (.goto 4, 3) := by decide +kernel
theorem dX11_aLine_152 : decode cX11_aLine 152 = .ok (.iconst 0, 1) := by decide +kernel
theorem dX11_aLine_153 : decode cX11_aLine 153 = .ok (.ireturn, 1) := by decide +kernel
def fp_X11_aLine (v0 : Nat) (M : zM) : Option (Int32 × zM) :=
  zthis 9 M v0 (
    (fp_X11_key v0 M).bind fun (y1 : Int32) =>
    if y1 ≠ (-1) then (
      (fp_X11_ahead v0 M).bind fun (M2 : zM) =>
      if y1 = 0 then (
        (fp_X11_morePoints v0 M2).bind fun p5 => zpp p5 fun (y3 : Int32) (M4 : zM) =>
        if y3 = 0 then (
          some (0, M4))
        else (
          (fp_X11_closes v0 M4).bind fun p8 => zpp p8 fun (y6 : Int32) (M7 : zM) =>
          if y6 = 0 then (
            some (0, M7))
          else (
            some (1, M7))))
      else if y1 = 1 then (
        (fp_X11_two v0 0 M2).bind fun p12 => zpp p12 fun (y10 : Int32) (M11 : zM) =>
        if y10 = 0 then (
          some (0, M11))
        else (
          (fp_X11_closes v0 M11).bind fun p15 => zpp p15 fun (y13 : Int32) (M14 : zM) =>
          if y13 = 0 then (
            some (0, M14))
          else (
            some (1, M14))))
      else if y1 = 2 then (
        (fp_X11_aCross v0 M2).bind fun p19 => zpp p19 fun (y17 : Int32) (M18 : zM) =>
        if y17 = 0 then (
          some (0, M18))
        else (
          (fp_X11_closes v0 M18).bind fun p22 => zpp p22 fun (y20 : Int32) (M21 : zM) =>
          if y20 = 0 then (
            some (0, M21))
          else (
            some (1, M21))))
      else if y1 = 3 then (
        (fp_X11_aTurn v0 M2).bind fun p26 => zpp p26 fun (y24 : Int32) (M25 : zM) =>
        if y24 = 0 then (
          some (0, M25))
        else (
          (fp_X11_closes v0 M25).bind fun p29 => zpp p29 fun (y27 : Int32) (M28 : zM) =>
          if y27 = 0 then (
            some (0, M28))
          else (
            some (1, M28))))
      else (
        (fp_X11_two v0 1 M2).bind fun p33 => zpp p33 fun (y31 : Int32) (M32 : zM) =>
        if y31 = 0 then (
          some (0, M32))
        else (
          (fp_X11_closes v0 M32).bind fun p36 => zpp p36 fun (y34 : Int32) (M35 : zM) =>
          if y34 = 0 then (
            some (0, M35))
          else (
            some (1, M35)))))
    else (
      (fp_X11_fails v0 2 M).bind fun p39 => zpp p39 fun (y37 : Int32) (M38 : zM) =>
      (zb y37).bind fun (r : Int32) => some (r, M38)))
set_option maxHeartbeats 4000000 in
set_option maxRecDepth 100000 in
theorem th_X11_aLine {v0 : Nat} {M : zM} {x0 : Int32 × zM} (h : fp_X11_aLine v0 M = some x0) : v0 < zS M ∧ kd v0 = 9 := by
  unfold fp_X11_aLine at h
  exact zthis_of h
set_option maxHeartbeats 4000000 in
set_option maxRecDepth 100000 in
theorem ct_X11_aLine (E : zEnv) (hE : zEok E) (d : Nat) (hd : 10 ≤ d) (v0 : Nat) (M : zM) (x0 : Int32 × zM) (hx : fp_X11_aLine v0 M = some x0) : zCt E mu_X11_aLine d [.ref (E.2.2.2.1 + v0)] M (some (.int x0.1), x0.2) := by
  refine zCt_of (μ := mu_X11_aLine) (t := fp_X11_aLine v0 M) rfl rfl (Nat.le_of_ble_eq_true rfl) hx ?_
  change zSy E mu_X11_aLine d M (some (.int x0.1), x0.2) x0 (fp_X11_aLine v0 M) 0 [(0, .ref (E.2.2.2.1 + v0))] [] M
  unfold fp_X11_aLine
  refine zs_this (fun hth => ?_)
  refine zs_aload_n dX11_aLine_0 rfl 0 rfl ?_
  refine zs_invVPI (rest := []) [] dX11_aLine_1 lk_X11_206 rfl (fun _ h => th_X11_key h) (zd1 rfl hd) rfl (Nat.le_of_ble_eq_true rfl) (ct_X11_key E hE _ (zdl rfl hd) _ _) (fun y1 => ?_)
  refine zs_istore_n (loc' := [(0, .ref (E.2.2.2.1 + v0)), (1, .int y1)]) dX11_aLine_4 rfl (Nat.le_of_ble_eq_true rfl) [1, 0] rfl ?_
  refine zs_iload_n dX11_aLine_5 rfl 1 rfl ?_
  refine zs_iconst (v := (-1)) dX11_aLine_6 ciconst_m1 ?_
  refine zs_icmp_ne dX11_aLine_7 rfl ?_ ?_
  · refine zs_aload_n dX11_aLine_16 rfl 0 rfl ?_
    refine zs_invVWV (rest := []) [] dX11_aLine_17 lk_X11_180 rfl (fun _ h => th_X11_ahead h) (zd1 rfl hd) rfl (Nat.le_of_ble_eq_true rfl) (ct_X11_ahead E hE _ (zdl rfl hd) _ _) (fun M2 => ?_)
    refine zs_iload_n dX11_aLine_20 rfl 1 rfl ?_
    refine zs_ite (fun hc9 => ?_) (fun hc9 => ?_)
    · refine zs_tsw dX11_aLine_21 hc9 (by decide) (by decide) (by rfl) rfl ?_
      refine zs_aload_n dX11_aLine_52 rfl 0 rfl ?_
      refine zs_invVWI (rest := []) [] dX11_aLine_53 lk_X11_209 rfl (fun _ h => th_X11_morePoints h) (zd1 rfl hd) rfl (Nat.le_of_ble_eq_true rfl) (ct_X11_morePoints E hE _ (zdl rfl hd) _ _) (fun y3 M4 => ?_)
      refine zs_if_eq dX11_aLine_56 rfl ?_ ?_
      · refine zs_iconst (v := 0) dX11_aLine_70 ciconst_0 ?_
        exact zs_iretW dX11_aLine_71 rfl
      refine zs_aload_n dX11_aLine_59 rfl 0 rfl ?_
      refine zs_invVWI (rest := []) [] dX11_aLine_60 lk_X11_213 rfl (fun _ h => th_X11_closes h) (zd1 rfl hd) rfl (Nat.le_of_ble_eq_true rfl) (ct_X11_closes E hE _ (zdl rfl hd) _ _) (fun y6 M7 => ?_)
      refine zs_if_eq dX11_aLine_63 rfl ?_ ?_
      · refine zs_iconst (v := 0) dX11_aLine_70 ciconst_0 ?_
        exact zs_iretW dX11_aLine_71 rfl
      refine zs_iconst (v := 1) dX11_aLine_66 ciconst_1 ?_
      refine zs_goto dX11_aLine_67 rfl ?_
      exact zs_iretW dX11_aLine_71 rfl
    refine zs_ite (fun hc16 => ?_) (fun hc16 => ?_)
    · refine zs_tsw dX11_aLine_21 hc16 (by decide) (by decide) (by rfl) rfl ?_
      refine zs_aload_n dX11_aLine_72 rfl 0 rfl ?_
      refine zs_iconst (v := 0) dX11_aLine_73 ciconst_0 ?_
      refine zs_invVWI (rest := []) [.int 0] dX11_aLine_74 lk_X11_216 rfl (fun _ h => th_X11_two h) (zd1 rfl hd) rfl (Nat.le_of_ble_eq_true rfl) (ct_X11_two E hE _ (zdl rfl hd) _ _ _) (fun y10 M11 => ?_)
      refine zs_if_eq dX11_aLine_77 rfl ?_ ?_
      · refine zs_iconst (v := 0) dX11_aLine_91 ciconst_0 ?_
        exact zs_iretW dX11_aLine_92 rfl
      refine zs_aload_n dX11_aLine_80 rfl 0 rfl ?_
      refine zs_invVWI (rest := []) [] dX11_aLine_81 lk_X11_213 rfl (fun _ h => th_X11_closes h) (zd1 rfl hd) rfl (Nat.le_of_ble_eq_true rfl) (ct_X11_closes E hE _ (zdl rfl hd) _ _) (fun y13 M14 => ?_)
      refine zs_if_eq dX11_aLine_84 rfl ?_ ?_
      · refine zs_iconst (v := 0) dX11_aLine_91 ciconst_0 ?_
        exact zs_iretW dX11_aLine_92 rfl
      refine zs_iconst (v := 1) dX11_aLine_87 ciconst_1 ?_
      refine zs_goto dX11_aLine_88 rfl ?_
      exact zs_iretW dX11_aLine_92 rfl
    refine zs_ite (fun hc23 => ?_) (fun hc23 => ?_)
    · refine zs_tsw dX11_aLine_21 hc23 (by decide) (by decide) (by rfl) rfl ?_
      refine zs_aload_n dX11_aLine_93 rfl 0 rfl ?_
      refine zs_invVWI (rest := []) [] dX11_aLine_94 lk_X11_220 rfl (fun _ h => th_X11_aCross h) (zd1 rfl hd) rfl (Nat.le_of_ble_eq_true rfl) (ct_X11_aCross E hE _ (zdl rfl hd) _ _) (fun y17 M18 => ?_)
      refine zs_if_eq dX11_aLine_97 rfl ?_ ?_
      · refine zs_iconst (v := 0) dX11_aLine_111 ciconst_0 ?_
        exact zs_iretW dX11_aLine_112 rfl
      refine zs_aload_n dX11_aLine_100 rfl 0 rfl ?_
      refine zs_invVWI (rest := []) [] dX11_aLine_101 lk_X11_213 rfl (fun _ h => th_X11_closes h) (zd1 rfl hd) rfl (Nat.le_of_ble_eq_true rfl) (ct_X11_closes E hE _ (zdl rfl hd) _ _) (fun y20 M21 => ?_)
      refine zs_if_eq dX11_aLine_104 rfl ?_ ?_
      · refine zs_iconst (v := 0) dX11_aLine_111 ciconst_0 ?_
        exact zs_iretW dX11_aLine_112 rfl
      refine zs_iconst (v := 1) dX11_aLine_107 ciconst_1 ?_
      refine zs_goto dX11_aLine_108 rfl ?_
      exact zs_iretW dX11_aLine_112 rfl
    refine zs_ite (fun hc30 => ?_) (fun hc30 => ?_)
    · refine zs_tsw dX11_aLine_21 hc30 (by decide) (by decide) (by rfl) rfl ?_
      refine zs_aload_n dX11_aLine_113 rfl 0 rfl ?_
      refine zs_invVWI (rest := []) [] dX11_aLine_114 lk_X11_223 rfl (fun _ h => th_X11_aTurn h) (zd1 rfl hd) rfl (Nat.le_of_ble_eq_true rfl) (ct_X11_aTurn E hE _ (zdl rfl hd) _ _) (fun y24 M25 => ?_)
      refine zs_if_eq dX11_aLine_117 rfl ?_ ?_
      · refine zs_iconst (v := 0) dX11_aLine_131 ciconst_0 ?_
        exact zs_iretW dX11_aLine_132 rfl
      refine zs_aload_n dX11_aLine_120 rfl 0 rfl ?_
      refine zs_invVWI (rest := []) [] dX11_aLine_121 lk_X11_213 rfl (fun _ h => th_X11_closes h) (zd1 rfl hd) rfl (Nat.le_of_ble_eq_true rfl) (ct_X11_closes E hE _ (zdl rfl hd) _ _) (fun y27 M28 => ?_)
      refine zs_if_eq dX11_aLine_124 rfl ?_ ?_
      · refine zs_iconst (v := 0) dX11_aLine_131 ciconst_0 ?_
        exact zs_iretW dX11_aLine_132 rfl
      refine zs_iconst (v := 1) dX11_aLine_127 ciconst_1 ?_
      refine zs_goto dX11_aLine_128 rfl ?_
      exact zs_iretW dX11_aLine_132 rfl
    refine zs_tswD dX11_aLine_21 (ztsw_of (n := 3) (by decide) (fun q hq => by
      have hq2 : q = 0 ∨ q = 1 ∨ q = 2 ∨ q = 3 := by omega
      rcases hq2 with rfl | rfl | rfl | rfl
      · exact hc9
      · exact hc16
      · exact hc23
      · exact hc30)) rfl ?_
    refine zs_aload_n dX11_aLine_133 rfl 0 rfl ?_
    refine zs_iconst (v := 1) dX11_aLine_134 ciconst_1 ?_
    refine zs_invVWI (rest := []) [.int 1] dX11_aLine_135 lk_X11_216 rfl (fun _ h => th_X11_two h) (zd1 rfl hd) rfl (Nat.le_of_ble_eq_true rfl) (ct_X11_two E hE _ (zdl rfl hd) _ _ _) (fun y31 M32 => ?_)
    refine zs_if_eq dX11_aLine_138 rfl ?_ ?_
    · refine zs_iconst (v := 0) dX11_aLine_152 ciconst_0 ?_
      exact zs_iretW dX11_aLine_153 rfl
    refine zs_aload_n dX11_aLine_141 rfl 0 rfl ?_
    refine zs_invVWI (rest := []) [] dX11_aLine_142 lk_X11_213 rfl (fun _ h => th_X11_closes h) (zd1 rfl hd) rfl (Nat.le_of_ble_eq_true rfl) (ct_X11_closes E hE _ (zdl rfl hd) _ _) (fun y34 M35 => ?_)
    refine zs_if_eq dX11_aLine_145 rfl ?_ ?_
    · refine zs_iconst (v := 0) dX11_aLine_152 ciconst_0 ?_
      exact zs_iretW dX11_aLine_153 rfl
    refine zs_iconst (v := 1) dX11_aLine_148 ciconst_1 ?_
    refine zs_goto dX11_aLine_149 rfl ?_
    exact zs_iretW dX11_aLine_153 rfl
  refine zs_aload_n dX11_aLine_10 rfl 0 rfl ?_
  refine zs_iconst (v := 2) dX11_aLine_11 ciconst_2 ?_
  refine zs_invVWI (rest := []) [.int 2] dX11_aLine_12 lk_X11_177 rfl (fun _ h => th_X11_fails h) (zd1 rfl hd) rfl (Nat.le_of_ble_eq_true rfl) (ct_X11_fails E hE _ (zdl rfl hd) _ _ _) (fun y37 M38 => ?_)
  exact zs_zretW dX11_aLine_15 rfl
theorem dX11_puts_0 : decode cX11_puts 0 = .ok (.aload_n 1, 1) := by decide +kernel
theorem dX11_puts_1 : decode cX11_puts 1 = .ok (.iload_n 2, 1) := by decide +kernel
theorem dX11_puts_2 : decode cX11_puts 2 = .ok (.aload_n 0, 1) := by decide +kernel
theorem dX11_puts_3 : decode cX11_puts 3 = .ok (.getfield 101, 3) := by decide +kernel
theorem dX11_puts_6 : decode cX11_puts 6 = .ok (.iastore, 1) := by decide +kernel
theorem dX11_puts_7 : decode cX11_puts 7 = .ok (.iconst 0, 1) := by decide +kernel
theorem dX11_puts_8 : decode cX11_puts 8 = .ok (.istore_n 3, 1) := by decide +kernel
theorem dX11_puts_9 : decode cX11_puts 9 = .ok (.iload_n 3, 1) := by decide +kernel
theorem dX11_puts_10 : decode cX11_puts 10 = .ok (.bipush 7, 2) := by decide +kernel
theorem dX11_puts_12 : decode cX11_puts 12 = .ok (.if_icmp .ge 34, 3) := by decide +kernel
theorem dX11_puts_15 : decode cX11_puts 15 = .ok (.aload_n 1, 1) := by decide +kernel
theorem dX11_puts_16 : decode cX11_puts 16 = .ok (.iload_n 2, 1) := by decide +kernel
theorem dX11_puts_17 : decode cX11_puts 17 = .ok (.iconst 1, 1) := by decide +kernel
theorem dX11_puts_18 : decode cX11_puts 18 = .ok (.iadd, 1) := by decide +kernel
theorem dX11_puts_19 : decode cX11_puts 19 = .ok (.iload_n 3, 1) := by decide +kernel
theorem dX11_puts_20 : decode cX11_puts 20 = .ok (.iadd, 1) := by decide +kernel
theorem dX11_puts_21 : decode cX11_puts 21 = .ok (.iload_n 3, 1) := by decide +kernel
theorem dX11_puts_22 : decode cX11_puts 22 = .ok (.aload_n 0, 1) := by decide +kernel
theorem dX11_puts_23 : decode cX11_puts 23 = .ok (.getfield 101, 3) := by decide +kernel
theorem dX11_puts_26 : decode cX11_puts 26 = .ok (.if_icmp .ge 12, 3) := by decide +kernel
theorem dX11_puts_29 : decode cX11_puts 29 = .ok (.aload_n 0, 1) := by decide +kernel
theorem dX11_puts_30 : decode cX11_puts 30 = .ok (.getfield 7, 3) := by decide +kernel
theorem dX11_puts_33 : decode cX11_puts 33 = .ok (.iload_n 3, 1) := by decide +kernel
theorem dX11_puts_34 : decode cX11_puts 34 = .ok (.iaload, 1) := by decide +kernel
theorem dX11_puts_35 : decode cX11_puts 35 = .ok (.goto 4, 3) := by decide +kernel
theorem dX11_puts_38 : decode cX11_puts 38 = .ok (.iconst 0, 1) := by decide +kernel
theorem dX11_puts_39 : decode cX11_puts 39 = .ok (.iastore, 1) := by decide +kernel
theorem dX11_puts_40 : decode cX11_puts 40 = .ok (.iinc 3 1, 3) := by decide +kernel
theorem dX11_puts_43 : decode cX11_puts 43 = .ok (.goto (-34), 3) := by decide +kernel
theorem dX11_puts_46 : decode cX11_puts 46 = .ok (.return_, 1) := by decide +kernel
def fp_X11_puts_L9 (v0 : Nat) (v1 : Nat) (v2 : Int32) : Nat → Int32 → zM → Option (zM)
  | 0, _, _ => none
  | n + 1, v3, M =>
    if v3 ≥ 7 then (
      some M)
    else (
      (zgI 9 M v0 0).bind fun (y3 : Int32) =>
      zjn (fun (s4 : Int32) (s5 : Int32) (s6 : Nat) =>
          (ztI M s6 s5 s4).bind fun (M7 : zM) =>
          fp_X11_puts_L9 v0 v1 v2 n (v3 + 1) M7)
        (fun j39 =>
          if v3 ≥ y3 then (
            j39 0 ((v2 + 1) + v3) v1)
          else (
            (zgR 9 M v0 2).bind fun (y8 : Nat) =>
            (zlI 100 M y8 v3).bind fun (y9 : Int32) =>
            j39 y9 ((v2 + 1) + v3) v1)))
def fp_X11_puts (v0 : Nat) (v1 : Nat) (v2 : Int32) (M : zM) : Option (zM) :=
  zthis 9 M v0 (
    (zgI 9 M v0 0).bind fun (y1 : Int32) =>
    (ztI M v1 v2 y1).bind fun (M2 : zM) =>
    fp_X11_puts_L9 v0 v1 v2 FU 0 M2)
set_option maxHeartbeats 4000000 in
set_option maxRecDepth 100000 in
theorem th_X11_puts {v0 : Nat} {v1 : Nat} {v2 : Int32} {M : zM} {x0 : zM} (h : fp_X11_puts v0 v1 v2 M = some x0) : v0 < zS M ∧ kd v0 = 9 := by
  unfold fp_X11_puts at h
  exact zthis_of h
set_option maxHeartbeats 4000000 in
set_option maxRecDepth 100000 in
theorem w_X11_puts_L9 (E : zEnv) (hE : zEok E) (d : Nat) (hd : 1 ≤ d) (M0 : zM) (x0 : zM) (v0 : Nat) (v1 : Nat) (v2 : Int32)  : ∀ (n : Nat) (v3 : Int32) (M : zM), zSy E mu_X11_puts d M0 (none, x0) x0 (fp_X11_puts_L9 v0 v1 v2 n v3 M) 9 [(0, .ref (E.2.2.2.1 + v0)), (1, .ref (E.2.2.2.1 + v1)), (2, .int v2), (3, .int v3)] [] M := by
  intro n
  induction n with
  | zero =>
    intro v3 M
    rw [fp_X11_puts_L9]
    exact zs_none
  | succ n ih =>
    intro v3 M
    rw [fp_X11_puts_L9]
    refine zs_iload_n dX11_puts_9 rfl 3 rfl ?_
    refine zs_bipush (v := 7) dX11_puts_10 cbipush_7 ?_
    refine zs_icmp_ge dX11_puts_12 rfl ?_ ?_
    · exact zs_vret dX11_puts_46 trivial
    refine zs_aload_n dX11_puts_15 rfl 1 rfl ?_
    refine zs_iload_n dX11_puts_16 rfl 2 rfl ?_
    refine zs_iconst (v := 1) dX11_puts_17 ciconst_1 ?_
    refine zs_iadd dX11_puts_18 ?_
    refine zs_iload_n dX11_puts_19 rfl 3 rfl ?_
    refine zs_iadd dX11_puts_20 ?_
    refine zs_iload_n dX11_puts_21 rfl 3 rfl ?_
    refine zs_aload_n dX11_puts_22 rfl 0 rfl ?_
    refine zs_getI dX11_puts_23 fl_X11_101 rfl (fun y3 => ?_)
    refine zs_jn (fun j39 => ∀ (s4 : Int32) (s5 : Int32) (s6 : Nat), zSy E mu_X11_puts d M0 (none, x0) x0 (j39 s4 s5 s6) 39 [(0, .ref (E.2.2.2.1 + v0)), (1, .ref (E.2.2.2.1 + v1)), (2, .int v2), (3, .int v3)] [.int s4, .int s5, .ref (E.2.2.2.1 + s6)] M) (fun s4 s5 s6 => ?_) (fun j39 hj39 => ?_)
    · refine zs_stI dX11_puts_39 (fun M7 => ?_)
      refine zs_iinc (v := (v3 + 1)) (loc' := [(0, .ref (E.2.2.2.1 + v0)), (1, .ref (E.2.2.2.1 + v1)), (2, .int v2), (3, .int (v3 + 1))]) dX11_puts_40 3 rfl (by rfl) (Nat.le_of_ble_eq_true rfl) [1, 2, 3, 0] rfl ?_
      refine zs_goto dX11_puts_43 rfl ?_
      exact ih (v3 + 1) M7
    refine zs_icmp_ge dX11_puts_26 rfl ?_ ?_
    · refine zs_iconst (v := 0) dX11_puts_38 ciconst_0 ?_
      exact hj39 0 ((v2 + 1) + v3) v1
    refine zs_aload_n dX11_puts_29 rfl 0 rfl ?_
    refine zs_getR dX11_puts_30 fl_X11_7 rfl (fun y8 => ?_)
    refine zs_iload_n dX11_puts_33 rfl 3 rfl ?_
    refine zs_ldI dX11_puts_34 (fun y9 => ?_)
    refine zs_goto dX11_puts_35 rfl ?_
    exact hj39 y9 ((v2 + 1) + v3) v1
set_option maxHeartbeats 4000000 in
set_option maxRecDepth 100000 in
theorem ct_X11_puts (E : zEnv) (hE : zEok E) (d : Nat) (hd : 1 ≤ d) (v0 : Nat) (v1 : Nat) (v2 : Int32) (M : zM) (x0 : zM) (hx : fp_X11_puts v0 v1 v2 M = some x0) : zCt E mu_X11_puts d [.ref (E.2.2.2.1 + v0), .ref (E.2.2.2.1 + v1), .int v2] M (none, x0) := by
  refine zCt_of (μ := mu_X11_puts) (t := fp_X11_puts v0 v1 v2 M) rfl rfl (Nat.le_of_ble_eq_true rfl) hx ?_
  change zSy E mu_X11_puts d M (none, x0) x0 (fp_X11_puts v0 v1 v2 M) 0 [(0, .ref (E.2.2.2.1 + v0)), (1, .ref (E.2.2.2.1 + v1)), (2, .int v2)] [] M
  unfold fp_X11_puts
  refine zs_this (fun hth => ?_)
  refine zs_aload_n dX11_puts_0 rfl 1 rfl ?_
  refine zs_iload_n dX11_puts_1 rfl 2 rfl ?_
  refine zs_aload_n dX11_puts_2 rfl 0 rfl ?_
  refine zs_getI dX11_puts_3 fl_X11_101 rfl (fun y1 => ?_)
  refine zs_stI dX11_puts_6 (fun M2 => ?_)
  refine zs_iconst (v := 0) dX11_puts_7 ciconst_0 ?_
  refine zs_istore_n (loc' := [(0, .ref (E.2.2.2.1 + v0)), (1, .ref (E.2.2.2.1 + v1)), (2, .int v2), (3, .int 0)]) dX11_puts_8 rfl (Nat.le_of_ble_eq_true rfl) [1, 2, 3, 0] rfl ?_
  exact w_X11_puts_L9 E hE d hd _ _ _ _ _ _ _ _
theorem dX11_brings_0 : decode cX11_brings 0 = .ok (.aload_n 0, 1) := by decide +kernel
theorem dX11_brings_1 : decode cX11_brings 1 = .ok (.aload_n 1, 1) := by decide +kernel
theorem dX11_brings_2 : decode cX11_brings 2 = .ok (.iload_n 2, 1) := by decide +kernel
theorem dX11_brings_3 : decode cX11_brings 3 = .ok (.iaload, 1) := by decide +kernel
theorem dX11_brings_4 : decode cX11_brings 4 = .ok (.putfield 101, 3) := by decide +kernel
theorem dX11_brings_7 : decode cX11_brings 7 = .ok (.iconst 0, 1) := by decide +kernel
theorem dX11_brings_8 : decode cX11_brings 8 = .ok (.istore_n 3, 1) := by decide +kernel
theorem dX11_brings_9 : decode cX11_brings 9 = .ok (.iload_n 3, 1) := by decide +kernel
theorem dX11_brings_10 : decode cX11_brings 10 = .ok (.bipush 7, 2) := by decide +kernel
theorem dX11_brings_12 : decode cX11_brings 12 = .ok (.if_icmp .ge 22, 3) := by decide +kernel
theorem dX11_brings_15 : decode cX11_brings 15 = .ok (.aload_n 0, 1) := by decide +kernel
theorem dX11_brings_16 : decode cX11_brings 16 = .ok (.getfield 7, 3) := by decide +kernel
theorem dX11_brings_19 : decode cX11_brings 19 = .ok (.iload_n 3, 1) := by decide +kernel
theorem dX11_brings_20 : decode cX11_brings 20 = .ok (.aload_n 1, 1) := by decide +kernel
theorem dX11_brings_21 : decode cX11_brings 21 = .ok (.iload_n 2, 1) := by decide +kernel
theorem dX11_brings_22 : decode cX11_brings 22 = .ok (.iconst 1, 1) := by decide +kernel
theorem dX11_brings_23 : decode cX11_brings 23 = .ok (.iadd, 1) := by decide +kernel
theorem dX11_brings_24 : decode cX11_brings 24 = .ok (.iload_n 3, 1) := by decide +kernel
theorem dX11_brings_25 : decode cX11_brings 25 = .ok (.iadd, 1) := by decide +kernel
theorem dX11_brings_26 : decode cX11_brings 26 = .ok (.iaload, 1) := by decide +kernel
theorem dX11_brings_27 : decode cX11_brings 27 = .ok (.iastore, 1) := by decide +kernel
theorem dX11_brings_28 : decode cX11_brings 28 = .ok (.iinc 3 1, 3) := by decide +kernel
theorem dX11_brings_31 : decode cX11_brings 31 = .ok (.goto (-22), 3) := by decide +kernel
theorem dX11_brings_34 : decode cX11_brings 34 = .ok (.return_, 1) := by decide +kernel
def fp_X11_brings_L9 (v0 : Nat) (v1 : Nat) (v2 : Int32) : Nat → Int32 → zM → Option (zM)
  | 0, _, _ => none
  | n + 1, v3, M =>
    if v3 ≥ 7 then (
      some M)
    else (
      (zgR 9 M v0 2).bind fun (y3 : Nat) =>
      (zlI 100 M v1 ((v2 + 1) + v3)).bind fun (y4 : Int32) =>
      (ztI M y3 v3 y4).bind fun (M5 : zM) =>
      fp_X11_brings_L9 v0 v1 v2 n (v3 + 1) M5)
def fp_X11_brings (v0 : Nat) (v1 : Nat) (v2 : Int32) (M : zM) : Option (zM) :=
  zthis 9 M v0 (
    (zlI 100 M v1 v2).bind fun (y1 : Int32) =>
    (zpI 9 M v0 0 y1).bind fun (M2 : zM) =>
    fp_X11_brings_L9 v0 v1 v2 FU 0 M2)
set_option maxHeartbeats 4000000 in
set_option maxRecDepth 100000 in
theorem th_X11_brings {v0 : Nat} {v1 : Nat} {v2 : Int32} {M : zM} {x0 : zM} (h : fp_X11_brings v0 v1 v2 M = some x0) : v0 < zS M ∧ kd v0 = 9 := by
  unfold fp_X11_brings at h
  exact zthis_of h
set_option maxHeartbeats 4000000 in
set_option maxRecDepth 100000 in
theorem w_X11_brings_L9 (E : zEnv) (hE : zEok E) (d : Nat) (hd : 1 ≤ d) (M0 : zM) (x0 : zM) (v0 : Nat) (v1 : Nat) (v2 : Int32)  : ∀ (n : Nat) (v3 : Int32) (M : zM), zSy E mu_X11_brings d M0 (none, x0) x0 (fp_X11_brings_L9 v0 v1 v2 n v3 M) 9 [(0, .ref (E.2.2.2.1 + v0)), (1, .ref (E.2.2.2.1 + v1)), (2, .int v2), (3, .int v3)] [] M := by
  intro n
  induction n with
  | zero =>
    intro v3 M
    rw [fp_X11_brings_L9]
    exact zs_none
  | succ n ih =>
    intro v3 M
    rw [fp_X11_brings_L9]
    refine zs_iload_n dX11_brings_9 rfl 3 rfl ?_
    refine zs_bipush (v := 7) dX11_brings_10 cbipush_7 ?_
    refine zs_icmp_ge dX11_brings_12 rfl ?_ ?_
    · exact zs_vret dX11_brings_34 trivial
    refine zs_aload_n dX11_brings_15 rfl 0 rfl ?_
    refine zs_getR dX11_brings_16 fl_X11_7 rfl (fun y3 => ?_)
    refine zs_iload_n dX11_brings_19 rfl 3 rfl ?_
    refine zs_aload_n dX11_brings_20 rfl 1 rfl ?_
    refine zs_iload_n dX11_brings_21 rfl 2 rfl ?_
    refine zs_iconst (v := 1) dX11_brings_22 ciconst_1 ?_
    refine zs_iadd dX11_brings_23 ?_
    refine zs_iload_n dX11_brings_24 rfl 3 rfl ?_
    refine zs_iadd dX11_brings_25 ?_
    refine zs_ldI dX11_brings_26 (fun y4 => ?_)
    refine zs_stI dX11_brings_27 (fun M5 => ?_)
    refine zs_iinc (v := (v3 + 1)) (loc' := [(0, .ref (E.2.2.2.1 + v0)), (1, .ref (E.2.2.2.1 + v1)), (2, .int v2), (3, .int (v3 + 1))]) dX11_brings_28 3 rfl (by rfl) (Nat.le_of_ble_eq_true rfl) [1, 2, 3, 0] rfl ?_
    refine zs_goto dX11_brings_31 rfl ?_
    exact ih (v3 + 1) M5
set_option maxHeartbeats 4000000 in
set_option maxRecDepth 100000 in
theorem ct_X11_brings (E : zEnv) (hE : zEok E) (d : Nat) (hd : 1 ≤ d) (v0 : Nat) (v1 : Nat) (v2 : Int32) (M : zM) (x0 : zM) (hx : fp_X11_brings v0 v1 v2 M = some x0) : zCt E mu_X11_brings d [.ref (E.2.2.2.1 + v0), .ref (E.2.2.2.1 + v1), .int v2] M (none, x0) := by
  refine zCt_of (μ := mu_X11_brings) (t := fp_X11_brings v0 v1 v2 M) rfl rfl (Nat.le_of_ble_eq_true rfl) hx ?_
  change zSy E mu_X11_brings d M (none, x0) x0 (fp_X11_brings v0 v1 v2 M) 0 [(0, .ref (E.2.2.2.1 + v0)), (1, .ref (E.2.2.2.1 + v1)), (2, .int v2)] [] M
  unfold fp_X11_brings
  refine zs_this (fun hth => ?_)
  refine zs_aload_n dX11_brings_0 rfl 0 rfl ?_
  refine zs_aload_n dX11_brings_1 rfl 1 rfl ?_
  refine zs_iload_n dX11_brings_2 rfl 2 rfl ?_
  refine zs_ldI dX11_brings_3 (fun y1 => ?_)
  refine zs_putI dX11_brings_4 fl_X11_101 ft_X11 rfl rfl rfl rfl rfl (fun M2 => ?_)
  refine zs_iconst (v := 0) dX11_brings_7 ciconst_0 ?_
  refine zs_istore_n (loc' := [(0, .ref (E.2.2.2.1 + v0)), (1, .ref (E.2.2.2.1 + v1)), (2, .int v2), (3, .int 0)]) dX11_brings_8 rfl (Nat.le_of_ble_eq_true rfl) [1, 2, 3, 0] rfl ?_
  exact w_X11_brings_L9 E hE d hd _ _ _ _ _ _ _ _
theorem dX11_acted_0 : decode cX11_acted 0 = .ok (.aload_n 0, 1) := by decide +kernel
theorem dX11_acted_1 : decode cX11_acted 1 = .ok (.getfield 245, 3) := by decide +kernel
theorem dX11_acted_4 : decode cX11_acted 4 = .ok (.bipush 12, 2) := by decide +kernel
theorem dX11_acted_6 : decode cX11_acted 6 = .ok (.if_icmp .ne 43, 3) := by decide +kernel
theorem dX11_acted_9 : decode cX11_acted 9 = .ok (.bipush 8, 2) := by decide +kernel
theorem dX11_acted_11 : decode cX11_acted 11 = .ok (.istore_n 1, 1) := by decide +kernel
theorem dX11_acted_12 : decode cX11_acted 12 = .ok (.iload_n 1, 1) := by decide +kernel
theorem dX11_acted_13 : decode cX11_acted 13 = .ok (.bipush 96, 2) := by decide +kernel
theorem dX11_acted_15 : decode cX11_acted 15 = .ok (.if_icmp .ge 24, 3) := by decide +kernel
theorem dX11_acted_18 : decode cX11_acted 18 = .ok (.aload_n 0, 1) := by decide +kernel
theorem dX11_acted_19 : decode cX11_acted 19 = .ok (.getfield 36, 3) := by decide +kernel
theorem dX11_acted_22 : decode cX11_acted 22 = .ok (.iload_n 1, 1) := by decide +kernel
theorem dX11_acted_23 : decode cX11_acted 23 = .ok (.bipush 8, 2) := by decide +kernel
theorem dX11_acted_25 : decode cX11_acted 25 = .ok (.isub, 1) := by decide +kernel
theorem dX11_acted_26 : decode cX11_acted 26 = .ok (.aload_n 0, 1) := by decide +kernel
theorem dX11_acted_27 : decode cX11_acted 27 = .ok (.getfield 36, 3) := by decide +kernel
theorem dX11_acted_30 : decode cX11_acted 30 = .ok (.iload_n 1, 1) := by decide +kernel
theorem dX11_acted_31 : decode cX11_acted 31 = .ok (.iaload, 1) := by decide +kernel
theorem dX11_acted_32 : decode cX11_acted 32 = .ok (.iastore, 1) := by decide +kernel
theorem dX11_acted_33 : decode cX11_acted 33 = .ok (.iinc 1 1, 3) := by decide +kernel
theorem dX11_acted_36 : decode cX11_acted 36 = .ok (.goto (-24), 3) := by decide +kernel
theorem dX11_acted_39 : decode cX11_acted 39 = .ok (.aload_n 0, 1) := by decide +kernel
theorem dX11_acted_40 : decode cX11_acted 40 = .ok (.dup, 1) := by decide +kernel
theorem dX11_acted_41 : decode cX11_acted 41 = .ok (.getfield 245, 3) := by decide +kernel
theorem dX11_acted_44 : decode cX11_acted 44 = .ok (.iconst 1, 1) := by decide +kernel
theorem dX11_acted_45 : decode cX11_acted 45 = .ok (.isub, 1) := by decide +kernel
theorem dX11_acted_46 : decode cX11_acted 46 = .ok (.putfield 245, 3) := by decide +kernel
theorem dX11_acted_49 : decode cX11_acted 49 = .ok (.iconst 0, 1) := by decide +kernel
theorem dX11_acted_50 : decode cX11_acted 50 = .ok (.istore_n 1, 1) := by decide +kernel
theorem dX11_acted_51 : decode cX11_acted 51 = .ok (.iload_n 1, 1) := by decide +kernel
theorem dX11_acted_52 : decode cX11_acted 52 = .ok (.bipush 8, 2) := by decide +kernel
theorem dX11_acted_54 : decode cX11_acted 54 = .ok (.if_icmp .ge 29, 3) := by decide +kernel
theorem dX11_acted_57 : decode cX11_acted 57 = .ok (.aload_n 0, 1) := by decide +kernel
theorem dX11_acted_58 : decode cX11_acted 58 = .ok (.getfield 36, 3) := by decide +kernel
theorem dX11_acted_61 : decode cX11_acted 61 = .ok (.bipush 8, 2) := by decide +kernel
theorem dX11_acted_63 : decode cX11_acted 63 = .ok (.aload_n 0, 1) := by decide +kernel
theorem dX11_acted_64 : decode cX11_acted 64 = .ok (.getfield 245, 3) := by decide +kernel
theorem dX11_acted_67 : decode cX11_acted 67 = .ok (.imul, 1) := by decide +kernel
theorem dX11_acted_68 : decode cX11_acted 68 = .ok (.iload_n 1, 1) := by decide +kernel
theorem dX11_acted_69 : decode cX11_acted 69 = .ok (.iadd, 1) := by decide +kernel
theorem dX11_acted_70 : decode cX11_acted 70 = .ok (.aload_n 0, 1) := by decide +kernel
theorem dX11_acted_71 : decode cX11_acted 71 = .ok (.getfield 39, 3) := by decide +kernel
theorem dX11_acted_74 : decode cX11_acted 74 = .ok (.iload_n 1, 1) := by decide +kernel
theorem dX11_acted_75 : decode cX11_acted 75 = .ok (.iaload, 1) := by decide +kernel
theorem dX11_acted_76 : decode cX11_acted 76 = .ok (.iastore, 1) := by decide +kernel
theorem dX11_acted_77 : decode cX11_acted 77 = .ok (.iinc 1 1, 3) := by decide +kernel
theorem dX11_acted_80 : decode cX11_acted 80 = .ok (.goto (-29), 3) := by decide +kernel
theorem dX11_acted_83 : decode cX11_acted 83 = .ok (.aload_n 0, 1) := by decide +kernel
theorem dX11_acted_84 : decode cX11_acted 84 = .ok (.dup, 1) := by decide +kernel
theorem dX11_acted_85 : decode cX11_acted 85 = .ok (.getfield 245, 3) := by decide +kernel
theorem dX11_acted_88 : decode cX11_acted 88 = .ok (.iconst 1, 1) := by decide +kernel
theorem dX11_acted_89 : decode cX11_acted 89 = .ok (.iadd, 1) := by decide +kernel
theorem dX11_acted_90 : decode cX11_acted 90 = .ok (.putfield 245, 3) := by decide +kernel
theorem dX11_acted_93 : decode cX11_acted 93 = .ok (.return_, 1) := by decide +kernel
def fp_X11_acted_L51 (k83 : zM → Option (zM)) (v0 : Nat) : Nat → Int32 → zM → Option (zM)
  | 0, _, _ => none
  | n + 1, v1, M =>
    if v1 ≥ 8 then (
      k83 M)
    else (
      (zgR 9 M v0 16).bind fun (y3 : Nat) =>
      (zgI 9 M v0 20).bind fun (y4 : Int32) =>
      (zgR 9 M v0 17).bind fun (y5 : Nat) =>
      (zlI 100 M y5 v1).bind fun (y6 : Int32) =>
      (ztI M y3 ((8 * y4) + v1) y6).bind fun (M7 : zM) =>
      fp_X11_acted_L51 k83 v0 n (v1 + 1) M7)
def fp_X11_acted_L12 (k39 : zM → Option (zM)) (v0 : Nat) : Nat → Int32 → zM → Option (zM)
  | 0, _, _ => none
  | n + 1, v1, M =>
    if v1 ≥ 96 then (
      k39 M)
    else (
      (zgR 9 M v0 16).bind fun (y11 : Nat) =>
      (zgR 9 M v0 16).bind fun (y12 : Nat) =>
      (zlI 100 M y12 v1).bind fun (y13 : Int32) =>
      (ztI M y11 (v1 - 8) y13).bind fun (M14 : zM) =>
      fp_X11_acted_L12 k39 v0 n (v1 + 1) M14)
def fp_X11_acted (v0 : Nat) (M : zM) : Option (zM) :=
  zthis 9 M v0 (
    (zgI 9 M v0 20).bind fun (y1 : Int32) =>
    zjn (fun (M2 : zM) =>
        fp_X11_acted_L51
          (fun M8 =>
            (zgI 9 M8 v0 20).bind fun (y9 : Int32) =>
            (zpI 9 M8 v0 20 (y9 + 1)).bind fun (M10 : zM) =>
            some M10) v0 FU 0 M2)
      (fun j49 =>
        if y1 ≠ 12 then (
          j49 M)
        else (
          fp_X11_acted_L12
            (fun M15 =>
              (zgI 9 M15 v0 20).bind fun (y16 : Int32) =>
              (zpI 9 M15 v0 20 (y16 - 1)).bind fun (M17 : zM) =>
              j49 M17) v0 FU 8 M)))
set_option maxHeartbeats 4000000 in
set_option maxRecDepth 100000 in
theorem th_X11_acted {v0 : Nat} {M : zM} {x0 : zM} (h : fp_X11_acted v0 M = some x0) : v0 < zS M ∧ kd v0 = 9 := by
  unfold fp_X11_acted at h
  exact zthis_of h
set_option maxHeartbeats 4000000 in
set_option maxRecDepth 100000 in
theorem w_X11_acted_L51 (E : zEnv) (hE : zEok E) (d : Nat) (hd : 1 ≤ d) (M0 : zM) (x0 : zM) (v0 : Nat) (k83 : zM → Option (zM)) (hk83 : ∀ (M : zM), zSy E mu_X11_acted d M0 (none, x0) x0 (k83 M) 83 [(0, .ref (E.2.2.2.1 + v0))] [] M) : ∀ (n : Nat) (v1 : Int32) (M : zM), zSy E mu_X11_acted d M0 (none, x0) x0 (fp_X11_acted_L51 k83 v0 n v1 M) 51 [(0, .ref (E.2.2.2.1 + v0)), (1, .int v1)] [] M := by
  intro n
  induction n with
  | zero =>
    intro v1 M
    rw [fp_X11_acted_L51]
    exact zs_none
  | succ n ih =>
    intro v1 M
    rw [fp_X11_acted_L51]
    refine zs_iload_n dX11_acted_51 rfl 1 rfl ?_
    refine zs_bipush (v := 8) dX11_acted_52 cbipush_8 ?_
    refine zs_icmp_ge dX11_acted_54 rfl ?_ ?_
    · refine zs_sub (loc' := [(0, .ref (E.2.2.2.1 + v0))]) [0] rfl ?_
      exact hk83 M
    refine zs_aload_n dX11_acted_57 rfl 0 rfl ?_
    refine zs_getR dX11_acted_58 fl_X11_36 rfl (fun y3 => ?_)
    refine zs_bipush (v := 8) dX11_acted_61 cbipush_8 ?_
    refine zs_aload_n dX11_acted_63 rfl 0 rfl ?_
    refine zs_getI dX11_acted_64 fl_X11_245 rfl (fun y4 => ?_)
    refine zs_imul dX11_acted_67 ?_
    refine zs_iload_n dX11_acted_68 rfl 1 rfl ?_
    refine zs_iadd dX11_acted_69 ?_
    refine zs_aload_n dX11_acted_70 rfl 0 rfl ?_
    refine zs_getR dX11_acted_71 fl_X11_39 rfl (fun y5 => ?_)
    refine zs_iload_n dX11_acted_74 rfl 1 rfl ?_
    refine zs_ldI dX11_acted_75 (fun y6 => ?_)
    refine zs_stI dX11_acted_76 (fun M7 => ?_)
    refine zs_iinc (v := (v1 + 1)) (loc' := [(0, .ref (E.2.2.2.1 + v0)), (1, .int (v1 + 1))]) dX11_acted_77 1 rfl (by rfl) (Nat.le_of_ble_eq_true rfl) [1, 0] rfl ?_
    refine zs_goto dX11_acted_80 rfl ?_
    exact ih (v1 + 1) M7
set_option maxHeartbeats 4000000 in
set_option maxRecDepth 100000 in
theorem w_X11_acted_L12 (E : zEnv) (hE : zEok E) (d : Nat) (hd : 1 ≤ d) (M0 : zM) (x0 : zM) (v0 : Nat) (k39 : zM → Option (zM)) (hk39 : ∀ (M : zM), zSy E mu_X11_acted d M0 (none, x0) x0 (k39 M) 39 [(0, .ref (E.2.2.2.1 + v0))] [] M) : ∀ (n : Nat) (v1 : Int32) (M : zM), zSy E mu_X11_acted d M0 (none, x0) x0 (fp_X11_acted_L12 k39 v0 n v1 M) 12 [(0, .ref (E.2.2.2.1 + v0)), (1, .int v1)] [] M := by
  intro n
  induction n with
  | zero =>
    intro v1 M
    rw [fp_X11_acted_L12]
    exact zs_none
  | succ n ih =>
    intro v1 M
    rw [fp_X11_acted_L12]
    refine zs_iload_n dX11_acted_12 rfl 1 rfl ?_
    refine zs_bipush (v := 96) dX11_acted_13 cbipush_96 ?_
    refine zs_icmp_ge dX11_acted_15 rfl ?_ ?_
    · refine zs_sub (loc' := [(0, .ref (E.2.2.2.1 + v0))]) [0] rfl ?_
      exact hk39 M
    refine zs_aload_n dX11_acted_18 rfl 0 rfl ?_
    refine zs_getR dX11_acted_19 fl_X11_36 rfl (fun y11 => ?_)
    refine zs_iload_n dX11_acted_22 rfl 1 rfl ?_
    refine zs_bipush (v := 8) dX11_acted_23 cbipush_8 ?_
    refine zs_isub dX11_acted_25 ?_
    refine zs_aload_n dX11_acted_26 rfl 0 rfl ?_
    refine zs_getR dX11_acted_27 fl_X11_36 rfl (fun y12 => ?_)
    refine zs_iload_n dX11_acted_30 rfl 1 rfl ?_
    refine zs_ldI dX11_acted_31 (fun y13 => ?_)
    refine zs_stI dX11_acted_32 (fun M14 => ?_)
    refine zs_iinc (v := (v1 + 1)) (loc' := [(0, .ref (E.2.2.2.1 + v0)), (1, .int (v1 + 1))]) dX11_acted_33 1 rfl (by rfl) (Nat.le_of_ble_eq_true rfl) [1, 0] rfl ?_
    refine zs_goto dX11_acted_36 rfl ?_
    exact ih (v1 + 1) M14
set_option maxHeartbeats 4000000 in
set_option maxRecDepth 100000 in
theorem ct_X11_acted (E : zEnv) (hE : zEok E) (d : Nat) (hd : 1 ≤ d) (v0 : Nat) (M : zM) (x0 : zM) (hx : fp_X11_acted v0 M = some x0) : zCt E mu_X11_acted d [.ref (E.2.2.2.1 + v0)] M (none, x0) := by
  refine zCt_of (μ := mu_X11_acted) (t := fp_X11_acted v0 M) rfl rfl (Nat.le_of_ble_eq_true rfl) hx ?_
  change zSy E mu_X11_acted d M (none, x0) x0 (fp_X11_acted v0 M) 0 [(0, .ref (E.2.2.2.1 + v0))] [] M
  unfold fp_X11_acted
  refine zs_this (fun hth => ?_)
  refine zs_aload_n dX11_acted_0 rfl 0 rfl ?_
  refine zs_getI dX11_acted_1 fl_X11_245 rfl (fun y1 => ?_)
  refine zs_bipush (v := 12) dX11_acted_4 cbipush_12 ?_
  refine zs_jn (fun j49 => ∀ (M2 : zM), zSy E mu_X11_acted d M (none, x0) x0 (j49 M2) 49 [(0, .ref (E.2.2.2.1 + v0))] [] M2) (fun M2 => ?_) (fun j49 hj49 => ?_)
  · refine zs_iconst (v := 0) dX11_acted_49 ciconst_0 ?_
    refine zs_istore_n (loc' := [(0, .ref (E.2.2.2.1 + v0)), (1, .int 0)]) dX11_acted_50 rfl (Nat.le_of_ble_eq_true rfl) [1, 0] rfl ?_
    refine w_X11_acted_L51 E hE d hd _ _ _ _ (fun M8 => ?_) _ _ _
    refine zs_aload_n dX11_acted_83 rfl 0 rfl ?_
    refine zs_dup dX11_acted_84 rfl ?_
    refine zs_getI dX11_acted_85 fl_X11_245 rfl (fun y9 => ?_)
    refine zs_iconst (v := 1) dX11_acted_88 ciconst_1 ?_
    refine zs_iadd dX11_acted_89 ?_
    refine zs_putI dX11_acted_90 fl_X11_245 ft_X11 rfl rfl rfl rfl rfl (fun M10 => ?_)
    exact zs_vret dX11_acted_93 trivial
  refine zs_icmp_ne dX11_acted_6 rfl ?_ ?_
  · exact hj49 M
  refine zs_bipush (v := 8) dX11_acted_9 cbipush_8 ?_
  refine zs_istore_n (loc' := [(0, .ref (E.2.2.2.1 + v0)), (1, .int 8)]) dX11_acted_11 rfl (Nat.le_of_ble_eq_true rfl) [1, 0] rfl ?_
  refine w_X11_acted_L12 E hE d hd _ _ _ _ (fun M15 => ?_) _ _ _
  refine zs_aload_n dX11_acted_39 rfl 0 rfl ?_
  refine zs_dup dX11_acted_40 rfl ?_
  refine zs_getI dX11_acted_41 fl_X11_245 rfl (fun y16 => ?_)
  refine zs_iconst (v := 1) dX11_acted_44 ciconst_1 ?_
  refine zs_isub dX11_acted_45 ?_
  refine zs_putI dX11_acted_46 fl_X11_245 ft_X11 rfl rfl rfl rfl rfl (fun M17 => ?_)
  exact hj49 M17
theorem dX11_load_0 : decode cX11_load 0 = .ok (.iload_n 1, 1) := by decide +kernel
theorem dX11_load_1 : decode cX11_load 1 = .ok (.iconst 0, 1) := by decide +kernel
theorem dX11_load_2 : decode cX11_load 2 = .ok (.aload_n 0, 1) := by decide +kernel
theorem dX11_load_3 : decode cX11_load 3 = .ok (.getfield 135, 3) := by decide +kernel
theorem dX11_load_6 : decode cX11_load 6 = .ok (.invokestatic 195, 3) := by decide +kernel
theorem dX11_load_9 : decode cX11_load 9 = .ok (.ifCond .ne 9, 3) := by decide +kernel
theorem dX11_load_12 : decode cX11_load 12 = .ok (.aload_n 0, 1) := by decide +kernel
theorem dX11_load_13 : decode cX11_load 13 = .ok (.iconst 1, 1) := by decide +kernel
theorem dX11_load_14 : decode cX11_load 14 = .ok (.invokevirtual 226, 3) := by decide +kernel
theorem dX11_load_17 : decode cX11_load 17 = .ok (.ireturn, 1) := by decide +kernel
theorem dX11_load_18 : decode cX11_load 18 = .ok (.aload_n 0, 1) := by decide +kernel
theorem dX11_load_19 : decode cX11_load 19 = .ok (.iload_n 1, 1) := by decide +kernel
theorem dX11_load_20 : decode cX11_load 20 = .ok (.putfield 141, 3) := by decide +kernel
theorem dX11_load_23 : decode cX11_load 23 = .ok (.iconst 0, 1) := by decide +kernel
theorem dX11_load_24 : decode cX11_load 24 = .ok (.istore_n 2, 1) := by decide +kernel
theorem dX11_load_25 : decode cX11_load 25 = .ok (.iload_n 2, 1) := by decide +kernel
theorem dX11_load_26 : decode cX11_load 26 = .ok (.iload_n 1, 1) := by decide +kernel
theorem dX11_load_27 : decode cX11_load 27 = .ok (.if_icmp .ge 21, 3) := by decide +kernel
theorem dX11_load_30 : decode cX11_load 30 = .ok (.aload_n 0, 1) := by decide +kernel
theorem dX11_load_31 : decode cX11_load 31 = .ok (.getfield 17, 3) := by decide +kernel
theorem dX11_load_34 : decode cX11_load 34 = .ok (.iload_n 2, 1) := by decide +kernel
theorem dX11_load_35 : decode cX11_load 35 = .ok (.aload_n 0, 1) := by decide +kernel
theorem dX11_load_36 : decode cX11_load 36 = .ok (.getfield 13, 3) := by decide +kernel
theorem dX11_load_39 : decode cX11_load 39 = .ok (.iload_n 2, 1) := by decide +kernel
theorem dX11_load_40 : decode cX11_load 40 = .ok (.baload, 1) := by decide +kernel
theorem dX11_load_41 : decode cX11_load 41 = .ok (.bastore, 1) := by decide +kernel
theorem dX11_load_42 : decode cX11_load 42 = .ok (.iinc 2 1, 3) := by decide +kernel
theorem dX11_load_45 : decode cX11_load 45 = .ok (.goto (-20), 3) := by decide +kernel
theorem dX11_load_48 : decode cX11_load 48 = .ok (.aload_n 0, 1) := by decide +kernel
theorem dX11_load_49 : decode cX11_load 49 = .ok (.iconst 0, 1) := by decide +kernel
theorem dX11_load_50 : decode cX11_load 50 = .ok (.putfield 135, 3) := by decide +kernel
theorem dX11_load_53 : decode cX11_load 53 = .ok (.aload_n 0, 1) := by decide +kernel
theorem dX11_load_54 : decode cX11_load 54 = .ok (.iconst 0, 1) := by decide +kernel
theorem dX11_load_55 : decode cX11_load 55 = .ok (.putfield 174, 3) := by decide +kernel
theorem dX11_load_58 : decode cX11_load 58 = .ok (.aload_n 0, 1) := by decide +kernel
theorem dX11_load_59 : decode cX11_load 59 = .ok (.iconst (-1), 1) := by decide +kernel
theorem dX11_load_60 : decode cX11_load 60 = .ok (.putfield 20, 3) := by decide +kernel
theorem dX11_load_63 : decode cX11_load 63 = .ok (.aload_n 0, 1) := by decide +kernel
theorem dX11_load_64 : decode cX11_load 64 = .ok (.iconst 0, 1) := by decide +kernel
theorem dX11_load_65 : decode cX11_load 65 = .ok (.putfield 144, 3) := by decide +kernel
theorem dX11_load_68 : decode cX11_load 68 = .ok (.aload_n 0, 1) := by decide +kernel
theorem dX11_load_69 : decode cX11_load 69 = .ok (.aload_n 0, 1) := by decide +kernel
theorem dX11_load_70 : decode cX11_load 70 = .ok (.getfield 39, 3) := by decide +kernel
theorem dX11_load_73 : decode cX11_load 73 = .ok (.iconst 0, 1) := by decide +kernel
theorem dX11_load_74 : decode cX11_load 74 = .ok (.invokevirtual 229, 3) := by decide +kernel
theorem dX11_load_77 : decode cX11_load 77 = .ok (.aload_n 0, 1) := by decide +kernel
theorem dX11_load_78 : decode cX11_load 78 = .ok (.iconst 0, 1) := by decide +kernel
theorem dX11_load_79 : decode cX11_load 79 = .ok (.putfield 101, 3) := by decide +kernel
theorem dX11_load_82 : decode cX11_load 82 = .ok (.aload_n 0, 1) := by decide +kernel
theorem dX11_load_83 : decode cX11_load 83 = .ok (.invokevirtual 180, 3) := by decide +kernel
theorem dX11_load_86 : decode cX11_load 86 = .ok (.iconst 1, 1) := by decide +kernel
theorem dX11_load_87 : decode cX11_load 87 = .ok (.istore_n 2, 1) := by decide +kernel
theorem dX11_load_88 : decode cX11_load 88 = .ok (.iload_n 2, 1) := by decide +kernel
theorem dX11_load_89 : decode cX11_load 89 = .ok (.ifCond .eq 18, 3) := by decide +kernel
theorem dX11_load_92 : decode cX11_load 92 = .ok (.aload_n 0, 1) := by decide +kernel
theorem dX11_load_93 : decode cX11_load 93 = .ok (.getfield 153, 3) := by decide +kernel
theorem dX11_load_96 : decode cX11_load 96 = .ok (.ifCond .eq 11, 3) := by decide +kernel
theorem dX11_load_99 : decode cX11_load 99 = .ok (.aload_n 0, 1) := by decide +kernel
theorem dX11_load_100 : decode cX11_load 100 = .ok (.invokevirtual 233, 3) := by decide +kernel
theorem dX11_load_103 : decode cX11_load 103 = .ok (.istore_n 2, 1) := by decide +kernel
theorem dX11_load_104 : decode cX11_load 104 = .ok (.goto (-16), 3) := by decide +kernel
theorem dX11_load_107 : decode cX11_load 107 = .ok (.aload_n 0, 1) := by decide +kernel
theorem dX11_load_108 : decode cX11_load 108 = .ok (.aload_n 0, 1) := by decide +kernel
theorem dX11_load_109 : decode cX11_load 109 = .ok (.getfield 174, 3) := by decide +kernel
theorem dX11_load_112 : decode cX11_load 112 = .ok (.putfield 24, 3) := by decide +kernel
theorem dX11_load_115 : decode cX11_load 115 = .ok (.aload_n 0, 1) := by decide +kernel
theorem dX11_load_116 : decode cX11_load 116 = .ok (.getfield 174, 3) := by decide +kernel
theorem dX11_load_119 : decode cX11_load 119 = .ok (.ifCond .le 19, 3) := by decide +kernel
theorem dX11_load_122 : decode cX11_load 122 = .ok (.aload_n 0, 1) := by decide +kernel
theorem dX11_load_123 : decode cX11_load 123 = .ok (.aload_n 0, 1) := by decide +kernel
theorem dX11_load_124 : decode cX11_load 124 = .ok (.getfield 39, 3) := by decide +kernel
theorem dX11_load_127 : decode cX11_load 127 = .ok (.iconst 0, 1) := by decide +kernel
theorem dX11_load_128 : decode cX11_load 128 = .ok (.invokevirtual 236, 3) := by decide +kernel
theorem dX11_load_131 : decode cX11_load 131 = .ok (.aload_n 0, 1) := by decide +kernel
theorem dX11_load_132 : decode cX11_load 132 = .ok (.bipush 9, 2) := by decide +kernel
theorem dX11_load_134 : decode cX11_load 134 = .ok (.invokevirtual 226, 3) := by decide +kernel
theorem dX11_load_137 : decode cX11_load 137 = .ok (.ireturn, 1) := by decide +kernel
theorem dX11_load_138 : decode cX11_load 138 = .ok (.aload_n 0, 1) := by decide +kernel
theorem dX11_load_139 : decode cX11_load 139 = .ok (.invokevirtual 239, 3) := by decide +kernel
theorem dX11_load_142 : decode cX11_load 142 = .ok (.aload_n 0, 1) := by decide +kernel
theorem dX11_load_143 : decode cX11_load 143 = .ok (.aload_n 0, 1) := by decide +kernel
theorem dX11_load_144 : decode cX11_load 144 = .ok (.getfield 101, 3) := by decide +kernel
theorem dX11_load_147 : decode cX11_load 147 = .ok (.invokevirtual 242, 3) := by decide +kernel
theorem dX11_load_150 : decode cX11_load 150 = .ok (.ireturn, 1) := by decide +kernel
def fp_X11_load_L25 (k48 : zM → Option (Int32 × zM)) (v0 : Nat) (v1 : Int32) : Nat → Int32 → zM → Option (Int32 × zM)
  | 0, _, _ => none
  | n + 1, v2, M =>
    if v2 ≥ v1 then (
      k48 M)
    else (
      (zgR 9 M v0 4).bind fun (y4 : Nat) =>
      (zgR 9 M v0 3).bind fun (y5 : Nat) =>
      (zlI 102 M y5 v2).bind fun (y6 : Int32) =>
      (ztB M y4 v2 y6).bind fun (M7 : zM) =>
      fp_X11_load_L25 k48 v0 v1 n (v2 + 1) M7)
def fp_X11_load_L88 (k107 : zM → Option (Int32 × zM)) (v0 : Nat) : Nat → Int32 → zM → Option (Int32 × zM)
  | 0, _, _ => none
  | n + 1, v2, M =>
    if v2 = 0 then (
      k107 M)
    else (
      (zgI 9 M v0 7).bind fun (y17 : Int32) =>
      if y17 = 0 then (
        k107 M)
      else (
        (fp_X11_aLine v0 M).bind fun p20 => zpp p20 fun (y18 : Int32) (M19 : zM) =>
        fp_X11_load_L88 k107 v0 n y18 M19))
def fp_X11_load (v0 : Nat) (v1 : Int32) (M : zM) : Option (Int32 × zM) :=
  zthis 9 M v0 (
    (zgI 9 M v0 5).bind fun (y1 : Int32) =>
    (fp_X11_isFrom v1 0 y1).bind fun (y2 : Int32) =>
    if y2 ≠ 0 then (
      (zpI 9 M v0 6 v1).bind fun (M3 : zM) =>
      fp_X11_load_L25
        (fun M8 =>
          (zpI 9 M8 v0 5 0).bind fun (M9 : zM) =>
          (zpI 9 M9 v0 10 0).bind fun (M10 : zM) =>
          (zpI 9 M10 v0 11 (-1)).bind fun (M11 : zM) =>
          (zpI 9 M11 v0 9 0).bind fun (M12 : zM) =>
          (zgR 9 M12 v0 17).bind fun (y13 : Nat) =>
          (fp_X11_puts v0 y13 0 M12).bind fun (M14 : zM) =>
          (zpI 9 M14 v0 0 0).bind fun (M15 : zM) =>
          (fp_X11_ahead v0 M15).bind fun (M16 : zM) =>
          fp_X11_load_L88
            (fun M21 =>
              (zgI 9 M21 v0 10).bind fun (y22 : Int32) =>
              (zpI 9 M21 v0 12 y22).bind fun (M23 : zM) =>
              (zgI 9 M23 v0 10).bind fun (y24 : Int32) =>
              if y24 ≤ 0 then (
                (fp_X11_acted v0 M23).bind fun (M25 : zM) =>
                (zgI 9 M25 v0 0).bind fun (y26 : Int32) =>
                (fp_X11_gives v0 y26 M25).bind fun p29 => zpp p29 fun (y27 : Int32) (M28 : zM) =>
                some (y27, M28))
              else (
                (zgR 9 M23 v0 17).bind fun (y30 : Nat) =>
                (fp_X11_brings v0 y30 0 M23).bind fun (M31 : zM) =>
                (fp_X11_refuse v0 9 M31).bind fun p34 => zpp p34 fun (y32 : Int32) (M33 : zM) =>
                some (y32, M33))) v0 FU 1 M16) v0 v1 FU 0 M3)
    else (
      (fp_X11_refuse v0 1 M).bind fun p37 => zpp p37 fun (y35 : Int32) (M36 : zM) =>
      some (y35, M36)))
set_option maxHeartbeats 4000000 in
set_option maxRecDepth 100000 in
theorem th_X11_load {v0 : Nat} {v1 : Int32} {M : zM} {x0 : Int32 × zM} (h : fp_X11_load v0 v1 M = some x0) : v0 < zS M ∧ kd v0 = 9 := by
  unfold fp_X11_load at h
  exact zthis_of h
set_option maxHeartbeats 4000000 in
set_option maxRecDepth 100000 in
theorem w_X11_load_L25 (E : zEnv) (hE : zEok E) (d : Nat) (hd : 11 ≤ d) (M0 : zM) (x0 : Int32 × zM) (v0 : Nat) (v1 : Int32) (k48 : zM → Option (Int32 × zM)) (hk48 : ∀ (M : zM), zSy E mu_X11_load d M0 (some (.int x0.1), x0.2) x0 (k48 M) 48 [(0, .ref (E.2.2.2.1 + v0))] [] M) : ∀ (n : Nat) (v2 : Int32) (M : zM), zSy E mu_X11_load d M0 (some (.int x0.1), x0.2) x0 (fp_X11_load_L25 k48 v0 v1 n v2 M) 25 [(0, .ref (E.2.2.2.1 + v0)), (1, .int v1), (2, .int v2)] [] M := by
  intro n
  induction n with
  | zero =>
    intro v2 M
    rw [fp_X11_load_L25]
    exact zs_none
  | succ n ih =>
    intro v2 M
    rw [fp_X11_load_L25]
    refine zs_iload_n dX11_load_25 rfl 2 rfl ?_
    refine zs_iload_n dX11_load_26 rfl 1 rfl ?_
    refine zs_icmp_ge dX11_load_27 rfl ?_ ?_
    · refine zs_sub (loc' := [(0, .ref (E.2.2.2.1 + v0))]) [0] rfl ?_
      exact hk48 M
    refine zs_aload_n dX11_load_30 rfl 0 rfl ?_
    refine zs_getR dX11_load_31 fl_X11_17 rfl (fun y4 => ?_)
    refine zs_iload_n dX11_load_34 rfl 2 rfl ?_
    refine zs_aload_n dX11_load_35 rfl 0 rfl ?_
    refine zs_getR dX11_load_36 fl_X11_13 rfl (fun y5 => ?_)
    refine zs_iload_n dX11_load_39 rfl 2 rfl ?_
    refine zs_ldB dX11_load_40 (fun y6 => ?_)
    refine zs_stB dX11_load_41 (fun M7 => ?_)
    refine zs_iinc (v := (v2 + 1)) (loc' := [(0, .ref (E.2.2.2.1 + v0)), (1, .int v1), (2, .int (v2 + 1))]) dX11_load_42 2 rfl (by rfl) (Nat.le_of_ble_eq_true rfl) [1, 2, 0] rfl ?_
    refine zs_goto dX11_load_45 rfl ?_
    exact ih (v2 + 1) M7
set_option maxHeartbeats 4000000 in
set_option maxRecDepth 100000 in
theorem w_X11_load_L88 (E : zEnv) (hE : zEok E) (d : Nat) (hd : 11 ≤ d) (M0 : zM) (x0 : Int32 × zM) (v0 : Nat) (k107 : zM → Option (Int32 × zM)) (hk107 : ∀ (M : zM), zSy E mu_X11_load d M0 (some (.int x0.1), x0.2) x0 (k107 M) 107 [(0, .ref (E.2.2.2.1 + v0))] [] M) : ∀ (n : Nat) (v2 : Int32) (M : zM), zSy E mu_X11_load d M0 (some (.int x0.1), x0.2) x0 (fp_X11_load_L88 k107 v0 n v2 M) 88 [(0, .ref (E.2.2.2.1 + v0)), (2, .int v2)] [] M := by
  intro n
  induction n with
  | zero =>
    intro v2 M
    rw [fp_X11_load_L88]
    exact zs_none
  | succ n ih =>
    intro v2 M
    rw [fp_X11_load_L88]
    refine zs_iload_n dX11_load_88 rfl 1 rfl ?_
    refine zs_if_eq dX11_load_89 rfl ?_ ?_
    · refine zs_sub (loc' := [(0, .ref (E.2.2.2.1 + v0))]) [0] rfl ?_
      exact hk107 M
    refine zs_aload_n dX11_load_92 rfl 0 rfl ?_
    refine zs_getI dX11_load_93 fl_X11_153 rfl (fun y17 => ?_)
    refine zs_if_eq dX11_load_96 rfl ?_ ?_
    · refine zs_sub (loc' := [(0, .ref (E.2.2.2.1 + v0))]) [0] rfl ?_
      exact hk107 M
    refine zs_aload_n dX11_load_99 rfl 0 rfl ?_
    refine zs_invVWI (rest := []) [] dX11_load_100 lk_X11_233 rfl (fun _ h => th_X11_aLine h) (zd1 rfl hd) rfl (Nat.le_of_ble_eq_true rfl) (ct_X11_aLine E hE _ (zdl rfl hd) _ _) (fun y18 M19 => ?_)
    refine zs_istore_n (loc' := [(0, .ref (E.2.2.2.1 + v0)), (2, .int y18)]) dX11_load_103 rfl (Nat.le_of_ble_eq_true rfl) [1, 0] rfl ?_
    refine zs_goto dX11_load_104 rfl ?_
    exact ih y18 M19
set_option maxHeartbeats 4000000 in
set_option maxRecDepth 100000 in
theorem ct_X11_load (E : zEnv) (hE : zEok E) (d : Nat) (hd : 11 ≤ d) (v0 : Nat) (v1 : Int32) (M : zM) (x0 : Int32 × zM) (hx : fp_X11_load v0 v1 M = some x0) : zCt E mu_X11_load d [.ref (E.2.2.2.1 + v0), .int v1] M (some (.int x0.1), x0.2) := by
  refine zCt_of (μ := mu_X11_load) (t := fp_X11_load v0 v1 M) rfl rfl (Nat.le_of_ble_eq_true rfl) hx ?_
  change zSy E mu_X11_load d M (some (.int x0.1), x0.2) x0 (fp_X11_load v0 v1 M) 0 [(0, .ref (E.2.2.2.1 + v0)), (1, .int v1)] [] M
  unfold fp_X11_load
  refine zs_this (fun hth => ?_)
  refine zs_iload_n dX11_load_0 rfl 1 rfl ?_
  refine zs_iconst (v := 0) dX11_load_1 ciconst_0 ?_
  refine zs_aload_n dX11_load_2 rfl 0 rfl ?_
  refine zs_getI dX11_load_3 fl_X11_135 rfl (fun y1 => ?_)
  refine zs_invSPI (rest := []) [.int v1, .int 0, .int y1] dX11_load_6 lk_X11_195 rfl (zd1 rfl hd) rfl (Nat.le_of_ble_eq_true rfl) (ct_X11_isFrom E hE _ (zdl rfl hd) _ _ _ _) (fun y2 => ?_)
  refine zs_if_ne dX11_load_9 rfl ?_ ?_
  · refine zs_aload_n dX11_load_18 rfl 0 rfl ?_
    refine zs_iload_n dX11_load_19 rfl 1 rfl ?_
    refine zs_putI dX11_load_20 fl_X11_141 ft_X11 rfl rfl rfl rfl rfl (fun M3 => ?_)
    refine zs_iconst (v := 0) dX11_load_23 ciconst_0 ?_
    refine zs_istore_n (loc' := [(0, .ref (E.2.2.2.1 + v0)), (1, .int v1), (2, .int 0)]) dX11_load_24 rfl (Nat.le_of_ble_eq_true rfl) [1, 2, 0] rfl ?_
    refine w_X11_load_L25 E hE d hd _ _ _ _ _ (fun M8 => ?_) _ _ _
    refine zs_aload_n dX11_load_48 rfl 0 rfl ?_
    refine zs_iconst (v := 0) dX11_load_49 ciconst_0 ?_
    refine zs_putI dX11_load_50 fl_X11_135 ft_X11 rfl rfl rfl rfl rfl (fun M9 => ?_)
    refine zs_aload_n dX11_load_53 rfl 0 rfl ?_
    refine zs_iconst (v := 0) dX11_load_54 ciconst_0 ?_
    refine zs_putI dX11_load_55 fl_X11_174 ft_X11 rfl rfl rfl rfl rfl (fun M10 => ?_)
    refine zs_aload_n dX11_load_58 rfl 0 rfl ?_
    refine zs_iconst (v := (-1)) dX11_load_59 ciconst_m1 ?_
    refine zs_putI dX11_load_60 fl_X11_20 ft_X11 rfl rfl rfl rfl rfl (fun M11 => ?_)
    refine zs_aload_n dX11_load_63 rfl 0 rfl ?_
    refine zs_iconst (v := 0) dX11_load_64 ciconst_0 ?_
    refine zs_putI dX11_load_65 fl_X11_144 ft_X11 rfl rfl rfl rfl rfl (fun M12 => ?_)
    refine zs_aload_n dX11_load_68 rfl 0 rfl ?_
    refine zs_aload_n dX11_load_69 rfl 0 rfl ?_
    refine zs_getR dX11_load_70 fl_X11_39 rfl (fun y13 => ?_)
    refine zs_iconst (v := 0) dX11_load_73 ciconst_0 ?_
    refine zs_invVWV (rest := []) [.ref (E.2.2.2.1 + y13), .int 0] dX11_load_74 lk_X11_229 rfl (fun _ h => th_X11_puts h) (zd1 rfl hd) rfl (Nat.le_of_ble_eq_true rfl) (ct_X11_puts E hE _ (zdl rfl hd) _ _ _ _) (fun M14 => ?_)
    refine zs_aload_n dX11_load_77 rfl 0 rfl ?_
    refine zs_iconst (v := 0) dX11_load_78 ciconst_0 ?_
    refine zs_putI dX11_load_79 fl_X11_101 ft_X11 rfl rfl rfl rfl rfl (fun M15 => ?_)
    refine zs_aload_n dX11_load_82 rfl 0 rfl ?_
    refine zs_invVWV (rest := []) [] dX11_load_83 lk_X11_180 rfl (fun _ h => th_X11_ahead h) (zd1 rfl hd) rfl (Nat.le_of_ble_eq_true rfl) (ct_X11_ahead E hE _ (zdl rfl hd) _ _) (fun M16 => ?_)
    refine zs_iconst (v := 1) dX11_load_86 ciconst_1 ?_
    refine zs_istore_n (loc' := [(0, .ref (E.2.2.2.1 + v0)), (2, .int 1)]) dX11_load_87 rfl (Nat.le_of_ble_eq_true rfl) [1, 0] rfl ?_
    refine w_X11_load_L88 E hE d hd _ _ _ _ (fun M21 => ?_) _ _ _
    refine zs_aload_n dX11_load_107 rfl 0 rfl ?_
    refine zs_aload_n dX11_load_108 rfl 0 rfl ?_
    refine zs_getI dX11_load_109 fl_X11_174 rfl (fun y22 => ?_)
    refine zs_putI dX11_load_112 fl_X11_24 ft_X11 rfl rfl rfl rfl rfl (fun M23 => ?_)
    refine zs_aload_n dX11_load_115 rfl 0 rfl ?_
    refine zs_getI dX11_load_116 fl_X11_174 rfl (fun y24 => ?_)
    refine zs_if_le dX11_load_119 rfl ?_ ?_
    · refine zs_aload_n dX11_load_138 rfl 0 rfl ?_
      refine zs_invVWV (rest := []) [] dX11_load_139 lk_X11_239 rfl (fun _ h => th_X11_acted h) (zd1 rfl hd) rfl (Nat.le_of_ble_eq_true rfl) (ct_X11_acted E hE _ (zdl rfl hd) _ _) (fun M25 => ?_)
      refine zs_aload_n dX11_load_142 rfl 0 rfl ?_
      refine zs_aload_n dX11_load_143 rfl 0 rfl ?_
      refine zs_getI dX11_load_144 fl_X11_101 rfl (fun y26 => ?_)
      refine zs_invVWI (rest := []) [.int y26] dX11_load_147 lk_X11_242 rfl (fun _ h => th_X11_gives h) (zd1 rfl hd) rfl (Nat.le_of_ble_eq_true rfl) (ct_X11_gives E hE _ (zdl rfl hd) _ _ _) (fun y27 M28 => ?_)
      exact zs_iretW dX11_load_150 rfl
    refine zs_aload_n dX11_load_122 rfl 0 rfl ?_
    refine zs_aload_n dX11_load_123 rfl 0 rfl ?_
    refine zs_getR dX11_load_124 fl_X11_39 rfl (fun y30 => ?_)
    refine zs_iconst (v := 0) dX11_load_127 ciconst_0 ?_
    refine zs_invVWV (rest := []) [.ref (E.2.2.2.1 + y30), .int 0] dX11_load_128 lk_X11_236 rfl (fun _ h => th_X11_brings h) (zd1 rfl hd) rfl (Nat.le_of_ble_eq_true rfl) (ct_X11_brings E hE _ (zdl rfl hd) _ _ _ _) (fun M31 => ?_)
    refine zs_aload_n dX11_load_131 rfl 0 rfl ?_
    refine zs_bipush (v := 9) dX11_load_132 cbipush_9 ?_
    refine zs_invVWI (rest := []) [.int 9] dX11_load_134 lk_X11_226 rfl (fun _ h => th_X11_refuse h) (zd1 rfl hd) rfl (Nat.le_of_ble_eq_true rfl) (ct_X11_refuse E hE _ (zdl rfl hd) _ _ _) (fun y32 M33 => ?_)
    exact zs_iretW dX11_load_137 rfl
  refine zs_aload_n dX11_load_12 rfl 0 rfl ?_
  refine zs_iconst (v := 1) dX11_load_13 ciconst_1 ?_
  refine zs_invVWI (rest := []) [.int 1] dX11_load_14 lk_X11_226 rfl (fun _ h => th_X11_refuse h) (zd1 rfl hd) rfl (Nat.le_of_ble_eq_true rfl) (ct_X11_refuse E hE _ (zdl rfl hd) _ _ _) (fun y35 M36 => ?_)
  exact zs_iretW dX11_load_17 rfl
theorem dX11_fault_0 : decode cX11_fault 0 = .ok (.iload_n 1, 1) := by decide +kernel
theorem dX11_fault_1 : decode cX11_fault 1 = .ok (.ifCond .ne 10, 3) := by decide +kernel
theorem dX11_fault_4 : decode cX11_fault 4 = .ok (.aload_n 0, 1) := by decide +kernel
theorem dX11_fault_5 : decode cX11_fault 5 = .ok (.getfield 24, 3) := by decide +kernel
theorem dX11_fault_8 : decode cX11_fault 8 = .ok (.goto 16, 3) := by decide +kernel
theorem dX11_fault_11 : decode cX11_fault 11 = .ok (.iload_n 1, 1) := by decide +kernel
theorem dX11_fault_12 : decode cX11_fault 12 = .ok (.iconst 1, 1) := by decide +kernel
theorem dX11_fault_13 : decode cX11_fault 13 = .ok (.if_icmp .ne 10, 3) := by decide +kernel
theorem dX11_fault_16 : decode cX11_fault 16 = .ok (.aload_n 0, 1) := by decide +kernel
theorem dX11_fault_17 : decode cX11_fault 17 = .ok (.getfield 20, 3) := by decide +kernel
theorem dX11_fault_20 : decode cX11_fault 20 = .ok (.goto 4, 3) := by decide +kernel
theorem dX11_fault_23 : decode cX11_fault 23 = .ok (.iconst (-1), 1) := by decide +kernel
theorem dX11_fault_24 : decode cX11_fault 24 = .ok (.ireturn, 1) := by decide +kernel
def fp_X11_fault (v0 : Nat) (v1 : Int32) (M : zM) : Option (Int32) :=
  zthis 9 M v0 (
    if v1 ≠ 0 then (
      if v1 ≠ 1 then (
        some (-1))
      else (
        (zgI 9 M v0 11).bind fun (y1 : Int32) =>
        some y1))
    else (
      (zgI 9 M v0 12).bind fun (y2 : Int32) =>
      some y2))
set_option maxHeartbeats 4000000 in
set_option maxRecDepth 100000 in
theorem th_X11_fault {v0 : Nat} {v1 : Int32} {M : zM} {x0 : Int32} (h : fp_X11_fault v0 v1 M = some x0) : v0 < zS M ∧ kd v0 = 9 := by
  unfold fp_X11_fault at h
  exact zthis_of h
set_option maxHeartbeats 4000000 in
set_option maxRecDepth 100000 in
theorem ct_X11_fault (E : zEnv) (hE : zEok E) (d : Nat) (hd : 1 ≤ d) (v0 : Nat) (v1 : Int32) (M : zM) (x0 : Int32) (hx : fp_X11_fault v0 v1 M = some x0) : zCt E mu_X11_fault d [.ref (E.2.2.2.1 + v0), .int v1] M (some (.int x0), M) := by
  refine zCt_of (μ := mu_X11_fault) (t := fp_X11_fault v0 v1 M) rfl rfl (Nat.le_of_ble_eq_true rfl) hx ?_
  change zSy E mu_X11_fault d M (some (.int x0), M) x0 (fp_X11_fault v0 v1 M) 0 [(0, .ref (E.2.2.2.1 + v0)), (1, .int v1)] [] M
  unfold fp_X11_fault
  refine zs_this (fun hth => ?_)
  refine zs_iload_n dX11_fault_0 rfl 1 rfl ?_
  refine zs_if_ne dX11_fault_1 rfl ?_ ?_
  · refine zs_iload_n dX11_fault_11 rfl 1 rfl ?_
    refine zs_iconst (v := 1) dX11_fault_12 ciconst_1 ?_
    refine zs_icmp_ne dX11_fault_13 rfl ?_ ?_
    · refine zs_iconst (v := (-1)) dX11_fault_23 ciconst_m1 ?_
      exact zs_iretP dX11_fault_24 rfl
    refine zs_aload_n dX11_fault_16 rfl 0 rfl ?_
    refine zs_getI dX11_fault_17 fl_X11_20 rfl (fun y1 => ?_)
    refine zs_goto dX11_fault_20 rfl ?_
    exact zs_iretP dX11_fault_24 rfl
  refine zs_aload_n dX11_fault_4 rfl 0 rfl ?_
  refine zs_getI dX11_fault_5 fl_X11_24 rfl (fun y2 => ?_)
  refine zs_goto dX11_fault_8 rfl ?_
  exact zs_iretP dX11_fault_24 rfl
theorem dX11_begins_0 : decode cX11_begins 0 = .ok (.aload_n 0, 1) := by decide +kernel
theorem dX11_begins_1 : decode cX11_begins 1 = .ok (.aload_n 0, 1) := by decide +kernel
theorem dX11_begins_2 : decode cX11_begins 2 = .ok (.getfield 39, 3) := by decide +kernel
theorem dX11_begins_5 : decode cX11_begins 5 = .ok (.iconst 0, 1) := by decide +kernel
theorem dX11_begins_6 : decode cX11_begins 6 = .ok (.invokevirtual 229, 3) := by decide +kernel
theorem dX11_begins_9 : decode cX11_begins 9 = .ok (.aload_n 0, 1) := by decide +kernel
theorem dX11_begins_10 : decode cX11_begins 10 = .ok (.invokevirtual 239, 3) := by decide +kernel
theorem dX11_begins_13 : decode cX11_begins 13 = .ok (.return_, 1) := by decide +kernel
def fp_X11_begins (v0 : Nat) (M : zM) : Option (zM) :=
  zthis 9 M v0 (
    (zgR 9 M v0 17).bind fun (y1 : Nat) =>
    (fp_X11_puts v0 y1 0 M).bind fun (M2 : zM) =>
    (fp_X11_acted v0 M2).bind fun (M3 : zM) =>
    some M3)
set_option maxHeartbeats 4000000 in
set_option maxRecDepth 100000 in
theorem th_X11_begins {v0 : Nat} {M : zM} {x0 : zM} (h : fp_X11_begins v0 M = some x0) : v0 < zS M ∧ kd v0 = 9 := by
  unfold fp_X11_begins at h
  exact zthis_of h
set_option maxHeartbeats 4000000 in
set_option maxRecDepth 100000 in
theorem ct_X11_begins (E : zEnv) (hE : zEok E) (d : Nat) (hd : 2 ≤ d) (v0 : Nat) (M : zM) (x0 : zM) (hx : fp_X11_begins v0 M = some x0) : zCt E mu_X11_begins d [.ref (E.2.2.2.1 + v0)] M (none, x0) := by
  refine zCt_of (μ := mu_X11_begins) (t := fp_X11_begins v0 M) rfl rfl (Nat.le_of_ble_eq_true rfl) hx ?_
  change zSy E mu_X11_begins d M (none, x0) x0 (fp_X11_begins v0 M) 0 [(0, .ref (E.2.2.2.1 + v0))] [] M
  unfold fp_X11_begins
  refine zs_this (fun hth => ?_)
  refine zs_aload_n dX11_begins_0 rfl 0 rfl ?_
  refine zs_aload_n dX11_begins_1 rfl 0 rfl ?_
  refine zs_getR dX11_begins_2 fl_X11_39 rfl (fun y1 => ?_)
  refine zs_iconst (v := 0) dX11_begins_5 ciconst_0 ?_
  refine zs_invVWV (rest := []) [.ref (E.2.2.2.1 + y1), .int 0] dX11_begins_6 lk_X11_229 rfl (fun _ h => th_X11_puts h) (zd1 rfl hd) rfl (Nat.le_of_ble_eq_true rfl) (ct_X11_puts E hE _ (zdl rfl hd) _ _ _ _) (fun M2 => ?_)
  refine zs_aload_n dX11_begins_9 rfl 0 rfl ?_
  refine zs_invVWV (rest := []) [] dX11_begins_10 lk_X11_239 rfl (fun _ h => th_X11_acted h) (zd1 rfl hd) rfl (Nat.le_of_ble_eq_true rfl) (ct_X11_acted E hE _ (zdl rfl hd) _ _) (fun M3 => ?_)
  exact zs_vret dX11_begins_13 trivial
theorem dX11_canSplit_0 : decode cX11_canSplit 0 = .ok (.iload_n 0, 1) := by decide +kernel
theorem dX11_canSplit_1 : decode cX11_canSplit 1 = .ok (.iconst 0, 1) := by decide +kernel
theorem dX11_canSplit_2 : decode cX11_canSplit 2 = .ok (.invokestatic 97, 3) := by decide +kernel
theorem dX11_canSplit_5 : decode cX11_canSplit 5 = .ok (.ifCond .eq 25, 3) := by decide +kernel
theorem dX11_canSplit_8 : decode cX11_canSplit 8 = .ok (.iload_n 0, 1) := by decide +kernel
theorem dX11_canSplit_9 : decode cX11_canSplit 9 = .ok (.invokestatic 122, 3) := by decide +kernel
theorem dX11_canSplit_12 : decode cX11_canSplit 12 = .ok (.iconst 1, 1) := by decide +kernel
theorem dX11_canSplit_13 : decode cX11_canSplit 13 = .ok (.if_icmp .le 17, 3) := by decide +kernel
theorem dX11_canSplit_16 : decode cX11_canSplit 16 = .ok (.iload_n 0, 1) := by decide +kernel
theorem dX11_canSplit_17 : decode cX11_canSplit 17 = .ok (.invokestatic 122, 3) := by decide +kernel
theorem dX11_canSplit_20 : decode cX11_canSplit 20 = .ok (.iload_n 1, 1) := by decide +kernel
theorem dX11_canSplit_21 : decode cX11_canSplit 21 = .ok (.iconst 1, 1) := by decide +kernel
theorem dX11_canSplit_22 : decode cX11_canSplit 22 = .ok (.isub, 1) := by decide +kernel
theorem dX11_canSplit_23 : decode cX11_canSplit 23 = .ok (.if_icmp .ge 7, 3) := by decide +kernel
theorem dX11_canSplit_26 : decode cX11_canSplit 26 = .ok (.iconst 1, 1) := by decide +kernel
theorem dX11_canSplit_27 : decode cX11_canSplit 27 = .ok (.goto 4, 3) := by decide +kernel
theorem dX11_canSplit_30 : decode cX11_canSplit 30 = .ok (.iconst 0, 1) := by decide +kernel
theorem dX11_canSplit_31 : decode cX11_canSplit 31 = .ok (.ireturn, 1) := by decide +kernel
def fp_X11_canSplit (v0 : Int32) (v1 : Int32) : Option (Int32) :=
  (fp_X11_has v0 0).bind fun (y1 : Int32) =>
  if y1 = 0 then (
    some 0)
  else (
    (fp_X11_bits v0).bind fun (y2 : Int32) =>
    if y2 ≤ 1 then (
      some 0)
    else (
      (fp_X11_bits v0).bind fun (y3 : Int32) =>
      if y3 ≥ (v1 - 1) then (
        some 0)
      else (
        some 1)))
set_option maxHeartbeats 4000000 in
set_option maxRecDepth 100000 in
theorem ct_X11_canSplit (E : zEnv) (hE : zEok E) (d : Nat) (hd : 2 ≤ d) (v0 : Int32) (v1 : Int32) (M : zM) (x0 : Int32) (hx : fp_X11_canSplit v0 v1 = some x0) : zCt E mu_X11_canSplit d [.int v0, .int v1] M (some (.int x0), M) := by
  refine zCt_of (μ := mu_X11_canSplit) (t := fp_X11_canSplit v0 v1) rfl rfl (Nat.le_of_ble_eq_true rfl) hx ?_
  change zSy E mu_X11_canSplit d M (some (.int x0), M) x0 (fp_X11_canSplit v0 v1) 0 [(0, .int v0), (1, .int v1)] [] M
  unfold fp_X11_canSplit
  refine zs_iload_n dX11_canSplit_0 rfl 0 rfl ?_
  refine zs_iconst (v := 0) dX11_canSplit_1 ciconst_0 ?_
  refine zs_invSPI (rest := []) [.int v0, .int 0] dX11_canSplit_2 lk_X11_97 rfl (zd1 rfl hd) rfl (Nat.le_of_ble_eq_true rfl) (ct_X11_has E hE _ (zdl rfl hd) _ _ _) (fun y1 => ?_)
  refine zs_if_eq dX11_canSplit_5 rfl ?_ ?_
  · refine zs_iconst (v := 0) dX11_canSplit_30 ciconst_0 ?_
    exact zs_iretP dX11_canSplit_31 rfl
  refine zs_iload_n dX11_canSplit_8 rfl 0 rfl ?_
  refine zs_invSPI (rest := []) [.int v0] dX11_canSplit_9 lk_X11_122 rfl (zd1 rfl hd) rfl (Nat.le_of_ble_eq_true rfl) (ct_X11_bits E hE _ (zdl rfl hd) _ _) (fun y2 => ?_)
  refine zs_iconst (v := 1) dX11_canSplit_12 ciconst_1 ?_
  refine zs_icmp_le dX11_canSplit_13 rfl ?_ ?_
  · refine zs_iconst (v := 0) dX11_canSplit_30 ciconst_0 ?_
    exact zs_iretP dX11_canSplit_31 rfl
  refine zs_iload_n dX11_canSplit_16 rfl 0 rfl ?_
  refine zs_invSPI (rest := []) [.int v0] dX11_canSplit_17 lk_X11_122 rfl (zd1 rfl hd) rfl (Nat.le_of_ble_eq_true rfl) (ct_X11_bits E hE _ (zdl rfl hd) _ _) (fun y3 => ?_)
  refine zs_iload_n dX11_canSplit_20 rfl 1 rfl ?_
  refine zs_iconst (v := 1) dX11_canSplit_21 ciconst_1 ?_
  refine zs_isub dX11_canSplit_22 ?_
  refine zs_icmp_ge dX11_canSplit_23 rfl ?_ ?_
  · refine zs_iconst (v := 0) dX11_canSplit_30 ciconst_0 ?_
    exact zs_iretP dX11_canSplit_31 rfl
  refine zs_iconst (v := 1) dX11_canSplit_26 ciconst_1 ?_
  refine zs_goto dX11_canSplit_27 rfl ?_
  exact zs_iretP dX11_canSplit_31 rfl
theorem dX11_rank_0 : decode cX11_rank 0 = .ok (.iconst 0, 1) := by decide +kernel
theorem dX11_rank_1 : decode cX11_rank 1 = .ok (.istore 5, 2) := by decide +kernel
theorem dX11_rank_3 : decode cX11_rank 3 = .ok (.iconst 0, 1) := by decide +kernel
theorem dX11_rank_4 : decode cX11_rank 4 = .ok (.istore 6, 2) := by decide +kernel
theorem dX11_rank_6 : decode cX11_rank 6 = .ok (.iload 6, 2) := by decide +kernel
theorem dX11_rank_8 : decode cX11_rank 8 = .ok (.iload_n 3, 1) := by decide +kernel
theorem dX11_rank_9 : decode cX11_rank 9 = .ok (.if_icmp .ge 88, 3) := by decide +kernel
theorem dX11_rank_12 : decode cX11_rank 12 = .ok (.iload 4, 2) := by decide +kernel
theorem dX11_rank_14 : decode cX11_rank 14 = .ok (.iload 6, 2) := by decide +kernel
theorem dX11_rank_16 : decode cX11_rank 16 = .ok (.invokestatic 97, 3) := by decide +kernel
theorem dX11_rank_19 : decode cX11_rank 19 = .ok (.ifCond .ne 6, 3) := by decide +kernel
theorem dX11_rank_22 : decode cX11_rank 22 = .ok (.goto 69, 3) := by decide +kernel
theorem dX11_rank_25 : decode cX11_rank 25 = .ok (.aload_n 1, 1) := by decide +kernel
theorem dX11_rank_26 : decode cX11_rank 26 = .ok (.iload_n 2, 1) := by decide +kernel
theorem dX11_rank_27 : decode cX11_rank 27 = .ok (.iload 6, 2) := by decide +kernel
theorem dX11_rank_29 : decode cX11_rank 29 = .ok (.iadd, 1) := by decide +kernel
theorem dX11_rank_30 : decode cX11_rank 30 = .ok (.iaload, 1) := by decide +kernel
theorem dX11_rank_31 : decode cX11_rank 31 = .ok (.iload 4, 2) := by decide +kernel
theorem dX11_rank_33 : decode cX11_rank 33 = .ok (.iconst (-1), 1) := by decide +kernel
theorem dX11_rank_34 : decode cX11_rank 34 = .ok (.ixor, 1) := by decide +kernel
theorem dX11_rank_35 : decode cX11_rank 35 = .ok (.iand, 1) := by decide +kernel
theorem dX11_rank_36 : decode cX11_rank 36 = .ok (.istore 7, 2) := by decide +kernel
theorem dX11_rank_38 : decode cX11_rank 38 = .ok (.iconst 0, 1) := by decide +kernel
theorem dX11_rank_39 : decode cX11_rank 39 = .ok (.istore 8, 2) := by decide +kernel
theorem dX11_rank_41 : decode cX11_rank 41 = .ok (.iload 8, 2) := by decide +kernel
theorem dX11_rank_43 : decode cX11_rank 43 = .ok (.iload 5, 2) := by decide +kernel
theorem dX11_rank_45 : decode cX11_rank 45 = .ok (.if_icmp .ge 26, 3) := by decide +kernel
theorem dX11_rank_48 : decode cX11_rank 48 = .ok (.iload 7, 2) := by decide +kernel
theorem dX11_rank_50 : decode cX11_rank 50 = .ok (.iload 7, 2) := by decide +kernel
theorem dX11_rank_52 : decode cX11_rank 52 = .ok (.aload_n 0, 1) := by decide +kernel
theorem dX11_rank_53 : decode cX11_rank 53 = .ok (.getfield 49, 3) := by decide +kernel
theorem dX11_rank_56 : decode cX11_rank 56 = .ok (.iload 8, 2) := by decide +kernel
theorem dX11_rank_58 : decode cX11_rank 58 = .ok (.iaload, 1) := by decide +kernel
theorem dX11_rank_59 : decode cX11_rank 59 = .ok (.ixor, 1) := by decide +kernel
theorem dX11_rank_60 : decode cX11_rank 60 = .ok (.invokestatic 112, 3) := by decide +kernel
theorem dX11_rank_63 : decode cX11_rank 63 = .ok (.istore 7, 2) := by decide +kernel
theorem dX11_rank_65 : decode cX11_rank 65 = .ok (.iinc 8 1, 3) := by decide +kernel
theorem dX11_rank_68 : decode cX11_rank 68 = .ok (.goto (-27), 3) := by decide +kernel
theorem dX11_rank_71 : decode cX11_rank 71 = .ok (.iload 7, 2) := by decide +kernel
theorem dX11_rank_73 : decode cX11_rank 73 = .ok (.ifCond .ne 6, 3) := by decide +kernel
theorem dX11_rank_76 : decode cX11_rank 76 = .ok (.goto 15, 3) := by decide +kernel
theorem dX11_rank_79 : decode cX11_rank 79 = .ok (.aload_n 0, 1) := by decide +kernel
theorem dX11_rank_80 : decode cX11_rank 80 = .ok (.getfield 49, 3) := by decide +kernel
theorem dX11_rank_83 : decode cX11_rank 83 = .ok (.iload 5, 2) := by decide +kernel
theorem dX11_rank_85 : decode cX11_rank 85 = .ok (.iload 7, 2) := by decide +kernel
theorem dX11_rank_87 : decode cX11_rank 87 = .ok (.iastore, 1) := by decide +kernel
theorem dX11_rank_88 : decode cX11_rank 88 = .ok (.iinc 5 1, 3) := by decide +kernel
theorem dX11_rank_91 : decode cX11_rank 91 = .ok (.iinc 6 1, 3) := by decide +kernel
theorem dX11_rank_94 : decode cX11_rank 94 = .ok (.goto (-88), 3) := by decide +kernel
theorem dX11_rank_97 : decode cX11_rank 97 = .ok (.iload 5, 2) := by decide +kernel
theorem dX11_rank_99 : decode cX11_rank 99 = .ok (.ireturn, 1) := by decide +kernel
def fp_X11_rank_L41 (k71 : Int32 → Option (Int32 × zM)) (v0 : Nat) (v1 : Nat) (v2 : Int32) (v3 : Int32) (v4 : Int32) (v5 : Int32) (v6 : Int32) (M : zM) : Nat → Int32 → Int32 → Option (Int32 × zM)
  | 0, _, _ => none
  | n + 1, v7, v8 =>
    if v8 ≥ v5 then (
      k71 v7)
    else (
      (zgR 9 M v0 21).bind fun (y6 : Nat) =>
      (zlI 100 M y6 v8).bind fun (y7 : Int32) =>
      lett ((kmin v7 (v7 ^^^ y7))) fun (v7_8 : Int32) =>
      fp_X11_rank_L41 k71 v0 v1 v2 v3 v4 v5 v6 M n v7_8 (v8 + 1))
def fp_X11_rank_L6 (v0 : Nat) (v1 : Nat) (v2 : Int32) (v3 : Int32) (v4 : Int32) : Nat → Int32 → Int32 → zM → Option (Int32 × zM)
  | 0, _, _, _ => none
  | n + 1, v5, v6, M =>
    if v6 ≥ v3 then (
      some (v5, M))
    else (
      (fp_X11_has v4 v6).bind fun (y1 : Int32) =>
      zjn (fun (v5_2 : Int32) (M3 : zM) =>
          fp_X11_rank_L6 v0 v1 v2 v3 v4 n v5_2 (v6 + 1) M3)
        (fun j91 =>
          if y1 ≠ 0 then (
            (zlI 100 M v1 (v2 + v6)).bind fun (y4 : Int32) =>
            lett ((y4 &&& (v4 ^^^ (-1)))) fun (v7_5 : Int32) =>
            fp_X11_rank_L41
              (fun v7_9 =>
                if v7_9 ≠ 0 then (
                  (zgR 9 M v0 21).bind fun (y10 : Nat) =>
                  (ztI M y10 v5 v7_9).bind fun (M11 : zM) =>
                  j91 (v5 + 1) M11)
                else (
                  j91 v5 M)) v0 v1 v2 v3 v4 v5 v6 M FU v7_5 0)
          else (
            j91 v5 M)))
def fp_X11_rank (v0 : Nat) (v1 : Nat) (v2 : Int32) (v3 : Int32) (v4 : Int32) (M : zM) : Option (Int32 × zM) :=
  zthis 9 M v0 (
    fp_X11_rank_L6 v0 v1 v2 v3 v4 FU 0 0 M)
set_option maxHeartbeats 4000000 in
set_option maxRecDepth 100000 in
theorem th_X11_rank {v0 : Nat} {v1 : Nat} {v2 : Int32} {v3 : Int32} {v4 : Int32} {M : zM} {x0 : Int32 × zM} (h : fp_X11_rank v0 v1 v2 v3 v4 M = some x0) : v0 < zS M ∧ kd v0 = 9 := by
  unfold fp_X11_rank at h
  exact zthis_of h
set_option maxHeartbeats 4000000 in
set_option maxRecDepth 100000 in
theorem w_X11_rank_L41 (E : zEnv) (hE : zEok E) (d : Nat) (hd : 2 ≤ d) (M0 : zM) (x0 : Int32 × zM) (v0 : Nat) (v1 : Nat) (v2 : Int32) (v3 : Int32) (v4 : Int32) (v5 : Int32) (v6 : Int32) (M : zM) (k71 : Int32 → Option (Int32 × zM)) (hk71 : ∀ (v7 : Int32), zSy E mu_X11_rank d M0 (some (.int x0.1), x0.2) x0 (k71 v7) 71 [(0, .ref (E.2.2.2.1 + v0)), (1, .ref (E.2.2.2.1 + v1)), (2, .int v2), (3, .int v3), (4, .int v4), (5, .int v5), (6, .int v6), (7, .int v7)] [] M) : ∀ (n : Nat) (v7 : Int32) (v8 : Int32), zSy E mu_X11_rank d M0 (some (.int x0.1), x0.2) x0 (fp_X11_rank_L41 k71 v0 v1 v2 v3 v4 v5 v6 M n v7 v8) 41 [(0, .ref (E.2.2.2.1 + v0)), (1, .ref (E.2.2.2.1 + v1)), (2, .int v2), (3, .int v3), (4, .int v4), (5, .int v5), (6, .int v6), (7, .int v7), (8, .int v8)] [] M := by
  intro n
  induction n with
  | zero =>
    intro v7 v8
    rw [fp_X11_rank_L41]
    exact zs_none
  | succ n ih =>
    intro v7 v8
    rw [fp_X11_rank_L41]
    refine zs_iload dX11_rank_41 8 rfl ?_
    refine zs_iload dX11_rank_43 5 rfl ?_
    refine zs_icmp_ge dX11_rank_45 rfl ?_ ?_
    · refine zs_sub (loc' := [(0, .ref (E.2.2.2.1 + v0)), (1, .ref (E.2.2.2.1 + v1)), (2, .int v2), (3, .int v3), (4, .int v4), (5, .int v5), (6, .int v6), (7, .int v7)]) [0, 1, 2, 3, 4, 5, 6, 7] rfl ?_
      exact hk71 v7
    refine zs_iload dX11_rank_48 7 rfl ?_
    refine zs_iload dX11_rank_50 7 rfl ?_
    refine zs_aload_n dX11_rank_52 rfl 0 rfl ?_
    refine zs_getR dX11_rank_53 fl_X11_49 rfl (fun y6 => ?_)
    refine zs_iload dX11_rank_56 8 rfl ?_
    refine zs_ldI dX11_rank_58 (fun y7 => ?_)
    refine zs_ixor dX11_rank_59 ?_
    refine zs_min dX11_rank_60 (ti_6 103 rfl rfl) ms_min mi_Math mc_min (zd0 rfl hd) (Nat.le_of_ble_eq_true rfl) ?_
    refine zs_istoreL (loc' := fun v7_8 => [(0, .ref (E.2.2.2.1 + v0)), (1, .ref (E.2.2.2.1 + v1)), (2, .int v2), (3, .int v3), (4, .int v4), (5, .int v5), (6, .int v6), (7, .int v7_8), (8, .int v8)]) dX11_rank_63 (Nat.le_of_ble_eq_true rfl) [1, 2, 3, 4, 5, 6, 7, 0, 8] (fun _ => rfl) (fun v7_8 => ?_)
    refine zs_iinc (v := (v8 + 1)) (loc' := [(0, .ref (E.2.2.2.1 + v0)), (1, .ref (E.2.2.2.1 + v1)), (2, .int v2), (3, .int v3), (4, .int v4), (5, .int v5), (6, .int v6), (7, .int v7_8), (8, .int (v8 + 1))]) dX11_rank_65 8 rfl (by rfl) (Nat.le_of_ble_eq_true rfl) [1, 2, 3, 4, 5, 6, 7, 8, 0] rfl ?_
    refine zs_goto dX11_rank_68 rfl ?_
    exact ih v7_8 (v8 + 1)
set_option maxHeartbeats 4000000 in
set_option maxRecDepth 100000 in
theorem w_X11_rank_L6 (E : zEnv) (hE : zEok E) (d : Nat) (hd : 2 ≤ d) (M0 : zM) (x0 : Int32 × zM) (v0 : Nat) (v1 : Nat) (v2 : Int32) (v3 : Int32) (v4 : Int32)  : ∀ (n : Nat) (v5 : Int32) (v6 : Int32) (M : zM), zSy E mu_X11_rank d M0 (some (.int x0.1), x0.2) x0 (fp_X11_rank_L6 v0 v1 v2 v3 v4 n v5 v6 M) 6 [(0, .ref (E.2.2.2.1 + v0)), (1, .ref (E.2.2.2.1 + v1)), (2, .int v2), (3, .int v3), (4, .int v4), (5, .int v5), (6, .int v6)] [] M := by
  intro n
  induction n with
  | zero =>
    intro v5 v6 M
    rw [fp_X11_rank_L6]
    exact zs_none
  | succ n ih =>
    intro v5 v6 M
    rw [fp_X11_rank_L6]
    refine zs_iload dX11_rank_6 6 rfl ?_
    refine zs_iload_n dX11_rank_8 rfl 3 rfl ?_
    refine zs_icmp_ge dX11_rank_9 rfl ?_ ?_
    · refine zs_iload dX11_rank_97 5 rfl ?_
      exact zs_iretW dX11_rank_99 rfl
    refine zs_iload dX11_rank_12 4 rfl ?_
    refine zs_iload dX11_rank_14 6 rfl ?_
    refine zs_invSPI (rest := []) [.int v4, .int v6] dX11_rank_16 lk_X11_97 rfl (zd1 rfl hd) rfl (Nat.le_of_ble_eq_true rfl) (ct_X11_has E hE _ (zdl rfl hd) _ _ _) (fun y1 => ?_)
    refine zs_jn (fun j91 => ∀ (v5_2 : Int32) (M3 : zM), zSy E mu_X11_rank d M0 (some (.int x0.1), x0.2) x0 (j91 v5_2 M3) 91 [(0, .ref (E.2.2.2.1 + v0)), (1, .ref (E.2.2.2.1 + v1)), (2, .int v2), (3, .int v3), (4, .int v4), (5, .int v5_2), (6, .int v6)] [] M3) (fun v5_2 M3 => ?_) (fun j91 hj91 => ?_)
    · refine zs_iinc (v := (v6 + 1)) (loc' := [(0, .ref (E.2.2.2.1 + v0)), (1, .ref (E.2.2.2.1 + v1)), (2, .int v2), (3, .int v3), (4, .int v4), (5, .int v5_2), (6, .int (v6 + 1))]) dX11_rank_91 6 rfl (by rfl) (Nat.le_of_ble_eq_true rfl) [1, 2, 3, 4, 5, 6, 0] rfl ?_
      refine zs_goto dX11_rank_94 rfl ?_
      exact ih v5_2 (v6 + 1) M3
    refine zs_if_ne dX11_rank_19 rfl ?_ ?_
    · refine zs_aload_n dX11_rank_25 rfl 1 rfl ?_
      refine zs_iload_n dX11_rank_26 rfl 2 rfl ?_
      refine zs_iload dX11_rank_27 6 rfl ?_
      refine zs_iadd dX11_rank_29 ?_
      refine zs_ldI dX11_rank_30 (fun y4 => ?_)
      refine zs_iload dX11_rank_31 4 rfl ?_
      refine zs_iconst (v := (-1)) dX11_rank_33 ciconst_m1 ?_
      refine zs_ixor dX11_rank_34 ?_
      refine zs_iand dX11_rank_35 ?_
      refine zs_istoreL (loc' := fun v7_5 => [(0, .ref (E.2.2.2.1 + v0)), (1, .ref (E.2.2.2.1 + v1)), (2, .int v2), (3, .int v3), (4, .int v4), (5, .int v5), (6, .int v6), (7, .int v7_5)]) dX11_rank_36 (Nat.le_of_ble_eq_true rfl) [1, 2, 3, 4, 5, 6, 7, 0] (fun _ => rfl) (fun v7_5 => ?_)
      refine zs_iconst (v := 0) dX11_rank_38 ciconst_0 ?_
      refine zs_istore (loc' := [(0, .ref (E.2.2.2.1 + v0)), (1, .ref (E.2.2.2.1 + v1)), (2, .int v2), (3, .int v3), (4, .int v4), (5, .int v5), (6, .int v6), (7, .int v7_5), (8, .int 0)]) dX11_rank_39 (Nat.le_of_ble_eq_true rfl) [1, 2, 3, 4, 5, 6, 7, 8, 0] rfl ?_
      refine w_X11_rank_L41 E hE d hd _ _ _ _ _ _ _ _ _ _ _ (fun v7_9 => ?_) _ _ _
      refine zs_iload dX11_rank_71 7 rfl ?_
      refine zs_if_ne dX11_rank_73 rfl ?_ ?_
      · refine zs_aload_n dX11_rank_79 rfl 0 rfl ?_
        refine zs_getR dX11_rank_80 fl_X11_49 rfl (fun y10 => ?_)
        refine zs_iload dX11_rank_83 5 rfl ?_
        refine zs_iload dX11_rank_85 7 rfl ?_
        refine zs_stI dX11_rank_87 (fun M11 => ?_)
        refine zs_iinc (v := (v5 + 1)) (loc' := [(0, .ref (E.2.2.2.1 + v0)), (1, .ref (E.2.2.2.1 + v1)), (2, .int v2), (3, .int v3), (4, .int v4), (5, .int (v5 + 1)), (6, .int v6)]) dX11_rank_88 5 rfl (by rfl) (Nat.le_of_ble_eq_true rfl) [1, 2, 3, 4, 5, 0, 6] rfl ?_
        exact hj91 (v5 + 1) M11
      refine zs_goto dX11_rank_76 rfl ?_
      refine zs_sub (loc' := [(0, .ref (E.2.2.2.1 + v0)), (1, .ref (E.2.2.2.1 + v1)), (2, .int v2), (3, .int v3), (4, .int v4), (5, .int v5), (6, .int v6)]) [0, 1, 2, 3, 4, 5, 6] rfl ?_
      exact hj91 v5 M
    refine zs_goto dX11_rank_22 rfl ?_
    exact hj91 v5 M
set_option maxHeartbeats 4000000 in
set_option maxRecDepth 100000 in
theorem ct_X11_rank (E : zEnv) (hE : zEok E) (d : Nat) (hd : 2 ≤ d) (v0 : Nat) (v1 : Nat) (v2 : Int32) (v3 : Int32) (v4 : Int32) (M : zM) (x0 : Int32 × zM) (hx : fp_X11_rank v0 v1 v2 v3 v4 M = some x0) : zCt E mu_X11_rank d [.ref (E.2.2.2.1 + v0), .ref (E.2.2.2.1 + v1), .int v2, .int v3, .int v4] M (some (.int x0.1), x0.2) := by
  refine zCt_of (μ := mu_X11_rank) (t := fp_X11_rank v0 v1 v2 v3 v4 M) rfl rfl (Nat.le_of_ble_eq_true rfl) hx ?_
  change zSy E mu_X11_rank d M (some (.int x0.1), x0.2) x0 (fp_X11_rank v0 v1 v2 v3 v4 M) 0 [(0, .ref (E.2.2.2.1 + v0)), (1, .ref (E.2.2.2.1 + v1)), (2, .int v2), (3, .int v3), (4, .int v4)] [] M
  unfold fp_X11_rank
  refine zs_this (fun hth => ?_)
  refine zs_iconst (v := 0) dX11_rank_0 ciconst_0 ?_
  refine zs_istore (loc' := [(0, .ref (E.2.2.2.1 + v0)), (1, .ref (E.2.2.2.1 + v1)), (2, .int v2), (3, .int v3), (4, .int v4), (5, .int 0)]) dX11_rank_1 (Nat.le_of_ble_eq_true rfl) [1, 2, 3, 4, 5, 0] rfl ?_
  refine zs_iconst (v := 0) dX11_rank_3 ciconst_0 ?_
  refine zs_istore (loc' := [(0, .ref (E.2.2.2.1 + v0)), (1, .ref (E.2.2.2.1 + v1)), (2, .int v2), (3, .int v3), (4, .int v4), (5, .int 0), (6, .int 0)]) dX11_rank_4 (Nat.le_of_ble_eq_true rfl) [1, 2, 3, 4, 5, 6, 0] rfl ?_
  exact w_X11_rank_L6 E hE d hd _ _ _ _ _ _ _ _ _ _ _
theorem dX11_splits_0 : decode cX11_splits 0 = .ok (.iconst 0, 1) := by decide +kernel
theorem dX11_splits_1 : decode cX11_splits 1 = .ok (.istore_n 2, 1) := by decide +kernel
theorem dX11_splits_2 : decode cX11_splits 2 = .ok (.aload_n 0, 1) := by decide +kernel
theorem dX11_splits_3 : decode cX11_splits 3 = .ok (.iconst (-1), 1) := by decide +kernel
theorem dX11_splits_4 : decode cX11_splits 4 = .ok (.putfield 294, 3) := by decide +kernel
theorem dX11_splits_7 : decode cX11_splits 7 = .ok (.iconst 0, 1) := by decide +kernel
theorem dX11_splits_8 : decode cX11_splits 8 = .ok (.istore_n 3, 1) := by decide +kernel
theorem dX11_splits_9 : decode cX11_splits 9 = .ok (.iload_n 3, 1) := by decide +kernel
theorem dX11_splits_10 : decode cX11_splits 10 = .ok (.aload_n 0, 1) := by decide +kernel
theorem dX11_splits_11 : decode cX11_splits 11 = .ok (.invokevirtual 104, 3) := by decide +kernel
theorem dX11_splits_14 : decode cX11_splits 14 = .ok (.if_icmp .gt 61, 3) := by decide +kernel
theorem dX11_splits_17 : decode cX11_splits 17 = .ok (.iload_n 3, 1) := by decide +kernel
theorem dX11_splits_18 : decode cX11_splits 18 = .ok (.aload_n 0, 1) := by decide +kernel
theorem dX11_splits_19 : decode cX11_splits 19 = .ok (.getfield 101, 3) := by decide +kernel
theorem dX11_splits_22 : decode cX11_splits 22 = .ok (.invokestatic 297, 3) := by decide +kernel
theorem dX11_splits_25 : decode cX11_splits 25 = .ok (.ifCond .eq 44, 3) := by decide +kernel
theorem dX11_splits_28 : decode cX11_splits 28 = .ok (.aload_n 0, 1) := by decide +kernel
theorem dX11_splits_29 : decode cX11_splits 29 = .ok (.aload_n 0, 1) := by decide +kernel
theorem dX11_splits_30 : decode cX11_splits 30 = .ok (.getfield 7, 3) := by decide +kernel
theorem dX11_splits_33 : decode cX11_splits 33 = .ok (.iconst 0, 1) := by decide +kernel
theorem dX11_splits_34 : decode cX11_splits 34 = .ok (.aload_n 0, 1) := by decide +kernel
theorem dX11_splits_35 : decode cX11_splits 35 = .ok (.getfield 101, 3) := by decide +kernel
theorem dX11_splits_38 : decode cX11_splits 38 = .ok (.iload_n 3, 1) := by decide +kernel
theorem dX11_splits_39 : decode cX11_splits 39 = .ok (.invokevirtual 290, 3) := by decide +kernel
theorem dX11_splits_42 : decode cX11_splits 42 = .ok (.iconst 1, 1) := by decide +kernel
theorem dX11_splits_43 : decode cX11_splits 43 = .ok (.if_icmp .eq 6, 3) := by decide +kernel
theorem dX11_splits_46 : decode cX11_splits 46 = .ok (.goto 23, 3) := by decide +kernel
theorem dX11_splits_49 : decode cX11_splits 49 = .ok (.aload_n 0, 1) := by decide +kernel
theorem dX11_splits_50 : decode cX11_splits 50 = .ok (.iload_n 2, 1) := by decide +kernel
theorem dX11_splits_51 : decode cX11_splits 51 = .ok (.iload_n 1, 1) := by decide +kernel
theorem dX11_splits_52 : decode cX11_splits 52 = .ok (.if_icmp .ne 7, 3) := by decide +kernel
theorem dX11_splits_55 : decode cX11_splits 55 = .ok (.iload_n 3, 1) := by decide +kernel
theorem dX11_splits_56 : decode cX11_splits 56 = .ok (.goto 7, 3) := by decide +kernel
theorem dX11_splits_59 : decode cX11_splits 59 = .ok (.aload_n 0, 1) := by decide +kernel
theorem dX11_splits_60 : decode cX11_splits 60 = .ok (.getfield 294, 3) := by decide +kernel
theorem dX11_splits_63 : decode cX11_splits 63 = .ok (.putfield 294, 3) := by decide +kernel
theorem dX11_splits_66 : decode cX11_splits 66 = .ok (.iinc 2 1, 3) := by decide +kernel
theorem dX11_splits_69 : decode cX11_splits 69 = .ok (.iinc 3 1, 3) := by decide +kernel
theorem dX11_splits_72 : decode cX11_splits 72 = .ok (.goto (-63), 3) := by decide +kernel
theorem dX11_splits_75 : decode cX11_splits 75 = .ok (.iload_n 2, 1) := by decide +kernel
theorem dX11_splits_76 : decode cX11_splits 76 = .ok (.ireturn, 1) := by decide +kernel
def fp_X11_splits_L9 (v0 : Nat) (v1 : Int32) : Nat → Int32 → Int32 → zM → Option (Int32 × zM)
  | 0, _, _, _ => none
  | n + 1, v2, v3, M =>
    (fp_X11_all v0 M).bind fun (y2 : Int32) =>
    if v3 > y2 then (
      some (v2, M))
    else (
      (zgI 9 M v0 0).bind fun (y3 : Int32) =>
      (fp_X11_canSplit v3 y3).bind fun (y4 : Int32) =>
      zjn (fun (v2_5 : Int32) (M6 : zM) =>
          fp_X11_splits_L9 v0 v1 n v2_5 (v3 + 1) M6)
        (fun j69 =>
          if y4 = 0 then (
            j69 v2 M)
          else (
            (zgR 9 M v0 2).bind fun (y7 : Nat) =>
            (zgI 9 M v0 0).bind fun (y8 : Int32) =>
            (fp_X11_rank v0 y7 0 y8 v3 M).bind fun p11 => zpp p11 fun (y9 : Int32) (M10 : zM) =>
            if y9 = 1 then (
              zjn (fun (s12 : Int32) (s13 : Nat) =>
                  (zpI 9 M10 s13 22 s12).bind fun (M14 : zM) =>
                  j69 (v2 + 1) M14)
                (fun j63 =>
                  if v2 ≠ v1 then (
                    (zgI 9 M10 v0 22).bind fun (y15 : Int32) =>
                    j63 y15 v0)
                  else (
                    j63 v3 v0)))
            else (
              j69 v2 M10))))
def fp_X11_splits (v0 : Nat) (v1 : Int32) (M : zM) : Option (Int32 × zM) :=
  zthis 9 M v0 (
    (zpI 9 M v0 22 (-1)).bind fun (M1 : zM) =>
    fp_X11_splits_L9 v0 v1 FU 0 0 M1)
set_option maxHeartbeats 4000000 in
set_option maxRecDepth 100000 in
theorem th_X11_splits {v0 : Nat} {v1 : Int32} {M : zM} {x0 : Int32 × zM} (h : fp_X11_splits v0 v1 M = some x0) : v0 < zS M ∧ kd v0 = 9 := by
  unfold fp_X11_splits at h
  exact zthis_of h
set_option maxHeartbeats 4000000 in
set_option maxRecDepth 100000 in
theorem w_X11_splits_L9 (E : zEnv) (hE : zEok E) (d : Nat) (hd : 3 ≤ d) (M0 : zM) (x0 : Int32 × zM) (v0 : Nat) (v1 : Int32)  : ∀ (n : Nat) (v2 : Int32) (v3 : Int32) (M : zM), zSy E mu_X11_splits d M0 (some (.int x0.1), x0.2) x0 (fp_X11_splits_L9 v0 v1 n v2 v3 M) 9 [(0, .ref (E.2.2.2.1 + v0)), (1, .int v1), (2, .int v2), (3, .int v3)] [] M := by
  intro n
  induction n with
  | zero =>
    intro v2 v3 M
    rw [fp_X11_splits_L9]
    exact zs_none
  | succ n ih =>
    intro v2 v3 M
    rw [fp_X11_splits_L9]
    refine zs_iload_n dX11_splits_9 rfl 3 rfl ?_
    refine zs_aload_n dX11_splits_10 rfl 0 rfl ?_
    refine zs_invVPI (rest := [.int v3]) [] dX11_splits_11 lk_X11_104 rfl (fun _ h => th_X11_all h) (zd1 rfl hd) rfl (Nat.le_of_ble_eq_true rfl) (ct_X11_all E hE _ (zdl rfl hd) _ _) (fun y2 => ?_)
    refine zs_icmp_gt dX11_splits_14 rfl ?_ ?_
    · refine zs_iload_n dX11_splits_75 rfl 2 rfl ?_
      exact zs_iretW dX11_splits_76 rfl
    refine zs_iload_n dX11_splits_17 rfl 3 rfl ?_
    refine zs_aload_n dX11_splits_18 rfl 0 rfl ?_
    refine zs_getI dX11_splits_19 fl_X11_101 rfl (fun y3 => ?_)
    refine zs_invSPI (rest := []) [.int v3, .int y3] dX11_splits_22 lk_X11_297 rfl (zd1 rfl hd) rfl (Nat.le_of_ble_eq_true rfl) (ct_X11_canSplit E hE _ (zdl rfl hd) _ _ _) (fun y4 => ?_)
    refine zs_jn (fun j69 => ∀ (v2_5 : Int32) (M6 : zM), zSy E mu_X11_splits d M0 (some (.int x0.1), x0.2) x0 (j69 v2_5 M6) 69 [(0, .ref (E.2.2.2.1 + v0)), (1, .int v1), (2, .int v2_5), (3, .int v3)] [] M6) (fun v2_5 M6 => ?_) (fun j69 hj69 => ?_)
    · refine zs_iinc (v := (v3 + 1)) (loc' := [(0, .ref (E.2.2.2.1 + v0)), (1, .int v1), (2, .int v2_5), (3, .int (v3 + 1))]) dX11_splits_69 3 rfl (by rfl) (Nat.le_of_ble_eq_true rfl) [1, 2, 3, 0] rfl ?_
      refine zs_goto dX11_splits_72 rfl ?_
      exact ih v2_5 (v3 + 1) M6
    refine zs_if_eq dX11_splits_25 rfl ?_ ?_
    · exact hj69 v2 M
    refine zs_aload_n dX11_splits_28 rfl 0 rfl ?_
    refine zs_aload_n dX11_splits_29 rfl 0 rfl ?_
    refine zs_getR dX11_splits_30 fl_X11_7 rfl (fun y7 => ?_)
    refine zs_iconst (v := 0) dX11_splits_33 ciconst_0 ?_
    refine zs_aload_n dX11_splits_34 rfl 0 rfl ?_
    refine zs_getI dX11_splits_35 fl_X11_101 rfl (fun y8 => ?_)
    refine zs_iload_n dX11_splits_38 rfl 3 rfl ?_
    refine zs_invVWI (rest := []) [.ref (E.2.2.2.1 + y7), .int 0, .int y8, .int v3] dX11_splits_39 lk_X11_290 rfl (fun _ h => th_X11_rank h) (zd1 rfl hd) rfl (Nat.le_of_ble_eq_true rfl) (ct_X11_rank E hE _ (zdl rfl hd) _ _ _ _ _ _) (fun y9 M10 => ?_)
    refine zs_iconst (v := 1) dX11_splits_42 ciconst_1 ?_
    refine zs_icmp_eq dX11_splits_43 rfl ?_ ?_
    · refine zs_aload_n dX11_splits_49 rfl 0 rfl ?_
      refine zs_iload_n dX11_splits_50 rfl 2 rfl ?_
      refine zs_iload_n dX11_splits_51 rfl 1 rfl ?_
      refine zs_jn (fun j63 => ∀ (s12 : Int32) (s13 : Nat), zSy E mu_X11_splits d M0 (some (.int x0.1), x0.2) x0 (j63 s12 s13) 63 [(0, .ref (E.2.2.2.1 + v0)), (1, .int v1), (2, .int v2), (3, .int v3)] [.int s12, .ref (E.2.2.2.1 + s13)] M10) (fun s12 s13 => ?_) (fun j63 hj63 => ?_)
      · refine zs_putI dX11_splits_63 fl_X11_294 ft_X11 rfl rfl rfl rfl rfl (fun M14 => ?_)
        refine zs_iinc (v := (v2 + 1)) (loc' := [(0, .ref (E.2.2.2.1 + v0)), (1, .int v1), (2, .int (v2 + 1)), (3, .int v3)]) dX11_splits_66 2 rfl (by rfl) (Nat.le_of_ble_eq_true rfl) [1, 2, 0, 3] rfl ?_
        exact hj69 (v2 + 1) M14
      refine zs_icmp_ne dX11_splits_52 rfl ?_ ?_
      · refine zs_aload_n dX11_splits_59 rfl 0 rfl ?_
        refine zs_getI dX11_splits_60 fl_X11_294 rfl (fun y15 => ?_)
        exact hj63 y15 v0
      refine zs_iload_n dX11_splits_55 rfl 3 rfl ?_
      refine zs_goto dX11_splits_56 rfl ?_
      exact hj63 v3 v0
    refine zs_goto dX11_splits_46 rfl ?_
    exact hj69 v2 M10
set_option maxHeartbeats 4000000 in
set_option maxRecDepth 100000 in
theorem ct_X11_splits (E : zEnv) (hE : zEok E) (d : Nat) (hd : 3 ≤ d) (v0 : Nat) (v1 : Int32) (M : zM) (x0 : Int32 × zM) (hx : fp_X11_splits v0 v1 M = some x0) : zCt E mu_X11_splits d [.ref (E.2.2.2.1 + v0), .int v1] M (some (.int x0.1), x0.2) := by
  refine zCt_of (μ := mu_X11_splits) (t := fp_X11_splits v0 v1 M) rfl rfl (Nat.le_of_ble_eq_true rfl) hx ?_
  change zSy E mu_X11_splits d M (some (.int x0.1), x0.2) x0 (fp_X11_splits v0 v1 M) 0 [(0, .ref (E.2.2.2.1 + v0)), (1, .int v1)] [] M
  unfold fp_X11_splits
  refine zs_this (fun hth => ?_)
  refine zs_iconst (v := 0) dX11_splits_0 ciconst_0 ?_
  refine zs_istore_n (loc' := [(0, .ref (E.2.2.2.1 + v0)), (1, .int v1), (2, .int 0)]) dX11_splits_1 rfl (Nat.le_of_ble_eq_true rfl) [1, 2, 0] rfl ?_
  refine zs_aload_n dX11_splits_2 rfl 0 rfl ?_
  refine zs_iconst (v := (-1)) dX11_splits_3 ciconst_m1 ?_
  refine zs_putI dX11_splits_4 fl_X11_294 ft_X11 rfl rfl rfl rfl rfl (fun M1 => ?_)
  refine zs_iconst (v := 0) dX11_splits_7 ciconst_0 ?_
  refine zs_istore_n (loc' := [(0, .ref (E.2.2.2.1 + v0)), (1, .int v1), (2, .int 0), (3, .int 0)]) dX11_splits_8 rfl (Nat.le_of_ble_eq_true rfl) [1, 2, 3, 0] rfl ?_
  exact w_X11_splits_L9 E hE d hd _ _ _ _ _ _ _ _

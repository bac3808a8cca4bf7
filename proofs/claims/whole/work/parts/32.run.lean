theorem dX11_between_0 : decode cX11_between 0 = .ok (.iconst 0, 1) := by decide +kernel
theorem dX11_between_1 : decode cX11_between 1 = .ok (.istore 4, 2) := by decide +kernel
theorem dX11_between_3 : decode cX11_between 3 = .ok (.iload_n 1, 1) := by decide +kernel
theorem dX11_between_4 : decode cX11_between 4 = .ok (.iconst 1, 1) := by decide +kernel
theorem dX11_between_5 : decode cX11_between 5 = .ok (.iadd, 1) := by decide +kernel
theorem dX11_between_6 : decode cX11_between 6 = .ok (.istore 5, 2) := by decide +kernel
theorem dX11_between_8 : decode cX11_between 8 = .ok (.iload 5, 2) := by decide +kernel
theorem dX11_between_10 : decode cX11_between 10 = .ok (.iload_n 2, 1) := by decide +kernel
theorem dX11_between_11 : decode cX11_between 11 = .ok (.if_icmp .ge 27, 3) := by decide +kernel
theorem dX11_between_14 : decode cX11_between 14 = .ok (.iload 4, 2) := by decide +kernel
theorem dX11_between_16 : decode cX11_between 16 = .ok (.aload_n 0, 1) := by decide +kernel
theorem dX11_between_17 : decode cX11_between 17 = .ok (.iload 5, 2) := by decide +kernel
theorem dX11_between_19 : decode cX11_between 19 = .ok (.iaload, 1) := by decide +kernel
theorem dX11_between_20 : decode cX11_between 20 = .ok (.iload_n 3, 1) := by decide +kernel
theorem dX11_between_21 : decode cX11_between 21 = .ok (.if_icmp .ne 7, 3) := by decide +kernel
theorem dX11_between_24 : decode cX11_between 24 = .ok (.iconst 1, 1) := by decide +kernel
theorem dX11_between_25 : decode cX11_between 25 = .ok (.goto 4, 3) := by decide +kernel
theorem dX11_between_28 : decode cX11_between 28 = .ok (.iconst 0, 1) := by decide +kernel
theorem dX11_between_29 : decode cX11_between 29 = .ok (.iadd, 1) := by decide +kernel
theorem dX11_between_30 : decode cX11_between 30 = .ok (.istore 4, 2) := by decide +kernel
theorem dX11_between_32 : decode cX11_between 32 = .ok (.iinc 5 1, 3) := by decide +kernel
theorem dX11_between_35 : decode cX11_between 35 = .ok (.goto (-27), 3) := by decide +kernel
theorem dX11_between_38 : decode cX11_between 38 = .ok (.iload 4, 2) := by decide +kernel
theorem dX11_between_40 : decode cX11_between 40 = .ok (.ireturn, 1) := by decide +kernel
def fp_X11_between_L8 (v0 : Nat) (v2 : Int32) (v3 : Int32) (M : zM) : Nat → Int32 → Int32 → Option (Int32)
  | 0, _, _ => none
  | n + 1, v4, v5 =>
    if v5 ≥ v2 then (
      some v4)
    else (
      (zlI 100 M v0 v5).bind fun (y2 : Int32) =>
      zjn (fun (s3 : Int32) (s4 : Int32) =>
          lett ((s4 + s3)) fun (v4_5 : Int32) =>
          fp_X11_between_L8 v0 v2 v3 M n v4_5 (v5 + 1))
        (fun j29 =>
          if y2 ≠ v3 then (
            j29 0 v4)
          else (
            j29 1 v4)))
def fp_X11_between (v0 : Nat) (v1 : Int32) (v2 : Int32) (v3 : Int32) (M : zM) : Option (Int32) :=
  lett ((v1 + 1)) fun (v5_1 : Int32) =>
  fp_X11_between_L8 v0 v2 v3 M FU 0 v5_1
set_option maxHeartbeats 4000000 in
set_option maxRecDepth 100000 in
theorem w_X11_between_L8 (E : zEnv) (hE : zEok E) (d : Nat) (hd : 1 ≤ d) (x0 : Int32) (v0 : Nat) (v2 : Int32) (v3 : Int32) (M : zM)  : ∀ (n : Nat) (v4 : Int32) (v5 : Int32), zSy E mu_X11_between d M (some (.int x0), M) x0 (fp_X11_between_L8 v0 v2 v3 M n v4 v5) 8 [(0, .ref (E.2.2.2.1 + v0)), (2, .int v2), (3, .int v3), (4, .int v4), (5, .int v5)] [] M := by
  intro n
  induction n with
  | zero =>
    intro v4 v5
    rw [fp_X11_between_L8]
    exact zs_none
  | succ n ih =>
    intro v4 v5
    rw [fp_X11_between_L8]
    refine zs_iload dX11_between_8 4 rfl ?_
    refine zs_iload_n dX11_between_10 rfl 1 rfl ?_
    refine zs_icmp_ge dX11_between_11 rfl ?_ ?_
    · refine zs_iload dX11_between_38 3 rfl ?_
      exact zs_iretP dX11_between_40 rfl
    refine zs_iload dX11_between_14 3 rfl ?_
    refine zs_aload_n dX11_between_16 rfl 0 rfl ?_
    refine zs_iload dX11_between_17 4 rfl ?_
    refine zs_ldI dX11_between_19 (fun y2 => ?_)
    refine zs_iload_n dX11_between_20 rfl 2 rfl ?_
    refine zs_jn (fun j29 => ∀ (s3 : Int32) (s4 : Int32), zSy E mu_X11_between d M (some (.int x0), M) x0 (j29 s3 s4) 29 [(0, .ref (E.2.2.2.1 + v0)), (2, .int v2), (3, .int v3), (5, .int v5)] [.int s3, .int s4] M) (fun s3 s4 => ?_) (fun j29 hj29 => ?_)
    · refine zs_iadd dX11_between_29 ?_
      refine zs_istoreL (loc' := fun v4_5 => [(0, .ref (E.2.2.2.1 + v0)), (2, .int v2), (3, .int v3), (4, .int v4_5), (5, .int v5)]) dX11_between_30 (Nat.le_of_ble_eq_true rfl) [1, 2, 3, 0, 4] (fun _ => rfl) (fun v4_5 => ?_)
      refine zs_iinc (v := (v5 + 1)) (loc' := [(0, .ref (E.2.2.2.1 + v0)), (2, .int v2), (3, .int v3), (4, .int v4_5), (5, .int (v5 + 1))]) dX11_between_32 4 rfl (by rfl) (Nat.le_of_ble_eq_true rfl) [1, 2, 3, 4, 0] rfl ?_
      refine zs_goto dX11_between_35 rfl ?_
      exact ih v4_5 (v5 + 1)
    refine zs_icmp_ne dX11_between_21 rfl ?_ ?_
    · refine zs_iconst (v := 0) dX11_between_28 ciconst_0 ?_
      refine zs_sub (loc' := [(0, .ref (E.2.2.2.1 + v0)), (2, .int v2), (3, .int v3), (5, .int v5)]) [0, 1, 2, 4] rfl ?_
      exact hj29 0 v4
    refine zs_iconst (v := 1) dX11_between_24 ciconst_1 ?_
    refine zs_goto dX11_between_25 rfl ?_
    refine zs_sub (loc' := [(0, .ref (E.2.2.2.1 + v0)), (2, .int v2), (3, .int v3), (5, .int v5)]) [0, 1, 2, 4] rfl ?_
    exact hj29 1 v4
set_option maxHeartbeats 4000000 in
set_option maxRecDepth 100000 in
theorem ct_X11_between (E : zEnv) (hE : zEok E) (d : Nat) (hd : 1 ≤ d) (v0 : Nat) (v1 : Int32) (v2 : Int32) (v3 : Int32) (M : zM) (x0 : Int32) (hx : fp_X11_between v0 v1 v2 v3 M = some x0) : zCt E mu_X11_between d [.ref (E.2.2.2.1 + v0), .int v1, .int v2, .int v3] M (some (.int x0), M) := by
  refine zCt_of (μ := mu_X11_between) (t := fp_X11_between v0 v1 v2 v3 M) rfl rfl (Nat.le_of_ble_eq_true rfl) hx ?_
  change zSy E mu_X11_between d M (some (.int x0), M) x0 (fp_X11_between v0 v1 v2 v3 M) 0 [(0, .ref (E.2.2.2.1 + v0)), (1, .int v1), (2, .int v2), (3, .int v3)] [] M
  unfold fp_X11_between
  refine zs_iconst (v := 0) dX11_between_0 ciconst_0 ?_
  refine zs_istore (loc' := [(0, .ref (E.2.2.2.1 + v0)), (1, .int v1), (2, .int v2), (3, .int v3), (4, .int 0)]) dX11_between_1 (Nat.le_of_ble_eq_true rfl) [1, 2, 3, 4, 0] rfl ?_
  refine zs_iload_n dX11_between_3 rfl 1 rfl ?_
  refine zs_iconst (v := 1) dX11_between_4 ciconst_1 ?_
  refine zs_iadd dX11_between_5 ?_
  refine zs_istoreL (loc' := fun v5_1 => [(0, .ref (E.2.2.2.1 + v0)), (2, .int v2), (3, .int v3), (4, .int 0), (5, .int v5_1)]) dX11_between_6 (Nat.le_of_ble_eq_true rfl) [1, 3, 4, 5, 0] (fun _ => rfl) (fun v5_1 => ?_)
  exact w_X11_between_L8 E hE d hd _ _ _ _ _ _ _ _
theorem dX11_closesWell_0 : decode cX11_closesWell 0 = .ok (.iconst 0, 1) := by decide +kernel
theorem dX11_closesWell_1 : decode cX11_closesWell 1 = .ok (.istore_n 3, 1) := by decide +kernel
theorem dX11_closesWell_2 : decode cX11_closesWell 2 = .ok (.iload_n 3, 1) := by decide +kernel
theorem dX11_closesWell_3 : decode cX11_closesWell 3 = .ok (.aload_n 0, 1) := by decide +kernel
theorem dX11_closesWell_4 : decode cX11_closesWell 4 = .ok (.getfield 101, 3) := by decide +kernel
theorem dX11_closesWell_7 : decode cX11_closesWell 7 = .ok (.if_icmp .ge 53, 3) := by decide +kernel
theorem dX11_closesWell_10 : decode cX11_closesWell 10 = .ok (.iload_n 3, 1) := by decide +kernel
theorem dX11_closesWell_11 : decode cX11_closesWell 11 = .ok (.iload_n 1, 1) := by decide +kernel
theorem dX11_closesWell_12 : decode cX11_closesWell 12 = .ok (.if_icmp .eq 42, 3) := by decide +kernel
theorem dX11_closesWell_15 : decode cX11_closesWell 15 = .ok (.aload_n 0, 1) := by decide +kernel
theorem dX11_closesWell_16 : decode cX11_closesWell 16 = .ok (.getfield 70, 3) := by decide +kernel
theorem dX11_closesWell_19 : decode cX11_closesWell 19 = .ok (.aload_n 0, 1) := by decide +kernel
theorem dX11_closesWell_20 : decode cX11_closesWell 20 = .ok (.getfield 76, 3) := by decide +kernel
theorem dX11_closesWell_23 : decode cX11_closesWell 23 = .ok (.iload_n 1, 1) := by decide +kernel
theorem dX11_closesWell_24 : decode cX11_closesWell 24 = .ok (.iaload, 1) := by decide +kernel
theorem dX11_closesWell_25 : decode cX11_closesWell 25 = .ok (.iload_n 2, 1) := by decide +kernel
theorem dX11_closesWell_26 : decode cX11_closesWell 26 = .ok (.iload_n 3, 1) := by decide +kernel
theorem dX11_closesWell_27 : decode cX11_closesWell 27 = .ok (.invokestatic 333, 3) := by decide +kernel
theorem dX11_closesWell_30 : decode cX11_closesWell 30 = .ok (.iconst 1, 1) := by decide +kernel
theorem dX11_closesWell_31 : decode cX11_closesWell 31 = .ok (.if_icmp .ne 7, 3) := by decide +kernel
theorem dX11_closesWell_34 : decode cX11_closesWell 34 = .ok (.iconst 1, 1) := by decide +kernel
theorem dX11_closesWell_35 : decode cX11_closesWell 35 = .ok (.goto 4, 3) := by decide +kernel
theorem dX11_closesWell_38 : decode cX11_closesWell 38 = .ok (.iconst 0, 1) := by decide +kernel
theorem dX11_closesWell_39 : decode cX11_closesWell 39 = .ok (.aload_n 0, 1) := by decide +kernel
theorem dX11_closesWell_40 : decode cX11_closesWell 40 = .ok (.getfield 7, 3) := by decide +kernel
theorem dX11_closesWell_43 : decode cX11_closesWell 43 = .ok (.iload_n 1, 1) := by decide +kernel
theorem dX11_closesWell_44 : decode cX11_closesWell 44 = .ok (.iaload, 1) := by decide +kernel
theorem dX11_closesWell_45 : decode cX11_closesWell 45 = .ok (.iload_n 3, 1) := by decide +kernel
theorem dX11_closesWell_46 : decode cX11_closesWell 46 = .ok (.invokestatic 97, 3) := by decide +kernel
theorem dX11_closesWell_49 : decode cX11_closesWell 49 = .ok (.if_icmp .eq 5, 3) := by decide +kernel
theorem dX11_closesWell_52 : decode cX11_closesWell 52 = .ok (.iconst 0, 1) := by decide +kernel
theorem dX11_closesWell_53 : decode cX11_closesWell 53 = .ok (.ireturn, 1) := by decide +kernel
theorem dX11_closesWell_54 : decode cX11_closesWell 54 = .ok (.iinc 3 1, 3) := by decide +kernel
theorem dX11_closesWell_57 : decode cX11_closesWell 57 = .ok (.goto (-55), 3) := by decide +kernel
theorem dX11_closesWell_60 : decode cX11_closesWell 60 = .ok (.iconst 1, 1) := by decide +kernel
theorem dX11_closesWell_61 : decode cX11_closesWell 61 = .ok (.ireturn, 1) := by decide +kernel
def fp_X11_closesWell_L2 (v0 : Nat) (v1 : Int32) (v2 : Int32) (M : zM) : Nat → Int32 → Option (Int32)
  | 0, _ => none
  | n + 1, v3 =>
    (zgI 9 M v0 0).bind fun (y1 : Int32) =>
    if v3 ≥ y1 then (
      some 1)
    else (
      zjn (
          fp_X11_closesWell_L2 v0 v1 v2 M n (v3 + 1))
        (fun j54 =>
          if v3 = v1 then (
            j54)
          else (
            (zgR 9 M v0 31).bind fun (y2 : Nat) =>
            (zgR 9 M v0 33).bind fun (y3 : Nat) =>
            (zlI 100 M y3 v1).bind fun (y4 : Int32) =>
            (fp_X11_between y2 y4 v2 v3 M).bind fun (y5 : Int32) =>
            zjn (fun (s6 : Int32) =>
                (zgR 9 M v0 2).bind fun (y7 : Nat) =>
                (zlI 100 M y7 v1).bind fun (y8 : Int32) =>
                (fp_X11_has y8 v3).bind fun (y9 : Int32) =>
                if s6 = y9 then (
                  j54)
                else (
                  some 0))
              (fun j39 =>
                if y5 ≠ 1 then (
                  j39 0)
                else (
                  j39 1)))))
def fp_X11_closesWell (v0 : Nat) (v1 : Int32) (v2 : Int32) (M : zM) : Option (Int32) :=
  zthis 9 M v0 (
    fp_X11_closesWell_L2 v0 v1 v2 M FU 0)
set_option maxHeartbeats 4000000 in
set_option maxRecDepth 100000 in
theorem th_X11_closesWell {v0 : Nat} {v1 : Int32} {v2 : Int32} {M : zM} {x0 : Int32} (h : fp_X11_closesWell v0 v1 v2 M = some x0) : v0 < zS M ∧ kd v0 = 9 := by
  unfold fp_X11_closesWell at h
  exact zthis_of h
set_option maxHeartbeats 4000000 in
set_option maxRecDepth 100000 in
theorem w_X11_closesWell_L2 (E : zEnv) (hE : zEok E) (d : Nat) (hd : 2 ≤ d) (x0 : Int32) (v0 : Nat) (v1 : Int32) (v2 : Int32) (M : zM)  : ∀ (n : Nat) (v3 : Int32), zSy E mu_X11_closesWell d M (some (.int x0), M) x0 (fp_X11_closesWell_L2 v0 v1 v2 M n v3) 2 [(0, .ref (E.2.2.2.1 + v0)), (1, .int v1), (2, .int v2), (3, .int v3)] [] M := by
  intro n
  induction n with
  | zero =>
    intro v3
    rw [fp_X11_closesWell_L2]
    exact zs_none
  | succ n ih =>
    intro v3
    rw [fp_X11_closesWell_L2]
    refine zs_iload_n dX11_closesWell_2 rfl 3 rfl ?_
    refine zs_aload_n dX11_closesWell_3 rfl 0 rfl ?_
    refine zs_getI dX11_closesWell_4 fl_X11_101 rfl (fun y1 => ?_)
    refine zs_icmp_ge dX11_closesWell_7 rfl ?_ ?_
    · refine zs_iconst (v := 1) dX11_closesWell_60 ciconst_1 ?_
      exact zs_iretP dX11_closesWell_61 rfl
    refine zs_iload_n dX11_closesWell_10 rfl 3 rfl ?_
    refine zs_iload_n dX11_closesWell_11 rfl 1 rfl ?_
    refine zs_jn (fun j54 => zSy E mu_X11_closesWell d M (some (.int x0), M) x0 (j54) 54 [(0, .ref (E.2.2.2.1 + v0)), (1, .int v1), (2, .int v2), (3, .int v3)] [] M) ?_ (fun j54 hj54 => ?_)
    · refine zs_iinc (v := (v3 + 1)) (loc' := [(0, .ref (E.2.2.2.1 + v0)), (1, .int v1), (2, .int v2), (3, .int (v3 + 1))]) dX11_closesWell_54 3 rfl (by rfl) (Nat.le_of_ble_eq_true rfl) [1, 2, 3, 0] rfl ?_
      refine zs_goto dX11_closesWell_57 rfl ?_
      exact ih (v3 + 1)
    refine zs_icmp_eq dX11_closesWell_12 rfl ?_ ?_
    · exact hj54
    refine zs_aload_n dX11_closesWell_15 rfl 0 rfl ?_
    refine zs_getR dX11_closesWell_16 fl_X11_70 rfl (fun y2 => ?_)
    refine zs_aload_n dX11_closesWell_19 rfl 0 rfl ?_
    refine zs_getR dX11_closesWell_20 fl_X11_76 rfl (fun y3 => ?_)
    refine zs_iload_n dX11_closesWell_23 rfl 1 rfl ?_
    refine zs_ldI dX11_closesWell_24 (fun y4 => ?_)
    refine zs_iload_n dX11_closesWell_25 rfl 2 rfl ?_
    refine zs_iload_n dX11_closesWell_26 rfl 3 rfl ?_
    refine zs_invSPI (rest := []) [.ref (E.2.2.2.1 + y2), .int y4, .int v2, .int v3] dX11_closesWell_27 lk_X11_333 rfl (zd1 rfl hd) rfl (Nat.le_of_ble_eq_true rfl) (ct_X11_between E hE _ (zdl rfl hd) _ _ _ _ _) (fun y5 => ?_)
    refine zs_iconst (v := 1) dX11_closesWell_30 ciconst_1 ?_
    refine zs_jn (fun j39 => ∀ (s6 : Int32), zSy E mu_X11_closesWell d M (some (.int x0), M) x0 (j39 s6) 39 [(0, .ref (E.2.2.2.1 + v0)), (1, .int v1), (2, .int v2), (3, .int v3)] [.int s6] M) (fun s6 => ?_) (fun j39 hj39 => ?_)
    · refine zs_aload_n dX11_closesWell_39 rfl 0 rfl ?_
      refine zs_getR dX11_closesWell_40 fl_X11_7 rfl (fun y7 => ?_)
      refine zs_iload_n dX11_closesWell_43 rfl 1 rfl ?_
      refine zs_ldI dX11_closesWell_44 (fun y8 => ?_)
      refine zs_iload_n dX11_closesWell_45 rfl 3 rfl ?_
      refine zs_invSPI (rest := [.int s6]) [.int y8, .int v3] dX11_closesWell_46 lk_X11_97 rfl (zd1 rfl hd) rfl (Nat.le_of_ble_eq_true rfl) (ct_X11_has E hE _ (zdl rfl hd) _ _ _) (fun y9 => ?_)
      refine zs_icmp_eq dX11_closesWell_49 rfl ?_ ?_
      · exact hj54
      refine zs_iconst (v := 0) dX11_closesWell_52 ciconst_0 ?_
      exact zs_iretP dX11_closesWell_53 rfl
    refine zs_icmp_ne dX11_closesWell_31 rfl ?_ ?_
    · refine zs_iconst (v := 0) dX11_closesWell_38 ciconst_0 ?_
      exact hj39 0
    refine zs_iconst (v := 1) dX11_closesWell_34 ciconst_1 ?_
    refine zs_goto dX11_closesWell_35 rfl ?_
    exact hj39 1
set_option maxHeartbeats 4000000 in
set_option maxRecDepth 100000 in
theorem ct_X11_closesWell (E : zEnv) (hE : zEok E) (d : Nat) (hd : 2 ≤ d) (v0 : Nat) (v1 : Int32) (v2 : Int32) (M : zM) (x0 : Int32) (hx : fp_X11_closesWell v0 v1 v2 M = some x0) : zCt E mu_X11_closesWell d [.ref (E.2.2.2.1 + v0), .int v1, .int v2] M (some (.int x0), M) := by
  refine zCt_of (μ := mu_X11_closesWell) (t := fp_X11_closesWell v0 v1 v2 M) rfl rfl (Nat.le_of_ble_eq_true rfl) hx ?_
  change zSy E mu_X11_closesWell d M (some (.int x0), M) x0 (fp_X11_closesWell v0 v1 v2 M) 0 [(0, .ref (E.2.2.2.1 + v0)), (1, .int v1), (2, .int v2)] [] M
  unfold fp_X11_closesWell
  refine zs_this (fun hth => ?_)
  refine zs_iconst (v := 0) dX11_closesWell_0 ciconst_0 ?_
  refine zs_istore_n (loc' := [(0, .ref (E.2.2.2.1 + v0)), (1, .int v1), (2, .int v2), (3, .int 0)]) dX11_closesWell_1 rfl (Nat.le_of_ble_eq_true rfl) [1, 2, 3, 0] rfl ?_
  exact w_X11_closesWell_L2 E hE d hd _ _ _ _ _ _ _
theorem dX11_grows_0 : decode cX11_grows 0 = .ok (.iload_n 1, 1) := by decide +kernel
theorem dX11_grows_1 : decode cX11_grows 1 = .ok (.aload_n 0, 1) := by decide +kernel
theorem dX11_grows_2 : decode cX11_grows 2 = .ok (.invokevirtual 340, 3) := by decide +kernel
theorem dX11_grows_5 : decode cX11_grows 5 = .ok (.if_icmp .ne 8, 3) := by decide +kernel
theorem dX11_grows_8 : decode cX11_grows 8 = .ok (.aload_n 0, 1) := by decide +kernel
theorem dX11_grows_9 : decode cX11_grows 9 = .ok (.invokevirtual 379, 3) := by decide +kernel
theorem dX11_grows_12 : decode cX11_grows 12 = .ok (.return_, 1) := by decide +kernel
theorem dX11_grows_13 : decode cX11_grows 13 = .ok (.iconst 0, 1) := by decide +kernel
theorem dX11_grows_14 : decode cX11_grows 14 = .ok (.istore_n 2, 1) := by decide +kernel
theorem dX11_grows_15 : decode cX11_grows 15 = .ok (.iload_n 2, 1) := by decide +kernel
theorem dX11_grows_16 : decode cX11_grows 16 = .ok (.iload_n 1, 1) := by decide +kernel
theorem dX11_grows_17 : decode cX11_grows 17 = .ok (.ifCond .ne 7, 3) := by decide +kernel
theorem dX11_grows_20 : decode cX11_grows 20 = .ok (.iconst 1, 1) := by decide +kernel
theorem dX11_grows_21 : decode cX11_grows 21 = .ok (.goto 7, 3) := by decide +kernel
theorem dX11_grows_24 : decode cX11_grows 24 = .ok (.aload_n 0, 1) := by decide +kernel
theorem dX11_grows_25 : decode cX11_grows 25 = .ok (.getfield 101, 3) := by decide +kernel
theorem dX11_grows_28 : decode cX11_grows 28 = .ok (.if_icmp .ge 98, 3) := by decide +kernel
theorem dX11_grows_31 : decode cX11_grows 31 = .ok (.aload_n 0, 1) := by decide +kernel
theorem dX11_grows_32 : decode cX11_grows 32 = .ok (.getfield 376, 3) := by decide +kernel
theorem dX11_grows_35 : decode cX11_grows 35 = .ok (.ifCond .ne 91, 3) := by decide +kernel
theorem dX11_grows_38 : decode cX11_grows 38 = .ok (.aload_n 0, 1) := by decide +kernel
theorem dX11_grows_39 : decode cX11_grows 39 = .ok (.getfield 73, 3) := by decide +kernel
theorem dX11_grows_42 : decode cX11_grows 42 = .ok (.iload_n 2, 1) := by decide +kernel
theorem dX11_grows_43 : decode cX11_grows 43 = .ok (.iaload, 1) := by decide +kernel
theorem dX11_grows_44 : decode cX11_grows 44 = .ok (.iconst 2, 1) := by decide +kernel
theorem dX11_grows_45 : decode cX11_grows 45 = .ok (.if_icmp .eq 75, 3) := by decide +kernel
theorem dX11_grows_48 : decode cX11_grows 48 = .ok (.aload_n 0, 1) := by decide +kernel
theorem dX11_grows_49 : decode cX11_grows 49 = .ok (.getfield 73, 3) := by decide +kernel
theorem dX11_grows_52 : decode cX11_grows 52 = .ok (.iload_n 2, 1) := by decide +kernel
theorem dX11_grows_53 : decode cX11_grows 53 = .ok (.iaload, 1) := by decide +kernel
theorem dX11_grows_54 : decode cX11_grows 54 = .ok (.iconst 1, 1) := by decide +kernel
theorem dX11_grows_55 : decode cX11_grows 55 = .ok (.if_icmp .ne 15, 3) := by decide +kernel
theorem dX11_grows_58 : decode cX11_grows 58 = .ok (.aload_n 0, 1) := by decide +kernel
theorem dX11_grows_59 : decode cX11_grows 59 = .ok (.iload_n 2, 1) := by decide +kernel
theorem dX11_grows_60 : decode cX11_grows 60 = .ok (.iload_n 1, 1) := by decide +kernel
theorem dX11_grows_61 : decode cX11_grows 61 = .ok (.invokevirtual 382, 3) := by decide +kernel
theorem dX11_grows_64 : decode cX11_grows 64 = .ok (.ifCond .ne 6, 3) := by decide +kernel
theorem dX11_grows_67 : decode cX11_grows 67 = .ok (.goto 53, 3) := by decide +kernel
theorem dX11_grows_70 : decode cX11_grows 70 = .ok (.aload_n 0, 1) := by decide +kernel
theorem dX11_grows_71 : decode cX11_grows 71 = .ok (.getfield 70, 3) := by decide +kernel
theorem dX11_grows_74 : decode cX11_grows 74 = .ok (.iload_n 1, 1) := by decide +kernel
theorem dX11_grows_75 : decode cX11_grows 75 = .ok (.iload_n 2, 1) := by decide +kernel
theorem dX11_grows_76 : decode cX11_grows 76 = .ok (.iastore, 1) := by decide +kernel
theorem dX11_grows_77 : decode cX11_grows 77 = .ok (.aload_n 0, 1) := by decide +kernel
theorem dX11_grows_78 : decode cX11_grows 78 = .ok (.getfield 73, 3) := by decide +kernel
theorem dX11_grows_81 : decode cX11_grows 81 = .ok (.iload_n 2, 1) := by decide +kernel
theorem dX11_grows_82 : decode cX11_grows 82 = .ok (.iaload, 1) := by decide +kernel
theorem dX11_grows_83 : decode cX11_grows 83 = .ok (.ifCond .ne 10, 3) := by decide +kernel
theorem dX11_grows_86 : decode cX11_grows 86 = .ok (.aload_n 0, 1) := by decide +kernel
theorem dX11_grows_87 : decode cX11_grows 87 = .ok (.getfield 76, 3) := by decide +kernel
theorem dX11_grows_90 : decode cX11_grows 90 = .ok (.iload_n 2, 1) := by decide +kernel
theorem dX11_grows_91 : decode cX11_grows 91 = .ok (.iload_n 1, 1) := by decide +kernel
theorem dX11_grows_92 : decode cX11_grows 92 = .ok (.iastore, 1) := by decide +kernel
theorem dX11_grows_93 : decode cX11_grows 93 = .ok (.aload_n 0, 1) := by decide +kernel
theorem dX11_grows_94 : decode cX11_grows 94 = .ok (.getfield 73, 3) := by decide +kernel
theorem dX11_grows_97 : decode cX11_grows 97 = .ok (.iload_n 2, 1) := by decide +kernel
theorem dX11_grows_98 : decode cX11_grows 98 = .ok (.dup2, 1) := by decide +kernel
theorem dX11_grows_99 : decode cX11_grows 99 = .ok (.iaload, 1) := by decide +kernel
theorem dX11_grows_100 : decode cX11_grows 100 = .ok (.iconst 1, 1) := by decide +kernel
theorem dX11_grows_101 : decode cX11_grows 101 = .ok (.iadd, 1) := by decide +kernel
theorem dX11_grows_102 : decode cX11_grows 102 = .ok (.iastore, 1) := by decide +kernel
theorem dX11_grows_103 : decode cX11_grows 103 = .ok (.aload_n 0, 1) := by decide +kernel
theorem dX11_grows_104 : decode cX11_grows 104 = .ok (.iload_n 1, 1) := by decide +kernel
theorem dX11_grows_105 : decode cX11_grows 105 = .ok (.iconst 1, 1) := by decide +kernel
theorem dX11_grows_106 : decode cX11_grows 106 = .ok (.iadd, 1) := by decide +kernel
theorem dX11_grows_107 : decode cX11_grows 107 = .ok (.invokevirtual 385, 3) := by decide +kernel
theorem dX11_grows_110 : decode cX11_grows 110 = .ok (.aload_n 0, 1) := by decide +kernel
theorem dX11_grows_111 : decode cX11_grows 111 = .ok (.getfield 73, 3) := by decide +kernel
theorem dX11_grows_114 : decode cX11_grows 114 = .ok (.iload_n 2, 1) := by decide +kernel
theorem dX11_grows_115 : decode cX11_grows 115 = .ok (.dup2, 1) := by decide +kernel
theorem dX11_grows_116 : decode cX11_grows 116 = .ok (.iaload, 1) := by decide +kernel
theorem dX11_grows_117 : decode cX11_grows 117 = .ok (.iconst 1, 1) := by decide +kernel
theorem dX11_grows_118 : decode cX11_grows 118 = .ok (.isub, 1) := by decide +kernel
theorem dX11_grows_119 : decode cX11_grows 119 = .ok (.iastore, 1) := by decide +kernel
theorem dX11_grows_120 : decode cX11_grows 120 = .ok (.iinc 2 1, 3) := by decide +kernel
theorem dX11_grows_123 : decode cX11_grows 123 = .ok (.goto (-108), 3) := by decide +kernel
theorem dX11_grows_126 : decode cX11_grows 126 = .ok (.return_, 1) := by decide +kernel
def fp_X11_grows_L15 (self : Nat → Int32 → zM → Option (zM)) (v0 : Nat) (v1 : Int32) : Nat → Int32 → zM → Option (zM)
  | 0, _, _ => none
  | n + 1, v2, M =>
    zjn (fun (s2 : Int32) (s3 : Int32) =>
        if s3 ≥ s2 then (
          some M)
        else (
          (zgI 9 M v0 42).bind fun (y4 : Int32) =>
          if y4 ≠ 0 then (
            some M)
          else (
            (zgR 9 M v0 32).bind fun (y5 : Nat) =>
            (zlI 100 M y5 v2).bind fun (y6 : Int32) =>
            zjn (fun (M7 : zM) =>
                fp_X11_grows_L15 self v0 v1 n (v2 + 1) M7)
              (fun j120 =>
                if y6 = 2 then (
                  j120 M)
                else (
                  (zgR 9 M v0 32).bind fun (y8 : Nat) =>
                  (zlI 100 M y8 v2).bind fun (y9 : Int32) =>
                  zjn (
                      (zgR 9 M v0 31).bind fun (y10 : Nat) =>
                      (ztI M y10 v1 v2).bind fun (M11 : zM) =>
                      (zgR 9 M11 v0 32).bind fun (y12 : Nat) =>
                      (zlI 100 M11 y12 v2).bind fun (y13 : Int32) =>
                      zjn (fun (M14 : zM) =>
                          (zgR 9 M14 v0 32).bind fun (y15 : Nat) =>
                          (zlI 100 M14 y15 v2).bind fun (y16 : Int32) =>
                          (ztI M14 y15 v2 (y16 + 1)).bind fun (M17 : zM) =>
                          (self v0 (v1 + 1) M17).bind fun (M18 : zM) =>
                          (zgR 9 M18 v0 32).bind fun (y19 : Nat) =>
                          (zlI 100 M18 y19 v2).bind fun (y20 : Int32) =>
                          (ztI M18 y19 v2 (y20 - 1)).bind fun (M21 : zM) =>
                          j120 M21)
                        (fun j93 =>
                          if y13 ≠ 0 then (
                            j93 M11)
                          else (
                            (zgR 9 M11 v0 33).bind fun (y22 : Nat) =>
                            (ztI M11 y22 v2 v1).bind fun (M23 : zM) =>
                            j93 M23)))
                    (fun j70 =>
                      if y9 ≠ 1 then (
                        j70)
                      else (
                        (fp_X11_closesWell v0 v2 v1 M).bind fun (y24 : Int32) =>
                        if y24 ≠ 0 then (
                          j70)
                        else (
                          j120 M))))))))
      (fun j28 =>
        if v1 ≠ 0 then (
          (zgI 9 M v0 0).bind fun (y25 : Int32) =>
          j28 y25 v2)
        else (
          j28 1 v2))
def fp_X11_grows : Nat → Nat → Int32 → zM → Option (zM)
  | 0, _, _, _ => none
  | n + 1, v0, v1, M =>
    zthis 9 M v0 (
      (fp_X11_length v0 M).bind fun (y1 : Int32) =>
      if v1 ≠ y1 then (
        fp_X11_grows_L15 (fun w0 w1 Mw => fp_X11_grows n w0 w1 Mw) v0 v1 FU 0 M)
      else (
        (fp_X11_isModel v0 M).bind fun (M26 : zM) =>
        some M26))
set_option maxHeartbeats 4000000 in
set_option maxRecDepth 100000 in
theorem th_X11_grows : ∀ {n : Nat} {v0 : Nat} {v1 : Int32} {M : zM} {x0 : zM} (_ : fp_X11_grows n v0 v1 M = some x0), v0 < zS M ∧ kd v0 = 9 := by
  intro n v0 v1 M x0 h
  cases n with
  | zero => rw [fp_X11_grows] at h; cases h
  | succ n => rw [fp_X11_grows] at h; exact zthis_of h
set_option maxHeartbeats 4000000 in
set_option maxRecDepth 100000 in
theorem w_X11_grows_L15 (E : zEnv) (hE : zEok E) (d : Nat) (hd : 5 ≤ d) (M0 : zM) (x0 : zM) (self : Nat → Int32 → zM → Option (zM)) (hself : ∀ (v0 : Nat) (v1 : Int32) (M : zM) (y0 : zM), self v0 v1 M = some y0 → zCt E mu_X11_grows (d - 1) [.ref (E.2.2.2.1 + v0), .int v1] M (none, y0)) (hthis : ∀ (v0 : Nat) (v1 : Int32) (M : zM) (y0 : zM), self v0 v1 M = some y0 → v0 < zS M ∧ kd v0 = 9) (v0 : Nat) (v1 : Int32)  : ∀ (n : Nat) (v2 : Int32) (M : zM), zSy E mu_X11_grows d M0 (none, x0) x0 (fp_X11_grows_L15 self v0 v1 n v2 M) 15 [(0, .ref (E.2.2.2.1 + v0)), (1, .int v1), (2, .int v2)] [] M := by
  intro n
  induction n with
  | zero =>
    intro v2 M
    rw [fp_X11_grows_L15]
    exact zs_none
  | succ n ih =>
    intro v2 M
    rw [fp_X11_grows_L15]
    refine zs_iload_n dX11_grows_15 rfl 2 rfl ?_
    refine zs_iload_n dX11_grows_16 rfl 1 rfl ?_
    refine zs_jn (fun j28 => ∀ (s2 : Int32) (s3 : Int32), zSy E mu_X11_grows d M0 (none, x0) x0 (j28 s2 s3) 28 [(0, .ref (E.2.2.2.1 + v0)), (1, .int v1), (2, .int v2)] [.int s2, .int s3] M) (fun s2 s3 => ?_) (fun j28 hj28 => ?_)
    · refine zs_icmp_ge dX11_grows_28 rfl ?_ ?_
      · exact zs_vret dX11_grows_126 trivial
      refine zs_aload_n dX11_grows_31 rfl 0 rfl ?_
      refine zs_getI dX11_grows_32 fl_X11_376 rfl (fun y4 => ?_)
      refine zs_if_ne dX11_grows_35 rfl ?_ ?_
      · exact zs_vret dX11_grows_126 trivial
      refine zs_aload_n dX11_grows_38 rfl 0 rfl ?_
      refine zs_getR dX11_grows_39 fl_X11_73 rfl (fun y5 => ?_)
      refine zs_iload_n dX11_grows_42 rfl 2 rfl ?_
      refine zs_ldI dX11_grows_43 (fun y6 => ?_)
      refine zs_iconst (v := 2) dX11_grows_44 ciconst_2 ?_
      refine zs_jn (fun j120 => ∀ (M7 : zM), zSy E mu_X11_grows d M0 (none, x0) x0 (j120 M7) 120 [(0, .ref (E.2.2.2.1 + v0)), (1, .int v1), (2, .int v2)] [] M7) (fun M7 => ?_) (fun j120 hj120 => ?_)
      · refine zs_iinc (v := (v2 + 1)) (loc' := [(0, .ref (E.2.2.2.1 + v0)), (1, .int v1), (2, .int (v2 + 1))]) dX11_grows_120 2 rfl (by rfl) (Nat.le_of_ble_eq_true rfl) [1, 2, 0] rfl ?_
        refine zs_goto dX11_grows_123 rfl ?_
        exact ih (v2 + 1) M7
      refine zs_icmp_eq dX11_grows_45 rfl ?_ ?_
      · exact hj120 M
      refine zs_aload_n dX11_grows_48 rfl 0 rfl ?_
      refine zs_getR dX11_grows_49 fl_X11_73 rfl (fun y8 => ?_)
      refine zs_iload_n dX11_grows_52 rfl 2 rfl ?_
      refine zs_ldI dX11_grows_53 (fun y9 => ?_)
      refine zs_iconst (v := 1) dX11_grows_54 ciconst_1 ?_
      refine zs_jn (fun j70 => zSy E mu_X11_grows d M0 (none, x0) x0 (j70) 70 [(0, .ref (E.2.2.2.1 + v0)), (1, .int v1), (2, .int v2)] [] M) ?_ (fun j70 hj70 => ?_)
      · refine zs_aload_n dX11_grows_70 rfl 0 rfl ?_
        refine zs_getR dX11_grows_71 fl_X11_70 rfl (fun y10 => ?_)
        refine zs_iload_n dX11_grows_74 rfl 1 rfl ?_
        refine zs_iload_n dX11_grows_75 rfl 2 rfl ?_
        refine zs_stI dX11_grows_76 (fun M11 => ?_)
        refine zs_aload_n dX11_grows_77 rfl 0 rfl ?_
        refine zs_getR dX11_grows_78 fl_X11_73 rfl (fun y12 => ?_)
        refine zs_iload_n dX11_grows_81 rfl 2 rfl ?_
        refine zs_ldI dX11_grows_82 (fun y13 => ?_)
        refine zs_jn (fun j93 => ∀ (M14 : zM), zSy E mu_X11_grows d M0 (none, x0) x0 (j93 M14) 93 [(0, .ref (E.2.2.2.1 + v0)), (1, .int v1), (2, .int v2)] [] M14) (fun M14 => ?_) (fun j93 hj93 => ?_)
        · refine zs_aload_n dX11_grows_93 rfl 0 rfl ?_
          refine zs_getR dX11_grows_94 fl_X11_73 rfl (fun y15 => ?_)
          refine zs_iload_n dX11_grows_97 rfl 2 rfl ?_
          refine zs_dup2 dX11_grows_98 rfl rfl ?_
          refine zs_ldI dX11_grows_99 (fun y16 => ?_)
          refine zs_iconst (v := 1) dX11_grows_100 ciconst_1 ?_
          refine zs_iadd dX11_grows_101 ?_
          refine zs_stI dX11_grows_102 (fun M17 => ?_)
          refine zs_aload_n dX11_grows_103 rfl 0 rfl ?_
          refine zs_iload_n dX11_grows_104 rfl 1 rfl ?_
          refine zs_iconst (v := 1) dX11_grows_105 ciconst_1 ?_
          refine zs_iadd dX11_grows_106 ?_
          refine zs_invVWV (rest := []) [.int (v1 + 1)] dX11_grows_107 lk_X11_385 rfl (fun _ h => hthis _ _ _ _ h) (zd1 rfl hd) rfl (Nat.le_of_ble_eq_true rfl) (hself _ _ _) (fun M18 => ?_)
          refine zs_aload_n dX11_grows_110 rfl 0 rfl ?_
          refine zs_getR dX11_grows_111 fl_X11_73 rfl (fun y19 => ?_)
          refine zs_iload_n dX11_grows_114 rfl 2 rfl ?_
          refine zs_dup2 dX11_grows_115 rfl rfl ?_
          refine zs_ldI dX11_grows_116 (fun y20 => ?_)
          refine zs_iconst (v := 1) dX11_grows_117 ciconst_1 ?_
          refine zs_isub dX11_grows_118 ?_
          refine zs_stI dX11_grows_119 (fun M21 => ?_)
          exact hj120 M21
        refine zs_if_ne dX11_grows_83 rfl ?_ ?_
        · exact hj93 M11
        refine zs_aload_n dX11_grows_86 rfl 0 rfl ?_
        refine zs_getR dX11_grows_87 fl_X11_76 rfl (fun y22 => ?_)
        refine zs_iload_n dX11_grows_90 rfl 2 rfl ?_
        refine zs_iload_n dX11_grows_91 rfl 1 rfl ?_
        refine zs_stI dX11_grows_92 (fun M23 => ?_)
        exact hj93 M23
      refine zs_icmp_ne dX11_grows_55 rfl ?_ ?_
      · exact hj70
      refine zs_aload_n dX11_grows_58 rfl 0 rfl ?_
      refine zs_iload_n dX11_grows_59 rfl 2 rfl ?_
      refine zs_iload_n dX11_grows_60 rfl 1 rfl ?_
      refine zs_invVPI (rest := []) [.int v2, .int v1] dX11_grows_61 lk_X11_382 rfl (fun _ h => th_X11_closesWell h) (zd1 rfl hd) rfl (Nat.le_of_ble_eq_true rfl) (ct_X11_closesWell E hE _ (zdl rfl hd) _ _ _ _) (fun y24 => ?_)
      refine zs_if_ne dX11_grows_64 rfl ?_ ?_
      · exact hj70
      refine zs_goto dX11_grows_67 rfl ?_
      exact hj120 M
    refine zs_if_ne dX11_grows_17 rfl ?_ ?_
    · refine zs_aload_n dX11_grows_24 rfl 0 rfl ?_
      refine zs_getI dX11_grows_25 fl_X11_101 rfl (fun y25 => ?_)
      exact hj28 y25 v2
    refine zs_iconst (v := 1) dX11_grows_20 ciconst_1 ?_
    refine zs_goto dX11_grows_21 rfl ?_
    exact hj28 1 v2
set_option maxHeartbeats 4000000 in
set_option maxRecDepth 100000 in
theorem ct_X11_grows (E : zEnv) (hE : zEok E) : ∀ (n : Nat) (d : Nat) (_ : n + 5 ≤ d) (v0 : Nat) (v1 : Int32) (M : zM) (x0 : zM) (_ : fp_X11_grows n v0 v1 M = some x0), zCt E mu_X11_grows d [.ref (E.2.2.2.1 + v0), .int v1] M (none, x0) := by
  intro n
  induction n with
  | zero =>
    intro d hd v0 v1 M x0 hx
    rw [fp_X11_grows] at hx
    cases hx
  | succ n ih0 =>
    intro d hd0 v0 v1 M x0 hx
    have hd : 5 ≤ d := by omega
    have ih := ih0 (d - 1) (by omega)
    refine zCt_of (μ := mu_X11_grows) (t := fp_X11_grows (n + 1) v0 v1 M) rfl rfl (Nat.le_of_ble_eq_true rfl) hx ?_
    change zSy E mu_X11_grows d M (none, x0) x0 (fp_X11_grows (n + 1) v0 v1 M) 0 [(0, .ref (E.2.2.2.1 + v0)), (1, .int v1)] [] M
    rw [fp_X11_grows]
    refine zs_this (fun hth => ?_)
    refine zs_iload_n dX11_grows_0 rfl 1 rfl ?_
    refine zs_aload_n dX11_grows_1 rfl 0 rfl ?_
    refine zs_invVPI (rest := [.int v1]) [] dX11_grows_2 lk_X11_340 rfl (fun _ h => th_X11_length h) (zd1 rfl hd) rfl (Nat.le_of_ble_eq_true rfl) (ct_X11_length E hE _ (zdl rfl hd) _ _) (fun y1 => ?_)
    refine zs_icmp_ne dX11_grows_5 rfl ?_ ?_
    · refine zs_iconst (v := 0) dX11_grows_13 ciconst_0 ?_
      refine zs_istore_n (loc' := [(0, .ref (E.2.2.2.1 + v0)), (1, .int v1), (2, .int 0)]) dX11_grows_14 rfl (Nat.le_of_ble_eq_true rfl) [1, 2, 0] rfl ?_
      exact w_X11_grows_L15 E hE d hd _ _ _ ih (fun _ _ _ _ h => th_X11_grows h) _ _ _ _ _
    refine zs_aload_n dX11_grows_8 rfl 0 rfl ?_
    refine zs_invVWV (rest := []) [] dX11_grows_9 lk_X11_379 rfl (fun _ h => th_X11_isModel h) (zd1 rfl hd) rfl (Nat.le_of_ble_eq_true rfl) (ct_X11_isModel E hE _ (zdl rfl hd) _ _) (fun M26 => ?_)
    exact zs_vret dX11_grows_12 trivial
theorem dX11_goes_0 : decode cX11_goes 0 = .ok (.aload_n 0, 1) := by decide +kernel
theorem dX11_goes_1 : decode cX11_goes 1 = .ok (.iload_n 1, 1) := by decide +kernel
theorem dX11_goes_2 : decode cX11_goes 2 = .ok (.putfield 360, 3) := by decide +kernel
theorem dX11_goes_5 : decode cX11_goes 5 = .ok (.aload_n 0, 1) := by decide +kernel
theorem dX11_goes_6 : decode cX11_goes 6 = .ok (.iconst 0, 1) := by decide +kernel
theorem dX11_goes_7 : decode cX11_goes 7 = .ok (.putfield 357, 3) := by decide +kernel
theorem dX11_goes_10 : decode cX11_goes 10 = .ok (.aload_n 0, 1) := by decide +kernel
theorem dX11_goes_11 : decode cX11_goes 11 = .ok (.iconst 0, 1) := by decide +kernel
theorem dX11_goes_12 : decode cX11_goes 12 = .ok (.putfield 373, 3) := by decide +kernel
theorem dX11_goes_15 : decode cX11_goes 15 = .ok (.aload_n 0, 1) := by decide +kernel
theorem dX11_goes_16 : decode cX11_goes 16 = .ok (.iconst 0, 1) := by decide +kernel
theorem dX11_goes_17 : decode cX11_goes 17 = .ok (.putfield 376, 3) := by decide +kernel
theorem dX11_goes_20 : decode cX11_goes 20 = .ok (.iconst 0, 1) := by decide +kernel
theorem dX11_goes_21 : decode cX11_goes 21 = .ok (.istore_n 2, 1) := by decide +kernel
theorem dX11_goes_22 : decode cX11_goes 22 = .ok (.iload_n 2, 1) := by decide +kernel
theorem dX11_goes_23 : decode cX11_goes 23 = .ok (.bipush 8, 2) := by decide +kernel
theorem dX11_goes_25 : decode cX11_goes 25 = .ok (.if_icmp .ge 16, 3) := by decide +kernel
theorem dX11_goes_28 : decode cX11_goes 28 = .ok (.aload_n 0, 1) := by decide +kernel
theorem dX11_goes_29 : decode cX11_goes 29 = .ok (.getfield 73, 3) := by decide +kernel
theorem dX11_goes_32 : decode cX11_goes 32 = .ok (.iload_n 2, 1) := by decide +kernel
theorem dX11_goes_33 : decode cX11_goes 33 = .ok (.iconst 0, 1) := by decide +kernel
theorem dX11_goes_34 : decode cX11_goes 34 = .ok (.iastore, 1) := by decide +kernel
theorem dX11_goes_35 : decode cX11_goes 35 = .ok (.iinc 2 1, 3) := by decide +kernel
theorem dX11_goes_38 : decode cX11_goes 38 = .ok (.goto (-16), 3) := by decide +kernel
theorem dX11_goes_41 : decode cX11_goes 41 = .ok (.aload_n 0, 1) := by decide +kernel
theorem dX11_goes_42 : decode cX11_goes 42 = .ok (.iconst 0, 1) := by decide +kernel
theorem dX11_goes_43 : decode cX11_goes 43 = .ok (.invokevirtual 385, 3) := by decide +kernel
theorem dX11_goes_46 : decode cX11_goes 46 = .ok (.aload_n 0, 1) := by decide +kernel
theorem dX11_goes_47 : decode cX11_goes 47 = .ok (.getfield 357, 3) := by decide +kernel
theorem dX11_goes_50 : decode cX11_goes 50 = .ok (.ireturn, 1) := by decide +kernel
def fp_X11_goes_L22 (v0 : Nat) : Nat → Int32 → zM → Option (Int32 × zM)
  | 0, _, _ => none
  | n + 1, v2, M =>
    if v2 ≥ 8 then (
      (fp_X11_grows FD v0 0 M).bind fun (M5 : zM) =>
      (zgI 9 M5 v0 36).bind fun (y6 : Int32) =>
      some (y6, M5))
    else (
      (zgR 9 M v0 32).bind fun (y7 : Nat) =>
      (ztI M y7 v2 0).bind fun (M8 : zM) =>
      fp_X11_goes_L22 v0 n (v2 + 1) M8)
def fp_X11_goes (v0 : Nat) (v1 : Int32) (M : zM) : Option (Int32 × zM) :=
  zthis 9 M v0 (
    (zpI 9 M v0 37 v1).bind fun (M1 : zM) =>
    (zpI 9 M1 v0 36 0).bind fun (M2 : zM) =>
    (zpI 9 M2 v0 38 0).bind fun (M3 : zM) =>
    (zpI 9 M3 v0 42 0).bind fun (M4 : zM) =>
    fp_X11_goes_L22 v0 FU 0 M4)
set_option maxHeartbeats 4000000 in
set_option maxRecDepth 100000 in
theorem th_X11_goes {v0 : Nat} {v1 : Int32} {M : zM} {x0 : Int32 × zM} (h : fp_X11_goes v0 v1 M = some x0) : v0 < zS M ∧ kd v0 = 9 := by
  unfold fp_X11_goes at h
  exact zthis_of h
set_option maxHeartbeats 4000000 in
set_option maxRecDepth 100000 in
theorem w_X11_goes_L22 (E : zEnv) (hE : zEok E) (d : Nat) (hd : 26 ≤ d) (M0 : zM) (x0 : Int32 × zM) (v0 : Nat)  : ∀ (n : Nat) (v2 : Int32) (M : zM), zSy E mu_X11_goes d M0 (some (.int x0.1), x0.2) x0 (fp_X11_goes_L22 v0 n v2 M) 22 [(0, .ref (E.2.2.2.1 + v0)), (2, .int v2)] [] M := by
  intro n
  induction n with
  | zero =>
    intro v2 M
    rw [fp_X11_goes_L22]
    exact zs_none
  | succ n ih =>
    intro v2 M
    rw [fp_X11_goes_L22]
    refine zs_iload_n dX11_goes_22 rfl 1 rfl ?_
    refine zs_bipush (v := 8) dX11_goes_23 cbipush_8 ?_
    refine zs_icmp_ge dX11_goes_25 rfl ?_ ?_
    · refine zs_aload_n dX11_goes_41 rfl 0 rfl ?_
      refine zs_iconst (v := 0) dX11_goes_42 ciconst_0 ?_
      refine zs_invVWV (rest := []) [.int 0] dX11_goes_43 lk_X11_385 rfl (fun _ h => th_X11_grows h) (zd1 rfl hd) rfl (Nat.le_of_ble_eq_true rfl) (ct_X11_grows E hE FD _ (zdl rfl hd) _ _ _) (fun M5 => ?_)
      refine zs_aload_n dX11_goes_46 rfl 0 rfl ?_
      refine zs_getI dX11_goes_47 fl_X11_357 rfl (fun y6 => ?_)
      exact zs_iretW dX11_goes_50 rfl
    refine zs_aload_n dX11_goes_28 rfl 0 rfl ?_
    refine zs_getR dX11_goes_29 fl_X11_73 rfl (fun y7 => ?_)
    refine zs_iload_n dX11_goes_32 rfl 1 rfl ?_
    refine zs_iconst (v := 0) dX11_goes_33 ciconst_0 ?_
    refine zs_stI dX11_goes_34 (fun M8 => ?_)
    refine zs_iinc (v := (v2 + 1)) (loc' := [(0, .ref (E.2.2.2.1 + v0)), (2, .int (v2 + 1))]) dX11_goes_35 1 rfl (by rfl) (Nat.le_of_ble_eq_true rfl) [1, 0] rfl ?_
    refine zs_goto dX11_goes_38 rfl ?_
    exact ih (v2 + 1) M8
set_option maxHeartbeats 4000000 in
set_option maxRecDepth 100000 in
theorem ct_X11_goes (E : zEnv) (hE : zEok E) (d : Nat) (hd : 26 ≤ d) (v0 : Nat) (v1 : Int32) (M : zM) (x0 : Int32 × zM) (hx : fp_X11_goes v0 v1 M = some x0) : zCt E mu_X11_goes d [.ref (E.2.2.2.1 + v0), .int v1] M (some (.int x0.1), x0.2) := by
  refine zCt_of (μ := mu_X11_goes) (t := fp_X11_goes v0 v1 M) rfl rfl (Nat.le_of_ble_eq_true rfl) hx ?_
  change zSy E mu_X11_goes d M (some (.int x0.1), x0.2) x0 (fp_X11_goes v0 v1 M) 0 [(0, .ref (E.2.2.2.1 + v0)), (1, .int v1)] [] M
  unfold fp_X11_goes
  refine zs_this (fun hth => ?_)
  refine zs_aload_n dX11_goes_0 rfl 0 rfl ?_
  refine zs_iload_n dX11_goes_1 rfl 1 rfl ?_
  refine zs_putI dX11_goes_2 fl_X11_360 ft_X11 rfl rfl rfl rfl rfl (fun M1 => ?_)
  refine zs_aload_n dX11_goes_5 rfl 0 rfl ?_
  refine zs_iconst (v := 0) dX11_goes_6 ciconst_0 ?_
  refine zs_putI dX11_goes_7 fl_X11_357 ft_X11 rfl rfl rfl rfl rfl (fun M2 => ?_)
  refine zs_aload_n dX11_goes_10 rfl 0 rfl ?_
  refine zs_iconst (v := 0) dX11_goes_11 ciconst_0 ?_
  refine zs_putI dX11_goes_12 fl_X11_373 ft_X11 rfl rfl rfl rfl rfl (fun M3 => ?_)
  refine zs_aload_n dX11_goes_15 rfl 0 rfl ?_
  refine zs_iconst (v := 0) dX11_goes_16 ciconst_0 ?_
  refine zs_putI dX11_goes_17 fl_X11_376 ft_X11 rfl rfl rfl rfl rfl (fun M4 => ?_)
  refine zs_iconst (v := 0) dX11_goes_20 ciconst_0 ?_
  refine zs_istore_n (loc' := [(0, .ref (E.2.2.2.1 + v0)), (2, .int 0)]) dX11_goes_21 rfl (Nat.le_of_ble_eq_true rfl) [1, 0] rfl ?_
  exact w_X11_goes_L22 E hE d hd _ _ _ _ _ _
theorem dX11_models_0 : decode cX11_models 0 = .ok (.aload_n 0, 1) := by decide +kernel
theorem dX11_models_1 : decode cX11_models 1 = .ok (.iconst 0, 1) := by decide +kernel
theorem dX11_models_2 : decode cX11_models 2 = .ok (.putfield 351, 3) := by decide +kernel
theorem dX11_models_5 : decode cX11_models 5 = .ok (.aload_n 0, 1) := by decide +kernel
theorem dX11_models_6 : decode cX11_models 6 = .ok (.iload_n 1, 1) := by decide +kernel
theorem dX11_models_7 : decode cX11_models 7 = .ok (.invokevirtual 388, 3) := by decide +kernel
theorem dX11_models_10 : decode cX11_models 10 = .ok (.ireturn, 1) := by decide +kernel
def fp_X11_models (v0 : Nat) (v1 : Int32) (M : zM) : Option (Int32 × zM) :=
  zthis 9 M v0 (
    (zpI 9 M v0 39 0).bind fun (M1 : zM) =>
    (fp_X11_goes v0 v1 M1).bind fun p4 => zpp p4 fun (y2 : Int32) (M3 : zM) =>
    some (y2, M3))
set_option maxHeartbeats 4000000 in
set_option maxRecDepth 100000 in
theorem th_X11_models {v0 : Nat} {v1 : Int32} {M : zM} {x0 : Int32 × zM} (h : fp_X11_models v0 v1 M = some x0) : v0 < zS M ∧ kd v0 = 9 := by
  unfold fp_X11_models at h
  exact zthis_of h
set_option maxHeartbeats 4000000 in
set_option maxRecDepth 100000 in
theorem ct_X11_models (E : zEnv) (hE : zEok E) (d : Nat) (hd : 27 ≤ d) (v0 : Nat) (v1 : Int32) (M : zM) (x0 : Int32 × zM) (hx : fp_X11_models v0 v1 M = some x0) : zCt E mu_X11_models d [.ref (E.2.2.2.1 + v0), .int v1] M (some (.int x0.1), x0.2) := by
  refine zCt_of (μ := mu_X11_models) (t := fp_X11_models v0 v1 M) rfl rfl (Nat.le_of_ble_eq_true rfl) hx ?_
  change zSy E mu_X11_models d M (some (.int x0.1), x0.2) x0 (fp_X11_models v0 v1 M) 0 [(0, .ref (E.2.2.2.1 + v0)), (1, .int v1)] [] M
  unfold fp_X11_models
  refine zs_this (fun hth => ?_)
  refine zs_aload_n dX11_models_0 rfl 0 rfl ?_
  refine zs_iconst (v := 0) dX11_models_1 ciconst_0 ?_
  refine zs_putI dX11_models_2 fl_X11_351 ft_X11 rfl rfl rfl rfl rfl (fun M1 => ?_)
  refine zs_aload_n dX11_models_5 rfl 0 rfl ?_
  refine zs_iload_n dX11_models_6 rfl 1 rfl ?_
  refine zs_invVWI (rest := []) [.int v1] dX11_models_7 lk_X11_388 rfl (fun _ h => th_X11_goes h) (zd1 rfl hd) rfl (Nat.le_of_ble_eq_true rfl) (ct_X11_goes E hE _ (zdl rfl hd) _ _ _) (fun y2 M3 => ?_)
  exact zs_iretW dX11_models_10 rfl
theorem dX11_pair_0 : decode cX11_pair 0 = .ok (.iload_n 0, 1) := by decide +kernel
theorem dX11_pair_1 : decode cX11_pair 1 = .ok (.iload_n 1, 1) := by decide +kernel
theorem dX11_pair_2 : decode cX11_pair 2 = .ok (.if_icmp .ge 15, 3) := by decide +kernel
theorem dX11_pair_5 : decode cX11_pair 5 = .ok (.iload_n 1, 1) := by decide +kernel
theorem dX11_pair_6 : decode cX11_pair 6 = .ok (.iload_n 1, 1) := by decide +kernel
theorem dX11_pair_7 : decode cX11_pair 7 = .ok (.iconst 1, 1) := by decide +kernel
theorem dX11_pair_8 : decode cX11_pair 8 = .ok (.isub, 1) := by decide +kernel
theorem dX11_pair_9 : decode cX11_pair 9 = .ok (.imul, 1) := by decide +kernel
theorem dX11_pair_10 : decode cX11_pair 10 = .ok (.iconst 2, 1) := by decide +kernel
theorem dX11_pair_11 : decode cX11_pair 11 = .ok (.idiv, 1) := by decide +kernel
theorem dX11_pair_12 : decode cX11_pair 12 = .ok (.iload_n 0, 1) := by decide +kernel
theorem dX11_pair_13 : decode cX11_pair 13 = .ok (.iadd, 1) := by decide +kernel
theorem dX11_pair_14 : decode cX11_pair 14 = .ok (.goto 12, 3) := by decide +kernel
theorem dX11_pair_17 : decode cX11_pair 17 = .ok (.iload_n 0, 1) := by decide +kernel
theorem dX11_pair_18 : decode cX11_pair 18 = .ok (.iload_n 0, 1) := by decide +kernel
theorem dX11_pair_19 : decode cX11_pair 19 = .ok (.iconst 1, 1) := by decide +kernel
theorem dX11_pair_20 : decode cX11_pair 20 = .ok (.isub, 1) := by decide +kernel
theorem dX11_pair_21 : decode cX11_pair 21 = .ok (.imul, 1) := by decide +kernel
theorem dX11_pair_22 : decode cX11_pair 22 = .ok (.iconst 2, 1) := by decide +kernel
theorem dX11_pair_23 : decode cX11_pair 23 = .ok (.idiv, 1) := by decide +kernel
theorem dX11_pair_24 : decode cX11_pair 24 = .ok (.iload_n 1, 1) := by decide +kernel
theorem dX11_pair_25 : decode cX11_pair 25 = .ok (.iadd, 1) := by decide +kernel
theorem dX11_pair_26 : decode cX11_pair 26 = .ok (.ireturn, 1) := by decide +kernel
def fp_X11_pair (v0 : Int32) (v1 : Int32) : Option (Int32) :=
  if v0 ≥ v1 then (
    some (((v0 * (v0 - 1)) / 2) + v1))
  else (
    some (((v1 * (v1 - 1)) / 2) + v0))
set_option maxHeartbeats 4000000 in
set_option maxRecDepth 100000 in
theorem ct_X11_pair (E : zEnv) (hE : zEok E) (d : Nat) (hd : 1 ≤ d) (v0 : Int32) (v1 : Int32) (M : zM) (x0 : Int32) (hx : fp_X11_pair v0 v1 = some x0) : zCt E mu_X11_pair d [.int v0, .int v1] M (some (.int x0), M) := by
  refine zCt_of (μ := mu_X11_pair) (t := fp_X11_pair v0 v1) rfl rfl (Nat.le_of_ble_eq_true rfl) hx ?_
  change zSy E mu_X11_pair d M (some (.int x0), M) x0 (fp_X11_pair v0 v1) 0 [(0, .int v0), (1, .int v1)] [] M
  unfold fp_X11_pair
  refine zs_iload_n dX11_pair_0 rfl 0 rfl ?_
  refine zs_iload_n dX11_pair_1 rfl 1 rfl ?_
  refine zs_icmp_ge dX11_pair_2 rfl ?_ ?_
  · refine zs_iload_n dX11_pair_17 rfl 0 rfl ?_
    refine zs_iload_n dX11_pair_18 rfl 0 rfl ?_
    refine zs_iconst (v := 1) dX11_pair_19 ciconst_1 ?_
    refine zs_isub dX11_pair_20 ?_
    refine zs_imul dX11_pair_21 ?_
    refine zs_iconst (v := 2) dX11_pair_22 ciconst_2 ?_
    refine zs_idivK dX11_pair_23 (by decide) ?_
    refine zs_iload_n dX11_pair_24 rfl 1 rfl ?_
    refine zs_iadd dX11_pair_25 ?_
    exact zs_iretP dX11_pair_26 rfl
  refine zs_iload_n dX11_pair_5 rfl 1 rfl ?_
  refine zs_iload_n dX11_pair_6 rfl 1 rfl ?_
  refine zs_iconst (v := 1) dX11_pair_7 ciconst_1 ?_
  refine zs_isub dX11_pair_8 ?_
  refine zs_imul dX11_pair_9 ?_
  refine zs_iconst (v := 2) dX11_pair_10 ciconst_2 ?_
  refine zs_idivK dX11_pair_11 (by decide) ?_
  refine zs_iload_n dX11_pair_12 rfl 0 rfl ?_
  refine zs_iadd dX11_pair_13 ?_
  refine zs_goto dX11_pair_14 rfl ?_
  exact zs_iretP dX11_pair_26 rfl
theorem dX11_codeOf_0 : decode cX11_codeOf 0 = .ok (.iconst 0, 1) := by decide +kernel
theorem dX11_codeOf_1 : decode cX11_codeOf 1 = .ok (.istore_n 3, 1) := by decide +kernel
theorem dX11_codeOf_2 : decode cX11_codeOf 2 = .ok (.iconst 0, 1) := by decide +kernel
theorem dX11_codeOf_3 : decode cX11_codeOf 3 = .ok (.istore 4, 2) := by decide +kernel
theorem dX11_codeOf_5 : decode cX11_codeOf 5 = .ok (.iload 4, 2) := by decide +kernel
theorem dX11_codeOf_7 : decode cX11_codeOf 7 = .ok (.iload_n 2, 1) := by decide +kernel
theorem dX11_codeOf_8 : decode cX11_codeOf 8 = .ok (.if_icmp .ge 55, 3) := by decide +kernel
theorem dX11_codeOf_11 : decode cX11_codeOf 11 = .ok (.iconst 0, 1) := by decide +kernel
theorem dX11_codeOf_12 : decode cX11_codeOf 12 = .ok (.istore 5, 2) := by decide +kernel
theorem dX11_codeOf_14 : decode cX11_codeOf 14 = .ok (.iload 5, 2) := by decide +kernel
theorem dX11_codeOf_16 : decode cX11_codeOf 16 = .ok (.iload 4, 2) := by decide +kernel
theorem dX11_codeOf_18 : decode cX11_codeOf 18 = .ok (.if_icmp .ge 39, 3) := by decide +kernel
theorem dX11_codeOf_21 : decode cX11_codeOf 21 = .ok (.iload_n 3, 1) := by decide +kernel
theorem dX11_codeOf_22 : decode cX11_codeOf 22 = .ok (.aload_n 0, 1) := by decide +kernel
theorem dX11_codeOf_23 : decode cX11_codeOf 23 = .ok (.iload_n 1, 1) := by decide +kernel
theorem dX11_codeOf_24 : decode cX11_codeOf 24 = .ok (.iload 4, 2) := by decide +kernel
theorem dX11_codeOf_26 : decode cX11_codeOf 26 = .ok (.iadd, 1) := by decide +kernel
theorem dX11_codeOf_27 : decode cX11_codeOf 27 = .ok (.iaload, 1) := by decide +kernel
theorem dX11_codeOf_28 : decode cX11_codeOf 28 = .ok (.iload 5, 2) := by decide +kernel
theorem dX11_codeOf_30 : decode cX11_codeOf 30 = .ok (.invokestatic 97, 3) := by decide +kernel
theorem dX11_codeOf_33 : decode cX11_codeOf 33 = .ok (.ifCond .eq 15, 3) := by decide +kernel
theorem dX11_codeOf_36 : decode cX11_codeOf 36 = .ok (.iconst 1, 1) := by decide +kernel
theorem dX11_codeOf_37 : decode cX11_codeOf 37 = .ok (.iload 4, 2) := by decide +kernel
theorem dX11_codeOf_39 : decode cX11_codeOf 39 = .ok (.iload 5, 2) := by decide +kernel
theorem dX11_codeOf_41 : decode cX11_codeOf 41 = .ok (.invokestatic 434, 3) := by decide +kernel
theorem dX11_codeOf_44 : decode cX11_codeOf 44 = .ok (.ishl, 1) := by decide +kernel
theorem dX11_codeOf_45 : decode cX11_codeOf 45 = .ok (.goto 4, 3) := by decide +kernel
theorem dX11_codeOf_48 : decode cX11_codeOf 48 = .ok (.iconst 0, 1) := by decide +kernel
theorem dX11_codeOf_49 : decode cX11_codeOf 49 = .ok (.ior, 1) := by decide +kernel
theorem dX11_codeOf_50 : decode cX11_codeOf 50 = .ok (.istore_n 3, 1) := by decide +kernel
theorem dX11_codeOf_51 : decode cX11_codeOf 51 = .ok (.iinc 5 1, 3) := by decide +kernel
theorem dX11_codeOf_54 : decode cX11_codeOf 54 = .ok (.goto (-40), 3) := by decide +kernel
theorem dX11_codeOf_57 : decode cX11_codeOf 57 = .ok (.iinc 4 1, 3) := by decide +kernel
theorem dX11_codeOf_60 : decode cX11_codeOf 60 = .ok (.goto (-55), 3) := by decide +kernel
theorem dX11_codeOf_63 : decode cX11_codeOf 63 = .ok (.iload_n 3, 1) := by decide +kernel
theorem dX11_codeOf_64 : decode cX11_codeOf 64 = .ok (.ireturn, 1) := by decide +kernel
def fp_X11_codeOf_L14 (k57 : Int32 → Option (Int32)) (v0 : Nat) (v1 : Int32) (v2 : Int32) (v4 : Int32) (M : zM) : Nat → Int32 → Int32 → Option (Int32)
  | 0, _, _ => none
  | n + 1, v3, v5 =>
    if v5 ≥ v4 then (
      k57 v3)
    else (
      (zlI 100 M v0 (v1 + v4)).bind fun (y1 : Int32) =>
      (fp_X11_has y1 v5).bind fun (y2 : Int32) =>
      zjn (fun (s3 : Int32) (s4 : Int32) =>
          lett ((s4 ||| s3)) fun (v3_5 : Int32) =>
          fp_X11_codeOf_L14 k57 v0 v1 v2 v4 M n v3_5 (v5 + 1))
        (fun j49 =>
          if y2 = 0 then (
            j49 0 v3)
          else (
            (fp_X11_pair v4 v5).bind fun (y6 : Int32) =>
            j49 (1 <<< (y6 &&& 31)) v3)))
def fp_X11_codeOf_L5 (v0 : Nat) (v1 : Int32) (v2 : Int32) (M : zM) : Nat → Int32 → Int32 → Option (Int32)
  | 0, _, _ => none
  | n + 1, v3, v4 =>
    if v4 ≥ v2 then (
      some v3)
    else (
      fp_X11_codeOf_L14
        (fun v3_7 =>
          fp_X11_codeOf_L5 v0 v1 v2 M n v3_7 (v4 + 1)) v0 v1 v2 v4 M FU v3 0)
def fp_X11_codeOf (v0 : Nat) (v1 : Int32) (v2 : Int32) (M : zM) : Option (Int32) :=
  fp_X11_codeOf_L5 v0 v1 v2 M FU 0 0
set_option maxHeartbeats 4000000 in
set_option maxRecDepth 100000 in
theorem w_X11_codeOf_L14 (E : zEnv) (hE : zEok E) (d : Nat) (hd : 2 ≤ d) (x0 : Int32) (v0 : Nat) (v1 : Int32) (v2 : Int32) (v4 : Int32) (M : zM) (k57 : Int32 → Option (Int32)) (hk57 : ∀ (v3 : Int32), zSy E mu_X11_codeOf d M (some (.int x0), M) x0 (k57 v3) 57 [(0, .ref (E.2.2.2.1 + v0)), (1, .int v1), (2, .int v2), (3, .int v3), (4, .int v4)] [] M) : ∀ (n : Nat) (v3 : Int32) (v5 : Int32), zSy E mu_X11_codeOf d M (some (.int x0), M) x0 (fp_X11_codeOf_L14 k57 v0 v1 v2 v4 M n v3 v5) 14 [(0, .ref (E.2.2.2.1 + v0)), (1, .int v1), (2, .int v2), (3, .int v3), (4, .int v4), (5, .int v5)] [] M := by
  intro n
  induction n with
  | zero =>
    intro v3 v5
    rw [fp_X11_codeOf_L14]
    exact zs_none
  | succ n ih =>
    intro v3 v5
    rw [fp_X11_codeOf_L14]
    refine zs_iload dX11_codeOf_14 5 rfl ?_
    refine zs_iload dX11_codeOf_16 4 rfl ?_
    refine zs_icmp_ge dX11_codeOf_18 rfl ?_ ?_
    · refine zs_sub (loc' := [(0, .ref (E.2.2.2.1 + v0)), (1, .int v1), (2, .int v2), (3, .int v3), (4, .int v4)]) [0, 1, 2, 3, 4] rfl ?_
      exact hk57 v3
    refine zs_iload_n dX11_codeOf_21 rfl 3 rfl ?_
    refine zs_aload_n dX11_codeOf_22 rfl 0 rfl ?_
    refine zs_iload_n dX11_codeOf_23 rfl 1 rfl ?_
    refine zs_iload dX11_codeOf_24 4 rfl ?_
    refine zs_iadd dX11_codeOf_26 ?_
    refine zs_ldI dX11_codeOf_27 (fun y1 => ?_)
    refine zs_iload dX11_codeOf_28 5 rfl ?_
    refine zs_invSPI (rest := [.int v3]) [.int y1, .int v5] dX11_codeOf_30 lk_X11_97 rfl (zd1 rfl hd) rfl (Nat.le_of_ble_eq_true rfl) (ct_X11_has E hE _ (zdl rfl hd) _ _ _) (fun y2 => ?_)
    refine zs_jn (fun j49 => ∀ (s3 : Int32) (s4 : Int32), zSy E mu_X11_codeOf d M (some (.int x0), M) x0 (j49 s3 s4) 49 [(0, .ref (E.2.2.2.1 + v0)), (1, .int v1), (2, .int v2), (4, .int v4), (5, .int v5)] [.int s3, .int s4] M) (fun s3 s4 => ?_) (fun j49 hj49 => ?_)
    · refine zs_ior dX11_codeOf_49 ?_
      refine zs_istore_nL (loc' := fun v3_5 => [(0, .ref (E.2.2.2.1 + v0)), (1, .int v1), (2, .int v2), (3, .int v3_5), (4, .int v4), (5, .int v5)]) dX11_codeOf_50 rfl (Nat.le_of_ble_eq_true rfl) [1, 2, 3, 0, 4, 5] (fun _ => rfl) (fun v3_5 => ?_)
      refine zs_iinc (v := (v5 + 1)) (loc' := [(0, .ref (E.2.2.2.1 + v0)), (1, .int v1), (2, .int v2), (3, .int v3_5), (4, .int v4), (5, .int (v5 + 1))]) dX11_codeOf_51 5 rfl (by rfl) (Nat.le_of_ble_eq_true rfl) [1, 2, 3, 4, 5, 0] rfl ?_
      refine zs_goto dX11_codeOf_54 rfl ?_
      exact ih v3_5 (v5 + 1)
    refine zs_if_eq dX11_codeOf_33 rfl ?_ ?_
    · refine zs_iconst (v := 0) dX11_codeOf_48 ciconst_0 ?_
      refine zs_sub (loc' := [(0, .ref (E.2.2.2.1 + v0)), (1, .int v1), (2, .int v2), (4, .int v4), (5, .int v5)]) [0, 1, 2, 4, 5] rfl ?_
      exact hj49 0 v3
    refine zs_iconst (v := 1) dX11_codeOf_36 ciconst_1 ?_
    refine zs_iload dX11_codeOf_37 4 rfl ?_
    refine zs_iload dX11_codeOf_39 5 rfl ?_
    refine zs_invSPI (rest := [.int 1, .int v3]) [.int v4, .int v5] dX11_codeOf_41 lk_X11_434 rfl (zd1 rfl hd) rfl (Nat.le_of_ble_eq_true rfl) (ct_X11_pair E hE _ (zdl rfl hd) _ _ _) (fun y6 => ?_)
    refine zs_ishl dX11_codeOf_44 ?_
    refine zs_goto dX11_codeOf_45 rfl ?_
    refine zs_sub (loc' := [(0, .ref (E.2.2.2.1 + v0)), (1, .int v1), (2, .int v2), (4, .int v4), (5, .int v5)]) [0, 1, 2, 4, 5] rfl ?_
    exact hj49 (1 <<< (y6 &&& 31)) v3
set_option maxHeartbeats 4000000 in
set_option maxRecDepth 100000 in
theorem w_X11_codeOf_L5 (E : zEnv) (hE : zEok E) (d : Nat) (hd : 2 ≤ d) (x0 : Int32) (v0 : Nat) (v1 : Int32) (v2 : Int32) (M : zM)  : ∀ (n : Nat) (v3 : Int32) (v4 : Int32), zSy E mu_X11_codeOf d M (some (.int x0), M) x0 (fp_X11_codeOf_L5 v0 v1 v2 M n v3 v4) 5 [(0, .ref (E.2.2.2.1 + v0)), (1, .int v1), (2, .int v2), (3, .int v3), (4, .int v4)] [] M := by
  intro n
  induction n with
  | zero =>
    intro v3 v4
    rw [fp_X11_codeOf_L5]
    exact zs_none
  | succ n ih =>
    intro v3 v4
    rw [fp_X11_codeOf_L5]
    refine zs_iload dX11_codeOf_5 4 rfl ?_
    refine zs_iload_n dX11_codeOf_7 rfl 2 rfl ?_
    refine zs_icmp_ge dX11_codeOf_8 rfl ?_ ?_
    · refine zs_iload_n dX11_codeOf_63 rfl 3 rfl ?_
      exact zs_iretP dX11_codeOf_64 rfl
    refine zs_iconst (v := 0) dX11_codeOf_11 ciconst_0 ?_
    refine zs_istore (loc' := [(0, .ref (E.2.2.2.1 + v0)), (1, .int v1), (2, .int v2), (3, .int v3), (4, .int v4), (5, .int 0)]) dX11_codeOf_12 (Nat.le_of_ble_eq_true rfl) [1, 2, 3, 4, 5, 0] rfl ?_
    refine w_X11_codeOf_L14 E hE d hd _ _ _ _ _ _ _ (fun v3_7 => ?_) _ _ _
    refine zs_iinc (v := (v4 + 1)) (loc' := [(0, .ref (E.2.2.2.1 + v0)), (1, .int v1), (2, .int v2), (3, .int v3_7), (4, .int (v4 + 1))]) dX11_codeOf_57 4 rfl (by rfl) (Nat.le_of_ble_eq_true rfl) [1, 2, 3, 4, 0] rfl ?_
    refine zs_goto dX11_codeOf_60 rfl ?_
    exact ih v3_7 (v4 + 1)
set_option maxHeartbeats 4000000 in
set_option maxRecDepth 100000 in
theorem ct_X11_codeOf (E : zEnv) (hE : zEok E) (d : Nat) (hd : 2 ≤ d) (v0 : Nat) (v1 : Int32) (v2 : Int32) (M : zM) (x0 : Int32) (hx : fp_X11_codeOf v0 v1 v2 M = some x0) : zCt E mu_X11_codeOf d [.ref (E.2.2.2.1 + v0), .int v1, .int v2] M (some (.int x0), M) := by
  refine zCt_of (μ := mu_X11_codeOf) (t := fp_X11_codeOf v0 v1 v2 M) rfl rfl (Nat.le_of_ble_eq_true rfl) hx ?_
  change zSy E mu_X11_codeOf d M (some (.int x0), M) x0 (fp_X11_codeOf v0 v1 v2 M) 0 [(0, .ref (E.2.2.2.1 + v0)), (1, .int v1), (2, .int v2)] [] M
  unfold fp_X11_codeOf
  refine zs_iconst (v := 0) dX11_codeOf_0 ciconst_0 ?_
  refine zs_istore_n (loc' := [(0, .ref (E.2.2.2.1 + v0)), (1, .int v1), (2, .int v2), (3, .int 0)]) dX11_codeOf_1 rfl (Nat.le_of_ble_eq_true rfl) [1, 2, 3, 0] rfl ?_
  refine zs_iconst (v := 0) dX11_codeOf_2 ciconst_0 ?_
  refine zs_istore (loc' := [(0, .ref (E.2.2.2.1 + v0)), (1, .int v1), (2, .int v2), (3, .int 0), (4, .int 0)]) dX11_codeOf_3 (Nat.le_of_ble_eq_true rfl) [1, 2, 3, 4, 0] rfl ?_
  exact w_X11_codeOf_L5 E hE d hd _ _ _ _ _ _ _ _
theorem dX11_turnedCode_0 : decode cX11_turnedCode 0 = .ok (.iload_n 0, 1) := by decide +kernel
theorem dX11_turnedCode_1 : decode cX11_turnedCode 1 = .ok (.istore_n 3, 1) := by decide +kernel
theorem dX11_turnedCode_2 : decode cX11_turnedCode 2 = .ok (.iconst 0, 1) := by decide +kernel
theorem dX11_turnedCode_3 : decode cX11_turnedCode 3 = .ok (.istore 4, 2) := by decide +kernel
theorem dX11_turnedCode_5 : decode cX11_turnedCode 5 = .ok (.iload 4, 2) := by decide +kernel
theorem dX11_turnedCode_7 : decode cX11_turnedCode 7 = .ok (.iload_n 2, 1) := by decide +kernel
theorem dX11_turnedCode_8 : decode cX11_turnedCode 8 = .ok (.if_icmp .ge 75, 3) := by decide +kernel
theorem dX11_turnedCode_11 : decode cX11_turnedCode 11 = .ok (.iconst 0, 1) := by decide +kernel
theorem dX11_turnedCode_12 : decode cX11_turnedCode 12 = .ok (.istore 5, 2) := by decide +kernel
theorem dX11_turnedCode_14 : decode cX11_turnedCode 14 = .ok (.iload 5, 2) := by decide +kernel
theorem dX11_turnedCode_16 : decode cX11_turnedCode 16 = .ok (.iload 4, 2) := by decide +kernel
theorem dX11_turnedCode_18 : decode cX11_turnedCode 18 = .ok (.if_icmp .ge 59, 3) := by decide +kernel
theorem dX11_turnedCode_21 : decode cX11_turnedCode 21 = .ok (.iload 4, 2) := by decide +kernel
theorem dX11_turnedCode_23 : decode cX11_turnedCode 23 = .ok (.iload_n 1, 1) := by decide +kernel
theorem dX11_turnedCode_24 : decode cX11_turnedCode 24 = .ok (.if_icmp .eq 47, 3) := by decide +kernel
theorem dX11_turnedCode_27 : decode cX11_turnedCode 27 = .ok (.iload 5, 2) := by decide +kernel
theorem dX11_turnedCode_29 : decode cX11_turnedCode 29 = .ok (.iload_n 1, 1) := by decide +kernel
theorem dX11_turnedCode_30 : decode cX11_turnedCode 30 = .ok (.if_icmp .eq 41, 3) := by decide +kernel
theorem dX11_turnedCode_33 : decode cX11_turnedCode 33 = .ok (.iload_n 0, 1) := by decide +kernel
theorem dX11_turnedCode_34 : decode cX11_turnedCode 34 = .ok (.iload 4, 2) := by decide +kernel
theorem dX11_turnedCode_36 : decode cX11_turnedCode 36 = .ok (.iload_n 1, 1) := by decide +kernel
theorem dX11_turnedCode_37 : decode cX11_turnedCode 37 = .ok (.invokestatic 434, 3) := by decide +kernel
theorem dX11_turnedCode_40 : decode cX11_turnedCode 40 = .ok (.invokestatic 97, 3) := by decide +kernel
theorem dX11_turnedCode_43 : decode cX11_turnedCode 43 = .ok (.ifCond .eq 28, 3) := by decide +kernel
theorem dX11_turnedCode_46 : decode cX11_turnedCode 46 = .ok (.iload_n 0, 1) := by decide +kernel
theorem dX11_turnedCode_47 : decode cX11_turnedCode 47 = .ok (.iload 5, 2) := by decide +kernel
theorem dX11_turnedCode_49 : decode cX11_turnedCode 49 = .ok (.iload_n 1, 1) := by decide +kernel
theorem dX11_turnedCode_50 : decode cX11_turnedCode 50 = .ok (.invokestatic 434, 3) := by decide +kernel
theorem dX11_turnedCode_53 : decode cX11_turnedCode 53 = .ok (.invokestatic 97, 3) := by decide +kernel
theorem dX11_turnedCode_56 : decode cX11_turnedCode 56 = .ok (.ifCond .eq 15, 3) := by decide +kernel
theorem dX11_turnedCode_59 : decode cX11_turnedCode 59 = .ok (.iload_n 3, 1) := by decide +kernel
theorem dX11_turnedCode_60 : decode cX11_turnedCode 60 = .ok (.iconst 1, 1) := by decide +kernel
theorem dX11_turnedCode_61 : decode cX11_turnedCode 61 = .ok (.iload 4, 2) := by decide +kernel
theorem dX11_turnedCode_63 : decode cX11_turnedCode 63 = .ok (.iload 5, 2) := by decide +kernel
theorem dX11_turnedCode_65 : decode cX11_turnedCode 65 = .ok (.invokestatic 434, 3) := by decide +kernel
theorem dX11_turnedCode_68 : decode cX11_turnedCode 68 = .ok (.ishl, 1) := by decide +kernel
theorem dX11_turnedCode_69 : decode cX11_turnedCode 69 = .ok (.ixor, 1) := by decide +kernel
theorem dX11_turnedCode_70 : decode cX11_turnedCode 70 = .ok (.istore_n 3, 1) := by decide +kernel
theorem dX11_turnedCode_71 : decode cX11_turnedCode 71 = .ok (.iinc 5 1, 3) := by decide +kernel
theorem dX11_turnedCode_74 : decode cX11_turnedCode 74 = .ok (.goto (-60), 3) := by decide +kernel
theorem dX11_turnedCode_77 : decode cX11_turnedCode 77 = .ok (.iinc 4 1, 3) := by decide +kernel
theorem dX11_turnedCode_80 : decode cX11_turnedCode 80 = .ok (.goto (-75), 3) := by decide +kernel
theorem dX11_turnedCode_83 : decode cX11_turnedCode 83 = .ok (.iload_n 3, 1) := by decide +kernel
theorem dX11_turnedCode_84 : decode cX11_turnedCode 84 = .ok (.ireturn, 1) := by decide +kernel
def fp_X11_turnedCode_L14 (k77 : Int32 → Option (Int32)) (v0 : Int32) (v1 : Int32) (v2 : Int32) (v4 : Int32) : Nat → Int32 → Int32 → Option (Int32)
  | 0, _, _ => none
  | n + 1, v3, v5 =>
    if v5 ≥ v4 then (
      k77 v3)
    else (
      zjn (fun (v3_1 : Int32) =>
          fp_X11_turnedCode_L14 k77 v0 v1 v2 v4 n v3_1 (v5 + 1))
        (fun j71 =>
          if v4 = v1 then (
            j71 v3)
          else (
            if v5 = v1 then (
              j71 v3)
            else (
              (fp_X11_pair v4 v1).bind fun (y2 : Int32) =>
              (fp_X11_has v0 y2).bind fun (y3 : Int32) =>
              if y3 = 0 then (
                j71 v3)
              else (
                (fp_X11_pair v5 v1).bind fun (y4 : Int32) =>
                (fp_X11_has v0 y4).bind fun (y5 : Int32) =>
                if y5 = 0 then (
                  j71 v3)
                else (
                  (fp_X11_pair v4 v5).bind fun (y6 : Int32) =>
                  lett ((v3 ^^^ (1 <<< (y6 &&& 31)))) fun (v3_7 : Int32) =>
                  j71 v3_7))))))
def fp_X11_turnedCode_L5 (v0 : Int32) (v1 : Int32) (v2 : Int32) : Nat → Int32 → Int32 → Option (Int32)
  | 0, _, _ => none
  | n + 1, v3, v4 =>
    if v4 ≥ v2 then (
      some v3)
    else (
      fp_X11_turnedCode_L14
        (fun v3_8 =>
          fp_X11_turnedCode_L5 v0 v1 v2 n v3_8 (v4 + 1)) v0 v1 v2 v4 FU v3 0)
def fp_X11_turnedCode (v0 : Int32) (v1 : Int32) (v2 : Int32) : Option (Int32) :=
  fp_X11_turnedCode_L5 v0 v1 v2 FU v0 0
set_option maxHeartbeats 4000000 in
set_option maxRecDepth 100000 in
theorem w_X11_turnedCode_L14 (E : zEnv) (hE : zEok E) (d : Nat) (hd : 2 ≤ d) (x0 : Int32) (v0 : Int32) (v1 : Int32) (v2 : Int32) (v4 : Int32) (M : zM) (k77 : Int32 → Option (Int32)) (hk77 : ∀ (v3 : Int32), zSy E mu_X11_turnedCode d M (some (.int x0), M) x0 (k77 v3) 77 [(0, .int v0), (1, .int v1), (2, .int v2), (3, .int v3), (4, .int v4)] [] M) : ∀ (n : Nat) (v3 : Int32) (v5 : Int32), zSy E mu_X11_turnedCode d M (some (.int x0), M) x0 (fp_X11_turnedCode_L14 k77 v0 v1 v2 v4 n v3 v5) 14 [(0, .int v0), (1, .int v1), (2, .int v2), (3, .int v3), (4, .int v4), (5, .int v5)] [] M := by
  intro n
  induction n with
  | zero =>
    intro v3 v5
    rw [fp_X11_turnedCode_L14]
    exact zs_none
  | succ n ih =>
    intro v3 v5
    rw [fp_X11_turnedCode_L14]
    refine zs_iload dX11_turnedCode_14 5 rfl ?_
    refine zs_iload dX11_turnedCode_16 4 rfl ?_
    refine zs_icmp_ge dX11_turnedCode_18 rfl ?_ ?_
    · refine zs_sub (loc' := [(0, .int v0), (1, .int v1), (2, .int v2), (3, .int v3), (4, .int v4)]) [0, 1, 2, 3, 4] rfl ?_
      exact hk77 v3
    refine zs_iload dX11_turnedCode_21 4 rfl ?_
    refine zs_iload_n dX11_turnedCode_23 rfl 1 rfl ?_
    refine zs_jn (fun j71 => ∀ (v3_1 : Int32), zSy E mu_X11_turnedCode d M (some (.int x0), M) x0 (j71 v3_1) 71 [(0, .int v0), (1, .int v1), (2, .int v2), (3, .int v3_1), (4, .int v4), (5, .int v5)] [] M) (fun v3_1 => ?_) (fun j71 hj71 => ?_)
    · refine zs_iinc (v := (v5 + 1)) (loc' := [(0, .int v0), (1, .int v1), (2, .int v2), (3, .int v3_1), (4, .int v4), (5, .int (v5 + 1))]) dX11_turnedCode_71 5 rfl (by rfl) (Nat.le_of_ble_eq_true rfl) [1, 2, 3, 4, 5, 0] rfl ?_
      refine zs_goto dX11_turnedCode_74 rfl ?_
      exact ih v3_1 (v5 + 1)
    refine zs_icmp_eq dX11_turnedCode_24 rfl ?_ ?_
    · exact hj71 v3
    refine zs_iload dX11_turnedCode_27 5 rfl ?_
    refine zs_iload_n dX11_turnedCode_29 rfl 1 rfl ?_
    refine zs_icmp_eq dX11_turnedCode_30 rfl ?_ ?_
    · exact hj71 v3
    refine zs_iload_n dX11_turnedCode_33 rfl 0 rfl ?_
    refine zs_iload dX11_turnedCode_34 4 rfl ?_
    refine zs_iload_n dX11_turnedCode_36 rfl 1 rfl ?_
    refine zs_invSPI (rest := [.int v0]) [.int v4, .int v1] dX11_turnedCode_37 lk_X11_434 rfl (zd1 rfl hd) rfl (Nat.le_of_ble_eq_true rfl) (ct_X11_pair E hE _ (zdl rfl hd) _ _ _) (fun y2 => ?_)
    refine zs_invSPI (rest := []) [.int v0, .int y2] dX11_turnedCode_40 lk_X11_97 rfl (zd1 rfl hd) rfl (Nat.le_of_ble_eq_true rfl) (ct_X11_has E hE _ (zdl rfl hd) _ _ _) (fun y3 => ?_)
    refine zs_if_eq dX11_turnedCode_43 rfl ?_ ?_
    · exact hj71 v3
    refine zs_iload_n dX11_turnedCode_46 rfl 0 rfl ?_
    refine zs_iload dX11_turnedCode_47 5 rfl ?_
    refine zs_iload_n dX11_turnedCode_49 rfl 1 rfl ?_
    refine zs_invSPI (rest := [.int v0]) [.int v5, .int v1] dX11_turnedCode_50 lk_X11_434 rfl (zd1 rfl hd) rfl (Nat.le_of_ble_eq_true rfl) (ct_X11_pair E hE _ (zdl rfl hd) _ _ _) (fun y4 => ?_)
    refine zs_invSPI (rest := []) [.int v0, .int y4] dX11_turnedCode_53 lk_X11_97 rfl (zd1 rfl hd) rfl (Nat.le_of_ble_eq_true rfl) (ct_X11_has E hE _ (zdl rfl hd) _ _ _) (fun y5 => ?_)
    refine zs_if_eq dX11_turnedCode_56 rfl ?_ ?_
    · exact hj71 v3
    refine zs_iload_n dX11_turnedCode_59 rfl 3 rfl ?_
    refine zs_iconst (v := 1) dX11_turnedCode_60 ciconst_1 ?_
    refine zs_iload dX11_turnedCode_61 4 rfl ?_
    refine zs_iload dX11_turnedCode_63 5 rfl ?_
    refine zs_invSPI (rest := [.int 1, .int v3]) [.int v4, .int v5] dX11_turnedCode_65 lk_X11_434 rfl (zd1 rfl hd) rfl (Nat.le_of_ble_eq_true rfl) (ct_X11_pair E hE _ (zdl rfl hd) _ _ _) (fun y6 => ?_)
    refine zs_ishl dX11_turnedCode_68 ?_
    refine zs_ixor dX11_turnedCode_69 ?_
    refine zs_istore_nL (loc' := fun v3_7 => [(0, .int v0), (1, .int v1), (2, .int v2), (3, .int v3_7), (4, .int v4), (5, .int v5)]) dX11_turnedCode_70 rfl (Nat.le_of_ble_eq_true rfl) [1, 2, 3, 0, 4, 5] (fun _ => rfl) (fun v3_7 => ?_)
    exact hj71 v3_7
set_option maxHeartbeats 4000000 in
set_option maxRecDepth 100000 in
theorem w_X11_turnedCode_L5 (E : zEnv) (hE : zEok E) (d : Nat) (hd : 2 ≤ d) (x0 : Int32) (v0 : Int32) (v1 : Int32) (v2 : Int32) (M : zM)  : ∀ (n : Nat) (v3 : Int32) (v4 : Int32), zSy E mu_X11_turnedCode d M (some (.int x0), M) x0 (fp_X11_turnedCode_L5 v0 v1 v2 n v3 v4) 5 [(0, .int v0), (1, .int v1), (2, .int v2), (3, .int v3), (4, .int v4)] [] M := by
  intro n
  induction n with
  | zero =>
    intro v3 v4
    rw [fp_X11_turnedCode_L5]
    exact zs_none
  | succ n ih =>
    intro v3 v4
    rw [fp_X11_turnedCode_L5]
    refine zs_iload dX11_turnedCode_5 4 rfl ?_
    refine zs_iload_n dX11_turnedCode_7 rfl 2 rfl ?_
    refine zs_icmp_ge dX11_turnedCode_8 rfl ?_ ?_
    · refine zs_iload_n dX11_turnedCode_83 rfl 3 rfl ?_
      exact zs_iretP dX11_turnedCode_84 rfl
    refine zs_iconst (v := 0) dX11_turnedCode_11 ciconst_0 ?_
    refine zs_istore (loc' := [(0, .int v0), (1, .int v1), (2, .int v2), (3, .int v3), (4, .int v4), (5, .int 0)]) dX11_turnedCode_12 (Nat.le_of_ble_eq_true rfl) [1, 2, 3, 4, 5, 0] rfl ?_
    refine w_X11_turnedCode_L14 E hE d hd _ _ _ _ _ _ _ (fun v3_8 => ?_) _ _ _
    refine zs_iinc (v := (v4 + 1)) (loc' := [(0, .int v0), (1, .int v1), (2, .int v2), (3, .int v3_8), (4, .int (v4 + 1))]) dX11_turnedCode_77 4 rfl (by rfl) (Nat.le_of_ble_eq_true rfl) [1, 2, 3, 4, 0] rfl ?_
    refine zs_goto dX11_turnedCode_80 rfl ?_
    exact ih v3_8 (v4 + 1)
set_option maxHeartbeats 4000000 in
set_option maxRecDepth 100000 in
theorem ct_X11_turnedCode (E : zEnv) (hE : zEok E) (d : Nat) (hd : 2 ≤ d) (v0 : Int32) (v1 : Int32) (v2 : Int32) (M : zM) (x0 : Int32) (hx : fp_X11_turnedCode v0 v1 v2 = some x0) : zCt E mu_X11_turnedCode d [.int v0, .int v1, .int v2] M (some (.int x0), M) := by
  refine zCt_of (μ := mu_X11_turnedCode) (t := fp_X11_turnedCode v0 v1 v2) rfl rfl (Nat.le_of_ble_eq_true rfl) hx ?_
  change zSy E mu_X11_turnedCode d M (some (.int x0), M) x0 (fp_X11_turnedCode v0 v1 v2) 0 [(0, .int v0), (1, .int v1), (2, .int v2)] [] M
  unfold fp_X11_turnedCode
  refine zs_iload_n dX11_turnedCode_0 rfl 0 rfl ?_
  refine zs_istore_n (loc' := [(0, .int v0), (1, .int v1), (2, .int v2), (3, .int v0)]) dX11_turnedCode_1 rfl (Nat.le_of_ble_eq_true rfl) [1, 2, 3, 0] rfl ?_
  refine zs_iconst (v := 0) dX11_turnedCode_2 ciconst_0 ?_
  refine zs_istore (loc' := [(0, .int v0), (1, .int v1), (2, .int v2), (3, .int v0), (4, .int 0)]) dX11_turnedCode_3 (Nat.le_of_ble_eq_true rfl) [1, 2, 3, 4, 0] rfl ?_
  exact w_X11_turnedCode_L5 E hE d hd _ _ _ _ _ _ _ _
theorem dX11_isNew_0 : decode cX11_isNew 0 = .ok (.iconst 0, 1) := by decide +kernel
theorem dX11_isNew_1 : decode cX11_isNew 1 = .ok (.istore_n 2, 1) := by decide +kernel
theorem dX11_isNew_2 : decode cX11_isNew 2 = .ok (.iload_n 2, 1) := by decide +kernel
theorem dX11_isNew_3 : decode cX11_isNew 3 = .ok (.aload_n 0, 1) := by decide +kernel
theorem dX11_isNew_4 : decode cX11_isNew 4 = .ok (.getfield 437, 3) := by decide +kernel
theorem dX11_isNew_7 : decode cX11_isNew 7 = .ok (.if_icmp .ge 21, 3) := by decide +kernel
theorem dX11_isNew_10 : decode cX11_isNew 10 = .ok (.aload_n 0, 1) := by decide +kernel
theorem dX11_isNew_11 : decode cX11_isNew 11 = .ok (.getfield 88, 3) := by decide +kernel
theorem dX11_isNew_14 : decode cX11_isNew 14 = .ok (.iload_n 2, 1) := by decide +kernel
theorem dX11_isNew_15 : decode cX11_isNew 15 = .ok (.iaload, 1) := by decide +kernel
theorem dX11_isNew_16 : decode cX11_isNew 16 = .ok (.iload_n 1, 1) := by decide +kernel
theorem dX11_isNew_17 : decode cX11_isNew 17 = .ok (.if_icmp .ne 5, 3) := by decide +kernel
theorem dX11_isNew_20 : decode cX11_isNew 20 = .ok (.iconst 0, 1) := by decide +kernel
theorem dX11_isNew_21 : decode cX11_isNew 21 = .ok (.ireturn, 1) := by decide +kernel
theorem dX11_isNew_22 : decode cX11_isNew 22 = .ok (.iinc 2 1, 3) := by decide +kernel
theorem dX11_isNew_25 : decode cX11_isNew 25 = .ok (.goto (-23), 3) := by decide +kernel
theorem dX11_isNew_28 : decode cX11_isNew 28 = .ok (.iconst 1, 1) := by decide +kernel
theorem dX11_isNew_29 : decode cX11_isNew 29 = .ok (.ireturn, 1) := by decide +kernel
def fp_X11_isNew_L2 (v0 : Nat) (v1 : Int32) (M : zM) : Nat → Int32 → Option (Int32)
  | 0, _ => none
  | n + 1, v2 =>
    (zgI 9 M v0 49).bind fun (y1 : Int32) =>
    if v2 ≥ y1 then (
      some 1)
    else (
      (zgR 9 M v0 47).bind fun (y2 : Nat) =>
      (zlI 100 M y2 v2).bind fun (y3 : Int32) =>
      if y3 ≠ v1 then (
        fp_X11_isNew_L2 v0 v1 M n (v2 + 1))
      else (
        some 0))
def fp_X11_isNew (v0 : Nat) (v1 : Int32) (M : zM) : Option (Int32) :=
  zthis 9 M v0 (
    fp_X11_isNew_L2 v0 v1 M FU 0)
set_option maxHeartbeats 4000000 in
set_option maxRecDepth 100000 in
theorem th_X11_isNew {v0 : Nat} {v1 : Int32} {M : zM} {x0 : Int32} (h : fp_X11_isNew v0 v1 M = some x0) : v0 < zS M ∧ kd v0 = 9 := by
  unfold fp_X11_isNew at h
  exact zthis_of h
set_option maxHeartbeats 4000000 in
set_option maxRecDepth 100000 in
theorem w_X11_isNew_L2 (E : zEnv) (hE : zEok E) (d : Nat) (hd : 1 ≤ d) (x0 : Int32) (v0 : Nat) (v1 : Int32) (M : zM)  : ∀ (n : Nat) (v2 : Int32), zSy E mu_X11_isNew d M (some (.int x0), M) x0 (fp_X11_isNew_L2 v0 v1 M n v2) 2 [(0, .ref (E.2.2.2.1 + v0)), (1, .int v1), (2, .int v2)] [] M := by
  intro n
  induction n with
  | zero =>
    intro v2
    rw [fp_X11_isNew_L2]
    exact zs_none
  | succ n ih =>
    intro v2
    rw [fp_X11_isNew_L2]
    refine zs_iload_n dX11_isNew_2 rfl 2 rfl ?_
    refine zs_aload_n dX11_isNew_3 rfl 0 rfl ?_
    refine zs_getI dX11_isNew_4 fl_X11_437 rfl (fun y1 => ?_)
    refine zs_icmp_ge dX11_isNew_7 rfl ?_ ?_
    · refine zs_iconst (v := 1) dX11_isNew_28 ciconst_1 ?_
      exact zs_iretP dX11_isNew_29 rfl
    refine zs_aload_n dX11_isNew_10 rfl 0 rfl ?_
    refine zs_getR dX11_isNew_11 fl_X11_88 rfl (fun y2 => ?_)
    refine zs_iload_n dX11_isNew_14 rfl 2 rfl ?_
    refine zs_ldI dX11_isNew_15 (fun y3 => ?_)
    refine zs_iload_n dX11_isNew_16 rfl 1 rfl ?_
    refine zs_icmp_ne dX11_isNew_17 rfl ?_ ?_
    · refine zs_iinc (v := (v2 + 1)) (loc' := [(0, .ref (E.2.2.2.1 + v0)), (1, .int v1), (2, .int (v2 + 1))]) dX11_isNew_22 2 rfl (by rfl) (Nat.le_of_ble_eq_true rfl) [1, 2, 0] rfl ?_
      refine zs_goto dX11_isNew_25 rfl ?_
      exact ih (v2 + 1)
    refine zs_iconst (v := 0) dX11_isNew_20 ciconst_0 ?_
    exact zs_iretP dX11_isNew_21 rfl
set_option maxHeartbeats 4000000 in
set_option maxRecDepth 100000 in
theorem ct_X11_isNew (E : zEnv) (hE : zEok E) (d : Nat) (hd : 1 ≤ d) (v0 : Nat) (v1 : Int32) (M : zM) (x0 : Int32) (hx : fp_X11_isNew v0 v1 M = some x0) : zCt E mu_X11_isNew d [.ref (E.2.2.2.1 + v0), .int v1] M (some (.int x0), M) := by
  refine zCt_of (μ := mu_X11_isNew) (t := fp_X11_isNew v0 v1 M) rfl rfl (Nat.le_of_ble_eq_true rfl) hx ?_
  change zSy E mu_X11_isNew d M (some (.int x0), M) x0 (fp_X11_isNew v0 v1 M) 0 [(0, .ref (E.2.2.2.1 + v0)), (1, .int v1)] [] M
  unfold fp_X11_isNew
  refine zs_this (fun hth => ?_)
  refine zs_iconst (v := 0) dX11_isNew_0 ciconst_0 ?_
  refine zs_istore_n (loc' := [(0, .ref (E.2.2.2.1 + v0)), (1, .int v1), (2, .int 0)]) dX11_isNew_1 rfl (Nat.le_of_ble_eq_true rfl) [1, 2, 0] rfl ?_
  exact w_X11_isNew_L2 E hE d hd _ _ _ _ _ _
theorem dX11_laysClass_0 : decode cX11_laysClass 0 = .ok (.aload_n 0, 1) := by decide +kernel
theorem dX11_laysClass_1 : decode cX11_laysClass 1 = .ok (.getfield 88, 3) := by decide +kernel
theorem dX11_laysClass_4 : decode cX11_laysClass 4 = .ok (.iconst 0, 1) := by decide +kernel
theorem dX11_laysClass_5 : decode cX11_laysClass 5 = .ok (.aload_n 0, 1) := by decide +kernel
theorem dX11_laysClass_6 : decode cX11_laysClass 6 = .ok (.getfield 7, 3) := by decide +kernel
theorem dX11_laysClass_9 : decode cX11_laysClass 9 = .ok (.iconst 0, 1) := by decide +kernel
theorem dX11_laysClass_10 : decode cX11_laysClass 10 = .ok (.aload_n 0, 1) := by decide +kernel
theorem dX11_laysClass_11 : decode cX11_laysClass 11 = .ok (.getfield 101, 3) := by decide +kernel
theorem dX11_laysClass_14 : decode cX11_laysClass 14 = .ok (.invokestatic 440, 3) := by decide +kernel
theorem dX11_laysClass_17 : decode cX11_laysClass 17 = .ok (.iastore, 1) := by decide +kernel
theorem dX11_laysClass_18 : decode cX11_laysClass 18 = .ok (.aload_n 0, 1) := by decide +kernel
theorem dX11_laysClass_19 : decode cX11_laysClass 19 = .ok (.getfield 91, 3) := by decide +kernel
theorem dX11_laysClass_22 : decode cX11_laysClass 22 = .ok (.iconst 0, 1) := by decide +kernel
theorem dX11_laysClass_23 : decode cX11_laysClass 23 = .ok (.iconst 0, 1) := by decide +kernel
theorem dX11_laysClass_24 : decode cX11_laysClass 24 = .ok (.iastore, 1) := by decide +kernel
theorem dX11_laysClass_25 : decode cX11_laysClass 25 = .ok (.aload_n 0, 1) := by decide +kernel
theorem dX11_laysClass_26 : decode cX11_laysClass 26 = .ok (.iconst 1, 1) := by decide +kernel
theorem dX11_laysClass_27 : decode cX11_laysClass 27 = .ok (.putfield 437, 3) := by decide +kernel
theorem dX11_laysClass_30 : decode cX11_laysClass 30 = .ok (.aload_n 0, 1) := by decide +kernel
theorem dX11_laysClass_31 : decode cX11_laysClass 31 = .ok (.aload_n 0, 1) := by decide +kernel
theorem dX11_laysClass_32 : decode cX11_laysClass 32 = .ok (.getfield 88, 3) := by decide +kernel
theorem dX11_laysClass_35 : decode cX11_laysClass 35 = .ok (.iconst 0, 1) := by decide +kernel
theorem dX11_laysClass_36 : decode cX11_laysClass 36 = .ok (.iaload, 1) := by decide +kernel
theorem dX11_laysClass_37 : decode cX11_laysClass 37 = .ok (.iload_n 1, 1) := by decide +kernel
theorem dX11_laysClass_38 : decode cX11_laysClass 38 = .ok (.if_icmp .ne 7, 3) := by decide +kernel
theorem dX11_laysClass_41 : decode cX11_laysClass 41 = .ok (.iconst 0, 1) := by decide +kernel
theorem dX11_laysClass_42 : decode cX11_laysClass 42 = .ok (.goto 4, 3) := by decide +kernel
theorem dX11_laysClass_45 : decode cX11_laysClass 45 = .ok (.iconst (-1), 1) := by decide +kernel
theorem dX11_laysClass_46 : decode cX11_laysClass 46 = .ok (.putfield 443, 3) := by decide +kernel
theorem dX11_laysClass_49 : decode cX11_laysClass 49 = .ok (.iconst 0, 1) := by decide +kernel
theorem dX11_laysClass_50 : decode cX11_laysClass 50 = .ok (.istore_n 2, 1) := by decide +kernel
theorem dX11_laysClass_51 : decode cX11_laysClass 51 = .ok (.iload_n 2, 1) := by decide +kernel
theorem dX11_laysClass_52 : decode cX11_laysClass 52 = .ok (.aload_n 0, 1) := by decide +kernel
theorem dX11_laysClass_53 : decode cX11_laysClass 53 = .ok (.getfield 437, 3) := by decide +kernel
theorem dX11_laysClass_56 : decode cX11_laysClass 56 = .ok (.if_icmp .ge 110, 3) := by decide +kernel
theorem dX11_laysClass_59 : decode cX11_laysClass 59 = .ok (.iconst 0, 1) := by decide +kernel
theorem dX11_laysClass_60 : decode cX11_laysClass 60 = .ok (.istore_n 3, 1) := by decide +kernel
theorem dX11_laysClass_61 : decode cX11_laysClass 61 = .ok (.iload_n 3, 1) := by decide +kernel
theorem dX11_laysClass_62 : decode cX11_laysClass 62 = .ok (.aload_n 0, 1) := by decide +kernel
theorem dX11_laysClass_63 : decode cX11_laysClass 63 = .ok (.getfield 101, 3) := by decide +kernel
theorem dX11_laysClass_66 : decode cX11_laysClass 66 = .ok (.if_icmp .ge 94, 3) := by decide +kernel
theorem dX11_laysClass_69 : decode cX11_laysClass 69 = .ok (.aload_n 0, 1) := by decide +kernel
theorem dX11_laysClass_70 : decode cX11_laysClass 70 = .ok (.getfield 88, 3) := by decide +kernel
theorem dX11_laysClass_73 : decode cX11_laysClass 73 = .ok (.iload_n 2, 1) := by decide +kernel
theorem dX11_laysClass_74 : decode cX11_laysClass 74 = .ok (.iaload, 1) := by decide +kernel
theorem dX11_laysClass_75 : decode cX11_laysClass 75 = .ok (.iload_n 3, 1) := by decide +kernel
theorem dX11_laysClass_76 : decode cX11_laysClass 76 = .ok (.aload_n 0, 1) := by decide +kernel
theorem dX11_laysClass_77 : decode cX11_laysClass 77 = .ok (.getfield 101, 3) := by decide +kernel
theorem dX11_laysClass_80 : decode cX11_laysClass 80 = .ok (.invokestatic 446, 3) := by decide +kernel
theorem dX11_laysClass_83 : decode cX11_laysClass 83 = .ok (.istore 4, 2) := by decide +kernel
theorem dX11_laysClass_85 : decode cX11_laysClass 85 = .ok (.aload_n 0, 1) := by decide +kernel
theorem dX11_laysClass_86 : decode cX11_laysClass 86 = .ok (.iload 4, 2) := by decide +kernel
theorem dX11_laysClass_88 : decode cX11_laysClass 88 = .ok (.invokevirtual 450, 3) := by decide +kernel
theorem dX11_laysClass_91 : decode cX11_laysClass 91 = .ok (.ifCond .ne 6, 3) := by decide +kernel
theorem dX11_laysClass_94 : decode cX11_laysClass 94 = .ok (.goto 60, 3) := by decide +kernel
theorem dX11_laysClass_97 : decode cX11_laysClass 97 = .ok (.aload_n 0, 1) := by decide +kernel
theorem dX11_laysClass_98 : decode cX11_laysClass 98 = .ok (.getfield 88, 3) := by decide +kernel
theorem dX11_laysClass_101 : decode cX11_laysClass 101 = .ok (.aload_n 0, 1) := by decide +kernel
theorem dX11_laysClass_102 : decode cX11_laysClass 102 = .ok (.getfield 437, 3) := by decide +kernel
theorem dX11_laysClass_105 : decode cX11_laysClass 105 = .ok (.iload 4, 2) := by decide +kernel
theorem dX11_laysClass_107 : decode cX11_laysClass 107 = .ok (.iastore, 1) := by decide +kernel
theorem dX11_laysClass_108 : decode cX11_laysClass 108 = .ok (.aload_n 0, 1) := by decide +kernel
theorem dX11_laysClass_109 : decode cX11_laysClass 109 = .ok (.getfield 91, 3) := by decide +kernel
theorem dX11_laysClass_112 : decode cX11_laysClass 112 = .ok (.aload_n 0, 1) := by decide +kernel
theorem dX11_laysClass_113 : decode cX11_laysClass 113 = .ok (.getfield 437, 3) := by decide +kernel
theorem dX11_laysClass_116 : decode cX11_laysClass 116 = .ok (.aload_n 0, 1) := by decide +kernel
theorem dX11_laysClass_117 : decode cX11_laysClass 117 = .ok (.getfield 91, 3) := by decide +kernel
theorem dX11_laysClass_120 : decode cX11_laysClass 120 = .ok (.iload_n 2, 1) := by decide +kernel
theorem dX11_laysClass_121 : decode cX11_laysClass 121 = .ok (.iaload, 1) := by decide +kernel
theorem dX11_laysClass_122 : decode cX11_laysClass 122 = .ok (.iconst 1, 1) := by decide +kernel
theorem dX11_laysClass_123 : decode cX11_laysClass 123 = .ok (.iadd, 1) := by decide +kernel
theorem dX11_laysClass_124 : decode cX11_laysClass 124 = .ok (.iastore, 1) := by decide +kernel
theorem dX11_laysClass_125 : decode cX11_laysClass 125 = .ok (.iload 4, 2) := by decide +kernel
theorem dX11_laysClass_127 : decode cX11_laysClass 127 = .ok (.iload_n 1, 1) := by decide +kernel
theorem dX11_laysClass_128 : decode cX11_laysClass 128 = .ok (.if_icmp .ne 16, 3) := by decide +kernel
theorem dX11_laysClass_131 : decode cX11_laysClass 131 = .ok (.aload_n 0, 1) := by decide +kernel
theorem dX11_laysClass_132 : decode cX11_laysClass 132 = .ok (.aload_n 0, 1) := by decide +kernel
theorem dX11_laysClass_133 : decode cX11_laysClass 133 = .ok (.getfield 91, 3) := by decide +kernel
theorem dX11_laysClass_136 : decode cX11_laysClass 136 = .ok (.aload_n 0, 1) := by decide +kernel
theorem dX11_laysClass_137 : decode cX11_laysClass 137 = .ok (.getfield 437, 3) := by decide +kernel
theorem dX11_laysClass_140 : decode cX11_laysClass 140 = .ok (.iaload, 1) := by decide +kernel
theorem dX11_laysClass_141 : decode cX11_laysClass 141 = .ok (.putfield 443, 3) := by decide +kernel
theorem dX11_laysClass_144 : decode cX11_laysClass 144 = .ok (.aload_n 0, 1) := by decide +kernel
theorem dX11_laysClass_145 : decode cX11_laysClass 145 = .ok (.dup, 1) := by decide +kernel
theorem dX11_laysClass_146 : decode cX11_laysClass 146 = .ok (.getfield 437, 3) := by decide +kernel
theorem dX11_laysClass_149 : decode cX11_laysClass 149 = .ok (.iconst 1, 1) := by decide +kernel
theorem dX11_laysClass_150 : decode cX11_laysClass 150 = .ok (.iadd, 1) := by decide +kernel
theorem dX11_laysClass_151 : decode cX11_laysClass 151 = .ok (.putfield 437, 3) := by decide +kernel
theorem dX11_laysClass_154 : decode cX11_laysClass 154 = .ok (.iinc 3 1, 3) := by decide +kernel
theorem dX11_laysClass_157 : decode cX11_laysClass 157 = .ok (.goto (-96), 3) := by decide +kernel
theorem dX11_laysClass_160 : decode cX11_laysClass 160 = .ok (.iinc 2 1, 3) := by decide +kernel
theorem dX11_laysClass_163 : decode cX11_laysClass 163 = .ok (.goto (-112), 3) := by decide +kernel
theorem dX11_laysClass_166 : decode cX11_laysClass 166 = .ok (.aload_n 0, 1) := by decide +kernel
theorem dX11_laysClass_167 : decode cX11_laysClass 167 = .ok (.getfield 437, 3) := by decide +kernel
theorem dX11_laysClass_170 : decode cX11_laysClass 170 = .ok (.ireturn, 1) := by decide +kernel
def fp_X11_laysClass_L61 (k160 : zM → Option (Int32 × zM)) (v0 : Nat) (v1 : Int32) (v2 : Int32) : Nat → Int32 → zM → Option (Int32 × zM)
  | 0, _, _ => none
  | n + 1, v3, M =>
    (zgI 9 M v0 0).bind fun (y16 : Int32) =>
    if v3 ≥ y16 then (
      k160 M)
    else (
      (zgR 9 M v0 47).bind fun (y17 : Nat) =>
      (zlI 100 M y17 v2).bind fun (y18 : Int32) =>
      (zgI 9 M v0 0).bind fun (y19 : Int32) =>
      (fp_X11_turnedCode y18 v3 y19).bind fun (y20 : Int32) =>
      (fp_X11_isNew v0 y20 M).bind fun (y21 : Int32) =>
      zjn (fun (M22 : zM) =>
          fp_X11_laysClass_L61 k160 v0 v1 v2 n (v3 + 1) M22)
        (fun j154 =>
          if y21 ≠ 0 then (
            (zgR 9 M v0 47).bind fun (y23 : Nat) =>
            (zgI 9 M v0 49).bind fun (y24 : Int32) =>
            (ztI M y23 y24 y20).bind fun (M25 : zM) =>
            (zgR 9 M25 v0 48).bind fun (y26 : Nat) =>
            (zgI 9 M25 v0 49).bind fun (y27 : Int32) =>
            (zgR 9 M25 v0 48).bind fun (y28 : Nat) =>
            (zlI 100 M25 y28 v2).bind fun (y29 : Int32) =>
            (ztI M25 y26 y27 (y29 + 1)).bind fun (M30 : zM) =>
            zjn (fun (M31 : zM) =>
                (zgI 9 M31 v0 49).bind fun (y32 : Int32) =>
                (zpI 9 M31 v0 49 (y32 + 1)).bind fun (M33 : zM) =>
                j154 M33)
              (fun j144 =>
                if y20 ≠ v1 then (
                  j144 M30)
                else (
                  (zgR 9 M30 v0 48).bind fun (y34 : Nat) =>
                  (zgI 9 M30 v0 49).bind fun (y35 : Int32) =>
                  (zlI 100 M30 y34 y35).bind fun (y36 : Int32) =>
                  (zpI 9 M30 v0 50 y36).bind fun (M37 : zM) =>
                  j144 M37)))
          else (
            j154 M)))
def fp_X11_laysClass_L51 (v0 : Nat) (v1 : Int32) : Nat → Int32 → zM → Option (Int32 × zM)
  | 0, _, _ => none
  | n + 1, v2, M =>
    (zgI 9 M v0 49).bind fun (y14 : Int32) =>
    if v2 ≥ y14 then (
      (zgI 9 M v0 49).bind fun (y15 : Int32) =>
      some (y15, M))
    else (
      fp_X11_laysClass_L61
        (fun M38 =>
          fp_X11_laysClass_L51 v0 v1 n (v2 + 1) M38) v0 v1 v2 FU 0 M)
def fp_X11_laysClass (v0 : Nat) (v1 : Int32) (M : zM) : Option (Int32 × zM) :=
  zthis 9 M v0 (
    (zgR 9 M v0 47).bind fun (y1 : Nat) =>
    (zgR 9 M v0 2).bind fun (y2 : Nat) =>
    (zgI 9 M v0 0).bind fun (y3 : Int32) =>
    (fp_X11_codeOf y2 0 y3 M).bind fun (y4 : Int32) =>
    (ztI M y1 0 y4).bind fun (M5 : zM) =>
    (zgR 9 M5 v0 48).bind fun (y6 : Nat) =>
    (ztI M5 y6 0 0).bind fun (M7 : zM) =>
    (zpI 9 M7 v0 49 1).bind fun (M8 : zM) =>
    (zgR 9 M8 v0 47).bind fun (y9 : Nat) =>
    (zlI 100 M8 y9 0).bind fun (y10 : Int32) =>
    zjn (fun (s11 : Int32) (s12 : Nat) =>
        (zpI 9 M8 s12 50 s11).bind fun (M13 : zM) =>
        fp_X11_laysClass_L51 v0 v1 FU 0 M13)
      (fun j46 =>
        if y10 ≠ v1 then (
          j46 (-1) v0)
        else (
          j46 0 v0)))
set_option maxHeartbeats 4000000 in
set_option maxRecDepth 100000 in
theorem th_X11_laysClass {v0 : Nat} {v1 : Int32} {M : zM} {x0 : Int32 × zM} (h : fp_X11_laysClass v0 v1 M = some x0) : v0 < zS M ∧ kd v0 = 9 := by
  unfold fp_X11_laysClass at h
  exact zthis_of h
set_option maxHeartbeats 4000000 in
set_option maxRecDepth 100000 in
theorem w_X11_laysClass_L61 (E : zEnv) (hE : zEok E) (d : Nat) (hd : 3 ≤ d) (M0 : zM) (x0 : Int32 × zM) (v0 : Nat) (v1 : Int32) (v2 : Int32) (k160 : zM → Option (Int32 × zM)) (hk160 : ∀ (M : zM), zSy E mu_X11_laysClass d M0 (some (.int x0.1), x0.2) x0 (k160 M) 160 [(0, .ref (E.2.2.2.1 + v0)), (1, .int v1), (2, .int v2)] [] M) : ∀ (n : Nat) (v3 : Int32) (M : zM), zSy E mu_X11_laysClass d M0 (some (.int x0.1), x0.2) x0 (fp_X11_laysClass_L61 k160 v0 v1 v2 n v3 M) 61 [(0, .ref (E.2.2.2.1 + v0)), (1, .int v1), (2, .int v2), (3, .int v3)] [] M := by
  intro n
  induction n with
  | zero =>
    intro v3 M
    rw [fp_X11_laysClass_L61]
    exact zs_none
  | succ n ih =>
    intro v3 M
    rw [fp_X11_laysClass_L61]
    refine zs_iload_n dX11_laysClass_61 rfl 3 rfl ?_
    refine zs_aload_n dX11_laysClass_62 rfl 0 rfl ?_
    refine zs_getI dX11_laysClass_63 fl_X11_101 rfl (fun y16 => ?_)
    refine zs_icmp_ge dX11_laysClass_66 rfl ?_ ?_
    · refine zs_sub (loc' := [(0, .ref (E.2.2.2.1 + v0)), (1, .int v1), (2, .int v2)]) [0, 1, 2] rfl ?_
      exact hk160 M
    refine zs_aload_n dX11_laysClass_69 rfl 0 rfl ?_
    refine zs_getR dX11_laysClass_70 fl_X11_88 rfl (fun y17 => ?_)
    refine zs_iload_n dX11_laysClass_73 rfl 2 rfl ?_
    refine zs_ldI dX11_laysClass_74 (fun y18 => ?_)
    refine zs_iload_n dX11_laysClass_75 rfl 3 rfl ?_
    refine zs_aload_n dX11_laysClass_76 rfl 0 rfl ?_
    refine zs_getI dX11_laysClass_77 fl_X11_101 rfl (fun y19 => ?_)
    refine zs_invSPI (rest := []) [.int y18, .int v3, .int y19] dX11_laysClass_80 lk_X11_446 rfl (zd1 rfl hd) rfl (Nat.le_of_ble_eq_true rfl) (ct_X11_turnedCode E hE _ (zdl rfl hd) _ _ _ _) (fun y20 => ?_)
    refine zs_istore (loc' := [(0, .ref (E.2.2.2.1 + v0)), (1, .int v1), (2, .int v2), (3, .int v3), (4, .int y20)]) dX11_laysClass_83 (Nat.le_of_ble_eq_true rfl) [1, 2, 3, 4, 0] rfl ?_
    refine zs_aload_n dX11_laysClass_85 rfl 0 rfl ?_
    refine zs_iload dX11_laysClass_86 4 rfl ?_
    refine zs_invVPI (rest := []) [.int y20] dX11_laysClass_88 lk_X11_450 rfl (fun _ h => th_X11_isNew h) (zd1 rfl hd) rfl (Nat.le_of_ble_eq_true rfl) (ct_X11_isNew E hE _ (zdl rfl hd) _ _ _) (fun y21 => ?_)
    refine zs_jn (fun j154 => ∀ (M22 : zM), zSy E mu_X11_laysClass d M0 (some (.int x0.1), x0.2) x0 (j154 M22) 154 [(0, .ref (E.2.2.2.1 + v0)), (1, .int v1), (2, .int v2), (3, .int v3)] [] M22) (fun M22 => ?_) (fun j154 hj154 => ?_)
    · refine zs_iinc (v := (v3 + 1)) (loc' := [(0, .ref (E.2.2.2.1 + v0)), (1, .int v1), (2, .int v2), (3, .int (v3 + 1))]) dX11_laysClass_154 3 rfl (by rfl) (Nat.le_of_ble_eq_true rfl) [1, 2, 3, 0] rfl ?_
      refine zs_goto dX11_laysClass_157 rfl ?_
      exact ih (v3 + 1) M22
    refine zs_if_ne dX11_laysClass_91 rfl ?_ ?_
    · refine zs_aload_n dX11_laysClass_97 rfl 0 rfl ?_
      refine zs_getR dX11_laysClass_98 fl_X11_88 rfl (fun y23 => ?_)
      refine zs_aload_n dX11_laysClass_101 rfl 0 rfl ?_
      refine zs_getI dX11_laysClass_102 fl_X11_437 rfl (fun y24 => ?_)
      refine zs_iload dX11_laysClass_105 4 rfl ?_
      refine zs_stI dX11_laysClass_107 (fun M25 => ?_)
      refine zs_aload_n dX11_laysClass_108 rfl 0 rfl ?_
      refine zs_getR dX11_laysClass_109 fl_X11_91 rfl (fun y26 => ?_)
      refine zs_aload_n dX11_laysClass_112 rfl 0 rfl ?_
      refine zs_getI dX11_laysClass_113 fl_X11_437 rfl (fun y27 => ?_)
      refine zs_aload_n dX11_laysClass_116 rfl 0 rfl ?_
      refine zs_getR dX11_laysClass_117 fl_X11_91 rfl (fun y28 => ?_)
      refine zs_iload_n dX11_laysClass_120 rfl 2 rfl ?_
      refine zs_ldI dX11_laysClass_121 (fun y29 => ?_)
      refine zs_iconst (v := 1) dX11_laysClass_122 ciconst_1 ?_
      refine zs_iadd dX11_laysClass_123 ?_
      refine zs_stI dX11_laysClass_124 (fun M30 => ?_)
      refine zs_iload dX11_laysClass_125 4 rfl ?_
      refine zs_iload_n dX11_laysClass_127 rfl 1 rfl ?_
      refine zs_jn (fun j144 => ∀ (M31 : zM), zSy E mu_X11_laysClass d M0 (some (.int x0.1), x0.2) x0 (j144 M31) 144 [(0, .ref (E.2.2.2.1 + v0)), (1, .int v1), (2, .int v2), (3, .int v3)] [] M31) (fun M31 => ?_) (fun j144 hj144 => ?_)
      · refine zs_aload_n dX11_laysClass_144 rfl 0 rfl ?_
        refine zs_dup dX11_laysClass_145 rfl ?_
        refine zs_getI dX11_laysClass_146 fl_X11_437 rfl (fun y32 => ?_)
        refine zs_iconst (v := 1) dX11_laysClass_149 ciconst_1 ?_
        refine zs_iadd dX11_laysClass_150 ?_
        refine zs_putI dX11_laysClass_151 fl_X11_437 ft_X11 rfl rfl rfl rfl rfl (fun M33 => ?_)
        exact hj154 M33
      refine zs_icmp_ne dX11_laysClass_128 rfl ?_ ?_
      · refine zs_sub (loc' := [(0, .ref (E.2.2.2.1 + v0)), (1, .int v1), (2, .int v2), (3, .int v3)]) [0, 1, 2, 3] rfl ?_
        exact hj144 M30
      refine zs_aload_n dX11_laysClass_131 rfl 0 rfl ?_
      refine zs_aload_n dX11_laysClass_132 rfl 0 rfl ?_
      refine zs_getR dX11_laysClass_133 fl_X11_91 rfl (fun y34 => ?_)
      refine zs_aload_n dX11_laysClass_136 rfl 0 rfl ?_
      refine zs_getI dX11_laysClass_137 fl_X11_437 rfl (fun y35 => ?_)
      refine zs_ldI dX11_laysClass_140 (fun y36 => ?_)
      refine zs_putI dX11_laysClass_141 fl_X11_443 ft_X11 rfl rfl rfl rfl rfl (fun M37 => ?_)
      refine zs_sub (loc' := [(0, .ref (E.2.2.2.1 + v0)), (1, .int v1), (2, .int v2), (3, .int v3)]) [0, 1, 2, 3] rfl ?_
      exact hj144 M37
    refine zs_goto dX11_laysClass_94 rfl ?_
    refine zs_sub (loc' := [(0, .ref (E.2.2.2.1 + v0)), (1, .int v1), (2, .int v2), (3, .int v3)]) [0, 1, 2, 3] rfl ?_
    exact hj154 M
set_option maxHeartbeats 4000000 in
set_option maxRecDepth 100000 in
theorem w_X11_laysClass_L51 (E : zEnv) (hE : zEok E) (d : Nat) (hd : 3 ≤ d) (M0 : zM) (x0 : Int32 × zM) (v0 : Nat) (v1 : Int32)  : ∀ (n : Nat) (v2 : Int32) (M : zM), zSy E mu_X11_laysClass d M0 (some (.int x0.1), x0.2) x0 (fp_X11_laysClass_L51 v0 v1 n v2 M) 51 [(0, .ref (E.2.2.2.1 + v0)), (1, .int v1), (2, .int v2)] [] M := by
  intro n
  induction n with
  | zero =>
    intro v2 M
    rw [fp_X11_laysClass_L51]
    exact zs_none
  | succ n ih =>
    intro v2 M
    rw [fp_X11_laysClass_L51]
    refine zs_iload_n dX11_laysClass_51 rfl 2 rfl ?_
    refine zs_aload_n dX11_laysClass_52 rfl 0 rfl ?_
    refine zs_getI dX11_laysClass_53 fl_X11_437 rfl (fun y14 => ?_)
    refine zs_icmp_ge dX11_laysClass_56 rfl ?_ ?_
    · refine zs_aload_n dX11_laysClass_166 rfl 0 rfl ?_
      refine zs_getI dX11_laysClass_167 fl_X11_437 rfl (fun y15 => ?_)
      exact zs_iretW dX11_laysClass_170 rfl
    refine zs_iconst (v := 0) dX11_laysClass_59 ciconst_0 ?_
    refine zs_istore_n (loc' := [(0, .ref (E.2.2.2.1 + v0)), (1, .int v1), (2, .int v2), (3, .int 0)]) dX11_laysClass_60 rfl (Nat.le_of_ble_eq_true rfl) [1, 2, 3, 0] rfl ?_
    refine w_X11_laysClass_L61 E hE d hd _ _ _ _ _ _ (fun M38 => ?_) _ _ _
    refine zs_iinc (v := (v2 + 1)) (loc' := [(0, .ref (E.2.2.2.1 + v0)), (1, .int v1), (2, .int (v2 + 1))]) dX11_laysClass_160 2 rfl (by rfl) (Nat.le_of_ble_eq_true rfl) [1, 2, 0] rfl ?_
    refine zs_goto dX11_laysClass_163 rfl ?_
    exact ih (v2 + 1) M38
set_option maxHeartbeats 4000000 in
set_option maxRecDepth 100000 in
theorem ct_X11_laysClass (E : zEnv) (hE : zEok E) (d : Nat) (hd : 3 ≤ d) (v0 : Nat) (v1 : Int32) (M : zM) (x0 : Int32 × zM) (hx : fp_X11_laysClass v0 v1 M = some x0) : zCt E mu_X11_laysClass d [.ref (E.2.2.2.1 + v0), .int v1] M (some (.int x0.1), x0.2) := by
  refine zCt_of (μ := mu_X11_laysClass) (t := fp_X11_laysClass v0 v1 M) rfl rfl (Nat.le_of_ble_eq_true rfl) hx ?_
  change zSy E mu_X11_laysClass d M (some (.int x0.1), x0.2) x0 (fp_X11_laysClass v0 v1 M) 0 [(0, .ref (E.2.2.2.1 + v0)), (1, .int v1)] [] M
  unfold fp_X11_laysClass
  refine zs_this (fun hth => ?_)
  refine zs_aload_n dX11_laysClass_0 rfl 0 rfl ?_
  refine zs_getR dX11_laysClass_1 fl_X11_88 rfl (fun y1 => ?_)
  refine zs_iconst (v := 0) dX11_laysClass_4 ciconst_0 ?_
  refine zs_aload_n dX11_laysClass_5 rfl 0 rfl ?_
  refine zs_getR dX11_laysClass_6 fl_X11_7 rfl (fun y2 => ?_)
  refine zs_iconst (v := 0) dX11_laysClass_9 ciconst_0 ?_
  refine zs_aload_n dX11_laysClass_10 rfl 0 rfl ?_
  refine zs_getI dX11_laysClass_11 fl_X11_101 rfl (fun y3 => ?_)
  refine zs_invSPI (rest := [.int 0, .ref (E.2.2.2.1 + y1)]) [.ref (E.2.2.2.1 + y2), .int 0, .int y3] dX11_laysClass_14 lk_X11_440 rfl (zd1 rfl hd) rfl (Nat.le_of_ble_eq_true rfl) (ct_X11_codeOf E hE _ (zdl rfl hd) _ _ _ _) (fun y4 => ?_)
  refine zs_stI dX11_laysClass_17 (fun M5 => ?_)
  refine zs_aload_n dX11_laysClass_18 rfl 0 rfl ?_
  refine zs_getR dX11_laysClass_19 fl_X11_91 rfl (fun y6 => ?_)
  refine zs_iconst (v := 0) dX11_laysClass_22 ciconst_0 ?_
  refine zs_iconst (v := 0) dX11_laysClass_23 ciconst_0 ?_
  refine zs_stI dX11_laysClass_24 (fun M7 => ?_)
  refine zs_aload_n dX11_laysClass_25 rfl 0 rfl ?_
  refine zs_iconst (v := 1) dX11_laysClass_26 ciconst_1 ?_
  refine zs_putI dX11_laysClass_27 fl_X11_437 ft_X11 rfl rfl rfl rfl rfl (fun M8 => ?_)
  refine zs_aload_n dX11_laysClass_30 rfl 0 rfl ?_
  refine zs_aload_n dX11_laysClass_31 rfl 0 rfl ?_
  refine zs_getR dX11_laysClass_32 fl_X11_88 rfl (fun y9 => ?_)
  refine zs_iconst (v := 0) dX11_laysClass_35 ciconst_0 ?_
  refine zs_ldI dX11_laysClass_36 (fun y10 => ?_)
  refine zs_iload_n dX11_laysClass_37 rfl 1 rfl ?_
  refine zs_jn (fun j46 => ∀ (s11 : Int32) (s12 : Nat), zSy E mu_X11_laysClass d M (some (.int x0.1), x0.2) x0 (j46 s11 s12) 46 [(0, .ref (E.2.2.2.1 + v0)), (1, .int v1)] [.int s11, .ref (E.2.2.2.1 + s12)] M8) (fun s11 s12 => ?_) (fun j46 hj46 => ?_)
  · refine zs_putI dX11_laysClass_46 fl_X11_443 ft_X11 rfl rfl rfl rfl rfl (fun M13 => ?_)
    refine zs_iconst (v := 0) dX11_laysClass_49 ciconst_0 ?_
    refine zs_istore_n (loc' := [(0, .ref (E.2.2.2.1 + v0)), (1, .int v1), (2, .int 0)]) dX11_laysClass_50 rfl (Nat.le_of_ble_eq_true rfl) [1, 2, 0] rfl ?_
    exact w_X11_laysClass_L51 E hE d hd _ _ _ _ _ _ _
  refine zs_icmp_ne dX11_laysClass_38 rfl ?_ ?_
  · refine zs_iconst (v := (-1)) dX11_laysClass_45 ciconst_m1 ?_
    exact hj46 (-1) v0
  refine zs_iconst (v := 0) dX11_laysClass_41 ciconst_0 ?_
  refine zs_goto dX11_laysClass_42 rfl ?_
  exact hj46 0 v0
theorem dX11_many_0 : decode cX11_many 0 = .ok (.iload_n 1, 1) := by decide +kernel
theorem dX11_many_1 : decode cX11_many 1 = .ok (.tableswitch 137 0 7 #[47, 56, 65, 74, 83, 104, 117, 127], 47) := by decide +kernel
theorem dX11_many_48 : decode cX11_many 48 = .ok (.aload_n 0, 1) := by decide +kernel
theorem dX11_many_49 : decode cX11_many 49 = .ok (.aload_n 0, 1) := by decide +kernel
theorem dX11_many_50 : decode cX11_many 50 = .ok (.getfield 101, 3) := by decide +kernel
theorem dX11_many_53 : decode cX11_many 53 = .ok (.invokevirtual 242, 3) := by decide +kernel
theorem dX11_many_56 : decode cX11_many 56 = .ok (.ireturn, 1) := by decide +kernel
theorem dX11_many_57 : decode cX11_many 57 = .ok (.aload_n 0, 1) := by decide +kernel
theorem dX11_many_58 : decode cX11_many 58 = .ok (.aload_n 0, 1) := by decide +kernel
theorem dX11_many_59 : decode cX11_many 59 = .ok (.invokevirtual 248, 3) := by decide +kernel
theorem dX11_many_62 : decode cX11_many 62 = .ok (.invokevirtual 242, 3) := by decide +kernel
theorem dX11_many_65 : decode cX11_many 65 = .ok (.ireturn, 1) := by decide +kernel
theorem dX11_many_66 : decode cX11_many 66 = .ok (.aload_n 0, 1) := by decide +kernel
theorem dX11_many_67 : decode cX11_many 67 = .ok (.aload_n 0, 1) := by decide +kernel
theorem dX11_many_68 : decode cX11_many 68 = .ok (.invokevirtual 132, 3) := by decide +kernel
theorem dX11_many_71 : decode cX11_many 71 = .ok (.invokevirtual 242, 3) := by decide +kernel
theorem dX11_many_74 : decode cX11_many 74 = .ok (.ireturn, 1) := by decide +kernel
theorem dX11_many_75 : decode cX11_many 75 = .ok (.aload_n 0, 1) := by decide +kernel
theorem dX11_many_76 : decode cX11_many 76 = .ok (.aload_n 0, 1) := by decide +kernel
theorem dX11_many_77 : decode cX11_many 77 = .ok (.getfield 245, 3) := by decide +kernel
theorem dX11_many_80 : decode cX11_many 80 = .ok (.invokevirtual 242, 3) := by decide +kernel
theorem dX11_many_83 : decode cX11_many 83 = .ok (.ireturn, 1) := by decide +kernel
theorem dX11_many_84 : decode cX11_many 84 = .ok (.aload_n 0, 1) := by decide +kernel
theorem dX11_many_85 : decode cX11_many 85 = .ok (.aload_n 0, 1) := by decide +kernel
theorem dX11_many_86 : decode cX11_many 86 = .ok (.invokevirtual 251, 3) := by decide +kernel
theorem dX11_many_89 : decode cX11_many 89 = .ok (.ifCond .eq 11, 3) := by decide +kernel
theorem dX11_many_92 : decode cX11_many 92 = .ok (.aload_n 0, 1) := by decide +kernel
theorem dX11_many_93 : decode cX11_many 93 = .ok (.iconst (-1), 1) := by decide +kernel
theorem dX11_many_94 : decode cX11_many 94 = .ok (.invokevirtual 254, 3) := by decide +kernel
theorem dX11_many_97 : decode cX11_many 97 = .ok (.goto 4, 3) := by decide +kernel
theorem dX11_many_100 : decode cX11_many 100 = .ok (.iconst 0, 1) := by decide +kernel
theorem dX11_many_101 : decode cX11_many 101 = .ok (.invokevirtual 242, 3) := by decide +kernel
theorem dX11_many_104 : decode cX11_many 104 = .ok (.ireturn, 1) := by decide +kernel
theorem dX11_many_105 : decode cX11_many 105 = .ok (.aload_n 0, 1) := by decide +kernel
theorem dX11_many_106 : decode cX11_many 106 = .ok (.invokevirtual 257, 3) := by decide +kernel
theorem dX11_many_109 : decode cX11_many 109 = .ok (.aload_n 0, 1) := by decide +kernel
theorem dX11_many_110 : decode cX11_many 110 = .ok (.aload_n 0, 1) := by decide +kernel
theorem dX11_many_111 : decode cX11_many 111 = .ok (.getfield 260, 3) := by decide +kernel
theorem dX11_many_114 : decode cX11_many 114 = .ok (.invokevirtual 242, 3) := by decide +kernel
theorem dX11_many_117 : decode cX11_many 117 = .ok (.ireturn, 1) := by decide +kernel
theorem dX11_many_118 : decode cX11_many 118 = .ok (.aload_n 0, 1) := by decide +kernel
theorem dX11_many_119 : decode cX11_many 119 = .ok (.aload_n 0, 1) := by decide +kernel
theorem dX11_many_120 : decode cX11_many 120 = .ok (.iconst (-1), 1) := by decide +kernel
theorem dX11_many_121 : decode cX11_many 121 = .ok (.invokevirtual 263, 3) := by decide +kernel
theorem dX11_many_124 : decode cX11_many 124 = .ok (.invokevirtual 242, 3) := by decide +kernel
theorem dX11_many_127 : decode cX11_many 127 = .ok (.ireturn, 1) := by decide +kernel
theorem dX11_many_128 : decode cX11_many 128 = .ok (.aload_n 0, 1) := by decide +kernel
theorem dX11_many_129 : decode cX11_many 129 = .ok (.aload_n 0, 1) := by decide +kernel
theorem dX11_many_130 : decode cX11_many 130 = .ok (.iconst (-1), 1) := by decide +kernel
theorem dX11_many_131 : decode cX11_many 131 = .ok (.invokevirtual 266, 3) := by decide +kernel
theorem dX11_many_134 : decode cX11_many 134 = .ok (.invokevirtual 242, 3) := by decide +kernel
theorem dX11_many_137 : decode cX11_many 137 = .ok (.ireturn, 1) := by decide +kernel
theorem dX11_many_138 : decode cX11_many 138 = .ok (.aload_n 0, 1) := by decide +kernel
theorem dX11_many_139 : decode cX11_many 139 = .ok (.iconst 1, 1) := by decide +kernel
theorem dX11_many_140 : decode cX11_many 140 = .ok (.invokevirtual 226, 3) := by decide +kernel
theorem dX11_many_143 : decode cX11_many 143 = .ok (.ireturn, 1) := by decide +kernel
def fp_X11_many (v0 : Nat) (v1 : Int32) (M : zM) : Option (Int32 × zM) :=
  zthis 9 M v0 (
    if v1 = 0 then (
      (zgI 9 M v0 0).bind fun (y1 : Int32) =>
      (fp_X11_gives v0 y1 M).bind fun p4 => zpp p4 fun (y2 : Int32) (M3 : zM) =>
      some (y2, M3))
    else if v1 = 1 then (
      (fp_X11_lines v0 M).bind fun (y6 : Int32) =>
      (fp_X11_gives v0 y6 M).bind fun p9 => zpp p9 fun (y7 : Int32) (M8 : zM) =>
      some (y7, M8))
    else if v1 = 2 then (
      (fp_X11_sets v0 M).bind fun (y11 : Int32) =>
      (fp_X11_gives v0 y11 M).bind fun p14 => zpp p14 fun (y12 : Int32) (M13 : zM) =>
      some (y12, M13))
    else if v1 = 3 then (
      (zgI 9 M v0 20).bind fun (y16 : Int32) =>
      (fp_X11_gives v0 y16 M).bind fun p19 => zpp p19 fun (y17 : Int32) (M18 : zM) =>
      some (y17, M18))
    else if v1 = 4 then (
      (fp_X11_areJoined v0 M).bind fun (y21 : Int32) =>
      if y21 = 0 then (
        (fp_X11_gives v0 0 M).bind fun p24 => zpp p24 fun (y22 : Int32) (M23 : zM) =>
        some (y22, M23))
      else (
        (fp_X11_splits v0 (-1) M).bind fun p27 => zpp p27 fun (y25 : Int32) (M26 : zM) =>
        (fp_X11_gives v0 y25 M26).bind fun p30 => zpp p30 fun (y28 : Int32) (M29 : zM) =>
        some (y28, M29)))
    else if v1 = 5 then (
      (fp_X11_laysPieces v0 M).bind fun (M32 : zM) =>
      (zgI 9 M32 v0 28).bind fun (y33 : Int32) =>
      (fp_X11_gives v0 y33 M32).bind fun p36 => zpp p36 fun (y34 : Int32) (M35 : zM) =>
      some (y34, M35))
    else if v1 = 6 then (
      (fp_X11_models v0 (-1) M).bind fun p40 => zpp p40 fun (y38 : Int32) (M39 : zM) =>
      (fp_X11_gives v0 y38 M39).bind fun p43 => zpp p43 fun (y41 : Int32) (M42 : zM) =>
      some (y41, M42))
    else if v1 = 7 then (
      (fp_X11_laysClass v0 (-1) M).bind fun p47 => zpp p47 fun (y45 : Int32) (M46 : zM) =>
      (fp_X11_gives v0 y45 M46).bind fun p50 => zpp p50 fun (y48 : Int32) (M49 : zM) =>
      some (y48, M49))
    else (
      (fp_X11_refuse v0 1 M).bind fun p54 => zpp p54 fun (y52 : Int32) (M53 : zM) =>
      some (y52, M53)))
set_option maxHeartbeats 4000000 in
set_option maxRecDepth 100000 in
theorem th_X11_many {v0 : Nat} {v1 : Int32} {M : zM} {x0 : Int32 × zM} (h : fp_X11_many v0 v1 M = some x0) : v0 < zS M ∧ kd v0 = 9 := by
  unfold fp_X11_many at h
  exact zthis_of h
set_option maxHeartbeats 4000000 in
set_option maxRecDepth 100000 in
theorem ct_X11_many (E : zEnv) (hE : zEok E) (d : Nat) (hd : 28 ≤ d) (v0 : Nat) (v1 : Int32) (M : zM) (x0 : Int32 × zM) (hx : fp_X11_many v0 v1 M = some x0) : zCt E mu_X11_many d [.ref (E.2.2.2.1 + v0), .int v1] M (some (.int x0.1), x0.2) := by
  refine zCt_of (μ := mu_X11_many) (t := fp_X11_many v0 v1 M) rfl rfl (Nat.le_of_ble_eq_true rfl) hx ?_
  change zSy E mu_X11_many d M (some (.int x0.1), x0.2) x0 (fp_X11_many v0 v1 M) 0 [(0, .ref (E.2.2.2.1 + v0)), (1, .int v1)] [] M
  unfold fp_X11_many
  refine zs_this (fun hth => ?_)
  refine zs_iload_n dX11_many_0 rfl 1 rfl ?_
  refine zs_ite (fun hc5 => ?_) (fun hc5 => ?_)
  · refine zs_tsw dX11_many_1 hc5 (by decide) (by decide) (by rfl) rfl ?_
    refine zs_aload_n dX11_many_48 rfl 0 rfl ?_
    refine zs_aload_n dX11_many_49 rfl 0 rfl ?_
    refine zs_getI dX11_many_50 fl_X11_101 rfl (fun y1 => ?_)
    refine zs_invVWI (rest := []) [.int y1] dX11_many_53 lk_X11_242 rfl (fun _ h => th_X11_gives h) (zd1 rfl hd) rfl (Nat.le_of_ble_eq_true rfl) (ct_X11_gives E hE _ (zdl rfl hd) _ _ _) (fun y2 M3 => ?_)
    exact zs_iretW dX11_many_56 rfl
  refine zs_ite (fun hc10 => ?_) (fun hc10 => ?_)
  · refine zs_tsw dX11_many_1 hc10 (by decide) (by decide) (by rfl) rfl ?_
    refine zs_aload_n dX11_many_57 rfl 0 rfl ?_
    refine zs_aload_n dX11_many_58 rfl 0 rfl ?_
    refine zs_invVPI (rest := [.ref (E.2.2.2.1 + v0)]) [] dX11_many_59 lk_X11_248 rfl (fun _ h => th_X11_lines h) (zd1 rfl hd) rfl (Nat.le_of_ble_eq_true rfl) (ct_X11_lines E hE _ (zdl rfl hd) _ _) (fun y6 => ?_)
    refine zs_invVWI (rest := []) [.int y6] dX11_many_62 lk_X11_242 rfl (fun _ h => th_X11_gives h) (zd1 rfl hd) rfl (Nat.le_of_ble_eq_true rfl) (ct_X11_gives E hE _ (zdl rfl hd) _ _ _) (fun y7 M8 => ?_)
    exact zs_iretW dX11_many_65 rfl
  refine zs_ite (fun hc15 => ?_) (fun hc15 => ?_)
  · refine zs_tsw dX11_many_1 hc15 (by decide) (by decide) (by rfl) rfl ?_
    refine zs_aload_n dX11_many_66 rfl 0 rfl ?_
    refine zs_aload_n dX11_many_67 rfl 0 rfl ?_
    refine zs_invVPI (rest := [.ref (E.2.2.2.1 + v0)]) [] dX11_many_68 lk_X11_132 rfl (fun _ h => th_X11_sets h) (zd1 rfl hd) rfl (Nat.le_of_ble_eq_true rfl) (ct_X11_sets E hE _ (zdl rfl hd) _ _) (fun y11 => ?_)
    refine zs_invVWI (rest := []) [.int y11] dX11_many_71 lk_X11_242 rfl (fun _ h => th_X11_gives h) (zd1 rfl hd) rfl (Nat.le_of_ble_eq_true rfl) (ct_X11_gives E hE _ (zdl rfl hd) _ _ _) (fun y12 M13 => ?_)
    exact zs_iretW dX11_many_74 rfl
  refine zs_ite (fun hc20 => ?_) (fun hc20 => ?_)
  · refine zs_tsw dX11_many_1 hc20 (by decide) (by decide) (by rfl) rfl ?_
    refine zs_aload_n dX11_many_75 rfl 0 rfl ?_
    refine zs_aload_n dX11_many_76 rfl 0 rfl ?_
    refine zs_getI dX11_many_77 fl_X11_245 rfl (fun y16 => ?_)
    refine zs_invVWI (rest := []) [.int y16] dX11_many_80 lk_X11_242 rfl (fun _ h => th_X11_gives h) (zd1 rfl hd) rfl (Nat.le_of_ble_eq_true rfl) (ct_X11_gives E hE _ (zdl rfl hd) _ _ _) (fun y17 M18 => ?_)
    exact zs_iretW dX11_many_83 rfl
  refine zs_ite (fun hc31 => ?_) (fun hc31 => ?_)
  · refine zs_tsw dX11_many_1 hc31 (by decide) (by decide) (by rfl) rfl ?_
    refine zs_aload_n dX11_many_84 rfl 0 rfl ?_
    refine zs_aload_n dX11_many_85 rfl 0 rfl ?_
    refine zs_invVPI (rest := [.ref (E.2.2.2.1 + v0)]) [] dX11_many_86 lk_X11_251 rfl (fun _ h => th_X11_areJoined h) (zd1 rfl hd) rfl (Nat.le_of_ble_eq_true rfl) (ct_X11_areJoined E hE _ (zdl rfl hd) _ _) (fun y21 => ?_)
    refine zs_if_eq dX11_many_89 rfl ?_ ?_
    · refine zs_iconst (v := 0) dX11_many_100 ciconst_0 ?_
      refine zs_invVWI (rest := []) [.int 0] dX11_many_101 lk_X11_242 rfl (fun _ h => th_X11_gives h) (zd1 rfl hd) rfl (Nat.le_of_ble_eq_true rfl) (ct_X11_gives E hE _ (zdl rfl hd) _ _ _) (fun y22 M23 => ?_)
      exact zs_iretW dX11_many_104 rfl
    refine zs_aload_n dX11_many_92 rfl 0 rfl ?_
    refine zs_iconst (v := (-1)) dX11_many_93 ciconst_m1 ?_
    refine zs_invVWI (rest := [.ref (E.2.2.2.1 + v0)]) [.int (-1)] dX11_many_94 lk_X11_254 rfl (fun _ h => th_X11_splits h) (zd1 rfl hd) rfl (Nat.le_of_ble_eq_true rfl) (ct_X11_splits E hE _ (zdl rfl hd) _ _ _) (fun y25 M26 => ?_)
    refine zs_goto dX11_many_97 rfl ?_
    refine zs_invVWI (rest := []) [.int y25] dX11_many_101 lk_X11_242 rfl (fun _ h => th_X11_gives h) (zd1 rfl hd) rfl (Nat.le_of_ble_eq_true rfl) (ct_X11_gives E hE _ (zdl rfl hd) _ _ _) (fun y28 M29 => ?_)
    exact zs_iretW dX11_many_104 rfl
  refine zs_ite (fun hc37 => ?_) (fun hc37 => ?_)
  · refine zs_tsw dX11_many_1 hc37 (by decide) (by decide) (by rfl) rfl ?_
    refine zs_aload_n dX11_many_105 rfl 0 rfl ?_
    refine zs_invVWV (rest := []) [] dX11_many_106 lk_X11_257 rfl (fun _ h => th_X11_laysPieces h) (zd1 rfl hd) rfl (Nat.le_of_ble_eq_true rfl) (ct_X11_laysPieces E hE _ (zdl rfl hd) _ _) (fun M32 => ?_)
    refine zs_aload_n dX11_many_109 rfl 0 rfl ?_
    refine zs_aload_n dX11_many_110 rfl 0 rfl ?_
    refine zs_getI dX11_many_111 fl_X11_260 rfl (fun y33 => ?_)
    refine zs_invVWI (rest := []) [.int y33] dX11_many_114 lk_X11_242 rfl (fun _ h => th_X11_gives h) (zd1 rfl hd) rfl (Nat.le_of_ble_eq_true rfl) (ct_X11_gives E hE _ (zdl rfl hd) _ _ _) (fun y34 M35 => ?_)
    exact zs_iretW dX11_many_117 rfl
  refine zs_ite (fun hc44 => ?_) (fun hc44 => ?_)
  · refine zs_tsw dX11_many_1 hc44 (by decide) (by decide) (by rfl) rfl ?_
    refine zs_aload_n dX11_many_118 rfl 0 rfl ?_
    refine zs_aload_n dX11_many_119 rfl 0 rfl ?_
    refine zs_iconst (v := (-1)) dX11_many_120 ciconst_m1 ?_
    refine zs_invVWI (rest := [.ref (E.2.2.2.1 + v0)]) [.int (-1)] dX11_many_121 lk_X11_263 rfl (fun _ h => th_X11_models h) (zd1 rfl hd) rfl (Nat.le_of_ble_eq_true rfl) (ct_X11_models E hE _ (zdl rfl hd) _ _ _) (fun y38 M39 => ?_)
    refine zs_invVWI (rest := []) [.int y38] dX11_many_124 lk_X11_242 rfl (fun _ h => th_X11_gives h) (zd1 rfl hd) rfl (Nat.le_of_ble_eq_true rfl) (ct_X11_gives E hE _ (zdl rfl hd) _ _ _) (fun y41 M42 => ?_)
    exact zs_iretW dX11_many_127 rfl
  refine zs_ite (fun hc51 => ?_) (fun hc51 => ?_)
  · refine zs_tsw dX11_many_1 hc51 (by decide) (by decide) (by rfl) rfl ?_
    refine zs_aload_n dX11_many_128 rfl 0 rfl ?_
    refine zs_aload_n dX11_many_129 rfl 0 rfl ?_
    refine zs_iconst (v := (-1)) dX11_many_130 ciconst_m1 ?_
    refine zs_invVWI (rest := [.ref (E.2.2.2.1 + v0)]) [.int (-1)] dX11_many_131 lk_X11_266 rfl (fun _ h => th_X11_laysClass h) (zd1 rfl hd) rfl (Nat.le_of_ble_eq_true rfl) (ct_X11_laysClass E hE _ (zdl rfl hd) _ _ _) (fun y45 M46 => ?_)
    refine zs_invVWI (rest := []) [.int y45] dX11_many_134 lk_X11_242 rfl (fun _ h => th_X11_gives h) (zd1 rfl hd) rfl (Nat.le_of_ble_eq_true rfl) (ct_X11_gives E hE _ (zdl rfl hd) _ _ _) (fun y48 M49 => ?_)
    exact zs_iretW dX11_many_137 rfl
  refine zs_tswD dX11_many_1 (ztsw_of (n := 7) (by decide) (fun q hq => by
    have hq2 : q = 0 ∨ q = 1 ∨ q = 2 ∨ q = 3 ∨ q = 4 ∨ q = 5 ∨ q = 6 ∨ q = 7 := by omega
    rcases hq2 with rfl | rfl | rfl | rfl | rfl | rfl | rfl | rfl
    · exact hc5
    · exact hc10
    · exact hc15
    · exact hc20
    · exact hc31
    · exact hc37
    · exact hc44
    · exact hc51)) rfl ?_
  refine zs_aload_n dX11_many_138 rfl 0 rfl ?_
  refine zs_iconst (v := 1) dX11_many_139 ciconst_1 ?_
  refine zs_invVWI (rest := []) [.int 1] dX11_many_140 lk_X11_226 rfl (fun _ h => th_X11_refuse h) (zd1 rfl hd) rfl (Nat.le_of_ble_eq_true rfl) (ct_X11_refuse E hE _ (zdl rfl hd) _ _ _) (fun y52 M53 => ?_)
  exact zs_iretW dX11_many_143 rfl
theorem dX11_near_0 : decode cX11_near 0 = .ok (.aload_n 0, 1) := by decide +kernel
theorem dX11_near_1 : decode cX11_near 1 = .ok (.iload_n 1, 1) := by decide +kernel
theorem dX11_near_2 : decode cX11_near 2 = .ok (.invokevirtual 269, 3) := by decide +kernel
theorem dX11_near_5 : decode cX11_near 5 = .ok (.ifCond .eq 16, 3) := by decide +kernel
theorem dX11_near_8 : decode cX11_near 8 = .ok (.aload_n 0, 1) := by decide +kernel
theorem dX11_near_9 : decode cX11_near 9 = .ok (.aload_n 0, 1) := by decide +kernel
theorem dX11_near_10 : decode cX11_near 10 = .ok (.getfield 7, 3) := by decide +kernel
theorem dX11_near_13 : decode cX11_near 13 = .ok (.iload_n 1, 1) := by decide +kernel
theorem dX11_near_14 : decode cX11_near 14 = .ok (.iaload, 1) := by decide +kernel
theorem dX11_near_15 : decode cX11_near 15 = .ok (.invokevirtual 242, 3) := by decide +kernel
theorem dX11_near_18 : decode cX11_near 18 = .ok (.goto 8, 3) := by decide +kernel
theorem dX11_near_21 : decode cX11_near 21 = .ok (.aload_n 0, 1) := by decide +kernel
theorem dX11_near_22 : decode cX11_near 22 = .ok (.iconst 2, 1) := by decide +kernel
theorem dX11_near_23 : decode cX11_near 23 = .ok (.invokevirtual 226, 3) := by decide +kernel
theorem dX11_near_26 : decode cX11_near 26 = .ok (.ireturn, 1) := by decide +kernel
def fp_X11_near (v0 : Nat) (v1 : Int32) (M : zM) : Option (Int32 × zM) :=
  zthis 9 M v0 (
    (fp_X11_isPoint v0 v1 M).bind fun (y1 : Int32) =>
    if y1 = 0 then (
      (fp_X11_refuse v0 2 M).bind fun p4 => zpp p4 fun (y2 : Int32) (M3 : zM) =>
      some (y2, M3))
    else (
      (zgR 9 M v0 2).bind fun (y5 : Nat) =>
      (zlI 100 M y5 v1).bind fun (y6 : Int32) =>
      (fp_X11_gives v0 y6 M).bind fun p9 => zpp p9 fun (y7 : Int32) (M8 : zM) =>
      some (y7, M8)))
set_option maxHeartbeats 4000000 in
set_option maxRecDepth 100000 in
theorem th_X11_near {v0 : Nat} {v1 : Int32} {M : zM} {x0 : Int32 × zM} (h : fp_X11_near v0 v1 M = some x0) : v0 < zS M ∧ kd v0 = 9 := by
  unfold fp_X11_near at h
  exact zthis_of h
set_option maxHeartbeats 4000000 in
set_option maxRecDepth 100000 in
theorem ct_X11_near (E : zEnv) (hE : zEok E) (d : Nat) (hd : 2 ≤ d) (v0 : Nat) (v1 : Int32) (M : zM) (x0 : Int32 × zM) (hx : fp_X11_near v0 v1 M = some x0) : zCt E mu_X11_near d [.ref (E.2.2.2.1 + v0), .int v1] M (some (.int x0.1), x0.2) := by
  refine zCt_of (μ := mu_X11_near) (t := fp_X11_near v0 v1 M) rfl rfl (Nat.le_of_ble_eq_true rfl) hx ?_
  change zSy E mu_X11_near d M (some (.int x0.1), x0.2) x0 (fp_X11_near v0 v1 M) 0 [(0, .ref (E.2.2.2.1 + v0)), (1, .int v1)] [] M
  unfold fp_X11_near
  refine zs_this (fun hth => ?_)
  refine zs_aload_n dX11_near_0 rfl 0 rfl ?_
  refine zs_iload_n dX11_near_1 rfl 1 rfl ?_
  refine zs_invVPI (rest := []) [.int v1] dX11_near_2 lk_X11_269 rfl (fun _ h => th_X11_isPoint h) (zd1 rfl hd) rfl (Nat.le_of_ble_eq_true rfl) (ct_X11_isPoint E hE _ (zdl rfl hd) _ _ _) (fun y1 => ?_)
  refine zs_if_eq dX11_near_5 rfl ?_ ?_
  · refine zs_aload_n dX11_near_21 rfl 0 rfl ?_
    refine zs_iconst (v := 2) dX11_near_22 ciconst_2 ?_
    refine zs_invVWI (rest := []) [.int 2] dX11_near_23 lk_X11_226 rfl (fun _ h => th_X11_refuse h) (zd1 rfl hd) rfl (Nat.le_of_ble_eq_true rfl) (ct_X11_refuse E hE _ (zdl rfl hd) _ _ _) (fun y2 M3 => ?_)
    exact zs_iretW dX11_near_26 rfl
  refine zs_aload_n dX11_near_8 rfl 0 rfl ?_
  refine zs_aload_n dX11_near_9 rfl 0 rfl ?_
  refine zs_getR dX11_near_10 fl_X11_7 rfl (fun y5 => ?_)
  refine zs_iload_n dX11_near_13 rfl 1 rfl ?_
  refine zs_ldI dX11_near_14 (fun y6 => ?_)
  refine zs_invVWI (rest := []) [.int y6] dX11_near_15 lk_X11_242 rfl (fun _ h => th_X11_gives h) (zd1 rfl hd) rfl (Nat.le_of_ble_eq_true rfl) (ct_X11_gives E hE _ (zdl rfl hd) _ _ _) (fun y7 M8 => ?_)
  refine zs_goto dX11_near_18 rfl ?_
  exact zs_iretW dX11_near_26 rfl
theorem dX11_add_0 : decode cX11_add 0 = .ok (.aload_n 0, 1) := by decide +kernel
theorem dX11_add_1 : decode cX11_add 1 = .ok (.iload_n 1, 1) := by decide +kernel
theorem dX11_add_2 : decode cX11_add 2 = .ok (.invokevirtual 272, 3) := by decide +kernel
theorem dX11_add_5 : decode cX11_add 5 = .ok (.ifCond .ne 9, 3) := by decide +kernel
theorem dX11_add_8 : decode cX11_add 8 = .ok (.aload_n 0, 1) := by decide +kernel
theorem dX11_add_9 : decode cX11_add 9 = .ok (.iconst 1, 1) := by decide +kernel
theorem dX11_add_10 : decode cX11_add 10 = .ok (.invokevirtual 226, 3) := by decide +kernel
theorem dX11_add_13 : decode cX11_add 13 = .ok (.ireturn, 1) := by decide +kernel
theorem dX11_add_14 : decode cX11_add 14 = .ok (.aload_n 0, 1) := by decide +kernel
theorem dX11_add_15 : decode cX11_add 15 = .ok (.getfield 101, 3) := by decide +kernel
theorem dX11_add_18 : decode cX11_add 18 = .ok (.bipush 7, 2) := by decide +kernel
theorem dX11_add_20 : decode cX11_add 20 = .ok (.if_icmp .ne 9, 3) := by decide +kernel
theorem dX11_add_23 : decode cX11_add 23 = .ok (.aload_n 0, 1) := by decide +kernel
theorem dX11_add_24 : decode cX11_add 24 = .ok (.iconst 3, 1) := by decide +kernel
theorem dX11_add_25 : decode cX11_add 25 = .ok (.invokevirtual 226, 3) := by decide +kernel
theorem dX11_add_28 : decode cX11_add 28 = .ok (.ireturn, 1) := by decide +kernel
theorem dX11_add_29 : decode cX11_add 29 = .ok (.aload_n 0, 1) := by decide +kernel
theorem dX11_add_30 : decode cX11_add 30 = .ok (.invokevirtual 275, 3) := by decide +kernel
theorem dX11_add_33 : decode cX11_add 33 = .ok (.aload_n 0, 1) := by decide +kernel
theorem dX11_add_34 : decode cX11_add 34 = .ok (.iload_n 1, 1) := by decide +kernel
theorem dX11_add_35 : decode cX11_add 35 = .ok (.invokevirtual 186, 3) := by decide +kernel
theorem dX11_add_38 : decode cX11_add 38 = .ok (.aload_n 0, 1) := by decide +kernel
theorem dX11_add_39 : decode cX11_add 39 = .ok (.aload_n 0, 1) := by decide +kernel
theorem dX11_add_40 : decode cX11_add 40 = .ok (.getfield 101, 3) := by decide +kernel
theorem dX11_add_43 : decode cX11_add 43 = .ok (.iconst 1, 1) := by decide +kernel
theorem dX11_add_44 : decode cX11_add 44 = .ok (.isub, 1) := by decide +kernel
theorem dX11_add_45 : decode cX11_add 45 = .ok (.invokevirtual 242, 3) := by decide +kernel
theorem dX11_add_48 : decode cX11_add 48 = .ok (.ireturn, 1) := by decide +kernel
def fp_X11_add (v0 : Nat) (v1 : Int32) (M : zM) : Option (Int32 × zM) :=
  zthis 9 M v0 (
    (fp_X11_isSet v0 v1 M).bind fun (y1 : Int32) =>
    if y1 ≠ 0 then (
      (zgI 9 M v0 0).bind fun (y2 : Int32) =>
      if y2 ≠ 7 then (
        (fp_X11_begins v0 M).bind fun (M3 : zM) =>
        (fp_X11_comes v0 v1 M3).bind fun (M4 : zM) =>
        (zgI 9 M4 v0 0).bind fun (y5 : Int32) =>
        (fp_X11_gives v0 (y5 - 1) M4).bind fun p8 => zpp p8 fun (y6 : Int32) (M7 : zM) =>
        some (y6, M7))
      else (
        (fp_X11_refuse v0 3 M).bind fun p11 => zpp p11 fun (y9 : Int32) (M10 : zM) =>
        some (y9, M10)))
    else (
      (fp_X11_refuse v0 1 M).bind fun p14 => zpp p14 fun (y12 : Int32) (M13 : zM) =>
      some (y12, M13)))
set_option maxHeartbeats 4000000 in
set_option maxRecDepth 100000 in
theorem th_X11_add {v0 : Nat} {v1 : Int32} {M : zM} {x0 : Int32 × zM} (h : fp_X11_add v0 v1 M = some x0) : v0 < zS M ∧ kd v0 = 9 := by
  unfold fp_X11_add at h
  exact zthis_of h
set_option maxHeartbeats 4000000 in
set_option maxRecDepth 100000 in
theorem ct_X11_add (E : zEnv) (hE : zEok E) (d : Nat) (hd : 3 ≤ d) (v0 : Nat) (v1 : Int32) (M : zM) (x0 : Int32 × zM) (hx : fp_X11_add v0 v1 M = some x0) : zCt E mu_X11_add d [.ref (E.2.2.2.1 + v0), .int v1] M (some (.int x0.1), x0.2) := by
  refine zCt_of (μ := mu_X11_add) (t := fp_X11_add v0 v1 M) rfl rfl (Nat.le_of_ble_eq_true rfl) hx ?_
  change zSy E mu_X11_add d M (some (.int x0.1), x0.2) x0 (fp_X11_add v0 v1 M) 0 [(0, .ref (E.2.2.2.1 + v0)), (1, .int v1)] [] M
  unfold fp_X11_add
  refine zs_this (fun hth => ?_)
  refine zs_aload_n dX11_add_0 rfl 0 rfl ?_
  refine zs_iload_n dX11_add_1 rfl 1 rfl ?_
  refine zs_invVPI (rest := []) [.int v1] dX11_add_2 lk_X11_272 rfl (fun _ h => th_X11_isSet h) (zd1 rfl hd) rfl (Nat.le_of_ble_eq_true rfl) (ct_X11_isSet E hE _ (zdl rfl hd) _ _ _) (fun y1 => ?_)
  refine zs_if_ne dX11_add_5 rfl ?_ ?_
  · refine zs_aload_n dX11_add_14 rfl 0 rfl ?_
    refine zs_getI dX11_add_15 fl_X11_101 rfl (fun y2 => ?_)
    refine zs_bipush (v := 7) dX11_add_18 cbipush_7 ?_
    refine zs_icmp_ne dX11_add_20 rfl ?_ ?_
    · refine zs_aload_n dX11_add_29 rfl 0 rfl ?_
      refine zs_invVWV (rest := []) [] dX11_add_30 lk_X11_275 rfl (fun _ h => th_X11_begins h) (zd1 rfl hd) rfl (Nat.le_of_ble_eq_true rfl) (ct_X11_begins E hE _ (zdl rfl hd) _ _) (fun M3 => ?_)
      refine zs_aload_n dX11_add_33 rfl 0 rfl ?_
      refine zs_iload_n dX11_add_34 rfl 1 rfl ?_
      refine zs_invVWV (rest := []) [.int v1] dX11_add_35 lk_X11_186 rfl (fun _ h => th_X11_comes h) (zd1 rfl hd) rfl (Nat.le_of_ble_eq_true rfl) (ct_X11_comes E hE _ (zdl rfl hd) _ _ _) (fun M4 => ?_)
      refine zs_aload_n dX11_add_38 rfl 0 rfl ?_
      refine zs_aload_n dX11_add_39 rfl 0 rfl ?_
      refine zs_getI dX11_add_40 fl_X11_101 rfl (fun y5 => ?_)
      refine zs_iconst (v := 1) dX11_add_43 ciconst_1 ?_
      refine zs_isub dX11_add_44 ?_
      refine zs_invVWI (rest := []) [.int (y5 - 1)] dX11_add_45 lk_X11_242 rfl (fun _ h => th_X11_gives h) (zd1 rfl hd) rfl (Nat.le_of_ble_eq_true rfl) (ct_X11_gives E hE _ (zdl rfl hd) _ _ _) (fun y6 M7 => ?_)
      exact zs_iretW dX11_add_48 rfl
    refine zs_aload_n dX11_add_23 rfl 0 rfl ?_
    refine zs_iconst (v := 3) dX11_add_24 ciconst_3 ?_
    refine zs_invVWI (rest := []) [.int 3] dX11_add_25 lk_X11_226 rfl (fun _ h => th_X11_refuse h) (zd1 rfl hd) rfl (Nat.le_of_ble_eq_true rfl) (ct_X11_refuse E hE _ (zdl rfl hd) _ _ _) (fun y9 M10 => ?_)
    exact zs_iretW dX11_add_28 rfl
  refine zs_aload_n dX11_add_8 rfl 0 rfl ?_
  refine zs_iconst (v := 1) dX11_add_9 ciconst_1 ?_
  refine zs_invVWI (rest := []) [.int 1] dX11_add_10 lk_X11_226 rfl (fun _ h => th_X11_refuse h) (zd1 rfl hd) rfl (Nat.le_of_ble_eq_true rfl) (ct_X11_refuse E hE _ (zdl rfl hd) _ _ _) (fun y12 M13 => ?_)
  exact zs_iretW dX11_add_13 rfl
theorem dX11_without_0 : decode cX11_without 0 = .ok (.iload_n 0, 1) := by decide +kernel
theorem dX11_without_1 : decode cX11_without 1 = .ok (.iconst 1, 1) := by decide +kernel
theorem dX11_without_2 : decode cX11_without 2 = .ok (.iload_n 1, 1) := by decide +kernel
theorem dX11_without_3 : decode cX11_without 3 = .ok (.ishl, 1) := by decide +kernel
theorem dX11_without_4 : decode cX11_without 4 = .ok (.iconst 1, 1) := by decide +kernel
theorem dX11_without_5 : decode cX11_without 5 = .ok (.isub, 1) := by decide +kernel
theorem dX11_without_6 : decode cX11_without 6 = .ok (.iand, 1) := by decide +kernel
theorem dX11_without_7 : decode cX11_without 7 = .ok (.iload_n 0, 1) := by decide +kernel
theorem dX11_without_8 : decode cX11_without 8 = .ok (.iload_n 1, 1) := by decide +kernel
theorem dX11_without_9 : decode cX11_without 9 = .ok (.iconst 1, 1) := by decide +kernel
theorem dX11_without_10 : decode cX11_without 10 = .ok (.iadd, 1) := by decide +kernel
theorem dX11_without_11 : decode cX11_without 11 = .ok (.ishr, 1) := by decide +kernel
theorem dX11_without_12 : decode cX11_without 12 = .ok (.iload_n 1, 1) := by decide +kernel
theorem dX11_without_13 : decode cX11_without 13 = .ok (.ishl, 1) := by decide +kernel
theorem dX11_without_14 : decode cX11_without 14 = .ok (.ior, 1) := by decide +kernel
theorem dX11_without_15 : decode cX11_without 15 = .ok (.ireturn, 1) := by decide +kernel
def fp_X11_without (v0 : Int32) (v1 : Int32) : Option (Int32) :=
  some ((v0 &&& ((1 <<< (v1 &&& 31)) - 1)) ||| ((v0 >>> ((v1 + 1) &&& 31)) <<< (v1 &&& 31)))
set_option maxHeartbeats 4000000 in
set_option maxRecDepth 100000 in
theorem ct_X11_without (E : zEnv) (hE : zEok E) (d : Nat) (hd : 1 ≤ d) (v0 : Int32) (v1 : Int32) (M : zM) (x0 : Int32) (hx : fp_X11_without v0 v1 = some x0) : zCt E mu_X11_without d [.int v0, .int v1] M (some (.int x0), M) := by
  refine zCt_of (μ := mu_X11_without) (t := fp_X11_without v0 v1) rfl rfl (Nat.le_of_ble_eq_true rfl) hx ?_
  change zSy E mu_X11_without d M (some (.int x0), M) x0 (fp_X11_without v0 v1) 0 [(0, .int v0), (1, .int v1)] [] M
  unfold fp_X11_without
  refine zs_iload_n dX11_without_0 rfl 0 rfl ?_
  refine zs_iconst (v := 1) dX11_without_1 ciconst_1 ?_
  refine zs_iload_n dX11_without_2 rfl 1 rfl ?_
  refine zs_ishl dX11_without_3 ?_
  refine zs_iconst (v := 1) dX11_without_4 ciconst_1 ?_
  refine zs_isub dX11_without_5 ?_
  refine zs_iand dX11_without_6 ?_
  refine zs_iload_n dX11_without_7 rfl 0 rfl ?_
  refine zs_iload_n dX11_without_8 rfl 1 rfl ?_
  refine zs_iconst (v := 1) dX11_without_9 ciconst_1 ?_
  refine zs_iadd dX11_without_10 ?_
  refine zs_ishr dX11_without_11 ?_
  refine zs_iload_n dX11_without_12 rfl 1 rfl ?_
  refine zs_ishl dX11_without_13 ?_
  refine zs_ior dX11_without_14 ?_
  exact zs_iretP dX11_without_15 rfl
theorem dX11_drop_0 : decode cX11_drop 0 = .ok (.aload_n 0, 1) := by decide +kernel
theorem dX11_drop_1 : decode cX11_drop 1 = .ok (.iload_n 1, 1) := by decide +kernel
theorem dX11_drop_2 : decode cX11_drop 2 = .ok (.invokevirtual 269, 3) := by decide +kernel
theorem dX11_drop_5 : decode cX11_drop 5 = .ok (.ifCond .ne 9, 3) := by decide +kernel
theorem dX11_drop_8 : decode cX11_drop 8 = .ok (.aload_n 0, 1) := by decide +kernel
theorem dX11_drop_9 : decode cX11_drop 9 = .ok (.iconst 2, 1) := by decide +kernel
theorem dX11_drop_10 : decode cX11_drop 10 = .ok (.invokevirtual 226, 3) := by decide +kernel
theorem dX11_drop_13 : decode cX11_drop 13 = .ok (.ireturn, 1) := by decide +kernel
theorem dX11_drop_14 : decode cX11_drop 14 = .ok (.aload_n 0, 1) := by decide +kernel
theorem dX11_drop_15 : decode cX11_drop 15 = .ok (.invokevirtual 275, 3) := by decide +kernel
theorem dX11_drop_18 : decode cX11_drop 18 = .ok (.iconst 0, 1) := by decide +kernel
theorem dX11_drop_19 : decode cX11_drop 19 = .ok (.istore_n 2, 1) := by decide +kernel
theorem dX11_drop_20 : decode cX11_drop 20 = .ok (.iload_n 2, 1) := by decide +kernel
theorem dX11_drop_21 : decode cX11_drop 21 = .ok (.aload_n 0, 1) := by decide +kernel
theorem dX11_drop_22 : decode cX11_drop 22 = .ok (.getfield 101, 3) := by decide +kernel
theorem dX11_drop_25 : decode cX11_drop 25 = .ok (.if_icmp .ge 36, 3) := by decide +kernel
theorem dX11_drop_28 : decode cX11_drop 28 = .ok (.aload_n 0, 1) := by decide +kernel
theorem dX11_drop_29 : decode cX11_drop 29 = .ok (.getfield 7, 3) := by decide +kernel
theorem dX11_drop_32 : decode cX11_drop 32 = .ok (.iload_n 2, 1) := by decide +kernel
theorem dX11_drop_33 : decode cX11_drop 33 = .ok (.iload_n 1, 1) := by decide +kernel
theorem dX11_drop_34 : decode cX11_drop 34 = .ok (.if_icmp .le 9, 3) := by decide +kernel
theorem dX11_drop_37 : decode cX11_drop 37 = .ok (.iload_n 2, 1) := by decide +kernel
theorem dX11_drop_38 : decode cX11_drop 38 = .ok (.iconst 1, 1) := by decide +kernel
theorem dX11_drop_39 : decode cX11_drop 39 = .ok (.isub, 1) := by decide +kernel
theorem dX11_drop_40 : decode cX11_drop 40 = .ok (.goto 4, 3) := by decide +kernel
theorem dX11_drop_43 : decode cX11_drop 43 = .ok (.iload_n 2, 1) := by decide +kernel
theorem dX11_drop_44 : decode cX11_drop 44 = .ok (.aload_n 0, 1) := by decide +kernel
theorem dX11_drop_45 : decode cX11_drop 45 = .ok (.getfield 7, 3) := by decide +kernel
theorem dX11_drop_48 : decode cX11_drop 48 = .ok (.iload_n 2, 1) := by decide +kernel
theorem dX11_drop_49 : decode cX11_drop 49 = .ok (.iaload, 1) := by decide +kernel
theorem dX11_drop_50 : decode cX11_drop 50 = .ok (.iload_n 1, 1) := by decide +kernel
theorem dX11_drop_51 : decode cX11_drop 51 = .ok (.invokestatic 278, 3) := by decide +kernel
theorem dX11_drop_54 : decode cX11_drop 54 = .ok (.iastore, 1) := by decide +kernel
theorem dX11_drop_55 : decode cX11_drop 55 = .ok (.iinc 2 1, 3) := by decide +kernel
theorem dX11_drop_58 : decode cX11_drop 58 = .ok (.goto (-38), 3) := by decide +kernel
theorem dX11_drop_61 : decode cX11_drop 61 = .ok (.aload_n 0, 1) := by decide +kernel
theorem dX11_drop_62 : decode cX11_drop 62 = .ok (.dup, 1) := by decide +kernel
theorem dX11_drop_63 : decode cX11_drop 63 = .ok (.getfield 101, 3) := by decide +kernel
theorem dX11_drop_66 : decode cX11_drop 66 = .ok (.iconst 1, 1) := by decide +kernel
theorem dX11_drop_67 : decode cX11_drop 67 = .ok (.isub, 1) := by decide +kernel
theorem dX11_drop_68 : decode cX11_drop 68 = .ok (.putfield 101, 3) := by decide +kernel
theorem dX11_drop_71 : decode cX11_drop 71 = .ok (.aload_n 0, 1) := by decide +kernel
theorem dX11_drop_72 : decode cX11_drop 72 = .ok (.aload_n 0, 1) := by decide +kernel
theorem dX11_drop_73 : decode cX11_drop 73 = .ok (.getfield 101, 3) := by decide +kernel
theorem dX11_drop_76 : decode cX11_drop 76 = .ok (.invokevirtual 242, 3) := by decide +kernel
theorem dX11_drop_79 : decode cX11_drop 79 = .ok (.ireturn, 1) := by decide +kernel
def fp_X11_drop_L20 (k61 : zM → Option (Int32 × zM)) (v0 : Nat) (v1 : Int32) : Nat → Int32 → zM → Option (Int32 × zM)
  | 0, _, _ => none
  | n + 1, v2, M =>
    (zgI 9 M v0 0).bind fun (y3 : Int32) =>
    if v2 ≥ y3 then (
      k61 M)
    else (
      (zgR 9 M v0 2).bind fun (y4 : Nat) =>
      zjn (fun (s5 : Int32) (s6 : Nat) =>
          (zgR 9 M v0 2).bind fun (y7 : Nat) =>
          (zlI 100 M y7 v2).bind fun (y8 : Int32) =>
          (fp_X11_without y8 v1).bind fun (y9 : Int32) =>
          (ztI M s6 s5 y9).bind fun (M10 : zM) =>
          fp_X11_drop_L20 k61 v0 v1 n (v2 + 1) M10)
        (fun j44 =>
          if v2 ≤ v1 then (
            j44 v2 y4)
          else (
            j44 (v2 - 1) y4)))
def fp_X11_drop (v0 : Nat) (v1 : Int32) (M : zM) : Option (Int32 × zM) :=
  zthis 9 M v0 (
    (fp_X11_isPoint v0 v1 M).bind fun (y1 : Int32) =>
    if y1 ≠ 0 then (
      (fp_X11_begins v0 M).bind fun (M2 : zM) =>
      fp_X11_drop_L20
        (fun M11 =>
          (zgI 9 M11 v0 0).bind fun (y12 : Int32) =>
          (zpI 9 M11 v0 0 (y12 - 1)).bind fun (M13 : zM) =>
          (zgI 9 M13 v0 0).bind fun (y14 : Int32) =>
          (fp_X11_gives v0 y14 M13).bind fun p17 => zpp p17 fun (y15 : Int32) (M16 : zM) =>
          some (y15, M16)) v0 v1 FU 0 M2)
    else (
      (fp_X11_refuse v0 2 M).bind fun p20 => zpp p20 fun (y18 : Int32) (M19 : zM) =>
      some (y18, M19)))
set_option maxHeartbeats 4000000 in
set_option maxRecDepth 100000 in
theorem th_X11_drop {v0 : Nat} {v1 : Int32} {M : zM} {x0 : Int32 × zM} (h : fp_X11_drop v0 v1 M = some x0) : v0 < zS M ∧ kd v0 = 9 := by
  unfold fp_X11_drop at h
  exact zthis_of h
set_option maxHeartbeats 4000000 in
set_option maxRecDepth 100000 in
theorem w_X11_drop_L20 (E : zEnv) (hE : zEok E) (d : Nat) (hd : 3 ≤ d) (M0 : zM) (x0 : Int32 × zM) (v0 : Nat) (v1 : Int32) (k61 : zM → Option (Int32 × zM)) (hk61 : ∀ (M : zM), zSy E mu_X11_drop d M0 (some (.int x0.1), x0.2) x0 (k61 M) 61 [(0, .ref (E.2.2.2.1 + v0))] [] M) : ∀ (n : Nat) (v2 : Int32) (M : zM), zSy E mu_X11_drop d M0 (some (.int x0.1), x0.2) x0 (fp_X11_drop_L20 k61 v0 v1 n v2 M) 20 [(0, .ref (E.2.2.2.1 + v0)), (1, .int v1), (2, .int v2)] [] M := by
  intro n
  induction n with
  | zero =>
    intro v2 M
    rw [fp_X11_drop_L20]
    exact zs_none
  | succ n ih =>
    intro v2 M
    rw [fp_X11_drop_L20]
    refine zs_iload_n dX11_drop_20 rfl 2 rfl ?_
    refine zs_aload_n dX11_drop_21 rfl 0 rfl ?_
    refine zs_getI dX11_drop_22 fl_X11_101 rfl (fun y3 => ?_)
    refine zs_icmp_ge dX11_drop_25 rfl ?_ ?_
    · refine zs_sub (loc' := [(0, .ref (E.2.2.2.1 + v0))]) [0] rfl ?_
      exact hk61 M
    refine zs_aload_n dX11_drop_28 rfl 0 rfl ?_
    refine zs_getR dX11_drop_29 fl_X11_7 rfl (fun y4 => ?_)
    refine zs_iload_n dX11_drop_32 rfl 2 rfl ?_
    refine zs_iload_n dX11_drop_33 rfl 1 rfl ?_
    refine zs_jn (fun j44 => ∀ (s5 : Int32) (s6 : Nat), zSy E mu_X11_drop d M0 (some (.int x0.1), x0.2) x0 (j44 s5 s6) 44 [(0, .ref (E.2.2.2.1 + v0)), (1, .int v1), (2, .int v2)] [.int s5, .ref (E.2.2.2.1 + s6)] M) (fun s5 s6 => ?_) (fun j44 hj44 => ?_)
    · refine zs_aload_n dX11_drop_44 rfl 0 rfl ?_
      refine zs_getR dX11_drop_45 fl_X11_7 rfl (fun y7 => ?_)
      refine zs_iload_n dX11_drop_48 rfl 2 rfl ?_
      refine zs_ldI dX11_drop_49 (fun y8 => ?_)
      refine zs_iload_n dX11_drop_50 rfl 1 rfl ?_
      refine zs_invSPI (rest := [.int s5, .ref (E.2.2.2.1 + s6)]) [.int y8, .int v1] dX11_drop_51 lk_X11_278 rfl (zd1 rfl hd) rfl (Nat.le_of_ble_eq_true rfl) (ct_X11_without E hE _ (zdl rfl hd) _ _ _) (fun y9 => ?_)
      refine zs_stI dX11_drop_54 (fun M10 => ?_)
      refine zs_iinc (v := (v2 + 1)) (loc' := [(0, .ref (E.2.2.2.1 + v0)), (1, .int v1), (2, .int (v2 + 1))]) dX11_drop_55 2 rfl (by rfl) (Nat.le_of_ble_eq_true rfl) [1, 2, 0] rfl ?_
      refine zs_goto dX11_drop_58 rfl ?_
      exact ih (v2 + 1) M10
    refine zs_icmp_le dX11_drop_34 rfl ?_ ?_
    · refine zs_iload_n dX11_drop_43 rfl 2 rfl ?_
      exact hj44 v2 y4
    refine zs_iload_n dX11_drop_37 rfl 2 rfl ?_
    refine zs_iconst (v := 1) dX11_drop_38 ciconst_1 ?_
    refine zs_isub dX11_drop_39 ?_
    refine zs_goto dX11_drop_40 rfl ?_
    exact hj44 (v2 - 1) y4
set_option maxHeartbeats 4000000 in
set_option maxRecDepth 100000 in
theorem ct_X11_drop (E : zEnv) (hE : zEok E) (d : Nat) (hd : 3 ≤ d) (v0 : Nat) (v1 : Int32) (M : zM) (x0 : Int32 × zM) (hx : fp_X11_drop v0 v1 M = some x0) : zCt E mu_X11_drop d [.ref (E.2.2.2.1 + v0), .int v1] M (some (.int x0.1), x0.2) := by
  refine zCt_of (μ := mu_X11_drop) (t := fp_X11_drop v0 v1 M) rfl rfl (Nat.le_of_ble_eq_true rfl) hx ?_
  change zSy E mu_X11_drop d M (some (.int x0.1), x0.2) x0 (fp_X11_drop v0 v1 M) 0 [(0, .ref (E.2.2.2.1 + v0)), (1, .int v1)] [] M
  unfold fp_X11_drop
  refine zs_this (fun hth => ?_)
  refine zs_aload_n dX11_drop_0 rfl 0 rfl ?_
  refine zs_iload_n dX11_drop_1 rfl 1 rfl ?_
  refine zs_invVPI (rest := []) [.int v1] dX11_drop_2 lk_X11_269 rfl (fun _ h => th_X11_isPoint h) (zd1 rfl hd) rfl (Nat.le_of_ble_eq_true rfl) (ct_X11_isPoint E hE _ (zdl rfl hd) _ _ _) (fun y1 => ?_)
  refine zs_if_ne dX11_drop_5 rfl ?_ ?_
  · refine zs_aload_n dX11_drop_14 rfl 0 rfl ?_
    refine zs_invVWV (rest := []) [] dX11_drop_15 lk_X11_275 rfl (fun _ h => th_X11_begins h) (zd1 rfl hd) rfl (Nat.le_of_ble_eq_true rfl) (ct_X11_begins E hE _ (zdl rfl hd) _ _) (fun M2 => ?_)
    refine zs_iconst (v := 0) dX11_drop_18 ciconst_0 ?_
    refine zs_istore_n (loc' := [(0, .ref (E.2.2.2.1 + v0)), (1, .int v1), (2, .int 0)]) dX11_drop_19 rfl (Nat.le_of_ble_eq_true rfl) [1, 2, 0] rfl ?_
    refine w_X11_drop_L20 E hE d hd _ _ _ _ _ (fun M11 => ?_) _ _ _
    refine zs_aload_n dX11_drop_61 rfl 0 rfl ?_
    refine zs_dup dX11_drop_62 rfl ?_
    refine zs_getI dX11_drop_63 fl_X11_101 rfl (fun y12 => ?_)
    refine zs_iconst (v := 1) dX11_drop_66 ciconst_1 ?_
    refine zs_isub dX11_drop_67 ?_
    refine zs_putI dX11_drop_68 fl_X11_101 ft_X11 rfl rfl rfl rfl rfl (fun M13 => ?_)
    refine zs_aload_n dX11_drop_71 rfl 0 rfl ?_
    refine zs_aload_n dX11_drop_72 rfl 0 rfl ?_
    refine zs_getI dX11_drop_73 fl_X11_101 rfl (fun y14 => ?_)
    refine zs_invVWI (rest := []) [.int y14] dX11_drop_76 lk_X11_242 rfl (fun _ h => th_X11_gives h) (zd1 rfl hd) rfl (Nat.le_of_ble_eq_true rfl) (ct_X11_gives E hE _ (zdl rfl hd) _ _ _) (fun y15 M16 => ?_)
    exact zs_iretW dX11_drop_79 rfl
  refine zs_aload_n dX11_drop_8 rfl 0 rfl ?_
  refine zs_iconst (v := 2) dX11_drop_9 ciconst_2 ?_
  refine zs_invVWI (rest := []) [.int 2] dX11_drop_10 lk_X11_226 rfl (fun _ h => th_X11_refuse h) (zd1 rfl hd) rfl (Nat.le_of_ble_eq_true rfl) (ct_X11_refuse E hE _ (zdl rfl hd) _ _ _) (fun y18 M19 => ?_)
  exact zs_iretW dX11_drop_13 rfl
theorem dX11_wrongTwo_0 : decode cX11_wrongTwo 0 = .ok (.aload_n 0, 1) := by decide +kernel
theorem dX11_wrongTwo_1 : decode cX11_wrongTwo 1 = .ok (.iload_n 1, 1) := by decide +kernel
theorem dX11_wrongTwo_2 : decode cX11_wrongTwo 2 = .ok (.invokevirtual 269, 3) := by decide +kernel
theorem dX11_wrongTwo_5 : decode cX11_wrongTwo 5 = .ok (.ifCond .eq 11, 3) := by decide +kernel
theorem dX11_wrongTwo_8 : decode cX11_wrongTwo 8 = .ok (.aload_n 0, 1) := by decide +kernel
theorem dX11_wrongTwo_9 : decode cX11_wrongTwo 9 = .ok (.iload_n 2, 1) := by decide +kernel
theorem dX11_wrongTwo_10 : decode cX11_wrongTwo 10 = .ok (.invokevirtual 269, 3) := by decide +kernel
theorem dX11_wrongTwo_13 : decode cX11_wrongTwo 13 = .ok (.ifCond .ne 7, 3) := by decide +kernel
theorem dX11_wrongTwo_16 : decode cX11_wrongTwo 16 = .ok (.iconst 2, 1) := by decide +kernel
theorem dX11_wrongTwo_17 : decode cX11_wrongTwo 17 = .ok (.goto 13, 3) := by decide +kernel
theorem dX11_wrongTwo_20 : decode cX11_wrongTwo 20 = .ok (.iload_n 1, 1) := by decide +kernel
theorem dX11_wrongTwo_21 : decode cX11_wrongTwo 21 = .ok (.iload_n 2, 1) := by decide +kernel
theorem dX11_wrongTwo_22 : decode cX11_wrongTwo 22 = .ok (.if_icmp .ne 7, 3) := by decide +kernel
theorem dX11_wrongTwo_25 : decode cX11_wrongTwo 25 = .ok (.iconst 4, 1) := by decide +kernel
theorem dX11_wrongTwo_26 : decode cX11_wrongTwo 26 = .ok (.goto 4, 3) := by decide +kernel
theorem dX11_wrongTwo_29 : decode cX11_wrongTwo 29 = .ok (.iconst 0, 1) := by decide +kernel
theorem dX11_wrongTwo_30 : decode cX11_wrongTwo 30 = .ok (.ireturn, 1) := by decide +kernel
def fp_X11_wrongTwo (v0 : Nat) (v1 : Int32) (v2 : Int32) (M : zM) : Option (Int32) :=
  zthis 9 M v0 (
    (fp_X11_isPoint v0 v1 M).bind fun (y1 : Int32) =>
    zjn (
        some 2)
      (fun j16 =>
        if y1 = 0 then (
          j16)
        else (
          (fp_X11_isPoint v0 v2 M).bind fun (y2 : Int32) =>
          if y2 ≠ 0 then (
            if v1 ≠ v2 then (
              some 0)
            else (
              some 4))
          else (
            j16))))
set_option maxHeartbeats 4000000 in
set_option maxRecDepth 100000 in
theorem th_X11_wrongTwo {v0 : Nat} {v1 : Int32} {v2 : Int32} {M : zM} {x0 : Int32} (h : fp_X11_wrongTwo v0 v1 v2 M = some x0) : v0 < zS M ∧ kd v0 = 9 := by
  unfold fp_X11_wrongTwo at h
  exact zthis_of h
set_option maxHeartbeats 4000000 in
set_option maxRecDepth 100000 in
theorem ct_X11_wrongTwo (E : zEnv) (hE : zEok E) (d : Nat) (hd : 2 ≤ d) (v0 : Nat) (v1 : Int32) (v2 : Int32) (M : zM) (x0 : Int32) (hx : fp_X11_wrongTwo v0 v1 v2 M = some x0) : zCt E mu_X11_wrongTwo d [.ref (E.2.2.2.1 + v0), .int v1, .int v2] M (some (.int x0), M) := by
  refine zCt_of (μ := mu_X11_wrongTwo) (t := fp_X11_wrongTwo v0 v1 v2 M) rfl rfl (Nat.le_of_ble_eq_true rfl) hx ?_
  change zSy E mu_X11_wrongTwo d M (some (.int x0), M) x0 (fp_X11_wrongTwo v0 v1 v2 M) 0 [(0, .ref (E.2.2.2.1 + v0)), (1, .int v1), (2, .int v2)] [] M
  unfold fp_X11_wrongTwo
  refine zs_this (fun hth => ?_)
  refine zs_aload_n dX11_wrongTwo_0 rfl 0 rfl ?_
  refine zs_iload_n dX11_wrongTwo_1 rfl 1 rfl ?_
  refine zs_invVPI (rest := []) [.int v1] dX11_wrongTwo_2 lk_X11_269 rfl (fun _ h => th_X11_isPoint h) (zd1 rfl hd) rfl (Nat.le_of_ble_eq_true rfl) (ct_X11_isPoint E hE _ (zdl rfl hd) _ _ _) (fun y1 => ?_)
  refine zs_jn (fun j16 => zSy E mu_X11_wrongTwo d M (some (.int x0), M) x0 (j16) 16 [] [] M) ?_ (fun j16 hj16 => ?_)
  · refine zs_iconst (v := 2) dX11_wrongTwo_16 ciconst_2 ?_
    refine zs_goto dX11_wrongTwo_17 rfl ?_
    exact zs_iretP dX11_wrongTwo_30 rfl
  refine zs_if_eq dX11_wrongTwo_5 rfl ?_ ?_
  · refine zs_sub (loc' := []) [] rfl ?_
    exact hj16
  refine zs_aload_n dX11_wrongTwo_8 rfl 0 rfl ?_
  refine zs_iload_n dX11_wrongTwo_9 rfl 2 rfl ?_
  refine zs_invVPI (rest := []) [.int v2] dX11_wrongTwo_10 lk_X11_269 rfl (fun _ h => th_X11_isPoint h) (zd1 rfl hd) rfl (Nat.le_of_ble_eq_true rfl) (ct_X11_isPoint E hE _ (zdl rfl hd) _ _ _) (fun y2 => ?_)
  refine zs_if_ne dX11_wrongTwo_13 rfl ?_ ?_
  · refine zs_iload_n dX11_wrongTwo_20 rfl 1 rfl ?_
    refine zs_iload_n dX11_wrongTwo_21 rfl 2 rfl ?_
    refine zs_icmp_ne dX11_wrongTwo_22 rfl ?_ ?_
    · refine zs_iconst (v := 0) dX11_wrongTwo_29 ciconst_0 ?_
      exact zs_iretP dX11_wrongTwo_30 rfl
    refine zs_iconst (v := 4) dX11_wrongTwo_25 ciconst_4 ?_
    refine zs_goto dX11_wrongTwo_26 rfl ?_
    exact zs_iretP dX11_wrongTwo_30 rfl
  refine zs_sub (loc' := []) [] rfl ?_
  exact hj16
theorem dX11_flip_0 : decode cX11_flip 0 = .ok (.aload_n 0, 1) := by decide +kernel
theorem dX11_flip_1 : decode cX11_flip 1 = .ok (.iload_n 1, 1) := by decide +kernel
theorem dX11_flip_2 : decode cX11_flip 2 = .ok (.iload_n 2, 1) := by decide +kernel
theorem dX11_flip_3 : decode cX11_flip 3 = .ok (.invokevirtual 281, 3) := by decide +kernel
theorem dX11_flip_6 : decode cX11_flip 6 = .ok (.istore_n 3, 1) := by decide +kernel
theorem dX11_flip_7 : decode cX11_flip 7 = .ok (.iload_n 3, 1) := by decide +kernel
theorem dX11_flip_8 : decode cX11_flip 8 = .ok (.ifCond .le 9, 3) := by decide +kernel
theorem dX11_flip_11 : decode cX11_flip 11 = .ok (.aload_n 0, 1) := by decide +kernel
theorem dX11_flip_12 : decode cX11_flip 12 = .ok (.iload_n 3, 1) := by decide +kernel
theorem dX11_flip_13 : decode cX11_flip 13 = .ok (.invokevirtual 226, 3) := by decide +kernel
theorem dX11_flip_16 : decode cX11_flip 16 = .ok (.ireturn, 1) := by decide +kernel
theorem dX11_flip_17 : decode cX11_flip 17 = .ok (.aload_n 0, 1) := by decide +kernel
theorem dX11_flip_18 : decode cX11_flip 18 = .ok (.invokevirtual 275, 3) := by decide +kernel
theorem dX11_flip_21 : decode cX11_flip 21 = .ok (.aload_n 0, 1) := by decide +kernel
theorem dX11_flip_22 : decode cX11_flip 22 = .ok (.iload_n 1, 1) := by decide +kernel
theorem dX11_flip_23 : decode cX11_flip 23 = .ok (.iload_n 2, 1) := by decide +kernel
theorem dX11_flip_24 : decode cX11_flip 24 = .ok (.invokevirtual 108, 3) := by decide +kernel
theorem dX11_flip_27 : decode cX11_flip 27 = .ok (.aload_n 0, 1) := by decide +kernel
theorem dX11_flip_28 : decode cX11_flip 28 = .ok (.aload_n 0, 1) := by decide +kernel
theorem dX11_flip_29 : decode cX11_flip 29 = .ok (.getfield 7, 3) := by decide +kernel
theorem dX11_flip_32 : decode cX11_flip 32 = .ok (.iload_n 1, 1) := by decide +kernel
theorem dX11_flip_33 : decode cX11_flip 33 = .ok (.iaload, 1) := by decide +kernel
theorem dX11_flip_34 : decode cX11_flip 34 = .ok (.iload_n 2, 1) := by decide +kernel
theorem dX11_flip_35 : decode cX11_flip 35 = .ok (.invokestatic 97, 3) := by decide +kernel
theorem dX11_flip_38 : decode cX11_flip 38 = .ok (.ifCond .eq 7, 3) := by decide +kernel
theorem dX11_flip_41 : decode cX11_flip 41 = .ok (.iconst 1, 1) := by decide +kernel
theorem dX11_flip_42 : decode cX11_flip 42 = .ok (.goto 4, 3) := by decide +kernel
theorem dX11_flip_45 : decode cX11_flip 45 = .ok (.iconst 0, 1) := by decide +kernel
theorem dX11_flip_46 : decode cX11_flip 46 = .ok (.invokevirtual 242, 3) := by decide +kernel
theorem dX11_flip_49 : decode cX11_flip 49 = .ok (.ireturn, 1) := by decide +kernel
def fp_X11_flip (v0 : Nat) (v1 : Int32) (v2 : Int32) (M : zM) : Option (Int32 × zM) :=
  zthis 9 M v0 (
    (fp_X11_wrongTwo v0 v1 v2 M).bind fun (y1 : Int32) =>
    if y1 ≤ 0 then (
      (fp_X11_begins v0 M).bind fun (M2 : zM) =>
      (fp_X11_flips v0 v1 v2 M2).bind fun (M3 : zM) =>
      (zgR 9 M3 v0 2).bind fun (y4 : Nat) =>
      (zlI 100 M3 y4 v1).bind fun (y5 : Int32) =>
      (fp_X11_has y5 v2).bind fun (y6 : Int32) =>
      if y6 = 0 then (
        (fp_X11_gives v0 0 M3).bind fun p9 => zpp p9 fun (y7 : Int32) (M8 : zM) =>
        some (y7, M8))
      else (
        (fp_X11_gives v0 1 M3).bind fun p12 => zpp p12 fun (y10 : Int32) (M11 : zM) =>
        some (y10, M11)))
    else (
      (fp_X11_refuse v0 y1 M).bind fun p15 => zpp p15 fun (y13 : Int32) (M14 : zM) =>
      some (y13, M14)))
set_option maxHeartbeats 4000000 in
set_option maxRecDepth 100000 in
theorem th_X11_flip {v0 : Nat} {v1 : Int32} {v2 : Int32} {M : zM} {x0 : Int32 × zM} (h : fp_X11_flip v0 v1 v2 M = some x0) : v0 < zS M ∧ kd v0 = 9 := by
  unfold fp_X11_flip at h
  exact zthis_of h
set_option maxHeartbeats 4000000 in
set_option maxRecDepth 100000 in
theorem ct_X11_flip (E : zEnv) (hE : zEok E) (d : Nat) (hd : 3 ≤ d) (v0 : Nat) (v1 : Int32) (v2 : Int32) (M : zM) (x0 : Int32 × zM) (hx : fp_X11_flip v0 v1 v2 M = some x0) : zCt E mu_X11_flip d [.ref (E.2.2.2.1 + v0), .int v1, .int v2] M (some (.int x0.1), x0.2) := by
  refine zCt_of (μ := mu_X11_flip) (t := fp_X11_flip v0 v1 v2 M) rfl rfl (Nat.le_of_ble_eq_true rfl) hx ?_
  change zSy E mu_X11_flip d M (some (.int x0.1), x0.2) x0 (fp_X11_flip v0 v1 v2 M) 0 [(0, .ref (E.2.2.2.1 + v0)), (1, .int v1), (2, .int v2)] [] M
  unfold fp_X11_flip
  refine zs_this (fun hth => ?_)
  refine zs_aload_n dX11_flip_0 rfl 0 rfl ?_
  refine zs_iload_n dX11_flip_1 rfl 1 rfl ?_
  refine zs_iload_n dX11_flip_2 rfl 2 rfl ?_
  refine zs_invVPI (rest := []) [.int v1, .int v2] dX11_flip_3 lk_X11_281 rfl (fun _ h => th_X11_wrongTwo h) (zd1 rfl hd) rfl (Nat.le_of_ble_eq_true rfl) (ct_X11_wrongTwo E hE _ (zdl rfl hd) _ _ _ _) (fun y1 => ?_)
  refine zs_istore_n (loc' := [(0, .ref (E.2.2.2.1 + v0)), (1, .int v1), (2, .int v2), (3, .int y1)]) dX11_flip_6 rfl (Nat.le_of_ble_eq_true rfl) [1, 2, 3, 0] rfl ?_
  refine zs_iload_n dX11_flip_7 rfl 3 rfl ?_
  refine zs_if_le dX11_flip_8 rfl ?_ ?_
  · refine zs_aload_n dX11_flip_17 rfl 0 rfl ?_
    refine zs_invVWV (rest := []) [] dX11_flip_18 lk_X11_275 rfl (fun _ h => th_X11_begins h) (zd1 rfl hd) rfl (Nat.le_of_ble_eq_true rfl) (ct_X11_begins E hE _ (zdl rfl hd) _ _) (fun M2 => ?_)
    refine zs_aload_n dX11_flip_21 rfl 0 rfl ?_
    refine zs_iload_n dX11_flip_22 rfl 1 rfl ?_
    refine zs_iload_n dX11_flip_23 rfl 2 rfl ?_
    refine zs_invVWV (rest := []) [.int v1, .int v2] dX11_flip_24 lk_X11_108 rfl (fun _ h => th_X11_flips h) (zd1 rfl hd) rfl (Nat.le_of_ble_eq_true rfl) (ct_X11_flips E hE _ (zdl rfl hd) _ _ _ _) (fun M3 => ?_)
    refine zs_aload_n dX11_flip_27 rfl 0 rfl ?_
    refine zs_aload_n dX11_flip_28 rfl 0 rfl ?_
    refine zs_getR dX11_flip_29 fl_X11_7 rfl (fun y4 => ?_)
    refine zs_iload_n dX11_flip_32 rfl 1 rfl ?_
    refine zs_ldI dX11_flip_33 (fun y5 => ?_)
    refine zs_iload_n dX11_flip_34 rfl 2 rfl ?_
    refine zs_invSPI (rest := [.ref (E.2.2.2.1 + v0)]) [.int y5, .int v2] dX11_flip_35 lk_X11_97 rfl (zd1 rfl hd) rfl (Nat.le_of_ble_eq_true rfl) (ct_X11_has E hE _ (zdl rfl hd) _ _ _) (fun y6 => ?_)
    refine zs_if_eq dX11_flip_38 rfl ?_ ?_
    · refine zs_iconst (v := 0) dX11_flip_45 ciconst_0 ?_
      refine zs_invVWI (rest := []) [.int 0] dX11_flip_46 lk_X11_242 rfl (fun _ h => th_X11_gives h) (zd1 rfl hd) rfl (Nat.le_of_ble_eq_true rfl) (ct_X11_gives E hE _ (zdl rfl hd) _ _ _) (fun y7 M8 => ?_)
      exact zs_iretW dX11_flip_49 rfl
    refine zs_iconst (v := 1) dX11_flip_41 ciconst_1 ?_
    refine zs_goto dX11_flip_42 rfl ?_
    refine zs_invVWI (rest := []) [.int 1] dX11_flip_46 lk_X11_242 rfl (fun _ h => th_X11_gives h) (zd1 rfl hd) rfl (Nat.le_of_ble_eq_true rfl) (ct_X11_gives E hE _ (zdl rfl hd) _ _ _) (fun y10 M11 => ?_)
    exact zs_iretW dX11_flip_49 rfl
  refine zs_aload_n dX11_flip_11 rfl 0 rfl ?_
  refine zs_iload_n dX11_flip_12 rfl 3 rfl ?_
  refine zs_invVWI (rest := []) [.int y1] dX11_flip_13 lk_X11_226 rfl (fun _ h => th_X11_refuse h) (zd1 rfl hd) rfl (Nat.le_of_ble_eq_true rfl) (ct_X11_refuse E hE _ (zdl rfl hd) _ _ _) (fun y13 M14 => ?_)
  exact zs_iretW dX11_flip_16 rfl
theorem dX11_turn_0 : decode cX11_turn 0 = .ok (.aload_n 0, 1) := by decide +kernel
theorem dX11_turn_1 : decode cX11_turn 1 = .ok (.iload_n 1, 1) := by decide +kernel
theorem dX11_turn_2 : decode cX11_turn 2 = .ok (.invokevirtual 269, 3) := by decide +kernel
theorem dX11_turn_5 : decode cX11_turn 5 = .ok (.ifCond .ne 9, 3) := by decide +kernel
theorem dX11_turn_8 : decode cX11_turn 8 = .ok (.aload_n 0, 1) := by decide +kernel
theorem dX11_turn_9 : decode cX11_turn 9 = .ok (.iconst 2, 1) := by decide +kernel
theorem dX11_turn_10 : decode cX11_turn 10 = .ok (.invokevirtual 226, 3) := by decide +kernel
theorem dX11_turn_13 : decode cX11_turn 13 = .ok (.ireturn, 1) := by decide +kernel
theorem dX11_turn_14 : decode cX11_turn 14 = .ok (.aload_n 0, 1) := by decide +kernel
theorem dX11_turn_15 : decode cX11_turn 15 = .ok (.invokevirtual 275, 3) := by decide +kernel
theorem dX11_turn_18 : decode cX11_turn 18 = .ok (.aload_n 0, 1) := by decide +kernel
theorem dX11_turn_19 : decode cX11_turn 19 = .ok (.iload_n 1, 1) := by decide +kernel
theorem dX11_turn_20 : decode cX11_turn 20 = .ok (.invokevirtual 118, 3) := by decide +kernel
theorem dX11_turn_23 : decode cX11_turn 23 = .ok (.aload_n 0, 1) := by decide +kernel
theorem dX11_turn_24 : decode cX11_turn 24 = .ok (.aload_n 0, 1) := by decide +kernel
theorem dX11_turn_25 : decode cX11_turn 25 = .ok (.invokevirtual 248, 3) := by decide +kernel
theorem dX11_turn_28 : decode cX11_turn 28 = .ok (.invokevirtual 242, 3) := by decide +kernel
theorem dX11_turn_31 : decode cX11_turn 31 = .ok (.ireturn, 1) := by decide +kernel
def fp_X11_turn (v0 : Nat) (v1 : Int32) (M : zM) : Option (Int32 × zM) :=
  zthis 9 M v0 (
    (fp_X11_isPoint v0 v1 M).bind fun (y1 : Int32) =>
    if y1 ≠ 0 then (
      (fp_X11_begins v0 M).bind fun (M2 : zM) =>
      (fp_X11_turns0 v0 v1 M2).bind fun (M3 : zM) =>
      (fp_X11_lines v0 M3).bind fun (y4 : Int32) =>
      (fp_X11_gives v0 y4 M3).bind fun p7 => zpp p7 fun (y5 : Int32) (M6 : zM) =>
      some (y5, M6))
    else (
      (fp_X11_refuse v0 2 M).bind fun p10 => zpp p10 fun (y8 : Int32) (M9 : zM) =>
      some (y8, M9)))
set_option maxHeartbeats 4000000 in
set_option maxRecDepth 100000 in
theorem th_X11_turn {v0 : Nat} {v1 : Int32} {M : zM} {x0 : Int32 × zM} (h : fp_X11_turn v0 v1 M = some x0) : v0 < zS M ∧ kd v0 = 9 := by
  unfold fp_X11_turn at h
  exact zthis_of h
set_option maxHeartbeats 4000000 in
set_option maxRecDepth 100000 in
theorem ct_X11_turn (E : zEnv) (hE : zEok E) (d : Nat) (hd : 3 ≤ d) (v0 : Nat) (v1 : Int32) (M : zM) (x0 : Int32 × zM) (hx : fp_X11_turn v0 v1 M = some x0) : zCt E mu_X11_turn d [.ref (E.2.2.2.1 + v0), .int v1] M (some (.int x0.1), x0.2) := by
  refine zCt_of (μ := mu_X11_turn) (t := fp_X11_turn v0 v1 M) rfl rfl (Nat.le_of_ble_eq_true rfl) hx ?_
  change zSy E mu_X11_turn d M (some (.int x0.1), x0.2) x0 (fp_X11_turn v0 v1 M) 0 [(0, .ref (E.2.2.2.1 + v0)), (1, .int v1)] [] M
  unfold fp_X11_turn
  refine zs_this (fun hth => ?_)
  refine zs_aload_n dX11_turn_0 rfl 0 rfl ?_
  refine zs_iload_n dX11_turn_1 rfl 1 rfl ?_
  refine zs_invVPI (rest := []) [.int v1] dX11_turn_2 lk_X11_269 rfl (fun _ h => th_X11_isPoint h) (zd1 rfl hd) rfl (Nat.le_of_ble_eq_true rfl) (ct_X11_isPoint E hE _ (zdl rfl hd) _ _ _) (fun y1 => ?_)
  refine zs_if_ne dX11_turn_5 rfl ?_ ?_
  · refine zs_aload_n dX11_turn_14 rfl 0 rfl ?_
    refine zs_invVWV (rest := []) [] dX11_turn_15 lk_X11_275 rfl (fun _ h => th_X11_begins h) (zd1 rfl hd) rfl (Nat.le_of_ble_eq_true rfl) (ct_X11_begins E hE _ (zdl rfl hd) _ _) (fun M2 => ?_)
    refine zs_aload_n dX11_turn_18 rfl 0 rfl ?_
    refine zs_iload_n dX11_turn_19 rfl 1 rfl ?_
    refine zs_invVWV (rest := []) [.int v1] dX11_turn_20 lk_X11_118 rfl (fun _ h => th_X11_turns0 h) (zd1 rfl hd) rfl (Nat.le_of_ble_eq_true rfl) (ct_X11_turns0 E hE _ (zdl rfl hd) _ _ _) (fun M3 => ?_)
    refine zs_aload_n dX11_turn_23 rfl 0 rfl ?_
    refine zs_aload_n dX11_turn_24 rfl 0 rfl ?_
    refine zs_invVPI (rest := [.ref (E.2.2.2.1 + v0)]) [] dX11_turn_25 lk_X11_248 rfl (fun _ h => th_X11_lines h) (zd1 rfl hd) rfl (Nat.le_of_ble_eq_true rfl) (ct_X11_lines E hE _ (zdl rfl hd) _ _) (fun y4 => ?_)
    refine zs_invVWI (rest := []) [.int y4] dX11_turn_28 lk_X11_242 rfl (fun _ h => th_X11_gives h) (zd1 rfl hd) rfl (Nat.le_of_ble_eq_true rfl) (ct_X11_gives E hE _ (zdl rfl hd) _ _ _) (fun y5 M6 => ?_)
    exact zs_iretW dX11_turn_31 rfl
  refine zs_aload_n dX11_turn_8 rfl 0 rfl ?_
  refine zs_iconst (v := 2) dX11_turn_9 ciconst_2 ?_
  refine zs_invVWI (rest := []) [.int 2] dX11_turn_10 lk_X11_226 rfl (fun _ h => th_X11_refuse h) (zd1 rfl hd) rfl (Nat.le_of_ble_eq_true rfl) (ct_X11_refuse E hE _ (zdl rfl hd) _ _ _) (fun y8 M9 => ?_)
  exact zs_iretW dX11_turn_13 rfl
theorem dX11_swing_0 : decode cX11_swing 0 = .ok (.aload_n 0, 1) := by decide +kernel
theorem dX11_swing_1 : decode cX11_swing 1 = .ok (.iload_n 1, 1) := by decide +kernel
theorem dX11_swing_2 : decode cX11_swing 2 = .ok (.iload_n 2, 1) := by decide +kernel
theorem dX11_swing_3 : decode cX11_swing 3 = .ok (.invokevirtual 281, 3) := by decide +kernel
theorem dX11_swing_6 : decode cX11_swing 6 = .ok (.istore_n 3, 1) := by decide +kernel
theorem dX11_swing_7 : decode cX11_swing 7 = .ok (.iload_n 3, 1) := by decide +kernel
theorem dX11_swing_8 : decode cX11_swing 8 = .ok (.ifCond .ne 18, 3) := by decide +kernel
theorem dX11_swing_11 : decode cX11_swing 11 = .ok (.aload_n 0, 1) := by decide +kernel
theorem dX11_swing_12 : decode cX11_swing 12 = .ok (.getfield 7, 3) := by decide +kernel
theorem dX11_swing_15 : decode cX11_swing 15 = .ok (.iload_n 1, 1) := by decide +kernel
theorem dX11_swing_16 : decode cX11_swing 16 = .ok (.iaload, 1) := by decide +kernel
theorem dX11_swing_17 : decode cX11_swing 17 = .ok (.iload_n 2, 1) := by decide +kernel
theorem dX11_swing_18 : decode cX11_swing 18 = .ok (.invokestatic 97, 3) := by decide +kernel
theorem dX11_swing_21 : decode cX11_swing 21 = .ok (.ifCond .ne 5, 3) := by decide +kernel
theorem dX11_swing_24 : decode cX11_swing 24 = .ok (.iconst 5, 1) := by decide +kernel
theorem dX11_swing_25 : decode cX11_swing 25 = .ok (.istore_n 3, 1) := by decide +kernel
theorem dX11_swing_26 : decode cX11_swing 26 = .ok (.iload_n 3, 1) := by decide +kernel
theorem dX11_swing_27 : decode cX11_swing 27 = .ok (.ifCond .le 9, 3) := by decide +kernel
theorem dX11_swing_30 : decode cX11_swing 30 = .ok (.aload_n 0, 1) := by decide +kernel
theorem dX11_swing_31 : decode cX11_swing 31 = .ok (.iload_n 3, 1) := by decide +kernel
theorem dX11_swing_32 : decode cX11_swing 32 = .ok (.invokevirtual 226, 3) := by decide +kernel
theorem dX11_swing_35 : decode cX11_swing 35 = .ok (.ireturn, 1) := by decide +kernel
theorem dX11_swing_36 : decode cX11_swing 36 = .ok (.aload_n 0, 1) := by decide +kernel
theorem dX11_swing_37 : decode cX11_swing 37 = .ok (.invokevirtual 275, 3) := by decide +kernel
theorem dX11_swing_40 : decode cX11_swing 40 = .ok (.aload_n 0, 1) := by decide +kernel
theorem dX11_swing_41 : decode cX11_swing 41 = .ok (.iload_n 1, 1) := by decide +kernel
theorem dX11_swing_42 : decode cX11_swing 42 = .ok (.iload_n 2, 1) := by decide +kernel
theorem dX11_swing_43 : decode cX11_swing 43 = .ok (.invokevirtual 192, 3) := by decide +kernel
theorem dX11_swing_46 : decode cX11_swing 46 = .ok (.aload_n 0, 1) := by decide +kernel
theorem dX11_swing_47 : decode cX11_swing 47 = .ok (.aload_n 0, 1) := by decide +kernel
theorem dX11_swing_48 : decode cX11_swing 48 = .ok (.invokevirtual 248, 3) := by decide +kernel
theorem dX11_swing_51 : decode cX11_swing 51 = .ok (.invokevirtual 242, 3) := by decide +kernel
theorem dX11_swing_54 : decode cX11_swing 54 = .ok (.ireturn, 1) := by decide +kernel
def fp_X11_swing (v0 : Nat) (v1 : Int32) (v2 : Int32) (M : zM) : Option (Int32 × zM) :=
  zthis 9 M v0 (
    (fp_X11_wrongTwo v0 v1 v2 M).bind fun (y1 : Int32) =>
    zjn (fun (v3_2 : Int32) =>
        if v3_2 ≤ 0 then (
          (fp_X11_begins v0 M).bind fun (M3 : zM) =>
          (fp_X11_swings v0 v1 v2 M3).bind fun (M4 : zM) =>
          (fp_X11_lines v0 M4).bind fun (y5 : Int32) =>
          (fp_X11_gives v0 y5 M4).bind fun p8 => zpp p8 fun (y6 : Int32) (M7 : zM) =>
          some (y6, M7))
        else (
          (fp_X11_refuse v0 v3_2 M).bind fun p11 => zpp p11 fun (y9 : Int32) (M10 : zM) =>
          some (y9, M10)))
      (fun j26 =>
        if y1 ≠ 0 then (
          j26 y1)
        else (
          (zgR 9 M v0 2).bind fun (y12 : Nat) =>
          (zlI 100 M y12 v1).bind fun (y13 : Int32) =>
          (fp_X11_has y13 v2).bind fun (y14 : Int32) =>
          if y14 ≠ 0 then (
            j26 y1)
          else (
            j26 5))))
set_option maxHeartbeats 4000000 in
set_option maxRecDepth 100000 in
theorem th_X11_swing {v0 : Nat} {v1 : Int32} {v2 : Int32} {M : zM} {x0 : Int32 × zM} (h : fp_X11_swing v0 v1 v2 M = some x0) : v0 < zS M ∧ kd v0 = 9 := by
  unfold fp_X11_swing at h
  exact zthis_of h
set_option maxHeartbeats 4000000 in
set_option maxRecDepth 100000 in
theorem ct_X11_swing (E : zEnv) (hE : zEok E) (d : Nat) (hd : 4 ≤ d) (v0 : Nat) (v1 : Int32) (v2 : Int32) (M : zM) (x0 : Int32 × zM) (hx : fp_X11_swing v0 v1 v2 M = some x0) : zCt E mu_X11_swing d [.ref (E.2.2.2.1 + v0), .int v1, .int v2] M (some (.int x0.1), x0.2) := by
  refine zCt_of (μ := mu_X11_swing) (t := fp_X11_swing v0 v1 v2 M) rfl rfl (Nat.le_of_ble_eq_true rfl) hx ?_
  change zSy E mu_X11_swing d M (some (.int x0.1), x0.2) x0 (fp_X11_swing v0 v1 v2 M) 0 [(0, .ref (E.2.2.2.1 + v0)), (1, .int v1), (2, .int v2)] [] M
  unfold fp_X11_swing
  refine zs_this (fun hth => ?_)
  refine zs_aload_n dX11_swing_0 rfl 0 rfl ?_
  refine zs_iload_n dX11_swing_1 rfl 1 rfl ?_
  refine zs_iload_n dX11_swing_2 rfl 2 rfl ?_
  refine zs_invVPI (rest := []) [.int v1, .int v2] dX11_swing_3 lk_X11_281 rfl (fun _ h => th_X11_wrongTwo h) (zd1 rfl hd) rfl (Nat.le_of_ble_eq_true rfl) (ct_X11_wrongTwo E hE _ (zdl rfl hd) _ _ _ _) (fun y1 => ?_)
  refine zs_istore_n (loc' := [(0, .ref (E.2.2.2.1 + v0)), (1, .int v1), (2, .int v2), (3, .int y1)]) dX11_swing_6 rfl (Nat.le_of_ble_eq_true rfl) [1, 2, 3, 0] rfl ?_
  refine zs_iload_n dX11_swing_7 rfl 3 rfl ?_
  refine zs_jn (fun j26 => ∀ (v3_2 : Int32), zSy E mu_X11_swing d M (some (.int x0.1), x0.2) x0 (j26 v3_2) 26 [(0, .ref (E.2.2.2.1 + v0)), (1, .int v1), (2, .int v2), (3, .int v3_2)] [] M) (fun v3_2 => ?_) (fun j26 hj26 => ?_)
  · refine zs_iload_n dX11_swing_26 rfl 3 rfl ?_
    refine zs_if_le dX11_swing_27 rfl ?_ ?_
    · refine zs_aload_n dX11_swing_36 rfl 0 rfl ?_
      refine zs_invVWV (rest := []) [] dX11_swing_37 lk_X11_275 rfl (fun _ h => th_X11_begins h) (zd1 rfl hd) rfl (Nat.le_of_ble_eq_true rfl) (ct_X11_begins E hE _ (zdl rfl hd) _ _) (fun M3 => ?_)
      refine zs_aload_n dX11_swing_40 rfl 0 rfl ?_
      refine zs_iload_n dX11_swing_41 rfl 1 rfl ?_
      refine zs_iload_n dX11_swing_42 rfl 2 rfl ?_
      refine zs_invVWV (rest := []) [.int v1, .int v2] dX11_swing_43 lk_X11_192 rfl (fun _ h => th_X11_swings h) (zd1 rfl hd) rfl (Nat.le_of_ble_eq_true rfl) (ct_X11_swings E hE _ (zdl rfl hd) _ _ _ _) (fun M4 => ?_)
      refine zs_aload_n dX11_swing_46 rfl 0 rfl ?_
      refine zs_aload_n dX11_swing_47 rfl 0 rfl ?_
      refine zs_invVPI (rest := [.ref (E.2.2.2.1 + v0)]) [] dX11_swing_48 lk_X11_248 rfl (fun _ h => th_X11_lines h) (zd1 rfl hd) rfl (Nat.le_of_ble_eq_true rfl) (ct_X11_lines E hE _ (zdl rfl hd) _ _) (fun y5 => ?_)
      refine zs_invVWI (rest := []) [.int y5] dX11_swing_51 lk_X11_242 rfl (fun _ h => th_X11_gives h) (zd1 rfl hd) rfl (Nat.le_of_ble_eq_true rfl) (ct_X11_gives E hE _ (zdl rfl hd) _ _ _) (fun y6 M7 => ?_)
      exact zs_iretW dX11_swing_54 rfl
    refine zs_aload_n dX11_swing_30 rfl 0 rfl ?_
    refine zs_iload_n dX11_swing_31 rfl 3 rfl ?_
    refine zs_invVWI (rest := []) [.int v3_2] dX11_swing_32 lk_X11_226 rfl (fun _ h => th_X11_refuse h) (zd1 rfl hd) rfl (Nat.le_of_ble_eq_true rfl) (ct_X11_refuse E hE _ (zdl rfl hd) _ _ _) (fun y9 M10 => ?_)
    exact zs_iretW dX11_swing_35 rfl
  refine zs_if_ne dX11_swing_8 rfl ?_ ?_
  · exact hj26 y1
  refine zs_aload_n dX11_swing_11 rfl 0 rfl ?_
  refine zs_getR dX11_swing_12 fl_X11_7 rfl (fun y12 => ?_)
  refine zs_iload_n dX11_swing_15 rfl 1 rfl ?_
  refine zs_ldI dX11_swing_16 (fun y13 => ?_)
  refine zs_iload_n dX11_swing_17 rfl 2 rfl ?_
  refine zs_invSPI (rest := []) [.int y13, .int v2] dX11_swing_18 lk_X11_97 rfl (zd1 rfl hd) rfl (Nat.le_of_ble_eq_true rfl) (ct_X11_has E hE _ (zdl rfl hd) _ _ _) (fun y14 => ?_)
  refine zs_if_ne dX11_swing_21 rfl ?_ ?_
  · exact hj26 y1
  refine zs_iconst (v := 5) dX11_swing_24 ciconst_5 ?_
  refine zs_istore_n (loc' := [(0, .ref (E.2.2.2.1 + v0)), (1, .int v1), (2, .int v2), (3, .int 5)]) dX11_swing_25 rfl (Nat.le_of_ble_eq_true rfl) [1, 2, 3, 0] rfl ?_
  exact hj26 5

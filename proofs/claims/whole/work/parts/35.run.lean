theorem dX11_leastReading_0 : decode cX11_leastReading 0 = .ok (.iconst 0, 1) := by decide +kernel
theorem dX11_leastReading_1 : decode cX11_leastReading 1 = .ok (.istore_n 2, 1) := by decide +kernel
theorem dX11_leastReading_2 : decode cX11_leastReading 2 = .ok (.iconst 1, 1) := by decide +kernel
theorem dX11_leastReading_3 : decode cX11_leastReading 3 = .ok (.istore_n 3, 1) := by decide +kernel
theorem dX11_leastReading_4 : decode cX11_leastReading 4 = .ok (.iconst 0, 1) := by decide +kernel
theorem dX11_leastReading_5 : decode cX11_leastReading 5 = .ok (.istore 4, 2) := by decide +kernel
theorem dX11_leastReading_7 : decode cX11_leastReading 7 = .ok (.iload 4, 2) := by decide +kernel
theorem dX11_leastReading_9 : decode cX11_leastReading 9 = .ok (.iconst 2, 1) := by decide +kernel
theorem dX11_leastReading_10 : decode cX11_leastReading 10 = .ok (.iload_n 1, 1) := by decide +kernel
theorem dX11_leastReading_11 : decode cX11_leastReading 11 = .ok (.imul, 1) := by decide +kernel
theorem dX11_leastReading_12 : decode cX11_leastReading 12 = .ok (.if_icmp .ge 59, 3) := by decide +kernel
theorem dX11_leastReading_15 : decode cX11_leastReading 15 = .ok (.aload_n 0, 1) := by decide +kernel
theorem dX11_leastReading_16 : decode cX11_leastReading 16 = .ok (.getfield 82, 3) := by decide +kernel
theorem dX11_leastReading_19 : decode cX11_leastReading 19 = .ok (.iload_n 1, 1) := by decide +kernel
theorem dX11_leastReading_20 : decode cX11_leastReading 20 = .ok (.iload 4, 2) := by decide +kernel
theorem dX11_leastReading_22 : decode cX11_leastReading 22 = .ok (.iconst 2, 1) := by decide +kernel
theorem dX11_leastReading_23 : decode cX11_leastReading 23 = .ok (.idiv, 1) := by decide +kernel
theorem dX11_leastReading_24 : decode cX11_leastReading 24 = .ok (.iload 4, 2) := by decide +kernel
theorem dX11_leastReading_26 : decode cX11_leastReading 26 = .ok (.iconst 2, 1) := by decide +kernel
theorem dX11_leastReading_27 : decode cX11_leastReading 27 = .ok (.irem, 1) := by decide +kernel
theorem dX11_leastReading_28 : decode cX11_leastReading 28 = .ok (.ifCond .ne 7, 3) := by decide +kernel
theorem dX11_leastReading_31 : decode cX11_leastReading 31 = .ok (.iconst 1, 1) := by decide +kernel
theorem dX11_leastReading_32 : decode cX11_leastReading 32 = .ok (.goto 4, 3) := by decide +kernel
theorem dX11_leastReading_35 : decode cX11_leastReading 35 = .ok (.iconst (-1), 1) := by decide +kernel
theorem dX11_leastReading_36 : decode cX11_leastReading 36 = .ok (.iload_n 2, 1) := by decide +kernel
theorem dX11_leastReading_37 : decode cX11_leastReading 37 = .ok (.iload_n 3, 1) := by decide +kernel
theorem dX11_leastReading_38 : decode cX11_leastReading 38 = .ok (.invokestatic 341, 3) := by decide +kernel
theorem dX11_leastReading_41 : decode cX11_leastReading 41 = .ok (.ifCond .ne 6, 3) := by decide +kernel
theorem dX11_leastReading_44 : decode cX11_leastReading 44 = .ok (.goto 21, 3) := by decide +kernel
theorem dX11_leastReading_47 : decode cX11_leastReading 47 = .ok (.iload 4, 2) := by decide +kernel
theorem dX11_leastReading_49 : decode cX11_leastReading 49 = .ok (.iconst 2, 1) := by decide +kernel
theorem dX11_leastReading_50 : decode cX11_leastReading 50 = .ok (.idiv, 1) := by decide +kernel
theorem dX11_leastReading_51 : decode cX11_leastReading 51 = .ok (.istore_n 2, 1) := by decide +kernel
theorem dX11_leastReading_52 : decode cX11_leastReading 52 = .ok (.iload 4, 2) := by decide +kernel
theorem dX11_leastReading_54 : decode cX11_leastReading 54 = .ok (.iconst 2, 1) := by decide +kernel
theorem dX11_leastReading_55 : decode cX11_leastReading 55 = .ok (.irem, 1) := by decide +kernel
theorem dX11_leastReading_56 : decode cX11_leastReading 56 = .ok (.ifCond .ne 7, 3) := by decide +kernel
theorem dX11_leastReading_59 : decode cX11_leastReading 59 = .ok (.iconst 1, 1) := by decide +kernel
theorem dX11_leastReading_60 : decode cX11_leastReading 60 = .ok (.goto 4, 3) := by decide +kernel
theorem dX11_leastReading_63 : decode cX11_leastReading 63 = .ok (.iconst (-1), 1) := by decide +kernel
theorem dX11_leastReading_64 : decode cX11_leastReading 64 = .ok (.istore_n 3, 1) := by decide +kernel
theorem dX11_leastReading_65 : decode cX11_leastReading 65 = .ok (.iinc 4 1, 3) := by decide +kernel
theorem dX11_leastReading_68 : decode cX11_leastReading 68 = .ok (.goto (-61), 3) := by decide +kernel
theorem dX11_leastReading_71 : decode cX11_leastReading 71 = .ok (.iconst 0, 1) := by decide +kernel
theorem dX11_leastReading_72 : decode cX11_leastReading 72 = .ok (.istore 4, 2) := by decide +kernel
theorem dX11_leastReading_74 : decode cX11_leastReading 74 = .ok (.iload 4, 2) := by decide +kernel
theorem dX11_leastReading_76 : decode cX11_leastReading 76 = .ok (.iload_n 1, 1) := by decide +kernel
theorem dX11_leastReading_77 : decode cX11_leastReading 77 = .ok (.if_icmp .ge 28, 3) := by decide +kernel
theorem dX11_leastReading_80 : decode cX11_leastReading 80 = .ok (.aload_n 0, 1) := by decide +kernel
theorem dX11_leastReading_81 : decode cX11_leastReading 81 = .ok (.getfield 70, 3) := by decide +kernel
theorem dX11_leastReading_84 : decode cX11_leastReading 84 = .ok (.iload 4, 2) := by decide +kernel
theorem dX11_leastReading_86 : decode cX11_leastReading 86 = .ok (.aload_n 0, 1) := by decide +kernel
theorem dX11_leastReading_87 : decode cX11_leastReading 87 = .ok (.getfield 82, 3) := by decide +kernel
theorem dX11_leastReading_90 : decode cX11_leastReading 90 = .ok (.iload_n 1, 1) := by decide +kernel
theorem dX11_leastReading_91 : decode cX11_leastReading 91 = .ok (.iload_n 2, 1) := by decide +kernel
theorem dX11_leastReading_92 : decode cX11_leastReading 92 = .ok (.iload_n 3, 1) := by decide +kernel
theorem dX11_leastReading_93 : decode cX11_leastReading 93 = .ok (.iload 4, 2) := by decide +kernel
theorem dX11_leastReading_95 : decode cX11_leastReading 95 = .ok (.invokestatic 336, 3) := by decide +kernel
theorem dX11_leastReading_98 : decode cX11_leastReading 98 = .ok (.iastore, 1) := by decide +kernel
theorem dX11_leastReading_99 : decode cX11_leastReading 99 = .ok (.iinc 4 1, 3) := by decide +kernel
theorem dX11_leastReading_102 : decode cX11_leastReading 102 = .ok (.goto (-28), 3) := by decide +kernel
theorem dX11_leastReading_105 : decode cX11_leastReading 105 = .ok (.iconst 0, 1) := by decide +kernel
theorem dX11_leastReading_106 : decode cX11_leastReading 106 = .ok (.istore 4, 2) := by decide +kernel
theorem dX11_leastReading_108 : decode cX11_leastReading 108 = .ok (.iload 4, 2) := by decide +kernel
theorem dX11_leastReading_110 : decode cX11_leastReading 110 = .ok (.iload_n 1, 1) := by decide +kernel
theorem dX11_leastReading_111 : decode cX11_leastReading 111 = .ok (.if_icmp .ge 23, 3) := by decide +kernel
theorem dX11_leastReading_114 : decode cX11_leastReading 114 = .ok (.aload_n 0, 1) := by decide +kernel
theorem dX11_leastReading_115 : decode cX11_leastReading 115 = .ok (.getfield 82, 3) := by decide +kernel
theorem dX11_leastReading_118 : decode cX11_leastReading 118 = .ok (.iload 4, 2) := by decide +kernel
theorem dX11_leastReading_120 : decode cX11_leastReading 120 = .ok (.aload_n 0, 1) := by decide +kernel
theorem dX11_leastReading_121 : decode cX11_leastReading 121 = .ok (.getfield 70, 3) := by decide +kernel
theorem dX11_leastReading_124 : decode cX11_leastReading 124 = .ok (.iload 4, 2) := by decide +kernel
theorem dX11_leastReading_126 : decode cX11_leastReading 126 = .ok (.iaload, 1) := by decide +kernel
theorem dX11_leastReading_127 : decode cX11_leastReading 127 = .ok (.iastore, 1) := by decide +kernel
theorem dX11_leastReading_128 : decode cX11_leastReading 128 = .ok (.iinc 4 1, 3) := by decide +kernel
theorem dX11_leastReading_131 : decode cX11_leastReading 131 = .ok (.goto (-23), 3) := by decide +kernel
theorem dX11_leastReading_134 : decode cX11_leastReading 134 = .ok (.return_, 1) := by decide +kernel
def fp_X11_leastReading_L7 (k71 : Int32 → Int32 → Option (zM)) (v0 : Nat) (v1 : Int32) (M : zM) : Nat → Int32 → Int32 → Int32 → Option (zM)
  | 0, _, _, _ => none
  | n + 1, v2, v3, v4 =>
    if v4 ≥ (2 * v1) then (
      k71 v2 v3)
    else (
      (zgR 9 M v0 35).bind fun (y1 : Nat) =>
      zjn (fun (s2 : Int32) (s3 : Int32) (s4 : Int32) (s5 : Nat) =>
          (fp_X11_isLessRead s5 s4 s3 s2 v2 v3 M).bind fun (y6 : Int32) =>
          zjn (fun (v2_7 : Int32) (v3_8 : Int32) =>
              fp_X11_leastReading_L7 k71 v0 v1 M n v2_7 v3_8 (v4 + 1))
            (fun j65 =>
              if y6 ≠ 0 then (
                lett ((v4 / 2)) fun (v2_9 : Int32) =>
                zjn (fun (s10 : Int32) =>
                    j65 v2_9 s10)
                  (fun j64 =>
                    if (v4 - v4 / 2 * 2) ≠ 0 then (
                      j64 (-1))
                    else (
                      j64 1)))
              else (
                j65 v2 v3)))
        (fun j36 =>
          if (v4 - v4 / 2 * 2) ≠ 0 then (
            j36 (-1) (v4 / 2) v1 y1)
          else (
            j36 1 (v4 / 2) v1 y1)))
def fp_X11_leastReading_L74 (k105 : zM → Option (zM)) (v0 : Nat) (v1 : Int32) (v2 : Int32) (v3 : Int32) : Nat → Int32 → zM → Option (zM)
  | 0, _, _ => none
  | n + 1, v4, M =>
    if v4 ≥ v1 then (
      k105 M)
    else (
      (zgR 9 M v0 31).bind fun (y13 : Nat) =>
      (zgR 9 M v0 35).bind fun (y14 : Nat) =>
      (fp_X11_read y14 v1 v2 v3 v4 M).bind fun (y15 : Int32) =>
      (ztI M y13 v4 y15).bind fun (M16 : zM) =>
      fp_X11_leastReading_L74 k105 v0 v1 v2 v3 n (v4 + 1) M16)
def fp_X11_leastReading_L108 (v0 : Nat) (v1 : Int32) : Nat → Int32 → zM → Option (zM)
  | 0, _, _ => none
  | n + 1, v4, M =>
    if v4 ≥ v1 then (
      some M)
    else (
      (zgR 9 M v0 35).bind fun (y18 : Nat) =>
      (zgR 9 M v0 31).bind fun (y19 : Nat) =>
      (zlI 100 M y19 v4).bind fun (y20 : Int32) =>
      (ztI M y18 v4 y20).bind fun (M21 : zM) =>
      fp_X11_leastReading_L108 v0 v1 n (v4 + 1) M21)
def fp_X11_leastReading (v0 : Nat) (v1 : Int32) (M : zM) : Option (zM) :=
  zthis 9 M v0 (
    fp_X11_leastReading_L7
      (fun v2_11 v3_12 =>
        fp_X11_leastReading_L74
          (fun M17 =>
            fp_X11_leastReading_L108 v0 v1 FU 0 M17) v0 v1 v2_11 v3_12 FU 0 M) v0 v1 M FU 0 1 0)
set_option maxHeartbeats 4000000 in
set_option maxRecDepth 100000 in
theorem th_X11_leastReading {v0 : Nat} {v1 : Int32} {M : zM} {x0 : zM} (h : fp_X11_leastReading v0 v1 M = some x0) : v0 < zS M ∧ kd v0 = 9 := by
  unfold fp_X11_leastReading at h
  exact zthis_of h
set_option maxHeartbeats 4000000 in
set_option maxRecDepth 100000 in
theorem w_X11_leastReading_L7 (E : zEnv) (hE : zEok E) (d : Nat) (hd : 3 ≤ d) (M0 : zM) (x0 : zM) (v0 : Nat) (v1 : Int32) (M : zM) (k71 : Int32 → Int32 → Option (zM)) (hk71 : ∀ (v2 : Int32) (v3 : Int32), zSy E mu_X11_leastReading d M0 (none, x0) x0 (k71 v2 v3) 71 [(0, .ref (E.2.2.2.1 + v0)), (1, .int v1), (2, .int v2), (3, .int v3)] [] M) : ∀ (n : Nat) (v2 : Int32) (v3 : Int32) (v4 : Int32), zSy E mu_X11_leastReading d M0 (none, x0) x0 (fp_X11_leastReading_L7 k71 v0 v1 M n v2 v3 v4) 7 [(0, .ref (E.2.2.2.1 + v0)), (1, .int v1), (2, .int v2), (3, .int v3), (4, .int v4)] [] M := by
  intro n
  induction n with
  | zero =>
    intro v2 v3 v4
    rw [fp_X11_leastReading_L7]
    exact zs_none
  | succ n ih =>
    intro v2 v3 v4
    rw [fp_X11_leastReading_L7]
    refine zs_iload dX11_leastReading_7 4 rfl ?_
    refine zs_iconst (v := 2) dX11_leastReading_9 ciconst_2 ?_
    refine zs_iload_n dX11_leastReading_10 rfl 1 rfl ?_
    refine zs_imul dX11_leastReading_11 ?_
    refine zs_icmp_ge dX11_leastReading_12 rfl ?_ ?_
    · refine zs_sub (loc' := [(0, .ref (E.2.2.2.1 + v0)), (1, .int v1), (2, .int v2), (3, .int v3)]) [0, 1, 2, 3] rfl ?_
      exact hk71 v2 v3
    refine zs_aload_n dX11_leastReading_15 rfl 0 rfl ?_
    refine zs_getR dX11_leastReading_16 fl_X11_82 rfl (fun y1 => ?_)
    refine zs_iload_n dX11_leastReading_19 rfl 1 rfl ?_
    refine zs_iload dX11_leastReading_20 4 rfl ?_
    refine zs_iconst (v := 2) dX11_leastReading_22 ciconst_2 ?_
    refine zs_idivK dX11_leastReading_23 (by decide) ?_
    refine zs_iload dX11_leastReading_24 4 rfl ?_
    refine zs_iconst (v := 2) dX11_leastReading_26 ciconst_2 ?_
    refine zs_iremK dX11_leastReading_27 (by decide) ?_
    refine zs_jn (fun j36 => ∀ (s2 : Int32) (s3 : Int32) (s4 : Int32) (s5 : Nat), zSy E mu_X11_leastReading d M0 (none, x0) x0 (j36 s2 s3 s4 s5) 36 [(0, .ref (E.2.2.2.1 + v0)), (1, .int v1), (2, .int v2), (3, .int v3), (4, .int v4)] [.int s2, .int s3, .int s4, .ref (E.2.2.2.1 + s5)] M) (fun s2 s3 s4 s5 => ?_) (fun j36 hj36 => ?_)
    · refine zs_iload_n dX11_leastReading_36 rfl 2 rfl ?_
      refine zs_iload_n dX11_leastReading_37 rfl 3 rfl ?_
      refine zs_invSPI (rest := []) [.ref (E.2.2.2.1 + s5), .int s4, .int s3, .int s2, .int v2, .int v3] dX11_leastReading_38 lk_X11_341 rfl (zd1 rfl hd) rfl (Nat.le_of_ble_eq_true rfl) (ct_X11_isLessRead E hE _ (zdl rfl hd) _ _ _ _ _ _ _) (fun y6 => ?_)
      refine zs_jn (fun j65 => ∀ (v2_7 : Int32) (v3_8 : Int32), zSy E mu_X11_leastReading d M0 (none, x0) x0 (j65 v2_7 v3_8) 65 [(0, .ref (E.2.2.2.1 + v0)), (1, .int v1), (2, .int v2_7), (3, .int v3_8), (4, .int v4)] [] M) (fun v2_7 v3_8 => ?_) (fun j65 hj65 => ?_)
      · refine zs_iinc (v := (v4 + 1)) (loc' := [(0, .ref (E.2.2.2.1 + v0)), (1, .int v1), (2, .int v2_7), (3, .int v3_8), (4, .int (v4 + 1))]) dX11_leastReading_65 4 rfl (by rfl) (Nat.le_of_ble_eq_true rfl) [1, 2, 3, 4, 0] rfl ?_
        refine zs_goto dX11_leastReading_68 rfl ?_
        exact ih v2_7 v3_8 (v4 + 1)
      refine zs_if_ne dX11_leastReading_41 rfl ?_ ?_
      · refine zs_iload dX11_leastReading_47 4 rfl ?_
        refine zs_iconst (v := 2) dX11_leastReading_49 ciconst_2 ?_
        refine zs_idivK dX11_leastReading_50 (by decide) ?_
        refine zs_istore_nL (loc' := fun v2_9 => [(0, .ref (E.2.2.2.1 + v0)), (1, .int v1), (2, .int v2_9), (4, .int v4)]) dX11_leastReading_51 rfl (Nat.le_of_ble_eq_true rfl) [1, 2, 0, 4] (fun _ => rfl) (fun v2_9 => ?_)
        refine zs_iload dX11_leastReading_52 3 rfl ?_
        refine zs_iconst (v := 2) dX11_leastReading_54 ciconst_2 ?_
        refine zs_iremK dX11_leastReading_55 (by decide) ?_
        refine zs_jn (fun j64 => ∀ (s10 : Int32), zSy E mu_X11_leastReading d M0 (none, x0) x0 (j64 s10) 64 [(0, .ref (E.2.2.2.1 + v0)), (1, .int v1), (2, .int v2_9), (4, .int v4)] [.int s10] M) (fun s10 => ?_) (fun j64 hj64 => ?_)
        · refine zs_istore_n (loc' := [(0, .ref (E.2.2.2.1 + v0)), (1, .int v1), (2, .int v2_9), (3, .int s10), (4, .int v4)]) dX11_leastReading_64 rfl (Nat.le_of_ble_eq_true rfl) [1, 2, 3, 0, 4] rfl ?_
          exact hj65 v2_9 s10
        refine zs_if_ne dX11_leastReading_56 rfl ?_ ?_
        · refine zs_iconst (v := (-1)) dX11_leastReading_63 ciconst_m1 ?_
          exact hj64 (-1)
        refine zs_iconst (v := 1) dX11_leastReading_59 ciconst_1 ?_
        refine zs_goto dX11_leastReading_60 rfl ?_
        exact hj64 1
      refine zs_goto dX11_leastReading_44 rfl ?_
      exact hj65 v2 v3
    refine zs_if_ne dX11_leastReading_28 rfl ?_ ?_
    · refine zs_iconst (v := (-1)) dX11_leastReading_35 ciconst_m1 ?_
      exact hj36 (-1) (v4 / 2) v1 y1
    refine zs_iconst (v := 1) dX11_leastReading_31 ciconst_1 ?_
    refine zs_goto dX11_leastReading_32 rfl ?_
    exact hj36 1 (v4 / 2) v1 y1
set_option maxHeartbeats 4000000 in
set_option maxRecDepth 100000 in
theorem w_X11_leastReading_L74 (E : zEnv) (hE : zEok E) (d : Nat) (hd : 3 ≤ d) (M0 : zM) (x0 : zM) (v0 : Nat) (v1 : Int32) (v2 : Int32) (v3 : Int32) (k105 : zM → Option (zM)) (hk105 : ∀ (M : zM), zSy E mu_X11_leastReading d M0 (none, x0) x0 (k105 M) 105 [(0, .ref (E.2.2.2.1 + v0)), (1, .int v1)] [] M) : ∀ (n : Nat) (v4 : Int32) (M : zM), zSy E mu_X11_leastReading d M0 (none, x0) x0 (fp_X11_leastReading_L74 k105 v0 v1 v2 v3 n v4 M) 74 [(0, .ref (E.2.2.2.1 + v0)), (1, .int v1), (2, .int v2), (3, .int v3), (4, .int v4)] [] M := by
  intro n
  induction n with
  | zero =>
    intro v4 M
    rw [fp_X11_leastReading_L74]
    exact zs_none
  | succ n ih =>
    intro v4 M
    rw [fp_X11_leastReading_L74]
    refine zs_iload dX11_leastReading_74 4 rfl ?_
    refine zs_iload_n dX11_leastReading_76 rfl 1 rfl ?_
    refine zs_icmp_ge dX11_leastReading_77 rfl ?_ ?_
    · refine zs_sub (loc' := [(0, .ref (E.2.2.2.1 + v0)), (1, .int v1)]) [0, 1] rfl ?_
      exact hk105 M
    refine zs_aload_n dX11_leastReading_80 rfl 0 rfl ?_
    refine zs_getR dX11_leastReading_81 fl_X11_70 rfl (fun y13 => ?_)
    refine zs_iload dX11_leastReading_84 4 rfl ?_
    refine zs_aload_n dX11_leastReading_86 rfl 0 rfl ?_
    refine zs_getR dX11_leastReading_87 fl_X11_82 rfl (fun y14 => ?_)
    refine zs_iload_n dX11_leastReading_90 rfl 1 rfl ?_
    refine zs_iload_n dX11_leastReading_91 rfl 2 rfl ?_
    refine zs_iload_n dX11_leastReading_92 rfl 3 rfl ?_
    refine zs_iload dX11_leastReading_93 4 rfl ?_
    refine zs_invSPI (rest := [.int v4, .ref (E.2.2.2.1 + y13)]) [.ref (E.2.2.2.1 + y14), .int v1, .int v2, .int v3, .int v4] dX11_leastReading_95 lk_X11_336 rfl (zd1 rfl hd) rfl (Nat.le_of_ble_eq_true rfl) (ct_X11_read E hE _ (zdl rfl hd) _ _ _ _ _ _) (fun y15 => ?_)
    refine zs_stI dX11_leastReading_98 (fun M16 => ?_)
    refine zs_iinc (v := (v4 + 1)) (loc' := [(0, .ref (E.2.2.2.1 + v0)), (1, .int v1), (2, .int v2), (3, .int v3), (4, .int (v4 + 1))]) dX11_leastReading_99 4 rfl (by rfl) (Nat.le_of_ble_eq_true rfl) [1, 2, 3, 4, 0] rfl ?_
    refine zs_goto dX11_leastReading_102 rfl ?_
    exact ih (v4 + 1) M16
set_option maxHeartbeats 4000000 in
set_option maxRecDepth 100000 in
theorem w_X11_leastReading_L108 (E : zEnv) (hE : zEok E) (d : Nat) (hd : 3 ≤ d) (M0 : zM) (x0 : zM) (v0 : Nat) (v1 : Int32)  : ∀ (n : Nat) (v4 : Int32) (M : zM), zSy E mu_X11_leastReading d M0 (none, x0) x0 (fp_X11_leastReading_L108 v0 v1 n v4 M) 108 [(0, .ref (E.2.2.2.1 + v0)), (1, .int v1), (4, .int v4)] [] M := by
  intro n
  induction n with
  | zero =>
    intro v4 M
    rw [fp_X11_leastReading_L108]
    exact zs_none
  | succ n ih =>
    intro v4 M
    rw [fp_X11_leastReading_L108]
    refine zs_iload dX11_leastReading_108 2 rfl ?_
    refine zs_iload_n dX11_leastReading_110 rfl 1 rfl ?_
    refine zs_icmp_ge dX11_leastReading_111 rfl ?_ ?_
    · exact zs_vret dX11_leastReading_134 trivial
    refine zs_aload_n dX11_leastReading_114 rfl 0 rfl ?_
    refine zs_getR dX11_leastReading_115 fl_X11_82 rfl (fun y18 => ?_)
    refine zs_iload dX11_leastReading_118 2 rfl ?_
    refine zs_aload_n dX11_leastReading_120 rfl 0 rfl ?_
    refine zs_getR dX11_leastReading_121 fl_X11_70 rfl (fun y19 => ?_)
    refine zs_iload dX11_leastReading_124 2 rfl ?_
    refine zs_ldI dX11_leastReading_126 (fun y20 => ?_)
    refine zs_stI dX11_leastReading_127 (fun M21 => ?_)
    refine zs_iinc (v := (v4 + 1)) (loc' := [(0, .ref (E.2.2.2.1 + v0)), (1, .int v1), (4, .int (v4 + 1))]) dX11_leastReading_128 2 rfl (by rfl) (Nat.le_of_ble_eq_true rfl) [1, 2, 0] rfl ?_
    refine zs_goto dX11_leastReading_131 rfl ?_
    exact ih (v4 + 1) M21
set_option maxHeartbeats 4000000 in
set_option maxRecDepth 100000 in
theorem ct_X11_leastReading (E : zEnv) (hE : zEok E) (d : Nat) (hd : 3 ≤ d) (v0 : Nat) (v1 : Int32) (M : zM) (x0 : zM) (hx : fp_X11_leastReading v0 v1 M = some x0) : zCt E mu_X11_leastReading d [.ref (E.2.2.2.1 + v0), .int v1] M (none, x0) := by
  refine zCt_of (μ := mu_X11_leastReading) (t := fp_X11_leastReading v0 v1 M) rfl rfl (Nat.le_of_ble_eq_true rfl) hx ?_
  change zSy E mu_X11_leastReading d M (none, x0) x0 (fp_X11_leastReading v0 v1 M) 0 [(0, .ref (E.2.2.2.1 + v0)), (1, .int v1)] [] M
  unfold fp_X11_leastReading
  refine zs_this (fun hth => ?_)
  refine zs_iconst (v := 0) dX11_leastReading_0 ciconst_0 ?_
  refine zs_istore_n (loc' := [(0, .ref (E.2.2.2.1 + v0)), (1, .int v1), (2, .int 0)]) dX11_leastReading_1 rfl (Nat.le_of_ble_eq_true rfl) [1, 2, 0] rfl ?_
  refine zs_iconst (v := 1) dX11_leastReading_2 ciconst_1 ?_
  refine zs_istore_n (loc' := [(0, .ref (E.2.2.2.1 + v0)), (1, .int v1), (2, .int 0), (3, .int 1)]) dX11_leastReading_3 rfl (Nat.le_of_ble_eq_true rfl) [1, 2, 3, 0] rfl ?_
  refine zs_iconst (v := 0) dX11_leastReading_4 ciconst_0 ?_
  refine zs_istore (loc' := [(0, .ref (E.2.2.2.1 + v0)), (1, .int v1), (2, .int 0), (3, .int 1), (4, .int 0)]) dX11_leastReading_5 (Nat.le_of_ble_eq_true rfl) [1, 2, 3, 4, 0] rfl ?_
  refine w_X11_leastReading_L7 E hE d hd _ _ _ _ _ _ (fun v2_11 v3_12 => ?_) _ _ _ _
  refine zs_iconst (v := 0) dX11_leastReading_71 ciconst_0 ?_
  refine zs_istore (loc' := [(0, .ref (E.2.2.2.1 + v0)), (1, .int v1), (2, .int v2_11), (3, .int v3_12), (4, .int 0)]) dX11_leastReading_72 (Nat.le_of_ble_eq_true rfl) [1, 2, 3, 4, 0] rfl ?_
  refine w_X11_leastReading_L74 E hE d hd _ _ _ _ _ _ _ (fun M17 => ?_) _ _ _
  refine zs_iconst (v := 0) dX11_leastReading_105 ciconst_0 ?_
  refine zs_istore (loc' := [(0, .ref (E.2.2.2.1 + v0)), (1, .int v1), (4, .int 0)]) dX11_leastReading_106 (Nat.le_of_ble_eq_true rfl) [1, 2, 0] rfl ?_
  exact w_X11_leastReading_L108 E hE d hd _ _ _ _ _ _ _
theorem dX11_isWordHere_0 : decode cX11_isWordHere 0 = .ok (.iconst 0, 1) := by decide +kernel
theorem dX11_isWordHere_1 : decode cX11_isWordHere 1 = .ok (.istore_n 1, 1) := by decide +kernel
theorem dX11_isWordHere_2 : decode cX11_isWordHere 2 = .ok (.iload_n 1, 1) := by decide +kernel
theorem dX11_isWordHere_3 : decode cX11_isWordHere 3 = .ok (.aload_n 0, 1) := by decide +kernel
theorem dX11_isWordHere_4 : decode cX11_isWordHere 4 = .ok (.getfield 101, 3) := by decide +kernel
theorem dX11_isWordHere_7 : decode cX11_isWordHere 7 = .ok (.if_icmp .ge 133, 3) := by decide +kernel
theorem dX11_isWordHere_10 : decode cX11_isWordHere 10 = .ok (.iconst (-1), 1) := by decide +kernel
theorem dX11_isWordHere_11 : decode cX11_isWordHere 11 = .ok (.istore_n 2, 1) := by decide +kernel
theorem dX11_isWordHere_12 : decode cX11_isWordHere 12 = .ok (.iconst (-1), 1) := by decide +kernel
theorem dX11_isWordHere_13 : decode cX11_isWordHere 13 = .ok (.istore_n 3, 1) := by decide +kernel
theorem dX11_isWordHere_14 : decode cX11_isWordHere 14 = .ok (.iconst 0, 1) := by decide +kernel
theorem dX11_isWordHere_15 : decode cX11_isWordHere 15 = .ok (.istore 4, 2) := by decide +kernel
theorem dX11_isWordHere_17 : decode cX11_isWordHere 17 = .ok (.iload 4, 2) := by decide +kernel
theorem dX11_isWordHere_19 : decode cX11_isWordHere 19 = .ok (.aload_n 0, 1) := by decide +kernel
theorem dX11_isWordHere_20 : decode cX11_isWordHere 20 = .ok (.invokevirtual 340, 3) := by decide +kernel
theorem dX11_isWordHere_23 : decode cX11_isWordHere 23 = .ok (.if_icmp .ge 44, 3) := by decide +kernel
theorem dX11_isWordHere_26 : decode cX11_isWordHere 26 = .ok (.aload_n 0, 1) := by decide +kernel
theorem dX11_isWordHere_27 : decode cX11_isWordHere 27 = .ok (.getfield 82, 3) := by decide +kernel
theorem dX11_isWordHere_30 : decode cX11_isWordHere 30 = .ok (.iload 4, 2) := by decide +kernel
theorem dX11_isWordHere_32 : decode cX11_isWordHere 32 = .ok (.iaload, 1) := by decide +kernel
theorem dX11_isWordHere_33 : decode cX11_isWordHere 33 = .ok (.iload_n 1, 1) := by decide +kernel
theorem dX11_isWordHere_34 : decode cX11_isWordHere 34 = .ok (.if_icmp .eq 6, 3) := by decide +kernel
theorem dX11_isWordHere_37 : decode cX11_isWordHere 37 = .ok (.goto 24, 3) := by decide +kernel
theorem dX11_isWordHere_40 : decode cX11_isWordHere 40 = .ok (.iload_n 3, 1) := by decide +kernel
theorem dX11_isWordHere_41 : decode cX11_isWordHere 41 = .ok (.iconst (-1), 1) := by decide +kernel
theorem dX11_isWordHere_42 : decode cX11_isWordHere 42 = .ok (.if_icmp .eq 5, 3) := by decide +kernel
theorem dX11_isWordHere_45 : decode cX11_isWordHere 45 = .ok (.iconst 0, 1) := by decide +kernel
theorem dX11_isWordHere_46 : decode cX11_isWordHere 46 = .ok (.ireturn, 1) := by decide +kernel
theorem dX11_isWordHere_47 : decode cX11_isWordHere 47 = .ok (.iload_n 2, 1) := by decide +kernel
theorem dX11_isWordHere_48 : decode cX11_isWordHere 48 = .ok (.iconst (-1), 1) := by decide +kernel
theorem dX11_isWordHere_49 : decode cX11_isWordHere 49 = .ok (.if_icmp .ne 9, 3) := by decide +kernel
theorem dX11_isWordHere_52 : decode cX11_isWordHere 52 = .ok (.iload 4, 2) := by decide +kernel
theorem dX11_isWordHere_54 : decode cX11_isWordHere 54 = .ok (.istore_n 2, 1) := by decide +kernel
theorem dX11_isWordHere_55 : decode cX11_isWordHere 55 = .ok (.goto 6, 3) := by decide +kernel
theorem dX11_isWordHere_58 : decode cX11_isWordHere 58 = .ok (.iload 4, 2) := by decide +kernel
theorem dX11_isWordHere_60 : decode cX11_isWordHere 60 = .ok (.istore_n 3, 1) := by decide +kernel
theorem dX11_isWordHere_61 : decode cX11_isWordHere 61 = .ok (.iinc 4 1, 3) := by decide +kernel
theorem dX11_isWordHere_64 : decode cX11_isWordHere 64 = .ok (.goto (-47), 3) := by decide +kernel
theorem dX11_isWordHere_67 : decode cX11_isWordHere 67 = .ok (.iload_n 3, 1) := by decide +kernel
theorem dX11_isWordHere_68 : decode cX11_isWordHere 68 = .ok (.iconst (-1), 1) := by decide +kernel
theorem dX11_isWordHere_69 : decode cX11_isWordHere 69 = .ok (.if_icmp .ne 5, 3) := by decide +kernel
theorem dX11_isWordHere_72 : decode cX11_isWordHere 72 = .ok (.iconst 0, 1) := by decide +kernel
theorem dX11_isWordHere_73 : decode cX11_isWordHere 73 = .ok (.ireturn, 1) := by decide +kernel
theorem dX11_isWordHere_74 : decode cX11_isWordHere 74 = .ok (.iconst 0, 1) := by decide +kernel
theorem dX11_isWordHere_75 : decode cX11_isWordHere 75 = .ok (.istore 4, 2) := by decide +kernel
theorem dX11_isWordHere_77 : decode cX11_isWordHere 77 = .ok (.iload 4, 2) := by decide +kernel
theorem dX11_isWordHere_79 : decode cX11_isWordHere 79 = .ok (.aload_n 0, 1) := by decide +kernel
theorem dX11_isWordHere_80 : decode cX11_isWordHere 80 = .ok (.getfield 101, 3) := by decide +kernel
theorem dX11_isWordHere_83 : decode cX11_isWordHere 83 = .ok (.if_icmp .ge 51, 3) := by decide +kernel
theorem dX11_isWordHere_86 : decode cX11_isWordHere 86 = .ok (.iload 4, 2) := by decide +kernel
theorem dX11_isWordHere_88 : decode cX11_isWordHere 88 = .ok (.iload_n 1, 1) := by decide +kernel
theorem dX11_isWordHere_89 : decode cX11_isWordHere 89 = .ok (.if_icmp .eq 39, 3) := by decide +kernel
theorem dX11_isWordHere_92 : decode cX11_isWordHere 92 = .ok (.aload_n 0, 1) := by decide +kernel
theorem dX11_isWordHere_93 : decode cX11_isWordHere 93 = .ok (.getfield 82, 3) := by decide +kernel
theorem dX11_isWordHere_96 : decode cX11_isWordHere 96 = .ok (.iload_n 2, 1) := by decide +kernel
theorem dX11_isWordHere_97 : decode cX11_isWordHere 97 = .ok (.iload_n 3, 1) := by decide +kernel
theorem dX11_isWordHere_98 : decode cX11_isWordHere 98 = .ok (.iload 4, 2) := by decide +kernel
theorem dX11_isWordHere_100 : decode cX11_isWordHere 100 = .ok (.invokestatic 333, 3) := by decide +kernel
theorem dX11_isWordHere_103 : decode cX11_isWordHere 103 = .ok (.iconst 1, 1) := by decide +kernel
theorem dX11_isWordHere_104 : decode cX11_isWordHere 104 = .ok (.if_icmp .ne 7, 3) := by decide +kernel
theorem dX11_isWordHere_107 : decode cX11_isWordHere 107 = .ok (.iconst 1, 1) := by decide +kernel
theorem dX11_isWordHere_108 : decode cX11_isWordHere 108 = .ok (.goto 4, 3) := by decide +kernel
theorem dX11_isWordHere_111 : decode cX11_isWordHere 111 = .ok (.iconst 0, 1) := by decide +kernel
theorem dX11_isWordHere_112 : decode cX11_isWordHere 112 = .ok (.aload_n 0, 1) := by decide +kernel
theorem dX11_isWordHere_113 : decode cX11_isWordHere 113 = .ok (.getfield 7, 3) := by decide +kernel
theorem dX11_isWordHere_116 : decode cX11_isWordHere 116 = .ok (.iload_n 1, 1) := by decide +kernel
theorem dX11_isWordHere_117 : decode cX11_isWordHere 117 = .ok (.iaload, 1) := by decide +kernel
theorem dX11_isWordHere_118 : decode cX11_isWordHere 118 = .ok (.iload 4, 2) := by decide +kernel
theorem dX11_isWordHere_120 : decode cX11_isWordHere 120 = .ok (.invokestatic 97, 3) := by decide +kernel
theorem dX11_isWordHere_123 : decode cX11_isWordHere 123 = .ok (.if_icmp .eq 5, 3) := by decide +kernel
theorem dX11_isWordHere_126 : decode cX11_isWordHere 126 = .ok (.iconst 0, 1) := by decide +kernel
theorem dX11_isWordHere_127 : decode cX11_isWordHere 127 = .ok (.ireturn, 1) := by decide +kernel
theorem dX11_isWordHere_128 : decode cX11_isWordHere 128 = .ok (.iinc 4 1, 3) := by decide +kernel
theorem dX11_isWordHere_131 : decode cX11_isWordHere 131 = .ok (.goto (-54), 3) := by decide +kernel
theorem dX11_isWordHere_134 : decode cX11_isWordHere 134 = .ok (.iinc 1 1, 3) := by decide +kernel
theorem dX11_isWordHere_137 : decode cX11_isWordHere 137 = .ok (.goto (-135), 3) := by decide +kernel
theorem dX11_isWordHere_140 : decode cX11_isWordHere 140 = .ok (.iconst 1, 1) := by decide +kernel
theorem dX11_isWordHere_141 : decode cX11_isWordHere 141 = .ok (.ireturn, 1) := by decide +kernel
def fp_X11_isWordHere_L17 (k67 : Int32 → Int32 → Option (Int32)) (v0 : Nat) (v1 : Int32) (M : zM) : Nat → Int32 → Int32 → Int32 → Option (Int32)
  | 0, _, _, _ => none
  | n + 1, v2, v3, v4 =>
    (fp_X11_length v0 M).bind fun (y2 : Int32) =>
    if v4 ≥ y2 then (
      k67 v2 v3)
    else (
      (zgR 9 M v0 35).bind fun (y3 : Nat) =>
      (zlI 100 M y3 v4).bind fun (y4 : Int32) =>
      zjn (fun (v2_5 : Int32) (v3_6 : Int32) =>
          fp_X11_isWordHere_L17 k67 v0 v1 M n v2_5 v3_6 (v4 + 1))
        (fun j61 =>
          if y4 = v1 then (
            if v3 = (-1) then (
              if v2 ≠ (-1) then (
                j61 v2 v4)
              else (
                j61 v4 v3))
            else (
              some 0))
          else (
            j61 v2 v3)))
def fp_X11_isWordHere_L77 (k134 : Option (Int32)) (v0 : Nat) (v1 : Int32) (v2 : Int32) (v3 : Int32) (M : zM) : Nat → Int32 → Option (Int32)
  | 0, _ => none
  | n + 1, v4 =>
    (zgI 9 M v0 0).bind fun (y9 : Int32) =>
    if v4 ≥ y9 then (
      k134)
    else (
      zjn (
          fp_X11_isWordHere_L77 k134 v0 v1 v2 v3 M n (v4 + 1))
        (fun j128 =>
          if v4 = v1 then (
            j128)
          else (
            (zgR 9 M v0 35).bind fun (y10 : Nat) =>
            (fp_X11_between y10 v2 v3 v4 M).bind fun (y11 : Int32) =>
            zjn (fun (s12 : Int32) =>
                (zgR 9 M v0 2).bind fun (y13 : Nat) =>
                (zlI 100 M y13 v1).bind fun (y14 : Int32) =>
                (fp_X11_has y14 v4).bind fun (y15 : Int32) =>
                if s12 = y15 then (
                  j128)
                else (
                  some 0))
              (fun j112 =>
                if y11 ≠ 1 then (
                  j112 0)
                else (
                  j112 1)))))
def fp_X11_isWordHere_L2 (v0 : Nat) (M : zM) : Nat → Int32 → Option (Int32)
  | 0, _ => none
  | n + 1, v1 =>
    (zgI 9 M v0 0).bind fun (y1 : Int32) =>
    if v1 ≥ y1 then (
      some 1)
    else (
      fp_X11_isWordHere_L17
        (fun v2_7 v3_8 =>
          if v3_8 ≠ (-1) then (
            fp_X11_isWordHere_L77
              (fp_X11_isWordHere_L2 v0 M n (v1 + 1)) v0 v1 v2_7 v3_8 M FU 0)
          else (
            some 0)) v0 v1 M FU (-1) (-1) 0)
def fp_X11_isWordHere (v0 : Nat) (M : zM) : Option (Int32) :=
  zthis 9 M v0 (
    fp_X11_isWordHere_L2 v0 M FU 0)
set_option maxHeartbeats 4000000 in
set_option maxRecDepth 100000 in
theorem th_X11_isWordHere {v0 : Nat} {M : zM} {x0 : Int32} (h : fp_X11_isWordHere v0 M = some x0) : v0 < zS M ∧ kd v0 = 9 := by
  unfold fp_X11_isWordHere at h
  exact zthis_of h
set_option maxHeartbeats 4000000 in
set_option maxRecDepth 100000 in
theorem w_X11_isWordHere_L17 (E : zEnv) (hE : zEok E) (d : Nat) (hd : 2 ≤ d) (x0 : Int32) (v0 : Nat) (v1 : Int32) (M : zM) (k67 : Int32 → Int32 → Option (Int32)) (hk67 : ∀ (v2 : Int32) (v3 : Int32), zSy E mu_X11_isWordHere d M (some (.int x0), M) x0 (k67 v2 v3) 67 [(0, .ref (E.2.2.2.1 + v0)), (1, .int v1), (2, .int v2), (3, .int v3)] [] M) : ∀ (n : Nat) (v2 : Int32) (v3 : Int32) (v4 : Int32), zSy E mu_X11_isWordHere d M (some (.int x0), M) x0 (fp_X11_isWordHere_L17 k67 v0 v1 M n v2 v3 v4) 17 [(0, .ref (E.2.2.2.1 + v0)), (1, .int v1), (2, .int v2), (3, .int v3), (4, .int v4)] [] M := by
  intro n
  induction n with
  | zero =>
    intro v2 v3 v4
    rw [fp_X11_isWordHere_L17]
    exact zs_none
  | succ n ih =>
    intro v2 v3 v4
    rw [fp_X11_isWordHere_L17]
    refine zs_iload dX11_isWordHere_17 4 rfl ?_
    refine zs_aload_n dX11_isWordHere_19 rfl 0 rfl ?_
    refine zs_invVPI (rest := [.int v4]) [] dX11_isWordHere_20 lk_X11_340 rfl (fun _ h => th_X11_length h) (zd1 rfl hd) rfl (Nat.le_of_ble_eq_true rfl) (ct_X11_length E hE _ (zdl rfl hd) _ _) (fun y2 => ?_)
    refine zs_icmp_ge dX11_isWordHere_23 rfl ?_ ?_
    · refine zs_sub (loc' := [(0, .ref (E.2.2.2.1 + v0)), (1, .int v1), (2, .int v2), (3, .int v3)]) [0, 1, 2, 3] rfl ?_
      exact hk67 v2 v3
    refine zs_aload_n dX11_isWordHere_26 rfl 0 rfl ?_
    refine zs_getR dX11_isWordHere_27 fl_X11_82 rfl (fun y3 => ?_)
    refine zs_iload dX11_isWordHere_30 4 rfl ?_
    refine zs_ldI dX11_isWordHere_32 (fun y4 => ?_)
    refine zs_iload_n dX11_isWordHere_33 rfl 1 rfl ?_
    refine zs_jn (fun j61 => ∀ (v2_5 : Int32) (v3_6 : Int32), zSy E mu_X11_isWordHere d M (some (.int x0), M) x0 (j61 v2_5 v3_6) 61 [(0, .ref (E.2.2.2.1 + v0)), (1, .int v1), (2, .int v2_5), (3, .int v3_6), (4, .int v4)] [] M) (fun v2_5 v3_6 => ?_) (fun j61 hj61 => ?_)
    · refine zs_iinc (v := (v4 + 1)) (loc' := [(0, .ref (E.2.2.2.1 + v0)), (1, .int v1), (2, .int v2_5), (3, .int v3_6), (4, .int (v4 + 1))]) dX11_isWordHere_61 4 rfl (by rfl) (Nat.le_of_ble_eq_true rfl) [1, 2, 3, 4, 0] rfl ?_
      refine zs_goto dX11_isWordHere_64 rfl ?_
      exact ih v2_5 v3_6 (v4 + 1)
    refine zs_icmp_eq dX11_isWordHere_34 rfl ?_ ?_
    · refine zs_iload_n dX11_isWordHere_40 rfl 3 rfl ?_
      refine zs_iconst (v := (-1)) dX11_isWordHere_41 ciconst_m1 ?_
      refine zs_icmp_eq dX11_isWordHere_42 rfl ?_ ?_
      · refine zs_iload_n dX11_isWordHere_47 rfl 2 rfl ?_
        refine zs_iconst (v := (-1)) dX11_isWordHere_48 ciconst_m1 ?_
        refine zs_icmp_ne dX11_isWordHere_49 rfl ?_ ?_
        · refine zs_iload dX11_isWordHere_58 4 rfl ?_
          refine zs_istore_n (loc' := [(0, .ref (E.2.2.2.1 + v0)), (1, .int v1), (2, .int v2), (3, .int v4), (4, .int v4)]) dX11_isWordHere_60 rfl (Nat.le_of_ble_eq_true rfl) [1, 2, 3, 0, 4] rfl ?_
          exact hj61 v2 v4
        refine zs_iload dX11_isWordHere_52 4 rfl ?_
        refine zs_istore_n (loc' := [(0, .ref (E.2.2.2.1 + v0)), (1, .int v1), (2, .int v4), (3, .int v3), (4, .int v4)]) dX11_isWordHere_54 rfl (Nat.le_of_ble_eq_true rfl) [1, 2, 0, 3, 4] rfl ?_
        refine zs_goto dX11_isWordHere_55 rfl ?_
        exact hj61 v4 v3
      refine zs_iconst (v := 0) dX11_isWordHere_45 ciconst_0 ?_
      exact zs_iretP dX11_isWordHere_46 rfl
    refine zs_goto dX11_isWordHere_37 rfl ?_
    exact hj61 v2 v3
set_option maxHeartbeats 4000000 in
set_option maxRecDepth 100000 in
theorem w_X11_isWordHere_L77 (E : zEnv) (hE : zEok E) (d : Nat) (hd : 2 ≤ d) (x0 : Int32) (v0 : Nat) (v1 : Int32) (v2 : Int32) (v3 : Int32) (M : zM) (k134 : Option (Int32)) (hk134 : zSy E mu_X11_isWordHere d M (some (.int x0), M) x0 (k134) 134 [(0, .ref (E.2.2.2.1 + v0)), (1, .int v1)] [] M) : ∀ (n : Nat) (v4 : Int32), zSy E mu_X11_isWordHere d M (some (.int x0), M) x0 (fp_X11_isWordHere_L77 k134 v0 v1 v2 v3 M n v4) 77 [(0, .ref (E.2.2.2.1 + v0)), (1, .int v1), (2, .int v2), (3, .int v3), (4, .int v4)] [] M := by
  intro n
  induction n with
  | zero =>
    intro v4
    rw [fp_X11_isWordHere_L77]
    exact zs_none
  | succ n ih =>
    intro v4
    rw [fp_X11_isWordHere_L77]
    refine zs_iload dX11_isWordHere_77 4 rfl ?_
    refine zs_aload_n dX11_isWordHere_79 rfl 0 rfl ?_
    refine zs_getI dX11_isWordHere_80 fl_X11_101 rfl (fun y9 => ?_)
    refine zs_icmp_ge dX11_isWordHere_83 rfl ?_ ?_
    · refine zs_sub (loc' := [(0, .ref (E.2.2.2.1 + v0)), (1, .int v1)]) [0, 1] rfl ?_
      exact hk134
    refine zs_iload dX11_isWordHere_86 4 rfl ?_
    refine zs_iload_n dX11_isWordHere_88 rfl 1 rfl ?_
    refine zs_jn (fun j128 => zSy E mu_X11_isWordHere d M (some (.int x0), M) x0 (j128) 128 [(0, .ref (E.2.2.2.1 + v0)), (1, .int v1), (2, .int v2), (3, .int v3), (4, .int v4)] [] M) ?_ (fun j128 hj128 => ?_)
    · refine zs_iinc (v := (v4 + 1)) (loc' := [(0, .ref (E.2.2.2.1 + v0)), (1, .int v1), (2, .int v2), (3, .int v3), (4, .int (v4 + 1))]) dX11_isWordHere_128 4 rfl (by rfl) (Nat.le_of_ble_eq_true rfl) [1, 2, 3, 4, 0] rfl ?_
      refine zs_goto dX11_isWordHere_131 rfl ?_
      exact ih (v4 + 1)
    refine zs_icmp_eq dX11_isWordHere_89 rfl ?_ ?_
    · exact hj128
    refine zs_aload_n dX11_isWordHere_92 rfl 0 rfl ?_
    refine zs_getR dX11_isWordHere_93 fl_X11_82 rfl (fun y10 => ?_)
    refine zs_iload_n dX11_isWordHere_96 rfl 2 rfl ?_
    refine zs_iload_n dX11_isWordHere_97 rfl 3 rfl ?_
    refine zs_iload dX11_isWordHere_98 4 rfl ?_
    refine zs_invSPI (rest := []) [.ref (E.2.2.2.1 + y10), .int v2, .int v3, .int v4] dX11_isWordHere_100 lk_X11_333 rfl (zd1 rfl hd) rfl (Nat.le_of_ble_eq_true rfl) (ct_X11_between E hE _ (zdl rfl hd) _ _ _ _ _) (fun y11 => ?_)
    refine zs_iconst (v := 1) dX11_isWordHere_103 ciconst_1 ?_
    refine zs_jn (fun j112 => ∀ (s12 : Int32), zSy E mu_X11_isWordHere d M (some (.int x0), M) x0 (j112 s12) 112 [(0, .ref (E.2.2.2.1 + v0)), (1, .int v1), (2, .int v2), (3, .int v3), (4, .int v4)] [.int s12] M) (fun s12 => ?_) (fun j112 hj112 => ?_)
    · refine zs_aload_n dX11_isWordHere_112 rfl 0 rfl ?_
      refine zs_getR dX11_isWordHere_113 fl_X11_7 rfl (fun y13 => ?_)
      refine zs_iload_n dX11_isWordHere_116 rfl 1 rfl ?_
      refine zs_ldI dX11_isWordHere_117 (fun y14 => ?_)
      refine zs_iload dX11_isWordHere_118 4 rfl ?_
      refine zs_invSPI (rest := [.int s12]) [.int y14, .int v4] dX11_isWordHere_120 lk_X11_97 rfl (zd1 rfl hd) rfl (Nat.le_of_ble_eq_true rfl) (ct_X11_has E hE _ (zdl rfl hd) _ _ _) (fun y15 => ?_)
      refine zs_icmp_eq dX11_isWordHere_123 rfl ?_ ?_
      · exact hj128
      refine zs_iconst (v := 0) dX11_isWordHere_126 ciconst_0 ?_
      exact zs_iretP dX11_isWordHere_127 rfl
    refine zs_icmp_ne dX11_isWordHere_104 rfl ?_ ?_
    · refine zs_iconst (v := 0) dX11_isWordHere_111 ciconst_0 ?_
      exact hj112 0
    refine zs_iconst (v := 1) dX11_isWordHere_107 ciconst_1 ?_
    refine zs_goto dX11_isWordHere_108 rfl ?_
    exact hj112 1
set_option maxHeartbeats 4000000 in
set_option maxRecDepth 100000 in
theorem w_X11_isWordHere_L2 (E : zEnv) (hE : zEok E) (d : Nat) (hd : 2 ≤ d) (x0 : Int32) (v0 : Nat) (M : zM)  : ∀ (n : Nat) (v1 : Int32), zSy E mu_X11_isWordHere d M (some (.int x0), M) x0 (fp_X11_isWordHere_L2 v0 M n v1) 2 [(0, .ref (E.2.2.2.1 + v0)), (1, .int v1)] [] M := by
  intro n
  induction n with
  | zero =>
    intro v1
    rw [fp_X11_isWordHere_L2]
    exact zs_none
  | succ n ih =>
    intro v1
    rw [fp_X11_isWordHere_L2]
    refine zs_iload_n dX11_isWordHere_2 rfl 1 rfl ?_
    refine zs_aload_n dX11_isWordHere_3 rfl 0 rfl ?_
    refine zs_getI dX11_isWordHere_4 fl_X11_101 rfl (fun y1 => ?_)
    refine zs_icmp_ge dX11_isWordHere_7 rfl ?_ ?_
    · refine zs_iconst (v := 1) dX11_isWordHere_140 ciconst_1 ?_
      exact zs_iretP dX11_isWordHere_141 rfl
    refine zs_iconst (v := (-1)) dX11_isWordHere_10 ciconst_m1 ?_
    refine zs_istore_n (loc' := [(0, .ref (E.2.2.2.1 + v0)), (1, .int v1), (2, .int (-1))]) dX11_isWordHere_11 rfl (Nat.le_of_ble_eq_true rfl) [1, 2, 0] rfl ?_
    refine zs_iconst (v := (-1)) dX11_isWordHere_12 ciconst_m1 ?_
    refine zs_istore_n (loc' := [(0, .ref (E.2.2.2.1 + v0)), (1, .int v1), (2, .int (-1)), (3, .int (-1))]) dX11_isWordHere_13 rfl (Nat.le_of_ble_eq_true rfl) [1, 2, 3, 0] rfl ?_
    refine zs_iconst (v := 0) dX11_isWordHere_14 ciconst_0 ?_
    refine zs_istore (loc' := [(0, .ref (E.2.2.2.1 + v0)), (1, .int v1), (2, .int (-1)), (3, .int (-1)), (4, .int 0)]) dX11_isWordHere_15 (Nat.le_of_ble_eq_true rfl) [1, 2, 3, 4, 0] rfl ?_
    refine w_X11_isWordHere_L17 E hE d hd _ _ _ _ _ (fun v2_7 v3_8 => ?_) _ _ _ _
    refine zs_iload_n dX11_isWordHere_67 rfl 3 rfl ?_
    refine zs_iconst (v := (-1)) dX11_isWordHere_68 ciconst_m1 ?_
    refine zs_icmp_ne dX11_isWordHere_69 rfl ?_ ?_
    · refine zs_iconst (v := 0) dX11_isWordHere_74 ciconst_0 ?_
      refine zs_istore (loc' := [(0, .ref (E.2.2.2.1 + v0)), (1, .int v1), (2, .int v2_7), (3, .int v3_8), (4, .int 0)]) dX11_isWordHere_75 (Nat.le_of_ble_eq_true rfl) [1, 2, 3, 4, 0] rfl ?_
      refine w_X11_isWordHere_L77 E hE d hd _ _ _ _ _ _ _ ?_ _ _
      refine zs_iinc (v := (v1 + 1)) (loc' := [(0, .ref (E.2.2.2.1 + v0)), (1, .int (v1 + 1))]) dX11_isWordHere_134 1 rfl (by rfl) (Nat.le_of_ble_eq_true rfl) [1, 0] rfl ?_
      refine zs_goto dX11_isWordHere_137 rfl ?_
      exact ih (v1 + 1)
    refine zs_iconst (v := 0) dX11_isWordHere_72 ciconst_0 ?_
    exact zs_iretP dX11_isWordHere_73 rfl
set_option maxHeartbeats 4000000 in
set_option maxRecDepth 100000 in
theorem ct_X11_isWordHere (E : zEnv) (hE : zEok E) (d : Nat) (hd : 2 ≤ d) (v0 : Nat) (M : zM) (x0 : Int32) (hx : fp_X11_isWordHere v0 M = some x0) : zCt E mu_X11_isWordHere d [.ref (E.2.2.2.1 + v0)] M (some (.int x0), M) := by
  refine zCt_of (μ := mu_X11_isWordHere) (t := fp_X11_isWordHere v0 M) rfl rfl (Nat.le_of_ble_eq_true rfl) hx ?_
  change zSy E mu_X11_isWordHere d M (some (.int x0), M) x0 (fp_X11_isWordHere v0 M) 0 [(0, .ref (E.2.2.2.1 + v0))] [] M
  unfold fp_X11_isWordHere
  refine zs_this (fun hth => ?_)
  refine zs_iconst (v := 0) dX11_isWordHere_0 ciconst_0 ?_
  refine zs_istore_n (loc' := [(0, .ref (E.2.2.2.1 + v0)), (1, .int 0)]) dX11_isWordHere_1 rfl (Nat.le_of_ble_eq_true rfl) [1, 0] rfl ?_
  exact w_X11_isWordHere_L2 E hE d hd _ _ _ _ _
theorem dX11_modelAsked_0 : decode cX11_modelAsked 0 = .ok (.aload_n 0, 1) := by decide +kernel
theorem dX11_modelAsked_1 : decode cX11_modelAsked 1 = .ok (.getfield 101, 3) := by decide +kernel
theorem dX11_modelAsked_4 : decode cX11_modelAsked 4 = .ok (.ifCond .le 11, 3) := by decide +kernel
theorem dX11_modelAsked_7 : decode cX11_modelAsked 7 = .ok (.aload_n 0, 1) := by decide +kernel
theorem dX11_modelAsked_8 : decode cX11_modelAsked 8 = .ok (.aload_n 0, 1) := by decide +kernel
theorem dX11_modelAsked_9 : decode cX11_modelAsked 9 = .ok (.invokevirtual 340, 3) := by decide +kernel
theorem dX11_modelAsked_12 : decode cX11_modelAsked 12 = .ok (.invokevirtual 410, 3) := by decide +kernel
theorem dX11_modelAsked_15 : decode cX11_modelAsked 15 = .ok (.aload_n 0, 1) := by decide +kernel
theorem dX11_modelAsked_16 : decode cX11_modelAsked 16 = .ok (.iconst 3, 1) := by decide +kernel
theorem dX11_modelAsked_17 : decode cX11_modelAsked 17 = .ok (.putfield 351, 3) := by decide +kernel
theorem dX11_modelAsked_20 : decode cX11_modelAsked 20 = .ok (.aload_n 0, 1) := by decide +kernel
theorem dX11_modelAsked_21 : decode cX11_modelAsked 21 = .ok (.iconst (-1), 1) := by decide +kernel
theorem dX11_modelAsked_22 : decode cX11_modelAsked 22 = .ok (.invokevirtual 388, 3) := by decide +kernel
theorem dX11_modelAsked_25 : decode cX11_modelAsked 25 = .ok (.pop, 1) := by decide +kernel
theorem dX11_modelAsked_26 : decode cX11_modelAsked 26 = .ok (.aload_n 0, 1) := by decide +kernel
theorem dX11_modelAsked_27 : decode cX11_modelAsked 27 = .ok (.getfield 373, 3) := by decide +kernel
theorem dX11_modelAsked_30 : decode cX11_modelAsked 30 = .ok (.ireturn, 1) := by decide +kernel
def fp_X11_modelAsked (v0 : Nat) (M : zM) : Option (Int32 × zM) :=
  zthis 9 M v0 (
    (zgI 9 M v0 0).bind fun (y1 : Int32) =>
    zjn (fun (M2 : zM) =>
        (zpI 9 M2 v0 39 3).bind fun (M3 : zM) =>
        (fp_X11_goes v0 (-1) M3).bind fun p6 => zpp p6 fun (y4 : Int32) (M5 : zM) =>
        (zgI 9 M5 v0 38).bind fun (y7 : Int32) =>
        some (y7, M5))
      (fun j15 =>
        if y1 ≤ 0 then (
          j15 M)
        else (
          (fp_X11_length v0 M).bind fun (y8 : Int32) =>
          (fp_X11_leastReading v0 y8 M).bind fun (M9 : zM) =>
          j15 M9)))
set_option maxHeartbeats 4000000 in
set_option maxRecDepth 100000 in
theorem th_X11_modelAsked {v0 : Nat} {M : zM} {x0 : Int32 × zM} (h : fp_X11_modelAsked v0 M = some x0) : v0 < zS M ∧ kd v0 = 9 := by
  unfold fp_X11_modelAsked at h
  exact zthis_of h
set_option maxHeartbeats 4000000 in
set_option maxRecDepth 100000 in
theorem ct_X11_modelAsked (E : zEnv) (hE : zEok E) (d : Nat) (hd : 27 ≤ d) (v0 : Nat) (M : zM) (x0 : Int32 × zM) (hx : fp_X11_modelAsked v0 M = some x0) : zCt E mu_X11_modelAsked d [.ref (E.2.2.2.1 + v0)] M (some (.int x0.1), x0.2) := by
  refine zCt_of (μ := mu_X11_modelAsked) (t := fp_X11_modelAsked v0 M) rfl rfl (Nat.le_of_ble_eq_true rfl) hx ?_
  change zSy E mu_X11_modelAsked d M (some (.int x0.1), x0.2) x0 (fp_X11_modelAsked v0 M) 0 [(0, .ref (E.2.2.2.1 + v0))] [] M
  unfold fp_X11_modelAsked
  refine zs_this (fun hth => ?_)
  refine zs_aload_n dX11_modelAsked_0 rfl 0 rfl ?_
  refine zs_getI dX11_modelAsked_1 fl_X11_101 rfl (fun y1 => ?_)
  refine zs_jn (fun j15 => ∀ (M2 : zM), zSy E mu_X11_modelAsked d M (some (.int x0.1), x0.2) x0 (j15 M2) 15 [(0, .ref (E.2.2.2.1 + v0))] [] M2) (fun M2 => ?_) (fun j15 hj15 => ?_)
  · refine zs_aload_n dX11_modelAsked_15 rfl 0 rfl ?_
    refine zs_iconst (v := 3) dX11_modelAsked_16 ciconst_3 ?_
    refine zs_putI dX11_modelAsked_17 fl_X11_351 ft_X11 rfl rfl rfl rfl rfl (fun M3 => ?_)
    refine zs_aload_n dX11_modelAsked_20 rfl 0 rfl ?_
    refine zs_iconst (v := (-1)) dX11_modelAsked_21 ciconst_m1 ?_
    refine zs_invVWI (rest := []) [.int (-1)] dX11_modelAsked_22 lk_X11_388 rfl (fun _ h => th_X11_goes h) (zd1 rfl hd) rfl (Nat.le_of_ble_eq_true rfl) (ct_X11_goes E hE _ (zdl rfl hd) _ _ _) (fun y4 M5 => ?_)
    refine zs_pop dX11_modelAsked_25 rfl ?_
    refine zs_aload_n dX11_modelAsked_26 rfl 0 rfl ?_
    refine zs_getI dX11_modelAsked_27 fl_X11_373 rfl (fun y7 => ?_)
    exact zs_iretW dX11_modelAsked_30 rfl
  refine zs_if_le dX11_modelAsked_4 rfl ?_ ?_
  · exact hj15 M
  refine zs_aload_n dX11_modelAsked_7 rfl 0 rfl ?_
  refine zs_aload_n dX11_modelAsked_8 rfl 0 rfl ?_
  refine zs_invVPI (rest := [.ref (E.2.2.2.1 + v0)]) [] dX11_modelAsked_9 lk_X11_340 rfl (fun _ h => th_X11_length h) (zd1 rfl hd) rfl (Nat.le_of_ble_eq_true rfl) (ct_X11_length E hE _ (zdl rfl hd) _ _) (fun y8 => ?_)
  refine zs_invVWV (rest := []) [.int y8] dX11_modelAsked_12 lk_X11_410 rfl (fun _ h => th_X11_leastReading h) (zd1 rfl hd) rfl (Nat.le_of_ble_eq_true rfl) (ct_X11_leastReading E hE _ (zdl rfl hd) _ _ _) (fun M9 => ?_)
  exact hj15 M9
theorem dX11_find_0 : decode cX11_find 0 = .ok (.iload_n 1, 1) := by decide +kernel
theorem dX11_find_1 : decode cX11_find 1 = .ok (.iconst 0, 1) := by decide +kernel
theorem dX11_find_2 : decode cX11_find 2 = .ok (.aload_n 0, 1) := by decide +kernel
theorem dX11_find_3 : decode cX11_find 3 = .ok (.getfield 135, 3) := by decide +kernel
theorem dX11_find_6 : decode cX11_find 6 = .ok (.invokestatic 195, 3) := by decide +kernel
theorem dX11_find_9 : decode cX11_find 9 = .ok (.ifCond .ne 9, 3) := by decide +kernel
theorem dX11_find_12 : decode cX11_find 12 = .ok (.aload_n 0, 1) := by decide +kernel
theorem dX11_find_13 : decode cX11_find 13 = .ok (.iconst 1, 1) := by decide +kernel
theorem dX11_find_14 : decode cX11_find 14 = .ok (.invokevirtual 226, 3) := by decide +kernel
theorem dX11_find_17 : decode cX11_find 17 = .ok (.ireturn, 1) := by decide +kernel
theorem dX11_find_18 : decode cX11_find 18 = .ok (.iload_n 1, 1) := by decide +kernel
theorem dX11_find_19 : decode cX11_find 19 = .ok (.aload_n 0, 1) := by decide +kernel
theorem dX11_find_20 : decode cX11_find 20 = .ok (.invokevirtual 340, 3) := by decide +kernel
theorem dX11_find_23 : decode cX11_find 23 = .ok (.if_icmp .eq 10, 3) := by decide +kernel
theorem dX11_find_26 : decode cX11_find 26 = .ok (.aload_n 0, 1) := by decide +kernel
theorem dX11_find_27 : decode cX11_find 27 = .ok (.bipush 6, 2) := by decide +kernel
theorem dX11_find_29 : decode cX11_find 29 = .ok (.invokevirtual 226, 3) := by decide +kernel
theorem dX11_find_32 : decode cX11_find 32 = .ok (.ireturn, 1) := by decide +kernel
theorem dX11_find_33 : decode cX11_find 33 = .ok (.iconst 0, 1) := by decide +kernel
theorem dX11_find_34 : decode cX11_find 34 = .ok (.istore_n 2, 1) := by decide +kernel
theorem dX11_find_35 : decode cX11_find 35 = .ok (.iload_n 2, 1) := by decide +kernel
theorem dX11_find_36 : decode cX11_find 36 = .ok (.iload_n 1, 1) := by decide +kernel
theorem dX11_find_37 : decode cX11_find 37 = .ok (.if_icmp .ge 24, 3) := by decide +kernel
theorem dX11_find_40 : decode cX11_find 40 = .ok (.aload_n 0, 1) := by decide +kernel
theorem dX11_find_41 : decode cX11_find 41 = .ok (.getfield 82, 3) := by decide +kernel
theorem dX11_find_44 : decode cX11_find 44 = .ok (.iload_n 2, 1) := by decide +kernel
theorem dX11_find_45 : decode cX11_find 45 = .ok (.aload_n 0, 1) := by decide +kernel
theorem dX11_find_46 : decode cX11_find 46 = .ok (.getfield 13, 3) := by decide +kernel
theorem dX11_find_49 : decode cX11_find 49 = .ok (.iload_n 2, 1) := by decide +kernel
theorem dX11_find_50 : decode cX11_find 50 = .ok (.baload, 1) := by decide +kernel
theorem dX11_find_51 : decode cX11_find 51 = .ok (.bipush 97, 2) := by decide +kernel
theorem dX11_find_53 : decode cX11_find 53 = .ok (.isub, 1) := by decide +kernel
theorem dX11_find_54 : decode cX11_find 54 = .ok (.iastore, 1) := by decide +kernel
theorem dX11_find_55 : decode cX11_find 55 = .ok (.iinc 2 1, 3) := by decide +kernel
theorem dX11_find_58 : decode cX11_find 58 = .ok (.goto (-23), 3) := by decide +kernel
theorem dX11_find_61 : decode cX11_find 61 = .ok (.aload_n 0, 1) := by decide +kernel
theorem dX11_find_62 : decode cX11_find 62 = .ok (.invokevirtual 413, 3) := by decide +kernel
theorem dX11_find_65 : decode cX11_find 65 = .ok (.ifCond .ne 10, 3) := by decide +kernel
theorem dX11_find_68 : decode cX11_find 68 = .ok (.aload_n 0, 1) := by decide +kernel
theorem dX11_find_69 : decode cX11_find 69 = .ok (.bipush 6, 2) := by decide +kernel
theorem dX11_find_71 : decode cX11_find 71 = .ok (.invokevirtual 226, 3) := by decide +kernel
theorem dX11_find_74 : decode cX11_find 74 = .ok (.ireturn, 1) := by decide +kernel
theorem dX11_find_75 : decode cX11_find 75 = .ok (.aload_n 0, 1) := by decide +kernel
theorem dX11_find_76 : decode cX11_find 76 = .ok (.iconst 0, 1) := by decide +kernel
theorem dX11_find_77 : decode cX11_find 77 = .ok (.putfield 135, 3) := by decide +kernel
theorem dX11_find_80 : decode cX11_find 80 = .ok (.aload_n 0, 1) := by decide +kernel
theorem dX11_find_81 : decode cX11_find 81 = .ok (.aload_n 0, 1) := by decide +kernel
theorem dX11_find_82 : decode cX11_find 82 = .ok (.invokevirtual 416, 3) := by decide +kernel
theorem dX11_find_85 : decode cX11_find 85 = .ok (.invokevirtual 242, 3) := by decide +kernel
theorem dX11_find_88 : decode cX11_find 88 = .ok (.ireturn, 1) := by decide +kernel
def fp_X11_find_L35 (k61 : zM → Option (Int32 × zM)) (v0 : Nat) (v1 : Int32) : Nat → Int32 → zM → Option (Int32 × zM)
  | 0, _, _ => none
  | n + 1, v2, M =>
    if v2 ≥ v1 then (
      k61 M)
    else (
      (zgR 9 M v0 35).bind fun (y4 : Nat) =>
      (zgR 9 M v0 3).bind fun (y5 : Nat) =>
      (zlI 102 M y5 v2).bind fun (y6 : Int32) =>
      (ztI M y4 v2 (y6 - 97)).bind fun (M7 : zM) =>
      fp_X11_find_L35 k61 v0 v1 n (v2 + 1) M7)
def fp_X11_find (v0 : Nat) (v1 : Int32) (M : zM) : Option (Int32 × zM) :=
  zthis 9 M v0 (
    (zgI 9 M v0 5).bind fun (y1 : Int32) =>
    (fp_X11_isFrom v1 0 y1).bind fun (y2 : Int32) =>
    if y2 ≠ 0 then (
      (fp_X11_length v0 M).bind fun (y3 : Int32) =>
      if v1 = y3 then (
        fp_X11_find_L35
          (fun M8 =>
            (fp_X11_isWordHere v0 M8).bind fun (y9 : Int32) =>
            if y9 ≠ 0 then (
              (zpI 9 M8 v0 5 0).bind fun (M10 : zM) =>
              (fp_X11_modelAsked v0 M10).bind fun p13 => zpp p13 fun (y11 : Int32) (M12 : zM) =>
              (fp_X11_gives v0 y11 M12).bind fun p16 => zpp p16 fun (y14 : Int32) (M15 : zM) =>
              some (y14, M15))
            else (
              (fp_X11_refuse v0 6 M8).bind fun p19 => zpp p19 fun (y17 : Int32) (M18 : zM) =>
              some (y17, M18))) v0 v1 FU 0 M)
      else (
        (fp_X11_refuse v0 6 M).bind fun p22 => zpp p22 fun (y20 : Int32) (M21 : zM) =>
        some (y20, M21)))
    else (
      (fp_X11_refuse v0 1 M).bind fun p25 => zpp p25 fun (y23 : Int32) (M24 : zM) =>
      some (y23, M24)))
set_option maxHeartbeats 4000000 in
set_option maxRecDepth 100000 in
theorem th_X11_find {v0 : Nat} {v1 : Int32} {M : zM} {x0 : Int32 × zM} (h : fp_X11_find v0 v1 M = some x0) : v0 < zS M ∧ kd v0 = 9 := by
  unfold fp_X11_find at h
  exact zthis_of h
set_option maxHeartbeats 4000000 in
set_option maxRecDepth 100000 in
theorem w_X11_find_L35 (E : zEnv) (hE : zEok E) (d : Nat) (hd : 28 ≤ d) (M0 : zM) (x0 : Int32 × zM) (v0 : Nat) (v1 : Int32) (k61 : zM → Option (Int32 × zM)) (hk61 : ∀ (M : zM), zSy E mu_X11_find d M0 (some (.int x0.1), x0.2) x0 (k61 M) 61 [(0, .ref (E.2.2.2.1 + v0))] [] M) : ∀ (n : Nat) (v2 : Int32) (M : zM), zSy E mu_X11_find d M0 (some (.int x0.1), x0.2) x0 (fp_X11_find_L35 k61 v0 v1 n v2 M) 35 [(0, .ref (E.2.2.2.1 + v0)), (1, .int v1), (2, .int v2)] [] M := by
  intro n
  induction n with
  | zero =>
    intro v2 M
    rw [fp_X11_find_L35]
    exact zs_none
  | succ n ih =>
    intro v2 M
    rw [fp_X11_find_L35]
    refine zs_iload_n dX11_find_35 rfl 2 rfl ?_
    refine zs_iload_n dX11_find_36 rfl 1 rfl ?_
    refine zs_icmp_ge dX11_find_37 rfl ?_ ?_
    · refine zs_sub (loc' := [(0, .ref (E.2.2.2.1 + v0))]) [0] rfl ?_
      exact hk61 M
    refine zs_aload_n dX11_find_40 rfl 0 rfl ?_
    refine zs_getR dX11_find_41 fl_X11_82 rfl (fun y4 => ?_)
    refine zs_iload_n dX11_find_44 rfl 2 rfl ?_
    refine zs_aload_n dX11_find_45 rfl 0 rfl ?_
    refine zs_getR dX11_find_46 fl_X11_13 rfl (fun y5 => ?_)
    refine zs_iload_n dX11_find_49 rfl 2 rfl ?_
    refine zs_ldB dX11_find_50 (fun y6 => ?_)
    refine zs_bipush (v := 97) dX11_find_51 cbipush_97 ?_
    refine zs_isub dX11_find_53 ?_
    refine zs_stI dX11_find_54 (fun M7 => ?_)
    refine zs_iinc (v := (v2 + 1)) (loc' := [(0, .ref (E.2.2.2.1 + v0)), (1, .int v1), (2, .int (v2 + 1))]) dX11_find_55 2 rfl (by rfl) (Nat.le_of_ble_eq_true rfl) [1, 2, 0] rfl ?_
    refine zs_goto dX11_find_58 rfl ?_
    exact ih (v2 + 1) M7
set_option maxHeartbeats 4000000 in
set_option maxRecDepth 100000 in
theorem ct_X11_find (E : zEnv) (hE : zEok E) (d : Nat) (hd : 28 ≤ d) (v0 : Nat) (v1 : Int32) (M : zM) (x0 : Int32 × zM) (hx : fp_X11_find v0 v1 M = some x0) : zCt E mu_X11_find d [.ref (E.2.2.2.1 + v0), .int v1] M (some (.int x0.1), x0.2) := by
  refine zCt_of (μ := mu_X11_find) (t := fp_X11_find v0 v1 M) rfl rfl (Nat.le_of_ble_eq_true rfl) hx ?_
  change zSy E mu_X11_find d M (some (.int x0.1), x0.2) x0 (fp_X11_find v0 v1 M) 0 [(0, .ref (E.2.2.2.1 + v0)), (1, .int v1)] [] M
  unfold fp_X11_find
  refine zs_this (fun hth => ?_)
  refine zs_iload_n dX11_find_0 rfl 1 rfl ?_
  refine zs_iconst (v := 0) dX11_find_1 ciconst_0 ?_
  refine zs_aload_n dX11_find_2 rfl 0 rfl ?_
  refine zs_getI dX11_find_3 fl_X11_135 rfl (fun y1 => ?_)
  refine zs_invSPI (rest := []) [.int v1, .int 0, .int y1] dX11_find_6 lk_X11_195 rfl (zd1 rfl hd) rfl (Nat.le_of_ble_eq_true rfl) (ct_X11_isFrom E hE _ (zdl rfl hd) _ _ _ _) (fun y2 => ?_)
  refine zs_if_ne dX11_find_9 rfl ?_ ?_
  · refine zs_iload_n dX11_find_18 rfl 1 rfl ?_
    refine zs_aload_n dX11_find_19 rfl 0 rfl ?_
    refine zs_invVPI (rest := [.int v1]) [] dX11_find_20 lk_X11_340 rfl (fun _ h => th_X11_length h) (zd1 rfl hd) rfl (Nat.le_of_ble_eq_true rfl) (ct_X11_length E hE _ (zdl rfl hd) _ _) (fun y3 => ?_)
    refine zs_icmp_eq dX11_find_23 rfl ?_ ?_
    · refine zs_iconst (v := 0) dX11_find_33 ciconst_0 ?_
      refine zs_istore_n (loc' := [(0, .ref (E.2.2.2.1 + v0)), (1, .int v1), (2, .int 0)]) dX11_find_34 rfl (Nat.le_of_ble_eq_true rfl) [1, 2, 0] rfl ?_
      refine w_X11_find_L35 E hE d hd _ _ _ _ _ (fun M8 => ?_) _ _ _
      refine zs_aload_n dX11_find_61 rfl 0 rfl ?_
      refine zs_invVPI (rest := []) [] dX11_find_62 lk_X11_413 rfl (fun _ h => th_X11_isWordHere h) (zd1 rfl hd) rfl (Nat.le_of_ble_eq_true rfl) (ct_X11_isWordHere E hE _ (zdl rfl hd) _ _) (fun y9 => ?_)
      refine zs_if_ne dX11_find_65 rfl ?_ ?_
      · refine zs_aload_n dX11_find_75 rfl 0 rfl ?_
        refine zs_iconst (v := 0) dX11_find_76 ciconst_0 ?_
        refine zs_putI dX11_find_77 fl_X11_135 ft_X11 rfl rfl rfl rfl rfl (fun M10 => ?_)
        refine zs_aload_n dX11_find_80 rfl 0 rfl ?_
        refine zs_aload_n dX11_find_81 rfl 0 rfl ?_
        refine zs_invVWI (rest := [.ref (E.2.2.2.1 + v0)]) [] dX11_find_82 lk_X11_416 rfl (fun _ h => th_X11_modelAsked h) (zd1 rfl hd) rfl (Nat.le_of_ble_eq_true rfl) (ct_X11_modelAsked E hE _ (zdl rfl hd) _ _) (fun y11 M12 => ?_)
        refine zs_invVWI (rest := []) [.int y11] dX11_find_85 lk_X11_242 rfl (fun _ h => th_X11_gives h) (zd1 rfl hd) rfl (Nat.le_of_ble_eq_true rfl) (ct_X11_gives E hE _ (zdl rfl hd) _ _ _) (fun y14 M15 => ?_)
        exact zs_iretW dX11_find_88 rfl
      refine zs_aload_n dX11_find_68 rfl 0 rfl ?_
      refine zs_bipush (v := 6) dX11_find_69 cbipush_6 ?_
      refine zs_invVWI (rest := []) [.int 6] dX11_find_71 lk_X11_226 rfl (fun _ h => th_X11_refuse h) (zd1 rfl hd) rfl (Nat.le_of_ble_eq_true rfl) (ct_X11_refuse E hE _ (zdl rfl hd) _ _ _) (fun y17 M18 => ?_)
      exact zs_iretW dX11_find_74 rfl
    refine zs_aload_n dX11_find_26 rfl 0 rfl ?_
    refine zs_bipush (v := 6) dX11_find_27 cbipush_6 ?_
    refine zs_invVWI (rest := []) [.int 6] dX11_find_29 lk_X11_226 rfl (fun _ h => th_X11_refuse h) (zd1 rfl hd) rfl (Nat.le_of_ble_eq_true rfl) (ct_X11_refuse E hE _ (zdl rfl hd) _ _ _) (fun y20 M21 => ?_)
    exact zs_iretW dX11_find_32 rfl
  refine zs_aload_n dX11_find_12 rfl 0 rfl ?_
  refine zs_iconst (v := 1) dX11_find_13 ciconst_1 ?_
  refine zs_invVWI (rest := []) [.int 1] dX11_find_14 lk_X11_226 rfl (fun _ h => th_X11_refuse h) (zd1 rfl hd) rfl (Nat.le_of_ble_eq_true rfl) (ct_X11_refuse E hE _ (zdl rfl hd) _ _ _) (fun y23 M24 => ?_)
  exact zs_iretW dX11_find_17 rfl
theorem dX11_cross_0 : decode cX11_cross 0 = .ok (.iload_n 1, 1) := by decide +kernel
theorem dX11_cross_1 : decode cX11_cross 1 = .ok (.iconst 0, 1) := by decide +kernel
theorem dX11_cross_2 : decode cX11_cross 2 = .ok (.aload_n 0, 1) := by decide +kernel
theorem dX11_cross_3 : decode cX11_cross 3 = .ok (.getfield 135, 3) := by decide +kernel
theorem dX11_cross_6 : decode cX11_cross 6 = .ok (.invokestatic 195, 3) := by decide +kernel
theorem dX11_cross_9 : decode cX11_cross 9 = .ok (.ifCond .eq 23, 3) := by decide +kernel
theorem dX11_cross_12 : decode cX11_cross 12 = .ok (.iload_n 2, 1) := by decide +kernel
theorem dX11_cross_13 : decode cX11_cross 13 = .ok (.iconst 0, 1) := by decide +kernel
theorem dX11_cross_14 : decode cX11_cross 14 = .ok (.bipush 25, 2) := by decide +kernel
theorem dX11_cross_16 : decode cX11_cross 16 = .ok (.invokestatic 195, 3) := by decide +kernel
theorem dX11_cross_19 : decode cX11_cross 19 = .ok (.ifCond .eq 13, 3) := by decide +kernel
theorem dX11_cross_22 : decode cX11_cross 22 = .ok (.iload_n 3, 1) := by decide +kernel
theorem dX11_cross_23 : decode cX11_cross 23 = .ok (.iconst 0, 1) := by decide +kernel
theorem dX11_cross_24 : decode cX11_cross 24 = .ok (.bipush 25, 2) := by decide +kernel
theorem dX11_cross_26 : decode cX11_cross 26 = .ok (.invokestatic 195, 3) := by decide +kernel
theorem dX11_cross_29 : decode cX11_cross 29 = .ok (.ifCond .ne 9, 3) := by decide +kernel
theorem dX11_cross_32 : decode cX11_cross 32 = .ok (.aload_n 0, 1) := by decide +kernel
theorem dX11_cross_33 : decode cX11_cross 33 = .ok (.iconst 1, 1) := by decide +kernel
theorem dX11_cross_34 : decode cX11_cross 34 = .ok (.invokevirtual 226, 3) := by decide +kernel
theorem dX11_cross_37 : decode cX11_cross 37 = .ok (.ireturn, 1) := by decide +kernel
theorem dX11_cross_38 : decode cX11_cross 38 = .ok (.aload_n 0, 1) := by decide +kernel
theorem dX11_cross_39 : decode cX11_cross 39 = .ok (.aload_n 0, 1) := by decide +kernel
theorem dX11_cross_40 : decode cX11_cross 40 = .ok (.getfield 13, 3) := by decide +kernel
theorem dX11_cross_43 : decode cX11_cross 43 = .ok (.iconst 0, 1) := by decide +kernel
theorem dX11_cross_44 : decode cX11_cross 44 = .ok (.iload_n 1, 1) := by decide +kernel
theorem dX11_cross_45 : decode cX11_cross 45 = .ok (.invokevirtual 199, 3) := by decide +kernel
theorem dX11_cross_48 : decode cX11_cross 48 = .ok (.aload_n 0, 1) := by decide +kernel
theorem dX11_cross_49 : decode cX11_cross 49 = .ok (.getfield 27, 3) := by decide +kernel
theorem dX11_cross_52 : decode cX11_cross 52 = .ok (.iload_n 2, 1) := by decide +kernel
theorem dX11_cross_53 : decode cX11_cross 53 = .ok (.iaload, 1) := by decide +kernel
theorem dX11_cross_54 : decode cX11_cross 54 = .ok (.iconst 2, 1) := by decide +kernel
theorem dX11_cross_55 : decode cX11_cross 55 = .ok (.if_icmp .ne 13, 3) := by decide +kernel
theorem dX11_cross_58 : decode cX11_cross 58 = .ok (.aload_n 0, 1) := by decide +kernel
theorem dX11_cross_59 : decode cX11_cross 59 = .ok (.getfield 27, 3) := by decide +kernel
theorem dX11_cross_62 : decode cX11_cross 62 = .ok (.iload_n 3, 1) := by decide +kernel
theorem dX11_cross_63 : decode cX11_cross 63 = .ok (.iaload, 1) := by decide +kernel
theorem dX11_cross_64 : decode cX11_cross 64 = .ok (.iconst 2, 1) := by decide +kernel
theorem dX11_cross_65 : decode cX11_cross 65 = .ok (.if_icmp .eq 9, 3) := by decide +kernel
theorem dX11_cross_68 : decode cX11_cross 68 = .ok (.aload_n 0, 1) := by decide +kernel
theorem dX11_cross_69 : decode cX11_cross 69 = .ok (.iconst 2, 1) := by decide +kernel
theorem dX11_cross_70 : decode cX11_cross 70 = .ok (.invokevirtual 226, 3) := by decide +kernel
theorem dX11_cross_73 : decode cX11_cross 73 = .ok (.ireturn, 1) := by decide +kernel
theorem dX11_cross_74 : decode cX11_cross 74 = .ok (.iload_n 2, 1) := by decide +kernel
theorem dX11_cross_75 : decode cX11_cross 75 = .ok (.iload_n 3, 1) := by decide +kernel
theorem dX11_cross_76 : decode cX11_cross 76 = .ok (.if_icmp .ne 9, 3) := by decide +kernel
theorem dX11_cross_79 : decode cX11_cross 79 = .ok (.aload_n 0, 1) := by decide +kernel
theorem dX11_cross_80 : decode cX11_cross 80 = .ok (.iconst 4, 1) := by decide +kernel
theorem dX11_cross_81 : decode cX11_cross 81 = .ok (.invokevirtual 226, 3) := by decide +kernel
theorem dX11_cross_84 : decode cX11_cross 84 = .ok (.ireturn, 1) := by decide +kernel
theorem dX11_cross_85 : decode cX11_cross 85 = .ok (.aload_n 0, 1) := by decide +kernel
theorem dX11_cross_86 : decode cX11_cross 86 = .ok (.iconst 0, 1) := by decide +kernel
theorem dX11_cross_87 : decode cX11_cross 87 = .ok (.putfield 135, 3) := by decide +kernel
theorem dX11_cross_90 : decode cX11_cross 90 = .ok (.aload_n 0, 1) := by decide +kernel
theorem dX11_cross_91 : decode cX11_cross 91 = .ok (.aload_n 0, 1) := by decide +kernel
theorem dX11_cross_92 : decode cX11_cross 92 = .ok (.iload_n 2, 1) := by decide +kernel
theorem dX11_cross_93 : decode cX11_cross 93 = .ok (.iload_n 3, 1) := by decide +kernel
theorem dX11_cross_94 : decode cX11_cross 94 = .ok (.invokevirtual 203, 3) := by decide +kernel
theorem dX11_cross_97 : decode cX11_cross 97 = .ok (.ifCond .eq 7, 3) := by decide +kernel
theorem dX11_cross_100 : decode cX11_cross 100 = .ok (.iconst 1, 1) := by decide +kernel
theorem dX11_cross_101 : decode cX11_cross 101 = .ok (.goto 4, 3) := by decide +kernel
theorem dX11_cross_104 : decode cX11_cross 104 = .ok (.iconst 0, 1) := by decide +kernel
theorem dX11_cross_105 : decode cX11_cross 105 = .ok (.invokevirtual 242, 3) := by decide +kernel
theorem dX11_cross_108 : decode cX11_cross 108 = .ok (.ireturn, 1) := by decide +kernel
def fp_X11_cross (v0 : Nat) (v1 : Int32) (v2 : Int32) (v3 : Int32) (M : zM) : Option (Int32 × zM) :=
  zthis 9 M v0 (
    (zgI 9 M v0 5).bind fun (y1 : Int32) =>
    (fp_X11_isFrom v1 0 y1).bind fun (y2 : Int32) =>
    if y2 = 0 then (
      (fp_X11_refuse v0 1 M).bind fun p5 => zpp p5 fun (y3 : Int32) (M4 : zM) =>
      some (y3, M4))
    else (
      (fp_X11_isFrom v2 0 25).bind fun (y6 : Int32) =>
      if y6 = 0 then (
        (fp_X11_refuse v0 1 M).bind fun p9 => zpp p9 fun (y7 : Int32) (M8 : zM) =>
        some (y7, M8))
      else (
        (fp_X11_isFrom v3 0 25).bind fun (y10 : Int32) =>
        if y10 ≠ 0 then (
          (zgR 9 M v0 3).bind fun (y11 : Nat) =>
          (fp_X11_counts v0 y11 0 v1 M).bind fun (M12 : zM) =>
          (zgR 9 M12 v0 13).bind fun (y13 : Nat) =>
          (zlI 100 M12 y13 v2).bind fun (y14 : Int32) =>
          if y14 ≠ 2 then (
            (fp_X11_refuse v0 2 M12).bind fun p17 => zpp p17 fun (y15 : Int32) (M16 : zM) =>
            some (y15, M16))
          else (
            (zgR 9 M12 v0 13).bind fun (y18 : Nat) =>
            (zlI 100 M12 y18 v3).bind fun (y19 : Int32) =>
            if y19 = 2 then (
              if v2 ≠ v3 then (
                (zpI 9 M12 v0 5 0).bind fun (M20 : zM) =>
                (fp_X11_isCrossed v0 v2 v3 M20).bind fun (y21 : Int32) =>
                if y21 = 0 then (
                  (fp_X11_gives v0 0 M20).bind fun p24 => zpp p24 fun (y22 : Int32) (M23 : zM) =>
                  some (y22, M23))
                else (
                  (fp_X11_gives v0 1 M20).bind fun p27 => zpp p27 fun (y25 : Int32) (M26 : zM) =>
                  some (y25, M26)))
              else (
                (fp_X11_refuse v0 4 M12).bind fun p30 => zpp p30 fun (y28 : Int32) (M29 : zM) =>
                some (y28, M29)))
            else (
              (fp_X11_refuse v0 2 M12).bind fun p33 => zpp p33 fun (y31 : Int32) (M32 : zM) =>
              some (y31, M32))))
        else (
          (fp_X11_refuse v0 1 M).bind fun p36 => zpp p36 fun (y34 : Int32) (M35 : zM) =>
          some (y34, M35)))))
set_option maxHeartbeats 4000000 in
set_option maxRecDepth 100000 in
theorem th_X11_cross {v0 : Nat} {v1 : Int32} {v2 : Int32} {v3 : Int32} {M : zM} {x0 : Int32 × zM} (h : fp_X11_cross v0 v1 v2 v3 M = some x0) : v0 < zS M ∧ kd v0 = 9 := by
  unfold fp_X11_cross at h
  exact zthis_of h
set_option maxHeartbeats 4000000 in
set_option maxRecDepth 100000 in
theorem ct_X11_cross (E : zEnv) (hE : zEok E) (d : Nat) (hd : 3 ≤ d) (v0 : Nat) (v1 : Int32) (v2 : Int32) (v3 : Int32) (M : zM) (x0 : Int32 × zM) (hx : fp_X11_cross v0 v1 v2 v3 M = some x0) : zCt E mu_X11_cross d [.ref (E.2.2.2.1 + v0), .int v1, .int v2, .int v3] M (some (.int x0.1), x0.2) := by
  refine zCt_of (μ := mu_X11_cross) (t := fp_X11_cross v0 v1 v2 v3 M) rfl rfl (Nat.le_of_ble_eq_true rfl) hx ?_
  change zSy E mu_X11_cross d M (some (.int x0.1), x0.2) x0 (fp_X11_cross v0 v1 v2 v3 M) 0 [(0, .ref (E.2.2.2.1 + v0)), (1, .int v1), (2, .int v2), (3, .int v3)] [] M
  unfold fp_X11_cross
  refine zs_this (fun hth => ?_)
  refine zs_iload_n dX11_cross_0 rfl 1 rfl ?_
  refine zs_iconst (v := 0) dX11_cross_1 ciconst_0 ?_
  refine zs_aload_n dX11_cross_2 rfl 0 rfl ?_
  refine zs_getI dX11_cross_3 fl_X11_135 rfl (fun y1 => ?_)
  refine zs_invSPI (rest := []) [.int v1, .int 0, .int y1] dX11_cross_6 lk_X11_195 rfl (zd1 rfl hd) rfl (Nat.le_of_ble_eq_true rfl) (ct_X11_isFrom E hE _ (zdl rfl hd) _ _ _ _) (fun y2 => ?_)
  refine zs_if_eq dX11_cross_9 rfl ?_ ?_
  · refine zs_aload_n dX11_cross_32 rfl 0 rfl ?_
    refine zs_iconst (v := 1) dX11_cross_33 ciconst_1 ?_
    refine zs_invVWI (rest := []) [.int 1] dX11_cross_34 lk_X11_226 rfl (fun _ h => th_X11_refuse h) (zd1 rfl hd) rfl (Nat.le_of_ble_eq_true rfl) (ct_X11_refuse E hE _ (zdl rfl hd) _ _ _) (fun y3 M4 => ?_)
    exact zs_iretW dX11_cross_37 rfl
  refine zs_iload_n dX11_cross_12 rfl 2 rfl ?_
  refine zs_iconst (v := 0) dX11_cross_13 ciconst_0 ?_
  refine zs_bipush (v := 25) dX11_cross_14 cbipush_25 ?_
  refine zs_invSPI (rest := []) [.int v2, .int 0, .int 25] dX11_cross_16 lk_X11_195 rfl (zd1 rfl hd) rfl (Nat.le_of_ble_eq_true rfl) (ct_X11_isFrom E hE _ (zdl rfl hd) _ _ _ _) (fun y6 => ?_)
  refine zs_if_eq dX11_cross_19 rfl ?_ ?_
  · refine zs_aload_n dX11_cross_32 rfl 0 rfl ?_
    refine zs_iconst (v := 1) dX11_cross_33 ciconst_1 ?_
    refine zs_invVWI (rest := []) [.int 1] dX11_cross_34 lk_X11_226 rfl (fun _ h => th_X11_refuse h) (zd1 rfl hd) rfl (Nat.le_of_ble_eq_true rfl) (ct_X11_refuse E hE _ (zdl rfl hd) _ _ _) (fun y7 M8 => ?_)
    exact zs_iretW dX11_cross_37 rfl
  refine zs_iload_n dX11_cross_22 rfl 3 rfl ?_
  refine zs_iconst (v := 0) dX11_cross_23 ciconst_0 ?_
  refine zs_bipush (v := 25) dX11_cross_24 cbipush_25 ?_
  refine zs_invSPI (rest := []) [.int v3, .int 0, .int 25] dX11_cross_26 lk_X11_195 rfl (zd1 rfl hd) rfl (Nat.le_of_ble_eq_true rfl) (ct_X11_isFrom E hE _ (zdl rfl hd) _ _ _ _) (fun y10 => ?_)
  refine zs_if_ne dX11_cross_29 rfl ?_ ?_
  · refine zs_aload_n dX11_cross_38 rfl 0 rfl ?_
    refine zs_aload_n dX11_cross_39 rfl 0 rfl ?_
    refine zs_getR dX11_cross_40 fl_X11_13 rfl (fun y11 => ?_)
    refine zs_iconst (v := 0) dX11_cross_43 ciconst_0 ?_
    refine zs_iload_n dX11_cross_44 rfl 1 rfl ?_
    refine zs_invVWV (rest := []) [.ref (E.2.2.2.1 + y11), .int 0, .int v1] dX11_cross_45 lk_X11_199 rfl (fun _ h => th_X11_counts h) (zd1 rfl hd) rfl (Nat.le_of_ble_eq_true rfl) (ct_X11_counts E hE _ (zdl rfl hd) _ _ _ _ _) (fun M12 => ?_)
    refine zs_aload_n dX11_cross_48 rfl 0 rfl ?_
    refine zs_getR dX11_cross_49 fl_X11_27 rfl (fun y13 => ?_)
    refine zs_iload_n dX11_cross_52 rfl 2 rfl ?_
    refine zs_ldI dX11_cross_53 (fun y14 => ?_)
    refine zs_iconst (v := 2) dX11_cross_54 ciconst_2 ?_
    refine zs_icmp_ne dX11_cross_55 rfl ?_ ?_
    · refine zs_aload_n dX11_cross_68 rfl 0 rfl ?_
      refine zs_iconst (v := 2) dX11_cross_69 ciconst_2 ?_
      refine zs_invVWI (rest := []) [.int 2] dX11_cross_70 lk_X11_226 rfl (fun _ h => th_X11_refuse h) (zd1 rfl hd) rfl (Nat.le_of_ble_eq_true rfl) (ct_X11_refuse E hE _ (zdl rfl hd) _ _ _) (fun y15 M16 => ?_)
      exact zs_iretW dX11_cross_73 rfl
    refine zs_aload_n dX11_cross_58 rfl 0 rfl ?_
    refine zs_getR dX11_cross_59 fl_X11_27 rfl (fun y18 => ?_)
    refine zs_iload_n dX11_cross_62 rfl 3 rfl ?_
    refine zs_ldI dX11_cross_63 (fun y19 => ?_)
    refine zs_iconst (v := 2) dX11_cross_64 ciconst_2 ?_
    refine zs_icmp_eq dX11_cross_65 rfl ?_ ?_
    · refine zs_iload_n dX11_cross_74 rfl 2 rfl ?_
      refine zs_iload_n dX11_cross_75 rfl 3 rfl ?_
      refine zs_icmp_ne dX11_cross_76 rfl ?_ ?_
      · refine zs_aload_n dX11_cross_85 rfl 0 rfl ?_
        refine zs_iconst (v := 0) dX11_cross_86 ciconst_0 ?_
        refine zs_putI dX11_cross_87 fl_X11_135 ft_X11 rfl rfl rfl rfl rfl (fun M20 => ?_)
        refine zs_aload_n dX11_cross_90 rfl 0 rfl ?_
        refine zs_aload_n dX11_cross_91 rfl 0 rfl ?_
        refine zs_iload_n dX11_cross_92 rfl 2 rfl ?_
        refine zs_iload_n dX11_cross_93 rfl 3 rfl ?_
        refine zs_invVPI (rest := [.ref (E.2.2.2.1 + v0)]) [.int v2, .int v3] dX11_cross_94 lk_X11_203 rfl (fun _ h => th_X11_isCrossed h) (zd1 rfl hd) rfl (Nat.le_of_ble_eq_true rfl) (ct_X11_isCrossed E hE _ (zdl rfl hd) _ _ _ _) (fun y21 => ?_)
        refine zs_if_eq dX11_cross_97 rfl ?_ ?_
        · refine zs_iconst (v := 0) dX11_cross_104 ciconst_0 ?_
          refine zs_invVWI (rest := []) [.int 0] dX11_cross_105 lk_X11_242 rfl (fun _ h => th_X11_gives h) (zd1 rfl hd) rfl (Nat.le_of_ble_eq_true rfl) (ct_X11_gives E hE _ (zdl rfl hd) _ _ _) (fun y22 M23 => ?_)
          exact zs_iretW dX11_cross_108 rfl
        refine zs_iconst (v := 1) dX11_cross_100 ciconst_1 ?_
        refine zs_goto dX11_cross_101 rfl ?_
        refine zs_invVWI (rest := []) [.int 1] dX11_cross_105 lk_X11_242 rfl (fun _ h => th_X11_gives h) (zd1 rfl hd) rfl (Nat.le_of_ble_eq_true rfl) (ct_X11_gives E hE _ (zdl rfl hd) _ _ _) (fun y25 M26 => ?_)
        exact zs_iretW dX11_cross_108 rfl
      refine zs_aload_n dX11_cross_79 rfl 0 rfl ?_
      refine zs_iconst (v := 4) dX11_cross_80 ciconst_4 ?_
      refine zs_invVWI (rest := []) [.int 4] dX11_cross_81 lk_X11_226 rfl (fun _ h => th_X11_refuse h) (zd1 rfl hd) rfl (Nat.le_of_ble_eq_true rfl) (ct_X11_refuse E hE _ (zdl rfl hd) _ _ _) (fun y28 M29 => ?_)
      exact zs_iretW dX11_cross_84 rfl
    refine zs_aload_n dX11_cross_68 rfl 0 rfl ?_
    refine zs_iconst (v := 2) dX11_cross_69 ciconst_2 ?_
    refine zs_invVWI (rest := []) [.int 2] dX11_cross_70 lk_X11_226 rfl (fun _ h => th_X11_refuse h) (zd1 rfl hd) rfl (Nat.le_of_ble_eq_true rfl) (ct_X11_refuse E hE _ (zdl rfl hd) _ _ _) (fun y31 M32 => ?_)
    exact zs_iretW dX11_cross_73 rfl
  refine zs_aload_n dX11_cross_32 rfl 0 rfl ?_
  refine zs_iconst (v := 1) dX11_cross_33 ciconst_1 ?_
  refine zs_invVWI (rest := []) [.int 1] dX11_cross_34 lk_X11_226 rfl (fun _ h => th_X11_refuse h) (zd1 rfl hd) rfl (Nat.le_of_ble_eq_true rfl) (ct_X11_refuse E hE _ (zdl rfl hd) _ _ _) (fun y34 M35 => ?_)
  exact zs_iretW dX11_cross_37 rfl
theorem dX11_fits_0 : decode cX11_fits 0 = .ok (.iload_n 1, 1) := by decide +kernel
theorem dX11_fits_1 : decode cX11_fits 1 = .ok (.ifCond .lt 11, 3) := by decide +kernel
theorem dX11_fits_4 : decode cX11_fits 4 = .ok (.aload_n 0, 1) := by decide +kernel
theorem dX11_fits_5 : decode cX11_fits 5 = .ok (.iload_n 2, 1) := by decide +kernel
theorem dX11_fits_6 : decode cX11_fits 6 = .ok (.invokevirtual 272, 3) := by decide +kernel
theorem dX11_fits_9 : decode cX11_fits 9 = .ok (.ifCond .ne 9, 3) := by decide +kernel
theorem dX11_fits_12 : decode cX11_fits 12 = .ok (.aload_n 0, 1) := by decide +kernel
theorem dX11_fits_13 : decode cX11_fits 13 = .ok (.iconst 1, 1) := by decide +kernel
theorem dX11_fits_14 : decode cX11_fits 14 = .ok (.invokevirtual 226, 3) := by decide +kernel
theorem dX11_fits_17 : decode cX11_fits 17 = .ok (.ireturn, 1) := by decide +kernel
theorem dX11_fits_18 : decode cX11_fits 18 = .ok (.aload_n 0, 1) := by decide +kernel
theorem dX11_fits_19 : decode cX11_fits 19 = .ok (.iload_n 1, 1) := by decide +kernel
theorem dX11_fits_20 : decode cX11_fits 20 = .ok (.invokevirtual 391, 3) := by decide +kernel
theorem dX11_fits_23 : decode cX11_fits 23 = .ok (.ifCond .le 12, 3) := by decide +kernel
theorem dX11_fits_26 : decode cX11_fits 26 = .ok (.aload_n 0, 1) := by decide +kernel
theorem dX11_fits_27 : decode cX11_fits 27 = .ok (.bipush 6, 2) := by decide +kernel
theorem dX11_fits_29 : decode cX11_fits 29 = .ok (.invokevirtual 226, 3) := by decide +kernel
theorem dX11_fits_32 : decode cX11_fits 32 = .ok (.goto 17, 3) := by decide +kernel
theorem dX11_fits_35 : decode cX11_fits 35 = .ok (.aload_n 0, 1) := by decide +kernel
theorem dX11_fits_36 : decode cX11_fits 36 = .ok (.aload_n 0, 1) := by decide +kernel
theorem dX11_fits_37 : decode cX11_fits 37 = .ok (.aload_n 0, 1) := by decide +kernel
theorem dX11_fits_38 : decode cX11_fits 38 = .ok (.getfield 79, 3) := by decide +kernel
theorem dX11_fits_41 : decode cX11_fits 41 = .ok (.iload_n 2, 1) := by decide +kernel
theorem dX11_fits_42 : decode cX11_fits 42 = .ok (.iconst (-1), 1) := by decide +kernel
theorem dX11_fits_43 : decode cX11_fits 43 = .ok (.invokevirtual 366, 3) := by decide +kernel
theorem dX11_fits_46 : decode cX11_fits 46 = .ok (.invokevirtual 242, 3) := by decide +kernel
theorem dX11_fits_49 : decode cX11_fits 49 = .ok (.ireturn, 1) := by decide +kernel
def fp_X11_fits (v0 : Nat) (v1 : Int32) (v2 : Int32) (M : zM) : Option (Int32 × zM) :=
  zthis 9 M v0 (
    if v1 < 0 then (
      (fp_X11_refuse v0 1 M).bind fun p3 => zpp p3 fun (y1 : Int32) (M2 : zM) =>
      some (y1, M2))
    else (
      (fp_X11_isSet v0 v2 M).bind fun (y4 : Int32) =>
      if y4 ≠ 0 then (
        (fp_X11_wrongModel v0 v1 M).bind fun p7 => zpp p7 fun (y5 : Int32) (M6 : zM) =>
        if y5 ≤ 0 then (
          (zgR 9 M6 v0 34).bind fun (y8 : Nat) =>
          (fp_X11_gaps v0 y8 v2 (-1) M6).bind fun p11 => zpp p11 fun (y9 : Int32) (M10 : zM) =>
          (fp_X11_gives v0 y9 M10).bind fun p14 => zpp p14 fun (y12 : Int32) (M13 : zM) =>
          some (y12, M13))
        else (
          (fp_X11_refuse v0 6 M6).bind fun p17 => zpp p17 fun (y15 : Int32) (M16 : zM) =>
          some (y15, M16)))
      else (
        (fp_X11_refuse v0 1 M).bind fun p20 => zpp p20 fun (y18 : Int32) (M19 : zM) =>
        some (y18, M19))))
set_option maxHeartbeats 4000000 in
set_option maxRecDepth 100000 in
theorem th_X11_fits {v0 : Nat} {v1 : Int32} {v2 : Int32} {M : zM} {x0 : Int32 × zM} (h : fp_X11_fits v0 v1 v2 M = some x0) : v0 < zS M ∧ kd v0 = 9 := by
  unfold fp_X11_fits at h
  exact zthis_of h
set_option maxHeartbeats 4000000 in
set_option maxRecDepth 100000 in
theorem ct_X11_fits (E : zEnv) (hE : zEok E) (d : Nat) (hd : 29 ≤ d) (v0 : Nat) (v1 : Int32) (v2 : Int32) (M : zM) (x0 : Int32 × zM) (hx : fp_X11_fits v0 v1 v2 M = some x0) : zCt E mu_X11_fits d [.ref (E.2.2.2.1 + v0), .int v1, .int v2] M (some (.int x0.1), x0.2) := by
  refine zCt_of (μ := mu_X11_fits) (t := fp_X11_fits v0 v1 v2 M) rfl rfl (Nat.le_of_ble_eq_true rfl) hx ?_
  change zSy E mu_X11_fits d M (some (.int x0.1), x0.2) x0 (fp_X11_fits v0 v1 v2 M) 0 [(0, .ref (E.2.2.2.1 + v0)), (1, .int v1), (2, .int v2)] [] M
  unfold fp_X11_fits
  refine zs_this (fun hth => ?_)
  refine zs_iload_n dX11_fits_0 rfl 1 rfl ?_
  refine zs_if_lt dX11_fits_1 rfl ?_ ?_
  · refine zs_aload_n dX11_fits_12 rfl 0 rfl ?_
    refine zs_iconst (v := 1) dX11_fits_13 ciconst_1 ?_
    refine zs_invVWI (rest := []) [.int 1] dX11_fits_14 lk_X11_226 rfl (fun _ h => th_X11_refuse h) (zd1 rfl hd) rfl (Nat.le_of_ble_eq_true rfl) (ct_X11_refuse E hE _ (zdl rfl hd) _ _ _) (fun y1 M2 => ?_)
    exact zs_iretW dX11_fits_17 rfl
  refine zs_aload_n dX11_fits_4 rfl 0 rfl ?_
  refine zs_iload_n dX11_fits_5 rfl 2 rfl ?_
  refine zs_invVPI (rest := []) [.int v2] dX11_fits_6 lk_X11_272 rfl (fun _ h => th_X11_isSet h) (zd1 rfl hd) rfl (Nat.le_of_ble_eq_true rfl) (ct_X11_isSet E hE _ (zdl rfl hd) _ _ _) (fun y4 => ?_)
  refine zs_if_ne dX11_fits_9 rfl ?_ ?_
  · refine zs_aload_n dX11_fits_18 rfl 0 rfl ?_
    refine zs_iload_n dX11_fits_19 rfl 1 rfl ?_
    refine zs_invVWI (rest := []) [.int v1] dX11_fits_20 lk_X11_391 rfl (fun _ h => th_X11_wrongModel h) (zd1 rfl hd) rfl (Nat.le_of_ble_eq_true rfl) (ct_X11_wrongModel E hE _ (zdl rfl hd) _ _ _) (fun y5 M6 => ?_)
    refine zs_if_le dX11_fits_23 rfl ?_ ?_
    · refine zs_aload_n dX11_fits_35 rfl 0 rfl ?_
      refine zs_aload_n dX11_fits_36 rfl 0 rfl ?_
      refine zs_aload_n dX11_fits_37 rfl 0 rfl ?_
      refine zs_getR dX11_fits_38 fl_X11_79 rfl (fun y8 => ?_)
      refine zs_iload_n dX11_fits_41 rfl 2 rfl ?_
      refine zs_iconst (v := (-1)) dX11_fits_42 ciconst_m1 ?_
      refine zs_invVWI (rest := [.ref (E.2.2.2.1 + v0)]) [.ref (E.2.2.2.1 + y8), .int v2, .int (-1)] dX11_fits_43 lk_X11_366 rfl (fun _ h => th_X11_gaps h) (zd1 rfl hd) rfl (Nat.le_of_ble_eq_true rfl) (ct_X11_gaps E hE _ (zdl rfl hd) _ _ _ _ _) (fun y9 M10 => ?_)
      refine zs_invVWI (rest := []) [.int y9] dX11_fits_46 lk_X11_242 rfl (fun _ h => th_X11_gives h) (zd1 rfl hd) rfl (Nat.le_of_ble_eq_true rfl) (ct_X11_gives E hE _ (zdl rfl hd) _ _ _) (fun y12 M13 => ?_)
      exact zs_iretW dX11_fits_49 rfl
    refine zs_aload_n dX11_fits_26 rfl 0 rfl ?_
    refine zs_bipush (v := 6) dX11_fits_27 cbipush_6 ?_
    refine zs_invVWI (rest := []) [.int 6] dX11_fits_29 lk_X11_226 rfl (fun _ h => th_X11_refuse h) (zd1 rfl hd) rfl (Nat.le_of_ble_eq_true rfl) (ct_X11_refuse E hE _ (zdl rfl hd) _ _ _) (fun y15 M16 => ?_)
    refine zs_goto dX11_fits_32 rfl ?_
    exact zs_iretW dX11_fits_49 rfl
  refine zs_aload_n dX11_fits_12 rfl 0 rfl ?_
  refine zs_iconst (v := 1) dX11_fits_13 ciconst_1 ?_
  refine zs_invVWI (rest := []) [.int 1] dX11_fits_14 lk_X11_226 rfl (fun _ h => th_X11_refuse h) (zd1 rfl hd) rfl (Nat.le_of_ble_eq_true rfl) (ct_X11_refuse E hE _ (zdl rfl hd) _ _ _) (fun y18 M19 => ?_)
  exact zs_iretW dX11_fits_17 rfl
theorem dX11_gap_0 : decode cX11_gap 0 = .ok (.iload_n 1, 1) := by decide +kernel
theorem dX11_gap_1 : decode cX11_gap 1 = .ok (.ifCond .lt 25, 3) := by decide +kernel
theorem dX11_gap_4 : decode cX11_gap 4 = .ok (.aload_n 0, 1) := by decide +kernel
theorem dX11_gap_5 : decode cX11_gap 5 = .ok (.iload_n 2, 1) := by decide +kernel
theorem dX11_gap_6 : decode cX11_gap 6 = .ok (.invokevirtual 272, 3) := by decide +kernel
theorem dX11_gap_9 : decode cX11_gap 9 = .ok (.ifCond .eq 17, 3) := by decide +kernel
theorem dX11_gap_12 : decode cX11_gap 12 = .ok (.iload_n 3, 1) := by decide +kernel
theorem dX11_gap_13 : decode cX11_gap 13 = .ok (.ifCond .lt 13, 3) := by decide +kernel
theorem dX11_gap_16 : decode cX11_gap 16 = .ok (.iload 4, 2) := by decide +kernel
theorem dX11_gap_18 : decode cX11_gap 18 = .ok (.iconst 0, 1) := by decide +kernel
theorem dX11_gap_19 : decode cX11_gap 19 = .ok (.iconst 1, 1) := by decide +kernel
theorem dX11_gap_20 : decode cX11_gap 20 = .ok (.invokestatic 195, 3) := by decide +kernel
theorem dX11_gap_23 : decode cX11_gap 23 = .ok (.ifCond .ne 9, 3) := by decide +kernel
theorem dX11_gap_26 : decode cX11_gap 26 = .ok (.aload_n 0, 1) := by decide +kernel
theorem dX11_gap_27 : decode cX11_gap 27 = .ok (.iconst 1, 1) := by decide +kernel
theorem dX11_gap_28 : decode cX11_gap 28 = .ok (.invokevirtual 226, 3) := by decide +kernel
theorem dX11_gap_31 : decode cX11_gap 31 = .ok (.ireturn, 1) := by decide +kernel
theorem dX11_gap_32 : decode cX11_gap 32 = .ok (.aload_n 0, 1) := by decide +kernel
theorem dX11_gap_33 : decode cX11_gap 33 = .ok (.iload_n 1, 1) := by decide +kernel
theorem dX11_gap_34 : decode cX11_gap 34 = .ok (.invokevirtual 391, 3) := by decide +kernel
theorem dX11_gap_37 : decode cX11_gap 37 = .ok (.ifCond .gt 17, 3) := by decide +kernel
theorem dX11_gap_40 : decode cX11_gap 40 = .ok (.aload_n 0, 1) := by decide +kernel
theorem dX11_gap_41 : decode cX11_gap 41 = .ok (.aload_n 0, 1) := by decide +kernel
theorem dX11_gap_42 : decode cX11_gap 42 = .ok (.getfield 79, 3) := by decide +kernel
theorem dX11_gap_45 : decode cX11_gap 45 = .ok (.iload_n 2, 1) := by decide +kernel
theorem dX11_gap_46 : decode cX11_gap 46 = .ok (.iload_n 3, 1) := by decide +kernel
theorem dX11_gap_47 : decode cX11_gap 47 = .ok (.invokevirtual 366, 3) := by decide +kernel
theorem dX11_gap_50 : decode cX11_gap 50 = .ok (.iload_n 3, 1) := by decide +kernel
theorem dX11_gap_51 : decode cX11_gap 51 = .ok (.if_icmp .gt 10, 3) := by decide +kernel
theorem dX11_gap_54 : decode cX11_gap 54 = .ok (.aload_n 0, 1) := by decide +kernel
theorem dX11_gap_55 : decode cX11_gap 55 = .ok (.bipush 6, 2) := by decide +kernel
theorem dX11_gap_57 : decode cX11_gap 57 = .ok (.invokevirtual 226, 3) := by decide +kernel
theorem dX11_gap_60 : decode cX11_gap 60 = .ok (.ireturn, 1) := by decide +kernel
theorem dX11_gap_61 : decode cX11_gap 61 = .ok (.aload_n 0, 1) := by decide +kernel
theorem dX11_gap_62 : decode cX11_gap 62 = .ok (.iload 4, 2) := by decide +kernel
theorem dX11_gap_64 : decode cX11_gap 64 = .ok (.ifCond .ne 10, 3) := by decide +kernel
theorem dX11_gap_67 : decode cX11_gap 67 = .ok (.aload_n 0, 1) := by decide +kernel
theorem dX11_gap_68 : decode cX11_gap 68 = .ok (.getfield 419, 3) := by decide +kernel
theorem dX11_gap_71 : decode cX11_gap 71 = .ok (.goto 7, 3) := by decide +kernel
theorem dX11_gap_74 : decode cX11_gap 74 = .ok (.aload_n 0, 1) := by decide +kernel
theorem dX11_gap_75 : decode cX11_gap 75 = .ok (.getfield 422, 3) := by decide +kernel
theorem dX11_gap_78 : decode cX11_gap 78 = .ok (.invokevirtual 242, 3) := by decide +kernel
theorem dX11_gap_81 : decode cX11_gap 81 = .ok (.ireturn, 1) := by decide +kernel
def fp_X11_gap (v0 : Nat) (v1 : Int32) (v2 : Int32) (v3 : Int32) (v4 : Int32) (M : zM) : Option (Int32 × zM) :=
  zthis 9 M v0 (
    if v1 < 0 then (
      (fp_X11_refuse v0 1 M).bind fun p3 => zpp p3 fun (y1 : Int32) (M2 : zM) =>
      some (y1, M2))
    else (
      (fp_X11_isSet v0 v2 M).bind fun (y4 : Int32) =>
      if y4 = 0 then (
        (fp_X11_refuse v0 1 M).bind fun p7 => zpp p7 fun (y5 : Int32) (M6 : zM) =>
        some (y5, M6))
      else (
        if v3 < 0 then (
          (fp_X11_refuse v0 1 M).bind fun p10 => zpp p10 fun (y8 : Int32) (M9 : zM) =>
          some (y8, M9))
        else (
          (fp_X11_isFrom v4 0 1).bind fun (y11 : Int32) =>
          if y11 ≠ 0 then (
            (fp_X11_wrongModel v0 v1 M).bind fun p14 => zpp p14 fun (y12 : Int32) (M13 : zM) =>
            if y12 > 0 then (
              (fp_X11_refuse v0 6 M13).bind fun p17 => zpp p17 fun (y15 : Int32) (M16 : zM) =>
              some (y15, M16))
            else (
              (zgR 9 M13 v0 34).bind fun (y18 : Nat) =>
              (fp_X11_gaps v0 y18 v2 v3 M13).bind fun p21 => zpp p21 fun (y19 : Int32) (M20 : zM) =>
              if y19 > v3 then (
                if v4 ≠ 0 then (
                  (zgI 9 M20 v0 44).bind fun (y22 : Int32) =>
                  (fp_X11_gives v0 y22 M20).bind fun p25 => zpp p25 fun (y23 : Int32) (M24 : zM) =>
                  some (y23, M24))
                else (
                  (zgI 9 M20 v0 43).bind fun (y26 : Int32) =>
                  (fp_X11_gives v0 y26 M20).bind fun p29 => zpp p29 fun (y27 : Int32) (M28 : zM) =>
                  some (y27, M28)))
              else (
                (fp_X11_refuse v0 6 M20).bind fun p32 => zpp p32 fun (y30 : Int32) (M31 : zM) =>
                some (y30, M31))))
          else (
            (fp_X11_refuse v0 1 M).bind fun p35 => zpp p35 fun (y33 : Int32) (M34 : zM) =>
            some (y33, M34))))))
set_option maxHeartbeats 4000000 in
set_option maxRecDepth 100000 in
theorem th_X11_gap {v0 : Nat} {v1 : Int32} {v2 : Int32} {v3 : Int32} {v4 : Int32} {M : zM} {x0 : Int32 × zM} (h : fp_X11_gap v0 v1 v2 v3 v4 M = some x0) : v0 < zS M ∧ kd v0 = 9 := by
  unfold fp_X11_gap at h
  exact zthis_of h
set_option maxHeartbeats 4000000 in
set_option maxRecDepth 100000 in
theorem ct_X11_gap (E : zEnv) (hE : zEok E) (d : Nat) (hd : 29 ≤ d) (v0 : Nat) (v1 : Int32) (v2 : Int32) (v3 : Int32) (v4 : Int32) (M : zM) (x0 : Int32 × zM) (hx : fp_X11_gap v0 v1 v2 v3 v4 M = some x0) : zCt E mu_X11_gap d [.ref (E.2.2.2.1 + v0), .int v1, .int v2, .int v3, .int v4] M (some (.int x0.1), x0.2) := by
  refine zCt_of (μ := mu_X11_gap) (t := fp_X11_gap v0 v1 v2 v3 v4 M) rfl rfl (Nat.le_of_ble_eq_true rfl) hx ?_
  change zSy E mu_X11_gap d M (some (.int x0.1), x0.2) x0 (fp_X11_gap v0 v1 v2 v3 v4 M) 0 [(0, .ref (E.2.2.2.1 + v0)), (1, .int v1), (2, .int v2), (3, .int v3), (4, .int v4)] [] M
  unfold fp_X11_gap
  refine zs_this (fun hth => ?_)
  refine zs_iload_n dX11_gap_0 rfl 1 rfl ?_
  refine zs_if_lt dX11_gap_1 rfl ?_ ?_
  · refine zs_aload_n dX11_gap_26 rfl 0 rfl ?_
    refine zs_iconst (v := 1) dX11_gap_27 ciconst_1 ?_
    refine zs_invVWI (rest := []) [.int 1] dX11_gap_28 lk_X11_226 rfl (fun _ h => th_X11_refuse h) (zd1 rfl hd) rfl (Nat.le_of_ble_eq_true rfl) (ct_X11_refuse E hE _ (zdl rfl hd) _ _ _) (fun y1 M2 => ?_)
    exact zs_iretW dX11_gap_31 rfl
  refine zs_aload_n dX11_gap_4 rfl 0 rfl ?_
  refine zs_iload_n dX11_gap_5 rfl 2 rfl ?_
  refine zs_invVPI (rest := []) [.int v2] dX11_gap_6 lk_X11_272 rfl (fun _ h => th_X11_isSet h) (zd1 rfl hd) rfl (Nat.le_of_ble_eq_true rfl) (ct_X11_isSet E hE _ (zdl rfl hd) _ _ _) (fun y4 => ?_)
  refine zs_if_eq dX11_gap_9 rfl ?_ ?_
  · refine zs_aload_n dX11_gap_26 rfl 0 rfl ?_
    refine zs_iconst (v := 1) dX11_gap_27 ciconst_1 ?_
    refine zs_invVWI (rest := []) [.int 1] dX11_gap_28 lk_X11_226 rfl (fun _ h => th_X11_refuse h) (zd1 rfl hd) rfl (Nat.le_of_ble_eq_true rfl) (ct_X11_refuse E hE _ (zdl rfl hd) _ _ _) (fun y5 M6 => ?_)
    exact zs_iretW dX11_gap_31 rfl
  refine zs_iload_n dX11_gap_12 rfl 3 rfl ?_
  refine zs_if_lt dX11_gap_13 rfl ?_ ?_
  · refine zs_aload_n dX11_gap_26 rfl 0 rfl ?_
    refine zs_iconst (v := 1) dX11_gap_27 ciconst_1 ?_
    refine zs_invVWI (rest := []) [.int 1] dX11_gap_28 lk_X11_226 rfl (fun _ h => th_X11_refuse h) (zd1 rfl hd) rfl (Nat.le_of_ble_eq_true rfl) (ct_X11_refuse E hE _ (zdl rfl hd) _ _ _) (fun y8 M9 => ?_)
    exact zs_iretW dX11_gap_31 rfl
  refine zs_iload dX11_gap_16 4 rfl ?_
  refine zs_iconst (v := 0) dX11_gap_18 ciconst_0 ?_
  refine zs_iconst (v := 1) dX11_gap_19 ciconst_1 ?_
  refine zs_invSPI (rest := []) [.int v4, .int 0, .int 1] dX11_gap_20 lk_X11_195 rfl (zd1 rfl hd) rfl (Nat.le_of_ble_eq_true rfl) (ct_X11_isFrom E hE _ (zdl rfl hd) _ _ _ _) (fun y11 => ?_)
  refine zs_if_ne dX11_gap_23 rfl ?_ ?_
  · refine zs_aload_n dX11_gap_32 rfl 0 rfl ?_
    refine zs_iload_n dX11_gap_33 rfl 1 rfl ?_
    refine zs_invVWI (rest := []) [.int v1] dX11_gap_34 lk_X11_391 rfl (fun _ h => th_X11_wrongModel h) (zd1 rfl hd) rfl (Nat.le_of_ble_eq_true rfl) (ct_X11_wrongModel E hE _ (zdl rfl hd) _ _ _) (fun y12 M13 => ?_)
    refine zs_if_gt dX11_gap_37 rfl ?_ ?_
    · refine zs_aload_n dX11_gap_54 rfl 0 rfl ?_
      refine zs_bipush (v := 6) dX11_gap_55 cbipush_6 ?_
      refine zs_invVWI (rest := []) [.int 6] dX11_gap_57 lk_X11_226 rfl (fun _ h => th_X11_refuse h) (zd1 rfl hd) rfl (Nat.le_of_ble_eq_true rfl) (ct_X11_refuse E hE _ (zdl rfl hd) _ _ _) (fun y15 M16 => ?_)
      exact zs_iretW dX11_gap_60 rfl
    refine zs_aload_n dX11_gap_40 rfl 0 rfl ?_
    refine zs_aload_n dX11_gap_41 rfl 0 rfl ?_
    refine zs_getR dX11_gap_42 fl_X11_79 rfl (fun y18 => ?_)
    refine zs_iload_n dX11_gap_45 rfl 2 rfl ?_
    refine zs_iload_n dX11_gap_46 rfl 3 rfl ?_
    refine zs_invVWI (rest := []) [.ref (E.2.2.2.1 + y18), .int v2, .int v3] dX11_gap_47 lk_X11_366 rfl (fun _ h => th_X11_gaps h) (zd1 rfl hd) rfl (Nat.le_of_ble_eq_true rfl) (ct_X11_gaps E hE _ (zdl rfl hd) _ _ _ _ _) (fun y19 M20 => ?_)
    refine zs_iload_n dX11_gap_50 rfl 3 rfl ?_
    refine zs_icmp_gt dX11_gap_51 rfl ?_ ?_
    · refine zs_aload_n dX11_gap_61 rfl 0 rfl ?_
      refine zs_iload dX11_gap_62 4 rfl ?_
      refine zs_if_ne dX11_gap_64 rfl ?_ ?_
      · refine zs_aload_n dX11_gap_74 rfl 0 rfl ?_
        refine zs_getI dX11_gap_75 fl_X11_422 rfl (fun y22 => ?_)
        refine zs_invVWI (rest := []) [.int y22] dX11_gap_78 lk_X11_242 rfl (fun _ h => th_X11_gives h) (zd1 rfl hd) rfl (Nat.le_of_ble_eq_true rfl) (ct_X11_gives E hE _ (zdl rfl hd) _ _ _) (fun y23 M24 => ?_)
        exact zs_iretW dX11_gap_81 rfl
      refine zs_aload_n dX11_gap_67 rfl 0 rfl ?_
      refine zs_getI dX11_gap_68 fl_X11_419 rfl (fun y26 => ?_)
      refine zs_goto dX11_gap_71 rfl ?_
      refine zs_invVWI (rest := []) [.int y26] dX11_gap_78 lk_X11_242 rfl (fun _ h => th_X11_gives h) (zd1 rfl hd) rfl (Nat.le_of_ble_eq_true rfl) (ct_X11_gives E hE _ (zdl rfl hd) _ _ _) (fun y27 M28 => ?_)
      exact zs_iretW dX11_gap_81 rfl
    refine zs_aload_n dX11_gap_54 rfl 0 rfl ?_
    refine zs_bipush (v := 6) dX11_gap_55 cbipush_6 ?_
    refine zs_invVWI (rest := []) [.int 6] dX11_gap_57 lk_X11_226 rfl (fun _ h => th_X11_refuse h) (zd1 rfl hd) rfl (Nat.le_of_ble_eq_true rfl) (ct_X11_refuse E hE _ (zdl rfl hd) _ _ _) (fun y30 M31 => ?_)
    exact zs_iretW dX11_gap_60 rfl
  refine zs_aload_n dX11_gap_26 rfl 0 rfl ?_
  refine zs_iconst (v := 1) dX11_gap_27 ciconst_1 ?_
  refine zs_invVWI (rest := []) [.int 1] dX11_gap_28 lk_X11_226 rfl (fun _ h => th_X11_refuse h) (zd1 rfl hd) rfl (Nat.le_of_ble_eq_true rfl) (ct_X11_refuse E hE _ (zdl rfl hd) _ _ _) (fun y33 M34 => ?_)
  exact zs_iretW dX11_gap_31 rfl
theorem dX11_could_0 : decode cX11_could 0 = .ok (.aload_n 0, 1) := by decide +kernel
theorem dX11_could_1 : decode cX11_could 1 = .ok (.iload_n 1, 1) := by decide +kernel
theorem dX11_could_2 : decode cX11_could 2 = .ok (.invokevirtual 272, 3) := by decide +kernel
theorem dX11_could_5 : decode cX11_could 5 = .ok (.ifCond .ne 9, 3) := by decide +kernel
theorem dX11_could_8 : decode cX11_could 8 = .ok (.aload_n 0, 1) := by decide +kernel
theorem dX11_could_9 : decode cX11_could 9 = .ok (.iconst 1, 1) := by decide +kernel
theorem dX11_could_10 : decode cX11_could 10 = .ok (.invokevirtual 226, 3) := by decide +kernel
theorem dX11_could_13 : decode cX11_could 13 = .ok (.ireturn, 1) := by decide +kernel
theorem dX11_could_14 : decode cX11_could 14 = .ok (.aload_n 0, 1) := by decide +kernel
theorem dX11_could_15 : decode cX11_could 15 = .ok (.iconst 2, 1) := by decide +kernel
theorem dX11_could_16 : decode cX11_could 16 = .ok (.putfield 351, 3) := by decide +kernel
theorem dX11_could_19 : decode cX11_could 19 = .ok (.aload_n 0, 1) := by decide +kernel
theorem dX11_could_20 : decode cX11_could 20 = .ok (.iload_n 1, 1) := by decide +kernel
theorem dX11_could_21 : decode cX11_could 21 = .ok (.putfield 345, 3) := by decide +kernel
theorem dX11_could_24 : decode cX11_could 24 = .ok (.aload_n 0, 1) := by decide +kernel
theorem dX11_could_25 : decode cX11_could 25 = .ok (.iconst (-1), 1) := by decide +kernel
theorem dX11_could_26 : decode cX11_could 26 = .ok (.invokevirtual 388, 3) := by decide +kernel
theorem dX11_could_29 : decode cX11_could 29 = .ok (.pop, 1) := by decide +kernel
theorem dX11_could_30 : decode cX11_could 30 = .ok (.aload_n 0, 1) := by decide +kernel
theorem dX11_could_31 : decode cX11_could 31 = .ok (.aload_n 0, 1) := by decide +kernel
theorem dX11_could_32 : decode cX11_could 32 = .ok (.getfield 373, 3) := by decide +kernel
theorem dX11_could_35 : decode cX11_could 35 = .ok (.invokevirtual 242, 3) := by decide +kernel
theorem dX11_could_38 : decode cX11_could 38 = .ok (.ireturn, 1) := by decide +kernel
def fp_X11_could (v0 : Nat) (v1 : Int32) (M : zM) : Option (Int32 × zM) :=
  zthis 9 M v0 (
    (fp_X11_isSet v0 v1 M).bind fun (y1 : Int32) =>
    if y1 ≠ 0 then (
      (zpI 9 M v0 39 2).bind fun (M2 : zM) =>
      (zpI 9 M2 v0 40 v1).bind fun (M3 : zM) =>
      (fp_X11_goes v0 (-1) M3).bind fun p6 => zpp p6 fun (y4 : Int32) (M5 : zM) =>
      (zgI 9 M5 v0 38).bind fun (y7 : Int32) =>
      (fp_X11_gives v0 y7 M5).bind fun p10 => zpp p10 fun (y8 : Int32) (M9 : zM) =>
      some (y8, M9))
    else (
      (fp_X11_refuse v0 1 M).bind fun p13 => zpp p13 fun (y11 : Int32) (M12 : zM) =>
      some (y11, M12)))
set_option maxHeartbeats 4000000 in
set_option maxRecDepth 100000 in
theorem th_X11_could {v0 : Nat} {v1 : Int32} {M : zM} {x0 : Int32 × zM} (h : fp_X11_could v0 v1 M = some x0) : v0 < zS M ∧ kd v0 = 9 := by
  unfold fp_X11_could at h
  exact zthis_of h
set_option maxHeartbeats 4000000 in
set_option maxRecDepth 100000 in
theorem ct_X11_could (E : zEnv) (hE : zEok E) (d : Nat) (hd : 27 ≤ d) (v0 : Nat) (v1 : Int32) (M : zM) (x0 : Int32 × zM) (hx : fp_X11_could v0 v1 M = some x0) : zCt E mu_X11_could d [.ref (E.2.2.2.1 + v0), .int v1] M (some (.int x0.1), x0.2) := by
  refine zCt_of (μ := mu_X11_could) (t := fp_X11_could v0 v1 M) rfl rfl (Nat.le_of_ble_eq_true rfl) hx ?_
  change zSy E mu_X11_could d M (some (.int x0.1), x0.2) x0 (fp_X11_could v0 v1 M) 0 [(0, .ref (E.2.2.2.1 + v0)), (1, .int v1)] [] M
  unfold fp_X11_could
  refine zs_this (fun hth => ?_)
  refine zs_aload_n dX11_could_0 rfl 0 rfl ?_
  refine zs_iload_n dX11_could_1 rfl 1 rfl ?_
  refine zs_invVPI (rest := []) [.int v1] dX11_could_2 lk_X11_272 rfl (fun _ h => th_X11_isSet h) (zd1 rfl hd) rfl (Nat.le_of_ble_eq_true rfl) (ct_X11_isSet E hE _ (zdl rfl hd) _ _ _) (fun y1 => ?_)
  refine zs_if_ne dX11_could_5 rfl ?_ ?_
  · refine zs_aload_n dX11_could_14 rfl 0 rfl ?_
    refine zs_iconst (v := 2) dX11_could_15 ciconst_2 ?_
    refine zs_putI dX11_could_16 fl_X11_351 ft_X11 rfl rfl rfl rfl rfl (fun M2 => ?_)
    refine zs_aload_n dX11_could_19 rfl 0 rfl ?_
    refine zs_iload_n dX11_could_20 rfl 1 rfl ?_
    refine zs_putI dX11_could_21 fl_X11_345 ft_X11 rfl rfl rfl rfl rfl (fun M3 => ?_)
    refine zs_aload_n dX11_could_24 rfl 0 rfl ?_
    refine zs_iconst (v := (-1)) dX11_could_25 ciconst_m1 ?_
    refine zs_invVWI (rest := []) [.int (-1)] dX11_could_26 lk_X11_388 rfl (fun _ h => th_X11_goes h) (zd1 rfl hd) rfl (Nat.le_of_ble_eq_true rfl) (ct_X11_goes E hE _ (zdl rfl hd) _ _ _) (fun y4 M5 => ?_)
    refine zs_pop dX11_could_29 rfl ?_
    refine zs_aload_n dX11_could_30 rfl 0 rfl ?_
    refine zs_aload_n dX11_could_31 rfl 0 rfl ?_
    refine zs_getI dX11_could_32 fl_X11_373 rfl (fun y7 => ?_)
    refine zs_invVWI (rest := []) [.int y7] dX11_could_35 lk_X11_242 rfl (fun _ h => th_X11_gives h) (zd1 rfl hd) rfl (Nat.le_of_ble_eq_true rfl) (ct_X11_gives E hE _ (zdl rfl hd) _ _ _) (fun y8 M9 => ?_)
    exact zs_iretW dX11_could_38 rfl
  refine zs_aload_n dX11_could_8 rfl 0 rfl ?_
  refine zs_iconst (v := 1) dX11_could_9 ciconst_1 ?_
  refine zs_invVWI (rest := []) [.int 1] dX11_could_10 lk_X11_226 rfl (fun _ h => th_X11_refuse h) (zd1 rfl hd) rfl (Nat.le_of_ble_eq_true rfl) (ct_X11_refuse E hE _ (zdl rfl hd) _ _ _) (fun y11 M12 => ?_)
  exact zs_iretW dX11_could_13 rfl
theorem dX11_beside_0 : decode cX11_beside 0 = .ok (.aload_n 0, 1) := by decide +kernel
theorem dX11_beside_1 : decode cX11_beside 1 = .ok (.iload_n 1, 1) := by decide +kernel
theorem dX11_beside_2 : decode cX11_beside 2 = .ok (.iload_n 2, 1) := by decide +kernel
theorem dX11_beside_3 : decode cX11_beside 3 = .ok (.invokevirtual 281, 3) := by decide +kernel
theorem dX11_beside_6 : decode cX11_beside 6 = .ok (.istore_n 3, 1) := by decide +kernel
theorem dX11_beside_7 : decode cX11_beside 7 = .ok (.iload_n 3, 1) := by decide +kernel
theorem dX11_beside_8 : decode cX11_beside 8 = .ok (.ifCond .le 9, 3) := by decide +kernel
theorem dX11_beside_11 : decode cX11_beside 11 = .ok (.aload_n 0, 1) := by decide +kernel
theorem dX11_beside_12 : decode cX11_beside 12 = .ok (.iload_n 3, 1) := by decide +kernel
theorem dX11_beside_13 : decode cX11_beside 13 = .ok (.invokevirtual 226, 3) := by decide +kernel
theorem dX11_beside_16 : decode cX11_beside 16 = .ok (.ireturn, 1) := by decide +kernel
theorem dX11_beside_17 : decode cX11_beside 17 = .ok (.aload_n 0, 1) := by decide +kernel
theorem dX11_beside_18 : decode cX11_beside 18 = .ok (.iconst 1, 1) := by decide +kernel
theorem dX11_beside_19 : decode cX11_beside 19 = .ok (.putfield 351, 3) := by decide +kernel
theorem dX11_beside_22 : decode cX11_beside 22 = .ok (.aload_n 0, 1) := by decide +kernel
theorem dX11_beside_23 : decode cX11_beside 23 = .ok (.iload_n 1, 1) := by decide +kernel
theorem dX11_beside_24 : decode cX11_beside 24 = .ok (.putfield 345, 3) := by decide +kernel
theorem dX11_beside_27 : decode cX11_beside 27 = .ok (.aload_n 0, 1) := by decide +kernel
theorem dX11_beside_28 : decode cX11_beside 28 = .ok (.iload_n 2, 1) := by decide +kernel
theorem dX11_beside_29 : decode cX11_beside 29 = .ok (.putfield 348, 3) := by decide +kernel
theorem dX11_beside_32 : decode cX11_beside 32 = .ok (.aload_n 0, 1) := by decide +kernel
theorem dX11_beside_33 : decode cX11_beside 33 = .ok (.iconst (-1), 1) := by decide +kernel
theorem dX11_beside_34 : decode cX11_beside 34 = .ok (.invokevirtual 388, 3) := by decide +kernel
theorem dX11_beside_37 : decode cX11_beside 37 = .ok (.pop, 1) := by decide +kernel
theorem dX11_beside_38 : decode cX11_beside 38 = .ok (.aload_n 0, 1) := by decide +kernel
theorem dX11_beside_39 : decode cX11_beside 39 = .ok (.aload_n 0, 1) := by decide +kernel
theorem dX11_beside_40 : decode cX11_beside 40 = .ok (.getfield 373, 3) := by decide +kernel
theorem dX11_beside_43 : decode cX11_beside 43 = .ok (.invokevirtual 242, 3) := by decide +kernel
theorem dX11_beside_46 : decode cX11_beside 46 = .ok (.ireturn, 1) := by decide +kernel
def fp_X11_beside (v0 : Nat) (v1 : Int32) (v2 : Int32) (M : zM) : Option (Int32 × zM) :=
  zthis 9 M v0 (
    (fp_X11_wrongTwo v0 v1 v2 M).bind fun (y1 : Int32) =>
    if y1 ≤ 0 then (
      (zpI 9 M v0 39 1).bind fun (M2 : zM) =>
      (zpI 9 M2 v0 40 v1).bind fun (M3 : zM) =>
      (zpI 9 M3 v0 41 v2).bind fun (M4 : zM) =>
      (fp_X11_goes v0 (-1) M4).bind fun p7 => zpp p7 fun (y5 : Int32) (M6 : zM) =>
      (zgI 9 M6 v0 38).bind fun (y8 : Int32) =>
      (fp_X11_gives v0 y8 M6).bind fun p11 => zpp p11 fun (y9 : Int32) (M10 : zM) =>
      some (y9, M10))
    else (
      (fp_X11_refuse v0 y1 M).bind fun p14 => zpp p14 fun (y12 : Int32) (M13 : zM) =>
      some (y12, M13)))
set_option maxHeartbeats 4000000 in
set_option maxRecDepth 100000 in
theorem th_X11_beside {v0 : Nat} {v1 : Int32} {v2 : Int32} {M : zM} {x0 : Int32 × zM} (h : fp_X11_beside v0 v1 v2 M = some x0) : v0 < zS M ∧ kd v0 = 9 := by
  unfold fp_X11_beside at h
  exact zthis_of h
set_option maxHeartbeats 4000000 in
set_option maxRecDepth 100000 in
theorem ct_X11_beside (E : zEnv) (hE : zEok E) (d : Nat) (hd : 27 ≤ d) (v0 : Nat) (v1 : Int32) (v2 : Int32) (M : zM) (x0 : Int32 × zM) (hx : fp_X11_beside v0 v1 v2 M = some x0) : zCt E mu_X11_beside d [.ref (E.2.2.2.1 + v0), .int v1, .int v2] M (some (.int x0.1), x0.2) := by
  refine zCt_of (μ := mu_X11_beside) (t := fp_X11_beside v0 v1 v2 M) rfl rfl (Nat.le_of_ble_eq_true rfl) hx ?_
  change zSy E mu_X11_beside d M (some (.int x0.1), x0.2) x0 (fp_X11_beside v0 v1 v2 M) 0 [(0, .ref (E.2.2.2.1 + v0)), (1, .int v1), (2, .int v2)] [] M
  unfold fp_X11_beside
  refine zs_this (fun hth => ?_)
  refine zs_aload_n dX11_beside_0 rfl 0 rfl ?_
  refine zs_iload_n dX11_beside_1 rfl 1 rfl ?_
  refine zs_iload_n dX11_beside_2 rfl 2 rfl ?_
  refine zs_invVPI (rest := []) [.int v1, .int v2] dX11_beside_3 lk_X11_281 rfl (fun _ h => th_X11_wrongTwo h) (zd1 rfl hd) rfl (Nat.le_of_ble_eq_true rfl) (ct_X11_wrongTwo E hE _ (zdl rfl hd) _ _ _ _) (fun y1 => ?_)
  refine zs_istore_n (loc' := [(0, .ref (E.2.2.2.1 + v0)), (1, .int v1), (2, .int v2), (3, .int y1)]) dX11_beside_6 rfl (Nat.le_of_ble_eq_true rfl) [1, 2, 3, 0] rfl ?_
  refine zs_iload_n dX11_beside_7 rfl 3 rfl ?_
  refine zs_if_le dX11_beside_8 rfl ?_ ?_
  · refine zs_aload_n dX11_beside_17 rfl 0 rfl ?_
    refine zs_iconst (v := 1) dX11_beside_18 ciconst_1 ?_
    refine zs_putI dX11_beside_19 fl_X11_351 ft_X11 rfl rfl rfl rfl rfl (fun M2 => ?_)
    refine zs_aload_n dX11_beside_22 rfl 0 rfl ?_
    refine zs_iload_n dX11_beside_23 rfl 1 rfl ?_
    refine zs_putI dX11_beside_24 fl_X11_345 ft_X11 rfl rfl rfl rfl rfl (fun M3 => ?_)
    refine zs_aload_n dX11_beside_27 rfl 0 rfl ?_
    refine zs_iload_n dX11_beside_28 rfl 2 rfl ?_
    refine zs_putI dX11_beside_29 fl_X11_348 ft_X11 rfl rfl rfl rfl rfl (fun M4 => ?_)
    refine zs_aload_n dX11_beside_32 rfl 0 rfl ?_
    refine zs_iconst (v := (-1)) dX11_beside_33 ciconst_m1 ?_
    refine zs_invVWI (rest := []) [.int (-1)] dX11_beside_34 lk_X11_388 rfl (fun _ h => th_X11_goes h) (zd1 rfl hd) rfl (Nat.le_of_ble_eq_true rfl) (ct_X11_goes E hE _ (zdl rfl hd) _ _ _) (fun y5 M6 => ?_)
    refine zs_pop dX11_beside_37 rfl ?_
    refine zs_aload_n dX11_beside_38 rfl 0 rfl ?_
    refine zs_aload_n dX11_beside_39 rfl 0 rfl ?_
    refine zs_getI dX11_beside_40 fl_X11_373 rfl (fun y8 => ?_)
    refine zs_invVWI (rest := []) [.int y8] dX11_beside_43 lk_X11_242 rfl (fun _ h => th_X11_gives h) (zd1 rfl hd) rfl (Nat.le_of_ble_eq_true rfl) (ct_X11_gives E hE _ (zdl rfl hd) _ _ _) (fun y9 M10 => ?_)
    exact zs_iretW dX11_beside_46 rfl
  refine zs_aload_n dX11_beside_11 rfl 0 rfl ?_
  refine zs_iload_n dX11_beside_12 rfl 3 rfl ?_
  refine zs_invVWI (rest := []) [.int y1] dX11_beside_13 lk_X11_226 rfl (fun _ h => th_X11_refuse h) (zd1 rfl hd) rfl (Nat.le_of_ble_eq_true rfl) (ct_X11_refuse E hE _ (zdl rfl hd) _ _ _) (fun y12 M13 => ?_)
  exact zs_iretW dX11_beside_16 rfl
theorem dX11_turned_0 : decode cX11_turned 0 = .ok (.iload_n 1, 1) := by decide +kernel
theorem dX11_turned_1 : decode cX11_turned 1 = .ok (.ifCond .ge 9, 3) := by decide +kernel
theorem dX11_turned_4 : decode cX11_turned 4 = .ok (.aload_n 0, 1) := by decide +kernel
theorem dX11_turned_5 : decode cX11_turned 5 = .ok (.iconst 1, 1) := by decide +kernel
theorem dX11_turned_6 : decode cX11_turned 6 = .ok (.invokevirtual 226, 3) := by decide +kernel
theorem dX11_turned_9 : decode cX11_turned 9 = .ok (.ireturn, 1) := by decide +kernel
theorem dX11_turned_10 : decode cX11_turned 10 = .ok (.aload_n 0, 1) := by decide +kernel
theorem dX11_turned_11 : decode cX11_turned 11 = .ok (.iload_n 2, 1) := by decide +kernel
theorem dX11_turned_12 : decode cX11_turned 12 = .ok (.invokevirtual 269, 3) := by decide +kernel
theorem dX11_turned_15 : decode cX11_turned 15 = .ok (.ifCond .ne 9, 3) := by decide +kernel
theorem dX11_turned_18 : decode cX11_turned 18 = .ok (.aload_n 0, 1) := by decide +kernel
theorem dX11_turned_19 : decode cX11_turned 19 = .ok (.iconst 2, 1) := by decide +kernel
theorem dX11_turned_20 : decode cX11_turned 20 = .ok (.invokevirtual 226, 3) := by decide +kernel
theorem dX11_turned_23 : decode cX11_turned 23 = .ok (.ireturn, 1) := by decide +kernel
theorem dX11_turned_24 : decode cX11_turned 24 = .ok (.aload_n 0, 1) := by decide +kernel
theorem dX11_turned_25 : decode cX11_turned 25 = .ok (.iload_n 1, 1) := by decide +kernel
theorem dX11_turned_26 : decode cX11_turned 26 = .ok (.invokevirtual 391, 3) := by decide +kernel
theorem dX11_turned_29 : decode cX11_turned 29 = .ok (.ifCond .le 10, 3) := by decide +kernel
theorem dX11_turned_32 : decode cX11_turned 32 = .ok (.aload_n 0, 1) := by decide +kernel
theorem dX11_turned_33 : decode cX11_turned 33 = .ok (.bipush 6, 2) := by decide +kernel
theorem dX11_turned_35 : decode cX11_turned 35 = .ok (.invokevirtual 226, 3) := by decide +kernel
theorem dX11_turned_38 : decode cX11_turned 38 = .ok (.ireturn, 1) := by decide +kernel
theorem dX11_turned_39 : decode cX11_turned 39 = .ok (.iconst 0, 1) := by decide +kernel
theorem dX11_turned_40 : decode cX11_turned 40 = .ok (.istore_n 3, 1) := by decide +kernel
theorem dX11_turned_41 : decode cX11_turned 41 = .ok (.aload_n 0, 1) := by decide +kernel
theorem dX11_turned_42 : decode cX11_turned 42 = .ok (.getfield 79, 3) := by decide +kernel
theorem dX11_turned_45 : decode cX11_turned 45 = .ok (.iload_n 3, 1) := by decide +kernel
theorem dX11_turned_46 : decode cX11_turned 46 = .ok (.iaload, 1) := by decide +kernel
theorem dX11_turned_47 : decode cX11_turned 47 = .ok (.iload_n 2, 1) := by decide +kernel
theorem dX11_turned_48 : decode cX11_turned 48 = .ok (.if_icmp .eq 9, 3) := by decide +kernel
theorem dX11_turned_51 : decode cX11_turned 51 = .ok (.iinc 3 1, 3) := by decide +kernel
theorem dX11_turned_54 : decode cX11_turned 54 = .ok (.goto (-13), 3) := by decide +kernel
theorem dX11_turned_57 : decode cX11_turned 57 = .ok (.iload_n 3, 1) := by decide +kernel
theorem dX11_turned_58 : decode cX11_turned 58 = .ok (.iconst 1, 1) := by decide +kernel
theorem dX11_turned_59 : decode cX11_turned 59 = .ok (.iadd, 1) := by decide +kernel
theorem dX11_turned_60 : decode cX11_turned 60 = .ok (.istore 4, 2) := by decide +kernel
theorem dX11_turned_62 : decode cX11_turned 62 = .ok (.aload_n 0, 1) := by decide +kernel
theorem dX11_turned_63 : decode cX11_turned 63 = .ok (.getfield 79, 3) := by decide +kernel
theorem dX11_turned_66 : decode cX11_turned 66 = .ok (.iload 4, 2) := by decide +kernel
theorem dX11_turned_68 : decode cX11_turned 68 = .ok (.iaload, 1) := by decide +kernel
theorem dX11_turned_69 : decode cX11_turned 69 = .ok (.iload_n 2, 1) := by decide +kernel
theorem dX11_turned_70 : decode cX11_turned 70 = .ok (.if_icmp .eq 9, 3) := by decide +kernel
theorem dX11_turned_73 : decode cX11_turned 73 = .ok (.iinc 4 1, 3) := by decide +kernel
theorem dX11_turned_76 : decode cX11_turned 76 = .ok (.goto (-14), 3) := by decide +kernel
theorem dX11_turned_79 : decode cX11_turned 79 = .ok (.iconst 0, 1) := by decide +kernel
theorem dX11_turned_80 : decode cX11_turned 80 = .ok (.istore 5, 2) := by decide +kernel
theorem dX11_turned_82 : decode cX11_turned 82 = .ok (.iload 5, 2) := by decide +kernel
theorem dX11_turned_84 : decode cX11_turned 84 = .ok (.aload_n 0, 1) := by decide +kernel
theorem dX11_turned_85 : decode cX11_turned 85 = .ok (.invokevirtual 340, 3) := by decide +kernel
theorem dX11_turned_88 : decode cX11_turned 88 = .ok (.if_icmp .ge 46, 3) := by decide +kernel
theorem dX11_turned_91 : decode cX11_turned 91 = .ok (.aload_n 0, 1) := by decide +kernel
theorem dX11_turned_92 : decode cX11_turned 92 = .ok (.getfield 82, 3) := by decide +kernel
theorem dX11_turned_95 : decode cX11_turned 95 = .ok (.iload 5, 2) := by decide +kernel
theorem dX11_turned_97 : decode cX11_turned 97 = .ok (.aload_n 0, 1) := by decide +kernel
theorem dX11_turned_98 : decode cX11_turned 98 = .ok (.getfield 79, 3) := by decide +kernel
theorem dX11_turned_101 : decode cX11_turned 101 = .ok (.iload 5, 2) := by decide +kernel
theorem dX11_turned_103 : decode cX11_turned 103 = .ok (.iload_n 3, 1) := by decide +kernel
theorem dX11_turned_104 : decode cX11_turned 104 = .ok (.if_icmp .le 20, 3) := by decide +kernel
theorem dX11_turned_107 : decode cX11_turned 107 = .ok (.iload 5, 2) := by decide +kernel
theorem dX11_turned_109 : decode cX11_turned 109 = .ok (.iload 4, 2) := by decide +kernel
theorem dX11_turned_111 : decode cX11_turned 111 = .ok (.if_icmp .ge 13, 3) := by decide +kernel
theorem dX11_turned_114 : decode cX11_turned 114 = .ok (.iload_n 3, 1) := by decide +kernel
theorem dX11_turned_115 : decode cX11_turned 115 = .ok (.iload 4, 2) := by decide +kernel
theorem dX11_turned_117 : decode cX11_turned 117 = .ok (.iadd, 1) := by decide +kernel
theorem dX11_turned_118 : decode cX11_turned 118 = .ok (.iload 5, 2) := by decide +kernel
theorem dX11_turned_120 : decode cX11_turned 120 = .ok (.isub, 1) := by decide +kernel
theorem dX11_turned_121 : decode cX11_turned 121 = .ok (.goto 5, 3) := by decide +kernel
theorem dX11_turned_124 : decode cX11_turned 124 = .ok (.iload 5, 2) := by decide +kernel
theorem dX11_turned_126 : decode cX11_turned 126 = .ok (.iaload, 1) := by decide +kernel
theorem dX11_turned_127 : decode cX11_turned 127 = .ok (.iastore, 1) := by decide +kernel
theorem dX11_turned_128 : decode cX11_turned 128 = .ok (.iinc 5 1, 3) := by decide +kernel
theorem dX11_turned_131 : decode cX11_turned 131 = .ok (.goto (-49), 3) := by decide +kernel
theorem dX11_turned_134 : decode cX11_turned 134 = .ok (.aload_n 0, 1) := by decide +kernel
theorem dX11_turned_135 : decode cX11_turned 135 = .ok (.iload_n 2, 1) := by decide +kernel
theorem dX11_turned_136 : decode cX11_turned 136 = .ok (.invokevirtual 118, 3) := by decide +kernel
theorem dX11_turned_139 : decode cX11_turned 139 = .ok (.aload_n 0, 1) := by decide +kernel
theorem dX11_turned_140 : decode cX11_turned 140 = .ok (.invokevirtual 416, 3) := by decide +kernel
theorem dX11_turned_143 : decode cX11_turned 143 = .ok (.istore 5, 2) := by decide +kernel
theorem dX11_turned_145 : decode cX11_turned 145 = .ok (.aload_n 0, 1) := by decide +kernel
theorem dX11_turned_146 : decode cX11_turned 146 = .ok (.iload_n 2, 1) := by decide +kernel
theorem dX11_turned_147 : decode cX11_turned 147 = .ok (.invokevirtual 118, 3) := by decide +kernel
theorem dX11_turned_150 : decode cX11_turned 150 = .ok (.aload_n 0, 1) := by decide +kernel
theorem dX11_turned_151 : decode cX11_turned 151 = .ok (.iload 5, 2) := by decide +kernel
theorem dX11_turned_153 : decode cX11_turned 153 = .ok (.invokevirtual 242, 3) := by decide +kernel
theorem dX11_turned_156 : decode cX11_turned 156 = .ok (.ireturn, 1) := by decide +kernel
def fp_X11_turned_L41 (k57 : Int32 → Option (Int32 × zM)) (v0 : Nat) (v2 : Int32) (M : zM) : Nat → Int32 → Option (Int32 × zM)
  | 0, _ => none
  | n + 1, v3 =>
    (zgR 9 M v0 34).bind fun (y5 : Nat) =>
    (zlI 100 M y5 v3).bind fun (y6 : Int32) =>
    if y6 = v2 then (
      k57 v3)
    else (
      fp_X11_turned_L41 k57 v0 v2 M n (v3 + 1))
def fp_X11_turned_L62 (k79 : Int32 → Option (Int32 × zM)) (v0 : Nat) (v2 : Int32) (v3 : Int32) (M : zM) : Nat → Int32 → Option (Int32 × zM)
  | 0, _ => none
  | n + 1, v4 =>
    (zgR 9 M v0 34).bind fun (y9 : Nat) =>
    (zlI 100 M y9 v4).bind fun (y10 : Int32) =>
    if y10 = v2 then (
      k79 v4)
    else (
      fp_X11_turned_L62 k79 v0 v2 v3 M n (v4 + 1))
def fp_X11_turned_L82 (k134 : zM → Option (Int32 × zM)) (v0 : Nat) (v2 : Int32) (v3 : Int32) (v4 : Int32) : Nat → Int32 → zM → Option (Int32 × zM)
  | 0, _, _ => none
  | n + 1, v5, M =>
    (fp_X11_length v0 M).bind fun (y12 : Int32) =>
    if v5 ≥ y12 then (
      k134 M)
    else (
      (zgR 9 M v0 35).bind fun (y13 : Nat) =>
      (zgR 9 M v0 34).bind fun (y14 : Nat) =>
      zjn (fun (s15 : Int32) (s16 : Nat) (s17 : Int32) (s18 : Nat) =>
          (zlI 100 M s16 s15).bind fun (y19 : Int32) =>
          (ztI M s18 s17 y19).bind fun (M20 : zM) =>
          fp_X11_turned_L82 k134 v0 v2 v3 v4 n (v5 + 1) M20)
        (fun j126 =>
          zjn (fun (s21 : Nat) (s22 : Int32) (s23 : Nat) =>
              j126 v5 s21 s22 s23)
            (fun j124 =>
              if v5 ≤ v3 then (
                j124 y14 v5 y13)
              else (
                if v5 ≥ v4 then (
                  j124 y14 v5 y13)
                else (
                  j126 ((v3 + v4) - v5) y14 v5 y13)))))
def fp_X11_turned (v0 : Nat) (v1 : Int32) (v2 : Int32) (M : zM) : Option (Int32 × zM) :=
  zthis 9 M v0 (
    if v1 ≥ 0 then (
      (fp_X11_isPoint v0 v2 M).bind fun (y1 : Int32) =>
      if y1 ≠ 0 then (
        (fp_X11_wrongModel v0 v1 M).bind fun p4 => zpp p4 fun (y2 : Int32) (M3 : zM) =>
        if y2 ≤ 0 then (
          fp_X11_turned_L41
            (fun v3_7 =>
              lett ((v3_7 + 1)) fun (v4_8 : Int32) =>
              fp_X11_turned_L62
                (fun v4_11 =>
                  fp_X11_turned_L82
                    (fun M24 =>
                      (fp_X11_turns0 v0 v2 M24).bind fun (M25 : zM) =>
                      (fp_X11_modelAsked v0 M25).bind fun p28 => zpp p28 fun (y26 : Int32) (M27 : zM) =>
                      (fp_X11_turns0 v0 v2 M27).bind fun (M29 : zM) =>
                      (fp_X11_gives v0 y26 M29).bind fun p32 => zpp p32 fun (y30 : Int32) (M31 : zM) =>
                      some (y30, M31)) v0 v2 v3_7 v4_11 FU 0 M3) v0 v2 v3_7 M3 FU v4_8) v0 v2 M3 FU 0)
        else (
          (fp_X11_refuse v0 6 M3).bind fun p35 => zpp p35 fun (y33 : Int32) (M34 : zM) =>
          some (y33, M34)))
      else (
        (fp_X11_refuse v0 2 M).bind fun p38 => zpp p38 fun (y36 : Int32) (M37 : zM) =>
        some (y36, M37)))
    else (
      (fp_X11_refuse v0 1 M).bind fun p41 => zpp p41 fun (y39 : Int32) (M40 : zM) =>
      some (y39, M40)))
set_option maxHeartbeats 4000000 in
set_option maxRecDepth 100000 in
theorem th_X11_turned {v0 : Nat} {v1 : Int32} {v2 : Int32} {M : zM} {x0 : Int32 × zM} (h : fp_X11_turned v0 v1 v2 M = some x0) : v0 < zS M ∧ kd v0 = 9 := by
  unfold fp_X11_turned at h
  exact zthis_of h
set_option maxHeartbeats 4000000 in
set_option maxRecDepth 100000 in
theorem w_X11_turned_L41 (E : zEnv) (hE : zEok E) (d : Nat) (hd : 29 ≤ d) (M0 : zM) (x0 : Int32 × zM) (v0 : Nat) (v2 : Int32) (M : zM) (k57 : Int32 → Option (Int32 × zM)) (hk57 : ∀ (v3 : Int32), zSy E mu_X11_turned d M0 (some (.int x0.1), x0.2) x0 (k57 v3) 57 [(0, .ref (E.2.2.2.1 + v0)), (2, .int v2), (3, .int v3)] [] M) : ∀ (n : Nat) (v3 : Int32), zSy E mu_X11_turned d M0 (some (.int x0.1), x0.2) x0 (fp_X11_turned_L41 k57 v0 v2 M n v3) 41 [(0, .ref (E.2.2.2.1 + v0)), (2, .int v2), (3, .int v3)] [] M := by
  intro n
  induction n with
  | zero =>
    intro v3
    rw [fp_X11_turned_L41]
    exact zs_none
  | succ n ih =>
    intro v3
    rw [fp_X11_turned_L41]
    refine zs_aload_n dX11_turned_41 rfl 0 rfl ?_
    refine zs_getR dX11_turned_42 fl_X11_79 rfl (fun y5 => ?_)
    refine zs_iload_n dX11_turned_45 rfl 2 rfl ?_
    refine zs_ldI dX11_turned_46 (fun y6 => ?_)
    refine zs_iload_n dX11_turned_47 rfl 1 rfl ?_
    refine zs_icmp_eq dX11_turned_48 rfl ?_ ?_
    · exact hk57 v3
    refine zs_iinc (v := (v3 + 1)) (loc' := [(0, .ref (E.2.2.2.1 + v0)), (2, .int v2), (3, .int (v3 + 1))]) dX11_turned_51 2 rfl (by rfl) (Nat.le_of_ble_eq_true rfl) [1, 2, 0] rfl ?_
    refine zs_goto dX11_turned_54 rfl ?_
    exact ih (v3 + 1)
set_option maxHeartbeats 4000000 in
set_option maxRecDepth 100000 in
theorem w_X11_turned_L62 (E : zEnv) (hE : zEok E) (d : Nat) (hd : 29 ≤ d) (M0 : zM) (x0 : Int32 × zM) (v0 : Nat) (v2 : Int32) (v3 : Int32) (M : zM) (k79 : Int32 → Option (Int32 × zM)) (hk79 : ∀ (v4 : Int32), zSy E mu_X11_turned d M0 (some (.int x0.1), x0.2) x0 (k79 v4) 79 [(0, .ref (E.2.2.2.1 + v0)), (2, .int v2), (3, .int v3), (4, .int v4)] [] M) : ∀ (n : Nat) (v4 : Int32), zSy E mu_X11_turned d M0 (some (.int x0.1), x0.2) x0 (fp_X11_turned_L62 k79 v0 v2 v3 M n v4) 62 [(0, .ref (E.2.2.2.1 + v0)), (2, .int v2), (3, .int v3), (4, .int v4)] [] M := by
  intro n
  induction n with
  | zero =>
    intro v4
    rw [fp_X11_turned_L62]
    exact zs_none
  | succ n ih =>
    intro v4
    rw [fp_X11_turned_L62]
    refine zs_aload_n dX11_turned_62 rfl 0 rfl ?_
    refine zs_getR dX11_turned_63 fl_X11_79 rfl (fun y9 => ?_)
    refine zs_iload dX11_turned_66 3 rfl ?_
    refine zs_ldI dX11_turned_68 (fun y10 => ?_)
    refine zs_iload_n dX11_turned_69 rfl 1 rfl ?_
    refine zs_icmp_eq dX11_turned_70 rfl ?_ ?_
    · exact hk79 v4
    refine zs_iinc (v := (v4 + 1)) (loc' := [(0, .ref (E.2.2.2.1 + v0)), (2, .int v2), (3, .int v3), (4, .int (v4 + 1))]) dX11_turned_73 3 rfl (by rfl) (Nat.le_of_ble_eq_true rfl) [1, 2, 3, 0] rfl ?_
    refine zs_goto dX11_turned_76 rfl ?_
    exact ih (v4 + 1)
set_option maxHeartbeats 4000000 in
set_option maxRecDepth 100000 in
theorem w_X11_turned_L82 (E : zEnv) (hE : zEok E) (d : Nat) (hd : 29 ≤ d) (M0 : zM) (x0 : Int32 × zM) (v0 : Nat) (v2 : Int32) (v3 : Int32) (v4 : Int32) (k134 : zM → Option (Int32 × zM)) (hk134 : ∀ (M : zM), zSy E mu_X11_turned d M0 (some (.int x0.1), x0.2) x0 (k134 M) 134 [(0, .ref (E.2.2.2.1 + v0)), (2, .int v2)] [] M) : ∀ (n : Nat) (v5 : Int32) (M : zM), zSy E mu_X11_turned d M0 (some (.int x0.1), x0.2) x0 (fp_X11_turned_L82 k134 v0 v2 v3 v4 n v5 M) 82 [(0, .ref (E.2.2.2.1 + v0)), (2, .int v2), (3, .int v3), (4, .int v4), (5, .int v5)] [] M := by
  intro n
  induction n with
  | zero =>
    intro v5 M
    rw [fp_X11_turned_L82]
    exact zs_none
  | succ n ih =>
    intro v5 M
    rw [fp_X11_turned_L82]
    refine zs_iload dX11_turned_82 4 rfl ?_
    refine zs_aload_n dX11_turned_84 rfl 0 rfl ?_
    refine zs_invVPI (rest := [.int v5]) [] dX11_turned_85 lk_X11_340 rfl (fun _ h => th_X11_length h) (zd1 rfl hd) rfl (Nat.le_of_ble_eq_true rfl) (ct_X11_length E hE _ (zdl rfl hd) _ _) (fun y12 => ?_)
    refine zs_icmp_ge dX11_turned_88 rfl ?_ ?_
    · refine zs_sub (loc' := [(0, .ref (E.2.2.2.1 + v0)), (2, .int v2)]) [0, 1] rfl ?_
      exact hk134 M
    refine zs_aload_n dX11_turned_91 rfl 0 rfl ?_
    refine zs_getR dX11_turned_92 fl_X11_82 rfl (fun y13 => ?_)
    refine zs_iload dX11_turned_95 4 rfl ?_
    refine zs_aload_n dX11_turned_97 rfl 0 rfl ?_
    refine zs_getR dX11_turned_98 fl_X11_79 rfl (fun y14 => ?_)
    refine zs_iload dX11_turned_101 4 rfl ?_
    refine zs_iload_n dX11_turned_103 rfl 2 rfl ?_
    refine zs_jn (fun j126 => ∀ (s15 : Int32) (s16 : Nat) (s17 : Int32) (s18 : Nat), zSy E mu_X11_turned d M0 (some (.int x0.1), x0.2) x0 (j126 s15 s16 s17 s18) 126 [(0, .ref (E.2.2.2.1 + v0)), (2, .int v2), (3, .int v3), (4, .int v4), (5, .int v5)] [.int s15, .ref (E.2.2.2.1 + s16), .int s17, .ref (E.2.2.2.1 + s18)] M) (fun s15 s16 s17 s18 => ?_) (fun j126 hj126 => ?_)
    · refine zs_ldI dX11_turned_126 (fun y19 => ?_)
      refine zs_stI dX11_turned_127 (fun M20 => ?_)
      refine zs_iinc (v := (v5 + 1)) (loc' := [(0, .ref (E.2.2.2.1 + v0)), (2, .int v2), (3, .int v3), (4, .int v4), (5, .int (v5 + 1))]) dX11_turned_128 4 rfl (by rfl) (Nat.le_of_ble_eq_true rfl) [1, 2, 3, 4, 0] rfl ?_
      refine zs_goto dX11_turned_131 rfl ?_
      exact ih (v5 + 1) M20
    refine zs_jn (fun j124 => ∀ (s21 : Nat) (s22 : Int32) (s23 : Nat), zSy E mu_X11_turned d M0 (some (.int x0.1), x0.2) x0 (j124 s21 s22 s23) 124 [(0, .ref (E.2.2.2.1 + v0)), (2, .int v2), (3, .int v3), (4, .int v4), (5, .int v5)] [.ref (E.2.2.2.1 + s21), .int s22, .ref (E.2.2.2.1 + s23)] M) (fun s21 s22 s23 => ?_) (fun j124 hj124 => ?_)
    · refine zs_iload dX11_turned_124 4 rfl ?_
      exact hj126 v5 s21 s22 s23
    refine zs_icmp_le dX11_turned_104 rfl ?_ ?_
    · exact hj124 y14 v5 y13
    refine zs_iload dX11_turned_107 4 rfl ?_
    refine zs_iload dX11_turned_109 3 rfl ?_
    refine zs_icmp_ge dX11_turned_111 rfl ?_ ?_
    · exact hj124 y14 v5 y13
    refine zs_iload_n dX11_turned_114 rfl 2 rfl ?_
    refine zs_iload dX11_turned_115 3 rfl ?_
    refine zs_iadd dX11_turned_117 ?_
    refine zs_iload dX11_turned_118 4 rfl ?_
    refine zs_isub dX11_turned_120 ?_
    refine zs_goto dX11_turned_121 rfl ?_
    exact hj126 ((v3 + v4) - v5) y14 v5 y13
set_option maxHeartbeats 4000000 in
set_option maxRecDepth 100000 in
theorem ct_X11_turned (E : zEnv) (hE : zEok E) (d : Nat) (hd : 29 ≤ d) (v0 : Nat) (v1 : Int32) (v2 : Int32) (M : zM) (x0 : Int32 × zM) (hx : fp_X11_turned v0 v1 v2 M = some x0) : zCt E mu_X11_turned d [.ref (E.2.2.2.1 + v0), .int v1, .int v2] M (some (.int x0.1), x0.2) := by
  refine zCt_of (μ := mu_X11_turned) (t := fp_X11_turned v0 v1 v2 M) rfl rfl (Nat.le_of_ble_eq_true rfl) hx ?_
  change zSy E mu_X11_turned d M (some (.int x0.1), x0.2) x0 (fp_X11_turned v0 v1 v2 M) 0 [(0, .ref (E.2.2.2.1 + v0)), (1, .int v1), (2, .int v2)] [] M
  unfold fp_X11_turned
  refine zs_this (fun hth => ?_)
  refine zs_iload_n dX11_turned_0 rfl 1 rfl ?_
  refine zs_if_ge dX11_turned_1 rfl ?_ ?_
  · refine zs_aload_n dX11_turned_10 rfl 0 rfl ?_
    refine zs_iload_n dX11_turned_11 rfl 2 rfl ?_
    refine zs_invVPI (rest := []) [.int v2] dX11_turned_12 lk_X11_269 rfl (fun _ h => th_X11_isPoint h) (zd1 rfl hd) rfl (Nat.le_of_ble_eq_true rfl) (ct_X11_isPoint E hE _ (zdl rfl hd) _ _ _) (fun y1 => ?_)
    refine zs_if_ne dX11_turned_15 rfl ?_ ?_
    · refine zs_aload_n dX11_turned_24 rfl 0 rfl ?_
      refine zs_iload_n dX11_turned_25 rfl 1 rfl ?_
      refine zs_invVWI (rest := []) [.int v1] dX11_turned_26 lk_X11_391 rfl (fun _ h => th_X11_wrongModel h) (zd1 rfl hd) rfl (Nat.le_of_ble_eq_true rfl) (ct_X11_wrongModel E hE _ (zdl rfl hd) _ _ _) (fun y2 M3 => ?_)
      refine zs_if_le dX11_turned_29 rfl ?_ ?_
      · refine zs_iconst (v := 0) dX11_turned_39 ciconst_0 ?_
        refine zs_istore_n (loc' := [(0, .ref (E.2.2.2.1 + v0)), (2, .int v2), (3, .int 0)]) dX11_turned_40 rfl (Nat.le_of_ble_eq_true rfl) [1, 3, 0] rfl ?_
        refine w_X11_turned_L41 E hE d hd _ _ _ _ _ _ (fun v3_7 => ?_) _ _
        refine zs_iload_n dX11_turned_57 rfl 2 rfl ?_
        refine zs_iconst (v := 1) dX11_turned_58 ciconst_1 ?_
        refine zs_iadd dX11_turned_59 ?_
        refine zs_istoreL (loc' := fun v4_8 => [(0, .ref (E.2.2.2.1 + v0)), (2, .int v2), (3, .int v3_7), (4, .int v4_8)]) dX11_turned_60 (Nat.le_of_ble_eq_true rfl) [1, 2, 3, 0] (fun _ => rfl) (fun v4_8 => ?_)
        refine w_X11_turned_L62 E hE d hd _ _ _ _ _ _ _ (fun v4_11 => ?_) _ _
        refine zs_iconst (v := 0) dX11_turned_79 ciconst_0 ?_
        refine zs_istore (loc' := [(0, .ref (E.2.2.2.1 + v0)), (2, .int v2), (3, .int v3_7), (4, .int v4_11), (5, .int 0)]) dX11_turned_80 (Nat.le_of_ble_eq_true rfl) [1, 2, 3, 4, 0] rfl ?_
        refine w_X11_turned_L82 E hE d hd _ _ _ _ _ _ _ (fun M24 => ?_) _ _ _
        refine zs_aload_n dX11_turned_134 rfl 0 rfl ?_
        refine zs_iload_n dX11_turned_135 rfl 1 rfl ?_
        refine zs_invVWV (rest := []) [.int v2] dX11_turned_136 lk_X11_118 rfl (fun _ h => th_X11_turns0 h) (zd1 rfl hd) rfl (Nat.le_of_ble_eq_true rfl) (ct_X11_turns0 E hE _ (zdl rfl hd) _ _ _) (fun M25 => ?_)
        refine zs_aload_n dX11_turned_139 rfl 0 rfl ?_
        refine zs_invVWI (rest := []) [] dX11_turned_140 lk_X11_416 rfl (fun _ h => th_X11_modelAsked h) (zd1 rfl hd) rfl (Nat.le_of_ble_eq_true rfl) (ct_X11_modelAsked E hE _ (zdl rfl hd) _ _) (fun y26 M27 => ?_)
        refine zs_istore (loc' := [(0, .ref (E.2.2.2.1 + v0)), (2, .int v2), (5, .int y26)]) dX11_turned_143 (Nat.le_of_ble_eq_true rfl) [1, 2, 0] rfl ?_
        refine zs_aload_n dX11_turned_145 rfl 0 rfl ?_
        refine zs_iload_n dX11_turned_146 rfl 1 rfl ?_
        refine zs_invVWV (rest := []) [.int v2] dX11_turned_147 lk_X11_118 rfl (fun _ h => th_X11_turns0 h) (zd1 rfl hd) rfl (Nat.le_of_ble_eq_true rfl) (ct_X11_turns0 E hE _ (zdl rfl hd) _ _ _) (fun M29 => ?_)
        refine zs_aload_n dX11_turned_150 rfl 0 rfl ?_
        refine zs_iload dX11_turned_151 2 rfl ?_
        refine zs_invVWI (rest := []) [.int y26] dX11_turned_153 lk_X11_242 rfl (fun _ h => th_X11_gives h) (zd1 rfl hd) rfl (Nat.le_of_ble_eq_true rfl) (ct_X11_gives E hE _ (zdl rfl hd) _ _ _) (fun y30 M31 => ?_)
        exact zs_iretW dX11_turned_156 rfl
      refine zs_aload_n dX11_turned_32 rfl 0 rfl ?_
      refine zs_bipush (v := 6) dX11_turned_33 cbipush_6 ?_
      refine zs_invVWI (rest := []) [.int 6] dX11_turned_35 lk_X11_226 rfl (fun _ h => th_X11_refuse h) (zd1 rfl hd) rfl (Nat.le_of_ble_eq_true rfl) (ct_X11_refuse E hE _ (zdl rfl hd) _ _ _) (fun y33 M34 => ?_)
      exact zs_iretW dX11_turned_38 rfl
    refine zs_aload_n dX11_turned_18 rfl 0 rfl ?_
    refine zs_iconst (v := 2) dX11_turned_19 ciconst_2 ?_
    refine zs_invVWI (rest := []) [.int 2] dX11_turned_20 lk_X11_226 rfl (fun _ h => th_X11_refuse h) (zd1 rfl hd) rfl (Nat.le_of_ble_eq_true rfl) (ct_X11_refuse E hE _ (zdl rfl hd) _ _ _) (fun y36 M37 => ?_)
    exact zs_iretW dX11_turned_23 rfl
  refine zs_aload_n dX11_turned_4 rfl 0 rfl ?_
  refine zs_iconst (v := 1) dX11_turned_5 ciconst_1 ?_
  refine zs_invVWI (rest := []) [.int 1] dX11_turned_6 lk_X11_226 rfl (fun _ h => th_X11_refuse h) (zd1 rfl hd) rfl (Nat.le_of_ble_eq_true rfl) (ct_X11_refuse E hE _ (zdl rfl hd) _ _ _) (fun y39 M40 => ?_)
  exact zs_iretW dX11_turned_9 rfl
theorem dX11_hasModel_0 : decode cX11_hasModel 0 = .ok (.aload_n 0, 1) := by decide +kernel
theorem dX11_hasModel_1 : decode cX11_hasModel 1 = .ok (.aload_n 0, 1) := by decide +kernel
theorem dX11_hasModel_2 : decode cX11_hasModel 2 = .ok (.getfield 85, 3) := by decide +kernel
theorem dX11_hasModel_5 : decode cX11_hasModel 5 = .ok (.iconst 0, 1) := by decide +kernel
theorem dX11_hasModel_6 : decode cX11_hasModel 6 = .ok (.invokevirtual 229, 3) := by decide +kernel
theorem dX11_hasModel_9 : decode cX11_hasModel 9 = .ok (.aload_n 0, 1) := by decide +kernel
theorem dX11_hasModel_10 : decode cX11_hasModel 10 = .ok (.getfield 101, 3) := by decide +kernel
theorem dX11_hasModel_13 : decode cX11_hasModel 13 = .ok (.iconst 1, 1) := by decide +kernel
theorem dX11_hasModel_14 : decode cX11_hasModel 14 = .ok (.isub, 1) := by decide +kernel
theorem dX11_hasModel_15 : decode cX11_hasModel 15 = .ok (.istore_n 2, 1) := by decide +kernel
theorem dX11_hasModel_16 : decode cX11_hasModel 16 = .ok (.iload_n 2, 1) := by decide +kernel
theorem dX11_hasModel_17 : decode cX11_hasModel 17 = .ok (.ifCond .lt 73, 3) := by decide +kernel
theorem dX11_hasModel_20 : decode cX11_hasModel 20 = .ok (.iload_n 1, 1) := by decide +kernel
theorem dX11_hasModel_21 : decode cX11_hasModel 21 = .ok (.iload_n 2, 1) := by decide +kernel
theorem dX11_hasModel_22 : decode cX11_hasModel 22 = .ok (.invokestatic 97, 3) := by decide +kernel
theorem dX11_hasModel_25 : decode cX11_hasModel 25 = .ok (.ifCond .eq 6, 3) := by decide +kernel
theorem dX11_hasModel_28 : decode cX11_hasModel 28 = .ok (.goto 56, 3) := by decide +kernel
theorem dX11_hasModel_31 : decode cX11_hasModel 31 = .ok (.iconst 0, 1) := by decide +kernel
theorem dX11_hasModel_32 : decode cX11_hasModel 32 = .ok (.istore_n 3, 1) := by decide +kernel
theorem dX11_hasModel_33 : decode cX11_hasModel 33 = .ok (.iload_n 3, 1) := by decide +kernel
theorem dX11_hasModel_34 : decode cX11_hasModel 34 = .ok (.aload_n 0, 1) := by decide +kernel
theorem dX11_hasModel_35 : decode cX11_hasModel 35 = .ok (.getfield 101, 3) := by decide +kernel
theorem dX11_hasModel_38 : decode cX11_hasModel 38 = .ok (.if_icmp .ge 36, 3) := by decide +kernel
theorem dX11_hasModel_41 : decode cX11_hasModel 41 = .ok (.aload_n 0, 1) := by decide +kernel
theorem dX11_hasModel_42 : decode cX11_hasModel 42 = .ok (.getfield 7, 3) := by decide +kernel
theorem dX11_hasModel_45 : decode cX11_hasModel 45 = .ok (.iload_n 3, 1) := by decide +kernel
theorem dX11_hasModel_46 : decode cX11_hasModel 46 = .ok (.iload_n 2, 1) := by decide +kernel
theorem dX11_hasModel_47 : decode cX11_hasModel 47 = .ok (.if_icmp .le 9, 3) := by decide +kernel
theorem dX11_hasModel_50 : decode cX11_hasModel 50 = .ok (.iload_n 3, 1) := by decide +kernel
theorem dX11_hasModel_51 : decode cX11_hasModel 51 = .ok (.iconst 1, 1) := by decide +kernel
theorem dX11_hasModel_52 : decode cX11_hasModel 52 = .ok (.isub, 1) := by decide +kernel
theorem dX11_hasModel_53 : decode cX11_hasModel 53 = .ok (.goto 4, 3) := by decide +kernel
theorem dX11_hasModel_56 : decode cX11_hasModel 56 = .ok (.iload_n 3, 1) := by decide +kernel
theorem dX11_hasModel_57 : decode cX11_hasModel 57 = .ok (.aload_n 0, 1) := by decide +kernel
theorem dX11_hasModel_58 : decode cX11_hasModel 58 = .ok (.getfield 7, 3) := by decide +kernel
theorem dX11_hasModel_61 : decode cX11_hasModel 61 = .ok (.iload_n 3, 1) := by decide +kernel
theorem dX11_hasModel_62 : decode cX11_hasModel 62 = .ok (.iaload, 1) := by decide +kernel
theorem dX11_hasModel_63 : decode cX11_hasModel 63 = .ok (.iload_n 2, 1) := by decide +kernel
theorem dX11_hasModel_64 : decode cX11_hasModel 64 = .ok (.invokestatic 278, 3) := by decide +kernel
theorem dX11_hasModel_67 : decode cX11_hasModel 67 = .ok (.iastore, 1) := by decide +kernel
theorem dX11_hasModel_68 : decode cX11_hasModel 68 = .ok (.iinc 3 1, 3) := by decide +kernel
theorem dX11_hasModel_71 : decode cX11_hasModel 71 = .ok (.goto (-38), 3) := by decide +kernel
theorem dX11_hasModel_74 : decode cX11_hasModel 74 = .ok (.aload_n 0, 1) := by decide +kernel
theorem dX11_hasModel_75 : decode cX11_hasModel 75 = .ok (.dup, 1) := by decide +kernel
theorem dX11_hasModel_76 : decode cX11_hasModel 76 = .ok (.getfield 101, 3) := by decide +kernel
theorem dX11_hasModel_79 : decode cX11_hasModel 79 = .ok (.iconst 1, 1) := by decide +kernel
theorem dX11_hasModel_80 : decode cX11_hasModel 80 = .ok (.isub, 1) := by decide +kernel
theorem dX11_hasModel_81 : decode cX11_hasModel 81 = .ok (.putfield 101, 3) := by decide +kernel
theorem dX11_hasModel_84 : decode cX11_hasModel 84 = .ok (.iinc 2 (-1), 3) := by decide +kernel
theorem dX11_hasModel_87 : decode cX11_hasModel 87 = .ok (.goto (-71), 3) := by decide +kernel
theorem dX11_hasModel_90 : decode cX11_hasModel 90 = .ok (.aload_n 0, 1) := by decide +kernel
theorem dX11_hasModel_91 : decode cX11_hasModel 91 = .ok (.iconst 4, 1) := by decide +kernel
theorem dX11_hasModel_92 : decode cX11_hasModel 92 = .ok (.putfield 351, 3) := by decide +kernel
theorem dX11_hasModel_95 : decode cX11_hasModel 95 = .ok (.aload_n 0, 1) := by decide +kernel
theorem dX11_hasModel_96 : decode cX11_hasModel 96 = .ok (.iconst (-1), 1) := by decide +kernel
theorem dX11_hasModel_97 : decode cX11_hasModel 97 = .ok (.invokevirtual 388, 3) := by decide +kernel
theorem dX11_hasModel_100 : decode cX11_hasModel 100 = .ok (.ifCond .le 7, 3) := by decide +kernel
theorem dX11_hasModel_103 : decode cX11_hasModel 103 = .ok (.iconst 1, 1) := by decide +kernel
theorem dX11_hasModel_104 : decode cX11_hasModel 104 = .ok (.goto 4, 3) := by decide +kernel
theorem dX11_hasModel_107 : decode cX11_hasModel 107 = .ok (.iconst 0, 1) := by decide +kernel
theorem dX11_hasModel_108 : decode cX11_hasModel 108 = .ok (.istore_n 2, 1) := by decide +kernel
theorem dX11_hasModel_109 : decode cX11_hasModel 109 = .ok (.aload_n 0, 1) := by decide +kernel
theorem dX11_hasModel_110 : decode cX11_hasModel 110 = .ok (.aload_n 0, 1) := by decide +kernel
theorem dX11_hasModel_111 : decode cX11_hasModel 111 = .ok (.getfield 85, 3) := by decide +kernel
theorem dX11_hasModel_114 : decode cX11_hasModel 114 = .ok (.iconst 0, 1) := by decide +kernel
theorem dX11_hasModel_115 : decode cX11_hasModel 115 = .ok (.invokevirtual 236, 3) := by decide +kernel
theorem dX11_hasModel_118 : decode cX11_hasModel 118 = .ok (.iload_n 2, 1) := by decide +kernel
theorem dX11_hasModel_119 : decode cX11_hasModel 119 = .ok (.ireturn, 1) := by decide +kernel
def fp_X11_hasModel_L33 (k74 : zM → Option (Int32 × zM)) (v0 : Nat) (v1 : Int32) (v2 : Int32) : Nat → Int32 → zM → Option (Int32 × zM)
  | 0, _, _ => none
  | n + 1, v3, M =>
    (zgI 9 M v0 0).bind fun (y7 : Int32) =>
    if v3 ≥ y7 then (
      k74 M)
    else (
      (zgR 9 M v0 2).bind fun (y8 : Nat) =>
      zjn (fun (s9 : Int32) (s10 : Nat) =>
          (zgR 9 M v0 2).bind fun (y11 : Nat) =>
          (zlI 100 M y11 v3).bind fun (y12 : Int32) =>
          (fp_X11_without y12 v2).bind fun (y13 : Int32) =>
          (ztI M s10 s9 y13).bind fun (M14 : zM) =>
          fp_X11_hasModel_L33 k74 v0 v1 v2 n (v3 + 1) M14)
        (fun j57 =>
          if v3 ≤ v2 then (
            j57 v3 y8)
          else (
            j57 (v3 - 1) y8)))
def fp_X11_hasModel_L16 (k90 : zM → Option (Int32 × zM)) (v0 : Nat) (v1 : Int32) : Nat → Int32 → zM → Option (Int32 × zM)
  | 0, _, _ => none
  | n + 1, v2, M =>
    if v2 < 0 then (
      k90 M)
    else (
      (fp_X11_has v1 v2).bind fun (y5 : Int32) =>
      zjn (fun (M6 : zM) =>
          fp_X11_hasModel_L16 k90 v0 v1 n (v2 + (-1)) M6)
        (fun j84 =>
          if y5 = 0 then (
            fp_X11_hasModel_L33
              (fun M15 =>
                (zgI 9 M15 v0 0).bind fun (y16 : Int32) =>
                (zpI 9 M15 v0 0 (y16 - 1)).bind fun (M17 : zM) =>
                j84 M17) v0 v1 v2 FU 0 M)
          else (
            j84 M)))
def fp_X11_hasModel (v0 : Nat) (v1 : Int32) (M : zM) : Option (Int32 × zM) :=
  zthis 9 M v0 (
    (zgR 9 M v0 45).bind fun (y1 : Nat) =>
    (fp_X11_puts v0 y1 0 M).bind fun (M2 : zM) =>
    (zgI 9 M2 v0 0).bind fun (y3 : Int32) =>
    lett ((y3 - 1)) fun (v2_4 : Int32) =>
    fp_X11_hasModel_L16
      (fun M18 =>
        (zpI 9 M18 v0 39 4).bind fun (M19 : zM) =>
        (fp_X11_goes v0 (-1) M19).bind fun p22 => zpp p22 fun (y20 : Int32) (M21 : zM) =>
        zjn (fun (s23 : Int32) =>
            (zgR 9 M21 v0 45).bind fun (y24 : Nat) =>
            (fp_X11_brings v0 y24 0 M21).bind fun (M25 : zM) =>
            (zb s23).bind fun (r : Int32) => some (r, M25))
          (fun j108 =>
            if y20 ≤ 0 then (
              j108 0)
            else (
              j108 1))) v0 v1 FU v2_4 M2)
set_option maxHeartbeats 4000000 in
set_option maxRecDepth 100000 in
theorem th_X11_hasModel {v0 : Nat} {v1 : Int32} {M : zM} {x0 : Int32 × zM} (h : fp_X11_hasModel v0 v1 M = some x0) : v0 < zS M ∧ kd v0 = 9 := by
  unfold fp_X11_hasModel at h
  exact zthis_of h
set_option maxHeartbeats 4000000 in
set_option maxRecDepth 100000 in
theorem w_X11_hasModel_L33 (E : zEnv) (hE : zEok E) (d : Nat) (hd : 27 ≤ d) (M0 : zM) (x0 : Int32 × zM) (v0 : Nat) (v1 : Int32) (v2 : Int32) (k74 : zM → Option (Int32 × zM)) (hk74 : ∀ (M : zM), zSy E mu_X11_hasModel d M0 (some (.int x0.1), x0.2) x0 (k74 M) 74 [(0, .ref (E.2.2.2.1 + v0)), (1, .int v1), (2, .int v2)] [] M) : ∀ (n : Nat) (v3 : Int32) (M : zM), zSy E mu_X11_hasModel d M0 (some (.int x0.1), x0.2) x0 (fp_X11_hasModel_L33 k74 v0 v1 v2 n v3 M) 33 [(0, .ref (E.2.2.2.1 + v0)), (1, .int v1), (2, .int v2), (3, .int v3)] [] M := by
  intro n
  induction n with
  | zero =>
    intro v3 M
    rw [fp_X11_hasModel_L33]
    exact zs_none
  | succ n ih =>
    intro v3 M
    rw [fp_X11_hasModel_L33]
    refine zs_iload_n dX11_hasModel_33 rfl 3 rfl ?_
    refine zs_aload_n dX11_hasModel_34 rfl 0 rfl ?_
    refine zs_getI dX11_hasModel_35 fl_X11_101 rfl (fun y7 => ?_)
    refine zs_icmp_ge dX11_hasModel_38 rfl ?_ ?_
    · refine zs_sub (loc' := [(0, .ref (E.2.2.2.1 + v0)), (1, .int v1), (2, .int v2)]) [0, 1, 2] rfl ?_
      exact hk74 M
    refine zs_aload_n dX11_hasModel_41 rfl 0 rfl ?_
    refine zs_getR dX11_hasModel_42 fl_X11_7 rfl (fun y8 => ?_)
    refine zs_iload_n dX11_hasModel_45 rfl 3 rfl ?_
    refine zs_iload_n dX11_hasModel_46 rfl 2 rfl ?_
    refine zs_jn (fun j57 => ∀ (s9 : Int32) (s10 : Nat), zSy E mu_X11_hasModel d M0 (some (.int x0.1), x0.2) x0 (j57 s9 s10) 57 [(0, .ref (E.2.2.2.1 + v0)), (1, .int v1), (2, .int v2), (3, .int v3)] [.int s9, .ref (E.2.2.2.1 + s10)] M) (fun s9 s10 => ?_) (fun j57 hj57 => ?_)
    · refine zs_aload_n dX11_hasModel_57 rfl 0 rfl ?_
      refine zs_getR dX11_hasModel_58 fl_X11_7 rfl (fun y11 => ?_)
      refine zs_iload_n dX11_hasModel_61 rfl 3 rfl ?_
      refine zs_ldI dX11_hasModel_62 (fun y12 => ?_)
      refine zs_iload_n dX11_hasModel_63 rfl 2 rfl ?_
      refine zs_invSPI (rest := [.int s9, .ref (E.2.2.2.1 + s10)]) [.int y12, .int v2] dX11_hasModel_64 lk_X11_278 rfl (zd1 rfl hd) rfl (Nat.le_of_ble_eq_true rfl) (ct_X11_without E hE _ (zdl rfl hd) _ _ _) (fun y13 => ?_)
      refine zs_stI dX11_hasModel_67 (fun M14 => ?_)
      refine zs_iinc (v := (v3 + 1)) (loc' := [(0, .ref (E.2.2.2.1 + v0)), (1, .int v1), (2, .int v2), (3, .int (v3 + 1))]) dX11_hasModel_68 3 rfl (by rfl) (Nat.le_of_ble_eq_true rfl) [1, 2, 3, 0] rfl ?_
      refine zs_goto dX11_hasModel_71 rfl ?_
      exact ih (v3 + 1) M14
    refine zs_icmp_le dX11_hasModel_47 rfl ?_ ?_
    · refine zs_iload_n dX11_hasModel_56 rfl 3 rfl ?_
      exact hj57 v3 y8
    refine zs_iload_n dX11_hasModel_50 rfl 3 rfl ?_
    refine zs_iconst (v := 1) dX11_hasModel_51 ciconst_1 ?_
    refine zs_isub dX11_hasModel_52 ?_
    refine zs_goto dX11_hasModel_53 rfl ?_
    exact hj57 (v3 - 1) y8
set_option maxHeartbeats 4000000 in
set_option maxRecDepth 100000 in
theorem w_X11_hasModel_L16 (E : zEnv) (hE : zEok E) (d : Nat) (hd : 27 ≤ d) (M0 : zM) (x0 : Int32 × zM) (v0 : Nat) (v1 : Int32) (k90 : zM → Option (Int32 × zM)) (hk90 : ∀ (M : zM), zSy E mu_X11_hasModel d M0 (some (.int x0.1), x0.2) x0 (k90 M) 90 [(0, .ref (E.2.2.2.1 + v0))] [] M) : ∀ (n : Nat) (v2 : Int32) (M : zM), zSy E mu_X11_hasModel d M0 (some (.int x0.1), x0.2) x0 (fp_X11_hasModel_L16 k90 v0 v1 n v2 M) 16 [(0, .ref (E.2.2.2.1 + v0)), (1, .int v1), (2, .int v2)] [] M := by
  intro n
  induction n with
  | zero =>
    intro v2 M
    rw [fp_X11_hasModel_L16]
    exact zs_none
  | succ n ih =>
    intro v2 M
    rw [fp_X11_hasModel_L16]
    refine zs_iload_n dX11_hasModel_16 rfl 2 rfl ?_
    refine zs_if_lt dX11_hasModel_17 rfl ?_ ?_
    · refine zs_sub (loc' := [(0, .ref (E.2.2.2.1 + v0))]) [0] rfl ?_
      exact hk90 M
    refine zs_iload_n dX11_hasModel_20 rfl 1 rfl ?_
    refine zs_iload_n dX11_hasModel_21 rfl 2 rfl ?_
    refine zs_invSPI (rest := []) [.int v1, .int v2] dX11_hasModel_22 lk_X11_97 rfl (zd1 rfl hd) rfl (Nat.le_of_ble_eq_true rfl) (ct_X11_has E hE _ (zdl rfl hd) _ _ _) (fun y5 => ?_)
    refine zs_jn (fun j84 => ∀ (M6 : zM), zSy E mu_X11_hasModel d M0 (some (.int x0.1), x0.2) x0 (j84 M6) 84 [(0, .ref (E.2.2.2.1 + v0)), (1, .int v1), (2, .int v2)] [] M6) (fun M6 => ?_) (fun j84 hj84 => ?_)
    · refine zs_iinc (v := (v2 + (-1))) (loc' := [(0, .ref (E.2.2.2.1 + v0)), (1, .int v1), (2, .int (v2 + (-1)))]) dX11_hasModel_84 2 rfl (by rfl) (Nat.le_of_ble_eq_true rfl) [1, 2, 0] rfl ?_
      refine zs_goto dX11_hasModel_87 rfl ?_
      exact ih (v2 + (-1)) M6
    refine zs_if_eq dX11_hasModel_25 rfl ?_ ?_
    · refine zs_iconst (v := 0) dX11_hasModel_31 ciconst_0 ?_
      refine zs_istore_n (loc' := [(0, .ref (E.2.2.2.1 + v0)), (1, .int v1), (2, .int v2), (3, .int 0)]) dX11_hasModel_32 rfl (Nat.le_of_ble_eq_true rfl) [1, 2, 3, 0] rfl ?_
      refine w_X11_hasModel_L33 E hE d hd _ _ _ _ _ _ (fun M15 => ?_) _ _ _
      refine zs_aload_n dX11_hasModel_74 rfl 0 rfl ?_
      refine zs_dup dX11_hasModel_75 rfl ?_
      refine zs_getI dX11_hasModel_76 fl_X11_101 rfl (fun y16 => ?_)
      refine zs_iconst (v := 1) dX11_hasModel_79 ciconst_1 ?_
      refine zs_isub dX11_hasModel_80 ?_
      refine zs_putI dX11_hasModel_81 fl_X11_101 ft_X11 rfl rfl rfl rfl rfl (fun M17 => ?_)
      exact hj84 M17
    refine zs_goto dX11_hasModel_28 rfl ?_
    exact hj84 M
set_option maxHeartbeats 4000000 in
set_option maxRecDepth 100000 in
theorem ct_X11_hasModel (E : zEnv) (hE : zEok E) (d : Nat) (hd : 27 ≤ d) (v0 : Nat) (v1 : Int32) (M : zM) (x0 : Int32 × zM) (hx : fp_X11_hasModel v0 v1 M = some x0) : zCt E mu_X11_hasModel d [.ref (E.2.2.2.1 + v0), .int v1] M (some (.int x0.1), x0.2) := by
  refine zCt_of (μ := mu_X11_hasModel) (t := fp_X11_hasModel v0 v1 M) rfl rfl (Nat.le_of_ble_eq_true rfl) hx ?_
  change zSy E mu_X11_hasModel d M (some (.int x0.1), x0.2) x0 (fp_X11_hasModel v0 v1 M) 0 [(0, .ref (E.2.2.2.1 + v0)), (1, .int v1)] [] M
  unfold fp_X11_hasModel
  refine zs_this (fun hth => ?_)
  refine zs_aload_n dX11_hasModel_0 rfl 0 rfl ?_
  refine zs_aload_n dX11_hasModel_1 rfl 0 rfl ?_
  refine zs_getR dX11_hasModel_2 fl_X11_85 rfl (fun y1 => ?_)
  refine zs_iconst (v := 0) dX11_hasModel_5 ciconst_0 ?_
  refine zs_invVWV (rest := []) [.ref (E.2.2.2.1 + y1), .int 0] dX11_hasModel_6 lk_X11_229 rfl (fun _ h => th_X11_puts h) (zd1 rfl hd) rfl (Nat.le_of_ble_eq_true rfl) (ct_X11_puts E hE _ (zdl rfl hd) _ _ _ _) (fun M2 => ?_)
  refine zs_aload_n dX11_hasModel_9 rfl 0 rfl ?_
  refine zs_getI dX11_hasModel_10 fl_X11_101 rfl (fun y3 => ?_)
  refine zs_iconst (v := 1) dX11_hasModel_13 ciconst_1 ?_
  refine zs_isub dX11_hasModel_14 ?_
  refine zs_istore_nL (loc' := fun v2_4 => [(0, .ref (E.2.2.2.1 + v0)), (1, .int v1), (2, .int v2_4)]) dX11_hasModel_15 rfl (Nat.le_of_ble_eq_true rfl) [1, 2, 0] (fun _ => rfl) (fun v2_4 => ?_)
  refine w_X11_hasModel_L16 E hE d hd _ _ _ _ _ (fun M18 => ?_) _ _ _
  refine zs_aload_n dX11_hasModel_90 rfl 0 rfl ?_
  refine zs_iconst (v := 4) dX11_hasModel_91 ciconst_4 ?_
  refine zs_putI dX11_hasModel_92 fl_X11_351 ft_X11 rfl rfl rfl rfl rfl (fun M19 => ?_)
  refine zs_aload_n dX11_hasModel_95 rfl 0 rfl ?_
  refine zs_iconst (v := (-1)) dX11_hasModel_96 ciconst_m1 ?_
  refine zs_invVWI (rest := []) [.int (-1)] dX11_hasModel_97 lk_X11_388 rfl (fun _ h => th_X11_goes h) (zd1 rfl hd) rfl (Nat.le_of_ble_eq_true rfl) (ct_X11_goes E hE _ (zdl rfl hd) _ _ _) (fun y20 M21 => ?_)
  refine zs_jn (fun j108 => ∀ (s23 : Int32), zSy E mu_X11_hasModel d M (some (.int x0.1), x0.2) x0 (j108 s23) 108 [(0, .ref (E.2.2.2.1 + v0))] [.int s23] M21) (fun s23 => ?_) (fun j108 hj108 => ?_)
  · refine zs_istore_n (loc' := [(0, .ref (E.2.2.2.1 + v0)), (2, .int s23)]) dX11_hasModel_108 rfl (Nat.le_of_ble_eq_true rfl) [1, 0] rfl ?_
    refine zs_aload_n dX11_hasModel_109 rfl 0 rfl ?_
    refine zs_aload_n dX11_hasModel_110 rfl 0 rfl ?_
    refine zs_getR dX11_hasModel_111 fl_X11_85 rfl (fun y24 => ?_)
    refine zs_iconst (v := 0) dX11_hasModel_114 ciconst_0 ?_
    refine zs_invVWV (rest := []) [.ref (E.2.2.2.1 + y24), .int 0] dX11_hasModel_115 lk_X11_236 rfl (fun _ h => th_X11_brings h) (zd1 rfl hd) rfl (Nat.le_of_ble_eq_true rfl) (ct_X11_brings E hE _ (zdl rfl hd) _ _ _ _) (fun M25 => ?_)
    refine zs_iload_n dX11_hasModel_118 rfl 1 rfl ?_
    exact zs_zretW dX11_hasModel_119 rfl
  refine zs_if_le dX11_hasModel_100 rfl ?_ ?_
  · refine zs_iconst (v := 0) dX11_hasModel_107 ciconst_0 ?_
    exact hj108 0
  refine zs_iconst (v := 1) dX11_hasModel_103 ciconst_1 ?_
  refine zs_goto dX11_hasModel_104 rfl ?_
  exact hj108 1
theorem dX11_laysObstruction_0 : decode cX11_laysObstruction 0 = .ok (.aload_n 0, 1) := by decide +kernel
theorem dX11_laysObstruction_1 : decode cX11_laysObstruction 1 = .ok (.iconst 0, 1) := by decide +kernel
theorem dX11_laysObstruction_2 : decode cX11_laysObstruction 2 = .ok (.putfield 425, 3) := by decide +kernel
theorem dX11_laysObstruction_5 : decode cX11_laysObstruction 5 = .ok (.iconst (-1), 1) := by decide +kernel
theorem dX11_laysObstruction_6 : decode cX11_laysObstruction 6 = .ok (.istore_n 1, 1) := by decide +kernel
theorem dX11_laysObstruction_7 : decode cX11_laysObstruction 7 = .ok (.iconst 1, 1) := by decide +kernel
theorem dX11_laysObstruction_8 : decode cX11_laysObstruction 8 = .ok (.istore_n 2, 1) := by decide +kernel
theorem dX11_laysObstruction_9 : decode cX11_laysObstruction 9 = .ok (.iload_n 2, 1) := by decide +kernel
theorem dX11_laysObstruction_10 : decode cX11_laysObstruction 10 = .ok (.aload_n 0, 1) := by decide +kernel
theorem dX11_laysObstruction_11 : decode cX11_laysObstruction 11 = .ok (.getfield 101, 3) := by decide +kernel
theorem dX11_laysObstruction_14 : decode cX11_laysObstruction 14 = .ok (.if_icmp .gt 70, 3) := by decide +kernel
theorem dX11_laysObstruction_17 : decode cX11_laysObstruction 17 = .ok (.iload_n 1, 1) := by decide +kernel
theorem dX11_laysObstruction_18 : decode cX11_laysObstruction 18 = .ok (.iconst (-1), 1) := by decide +kernel
theorem dX11_laysObstruction_19 : decode cX11_laysObstruction 19 = .ok (.if_icmp .ne 65, 3) := by decide +kernel
theorem dX11_laysObstruction_22 : decode cX11_laysObstruction 22 = .ok (.iconst 0, 1) := by decide +kernel
theorem dX11_laysObstruction_23 : decode cX11_laysObstruction 23 = .ok (.istore_n 3, 1) := by decide +kernel
theorem dX11_laysObstruction_24 : decode cX11_laysObstruction 24 = .ok (.iload_n 3, 1) := by decide +kernel
theorem dX11_laysObstruction_25 : decode cX11_laysObstruction 25 = .ok (.aload_n 0, 1) := by decide +kernel
theorem dX11_laysObstruction_26 : decode cX11_laysObstruction 26 = .ok (.invokevirtual 104, 3) := by decide +kernel
theorem dX11_laysObstruction_29 : decode cX11_laysObstruction 29 = .ok (.if_icmp .gt 49, 3) := by decide +kernel
theorem dX11_laysObstruction_32 : decode cX11_laysObstruction 32 = .ok (.iload_n 3, 1) := by decide +kernel
theorem dX11_laysObstruction_33 : decode cX11_laysObstruction 33 = .ok (.invokestatic 122, 3) := by decide +kernel
theorem dX11_laysObstruction_36 : decode cX11_laysObstruction 36 = .ok (.iload_n 2, 1) := by decide +kernel
theorem dX11_laysObstruction_37 : decode cX11_laysObstruction 37 = .ok (.if_icmp .ne 35, 3) := by decide +kernel
theorem dX11_laysObstruction_40 : decode cX11_laysObstruction 40 = .ok (.aload_n 0, 1) := by decide +kernel
theorem dX11_laysObstruction_41 : decode cX11_laysObstruction 41 = .ok (.iload_n 3, 1) := by decide +kernel
theorem dX11_laysObstruction_42 : decode cX11_laysObstruction 42 = .ok (.invokevirtual 428, 3) := by decide +kernel
theorem dX11_laysObstruction_45 : decode cX11_laysObstruction 45 = .ok (.ifCond .eq 6, 3) := by decide +kernel
theorem dX11_laysObstruction_48 : decode cX11_laysObstruction 48 = .ok (.goto 24, 3) := by decide +kernel
theorem dX11_laysObstruction_51 : decode cX11_laysObstruction 51 = .ok (.iload_n 1, 1) := by decide +kernel
theorem dX11_laysObstruction_52 : decode cX11_laysObstruction 52 = .ok (.iconst (-1), 1) := by decide +kernel
theorem dX11_laysObstruction_53 : decode cX11_laysObstruction 53 = .ok (.if_icmp .ne 7, 3) := by decide +kernel
theorem dX11_laysObstruction_56 : decode cX11_laysObstruction 56 = .ok (.iload_n 3, 1) := by decide +kernel
theorem dX11_laysObstruction_57 : decode cX11_laysObstruction 57 = .ok (.goto 4, 3) := by decide +kernel
theorem dX11_laysObstruction_60 : decode cX11_laysObstruction 60 = .ok (.iload_n 1, 1) := by decide +kernel
theorem dX11_laysObstruction_61 : decode cX11_laysObstruction 61 = .ok (.istore_n 1, 1) := by decide +kernel
theorem dX11_laysObstruction_62 : decode cX11_laysObstruction 62 = .ok (.aload_n 0, 1) := by decide +kernel
theorem dX11_laysObstruction_63 : decode cX11_laysObstruction 63 = .ok (.dup, 1) := by decide +kernel
theorem dX11_laysObstruction_64 : decode cX11_laysObstruction 64 = .ok (.getfield 425, 3) := by decide +kernel
theorem dX11_laysObstruction_67 : decode cX11_laysObstruction 67 = .ok (.iconst 1, 1) := by decide +kernel
theorem dX11_laysObstruction_68 : decode cX11_laysObstruction 68 = .ok (.iadd, 1) := by decide +kernel
theorem dX11_laysObstruction_69 : decode cX11_laysObstruction 69 = .ok (.putfield 425, 3) := by decide +kernel
theorem dX11_laysObstruction_72 : decode cX11_laysObstruction 72 = .ok (.iinc 3 1, 3) := by decide +kernel
theorem dX11_laysObstruction_75 : decode cX11_laysObstruction 75 = .ok (.goto (-51), 3) := by decide +kernel
theorem dX11_laysObstruction_78 : decode cX11_laysObstruction 78 = .ok (.iinc 2 1, 3) := by decide +kernel
theorem dX11_laysObstruction_81 : decode cX11_laysObstruction 81 = .ok (.goto (-72), 3) := by decide +kernel
theorem dX11_laysObstruction_84 : decode cX11_laysObstruction 84 = .ok (.iload_n 1, 1) := by decide +kernel
theorem dX11_laysObstruction_85 : decode cX11_laysObstruction 85 = .ok (.ireturn, 1) := by decide +kernel
def fp_X11_laysObstruction_L24 (k78 : Int32 → zM → Option (Int32 × zM)) (v0 : Nat) (v2 : Int32) : Nat → Int32 → Int32 → zM → Option (Int32 × zM)
  | 0, _, _, _ => none
  | n + 1, v1, v3, M =>
    (fp_X11_all v0 M).bind fun (y3 : Int32) =>
    if v3 > y3 then (
      k78 v1 M)
    else (
      (fp_X11_bits v3).bind fun (y4 : Int32) =>
      zjn (fun (v1_5 : Int32) (M6 : zM) =>
          fp_X11_laysObstruction_L24 k78 v0 v2 n v1_5 (v3 + 1) M6)
        (fun j72 =>
          if y4 ≠ v2 then (
            j72 v1 M)
          else (
            (fp_X11_hasModel v0 v3 M).bind fun p9 => zpp p9 fun (y7 : Int32) (M8 : zM) =>
            if y7 = 0 then (
              zjn (fun (s10 : Int32) =>
                  (zgI 9 M8 v0 46).bind fun (y11 : Int32) =>
                  (zpI 9 M8 v0 46 (y11 + 1)).bind fun (M12 : zM) =>
                  j72 s10 M12)
                (fun j61 =>
                  if v1 ≠ (-1) then (
                    j61 v1)
                  else (
                    j61 v3)))
            else (
              j72 v1 M8))))
def fp_X11_laysObstruction_L9 (v0 : Nat) : Nat → Int32 → Int32 → zM → Option (Int32 × zM)
  | 0, _, _, _ => none
  | n + 1, v1, v2, M =>
    (zgI 9 M v0 0).bind fun (y2 : Int32) =>
    if v2 > y2 then (
      some (v1, M))
    else (
      if v1 ≠ (-1) then (
        some (v1, M))
      else (
        fp_X11_laysObstruction_L24
          (fun v1_13 M14 =>
            fp_X11_laysObstruction_L9 v0 n v1_13 (v2 + 1) M14) v0 v2 FU v1 0 M))
def fp_X11_laysObstruction (v0 : Nat) (M : zM) : Option (Int32 × zM) :=
  zthis 9 M v0 (
    (zpI 9 M v0 46 0).bind fun (M1 : zM) =>
    fp_X11_laysObstruction_L9 v0 FU (-1) 1 M1)
set_option maxHeartbeats 4000000 in
set_option maxRecDepth 100000 in
theorem th_X11_laysObstruction {v0 : Nat} {M : zM} {x0 : Int32 × zM} (h : fp_X11_laysObstruction v0 M = some x0) : v0 < zS M ∧ kd v0 = 9 := by
  unfold fp_X11_laysObstruction at h
  exact zthis_of h
set_option maxHeartbeats 4000000 in
set_option maxRecDepth 100000 in
theorem w_X11_laysObstruction_L24 (E : zEnv) (hE : zEok E) (d : Nat) (hd : 28 ≤ d) (M0 : zM) (x0 : Int32 × zM) (v0 : Nat) (v2 : Int32) (k78 : Int32 → zM → Option (Int32 × zM)) (hk78 : ∀ (v1 : Int32) (M : zM), zSy E mu_X11_laysObstruction d M0 (some (.int x0.1), x0.2) x0 (k78 v1 M) 78 [(0, .ref (E.2.2.2.1 + v0)), (1, .int v1), (2, .int v2)] [] M) : ∀ (n : Nat) (v1 : Int32) (v3 : Int32) (M : zM), zSy E mu_X11_laysObstruction d M0 (some (.int x0.1), x0.2) x0 (fp_X11_laysObstruction_L24 k78 v0 v2 n v1 v3 M) 24 [(0, .ref (E.2.2.2.1 + v0)), (1, .int v1), (2, .int v2), (3, .int v3)] [] M := by
  intro n
  induction n with
  | zero =>
    intro v1 v3 M
    rw [fp_X11_laysObstruction_L24]
    exact zs_none
  | succ n ih =>
    intro v1 v3 M
    rw [fp_X11_laysObstruction_L24]
    refine zs_iload_n dX11_laysObstruction_24 rfl 3 rfl ?_
    refine zs_aload_n dX11_laysObstruction_25 rfl 0 rfl ?_
    refine zs_invVPI (rest := [.int v3]) [] dX11_laysObstruction_26 lk_X11_104 rfl (fun _ h => th_X11_all h) (zd1 rfl hd) rfl (Nat.le_of_ble_eq_true rfl) (ct_X11_all E hE _ (zdl rfl hd) _ _) (fun y3 => ?_)
    refine zs_icmp_gt dX11_laysObstruction_29 rfl ?_ ?_
    · refine zs_sub (loc' := [(0, .ref (E.2.2.2.1 + v0)), (1, .int v1), (2, .int v2)]) [0, 1, 2] rfl ?_
      exact hk78 v1 M
    refine zs_iload_n dX11_laysObstruction_32 rfl 3 rfl ?_
    refine zs_invSPI (rest := []) [.int v3] dX11_laysObstruction_33 lk_X11_122 rfl (zd1 rfl hd) rfl (Nat.le_of_ble_eq_true rfl) (ct_X11_bits E hE _ (zdl rfl hd) _ _) (fun y4 => ?_)
    refine zs_iload_n dX11_laysObstruction_36 rfl 2 rfl ?_
    refine zs_jn (fun j72 => ∀ (v1_5 : Int32) (M6 : zM), zSy E mu_X11_laysObstruction d M0 (some (.int x0.1), x0.2) x0 (j72 v1_5 M6) 72 [(0, .ref (E.2.2.2.1 + v0)), (1, .int v1_5), (2, .int v2), (3, .int v3)] [] M6) (fun v1_5 M6 => ?_) (fun j72 hj72 => ?_)
    · refine zs_iinc (v := (v3 + 1)) (loc' := [(0, .ref (E.2.2.2.1 + v0)), (1, .int v1_5), (2, .int v2), (3, .int (v3 + 1))]) dX11_laysObstruction_72 3 rfl (by rfl) (Nat.le_of_ble_eq_true rfl) [1, 2, 3, 0] rfl ?_
      refine zs_goto dX11_laysObstruction_75 rfl ?_
      exact ih v1_5 (v3 + 1) M6
    refine zs_icmp_ne dX11_laysObstruction_37 rfl ?_ ?_
    · exact hj72 v1 M
    refine zs_aload_n dX11_laysObstruction_40 rfl 0 rfl ?_
    refine zs_iload_n dX11_laysObstruction_41 rfl 3 rfl ?_
    refine zs_invVWI (rest := []) [.int v3] dX11_laysObstruction_42 lk_X11_428 rfl (fun _ h => th_X11_hasModel h) (zd1 rfl hd) rfl (Nat.le_of_ble_eq_true rfl) (ct_X11_hasModel E hE _ (zdl rfl hd) _ _ _) (fun y7 M8 => ?_)
    refine zs_if_eq dX11_laysObstruction_45 rfl ?_ ?_
    · refine zs_iload_n dX11_laysObstruction_51 rfl 1 rfl ?_
      refine zs_iconst (v := (-1)) dX11_laysObstruction_52 ciconst_m1 ?_
      refine zs_jn (fun j61 => ∀ (s10 : Int32), zSy E mu_X11_laysObstruction d M0 (some (.int x0.1), x0.2) x0 (j61 s10) 61 [(0, .ref (E.2.2.2.1 + v0)), (2, .int v2), (3, .int v3)] [.int s10] M8) (fun s10 => ?_) (fun j61 hj61 => ?_)
      · refine zs_istore_n (loc' := [(0, .ref (E.2.2.2.1 + v0)), (1, .int s10), (2, .int v2), (3, .int v3)]) dX11_laysObstruction_61 rfl (Nat.le_of_ble_eq_true rfl) [1, 0, 2, 3] rfl ?_
        refine zs_aload_n dX11_laysObstruction_62 rfl 0 rfl ?_
        refine zs_dup dX11_laysObstruction_63 rfl ?_
        refine zs_getI dX11_laysObstruction_64 fl_X11_425 rfl (fun y11 => ?_)
        refine zs_iconst (v := 1) dX11_laysObstruction_67 ciconst_1 ?_
        refine zs_iadd dX11_laysObstruction_68 ?_
        refine zs_putI dX11_laysObstruction_69 fl_X11_425 ft_X11 rfl rfl rfl rfl rfl (fun M12 => ?_)
        exact hj72 s10 M12
      refine zs_icmp_ne dX11_laysObstruction_53 rfl ?_ ?_
      · refine zs_iload_n dX11_laysObstruction_60 rfl 1 rfl ?_
        refine zs_sub (loc' := [(0, .ref (E.2.2.2.1 + v0)), (2, .int v2), (3, .int v3)]) [0, 2, 3] rfl ?_
        exact hj61 v1
      refine zs_iload_n dX11_laysObstruction_56 rfl 3 rfl ?_
      refine zs_goto dX11_laysObstruction_57 rfl ?_
      refine zs_sub (loc' := [(0, .ref (E.2.2.2.1 + v0)), (2, .int v2), (3, .int v3)]) [0, 2, 3] rfl ?_
      exact hj61 v3
    refine zs_goto dX11_laysObstruction_48 rfl ?_
    exact hj72 v1 M8
set_option maxHeartbeats 4000000 in
set_option maxRecDepth 100000 in
theorem w_X11_laysObstruction_L9 (E : zEnv) (hE : zEok E) (d : Nat) (hd : 28 ≤ d) (M0 : zM) (x0 : Int32 × zM) (v0 : Nat)  : ∀ (n : Nat) (v1 : Int32) (v2 : Int32) (M : zM), zSy E mu_X11_laysObstruction d M0 (some (.int x0.1), x0.2) x0 (fp_X11_laysObstruction_L9 v0 n v1 v2 M) 9 [(0, .ref (E.2.2.2.1 + v0)), (1, .int v1), (2, .int v2)] [] M := by
  intro n
  induction n with
  | zero =>
    intro v1 v2 M
    rw [fp_X11_laysObstruction_L9]
    exact zs_none
  | succ n ih =>
    intro v1 v2 M
    rw [fp_X11_laysObstruction_L9]
    refine zs_iload_n dX11_laysObstruction_9 rfl 2 rfl ?_
    refine zs_aload_n dX11_laysObstruction_10 rfl 0 rfl ?_
    refine zs_getI dX11_laysObstruction_11 fl_X11_101 rfl (fun y2 => ?_)
    refine zs_icmp_gt dX11_laysObstruction_14 rfl ?_ ?_
    · refine zs_iload_n dX11_laysObstruction_84 rfl 1 rfl ?_
      exact zs_iretW dX11_laysObstruction_85 rfl
    refine zs_iload_n dX11_laysObstruction_17 rfl 1 rfl ?_
    refine zs_iconst (v := (-1)) dX11_laysObstruction_18 ciconst_m1 ?_
    refine zs_icmp_ne dX11_laysObstruction_19 rfl ?_ ?_
    · refine zs_iload_n dX11_laysObstruction_84 rfl 1 rfl ?_
      exact zs_iretW dX11_laysObstruction_85 rfl
    refine zs_iconst (v := 0) dX11_laysObstruction_22 ciconst_0 ?_
    refine zs_istore_n (loc' := [(0, .ref (E.2.2.2.1 + v0)), (1, .int v1), (2, .int v2), (3, .int 0)]) dX11_laysObstruction_23 rfl (Nat.le_of_ble_eq_true rfl) [1, 2, 3, 0] rfl ?_
    refine w_X11_laysObstruction_L24 E hE d hd _ _ _ _ _ (fun v1_13 M14 => ?_) _ _ _ _
    refine zs_iinc (v := (v2 + 1)) (loc' := [(0, .ref (E.2.2.2.1 + v0)), (1, .int v1_13), (2, .int (v2 + 1))]) dX11_laysObstruction_78 2 rfl (by rfl) (Nat.le_of_ble_eq_true rfl) [1, 2, 0] rfl ?_
    refine zs_goto dX11_laysObstruction_81 rfl ?_
    exact ih v1_13 (v2 + 1) M14
set_option maxHeartbeats 4000000 in
set_option maxRecDepth 100000 in
theorem ct_X11_laysObstruction (E : zEnv) (hE : zEok E) (d : Nat) (hd : 28 ≤ d) (v0 : Nat) (M : zM) (x0 : Int32 × zM) (hx : fp_X11_laysObstruction v0 M = some x0) : zCt E mu_X11_laysObstruction d [.ref (E.2.2.2.1 + v0)] M (some (.int x0.1), x0.2) := by
  refine zCt_of (μ := mu_X11_laysObstruction) (t := fp_X11_laysObstruction v0 M) rfl rfl (Nat.le_of_ble_eq_true rfl) hx ?_
  change zSy E mu_X11_laysObstruction d M (some (.int x0.1), x0.2) x0 (fp_X11_laysObstruction v0 M) 0 [(0, .ref (E.2.2.2.1 + v0))] [] M
  unfold fp_X11_laysObstruction
  refine zs_this (fun hth => ?_)
  refine zs_aload_n dX11_laysObstruction_0 rfl 0 rfl ?_
  refine zs_iconst (v := 0) dX11_laysObstruction_1 ciconst_0 ?_
  refine zs_putI dX11_laysObstruction_2 fl_X11_425 ft_X11 rfl rfl rfl rfl rfl (fun M1 => ?_)
  refine zs_iconst (v := (-1)) dX11_laysObstruction_5 ciconst_m1 ?_
  refine zs_istore_n (loc' := [(0, .ref (E.2.2.2.1 + v0)), (1, .int (-1))]) dX11_laysObstruction_6 rfl (Nat.le_of_ble_eq_true rfl) [1, 0] rfl ?_
  refine zs_iconst (v := 1) dX11_laysObstruction_7 ciconst_1 ?_
  refine zs_istore_n (loc' := [(0, .ref (E.2.2.2.1 + v0)), (1, .int (-1)), (2, .int 1)]) dX11_laysObstruction_8 rfl (Nat.le_of_ble_eq_true rfl) [1, 2, 0] rfl ?_
  exact w_X11_laysObstruction_L9 E hE d hd _ _ _ _ _ _ _
theorem dX11_obstruction_0 : decode cX11_obstruction 0 = .ok (.aload_n 0, 1) := by decide +kernel
theorem dX11_obstruction_1 : decode cX11_obstruction 1 = .ok (.invokevirtual 431, 3) := by decide +kernel
theorem dX11_obstruction_4 : decode cX11_obstruction 4 = .ok (.istore_n 1, 1) := by decide +kernel
theorem dX11_obstruction_5 : decode cX11_obstruction 5 = .ok (.iload_n 1, 1) := by decide +kernel
theorem dX11_obstruction_6 : decode cX11_obstruction 6 = .ok (.iconst (-1), 1) := by decide +kernel
theorem dX11_obstruction_7 : decode cX11_obstruction 7 = .ok (.if_icmp .ne 12, 3) := by decide +kernel
theorem dX11_obstruction_10 : decode cX11_obstruction 10 = .ok (.aload_n 0, 1) := by decide +kernel
theorem dX11_obstruction_11 : decode cX11_obstruction 11 = .ok (.bipush 6, 2) := by decide +kernel
theorem dX11_obstruction_13 : decode cX11_obstruction 13 = .ok (.invokevirtual 226, 3) := by decide +kernel
theorem dX11_obstruction_16 : decode cX11_obstruction 16 = .ok (.goto 8, 3) := by decide +kernel
theorem dX11_obstruction_19 : decode cX11_obstruction 19 = .ok (.aload_n 0, 1) := by decide +kernel
theorem dX11_obstruction_20 : decode cX11_obstruction 20 = .ok (.iload_n 1, 1) := by decide +kernel
theorem dX11_obstruction_21 : decode cX11_obstruction 21 = .ok (.invokevirtual 242, 3) := by decide +kernel
theorem dX11_obstruction_24 : decode cX11_obstruction 24 = .ok (.ireturn, 1) := by decide +kernel
def fp_X11_obstruction (v0 : Nat) (M : zM) : Option (Int32 × zM) :=
  zthis 9 M v0 (
    (fp_X11_laysObstruction v0 M).bind fun p3 => zpp p3 fun (y1 : Int32) (M2 : zM) =>
    if y1 ≠ (-1) then (
      (fp_X11_gives v0 y1 M2).bind fun p6 => zpp p6 fun (y4 : Int32) (M5 : zM) =>
      some (y4, M5))
    else (
      (fp_X11_refuse v0 6 M2).bind fun p9 => zpp p9 fun (y7 : Int32) (M8 : zM) =>
      some (y7, M8)))
set_option maxHeartbeats 4000000 in
set_option maxRecDepth 100000 in
theorem th_X11_obstruction {v0 : Nat} {M : zM} {x0 : Int32 × zM} (h : fp_X11_obstruction v0 M = some x0) : v0 < zS M ∧ kd v0 = 9 := by
  unfold fp_X11_obstruction at h
  exact zthis_of h
set_option maxHeartbeats 4000000 in
set_option maxRecDepth 100000 in
theorem ct_X11_obstruction (E : zEnv) (hE : zEok E) (d : Nat) (hd : 29 ≤ d) (v0 : Nat) (M : zM) (x0 : Int32 × zM) (hx : fp_X11_obstruction v0 M = some x0) : zCt E mu_X11_obstruction d [.ref (E.2.2.2.1 + v0)] M (some (.int x0.1), x0.2) := by
  refine zCt_of (μ := mu_X11_obstruction) (t := fp_X11_obstruction v0 M) rfl rfl (Nat.le_of_ble_eq_true rfl) hx ?_
  change zSy E mu_X11_obstruction d M (some (.int x0.1), x0.2) x0 (fp_X11_obstruction v0 M) 0 [(0, .ref (E.2.2.2.1 + v0))] [] M
  unfold fp_X11_obstruction
  refine zs_this (fun hth => ?_)
  refine zs_aload_n dX11_obstruction_0 rfl 0 rfl ?_
  refine zs_invVWI (rest := []) [] dX11_obstruction_1 lk_X11_431 rfl (fun _ h => th_X11_laysObstruction h) (zd1 rfl hd) rfl (Nat.le_of_ble_eq_true rfl) (ct_X11_laysObstruction E hE _ (zdl rfl hd) _ _) (fun y1 M2 => ?_)
  refine zs_istore_n (loc' := [(0, .ref (E.2.2.2.1 + v0)), (1, .int y1)]) dX11_obstruction_4 rfl (Nat.le_of_ble_eq_true rfl) [1, 0] rfl ?_
  refine zs_iload_n dX11_obstruction_5 rfl 1 rfl ?_
  refine zs_iconst (v := (-1)) dX11_obstruction_6 ciconst_m1 ?_
  refine zs_icmp_ne dX11_obstruction_7 rfl ?_ ?_
  · refine zs_aload_n dX11_obstruction_19 rfl 0 rfl ?_
    refine zs_iload_n dX11_obstruction_20 rfl 1 rfl ?_
    refine zs_invVWI (rest := []) [.int y1] dX11_obstruction_21 lk_X11_242 rfl (fun _ h => th_X11_gives h) (zd1 rfl hd) rfl (Nat.le_of_ble_eq_true rfl) (ct_X11_gives E hE _ (zdl rfl hd) _ _ _) (fun y4 M5 => ?_)
    exact zs_iretW dX11_obstruction_24 rfl
  refine zs_aload_n dX11_obstruction_10 rfl 0 rfl ?_
  refine zs_bipush (v := 6) dX11_obstruction_11 cbipush_6 ?_
  refine zs_invVWI (rest := []) [.int 6] dX11_obstruction_13 lk_X11_226 rfl (fun _ h => th_X11_refuse h) (zd1 rfl hd) rfl (Nat.le_of_ble_eq_true rfl) (ct_X11_refuse E hE _ (zdl rfl hd) _ _ _) (fun y7 M8 => ?_)
  refine zs_goto dX11_obstruction_16 rfl ?_
  exact zs_iretW dX11_obstruction_24 rfl
theorem dX11_obstructions_0 : decode cX11_obstructions 0 = .ok (.aload_n 0, 1) := by decide +kernel
theorem dX11_obstructions_1 : decode cX11_obstructions 1 = .ok (.invokevirtual 431, 3) := by decide +kernel
theorem dX11_obstructions_4 : decode cX11_obstructions 4 = .ok (.iconst (-1), 1) := by decide +kernel
theorem dX11_obstructions_5 : decode cX11_obstructions 5 = .ok (.if_icmp .ne 12, 3) := by decide +kernel
theorem dX11_obstructions_8 : decode cX11_obstructions 8 = .ok (.aload_n 0, 1) := by decide +kernel
theorem dX11_obstructions_9 : decode cX11_obstructions 9 = .ok (.bipush 6, 2) := by decide +kernel
theorem dX11_obstructions_11 : decode cX11_obstructions 11 = .ok (.invokevirtual 226, 3) := by decide +kernel
theorem dX11_obstructions_14 : decode cX11_obstructions 14 = .ok (.goto 11, 3) := by decide +kernel
theorem dX11_obstructions_17 : decode cX11_obstructions 17 = .ok (.aload_n 0, 1) := by decide +kernel
theorem dX11_obstructions_18 : decode cX11_obstructions 18 = .ok (.aload_n 0, 1) := by decide +kernel
theorem dX11_obstructions_19 : decode cX11_obstructions 19 = .ok (.getfield 425, 3) := by decide +kernel
theorem dX11_obstructions_22 : decode cX11_obstructions 22 = .ok (.invokevirtual 242, 3) := by decide +kernel
theorem dX11_obstructions_25 : decode cX11_obstructions 25 = .ok (.ireturn, 1) := by decide +kernel
def fp_X11_obstructions (v0 : Nat) (M : zM) : Option (Int32 × zM) :=
  zthis 9 M v0 (
    (fp_X11_laysObstruction v0 M).bind fun p3 => zpp p3 fun (y1 : Int32) (M2 : zM) =>
    if y1 ≠ (-1) then (
      (zgI 9 M2 v0 46).bind fun (y4 : Int32) =>
      (fp_X11_gives v0 y4 M2).bind fun p7 => zpp p7 fun (y5 : Int32) (M6 : zM) =>
      some (y5, M6))
    else (
      (fp_X11_refuse v0 6 M2).bind fun p10 => zpp p10 fun (y8 : Int32) (M9 : zM) =>
      some (y8, M9)))
set_option maxHeartbeats 4000000 in
set_option maxRecDepth 100000 in
theorem th_X11_obstructions {v0 : Nat} {M : zM} {x0 : Int32 × zM} (h : fp_X11_obstructions v0 M = some x0) : v0 < zS M ∧ kd v0 = 9 := by
  unfold fp_X11_obstructions at h
  exact zthis_of h
set_option maxHeartbeats 4000000 in
set_option maxRecDepth 100000 in
theorem ct_X11_obstructions (E : zEnv) (hE : zEok E) (d : Nat) (hd : 29 ≤ d) (v0 : Nat) (M : zM) (x0 : Int32 × zM) (hx : fp_X11_obstructions v0 M = some x0) : zCt E mu_X11_obstructions d [.ref (E.2.2.2.1 + v0)] M (some (.int x0.1), x0.2) := by
  refine zCt_of (μ := mu_X11_obstructions) (t := fp_X11_obstructions v0 M) rfl rfl (Nat.le_of_ble_eq_true rfl) hx ?_
  change zSy E mu_X11_obstructions d M (some (.int x0.1), x0.2) x0 (fp_X11_obstructions v0 M) 0 [(0, .ref (E.2.2.2.1 + v0))] [] M
  unfold fp_X11_obstructions
  refine zs_this (fun hth => ?_)
  refine zs_aload_n dX11_obstructions_0 rfl 0 rfl ?_
  refine zs_invVWI (rest := []) [] dX11_obstructions_1 lk_X11_431 rfl (fun _ h => th_X11_laysObstruction h) (zd1 rfl hd) rfl (Nat.le_of_ble_eq_true rfl) (ct_X11_laysObstruction E hE _ (zdl rfl hd) _ _) (fun y1 M2 => ?_)
  refine zs_iconst (v := (-1)) dX11_obstructions_4 ciconst_m1 ?_
  refine zs_icmp_ne dX11_obstructions_5 rfl ?_ ?_
  · refine zs_aload_n dX11_obstructions_17 rfl 0 rfl ?_
    refine zs_aload_n dX11_obstructions_18 rfl 0 rfl ?_
    refine zs_getI dX11_obstructions_19 fl_X11_425 rfl (fun y4 => ?_)
    refine zs_invVWI (rest := []) [.int y4] dX11_obstructions_22 lk_X11_242 rfl (fun _ h => th_X11_gives h) (zd1 rfl hd) rfl (Nat.le_of_ble_eq_true rfl) (ct_X11_gives E hE _ (zdl rfl hd) _ _ _) (fun y5 M6 => ?_)
    exact zs_iretW dX11_obstructions_25 rfl
  refine zs_aload_n dX11_obstructions_8 rfl 0 rfl ?_
  refine zs_bipush (v := 6) dX11_obstructions_9 cbipush_6 ?_
  refine zs_invVWI (rest := []) [.int 6] dX11_obstructions_11 lk_X11_226 rfl (fun _ h => th_X11_refuse h) (zd1 rfl hd) rfl (Nat.le_of_ble_eq_true rfl) (ct_X11_refuse E hE _ (zdl rfl hd) _ _ _) (fun y8 M9 => ?_)
  refine zs_goto dX11_obstructions_14 rfl ?_
  exact zs_iretW dX11_obstructions_25 rfl

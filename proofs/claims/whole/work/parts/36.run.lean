theorem dX11_family_0 : decode cX11_family 0 = .ok (.iload_n 1, 1) := by decide +kernel
theorem dX11_family_1 : decode cX11_family 1 = .ok (.iconst 0, 1) := by decide +kernel
theorem dX11_family_2 : decode cX11_family 2 = .ok (.iconst 3, 1) := by decide +kernel
theorem dX11_family_3 : decode cX11_family 3 = .ok (.invokestatic 195, 3) := by decide +kernel
theorem dX11_family_6 : decode cX11_family 6 = .ok (.ifCond .ne 9, 3) := by decide +kernel
theorem dX11_family_9 : decode cX11_family 9 = .ok (.aload_n 0, 1) := by decide +kernel
theorem dX11_family_10 : decode cX11_family 10 = .ok (.iconst 1, 1) := by decide +kernel
theorem dX11_family_11 : decode cX11_family 11 = .ok (.invokevirtual 226, 3) := by decide +kernel
theorem dX11_family_14 : decode cX11_family 14 = .ok (.ireturn, 1) := by decide +kernel
theorem dX11_family_15 : decode cX11_family 15 = .ok (.aload_n 0, 1) := by decide +kernel
theorem dX11_family_16 : decode cX11_family 16 = .ok (.iconst (-1), 1) := by decide +kernel
theorem dX11_family_17 : decode cX11_family 17 = .ok (.invokevirtual 266, 3) := by decide +kernel
theorem dX11_family_20 : decode cX11_family 20 = .ok (.pop, 1) := by decide +kernel
theorem dX11_family_21 : decode cX11_family 21 = .ok (.bipush 99, 2) := by decide +kernel
theorem dX11_family_23 : decode cX11_family 23 = .ok (.istore_n 2, 1) := by decide +kernel
theorem dX11_family_24 : decode cX11_family 24 = .ok (.iconst 0, 1) := by decide +kernel
theorem dX11_family_25 : decode cX11_family 25 = .ok (.istore_n 3, 1) := by decide +kernel
theorem dX11_family_26 : decode cX11_family 26 = .ok (.iconst 0, 1) := by decide +kernel
theorem dX11_family_27 : decode cX11_family 27 = .ok (.istore 4, 2) := by decide +kernel
theorem dX11_family_29 : decode cX11_family 29 = .ok (.iconst 0, 1) := by decide +kernel
theorem dX11_family_30 : decode cX11_family 30 = .ok (.istore 5, 2) := by decide +kernel
theorem dX11_family_32 : decode cX11_family 32 = .ok (.iconst 0, 1) := by decide +kernel
theorem dX11_family_33 : decode cX11_family 33 = .ok (.istore 6, 2) := by decide +kernel
theorem dX11_family_35 : decode cX11_family 35 = .ok (.iload 6, 2) := by decide +kernel
theorem dX11_family_37 : decode cX11_family 37 = .ok (.aload_n 0, 1) := by decide +kernel
theorem dX11_family_38 : decode cX11_family 38 = .ok (.getfield 437, 3) := by decide +kernel
theorem dX11_family_41 : decode cX11_family 41 = .ok (.if_icmp .ge 69, 3) := by decide +kernel
theorem dX11_family_44 : decode cX11_family 44 = .ok (.aload_n 0, 1) := by decide +kernel
theorem dX11_family_45 : decode cX11_family 45 = .ok (.getfield 88, 3) := by decide +kernel
theorem dX11_family_48 : decode cX11_family 48 = .ok (.iload 6, 2) := by decide +kernel
theorem dX11_family_50 : decode cX11_family 50 = .ok (.iaload, 1) := by decide +kernel
theorem dX11_family_51 : decode cX11_family 51 = .ok (.invokestatic 122, 3) := by decide +kernel
theorem dX11_family_54 : decode cX11_family 54 = .ok (.istore 7, 2) := by decide +kernel
theorem dX11_family_56 : decode cX11_family 56 = .ok (.iload 7, 2) := by decide +kernel
theorem dX11_family_58 : decode cX11_family 58 = .ok (.iload_n 2, 1) := by decide +kernel
theorem dX11_family_59 : decode cX11_family 59 = .ok (.if_icmp .ge 7, 3) := by decide +kernel
theorem dX11_family_62 : decode cX11_family 62 = .ok (.iconst 1, 1) := by decide +kernel
theorem dX11_family_63 : decode cX11_family 63 = .ok (.goto 18, 3) := by decide +kernel
theorem dX11_family_66 : decode cX11_family 66 = .ok (.iload 7, 2) := by decide +kernel
theorem dX11_family_68 : decode cX11_family 68 = .ok (.iload_n 2, 1) := by decide +kernel
theorem dX11_family_69 : decode cX11_family 69 = .ok (.if_icmp .ne 10, 3) := by decide +kernel
theorem dX11_family_72 : decode cX11_family 72 = .ok (.iload 4, 2) := by decide +kernel
theorem dX11_family_74 : decode cX11_family 74 = .ok (.iconst 1, 1) := by decide +kernel
theorem dX11_family_75 : decode cX11_family 75 = .ok (.iadd, 1) := by decide +kernel
theorem dX11_family_76 : decode cX11_family 76 = .ok (.goto 5, 3) := by decide +kernel
theorem dX11_family_79 : decode cX11_family 79 = .ok (.iload 4, 2) := by decide +kernel
theorem dX11_family_81 : decode cX11_family 81 = .ok (.istore 4, 2) := by decide +kernel
theorem dX11_family_83 : decode cX11_family 83 = .ok (.iload_n 2, 1) := by decide +kernel
theorem dX11_family_84 : decode cX11_family 84 = .ok (.iload 7, 2) := by decide +kernel
theorem dX11_family_86 : decode cX11_family 86 = .ok (.invokestatic 112, 3) := by decide +kernel
theorem dX11_family_89 : decode cX11_family 89 = .ok (.istore_n 2, 1) := by decide +kernel
theorem dX11_family_90 : decode cX11_family 90 = .ok (.iload_n 3, 1) := by decide +kernel
theorem dX11_family_91 : decode cX11_family 91 = .ok (.iload 7, 2) := by decide +kernel
theorem dX11_family_93 : decode cX11_family 93 = .ok (.invokestatic 403, 3) := by decide +kernel
theorem dX11_family_96 : decode cX11_family 96 = .ok (.istore_n 3, 1) := by decide +kernel
theorem dX11_family_97 : decode cX11_family 97 = .ok (.iload 5, 2) := by decide +kernel
theorem dX11_family_99 : decode cX11_family 99 = .ok (.iload 7, 2) := by decide +kernel
theorem dX11_family_101 : decode cX11_family 101 = .ok (.iadd, 1) := by decide +kernel
theorem dX11_family_102 : decode cX11_family 102 = .ok (.istore 5, 2) := by decide +kernel
theorem dX11_family_104 : decode cX11_family 104 = .ok (.iinc 6 1, 3) := by decide +kernel
theorem dX11_family_107 : decode cX11_family 107 = .ok (.goto (-72), 3) := by decide +kernel
theorem dX11_family_110 : decode cX11_family 110 = .ok (.aload_n 0, 1) := by decide +kernel
theorem dX11_family_111 : decode cX11_family 111 = .ok (.iload_n 1, 1) := by decide +kernel
theorem dX11_family_112 : decode cX11_family 112 = .ok (.ifCond .ne 7, 3) := by decide +kernel
theorem dX11_family_115 : decode cX11_family 115 = .ok (.iload_n 2, 1) := by decide +kernel
theorem dX11_family_116 : decode cX11_family 116 = .ok (.goto 24, 3) := by decide +kernel
theorem dX11_family_119 : decode cX11_family 119 = .ok (.iload_n 1, 1) := by decide +kernel
theorem dX11_family_120 : decode cX11_family 120 = .ok (.iconst 1, 1) := by decide +kernel
theorem dX11_family_121 : decode cX11_family 121 = .ok (.if_icmp .ne 7, 3) := by decide +kernel
theorem dX11_family_124 : decode cX11_family 124 = .ok (.iload_n 3, 1) := by decide +kernel
theorem dX11_family_125 : decode cX11_family 125 = .ok (.goto 15, 3) := by decide +kernel
theorem dX11_family_128 : decode cX11_family 128 = .ok (.iload_n 1, 1) := by decide +kernel
theorem dX11_family_129 : decode cX11_family 129 = .ok (.iconst 2, 1) := by decide +kernel
theorem dX11_family_130 : decode cX11_family 130 = .ok (.if_icmp .ne 8, 3) := by decide +kernel
theorem dX11_family_133 : decode cX11_family 133 = .ok (.iload 4, 2) := by decide +kernel
theorem dX11_family_135 : decode cX11_family 135 = .ok (.goto 5, 3) := by decide +kernel
theorem dX11_family_138 : decode cX11_family 138 = .ok (.iload 5, 2) := by decide +kernel
theorem dX11_family_140 : decode cX11_family 140 = .ok (.invokevirtual 242, 3) := by decide +kernel
theorem dX11_family_143 : decode cX11_family 143 = .ok (.ireturn, 1) := by decide +kernel
def fp_X11_family_L35 (k110 : Int32 → Int32 → Int32 → Int32 → Option (Int32 × zM)) (v0 : Nat) (v1 : Int32) (M : zM) : Nat → Int32 → Int32 → Int32 → Int32 → Int32 → Option (Int32 × zM)
  | 0, _, _, _, _, _ => none
  | n + 1, v2, v3, v4, v5, v6 =>
    (zgI 9 M v0 49).bind fun (y5 : Int32) =>
    if v6 ≥ y5 then (
      k110 v2 v3 v4 v5)
    else (
      (zgR 9 M v0 47).bind fun (y6 : Nat) =>
      (zlI 100 M y6 v6).bind fun (y7 : Int32) =>
      (fp_X11_bits y7).bind fun (y8 : Int32) =>
      zjn (fun (s9 : Int32) =>
          lett ((kmin v2 y8)) fun (v2_10 : Int32) =>
          lett ((kmax v3 y8)) fun (v3_11 : Int32) =>
          lett ((v5 + y8)) fun (v5_12 : Int32) =>
          fp_X11_family_L35 k110 v0 v1 M n v2_10 v3_11 s9 v5_12 (v6 + 1))
        (fun j81 =>
          if y8 ≥ v2 then (
            if y8 ≠ v2 then (
              j81 v4)
            else (
              j81 (v4 + 1)))
          else (
            j81 1)))
def fp_X11_family (v0 : Nat) (v1 : Int32) (M : zM) : Option (Int32 × zM) :=
  zthis 9 M v0 (
    (fp_X11_isFrom v1 0 3).bind fun (y1 : Int32) =>
    if y1 ≠ 0 then (
      (fp_X11_laysClass v0 (-1) M).bind fun p4 => zpp p4 fun (y2 : Int32) (M3 : zM) =>
      fp_X11_family_L35
        (fun v2_13 v3_14 v4_15 v5_16 =>
          if v1 ≠ 0 then (
            if v1 ≠ 1 then (
              if v1 ≠ 2 then (
                (fp_X11_gives v0 v5_16 M3).bind fun p19 => zpp p19 fun (y17 : Int32) (M18 : zM) =>
                some (y17, M18))
              else (
                (fp_X11_gives v0 v4_15 M3).bind fun p22 => zpp p22 fun (y20 : Int32) (M21 : zM) =>
                some (y20, M21)))
            else (
              (fp_X11_gives v0 v3_14 M3).bind fun p25 => zpp p25 fun (y23 : Int32) (M24 : zM) =>
              some (y23, M24)))
          else (
            (fp_X11_gives v0 v2_13 M3).bind fun p28 => zpp p28 fun (y26 : Int32) (M27 : zM) =>
            some (y26, M27))) v0 v1 M3 FU 99 0 0 0 0)
    else (
      (fp_X11_refuse v0 1 M).bind fun p31 => zpp p31 fun (y29 : Int32) (M30 : zM) =>
      some (y29, M30)))
set_option maxHeartbeats 4000000 in
set_option maxRecDepth 100000 in
theorem th_X11_family {v0 : Nat} {v1 : Int32} {M : zM} {x0 : Int32 × zM} (h : fp_X11_family v0 v1 M = some x0) : v0 < zS M ∧ kd v0 = 9 := by
  unfold fp_X11_family at h
  exact zthis_of h
set_option maxHeartbeats 4000000 in
set_option maxRecDepth 100000 in
theorem w_X11_family_L35 (E : zEnv) (hE : zEok E) (d : Nat) (hd : 4 ≤ d) (M0 : zM) (x0 : Int32 × zM) (v0 : Nat) (v1 : Int32) (M : zM) (k110 : Int32 → Int32 → Int32 → Int32 → Option (Int32 × zM)) (hk110 : ∀ (v2 : Int32) (v3 : Int32) (v4 : Int32) (v5 : Int32), zSy E mu_X11_family d M0 (some (.int x0.1), x0.2) x0 (k110 v2 v3 v4 v5) 110 [(0, .ref (E.2.2.2.1 + v0)), (1, .int v1), (2, .int v2), (3, .int v3), (4, .int v4), (5, .int v5)] [] M) : ∀ (n : Nat) (v2 : Int32) (v3 : Int32) (v4 : Int32) (v5 : Int32) (v6 : Int32), zSy E mu_X11_family d M0 (some (.int x0.1), x0.2) x0 (fp_X11_family_L35 k110 v0 v1 M n v2 v3 v4 v5 v6) 35 [(0, .ref (E.2.2.2.1 + v0)), (1, .int v1), (2, .int v2), (3, .int v3), (4, .int v4), (5, .int v5), (6, .int v6)] [] M := by
  intro n
  induction n with
  | zero =>
    intro v2 v3 v4 v5 v6
    rw [fp_X11_family_L35]
    exact zs_none
  | succ n ih =>
    intro v2 v3 v4 v5 v6
    rw [fp_X11_family_L35]
    refine zs_iload dX11_family_35 6 rfl ?_
    refine zs_aload_n dX11_family_37 rfl 0 rfl ?_
    refine zs_getI dX11_family_38 fl_X11_437 rfl (fun y5 => ?_)
    refine zs_icmp_ge dX11_family_41 rfl ?_ ?_
    · refine zs_sub (loc' := [(0, .ref (E.2.2.2.1 + v0)), (1, .int v1), (2, .int v2), (3, .int v3), (4, .int v4), (5, .int v5)]) [0, 1, 2, 3, 4, 5] rfl ?_
      exact hk110 v2 v3 v4 v5
    refine zs_aload_n dX11_family_44 rfl 0 rfl ?_
    refine zs_getR dX11_family_45 fl_X11_88 rfl (fun y6 => ?_)
    refine zs_iload dX11_family_48 6 rfl ?_
    refine zs_ldI dX11_family_50 (fun y7 => ?_)
    refine zs_invSPI (rest := []) [.int y7] dX11_family_51 lk_X11_122 rfl (zd1 rfl hd) rfl (Nat.le_of_ble_eq_true rfl) (ct_X11_bits E hE _ (zdl rfl hd) _ _) (fun y8 => ?_)
    refine zs_istore (loc' := [(0, .ref (E.2.2.2.1 + v0)), (1, .int v1), (2, .int v2), (3, .int v3), (4, .int v4), (5, .int v5), (6, .int v6), (7, .int y8)]) dX11_family_54 (Nat.le_of_ble_eq_true rfl) [1, 2, 3, 4, 5, 6, 7, 0] rfl ?_
    refine zs_iload dX11_family_56 7 rfl ?_
    refine zs_iload_n dX11_family_58 rfl 2 rfl ?_
    refine zs_jn (fun j81 => ∀ (s9 : Int32), zSy E mu_X11_family d M0 (some (.int x0.1), x0.2) x0 (j81 s9) 81 [(0, .ref (E.2.2.2.1 + v0)), (1, .int v1), (2, .int v2), (3, .int v3), (5, .int v5), (6, .int v6), (7, .int y8)] [.int s9] M) (fun s9 => ?_) (fun j81 hj81 => ?_)
    · refine zs_istore (loc' := [(0, .ref (E.2.2.2.1 + v0)), (1, .int v1), (2, .int v2), (3, .int v3), (4, .int s9), (5, .int v5), (6, .int v6), (7, .int y8)]) dX11_family_81 (Nat.le_of_ble_eq_true rfl) [1, 2, 3, 4, 0, 5, 6, 7] rfl ?_
      refine zs_iload_n dX11_family_83 rfl 2 rfl ?_
      refine zs_iload dX11_family_84 7 rfl ?_
      refine zs_min dX11_family_86 (ti_6 103 rfl rfl) ms_min mi_Math mc_min (zd0 rfl hd) (Nat.le_of_ble_eq_true rfl) ?_
      refine zs_istore_nL (loc' := fun v2_10 => [(0, .ref (E.2.2.2.1 + v0)), (1, .int v1), (2, .int v2_10), (3, .int v3), (4, .int s9), (5, .int v5), (6, .int v6), (7, .int y8)]) dX11_family_89 rfl (Nat.le_of_ble_eq_true rfl) [1, 2, 0, 3, 4, 5, 6, 7] (fun _ => rfl) (fun v2_10 => ?_)
      refine zs_iload_n dX11_family_90 rfl 3 rfl ?_
      refine zs_iload dX11_family_91 7 rfl ?_
      refine zs_max dX11_family_93 (ti_7 186 rfl rfl) ms_max mi_Math mc_max (zd0 rfl hd) (Nat.le_of_ble_eq_true rfl) ?_
      refine zs_istore_nL (loc' := fun v3_11 => [(0, .ref (E.2.2.2.1 + v0)), (1, .int v1), (2, .int v2_10), (3, .int v3_11), (4, .int s9), (5, .int v5), (6, .int v6), (7, .int y8)]) dX11_family_96 rfl (Nat.le_of_ble_eq_true rfl) [1, 2, 3, 0, 4, 5, 6, 7] (fun _ => rfl) (fun v3_11 => ?_)
      refine zs_iload dX11_family_97 5 rfl ?_
      refine zs_iload dX11_family_99 7 rfl ?_
      refine zs_iadd dX11_family_101 ?_
      refine zs_istoreL (loc' := fun v5_12 => [(0, .ref (E.2.2.2.1 + v0)), (1, .int v1), (2, .int v2_10), (3, .int v3_11), (4, .int s9), (5, .int v5_12), (6, .int v6)]) dX11_family_102 (Nat.le_of_ble_eq_true rfl) [1, 2, 3, 4, 5, 0, 6] (fun _ => rfl) (fun v5_12 => ?_)
      refine zs_iinc (v := (v6 + 1)) (loc' := [(0, .ref (E.2.2.2.1 + v0)), (1, .int v1), (2, .int v2_10), (3, .int v3_11), (4, .int s9), (5, .int v5_12), (6, .int (v6 + 1))]) dX11_family_104 6 rfl (by rfl) (Nat.le_of_ble_eq_true rfl) [1, 2, 3, 4, 5, 6, 0] rfl ?_
      refine zs_goto dX11_family_107 rfl ?_
      exact ih v2_10 v3_11 s9 v5_12 (v6 + 1)
    refine zs_icmp_ge dX11_family_59 rfl ?_ ?_
    · refine zs_iload dX11_family_66 7 rfl ?_
      refine zs_iload_n dX11_family_68 rfl 2 rfl ?_
      refine zs_icmp_ne dX11_family_69 rfl ?_ ?_
      · refine zs_iload dX11_family_79 4 rfl ?_
        refine zs_sub (loc' := [(0, .ref (E.2.2.2.1 + v0)), (1, .int v1), (2, .int v2), (3, .int v3), (5, .int v5), (6, .int v6), (7, .int y8)]) [0, 1, 2, 3, 5, 6, 7] rfl ?_
        exact hj81 v4
      refine zs_iload dX11_family_72 4 rfl ?_
      refine zs_iconst (v := 1) dX11_family_74 ciconst_1 ?_
      refine zs_iadd dX11_family_75 ?_
      refine zs_goto dX11_family_76 rfl ?_
      refine zs_sub (loc' := [(0, .ref (E.2.2.2.1 + v0)), (1, .int v1), (2, .int v2), (3, .int v3), (5, .int v5), (6, .int v6), (7, .int y8)]) [0, 1, 2, 3, 5, 6, 7] rfl ?_
      exact hj81 (v4 + 1)
    refine zs_iconst (v := 1) dX11_family_62 ciconst_1 ?_
    refine zs_goto dX11_family_63 rfl ?_
    refine zs_sub (loc' := [(0, .ref (E.2.2.2.1 + v0)), (1, .int v1), (2, .int v2), (3, .int v3), (5, .int v5), (6, .int v6), (7, .int y8)]) [0, 1, 2, 3, 5, 6, 7] rfl ?_
    exact hj81 1
set_option maxHeartbeats 4000000 in
set_option maxRecDepth 100000 in
theorem ct_X11_family (E : zEnv) (hE : zEok E) (d : Nat) (hd : 4 ≤ d) (v0 : Nat) (v1 : Int32) (M : zM) (x0 : Int32 × zM) (hx : fp_X11_family v0 v1 M = some x0) : zCt E mu_X11_family d [.ref (E.2.2.2.1 + v0), .int v1] M (some (.int x0.1), x0.2) := by
  refine zCt_of (μ := mu_X11_family) (t := fp_X11_family v0 v1 M) rfl rfl (Nat.le_of_ble_eq_true rfl) hx ?_
  change zSy E mu_X11_family d M (some (.int x0.1), x0.2) x0 (fp_X11_family v0 v1 M) 0 [(0, .ref (E.2.2.2.1 + v0)), (1, .int v1)] [] M
  unfold fp_X11_family
  refine zs_this (fun hth => ?_)
  refine zs_iload_n dX11_family_0 rfl 1 rfl ?_
  refine zs_iconst (v := 0) dX11_family_1 ciconst_0 ?_
  refine zs_iconst (v := 3) dX11_family_2 ciconst_3 ?_
  refine zs_invSPI (rest := []) [.int v1, .int 0, .int 3] dX11_family_3 lk_X11_195 rfl (zd1 rfl hd) rfl (Nat.le_of_ble_eq_true rfl) (ct_X11_isFrom E hE _ (zdl rfl hd) _ _ _ _) (fun y1 => ?_)
  refine zs_if_ne dX11_family_6 rfl ?_ ?_
  · refine zs_aload_n dX11_family_15 rfl 0 rfl ?_
    refine zs_iconst (v := (-1)) dX11_family_16 ciconst_m1 ?_
    refine zs_invVWI (rest := []) [.int (-1)] dX11_family_17 lk_X11_266 rfl (fun _ h => th_X11_laysClass h) (zd1 rfl hd) rfl (Nat.le_of_ble_eq_true rfl) (ct_X11_laysClass E hE _ (zdl rfl hd) _ _ _) (fun y2 M3 => ?_)
    refine zs_pop dX11_family_20 rfl ?_
    refine zs_bipush (v := 99) dX11_family_21 cbipush_99 ?_
    refine zs_istore_n (loc' := [(0, .ref (E.2.2.2.1 + v0)), (1, .int v1), (2, .int 99)]) dX11_family_23 rfl (Nat.le_of_ble_eq_true rfl) [1, 2, 0] rfl ?_
    refine zs_iconst (v := 0) dX11_family_24 ciconst_0 ?_
    refine zs_istore_n (loc' := [(0, .ref (E.2.2.2.1 + v0)), (1, .int v1), (2, .int 99), (3, .int 0)]) dX11_family_25 rfl (Nat.le_of_ble_eq_true rfl) [1, 2, 3, 0] rfl ?_
    refine zs_iconst (v := 0) dX11_family_26 ciconst_0 ?_
    refine zs_istore (loc' := [(0, .ref (E.2.2.2.1 + v0)), (1, .int v1), (2, .int 99), (3, .int 0), (4, .int 0)]) dX11_family_27 (Nat.le_of_ble_eq_true rfl) [1, 2, 3, 4, 0] rfl ?_
    refine zs_iconst (v := 0) dX11_family_29 ciconst_0 ?_
    refine zs_istore (loc' := [(0, .ref (E.2.2.2.1 + v0)), (1, .int v1), (2, .int 99), (3, .int 0), (4, .int 0), (5, .int 0)]) dX11_family_30 (Nat.le_of_ble_eq_true rfl) [1, 2, 3, 4, 5, 0] rfl ?_
    refine zs_iconst (v := 0) dX11_family_32 ciconst_0 ?_
    refine zs_istore (loc' := [(0, .ref (E.2.2.2.1 + v0)), (1, .int v1), (2, .int 99), (3, .int 0), (4, .int 0), (5, .int 0), (6, .int 0)]) dX11_family_33 (Nat.le_of_ble_eq_true rfl) [1, 2, 3, 4, 5, 6, 0] rfl ?_
    refine w_X11_family_L35 E hE d hd _ _ _ _ _ _ (fun v2_13 v3_14 v4_15 v5_16 => ?_) _ _ _ _ _ _
    refine zs_aload_n dX11_family_110 rfl 0 rfl ?_
    refine zs_iload_n dX11_family_111 rfl 1 rfl ?_
    refine zs_if_ne dX11_family_112 rfl ?_ ?_
    · refine zs_iload_n dX11_family_119 rfl 1 rfl ?_
      refine zs_iconst (v := 1) dX11_family_120 ciconst_1 ?_
      refine zs_icmp_ne dX11_family_121 rfl ?_ ?_
      · refine zs_iload_n dX11_family_128 rfl 1 rfl ?_
        refine zs_iconst (v := 2) dX11_family_129 ciconst_2 ?_
        refine zs_icmp_ne dX11_family_130 rfl ?_ ?_
        · refine zs_iload dX11_family_138 5 rfl ?_
          refine zs_invVWI (rest := []) [.int v5_16] dX11_family_140 lk_X11_242 rfl (fun _ h => th_X11_gives h) (zd1 rfl hd) rfl (Nat.le_of_ble_eq_true rfl) (ct_X11_gives E hE _ (zdl rfl hd) _ _ _) (fun y17 M18 => ?_)
          exact zs_iretW dX11_family_143 rfl
        refine zs_iload dX11_family_133 4 rfl ?_
        refine zs_goto dX11_family_135 rfl ?_
        refine zs_invVWI (rest := []) [.int v4_15] dX11_family_140 lk_X11_242 rfl (fun _ h => th_X11_gives h) (zd1 rfl hd) rfl (Nat.le_of_ble_eq_true rfl) (ct_X11_gives E hE _ (zdl rfl hd) _ _ _) (fun y20 M21 => ?_)
        exact zs_iretW dX11_family_143 rfl
      refine zs_iload_n dX11_family_124 rfl 3 rfl ?_
      refine zs_goto dX11_family_125 rfl ?_
      refine zs_invVWI (rest := []) [.int v3_14] dX11_family_140 lk_X11_242 rfl (fun _ h => th_X11_gives h) (zd1 rfl hd) rfl (Nat.le_of_ble_eq_true rfl) (ct_X11_gives E hE _ (zdl rfl hd) _ _ _) (fun y23 M24 => ?_)
      exact zs_iretW dX11_family_143 rfl
    refine zs_iload_n dX11_family_115 rfl 2 rfl ?_
    refine zs_goto dX11_family_116 rfl ?_
    refine zs_invVWI (rest := []) [.int v2_13] dX11_family_140 lk_X11_242 rfl (fun _ h => th_X11_gives h) (zd1 rfl hd) rfl (Nat.le_of_ble_eq_true rfl) (ct_X11_gives E hE _ (zdl rfl hd) _ _ _) (fun y26 M27 => ?_)
    exact zs_iretW dX11_family_143 rfl
  refine zs_aload_n dX11_family_9 rfl 0 rfl ?_
  refine zs_iconst (v := 1) dX11_family_10 ciconst_1 ?_
  refine zs_invVWI (rest := []) [.int 1] dX11_family_11 lk_X11_226 rfl (fun _ h => th_X11_refuse h) (zd1 rfl hd) rfl (Nat.le_of_ble_eq_true rfl) (ct_X11_refuse E hE _ (zdl rfl hd) _ _ _) (fun y29 M30 => ?_)
  exact zs_iretW dX11_family_14 rfl
theorem dX11_imageCode_0 : decode cX11_imageCode 0 = .ok (.aload_n 0, 1) := by decide +kernel
theorem dX11_imageCode_1 : decode cX11_imageCode 1 = .ok (.getfield 42, 3) := by decide +kernel
theorem dX11_imageCode_4 : decode cX11_imageCode 4 = .ok (.bipush 8, 2) := by decide +kernel
theorem dX11_imageCode_6 : decode cX11_imageCode 6 = .ok (.iload_n 1, 1) := by decide +kernel
theorem dX11_imageCode_7 : decode cX11_imageCode 7 = .ok (.imul, 1) := by decide +kernel
theorem dX11_imageCode_8 : decode cX11_imageCode 8 = .ok (.iconst 1, 1) := by decide +kernel
theorem dX11_imageCode_9 : decode cX11_imageCode 9 = .ok (.iadd, 1) := by decide +kernel
theorem dX11_imageCode_10 : decode cX11_imageCode 10 = .ok (.aload_n 0, 1) := by decide +kernel
theorem dX11_imageCode_11 : decode cX11_imageCode 11 = .ok (.getfield 42, 3) := by decide +kernel
theorem dX11_imageCode_14 : decode cX11_imageCode 14 = .ok (.bipush 8, 2) := by decide +kernel
theorem dX11_imageCode_16 : decode cX11_imageCode 16 = .ok (.iload_n 1, 1) := by decide +kernel
theorem dX11_imageCode_17 : decode cX11_imageCode 17 = .ok (.imul, 1) := by decide +kernel
theorem dX11_imageCode_18 : decode cX11_imageCode 18 = .ok (.iaload, 1) := by decide +kernel
theorem dX11_imageCode_19 : decode cX11_imageCode 19 = .ok (.invokestatic 440, 3) := by decide +kernel
theorem dX11_imageCode_22 : decode cX11_imageCode 22 = .ok (.ireturn, 1) := by decide +kernel
def fp_X11_imageCode (v0 : Nat) (v1 : Int32) (M : zM) : Option (Int32) :=
  zthis 9 M v0 (
    (zgR 9 M v0 18).bind fun (y1 : Nat) =>
    (zgR 9 M v0 18).bind fun (y2 : Nat) =>
    (zlI 100 M y2 (8 * v1)).bind fun (y3 : Int32) =>
    (fp_X11_codeOf y1 ((8 * v1) + 1) y3 M).bind fun (y4 : Int32) =>
    some y4)
set_option maxHeartbeats 4000000 in
set_option maxRecDepth 100000 in
theorem th_X11_imageCode {v0 : Nat} {v1 : Int32} {M : zM} {x0 : Int32} (h : fp_X11_imageCode v0 v1 M = some x0) : v0 < zS M ∧ kd v0 = 9 := by
  unfold fp_X11_imageCode at h
  exact zthis_of h
set_option maxHeartbeats 4000000 in
set_option maxRecDepth 100000 in
theorem ct_X11_imageCode (E : zEnv) (hE : zEok E) (d : Nat) (hd : 3 ≤ d) (v0 : Nat) (v1 : Int32) (M : zM) (x0 : Int32) (hx : fp_X11_imageCode v0 v1 M = some x0) : zCt E mu_X11_imageCode d [.ref (E.2.2.2.1 + v0), .int v1] M (some (.int x0), M) := by
  refine zCt_of (μ := mu_X11_imageCode) (t := fp_X11_imageCode v0 v1 M) rfl rfl (Nat.le_of_ble_eq_true rfl) hx ?_
  change zSy E mu_X11_imageCode d M (some (.int x0), M) x0 (fp_X11_imageCode v0 v1 M) 0 [(0, .ref (E.2.2.2.1 + v0)), (1, .int v1)] [] M
  unfold fp_X11_imageCode
  refine zs_this (fun hth => ?_)
  refine zs_aload_n dX11_imageCode_0 rfl 0 rfl ?_
  refine zs_getR dX11_imageCode_1 fl_X11_42 rfl (fun y1 => ?_)
  refine zs_bipush (v := 8) dX11_imageCode_4 cbipush_8 ?_
  refine zs_iload_n dX11_imageCode_6 rfl 1 rfl ?_
  refine zs_imul dX11_imageCode_7 ?_
  refine zs_iconst (v := 1) dX11_imageCode_8 ciconst_1 ?_
  refine zs_iadd dX11_imageCode_9 ?_
  refine zs_aload_n dX11_imageCode_10 rfl 0 rfl ?_
  refine zs_getR dX11_imageCode_11 fl_X11_42 rfl (fun y2 => ?_)
  refine zs_bipush (v := 8) dX11_imageCode_14 cbipush_8 ?_
  refine zs_iload_n dX11_imageCode_16 rfl 1 rfl ?_
  refine zs_imul dX11_imageCode_17 ?_
  refine zs_ldI dX11_imageCode_18 (fun y3 => ?_)
  refine zs_invSPI (rest := []) [.ref (E.2.2.2.1 + y1), .int ((8 * v1) + 1), .int y3] dX11_imageCode_19 lk_X11_440 rfl (zd1 rfl hd) rfl (Nat.le_of_ble_eq_true rfl) (ct_X11_codeOf E hE _ (zdl rfl hd) _ _ _ _) (fun y4 => ?_)
  exact zs_iretP dX11_imageCode_22 rfl
theorem dX11_turns_0 : decode cX11_turns 0 = .ok (.aload_n 0, 1) := by decide +kernel
theorem dX11_turns_1 : decode cX11_turns 1 = .ok (.iload_n 1, 1) := by decide +kernel
theorem dX11_turns_2 : decode cX11_turns 2 = .ok (.invokevirtual 287, 3) := by decide +kernel
theorem dX11_turns_5 : decode cX11_turns 5 = .ok (.istore_n 2, 1) := by decide +kernel
theorem dX11_turns_6 : decode cX11_turns 6 = .ok (.iload_n 2, 1) := by decide +kernel
theorem dX11_turns_7 : decode cX11_turns 7 = .ok (.ifCond .ne 22, 3) := by decide +kernel
theorem dX11_turns_10 : decode cX11_turns 10 = .ok (.aload_n 0, 1) := by decide +kernel
theorem dX11_turns_11 : decode cX11_turns 11 = .ok (.getfield 42, 3) := by decide +kernel
theorem dX11_turns_14 : decode cX11_turns 14 = .ok (.bipush 8, 2) := by decide +kernel
theorem dX11_turns_16 : decode cX11_turns 16 = .ok (.iload_n 1, 1) := by decide +kernel
theorem dX11_turns_17 : decode cX11_turns 17 = .ok (.imul, 1) := by decide +kernel
theorem dX11_turns_18 : decode cX11_turns 18 = .ok (.iaload, 1) := by decide +kernel
theorem dX11_turns_19 : decode cX11_turns 19 = .ok (.aload_n 0, 1) := by decide +kernel
theorem dX11_turns_20 : decode cX11_turns 20 = .ok (.getfield 101, 3) := by decide +kernel
theorem dX11_turns_23 : decode cX11_turns 23 = .ok (.if_icmp .eq 6, 3) := by decide +kernel
theorem dX11_turns_26 : decode cX11_turns 26 = .ok (.bipush 7, 2) := by decide +kernel
theorem dX11_turns_28 : decode cX11_turns 28 = .ok (.istore_n 2, 1) := by decide +kernel
theorem dX11_turns_29 : decode cX11_turns 29 = .ok (.iload_n 2, 1) := by decide +kernel
theorem dX11_turns_30 : decode cX11_turns 30 = .ok (.ifCond .le 9, 3) := by decide +kernel
theorem dX11_turns_33 : decode cX11_turns 33 = .ok (.aload_n 0, 1) := by decide +kernel
theorem dX11_turns_34 : decode cX11_turns 34 = .ok (.iload_n 2, 1) := by decide +kernel
theorem dX11_turns_35 : decode cX11_turns 35 = .ok (.invokevirtual 226, 3) := by decide +kernel
theorem dX11_turns_38 : decode cX11_turns 38 = .ok (.ireturn, 1) := by decide +kernel
theorem dX11_turns_39 : decode cX11_turns 39 = .ok (.aload_n 0, 1) := by decide +kernel
theorem dX11_turns_40 : decode cX11_turns 40 = .ok (.aload_n 0, 1) := by decide +kernel
theorem dX11_turns_41 : decode cX11_turns 41 = .ok (.iload_n 1, 1) := by decide +kernel
theorem dX11_turns_42 : decode cX11_turns 42 = .ok (.invokevirtual 453, 3) := by decide +kernel
theorem dX11_turns_45 : decode cX11_turns 45 = .ok (.invokevirtual 266, 3) := by decide +kernel
theorem dX11_turns_48 : decode cX11_turns 48 = .ok (.pop, 1) := by decide +kernel
theorem dX11_turns_49 : decode cX11_turns 49 = .ok (.aload_n 0, 1) := by decide +kernel
theorem dX11_turns_50 : decode cX11_turns 50 = .ok (.getfield 443, 3) := by decide +kernel
theorem dX11_turns_53 : decode cX11_turns 53 = .ok (.iconst (-1), 1) := by decide +kernel
theorem dX11_turns_54 : decode cX11_turns 54 = .ok (.if_icmp .ne 12, 3) := by decide +kernel
theorem dX11_turns_57 : decode cX11_turns 57 = .ok (.aload_n 0, 1) := by decide +kernel
theorem dX11_turns_58 : decode cX11_turns 58 = .ok (.bipush 6, 2) := by decide +kernel
theorem dX11_turns_60 : decode cX11_turns 60 = .ok (.invokevirtual 226, 3) := by decide +kernel
theorem dX11_turns_63 : decode cX11_turns 63 = .ok (.goto 11, 3) := by decide +kernel
theorem dX11_turns_66 : decode cX11_turns 66 = .ok (.aload_n 0, 1) := by decide +kernel
theorem dX11_turns_67 : decode cX11_turns 67 = .ok (.aload_n 0, 1) := by decide +kernel
theorem dX11_turns_68 : decode cX11_turns 68 = .ok (.getfield 443, 3) := by decide +kernel
theorem dX11_turns_71 : decode cX11_turns 71 = .ok (.invokevirtual 242, 3) := by decide +kernel
theorem dX11_turns_74 : decode cX11_turns 74 = .ok (.ireturn, 1) := by decide +kernel
def fp_X11_turns (v0 : Nat) (v1 : Int32) (M : zM) : Option (Int32 × zM) :=
  zthis 9 M v0 (
    (fp_X11_wrongImage v0 v1 M).bind fun (y1 : Int32) =>
    zjn (fun (v2_2 : Int32) =>
        if v2_2 ≤ 0 then (
          (fp_X11_imageCode v0 v1 M).bind fun (y3 : Int32) =>
          (fp_X11_laysClass v0 y3 M).bind fun p6 => zpp p6 fun (y4 : Int32) (M5 : zM) =>
          (zgI 9 M5 v0 50).bind fun (y7 : Int32) =>
          if y7 ≠ (-1) then (
            (zgI 9 M5 v0 50).bind fun (y8 : Int32) =>
            (fp_X11_gives v0 y8 M5).bind fun p11 => zpp p11 fun (y9 : Int32) (M10 : zM) =>
            some (y9, M10))
          else (
            (fp_X11_refuse v0 6 M5).bind fun p14 => zpp p14 fun (y12 : Int32) (M13 : zM) =>
            some (y12, M13)))
        else (
          (fp_X11_refuse v0 v2_2 M).bind fun p17 => zpp p17 fun (y15 : Int32) (M16 : zM) =>
          some (y15, M16)))
      (fun j29 =>
        if y1 ≠ 0 then (
          j29 y1)
        else (
          (zgR 9 M v0 18).bind fun (y18 : Nat) =>
          (zlI 100 M y18 (8 * v1)).bind fun (y19 : Int32) =>
          (zgI 9 M v0 0).bind fun (y20 : Int32) =>
          if y19 = y20 then (
            j29 y1)
          else (
            j29 7))))
set_option maxHeartbeats 4000000 in
set_option maxRecDepth 100000 in
theorem th_X11_turns {v0 : Nat} {v1 : Int32} {M : zM} {x0 : Int32 × zM} (h : fp_X11_turns v0 v1 M = some x0) : v0 < zS M ∧ kd v0 = 9 := by
  unfold fp_X11_turns at h
  exact zthis_of h
set_option maxHeartbeats 4000000 in
set_option maxRecDepth 100000 in
theorem ct_X11_turns (E : zEnv) (hE : zEok E) (d : Nat) (hd : 4 ≤ d) (v0 : Nat) (v1 : Int32) (M : zM) (x0 : Int32 × zM) (hx : fp_X11_turns v0 v1 M = some x0) : zCt E mu_X11_turns d [.ref (E.2.2.2.1 + v0), .int v1] M (some (.int x0.1), x0.2) := by
  refine zCt_of (μ := mu_X11_turns) (t := fp_X11_turns v0 v1 M) rfl rfl (Nat.le_of_ble_eq_true rfl) hx ?_
  change zSy E mu_X11_turns d M (some (.int x0.1), x0.2) x0 (fp_X11_turns v0 v1 M) 0 [(0, .ref (E.2.2.2.1 + v0)), (1, .int v1)] [] M
  unfold fp_X11_turns
  refine zs_this (fun hth => ?_)
  refine zs_aload_n dX11_turns_0 rfl 0 rfl ?_
  refine zs_iload_n dX11_turns_1 rfl 1 rfl ?_
  refine zs_invVPI (rest := []) [.int v1] dX11_turns_2 lk_X11_287 rfl (fun _ h => th_X11_wrongImage h) (zd1 rfl hd) rfl (Nat.le_of_ble_eq_true rfl) (ct_X11_wrongImage E hE _ (zdl rfl hd) _ _ _) (fun y1 => ?_)
  refine zs_istore_n (loc' := [(0, .ref (E.2.2.2.1 + v0)), (1, .int v1), (2, .int y1)]) dX11_turns_5 rfl (Nat.le_of_ble_eq_true rfl) [1, 2, 0] rfl ?_
  refine zs_iload_n dX11_turns_6 rfl 2 rfl ?_
  refine zs_jn (fun j29 => ∀ (v2_2 : Int32), zSy E mu_X11_turns d M (some (.int x0.1), x0.2) x0 (j29 v2_2) 29 [(0, .ref (E.2.2.2.1 + v0)), (1, .int v1), (2, .int v2_2)] [] M) (fun v2_2 => ?_) (fun j29 hj29 => ?_)
  · refine zs_iload_n dX11_turns_29 rfl 2 rfl ?_
    refine zs_if_le dX11_turns_30 rfl ?_ ?_
    · refine zs_aload_n dX11_turns_39 rfl 0 rfl ?_
      refine zs_aload_n dX11_turns_40 rfl 0 rfl ?_
      refine zs_iload_n dX11_turns_41 rfl 1 rfl ?_
      refine zs_invVPI (rest := [.ref (E.2.2.2.1 + v0)]) [.int v1] dX11_turns_42 lk_X11_453 rfl (fun _ h => th_X11_imageCode h) (zd1 rfl hd) rfl (Nat.le_of_ble_eq_true rfl) (ct_X11_imageCode E hE _ (zdl rfl hd) _ _ _) (fun y3 => ?_)
      refine zs_invVWI (rest := []) [.int y3] dX11_turns_45 lk_X11_266 rfl (fun _ h => th_X11_laysClass h) (zd1 rfl hd) rfl (Nat.le_of_ble_eq_true rfl) (ct_X11_laysClass E hE _ (zdl rfl hd) _ _ _) (fun y4 M5 => ?_)
      refine zs_pop dX11_turns_48 rfl ?_
      refine zs_aload_n dX11_turns_49 rfl 0 rfl ?_
      refine zs_getI dX11_turns_50 fl_X11_443 rfl (fun y7 => ?_)
      refine zs_iconst (v := (-1)) dX11_turns_53 ciconst_m1 ?_
      refine zs_icmp_ne dX11_turns_54 rfl ?_ ?_
      · refine zs_aload_n dX11_turns_66 rfl 0 rfl ?_
        refine zs_aload_n dX11_turns_67 rfl 0 rfl ?_
        refine zs_getI dX11_turns_68 fl_X11_443 rfl (fun y8 => ?_)
        refine zs_invVWI (rest := []) [.int y8] dX11_turns_71 lk_X11_242 rfl (fun _ h => th_X11_gives h) (zd1 rfl hd) rfl (Nat.le_of_ble_eq_true rfl) (ct_X11_gives E hE _ (zdl rfl hd) _ _ _) (fun y9 M10 => ?_)
        exact zs_iretW dX11_turns_74 rfl
      refine zs_aload_n dX11_turns_57 rfl 0 rfl ?_
      refine zs_bipush (v := 6) dX11_turns_58 cbipush_6 ?_
      refine zs_invVWI (rest := []) [.int 6] dX11_turns_60 lk_X11_226 rfl (fun _ h => th_X11_refuse h) (zd1 rfl hd) rfl (Nat.le_of_ble_eq_true rfl) (ct_X11_refuse E hE _ (zdl rfl hd) _ _ _) (fun y12 M13 => ?_)
      refine zs_goto dX11_turns_63 rfl ?_
      exact zs_iretW dX11_turns_74 rfl
    refine zs_aload_n dX11_turns_33 rfl 0 rfl ?_
    refine zs_iload_n dX11_turns_34 rfl 2 rfl ?_
    refine zs_invVWI (rest := []) [.int v2_2] dX11_turns_35 lk_X11_226 rfl (fun _ h => th_X11_refuse h) (zd1 rfl hd) rfl (Nat.le_of_ble_eq_true rfl) (ct_X11_refuse E hE _ (zdl rfl hd) _ _ _) (fun y15 M16 => ?_)
    exact zs_iretW dX11_turns_38 rfl
  refine zs_if_ne dX11_turns_7 rfl ?_ ?_
  · exact hj29 y1
  refine zs_aload_n dX11_turns_10 rfl 0 rfl ?_
  refine zs_getR dX11_turns_11 fl_X11_42 rfl (fun y18 => ?_)
  refine zs_bipush (v := 8) dX11_turns_14 cbipush_8 ?_
  refine zs_iload_n dX11_turns_16 rfl 1 rfl ?_
  refine zs_imul dX11_turns_17 ?_
  refine zs_ldI dX11_turns_18 (fun y19 => ?_)
  refine zs_aload_n dX11_turns_19 rfl 0 rfl ?_
  refine zs_getI dX11_turns_20 fl_X11_101 rfl (fun y20 => ?_)
  refine zs_icmp_eq dX11_turns_23 rfl ?_ ?_
  · exact hj29 y1
  refine zs_bipush (v := 7) dX11_turns_26 cbipush_7 ?_
  refine zs_istore_n (loc' := [(0, .ref (E.2.2.2.1 + v0)), (1, .int v1), (2, .int 7)]) dX11_turns_28 rfl (Nat.le_of_ble_eq_true rfl) [1, 2, 0] rfl ?_
  exact hj29 7
theorem dX11_within_0 : decode cX11_within 0 = .ok (.aload_n 0, 1) := by decide +kernel
theorem dX11_within_1 : decode cX11_within 1 = .ok (.iload_n 1, 1) := by decide +kernel
theorem dX11_within_2 : decode cX11_within 2 = .ok (.invokevirtual 287, 3) := by decide +kernel
theorem dX11_within_5 : decode cX11_within 5 = .ok (.istore_n 2, 1) := by decide +kernel
theorem dX11_within_6 : decode cX11_within 6 = .ok (.iload_n 2, 1) := by decide +kernel
theorem dX11_within_7 : decode cX11_within 7 = .ok (.ifCond .ne 22, 3) := by decide +kernel
theorem dX11_within_10 : decode cX11_within 10 = .ok (.aload_n 0, 1) := by decide +kernel
theorem dX11_within_11 : decode cX11_within 11 = .ok (.getfield 42, 3) := by decide +kernel
theorem dX11_within_14 : decode cX11_within 14 = .ok (.bipush 8, 2) := by decide +kernel
theorem dX11_within_16 : decode cX11_within 16 = .ok (.iload_n 1, 1) := by decide +kernel
theorem dX11_within_17 : decode cX11_within 17 = .ok (.imul, 1) := by decide +kernel
theorem dX11_within_18 : decode cX11_within 18 = .ok (.iaload, 1) := by decide +kernel
theorem dX11_within_19 : decode cX11_within 19 = .ok (.aload_n 0, 1) := by decide +kernel
theorem dX11_within_20 : decode cX11_within 20 = .ok (.getfield 101, 3) := by decide +kernel
theorem dX11_within_23 : decode cX11_within 23 = .ok (.if_icmp .le 6, 3) := by decide +kernel
theorem dX11_within_26 : decode cX11_within 26 = .ok (.bipush 7, 2) := by decide +kernel
theorem dX11_within_28 : decode cX11_within 28 = .ok (.istore_n 2, 1) := by decide +kernel
theorem dX11_within_29 : decode cX11_within 29 = .ok (.iload_n 2, 1) := by decide +kernel
theorem dX11_within_30 : decode cX11_within 30 = .ok (.ifCond .le 9, 3) := by decide +kernel
theorem dX11_within_33 : decode cX11_within 33 = .ok (.aload_n 0, 1) := by decide +kernel
theorem dX11_within_34 : decode cX11_within 34 = .ok (.iload_n 2, 1) := by decide +kernel
theorem dX11_within_35 : decode cX11_within 35 = .ok (.invokevirtual 226, 3) := by decide +kernel
theorem dX11_within_38 : decode cX11_within 38 = .ok (.ireturn, 1) := by decide +kernel
theorem dX11_within_39 : decode cX11_within 39 = .ok (.aload_n 0, 1) := by decide +kernel
theorem dX11_within_40 : decode cX11_within 40 = .ok (.getfield 42, 3) := by decide +kernel
theorem dX11_within_43 : decode cX11_within 43 = .ok (.bipush 8, 2) := by decide +kernel
theorem dX11_within_45 : decode cX11_within 45 = .ok (.iload_n 1, 1) := by decide +kernel
theorem dX11_within_46 : decode cX11_within 46 = .ok (.imul, 1) := by decide +kernel
theorem dX11_within_47 : decode cX11_within 47 = .ok (.iaload, 1) := by decide +kernel
theorem dX11_within_48 : decode cX11_within 48 = .ok (.istore_n 3, 1) := by decide +kernel
theorem dX11_within_49 : decode cX11_within 49 = .ok (.iconst 1, 1) := by decide +kernel
theorem dX11_within_50 : decode cX11_within 50 = .ok (.iload_n 3, 1) := by decide +kernel
theorem dX11_within_51 : decode cX11_within 51 = .ok (.iload_n 3, 1) := by decide +kernel
theorem dX11_within_52 : decode cX11_within 52 = .ok (.iconst 1, 1) := by decide +kernel
theorem dX11_within_53 : decode cX11_within 53 = .ok (.isub, 1) := by decide +kernel
theorem dX11_within_54 : decode cX11_within 54 = .ok (.imul, 1) := by decide +kernel
theorem dX11_within_55 : decode cX11_within 55 = .ok (.iconst 2, 1) := by decide +kernel
theorem dX11_within_56 : decode cX11_within 56 = .ok (.idiv, 1) := by decide +kernel
theorem dX11_within_57 : decode cX11_within 57 = .ok (.ishl, 1) := by decide +kernel
theorem dX11_within_58 : decode cX11_within 58 = .ok (.iconst 1, 1) := by decide +kernel
theorem dX11_within_59 : decode cX11_within 59 = .ok (.isub, 1) := by decide +kernel
theorem dX11_within_60 : decode cX11_within 60 = .ok (.istore 4, 2) := by decide +kernel
theorem dX11_within_62 : decode cX11_within 62 = .ok (.iconst 0, 1) := by decide +kernel
theorem dX11_within_63 : decode cX11_within 63 = .ok (.istore 5, 2) := by decide +kernel
theorem dX11_within_65 : decode cX11_within 65 = .ok (.aload_n 0, 1) := by decide +kernel
theorem dX11_within_66 : decode cX11_within 66 = .ok (.iconst (-1), 1) := by decide +kernel
theorem dX11_within_67 : decode cX11_within 67 = .ok (.invokevirtual 266, 3) := by decide +kernel
theorem dX11_within_70 : decode cX11_within 70 = .ok (.pop, 1) := by decide +kernel
theorem dX11_within_71 : decode cX11_within 71 = .ok (.iconst 0, 1) := by decide +kernel
theorem dX11_within_72 : decode cX11_within 72 = .ok (.istore 6, 2) := by decide +kernel
theorem dX11_within_74 : decode cX11_within 74 = .ok (.iload 6, 2) := by decide +kernel
theorem dX11_within_76 : decode cX11_within 76 = .ok (.aload_n 0, 1) := by decide +kernel
theorem dX11_within_77 : decode cX11_within 77 = .ok (.getfield 437, 3) := by decide +kernel
theorem dX11_within_80 : decode cX11_within 80 = .ok (.if_icmp .ge 39, 3) := by decide +kernel
theorem dX11_within_83 : decode cX11_within 83 = .ok (.iload 5, 2) := by decide +kernel
theorem dX11_within_85 : decode cX11_within 85 = .ok (.ifCond .ne 21, 3) := by decide +kernel
theorem dX11_within_88 : decode cX11_within 88 = .ok (.aload_n 0, 1) := by decide +kernel
theorem dX11_within_89 : decode cX11_within 89 = .ok (.getfield 88, 3) := by decide +kernel
theorem dX11_within_92 : decode cX11_within 92 = .ok (.iload 6, 2) := by decide +kernel
theorem dX11_within_94 : decode cX11_within 94 = .ok (.iaload, 1) := by decide +kernel
theorem dX11_within_95 : decode cX11_within 95 = .ok (.iload 4, 2) := by decide +kernel
theorem dX11_within_97 : decode cX11_within 97 = .ok (.iand, 1) := by decide +kernel
theorem dX11_within_98 : decode cX11_within 98 = .ok (.aload_n 0, 1) := by decide +kernel
theorem dX11_within_99 : decode cX11_within 99 = .ok (.iload_n 1, 1) := by decide +kernel
theorem dX11_within_100 : decode cX11_within 100 = .ok (.invokevirtual 453, 3) := by decide +kernel
theorem dX11_within_103 : decode cX11_within 103 = .ok (.if_icmp .ne 7, 3) := by decide +kernel
theorem dX11_within_106 : decode cX11_within 106 = .ok (.iconst 1, 1) := by decide +kernel
theorem dX11_within_107 : decode cX11_within 107 = .ok (.goto 4, 3) := by decide +kernel
theorem dX11_within_110 : decode cX11_within 110 = .ok (.iconst 0, 1) := by decide +kernel
theorem dX11_within_111 : decode cX11_within 111 = .ok (.istore 5, 2) := by decide +kernel
theorem dX11_within_113 : decode cX11_within 113 = .ok (.iinc 6 1, 3) := by decide +kernel
theorem dX11_within_116 : decode cX11_within 116 = .ok (.goto (-42), 3) := by decide +kernel
theorem dX11_within_119 : decode cX11_within 119 = .ok (.aload_n 0, 1) := by decide +kernel
theorem dX11_within_120 : decode cX11_within 120 = .ok (.iload 5, 2) := by decide +kernel
theorem dX11_within_122 : decode cX11_within 122 = .ok (.ifCond .eq 7, 3) := by decide +kernel
theorem dX11_within_125 : decode cX11_within 125 = .ok (.iconst 1, 1) := by decide +kernel
theorem dX11_within_126 : decode cX11_within 126 = .ok (.goto 4, 3) := by decide +kernel
theorem dX11_within_129 : decode cX11_within 129 = .ok (.iconst 0, 1) := by decide +kernel
theorem dX11_within_130 : decode cX11_within 130 = .ok (.invokevirtual 242, 3) := by decide +kernel
theorem dX11_within_133 : decode cX11_within 133 = .ok (.ireturn, 1) := by decide +kernel
def fp_X11_within_L74 (k119 : Int32 → Option (Int32 × zM)) (v0 : Nat) (v1 : Int32) (v4 : Int32) (M : zM) : Nat → Int32 → Int32 → Option (Int32 × zM)
  | 0, _, _ => none
  | n + 1, v5, v6 =>
    (zgI 9 M v0 49).bind fun (y9 : Int32) =>
    if v6 ≥ y9 then (
      k119 v5)
    else (
      zjn (fun (s10 : Int32) =>
          fp_X11_within_L74 k119 v0 v1 v4 M n s10 (v6 + 1))
        (fun j111 =>
          zjn (
              j111 1)
            (fun j106 =>
              if v5 ≠ 0 then (
                j106)
              else (
                (zgR 9 M v0 47).bind fun (y11 : Nat) =>
                (zlI 100 M y11 v6).bind fun (y12 : Int32) =>
                (fp_X11_imageCode v0 v1 M).bind fun (y13 : Int32) =>
                if (y12 &&& v4) ≠ y13 then (
                  j111 0)
                else (
                  j106)))))
def fp_X11_within (v0 : Nat) (v1 : Int32) (M : zM) : Option (Int32 × zM) :=
  zthis 9 M v0 (
    (fp_X11_wrongImage v0 v1 M).bind fun (y1 : Int32) =>
    zjn (fun (v2_2 : Int32) =>
        if v2_2 ≤ 0 then (
          (zgR 9 M v0 18).bind fun (y3 : Nat) =>
          (zlI 100 M y3 (8 * v1)).bind fun (y4 : Int32) =>
          lett (((1 <<< (((y4 * (y4 - 1)) / 2) &&& 31)) - 1)) fun (v4_5 : Int32) =>
          (fp_X11_laysClass v0 (-1) M).bind fun p8 => zpp p8 fun (y6 : Int32) (M7 : zM) =>
          fp_X11_within_L74
            (fun v5_14 =>
              if v5_14 = 0 then (
                (fp_X11_gives v0 0 M7).bind fun p17 => zpp p17 fun (y15 : Int32) (M16 : zM) =>
                some (y15, M16))
              else (
                (fp_X11_gives v0 1 M7).bind fun p20 => zpp p20 fun (y18 : Int32) (M19 : zM) =>
                some (y18, M19))) v0 v1 v4_5 M7 FU 0 0)
        else (
          (fp_X11_refuse v0 v2_2 M).bind fun p23 => zpp p23 fun (y21 : Int32) (M22 : zM) =>
          some (y21, M22)))
      (fun j29 =>
        if y1 ≠ 0 then (
          j29 y1)
        else (
          (zgR 9 M v0 18).bind fun (y24 : Nat) =>
          (zlI 100 M y24 (8 * v1)).bind fun (y25 : Int32) =>
          (zgI 9 M v0 0).bind fun (y26 : Int32) =>
          if y25 ≤ y26 then (
            j29 y1)
          else (
            j29 7))))
set_option maxHeartbeats 4000000 in
set_option maxRecDepth 100000 in
theorem th_X11_within {v0 : Nat} {v1 : Int32} {M : zM} {x0 : Int32 × zM} (h : fp_X11_within v0 v1 M = some x0) : v0 < zS M ∧ kd v0 = 9 := by
  unfold fp_X11_within at h
  exact zthis_of h
set_option maxHeartbeats 4000000 in
set_option maxRecDepth 100000 in
theorem w_X11_within_L74 (E : zEnv) (hE : zEok E) (d : Nat) (hd : 4 ≤ d) (M0 : zM) (x0 : Int32 × zM) (v0 : Nat) (v1 : Int32) (v4 : Int32) (M : zM) (k119 : Int32 → Option (Int32 × zM)) (hk119 : ∀ (v5 : Int32), zSy E mu_X11_within d M0 (some (.int x0.1), x0.2) x0 (k119 v5) 119 [(0, .ref (E.2.2.2.1 + v0)), (5, .int v5)] [] M) : ∀ (n : Nat) (v5 : Int32) (v6 : Int32), zSy E mu_X11_within d M0 (some (.int x0.1), x0.2) x0 (fp_X11_within_L74 k119 v0 v1 v4 M n v5 v6) 74 [(0, .ref (E.2.2.2.1 + v0)), (1, .int v1), (4, .int v4), (5, .int v5), (6, .int v6)] [] M := by
  intro n
  induction n with
  | zero =>
    intro v5 v6
    rw [fp_X11_within_L74]
    exact zs_none
  | succ n ih =>
    intro v5 v6
    rw [fp_X11_within_L74]
    refine zs_iload dX11_within_74 4 rfl ?_
    refine zs_aload_n dX11_within_76 rfl 0 rfl ?_
    refine zs_getI dX11_within_77 fl_X11_437 rfl (fun y9 => ?_)
    refine zs_icmp_ge dX11_within_80 rfl ?_ ?_
    · refine zs_sub (loc' := [(0, .ref (E.2.2.2.1 + v0)), (5, .int v5)]) [0, 3] rfl ?_
      exact hk119 v5
    refine zs_iload dX11_within_83 3 rfl ?_
    refine zs_jn (fun j111 => ∀ (s10 : Int32), zSy E mu_X11_within d M0 (some (.int x0.1), x0.2) x0 (j111 s10) 111 [(0, .ref (E.2.2.2.1 + v0)), (1, .int v1), (4, .int v4), (6, .int v6)] [.int s10] M) (fun s10 => ?_) (fun j111 hj111 => ?_)
    · refine zs_istore (loc' := [(0, .ref (E.2.2.2.1 + v0)), (1, .int v1), (4, .int v4), (5, .int s10), (6, .int v6)]) dX11_within_111 (Nat.le_of_ble_eq_true rfl) [1, 2, 3, 0, 4] rfl ?_
      refine zs_iinc (v := (v6 + 1)) (loc' := [(0, .ref (E.2.2.2.1 + v0)), (1, .int v1), (4, .int v4), (5, .int s10), (6, .int (v6 + 1))]) dX11_within_113 4 rfl (by rfl) (Nat.le_of_ble_eq_true rfl) [1, 2, 3, 4, 0] rfl ?_
      refine zs_goto dX11_within_116 rfl ?_
      exact ih s10 (v6 + 1)
    refine zs_jn (fun j106 => zSy E mu_X11_within d M0 (some (.int x0.1), x0.2) x0 (j106) 106 [(0, .ref (E.2.2.2.1 + v0)), (1, .int v1), (4, .int v4), (6, .int v6)] [] M) ?_ (fun j106 hj106 => ?_)
    · refine zs_iconst (v := 1) dX11_within_106 ciconst_1 ?_
      refine zs_goto dX11_within_107 rfl ?_
      exact hj111 1
    refine zs_if_ne dX11_within_85 rfl ?_ ?_
    · refine zs_sub (loc' := [(0, .ref (E.2.2.2.1 + v0)), (1, .int v1), (4, .int v4), (6, .int v6)]) [0, 1, 2, 4] rfl ?_
      exact hj106
    refine zs_aload_n dX11_within_88 rfl 0 rfl ?_
    refine zs_getR dX11_within_89 fl_X11_88 rfl (fun y11 => ?_)
    refine zs_iload dX11_within_92 4 rfl ?_
    refine zs_ldI dX11_within_94 (fun y12 => ?_)
    refine zs_iload dX11_within_95 2 rfl ?_
    refine zs_iand dX11_within_97 ?_
    refine zs_aload_n dX11_within_98 rfl 0 rfl ?_
    refine zs_iload_n dX11_within_99 rfl 1 rfl ?_
    refine zs_invVPI (rest := [.int (y12 &&& v4)]) [.int v1] dX11_within_100 lk_X11_453 rfl (fun _ h => th_X11_imageCode h) (zd1 rfl hd) rfl (Nat.le_of_ble_eq_true rfl) (ct_X11_imageCode E hE _ (zdl rfl hd) _ _ _) (fun y13 => ?_)
    refine zs_icmp_ne dX11_within_103 rfl ?_ ?_
    · refine zs_iconst (v := 0) dX11_within_110 ciconst_0 ?_
      refine zs_sub (loc' := [(0, .ref (E.2.2.2.1 + v0)), (1, .int v1), (4, .int v4), (6, .int v6)]) [0, 1, 2, 4] rfl ?_
      exact hj111 0
    refine zs_sub (loc' := [(0, .ref (E.2.2.2.1 + v0)), (1, .int v1), (4, .int v4), (6, .int v6)]) [0, 1, 2, 4] rfl ?_
    exact hj106
set_option maxHeartbeats 4000000 in
set_option maxRecDepth 100000 in
theorem ct_X11_within (E : zEnv) (hE : zEok E) (d : Nat) (hd : 4 ≤ d) (v0 : Nat) (v1 : Int32) (M : zM) (x0 : Int32 × zM) (hx : fp_X11_within v0 v1 M = some x0) : zCt E mu_X11_within d [.ref (E.2.2.2.1 + v0), .int v1] M (some (.int x0.1), x0.2) := by
  refine zCt_of (μ := mu_X11_within) (t := fp_X11_within v0 v1 M) rfl rfl (Nat.le_of_ble_eq_true rfl) hx ?_
  change zSy E mu_X11_within d M (some (.int x0.1), x0.2) x0 (fp_X11_within v0 v1 M) 0 [(0, .ref (E.2.2.2.1 + v0)), (1, .int v1)] [] M
  unfold fp_X11_within
  refine zs_this (fun hth => ?_)
  refine zs_aload_n dX11_within_0 rfl 0 rfl ?_
  refine zs_iload_n dX11_within_1 rfl 1 rfl ?_
  refine zs_invVPI (rest := []) [.int v1] dX11_within_2 lk_X11_287 rfl (fun _ h => th_X11_wrongImage h) (zd1 rfl hd) rfl (Nat.le_of_ble_eq_true rfl) (ct_X11_wrongImage E hE _ (zdl rfl hd) _ _ _) (fun y1 => ?_)
  refine zs_istore_n (loc' := [(0, .ref (E.2.2.2.1 + v0)), (1, .int v1), (2, .int y1)]) dX11_within_5 rfl (Nat.le_of_ble_eq_true rfl) [1, 2, 0] rfl ?_
  refine zs_iload_n dX11_within_6 rfl 2 rfl ?_
  refine zs_jn (fun j29 => ∀ (v2_2 : Int32), zSy E mu_X11_within d M (some (.int x0.1), x0.2) x0 (j29 v2_2) 29 [(0, .ref (E.2.2.2.1 + v0)), (1, .int v1), (2, .int v2_2)] [] M) (fun v2_2 => ?_) (fun j29 hj29 => ?_)
  · refine zs_iload_n dX11_within_29 rfl 2 rfl ?_
    refine zs_if_le dX11_within_30 rfl ?_ ?_
    · refine zs_aload_n dX11_within_39 rfl 0 rfl ?_
      refine zs_getR dX11_within_40 fl_X11_42 rfl (fun y3 => ?_)
      refine zs_bipush (v := 8) dX11_within_43 cbipush_8 ?_
      refine zs_iload_n dX11_within_45 rfl 1 rfl ?_
      refine zs_imul dX11_within_46 ?_
      refine zs_ldI dX11_within_47 (fun y4 => ?_)
      refine zs_istore_n (loc' := [(0, .ref (E.2.2.2.1 + v0)), (1, .int v1), (3, .int y4)]) dX11_within_48 rfl (Nat.le_of_ble_eq_true rfl) [1, 2, 0] rfl ?_
      refine zs_iconst (v := 1) dX11_within_49 ciconst_1 ?_
      refine zs_iload_n dX11_within_50 rfl 2 rfl ?_
      refine zs_iload_n dX11_within_51 rfl 2 rfl ?_
      refine zs_iconst (v := 1) dX11_within_52 ciconst_1 ?_
      refine zs_isub dX11_within_53 ?_
      refine zs_imul dX11_within_54 ?_
      refine zs_iconst (v := 2) dX11_within_55 ciconst_2 ?_
      refine zs_idivK dX11_within_56 (by decide) ?_
      refine zs_ishl dX11_within_57 ?_
      refine zs_iconst (v := 1) dX11_within_58 ciconst_1 ?_
      refine zs_isub dX11_within_59 ?_
      refine zs_istoreL (loc' := fun v4_5 => [(0, .ref (E.2.2.2.1 + v0)), (1, .int v1), (4, .int v4_5)]) dX11_within_60 (Nat.le_of_ble_eq_true rfl) [1, 2, 0] (fun _ => rfl) (fun v4_5 => ?_)
      refine zs_iconst (v := 0) dX11_within_62 ciconst_0 ?_
      refine zs_istore (loc' := [(0, .ref (E.2.2.2.1 + v0)), (1, .int v1), (4, .int v4_5), (5, .int 0)]) dX11_within_63 (Nat.le_of_ble_eq_true rfl) [1, 2, 3, 0] rfl ?_
      refine zs_aload_n dX11_within_65 rfl 0 rfl ?_
      refine zs_iconst (v := (-1)) dX11_within_66 ciconst_m1 ?_
      refine zs_invVWI (rest := []) [.int (-1)] dX11_within_67 lk_X11_266 rfl (fun _ h => th_X11_laysClass h) (zd1 rfl hd) rfl (Nat.le_of_ble_eq_true rfl) (ct_X11_laysClass E hE _ (zdl rfl hd) _ _ _) (fun y6 M7 => ?_)
      refine zs_pop dX11_within_70 rfl ?_
      refine zs_iconst (v := 0) dX11_within_71 ciconst_0 ?_
      refine zs_istore (loc' := [(0, .ref (E.2.2.2.1 + v0)), (1, .int v1), (4, .int v4_5), (5, .int 0), (6, .int 0)]) dX11_within_72 (Nat.le_of_ble_eq_true rfl) [1, 2, 3, 4, 0] rfl ?_
      refine w_X11_within_L74 E hE d hd _ _ _ _ _ _ _ (fun v5_14 => ?_) _ _ _
      refine zs_aload_n dX11_within_119 rfl 0 rfl ?_
      refine zs_iload dX11_within_120 1 rfl ?_
      refine zs_if_eq dX11_within_122 rfl ?_ ?_
      · refine zs_iconst (v := 0) dX11_within_129 ciconst_0 ?_
        refine zs_invVWI (rest := []) [.int 0] dX11_within_130 lk_X11_242 rfl (fun _ h => th_X11_gives h) (zd1 rfl hd) rfl (Nat.le_of_ble_eq_true rfl) (ct_X11_gives E hE _ (zdl rfl hd) _ _ _) (fun y15 M16 => ?_)
        exact zs_iretW dX11_within_133 rfl
      refine zs_iconst (v := 1) dX11_within_125 ciconst_1 ?_
      refine zs_goto dX11_within_126 rfl ?_
      refine zs_invVWI (rest := []) [.int 1] dX11_within_130 lk_X11_242 rfl (fun _ h => th_X11_gives h) (zd1 rfl hd) rfl (Nat.le_of_ble_eq_true rfl) (ct_X11_gives E hE _ (zdl rfl hd) _ _ _) (fun y18 M19 => ?_)
      exact zs_iretW dX11_within_133 rfl
    refine zs_aload_n dX11_within_33 rfl 0 rfl ?_
    refine zs_iload_n dX11_within_34 rfl 2 rfl ?_
    refine zs_invVWI (rest := []) [.int v2_2] dX11_within_35 lk_X11_226 rfl (fun _ h => th_X11_refuse h) (zd1 rfl hd) rfl (Nat.le_of_ble_eq_true rfl) (ct_X11_refuse E hE _ (zdl rfl hd) _ _ _) (fun y21 M22 => ?_)
    exact zs_iretW dX11_within_38 rfl
  refine zs_if_ne dX11_within_7 rfl ?_ ?_
  · exact hj29 y1
  refine zs_aload_n dX11_within_10 rfl 0 rfl ?_
  refine zs_getR dX11_within_11 fl_X11_42 rfl (fun y24 => ?_)
  refine zs_bipush (v := 8) dX11_within_14 cbipush_8 ?_
  refine zs_iload_n dX11_within_16 rfl 1 rfl ?_
  refine zs_imul dX11_within_17 ?_
  refine zs_ldI dX11_within_18 (fun y25 => ?_)
  refine zs_aload_n dX11_within_19 rfl 0 rfl ?_
  refine zs_getI dX11_within_20 fl_X11_101 rfl (fun y26 => ?_)
  refine zs_icmp_le dX11_within_23 rfl ?_ ?_
  · exact hj29 y1
  refine zs_bipush (v := 7) dX11_within_26 cbipush_7 ?_
  refine zs_istore_n (loc' := [(0, .ref (E.2.2.2.1 + v0)), (1, .int v1), (2, .int 7)]) dX11_within_28 rfl (Nat.le_of_ble_eq_true rfl) [1, 2, 0] rfl ?_
  exact hj29 7
theorem dX11_drawBy_0 : decode cX11_drawBy 0 = .ok (.aload_n 0, 1) := by decide +kernel
theorem dX11_drawBy_1 : decode cX11_drawBy 1 = .ok (.aload_n 0, 1) := by decide +kernel
theorem dX11_drawBy_2 : decode cX11_drawBy 2 = .ok (.getfield 456, 3) := by decide +kernel
theorem dX11_drawBy_5 : decode cX11_drawBy 5 = .ok (.sipush 4093, 3) := by decide +kernel
theorem dX11_drawBy_8 : decode cX11_drawBy 8 = .ok (.imul, 1) := by decide +kernel
theorem dX11_drawBy_9 : decode cX11_drawBy 9 = .ok (.sipush 18257, 3) := by decide +kernel
theorem dX11_drawBy_12 : decode cX11_drawBy 12 = .ok (.iadd, 1) := by decide +kernel
theorem dX11_drawBy_13 : decode cX11_drawBy 13 = .ok (.ldc_w 459, 3) := by decide +kernel
theorem dX11_drawBy_16 : decode cX11_drawBy 16 = .ok (.irem, 1) := by decide +kernel
theorem dX11_drawBy_17 : decode cX11_drawBy 17 = .ok (.putfield 456, 3) := by decide +kernel
theorem dX11_drawBy_20 : decode cX11_drawBy 20 = .ok (.aload_n 0, 1) := by decide +kernel
theorem dX11_drawBy_21 : decode cX11_drawBy 21 = .ok (.getfield 456, 3) := by decide +kernel
theorem dX11_drawBy_24 : decode cX11_drawBy 24 = .ok (.bipush 8, 2) := by decide +kernel
theorem dX11_drawBy_26 : decode cX11_drawBy 26 = .ok (.idiv, 1) := by decide +kernel
theorem dX11_drawBy_27 : decode cX11_drawBy 27 = .ok (.iload_n 1, 1) := by decide +kernel
theorem dX11_drawBy_28 : decode cX11_drawBy 28 = .ok (.irem, 1) := by decide +kernel
theorem dX11_drawBy_29 : decode cX11_drawBy 29 = .ok (.ireturn, 1) := by decide +kernel
def fp_X11_drawBy (v0 : Nat) (v1 : Int32) (M : zM) : Option (Int32 × zM) :=
  zthis 9 M v0 (
    (zgI 9 M v0 51).bind fun (y1 : Int32) =>
    (zpI 9 M v0 51 (((y1 * 4093) + 18257) - ((y1 * 4093) + 18257) / 65536 * 65536)).bind fun (M2 : zM) =>
    (zgI 9 M2 v0 51).bind fun (y3 : Int32) =>
    (zrm (y3 / 8) v1).bind fun (y4 : Int32) =>
    some (y4, M2))
set_option maxHeartbeats 4000000 in
set_option maxRecDepth 100000 in
theorem th_X11_drawBy {v0 : Nat} {v1 : Int32} {M : zM} {x0 : Int32 × zM} (h : fp_X11_drawBy v0 v1 M = some x0) : v0 < zS M ∧ kd v0 = 9 := by
  unfold fp_X11_drawBy at h
  exact zthis_of h
set_option maxHeartbeats 4000000 in
set_option maxRecDepth 100000 in
theorem ct_X11_drawBy (E : zEnv) (hE : zEok E) (d : Nat) (hd : 1 ≤ d) (v0 : Nat) (v1 : Int32) (M : zM) (x0 : Int32 × zM) (hx : fp_X11_drawBy v0 v1 M = some x0) : zCt E mu_X11_drawBy d [.ref (E.2.2.2.1 + v0), .int v1] M (some (.int x0.1), x0.2) := by
  refine zCt_of (μ := mu_X11_drawBy) (t := fp_X11_drawBy v0 v1 M) rfl rfl (Nat.le_of_ble_eq_true rfl) hx ?_
  change zSy E mu_X11_drawBy d M (some (.int x0.1), x0.2) x0 (fp_X11_drawBy v0 v1 M) 0 [(0, .ref (E.2.2.2.1 + v0)), (1, .int v1)] [] M
  unfold fp_X11_drawBy
  refine zs_this (fun hth => ?_)
  refine zs_aload_n dX11_drawBy_0 rfl 0 rfl ?_
  refine zs_aload_n dX11_drawBy_1 rfl 0 rfl ?_
  refine zs_getI dX11_drawBy_2 fl_X11_456 rfl (fun y1 => ?_)
  refine zs_sipush (v := 4093) dX11_drawBy_5 csipush_4093 ?_
  refine zs_imul dX11_drawBy_8 ?_
  refine zs_sipush (v := 18257) dX11_drawBy_9 csipush_18257 ?_
  refine zs_iadd dX11_drawBy_12 ?_
  refine zs_ldcw (v := 65536) dX11_drawBy_13 (ti_8 37 rfl rfl) ?_
  refine zs_iremK dX11_drawBy_16 (by decide) ?_
  refine zs_putI dX11_drawBy_17 fl_X11_456 ft_X11 rfl rfl rfl rfl rfl (fun M2 => ?_)
  refine zs_aload_n dX11_drawBy_20 rfl 0 rfl ?_
  refine zs_getI dX11_drawBy_21 fl_X11_456 rfl (fun y3 => ?_)
  refine zs_bipush (v := 8) dX11_drawBy_24 cbipush_8 ?_
  refine zs_idivK dX11_drawBy_26 (by decide) ?_
  refine zs_iload_n dX11_drawBy_27 rfl 1 rfl ?_
  refine zs_irem dX11_drawBy_28 (fun y4 => ?_)
  exact zs_iretW dX11_drawBy_29 rfl
theorem dX11_draws_0 : decode cX11_draws 0 = .ok (.iconst 0, 1) := by decide +kernel
theorem dX11_draws_1 : decode cX11_draws 1 = .ok (.istore_n 2, 1) := by decide +kernel
theorem dX11_draws_2 : decode cX11_draws 2 = .ok (.iload_n 2, 1) := by decide +kernel
theorem dX11_draws_3 : decode cX11_draws 3 = .ok (.iconst 2, 1) := by decide +kernel
theorem dX11_draws_4 : decode cX11_draws 4 = .ok (.iload_n 1, 1) := by decide +kernel
theorem dX11_draws_5 : decode cX11_draws 5 = .ok (.imul, 1) := by decide +kernel
theorem dX11_draws_6 : decode cX11_draws 6 = .ok (.if_icmp .ge 18, 3) := by decide +kernel
theorem dX11_draws_9 : decode cX11_draws 9 = .ok (.aload_n 0, 1) := by decide +kernel
theorem dX11_draws_10 : decode cX11_draws 10 = .ok (.getfield 82, 3) := by decide +kernel
theorem dX11_draws_13 : decode cX11_draws 13 = .ok (.iload_n 2, 1) := by decide +kernel
theorem dX11_draws_14 : decode cX11_draws 14 = .ok (.iload_n 2, 1) := by decide +kernel
theorem dX11_draws_15 : decode cX11_draws 15 = .ok (.iconst 2, 1) := by decide +kernel
theorem dX11_draws_16 : decode cX11_draws 16 = .ok (.idiv, 1) := by decide +kernel
theorem dX11_draws_17 : decode cX11_draws 17 = .ok (.iastore, 1) := by decide +kernel
theorem dX11_draws_18 : decode cX11_draws 18 = .ok (.iinc 2 1, 3) := by decide +kernel
theorem dX11_draws_21 : decode cX11_draws 21 = .ok (.goto (-19), 3) := by decide +kernel
theorem dX11_draws_24 : decode cX11_draws 24 = .ok (.iconst 2, 1) := by decide +kernel
theorem dX11_draws_25 : decode cX11_draws 25 = .ok (.iload_n 1, 1) := by decide +kernel
theorem dX11_draws_26 : decode cX11_draws 26 = .ok (.imul, 1) := by decide +kernel
theorem dX11_draws_27 : decode cX11_draws 27 = .ok (.iconst 1, 1) := by decide +kernel
theorem dX11_draws_28 : decode cX11_draws 28 = .ok (.isub, 1) := by decide +kernel
theorem dX11_draws_29 : decode cX11_draws 29 = .ok (.istore_n 2, 1) := by decide +kernel
theorem dX11_draws_30 : decode cX11_draws 30 = .ok (.iload_n 2, 1) := by decide +kernel
theorem dX11_draws_31 : decode cX11_draws 31 = .ok (.ifCond .le 45, 3) := by decide +kernel
theorem dX11_draws_34 : decode cX11_draws 34 = .ok (.aload_n 0, 1) := by decide +kernel
theorem dX11_draws_35 : decode cX11_draws 35 = .ok (.iload_n 2, 1) := by decide +kernel
theorem dX11_draws_36 : decode cX11_draws 36 = .ok (.iconst 1, 1) := by decide +kernel
theorem dX11_draws_37 : decode cX11_draws 37 = .ok (.iadd, 1) := by decide +kernel
theorem dX11_draws_38 : decode cX11_draws 38 = .ok (.invokevirtual 460, 3) := by decide +kernel
theorem dX11_draws_41 : decode cX11_draws 41 = .ok (.istore_n 3, 1) := by decide +kernel
theorem dX11_draws_42 : decode cX11_draws 42 = .ok (.aload_n 0, 1) := by decide +kernel
theorem dX11_draws_43 : decode cX11_draws 43 = .ok (.getfield 82, 3) := by decide +kernel
theorem dX11_draws_46 : decode cX11_draws 46 = .ok (.iload_n 2, 1) := by decide +kernel
theorem dX11_draws_47 : decode cX11_draws 47 = .ok (.iaload, 1) := by decide +kernel
theorem dX11_draws_48 : decode cX11_draws 48 = .ok (.istore 4, 2) := by decide +kernel
theorem dX11_draws_50 : decode cX11_draws 50 = .ok (.aload_n 0, 1) := by decide +kernel
theorem dX11_draws_51 : decode cX11_draws 51 = .ok (.getfield 82, 3) := by decide +kernel
theorem dX11_draws_54 : decode cX11_draws 54 = .ok (.iload_n 2, 1) := by decide +kernel
theorem dX11_draws_55 : decode cX11_draws 55 = .ok (.aload_n 0, 1) := by decide +kernel
theorem dX11_draws_56 : decode cX11_draws 56 = .ok (.getfield 82, 3) := by decide +kernel
theorem dX11_draws_59 : decode cX11_draws 59 = .ok (.iload_n 3, 1) := by decide +kernel
theorem dX11_draws_60 : decode cX11_draws 60 = .ok (.iaload, 1) := by decide +kernel
theorem dX11_draws_61 : decode cX11_draws 61 = .ok (.iastore, 1) := by decide +kernel
theorem dX11_draws_62 : decode cX11_draws 62 = .ok (.aload_n 0, 1) := by decide +kernel
theorem dX11_draws_63 : decode cX11_draws 63 = .ok (.getfield 82, 3) := by decide +kernel
theorem dX11_draws_66 : decode cX11_draws 66 = .ok (.iload_n 3, 1) := by decide +kernel
theorem dX11_draws_67 : decode cX11_draws 67 = .ok (.iload 4, 2) := by decide +kernel
theorem dX11_draws_69 : decode cX11_draws 69 = .ok (.iastore, 1) := by decide +kernel
theorem dX11_draws_70 : decode cX11_draws 70 = .ok (.iinc 2 (-1), 3) := by decide +kernel
theorem dX11_draws_73 : decode cX11_draws 73 = .ok (.goto (-43), 3) := by decide +kernel
theorem dX11_draws_76 : decode cX11_draws 76 = .ok (.aload_n 0, 1) := by decide +kernel
theorem dX11_draws_77 : decode cX11_draws 77 = .ok (.iconst 0, 1) := by decide +kernel
theorem dX11_draws_78 : decode cX11_draws 78 = .ok (.putfield 101, 3) := by decide +kernel
theorem dX11_draws_81 : decode cX11_draws 81 = .ok (.iconst 0, 1) := by decide +kernel
theorem dX11_draws_82 : decode cX11_draws 82 = .ok (.istore_n 2, 1) := by decide +kernel
theorem dX11_draws_83 : decode cX11_draws 83 = .ok (.iload_n 2, 1) := by decide +kernel
theorem dX11_draws_84 : decode cX11_draws 84 = .ok (.iload_n 1, 1) := by decide +kernel
theorem dX11_draws_85 : decode cX11_draws 85 = .ok (.if_icmp .ge 92, 3) := by decide +kernel
theorem dX11_draws_88 : decode cX11_draws 88 = .ok (.iconst 0, 1) := by decide +kernel
theorem dX11_draws_89 : decode cX11_draws 89 = .ok (.istore_n 3, 1) := by decide +kernel
theorem dX11_draws_90 : decode cX11_draws 90 = .ok (.aload_n 0, 1) := by decide +kernel
theorem dX11_draws_91 : decode cX11_draws 91 = .ok (.getfield 82, 3) := by decide +kernel
theorem dX11_draws_94 : decode cX11_draws 94 = .ok (.iload_n 3, 1) := by decide +kernel
theorem dX11_draws_95 : decode cX11_draws 95 = .ok (.iaload, 1) := by decide +kernel
theorem dX11_draws_96 : decode cX11_draws 96 = .ok (.iload_n 2, 1) := by decide +kernel
theorem dX11_draws_97 : decode cX11_draws 97 = .ok (.if_icmp .eq 9, 3) := by decide +kernel
theorem dX11_draws_100 : decode cX11_draws 100 = .ok (.iinc 3 1, 3) := by decide +kernel
theorem dX11_draws_103 : decode cX11_draws 103 = .ok (.goto (-13), 3) := by decide +kernel
theorem dX11_draws_106 : decode cX11_draws 106 = .ok (.iload_n 3, 1) := by decide +kernel
theorem dX11_draws_107 : decode cX11_draws 107 = .ok (.iconst 1, 1) := by decide +kernel
theorem dX11_draws_108 : decode cX11_draws 108 = .ok (.iadd, 1) := by decide +kernel
theorem dX11_draws_109 : decode cX11_draws 109 = .ok (.istore 4, 2) := by decide +kernel
theorem dX11_draws_111 : decode cX11_draws 111 = .ok (.aload_n 0, 1) := by decide +kernel
theorem dX11_draws_112 : decode cX11_draws 112 = .ok (.getfield 82, 3) := by decide +kernel
theorem dX11_draws_115 : decode cX11_draws 115 = .ok (.iload 4, 2) := by decide +kernel
theorem dX11_draws_117 : decode cX11_draws 117 = .ok (.iaload, 1) := by decide +kernel
theorem dX11_draws_118 : decode cX11_draws 118 = .ok (.iload_n 2, 1) := by decide +kernel
theorem dX11_draws_119 : decode cX11_draws 119 = .ok (.if_icmp .eq 9, 3) := by decide +kernel
theorem dX11_draws_122 : decode cX11_draws 122 = .ok (.iinc 4 1, 3) := by decide +kernel
theorem dX11_draws_125 : decode cX11_draws 125 = .ok (.goto (-14), 3) := by decide +kernel
theorem dX11_draws_128 : decode cX11_draws 128 = .ok (.aload_n 0, 1) := by decide +kernel
theorem dX11_draws_129 : decode cX11_draws 129 = .ok (.iconst 0, 1) := by decide +kernel
theorem dX11_draws_130 : decode cX11_draws 130 = .ok (.invokevirtual 186, 3) := by decide +kernel
theorem dX11_draws_133 : decode cX11_draws 133 = .ok (.iconst 0, 1) := by decide +kernel
theorem dX11_draws_134 : decode cX11_draws 134 = .ok (.istore 5, 2) := by decide +kernel
theorem dX11_draws_136 : decode cX11_draws 136 = .ok (.iload 5, 2) := by decide +kernel
theorem dX11_draws_138 : decode cX11_draws 138 = .ok (.iload_n 2, 1) := by decide +kernel
theorem dX11_draws_139 : decode cX11_draws 139 = .ok (.if_icmp .ge 32, 3) := by decide +kernel
theorem dX11_draws_142 : decode cX11_draws 142 = .ok (.aload_n 0, 1) := by decide +kernel
theorem dX11_draws_143 : decode cX11_draws 143 = .ok (.getfield 82, 3) := by decide +kernel
theorem dX11_draws_146 : decode cX11_draws 146 = .ok (.iload_n 3, 1) := by decide +kernel
theorem dX11_draws_147 : decode cX11_draws 147 = .ok (.iload 4, 2) := by decide +kernel
theorem dX11_draws_149 : decode cX11_draws 149 = .ok (.iload 5, 2) := by decide +kernel
theorem dX11_draws_151 : decode cX11_draws 151 = .ok (.invokestatic 333, 3) := by decide +kernel
theorem dX11_draws_154 : decode cX11_draws 154 = .ok (.iconst 1, 1) := by decide +kernel
theorem dX11_draws_155 : decode cX11_draws 155 = .ok (.if_icmp .ne 10, 3) := by decide +kernel
theorem dX11_draws_158 : decode cX11_draws 158 = .ok (.aload_n 0, 1) := by decide +kernel
theorem dX11_draws_159 : decode cX11_draws 159 = .ok (.iload_n 2, 1) := by decide +kernel
theorem dX11_draws_160 : decode cX11_draws 160 = .ok (.iload 5, 2) := by decide +kernel
theorem dX11_draws_162 : decode cX11_draws 162 = .ok (.invokevirtual 108, 3) := by decide +kernel
theorem dX11_draws_165 : decode cX11_draws 165 = .ok (.iinc 5 1, 3) := by decide +kernel
theorem dX11_draws_168 : decode cX11_draws 168 = .ok (.goto (-32), 3) := by decide +kernel
theorem dX11_draws_171 : decode cX11_draws 171 = .ok (.iinc 2 1, 3) := by decide +kernel
theorem dX11_draws_174 : decode cX11_draws 174 = .ok (.goto (-91), 3) := by decide +kernel
theorem dX11_draws_177 : decode cX11_draws 177 = .ok (.return_, 1) := by decide +kernel
def fp_X11_draws_L2 (k24 : zM → Option (zM)) (v0 : Nat) (v1 : Int32) : Nat → Int32 → zM → Option (zM)
  | 0, _, _ => none
  | n + 1, v2, M =>
    if v2 ≥ (2 * v1) then (
      k24 M)
    else (
      (zgR 9 M v0 35).bind fun (y1 : Nat) =>
      (ztI M y1 v2 (v2 / 2)).bind fun (M2 : zM) =>
      fp_X11_draws_L2 k24 v0 v1 n (v2 + 1) M2)
def fp_X11_draws_L30 (k76 : zM → Option (zM)) (v0 : Nat) (v1 : Int32) : Nat → Int32 → zM → Option (zM)
  | 0, _, _ => none
  | n + 1, v2, M =>
    if v2 ≤ 0 then (
      k76 M)
    else (
      (fp_X11_drawBy v0 (v2 + 1) M).bind fun p7 => zpp p7 fun (y5 : Int32) (M6 : zM) =>
      (zgR 9 M6 v0 35).bind fun (y8 : Nat) =>
      (zlI 100 M6 y8 v2).bind fun (y9 : Int32) =>
      (zgR 9 M6 v0 35).bind fun (y10 : Nat) =>
      (zgR 9 M6 v0 35).bind fun (y11 : Nat) =>
      (zlI 100 M6 y11 y5).bind fun (y12 : Int32) =>
      (ztI M6 y10 v2 y12).bind fun (M13 : zM) =>
      (zgR 9 M13 v0 35).bind fun (y14 : Nat) =>
      (ztI M13 y14 y5 y9).bind fun (M15 : zM) =>
      fp_X11_draws_L30 k76 v0 v1 n (v2 + (-1)) M15)
def fp_X11_draws_L90 (k106 : Int32 → Option (zM)) (v0 : Nat) (v1 : Int32) (v2 : Int32) (M : zM) : Nat → Int32 → Option (zM)
  | 0, _ => none
  | n + 1, v3 =>
    (zgR 9 M v0 35).bind fun (y18 : Nat) =>
    (zlI 100 M y18 v3).bind fun (y19 : Int32) =>
    if y19 = v2 then (
      k106 v3)
    else (
      fp_X11_draws_L90 k106 v0 v1 v2 M n (v3 + 1))
def fp_X11_draws_L111 (k128 : Int32 → Option (zM)) (v0 : Nat) (v1 : Int32) (v2 : Int32) (v3 : Int32) (M : zM) : Nat → Int32 → Option (zM)
  | 0, _ => none
  | n + 1, v4 =>
    (zgR 9 M v0 35).bind fun (y22 : Nat) =>
    (zlI 100 M y22 v4).bind fun (y23 : Int32) =>
    if y23 = v2 then (
      k128 v4)
    else (
      fp_X11_draws_L111 k128 v0 v1 v2 v3 M n (v4 + 1))
def fp_X11_draws_L136 (k171 : zM → Option (zM)) (v0 : Nat) (v1 : Int32) (v2 : Int32) (v3 : Int32) (v4 : Int32) : Nat → Int32 → zM → Option (zM)
  | 0, _, _ => none
  | n + 1, v5, M =>
    if v5 ≥ v2 then (
      k171 M)
    else (
      (zgR 9 M v0 35).bind fun (y26 : Nat) =>
      (fp_X11_between y26 v3 v4 v5 M).bind fun (y27 : Int32) =>
      zjn (fun (M28 : zM) =>
          fp_X11_draws_L136 k171 v0 v1 v2 v3 v4 n (v5 + 1) M28)
        (fun j165 =>
          if y27 ≠ 1 then (
            j165 M)
          else (
            (fp_X11_flips v0 v2 v5 M).bind fun (M29 : zM) =>
            j165 M29)))
def fp_X11_draws_L83 (v0 : Nat) (v1 : Int32) : Nat → Int32 → zM → Option (zM)
  | 0, _, _ => none
  | n + 1, v2, M =>
    if v2 ≥ v1 then (
      some M)
    else (
      fp_X11_draws_L90
        (fun v3_20 =>
          lett ((v3_20 + 1)) fun (v4_21 : Int32) =>
          fp_X11_draws_L111
            (fun v4_24 =>
              (fp_X11_comes v0 0 M).bind fun (M25 : zM) =>
              fp_X11_draws_L136
                (fun M30 =>
                  fp_X11_draws_L83 v0 v1 n (v2 + 1) M30) v0 v1 v2 v3_20 v4_24 FU 0 M25) v0 v1 v2 v3_20 M FU v4_21) v0 v1 v2 M FU 0)
def fp_X11_draws (v0 : Nat) (v1 : Int32) (M : zM) : Option (zM) :=
  zthis 9 M v0 (
    fp_X11_draws_L2
      (fun M3 =>
        lett (((2 * v1) - 1)) fun (v2_4 : Int32) =>
        fp_X11_draws_L30
          (fun M16 =>
            (zpI 9 M16 v0 0 0).bind fun (M17 : zM) =>
            fp_X11_draws_L83 v0 v1 FU 0 M17) v0 v1 FU v2_4 M3) v0 v1 FU 0 M)
set_option maxHeartbeats 4000000 in
set_option maxRecDepth 100000 in
theorem th_X11_draws {v0 : Nat} {v1 : Int32} {M : zM} {x0 : zM} (h : fp_X11_draws v0 v1 M = some x0) : v0 < zS M ∧ kd v0 = 9 := by
  unfold fp_X11_draws at h
  exact zthis_of h
set_option maxHeartbeats 4000000 in
set_option maxRecDepth 100000 in
theorem w_X11_draws_L2 (E : zEnv) (hE : zEok E) (d : Nat) (hd : 3 ≤ d) (M0 : zM) (x0 : zM) (v0 : Nat) (v1 : Int32) (k24 : zM → Option (zM)) (hk24 : ∀ (M : zM), zSy E mu_X11_draws d M0 (none, x0) x0 (k24 M) 24 [(0, .ref (E.2.2.2.1 + v0)), (1, .int v1)] [] M) : ∀ (n : Nat) (v2 : Int32) (M : zM), zSy E mu_X11_draws d M0 (none, x0) x0 (fp_X11_draws_L2 k24 v0 v1 n v2 M) 2 [(0, .ref (E.2.2.2.1 + v0)), (1, .int v1), (2, .int v2)] [] M := by
  intro n
  induction n with
  | zero =>
    intro v2 M
    rw [fp_X11_draws_L2]
    exact zs_none
  | succ n ih =>
    intro v2 M
    rw [fp_X11_draws_L2]
    refine zs_iload_n dX11_draws_2 rfl 2 rfl ?_
    refine zs_iconst (v := 2) dX11_draws_3 ciconst_2 ?_
    refine zs_iload_n dX11_draws_4 rfl 1 rfl ?_
    refine zs_imul dX11_draws_5 ?_
    refine zs_icmp_ge dX11_draws_6 rfl ?_ ?_
    · refine zs_sub (loc' := [(0, .ref (E.2.2.2.1 + v0)), (1, .int v1)]) [0, 1] rfl ?_
      exact hk24 M
    refine zs_aload_n dX11_draws_9 rfl 0 rfl ?_
    refine zs_getR dX11_draws_10 fl_X11_82 rfl (fun y1 => ?_)
    refine zs_iload_n dX11_draws_13 rfl 2 rfl ?_
    refine zs_iload_n dX11_draws_14 rfl 2 rfl ?_
    refine zs_iconst (v := 2) dX11_draws_15 ciconst_2 ?_
    refine zs_idivK dX11_draws_16 (by decide) ?_
    refine zs_stI dX11_draws_17 (fun M2 => ?_)
    refine zs_iinc (v := (v2 + 1)) (loc' := [(0, .ref (E.2.2.2.1 + v0)), (1, .int v1), (2, .int (v2 + 1))]) dX11_draws_18 2 rfl (by rfl) (Nat.le_of_ble_eq_true rfl) [1, 2, 0] rfl ?_
    refine zs_goto dX11_draws_21 rfl ?_
    exact ih (v2 + 1) M2
set_option maxHeartbeats 4000000 in
set_option maxRecDepth 100000 in
theorem w_X11_draws_L30 (E : zEnv) (hE : zEok E) (d : Nat) (hd : 3 ≤ d) (M0 : zM) (x0 : zM) (v0 : Nat) (v1 : Int32) (k76 : zM → Option (zM)) (hk76 : ∀ (M : zM), zSy E mu_X11_draws d M0 (none, x0) x0 (k76 M) 76 [(0, .ref (E.2.2.2.1 + v0)), (1, .int v1)] [] M) : ∀ (n : Nat) (v2 : Int32) (M : zM), zSy E mu_X11_draws d M0 (none, x0) x0 (fp_X11_draws_L30 k76 v0 v1 n v2 M) 30 [(0, .ref (E.2.2.2.1 + v0)), (1, .int v1), (2, .int v2)] [] M := by
  intro n
  induction n with
  | zero =>
    intro v2 M
    rw [fp_X11_draws_L30]
    exact zs_none
  | succ n ih =>
    intro v2 M
    rw [fp_X11_draws_L30]
    refine zs_iload_n dX11_draws_30 rfl 2 rfl ?_
    refine zs_if_le dX11_draws_31 rfl ?_ ?_
    · refine zs_sub (loc' := [(0, .ref (E.2.2.2.1 + v0)), (1, .int v1)]) [0, 1] rfl ?_
      exact hk76 M
    refine zs_aload_n dX11_draws_34 rfl 0 rfl ?_
    refine zs_iload_n dX11_draws_35 rfl 2 rfl ?_
    refine zs_iconst (v := 1) dX11_draws_36 ciconst_1 ?_
    refine zs_iadd dX11_draws_37 ?_
    refine zs_invVWI (rest := []) [.int (v2 + 1)] dX11_draws_38 lk_X11_460 rfl (fun _ h => th_X11_drawBy h) (zd1 rfl hd) rfl (Nat.le_of_ble_eq_true rfl) (ct_X11_drawBy E hE _ (zdl rfl hd) _ _ _) (fun y5 M6 => ?_)
    refine zs_istore_n (loc' := [(0, .ref (E.2.2.2.1 + v0)), (1, .int v1), (2, .int v2), (3, .int y5)]) dX11_draws_41 rfl (Nat.le_of_ble_eq_true rfl) [1, 2, 3, 0] rfl ?_
    refine zs_aload_n dX11_draws_42 rfl 0 rfl ?_
    refine zs_getR dX11_draws_43 fl_X11_82 rfl (fun y8 => ?_)
    refine zs_iload_n dX11_draws_46 rfl 2 rfl ?_
    refine zs_ldI dX11_draws_47 (fun y9 => ?_)
    refine zs_istore (loc' := [(0, .ref (E.2.2.2.1 + v0)), (1, .int v1), (2, .int v2), (3, .int y5), (4, .int y9)]) dX11_draws_48 (Nat.le_of_ble_eq_true rfl) [1, 2, 3, 4, 0] rfl ?_
    refine zs_aload_n dX11_draws_50 rfl 0 rfl ?_
    refine zs_getR dX11_draws_51 fl_X11_82 rfl (fun y10 => ?_)
    refine zs_iload_n dX11_draws_54 rfl 2 rfl ?_
    refine zs_aload_n dX11_draws_55 rfl 0 rfl ?_
    refine zs_getR dX11_draws_56 fl_X11_82 rfl (fun y11 => ?_)
    refine zs_iload_n dX11_draws_59 rfl 3 rfl ?_
    refine zs_ldI dX11_draws_60 (fun y12 => ?_)
    refine zs_stI dX11_draws_61 (fun M13 => ?_)
    refine zs_aload_n dX11_draws_62 rfl 0 rfl ?_
    refine zs_getR dX11_draws_63 fl_X11_82 rfl (fun y14 => ?_)
    refine zs_iload_n dX11_draws_66 rfl 3 rfl ?_
    refine zs_iload dX11_draws_67 4 rfl ?_
    refine zs_stI dX11_draws_69 (fun M15 => ?_)
    refine zs_iinc (v := (v2 + (-1))) (loc' := [(0, .ref (E.2.2.2.1 + v0)), (1, .int v1), (2, .int (v2 + (-1)))]) dX11_draws_70 2 rfl (by rfl) (Nat.le_of_ble_eq_true rfl) [1, 2, 0] rfl ?_
    refine zs_goto dX11_draws_73 rfl ?_
    exact ih (v2 + (-1)) M15
set_option maxHeartbeats 4000000 in
set_option maxRecDepth 100000 in
theorem w_X11_draws_L90 (E : zEnv) (hE : zEok E) (d : Nat) (hd : 3 ≤ d) (M0 : zM) (x0 : zM) (v0 : Nat) (v1 : Int32) (v2 : Int32) (M : zM) (k106 : Int32 → Option (zM)) (hk106 : ∀ (v3 : Int32), zSy E mu_X11_draws d M0 (none, x0) x0 (k106 v3) 106 [(0, .ref (E.2.2.2.1 + v0)), (1, .int v1), (2, .int v2), (3, .int v3)] [] M) : ∀ (n : Nat) (v3 : Int32), zSy E mu_X11_draws d M0 (none, x0) x0 (fp_X11_draws_L90 k106 v0 v1 v2 M n v3) 90 [(0, .ref (E.2.2.2.1 + v0)), (1, .int v1), (2, .int v2), (3, .int v3)] [] M := by
  intro n
  induction n with
  | zero =>
    intro v3
    rw [fp_X11_draws_L90]
    exact zs_none
  | succ n ih =>
    intro v3
    rw [fp_X11_draws_L90]
    refine zs_aload_n dX11_draws_90 rfl 0 rfl ?_
    refine zs_getR dX11_draws_91 fl_X11_82 rfl (fun y18 => ?_)
    refine zs_iload_n dX11_draws_94 rfl 3 rfl ?_
    refine zs_ldI dX11_draws_95 (fun y19 => ?_)
    refine zs_iload_n dX11_draws_96 rfl 2 rfl ?_
    refine zs_icmp_eq dX11_draws_97 rfl ?_ ?_
    · exact hk106 v3
    refine zs_iinc (v := (v3 + 1)) (loc' := [(0, .ref (E.2.2.2.1 + v0)), (1, .int v1), (2, .int v2), (3, .int (v3 + 1))]) dX11_draws_100 3 rfl (by rfl) (Nat.le_of_ble_eq_true rfl) [1, 2, 3, 0] rfl ?_
    refine zs_goto dX11_draws_103 rfl ?_
    exact ih (v3 + 1)
set_option maxHeartbeats 4000000 in
set_option maxRecDepth 100000 in
theorem w_X11_draws_L111 (E : zEnv) (hE : zEok E) (d : Nat) (hd : 3 ≤ d) (M0 : zM) (x0 : zM) (v0 : Nat) (v1 : Int32) (v2 : Int32) (v3 : Int32) (M : zM) (k128 : Int32 → Option (zM)) (hk128 : ∀ (v4 : Int32), zSy E mu_X11_draws d M0 (none, x0) x0 (k128 v4) 128 [(0, .ref (E.2.2.2.1 + v0)), (1, .int v1), (2, .int v2), (3, .int v3), (4, .int v4)] [] M) : ∀ (n : Nat) (v4 : Int32), zSy E mu_X11_draws d M0 (none, x0) x0 (fp_X11_draws_L111 k128 v0 v1 v2 v3 M n v4) 111 [(0, .ref (E.2.2.2.1 + v0)), (1, .int v1), (2, .int v2), (3, .int v3), (4, .int v4)] [] M := by
  intro n
  induction n with
  | zero =>
    intro v4
    rw [fp_X11_draws_L111]
    exact zs_none
  | succ n ih =>
    intro v4
    rw [fp_X11_draws_L111]
    refine zs_aload_n dX11_draws_111 rfl 0 rfl ?_
    refine zs_getR dX11_draws_112 fl_X11_82 rfl (fun y22 => ?_)
    refine zs_iload dX11_draws_115 4 rfl ?_
    refine zs_ldI dX11_draws_117 (fun y23 => ?_)
    refine zs_iload_n dX11_draws_118 rfl 2 rfl ?_
    refine zs_icmp_eq dX11_draws_119 rfl ?_ ?_
    · exact hk128 v4
    refine zs_iinc (v := (v4 + 1)) (loc' := [(0, .ref (E.2.2.2.1 + v0)), (1, .int v1), (2, .int v2), (3, .int v3), (4, .int (v4 + 1))]) dX11_draws_122 4 rfl (by rfl) (Nat.le_of_ble_eq_true rfl) [1, 2, 3, 4, 0] rfl ?_
    refine zs_goto dX11_draws_125 rfl ?_
    exact ih (v4 + 1)
set_option maxHeartbeats 4000000 in
set_option maxRecDepth 100000 in
theorem w_X11_draws_L136 (E : zEnv) (hE : zEok E) (d : Nat) (hd : 3 ≤ d) (M0 : zM) (x0 : zM) (v0 : Nat) (v1 : Int32) (v2 : Int32) (v3 : Int32) (v4 : Int32) (k171 : zM → Option (zM)) (hk171 : ∀ (M : zM), zSy E mu_X11_draws d M0 (none, x0) x0 (k171 M) 171 [(0, .ref (E.2.2.2.1 + v0)), (1, .int v1), (2, .int v2)] [] M) : ∀ (n : Nat) (v5 : Int32) (M : zM), zSy E mu_X11_draws d M0 (none, x0) x0 (fp_X11_draws_L136 k171 v0 v1 v2 v3 v4 n v5 M) 136 [(0, .ref (E.2.2.2.1 + v0)), (1, .int v1), (2, .int v2), (3, .int v3), (4, .int v4), (5, .int v5)] [] M := by
  intro n
  induction n with
  | zero =>
    intro v5 M
    rw [fp_X11_draws_L136]
    exact zs_none
  | succ n ih =>
    intro v5 M
    rw [fp_X11_draws_L136]
    refine zs_iload dX11_draws_136 5 rfl ?_
    refine zs_iload_n dX11_draws_138 rfl 2 rfl ?_
    refine zs_icmp_ge dX11_draws_139 rfl ?_ ?_
    · refine zs_sub (loc' := [(0, .ref (E.2.2.2.1 + v0)), (1, .int v1), (2, .int v2)]) [0, 1, 2] rfl ?_
      exact hk171 M
    refine zs_aload_n dX11_draws_142 rfl 0 rfl ?_
    refine zs_getR dX11_draws_143 fl_X11_82 rfl (fun y26 => ?_)
    refine zs_iload_n dX11_draws_146 rfl 3 rfl ?_
    refine zs_iload dX11_draws_147 4 rfl ?_
    refine zs_iload dX11_draws_149 5 rfl ?_
    refine zs_invSPI (rest := []) [.ref (E.2.2.2.1 + y26), .int v3, .int v4, .int v5] dX11_draws_151 lk_X11_333 rfl (zd1 rfl hd) rfl (Nat.le_of_ble_eq_true rfl) (ct_X11_between E hE _ (zdl rfl hd) _ _ _ _ _) (fun y27 => ?_)
    refine zs_iconst (v := 1) dX11_draws_154 ciconst_1 ?_
    refine zs_jn (fun j165 => ∀ (M28 : zM), zSy E mu_X11_draws d M0 (none, x0) x0 (j165 M28) 165 [(0, .ref (E.2.2.2.1 + v0)), (1, .int v1), (2, .int v2), (3, .int v3), (4, .int v4), (5, .int v5)] [] M28) (fun M28 => ?_) (fun j165 hj165 => ?_)
    · refine zs_iinc (v := (v5 + 1)) (loc' := [(0, .ref (E.2.2.2.1 + v0)), (1, .int v1), (2, .int v2), (3, .int v3), (4, .int v4), (5, .int (v5 + 1))]) dX11_draws_165 5 rfl (by rfl) (Nat.le_of_ble_eq_true rfl) [1, 2, 3, 4, 5, 0] rfl ?_
      refine zs_goto dX11_draws_168 rfl ?_
      exact ih (v5 + 1) M28
    refine zs_icmp_ne dX11_draws_155 rfl ?_ ?_
    · exact hj165 M
    refine zs_aload_n dX11_draws_158 rfl 0 rfl ?_
    refine zs_iload_n dX11_draws_159 rfl 2 rfl ?_
    refine zs_iload dX11_draws_160 5 rfl ?_
    refine zs_invVWV (rest := []) [.int v2, .int v5] dX11_draws_162 lk_X11_108 rfl (fun _ h => th_X11_flips h) (zd1 rfl hd) rfl (Nat.le_of_ble_eq_true rfl) (ct_X11_flips E hE _ (zdl rfl hd) _ _ _ _) (fun M29 => ?_)
    exact hj165 M29
set_option maxHeartbeats 4000000 in
set_option maxRecDepth 100000 in
theorem w_X11_draws_L83 (E : zEnv) (hE : zEok E) (d : Nat) (hd : 3 ≤ d) (M0 : zM) (x0 : zM) (v0 : Nat) (v1 : Int32)  : ∀ (n : Nat) (v2 : Int32) (M : zM), zSy E mu_X11_draws d M0 (none, x0) x0 (fp_X11_draws_L83 v0 v1 n v2 M) 83 [(0, .ref (E.2.2.2.1 + v0)), (1, .int v1), (2, .int v2)] [] M := by
  intro n
  induction n with
  | zero =>
    intro v2 M
    rw [fp_X11_draws_L83]
    exact zs_none
  | succ n ih =>
    intro v2 M
    rw [fp_X11_draws_L83]
    refine zs_iload_n dX11_draws_83 rfl 2 rfl ?_
    refine zs_iload_n dX11_draws_84 rfl 1 rfl ?_
    refine zs_icmp_ge dX11_draws_85 rfl ?_ ?_
    · exact zs_vret dX11_draws_177 trivial
    refine zs_iconst (v := 0) dX11_draws_88 ciconst_0 ?_
    refine zs_istore_n (loc' := [(0, .ref (E.2.2.2.1 + v0)), (1, .int v1), (2, .int v2), (3, .int 0)]) dX11_draws_89 rfl (Nat.le_of_ble_eq_true rfl) [1, 2, 3, 0] rfl ?_
    refine w_X11_draws_L90 E hE d hd _ _ _ _ _ _ _ (fun v3_20 => ?_) _ _
    refine zs_iload_n dX11_draws_106 rfl 3 rfl ?_
    refine zs_iconst (v := 1) dX11_draws_107 ciconst_1 ?_
    refine zs_iadd dX11_draws_108 ?_
    refine zs_istoreL (loc' := fun v4_21 => [(0, .ref (E.2.2.2.1 + v0)), (1, .int v1), (2, .int v2), (3, .int v3_20), (4, .int v4_21)]) dX11_draws_109 (Nat.le_of_ble_eq_true rfl) [1, 2, 3, 4, 0] (fun _ => rfl) (fun v4_21 => ?_)
    refine w_X11_draws_L111 E hE d hd _ _ _ _ _ _ _ _ (fun v4_24 => ?_) _ _
    refine zs_aload_n dX11_draws_128 rfl 0 rfl ?_
    refine zs_iconst (v := 0) dX11_draws_129 ciconst_0 ?_
    refine zs_invVWV (rest := []) [.int 0] dX11_draws_130 lk_X11_186 rfl (fun _ h => th_X11_comes h) (zd1 rfl hd) rfl (Nat.le_of_ble_eq_true rfl) (ct_X11_comes E hE _ (zdl rfl hd) _ _ _) (fun M25 => ?_)
    refine zs_iconst (v := 0) dX11_draws_133 ciconst_0 ?_
    refine zs_istore (loc' := [(0, .ref (E.2.2.2.1 + v0)), (1, .int v1), (2, .int v2), (3, .int v3_20), (4, .int v4_24), (5, .int 0)]) dX11_draws_134 (Nat.le_of_ble_eq_true rfl) [1, 2, 3, 4, 5, 0] rfl ?_
    refine w_X11_draws_L136 E hE d hd _ _ _ _ _ _ _ _ (fun M30 => ?_) _ _ _
    refine zs_iinc (v := (v2 + 1)) (loc' := [(0, .ref (E.2.2.2.1 + v0)), (1, .int v1), (2, .int (v2 + 1))]) dX11_draws_171 2 rfl (by rfl) (Nat.le_of_ble_eq_true rfl) [1, 2, 0] rfl ?_
    refine zs_goto dX11_draws_174 rfl ?_
    exact ih (v2 + 1) M30
set_option maxHeartbeats 4000000 in
set_option maxRecDepth 100000 in
theorem ct_X11_draws (E : zEnv) (hE : zEok E) (d : Nat) (hd : 3 ≤ d) (v0 : Nat) (v1 : Int32) (M : zM) (x0 : zM) (hx : fp_X11_draws v0 v1 M = some x0) : zCt E mu_X11_draws d [.ref (E.2.2.2.1 + v0), .int v1] M (none, x0) := by
  refine zCt_of (μ := mu_X11_draws) (t := fp_X11_draws v0 v1 M) rfl rfl (Nat.le_of_ble_eq_true rfl) hx ?_
  change zSy E mu_X11_draws d M (none, x0) x0 (fp_X11_draws v0 v1 M) 0 [(0, .ref (E.2.2.2.1 + v0)), (1, .int v1)] [] M
  unfold fp_X11_draws
  refine zs_this (fun hth => ?_)
  refine zs_iconst (v := 0) dX11_draws_0 ciconst_0 ?_
  refine zs_istore_n (loc' := [(0, .ref (E.2.2.2.1 + v0)), (1, .int v1), (2, .int 0)]) dX11_draws_1 rfl (Nat.le_of_ble_eq_true rfl) [1, 2, 0] rfl ?_
  refine w_X11_draws_L2 E hE d hd _ _ _ _ _ (fun M3 => ?_) _ _ _
  refine zs_iconst (v := 2) dX11_draws_24 ciconst_2 ?_
  refine zs_iload_n dX11_draws_25 rfl 1 rfl ?_
  refine zs_imul dX11_draws_26 ?_
  refine zs_iconst (v := 1) dX11_draws_27 ciconst_1 ?_
  refine zs_isub dX11_draws_28 ?_
  refine zs_istore_nL (loc' := fun v2_4 => [(0, .ref (E.2.2.2.1 + v0)), (1, .int v1), (2, .int v2_4)]) dX11_draws_29 rfl (Nat.le_of_ble_eq_true rfl) [1, 2, 0] (fun _ => rfl) (fun v2_4 => ?_)
  refine w_X11_draws_L30 E hE d hd _ _ _ _ _ (fun M16 => ?_) _ _ _
  refine zs_aload_n dX11_draws_76 rfl 0 rfl ?_
  refine zs_iconst (v := 0) dX11_draws_77 ciconst_0 ?_
  refine zs_putI dX11_draws_78 fl_X11_101 ft_X11 rfl rfl rfl rfl rfl (fun M17 => ?_)
  refine zs_iconst (v := 0) dX11_draws_81 ciconst_0 ?_
  refine zs_istore_n (loc' := [(0, .ref (E.2.2.2.1 + v0)), (1, .int v1), (2, .int 0)]) dX11_draws_82 rfl (Nat.le_of_ble_eq_true rfl) [1, 2, 0] rfl ?_
  exact w_X11_draws_L83 E hE d hd _ _ _ _ _ _ _
theorem dX11_shuffle_0 : decode cX11_shuffle 0 = .ok (.iload_n 1, 1) := by decide +kernel
theorem dX11_shuffle_1 : decode cX11_shuffle 1 = .ok (.iconst 0, 1) := by decide +kernel
theorem dX11_shuffle_2 : decode cX11_shuffle 2 = .ok (.sipush 9999, 3) := by decide +kernel
theorem dX11_shuffle_5 : decode cX11_shuffle 5 = .ok (.invokestatic 195, 3) := by decide +kernel
theorem dX11_shuffle_8 : decode cX11_shuffle 8 = .ok (.ifCond .eq 13, 3) := by decide +kernel
theorem dX11_shuffle_11 : decode cX11_shuffle 11 = .ok (.iload_n 2, 1) := by decide +kernel
theorem dX11_shuffle_12 : decode cX11_shuffle 12 = .ok (.iconst 0, 1) := by decide +kernel
theorem dX11_shuffle_13 : decode cX11_shuffle 13 = .ok (.bipush 7, 2) := by decide +kernel
theorem dX11_shuffle_15 : decode cX11_shuffle 15 = .ok (.invokestatic 195, 3) := by decide +kernel
theorem dX11_shuffle_18 : decode cX11_shuffle 18 = .ok (.ifCond .ne 9, 3) := by decide +kernel
theorem dX11_shuffle_21 : decode cX11_shuffle 21 = .ok (.aload_n 0, 1) := by decide +kernel
theorem dX11_shuffle_22 : decode cX11_shuffle 22 = .ok (.iconst 1, 1) := by decide +kernel
theorem dX11_shuffle_23 : decode cX11_shuffle 23 = .ok (.invokevirtual 226, 3) := by decide +kernel
theorem dX11_shuffle_26 : decode cX11_shuffle 26 = .ok (.ireturn, 1) := by decide +kernel
theorem dX11_shuffle_27 : decode cX11_shuffle 27 = .ok (.aload_n 0, 1) := by decide +kernel
theorem dX11_shuffle_28 : decode cX11_shuffle 28 = .ok (.invokevirtual 275, 3) := by decide +kernel
theorem dX11_shuffle_31 : decode cX11_shuffle 31 = .ok (.aload_n 0, 1) := by decide +kernel
theorem dX11_shuffle_32 : decode cX11_shuffle 32 = .ok (.iload_n 1, 1) := by decide +kernel
theorem dX11_shuffle_33 : decode cX11_shuffle 33 = .ok (.putfield 456, 3) := by decide +kernel
theorem dX11_shuffle_36 : decode cX11_shuffle 36 = .ok (.aload_n 0, 1) := by decide +kernel
theorem dX11_shuffle_37 : decode cX11_shuffle 37 = .ok (.iload_n 2, 1) := by decide +kernel
theorem dX11_shuffle_38 : decode cX11_shuffle 38 = .ok (.invokevirtual 463, 3) := by decide +kernel
theorem dX11_shuffle_41 : decode cX11_shuffle 41 = .ok (.aload_n 0, 1) := by decide +kernel
theorem dX11_shuffle_42 : decode cX11_shuffle 42 = .ok (.aload_n 0, 1) := by decide +kernel
theorem dX11_shuffle_43 : decode cX11_shuffle 43 = .ok (.invokevirtual 248, 3) := by decide +kernel
theorem dX11_shuffle_46 : decode cX11_shuffle 46 = .ok (.invokevirtual 242, 3) := by decide +kernel
theorem dX11_shuffle_49 : decode cX11_shuffle 49 = .ok (.ireturn, 1) := by decide +kernel
def fp_X11_shuffle (v0 : Nat) (v1 : Int32) (v2 : Int32) (M : zM) : Option (Int32 × zM) :=
  zthis 9 M v0 (
    (fp_X11_isFrom v1 0 9999).bind fun (y1 : Int32) =>
    if y1 = 0 then (
      (fp_X11_refuse v0 1 M).bind fun p4 => zpp p4 fun (y2 : Int32) (M3 : zM) =>
      some (y2, M3))
    else (
      (fp_X11_isFrom v2 0 7).bind fun (y5 : Int32) =>
      if y5 ≠ 0 then (
        (fp_X11_begins v0 M).bind fun (M6 : zM) =>
        (zpI 9 M6 v0 51 v1).bind fun (M7 : zM) =>
        (fp_X11_draws v0 v2 M7).bind fun (M8 : zM) =>
        (fp_X11_lines v0 M8).bind fun (y9 : Int32) =>
        (fp_X11_gives v0 y9 M8).bind fun p12 => zpp p12 fun (y10 : Int32) (M11 : zM) =>
        some (y10, M11))
      else (
        (fp_X11_refuse v0 1 M).bind fun p15 => zpp p15 fun (y13 : Int32) (M14 : zM) =>
        some (y13, M14))))
set_option maxHeartbeats 4000000 in
set_option maxRecDepth 100000 in
theorem th_X11_shuffle {v0 : Nat} {v1 : Int32} {v2 : Int32} {M : zM} {x0 : Int32 × zM} (h : fp_X11_shuffle v0 v1 v2 M = some x0) : v0 < zS M ∧ kd v0 = 9 := by
  unfold fp_X11_shuffle at h
  exact zthis_of h
set_option maxHeartbeats 4000000 in
set_option maxRecDepth 100000 in
theorem ct_X11_shuffle (E : zEnv) (hE : zEok E) (d : Nat) (hd : 4 ≤ d) (v0 : Nat) (v1 : Int32) (v2 : Int32) (M : zM) (x0 : Int32 × zM) (hx : fp_X11_shuffle v0 v1 v2 M = some x0) : zCt E mu_X11_shuffle d [.ref (E.2.2.2.1 + v0), .int v1, .int v2] M (some (.int x0.1), x0.2) := by
  refine zCt_of (μ := mu_X11_shuffle) (t := fp_X11_shuffle v0 v1 v2 M) rfl rfl (Nat.le_of_ble_eq_true rfl) hx ?_
  change zSy E mu_X11_shuffle d M (some (.int x0.1), x0.2) x0 (fp_X11_shuffle v0 v1 v2 M) 0 [(0, .ref (E.2.2.2.1 + v0)), (1, .int v1), (2, .int v2)] [] M
  unfold fp_X11_shuffle
  refine zs_this (fun hth => ?_)
  refine zs_iload_n dX11_shuffle_0 rfl 1 rfl ?_
  refine zs_iconst (v := 0) dX11_shuffle_1 ciconst_0 ?_
  refine zs_sipush (v := 9999) dX11_shuffle_2 csipush_9999 ?_
  refine zs_invSPI (rest := []) [.int v1, .int 0, .int 9999] dX11_shuffle_5 lk_X11_195 rfl (zd1 rfl hd) rfl (Nat.le_of_ble_eq_true rfl) (ct_X11_isFrom E hE _ (zdl rfl hd) _ _ _ _) (fun y1 => ?_)
  refine zs_if_eq dX11_shuffle_8 rfl ?_ ?_
  · refine zs_aload_n dX11_shuffle_21 rfl 0 rfl ?_
    refine zs_iconst (v := 1) dX11_shuffle_22 ciconst_1 ?_
    refine zs_invVWI (rest := []) [.int 1] dX11_shuffle_23 lk_X11_226 rfl (fun _ h => th_X11_refuse h) (zd1 rfl hd) rfl (Nat.le_of_ble_eq_true rfl) (ct_X11_refuse E hE _ (zdl rfl hd) _ _ _) (fun y2 M3 => ?_)
    exact zs_iretW dX11_shuffle_26 rfl
  refine zs_iload_n dX11_shuffle_11 rfl 2 rfl ?_
  refine zs_iconst (v := 0) dX11_shuffle_12 ciconst_0 ?_
  refine zs_bipush (v := 7) dX11_shuffle_13 cbipush_7 ?_
  refine zs_invSPI (rest := []) [.int v2, .int 0, .int 7] dX11_shuffle_15 lk_X11_195 rfl (zd1 rfl hd) rfl (Nat.le_of_ble_eq_true rfl) (ct_X11_isFrom E hE _ (zdl rfl hd) _ _ _ _) (fun y5 => ?_)
  refine zs_if_ne dX11_shuffle_18 rfl ?_ ?_
  · refine zs_aload_n dX11_shuffle_27 rfl 0 rfl ?_
    refine zs_invVWV (rest := []) [] dX11_shuffle_28 lk_X11_275 rfl (fun _ h => th_X11_begins h) (zd1 rfl hd) rfl (Nat.le_of_ble_eq_true rfl) (ct_X11_begins E hE _ (zdl rfl hd) _ _) (fun M6 => ?_)
    refine zs_aload_n dX11_shuffle_31 rfl 0 rfl ?_
    refine zs_iload_n dX11_shuffle_32 rfl 1 rfl ?_
    refine zs_putI dX11_shuffle_33 fl_X11_456 ft_X11 rfl rfl rfl rfl rfl (fun M7 => ?_)
    refine zs_aload_n dX11_shuffle_36 rfl 0 rfl ?_
    refine zs_iload_n dX11_shuffle_37 rfl 2 rfl ?_
    refine zs_invVWV (rest := []) [.int v2] dX11_shuffle_38 lk_X11_463 rfl (fun _ h => th_X11_draws h) (zd1 rfl hd) rfl (Nat.le_of_ble_eq_true rfl) (ct_X11_draws E hE _ (zdl rfl hd) _ _ _) (fun M8 => ?_)
    refine zs_aload_n dX11_shuffle_41 rfl 0 rfl ?_
    refine zs_aload_n dX11_shuffle_42 rfl 0 rfl ?_
    refine zs_invVPI (rest := [.ref (E.2.2.2.1 + v0)]) [] dX11_shuffle_43 lk_X11_248 rfl (fun _ h => th_X11_lines h) (zd1 rfl hd) rfl (Nat.le_of_ble_eq_true rfl) (ct_X11_lines E hE _ (zdl rfl hd) _ _) (fun y9 => ?_)
    refine zs_invVWI (rest := []) [.int y9] dX11_shuffle_46 lk_X11_242 rfl (fun _ h => th_X11_gives h) (zd1 rfl hd) rfl (Nat.le_of_ble_eq_true rfl) (ct_X11_gives E hE _ (zdl rfl hd) _ _ _) (fun y10 M11 => ?_)
    exact zs_iretW dX11_shuffle_49 rfl
  refine zs_aload_n dX11_shuffle_21 rfl 0 rfl ?_
  refine zs_iconst (v := 1) dX11_shuffle_22 ciconst_1 ?_
  refine zs_invVWI (rest := []) [.int 1] dX11_shuffle_23 lk_X11_226 rfl (fun _ h => th_X11_refuse h) (zd1 rfl hd) rfl (Nat.le_of_ble_eq_true rfl) (ct_X11_refuse E hE _ (zdl rfl hd) _ _ _) (fun y13 M14 => ?_)
  exact zs_iretW dX11_shuffle_26 rfl
theorem dX11_sample_0 : decode cX11_sample 0 = .ok (.iload_n 1, 1) := by decide +kernel
theorem dX11_sample_1 : decode cX11_sample 1 = .ok (.iconst 0, 1) := by decide +kernel
theorem dX11_sample_2 : decode cX11_sample 2 = .ok (.sipush 9999, 3) := by decide +kernel
theorem dX11_sample_5 : decode cX11_sample 5 = .ok (.invokestatic 195, 3) := by decide +kernel
theorem dX11_sample_8 : decode cX11_sample 8 = .ok (.ifCond .eq 33, 3) := by decide +kernel
theorem dX11_sample_11 : decode cX11_sample 11 = .ok (.iload_n 2, 1) := by decide +kernel
theorem dX11_sample_12 : decode cX11_sample 12 = .ok (.iconst 0, 1) := by decide +kernel
theorem dX11_sample_13 : decode cX11_sample 13 = .ok (.bipush 7, 2) := by decide +kernel
theorem dX11_sample_15 : decode cX11_sample 15 = .ok (.invokestatic 195, 3) := by decide +kernel
theorem dX11_sample_18 : decode cX11_sample 18 = .ok (.ifCond .eq 23, 3) := by decide +kernel
theorem dX11_sample_21 : decode cX11_sample 21 = .ok (.iload_n 3, 1) := by decide +kernel
theorem dX11_sample_22 : decode cX11_sample 22 = .ok (.iconst 1, 1) := by decide +kernel
theorem dX11_sample_23 : decode cX11_sample 23 = .ok (.bipush 40, 2) := by decide +kernel
theorem dX11_sample_25 : decode cX11_sample 25 = .ok (.invokestatic 195, 3) := by decide +kernel
theorem dX11_sample_28 : decode cX11_sample 28 = .ok (.ifCond .eq 13, 3) := by decide +kernel
theorem dX11_sample_31 : decode cX11_sample 31 = .ok (.iload 4, 2) := by decide +kernel
theorem dX11_sample_33 : decode cX11_sample 33 = .ok (.iconst 0, 1) := by decide +kernel
theorem dX11_sample_34 : decode cX11_sample 34 = .ok (.iconst 3, 1) := by decide +kernel
theorem dX11_sample_35 : decode cX11_sample 35 = .ok (.invokestatic 195, 3) := by decide +kernel
theorem dX11_sample_38 : decode cX11_sample 38 = .ok (.ifCond .ne 9, 3) := by decide +kernel
theorem dX11_sample_41 : decode cX11_sample 41 = .ok (.aload_n 0, 1) := by decide +kernel
theorem dX11_sample_42 : decode cX11_sample 42 = .ok (.iconst 1, 1) := by decide +kernel
theorem dX11_sample_43 : decode cX11_sample 43 = .ok (.invokevirtual 226, 3) := by decide +kernel
theorem dX11_sample_46 : decode cX11_sample 46 = .ok (.ireturn, 1) := by decide +kernel
theorem dX11_sample_47 : decode cX11_sample 47 = .ok (.aload_n 0, 1) := by decide +kernel
theorem dX11_sample_48 : decode cX11_sample 48 = .ok (.aload_n 0, 1) := by decide +kernel
theorem dX11_sample_49 : decode cX11_sample 49 = .ok (.getfield 39, 3) := by decide +kernel
theorem dX11_sample_52 : decode cX11_sample 52 = .ok (.iconst 0, 1) := by decide +kernel
theorem dX11_sample_53 : decode cX11_sample 53 = .ok (.invokevirtual 229, 3) := by decide +kernel
theorem dX11_sample_56 : decode cX11_sample 56 = .ok (.aload_n 0, 1) := by decide +kernel
theorem dX11_sample_57 : decode cX11_sample 57 = .ok (.iload_n 1, 1) := by decide +kernel
theorem dX11_sample_58 : decode cX11_sample 58 = .ok (.putfield 456, 3) := by decide +kernel
theorem dX11_sample_61 : decode cX11_sample 61 = .ok (.iconst 0, 1) := by decide +kernel
theorem dX11_sample_62 : decode cX11_sample 62 = .ok (.istore 5, 2) := by decide +kernel
theorem dX11_sample_64 : decode cX11_sample 64 = .ok (.iconst 0, 1) := by decide +kernel
theorem dX11_sample_65 : decode cX11_sample 65 = .ok (.istore 6, 2) := by decide +kernel
theorem dX11_sample_67 : decode cX11_sample 67 = .ok (.iconst 0, 1) := by decide +kernel
theorem dX11_sample_68 : decode cX11_sample 68 = .ok (.istore 7, 2) := by decide +kernel
theorem dX11_sample_70 : decode cX11_sample 70 = .ok (.iconst 0, 1) := by decide +kernel
theorem dX11_sample_71 : decode cX11_sample 71 = .ok (.istore 8, 2) := by decide +kernel
theorem dX11_sample_73 : decode cX11_sample 73 = .ok (.iload 8, 2) := by decide +kernel
theorem dX11_sample_75 : decode cX11_sample 75 = .ok (.iload_n 3, 1) := by decide +kernel
theorem dX11_sample_76 : decode cX11_sample 76 = .ok (.if_icmp .ge 70, 3) := by decide +kernel
theorem dX11_sample_79 : decode cX11_sample 79 = .ok (.aload_n 0, 1) := by decide +kernel
theorem dX11_sample_80 : decode cX11_sample 80 = .ok (.iload_n 2, 1) := by decide +kernel
theorem dX11_sample_81 : decode cX11_sample 81 = .ok (.invokevirtual 463, 3) := by decide +kernel
theorem dX11_sample_84 : decode cX11_sample 84 = .ok (.iload 5, 2) := by decide +kernel
theorem dX11_sample_86 : decode cX11_sample 86 = .ok (.aload_n 0, 1) := by decide +kernel
theorem dX11_sample_87 : decode cX11_sample 87 = .ok (.invokevirtual 248, 3) := by decide +kernel
theorem dX11_sample_90 : decode cX11_sample 90 = .ok (.iadd, 1) := by decide +kernel
theorem dX11_sample_91 : decode cX11_sample 91 = .ok (.istore 5, 2) := by decide +kernel
theorem dX11_sample_93 : decode cX11_sample 93 = .ok (.iload 6, 2) := by decide +kernel
theorem dX11_sample_95 : decode cX11_sample 95 = .ok (.aload_n 0, 1) := by decide +kernel
theorem dX11_sample_96 : decode cX11_sample 96 = .ok (.invokevirtual 251, 3) := by decide +kernel
theorem dX11_sample_99 : decode cX11_sample 99 = .ok (.ifCond .eq 7, 3) := by decide +kernel
theorem dX11_sample_102 : decode cX11_sample 102 = .ok (.iconst 1, 1) := by decide +kernel
theorem dX11_sample_103 : decode cX11_sample 103 = .ok (.goto 4, 3) := by decide +kernel
theorem dX11_sample_106 : decode cX11_sample 106 = .ok (.iconst 0, 1) := by decide +kernel
theorem dX11_sample_107 : decode cX11_sample 107 = .ok (.iadd, 1) := by decide +kernel
theorem dX11_sample_108 : decode cX11_sample 108 = .ok (.istore 6, 2) := by decide +kernel
theorem dX11_sample_110 : decode cX11_sample 110 = .ok (.iload 7, 2) := by decide +kernel
theorem dX11_sample_112 : decode cX11_sample 112 = .ok (.iload_n 2, 1) := by decide +kernel
theorem dX11_sample_113 : decode cX11_sample 113 = .ok (.iconst 4, 1) := by decide +kernel
theorem dX11_sample_114 : decode cX11_sample 114 = .ok (.if_icmp .le 22, 3) := by decide +kernel
theorem dX11_sample_117 : decode cX11_sample 117 = .ok (.aload_n 0, 1) := by decide +kernel
theorem dX11_sample_118 : decode cX11_sample 118 = .ok (.invokevirtual 251, 3) := by decide +kernel
theorem dX11_sample_121 : decode cX11_sample 121 = .ok (.ifCond .eq 15, 3) := by decide +kernel
theorem dX11_sample_124 : decode cX11_sample 124 = .ok (.aload_n 0, 1) := by decide +kernel
theorem dX11_sample_125 : decode cX11_sample 125 = .ok (.iconst (-1), 1) := by decide +kernel
theorem dX11_sample_126 : decode cX11_sample 126 = .ok (.invokevirtual 254, 3) := by decide +kernel
theorem dX11_sample_129 : decode cX11_sample 129 = .ok (.ifCond .ne 7, 3) := by decide +kernel
theorem dX11_sample_132 : decode cX11_sample 132 = .ok (.iconst 1, 1) := by decide +kernel
theorem dX11_sample_133 : decode cX11_sample 133 = .ok (.goto 4, 3) := by decide +kernel
theorem dX11_sample_136 : decode cX11_sample 136 = .ok (.iconst 0, 1) := by decide +kernel
theorem dX11_sample_137 : decode cX11_sample 137 = .ok (.iadd, 1) := by decide +kernel
theorem dX11_sample_138 : decode cX11_sample 138 = .ok (.istore 7, 2) := by decide +kernel
theorem dX11_sample_140 : decode cX11_sample 140 = .ok (.iinc 8 1, 3) := by decide +kernel
theorem dX11_sample_143 : decode cX11_sample 143 = .ok (.goto (-70), 3) := by decide +kernel
theorem dX11_sample_146 : decode cX11_sample 146 = .ok (.aload_n 0, 1) := by decide +kernel
theorem dX11_sample_147 : decode cX11_sample 147 = .ok (.aload_n 0, 1) := by decide +kernel
theorem dX11_sample_148 : decode cX11_sample 148 = .ok (.getfield 39, 3) := by decide +kernel
theorem dX11_sample_151 : decode cX11_sample 151 = .ok (.iconst 0, 1) := by decide +kernel
theorem dX11_sample_152 : decode cX11_sample 152 = .ok (.invokevirtual 236, 3) := by decide +kernel
theorem dX11_sample_155 : decode cX11_sample 155 = .ok (.iload_n 3, 1) := by decide +kernel
theorem dX11_sample_156 : decode cX11_sample 156 = .ok (.iload_n 2, 1) := by decide +kernel
theorem dX11_sample_157 : decode cX11_sample 157 = .ok (.iload_n 2, 1) := by decide +kernel
theorem dX11_sample_158 : decode cX11_sample 158 = .ok (.iconst 1, 1) := by decide +kernel
theorem dX11_sample_159 : decode cX11_sample 159 = .ok (.isub, 1) := by decide +kernel
theorem dX11_sample_160 : decode cX11_sample 160 = .ok (.imul, 1) := by decide +kernel
theorem dX11_sample_161 : decode cX11_sample 161 = .ok (.iconst 2, 1) := by decide +kernel
theorem dX11_sample_162 : decode cX11_sample 162 = .ok (.idiv, 1) := by decide +kernel
theorem dX11_sample_163 : decode cX11_sample 163 = .ok (.imul, 1) := by decide +kernel
theorem dX11_sample_164 : decode cX11_sample 164 = .ok (.istore 8, 2) := by decide +kernel
theorem dX11_sample_166 : decode cX11_sample 166 = .ok (.aload_n 0, 1) := by decide +kernel
theorem dX11_sample_167 : decode cX11_sample 167 = .ok (.iload 4, 2) := by decide +kernel
theorem dX11_sample_169 : decode cX11_sample 169 = .ok (.ifCond .ne 8, 3) := by decide +kernel
theorem dX11_sample_172 : decode cX11_sample 172 = .ok (.iload 5, 2) := by decide +kernel
theorem dX11_sample_174 : decode cX11_sample 174 = .ok (.goto 43, 3) := by decide +kernel
theorem dX11_sample_177 : decode cX11_sample 177 = .ok (.iload 4, 2) := by decide +kernel
theorem dX11_sample_179 : decode cX11_sample 179 = .ok (.iconst 1, 1) := by decide +kernel
theorem dX11_sample_180 : decode cX11_sample 180 = .ok (.if_icmp .ne 8, 3) := by decide +kernel
theorem dX11_sample_183 : decode cX11_sample 183 = .ok (.iload 6, 2) := by decide +kernel
theorem dX11_sample_185 : decode cX11_sample 185 = .ok (.goto 32, 3) := by decide +kernel
theorem dX11_sample_188 : decode cX11_sample 188 = .ok (.iload 4, 2) := by decide +kernel
theorem dX11_sample_190 : decode cX11_sample 190 = .ok (.iconst 2, 1) := by decide +kernel
theorem dX11_sample_191 : decode cX11_sample 191 = .ok (.if_icmp .ne 8, 3) := by decide +kernel
theorem dX11_sample_194 : decode cX11_sample 194 = .ok (.iload 7, 2) := by decide +kernel
theorem dX11_sample_196 : decode cX11_sample 196 = .ok (.goto 21, 3) := by decide +kernel
theorem dX11_sample_199 : decode cX11_sample 199 = .ok (.iload 8, 2) := by decide +kernel
theorem dX11_sample_201 : decode cX11_sample 201 = .ok (.ifCond .ne 7, 3) := by decide +kernel
theorem dX11_sample_204 : decode cX11_sample 204 = .ok (.iconst 0, 1) := by decide +kernel
theorem dX11_sample_205 : decode cX11_sample 205 = .ok (.goto 12, 3) := by decide +kernel
theorem dX11_sample_208 : decode cX11_sample 208 = .ok (.iload 5, 2) := by decide +kernel
theorem dX11_sample_210 : decode cX11_sample 210 = .ok (.i2l, 1) := by decide +kernel
theorem dX11_sample_211 : decode cX11_sample 211 = .ok (.iload 8, 2) := by decide +kernel
theorem dX11_sample_213 : decode cX11_sample 213 = .ok (.i2l, 1) := by decide +kernel
theorem dX11_sample_214 : decode cX11_sample 214 = .ok (.invokestatic 406, 3) := by decide +kernel
theorem dX11_sample_217 : decode cX11_sample 217 = .ok (.invokevirtual 242, 3) := by decide +kernel
theorem dX11_sample_220 : decode cX11_sample 220 = .ok (.ireturn, 1) := by decide +kernel
def fp_X11_sample_L73 (k146 : Int32 → Int32 → Int32 → zM → Option (Int32 × zM)) (v0 : Nat) (v2 : Int32) (v3 : Int32) (v4 : Int32) : Nat → Int32 → Int32 → Int32 → Int32 → zM → Option (Int32 × zM)
  | 0, _, _, _, _, _ => none
  | n + 1, v5, v6, v7, v8, M =>
    if v8 ≥ v3 then (
      k146 v5 v6 v7 M)
    else (
      (fp_X11_draws v0 v2 M).bind fun (M17 : zM) =>
      (fp_X11_lines v0 M17).bind fun (y18 : Int32) =>
      lett ((v5 + y18)) fun (v5_19 : Int32) =>
      (fp_X11_areJoined v0 M17).bind fun (y20 : Int32) =>
      zjn (fun (s21 : Int32) (s22 : Int32) =>
          lett ((s22 + s21)) fun (v6_23 : Int32) =>
          zjn (fun (s24 : Int32) (s25 : Int32) (M26 : zM) =>
              lett ((s25 + s24)) fun (v7_27 : Int32) =>
              fp_X11_sample_L73 k146 v0 v2 v3 v4 n v5_19 v6_23 v7_27 (v8 + 1) M26)
            (fun j137 =>
              zjn (fun (s28 : Int32) (M29 : zM) =>
                  j137 0 s28 M29)
                (fun j136 =>
                  if v2 ≤ 4 then (
                    j136 v7 M17)
                  else (
                    (fp_X11_areJoined v0 M17).bind fun (y30 : Int32) =>
                    if y30 = 0 then (
                      j136 v7 M17)
                    else (
                      (fp_X11_splits v0 (-1) M17).bind fun p33 => zpp p33 fun (y31 : Int32) (M32 : zM) =>
                      if y31 ≠ 0 then (
                        j136 v7 M32)
                      else (
                        j137 1 v7 M32))))))
        (fun j107 =>
          if y20 = 0 then (
            j107 0 v6)
          else (
            j107 1 v6)))
def fp_X11_sample (v0 : Nat) (v1 : Int32) (v2 : Int32) (v3 : Int32) (v4 : Int32) (M : zM) : Option (Int32 × zM) :=
  zthis 9 M v0 (
    (fp_X11_isFrom v1 0 9999).bind fun (y1 : Int32) =>
    if y1 = 0 then (
      (fp_X11_refuse v0 1 M).bind fun p4 => zpp p4 fun (y2 : Int32) (M3 : zM) =>
      some (y2, M3))
    else (
      (fp_X11_isFrom v2 0 7).bind fun (y5 : Int32) =>
      if y5 = 0 then (
        (fp_X11_refuse v0 1 M).bind fun p8 => zpp p8 fun (y6 : Int32) (M7 : zM) =>
        some (y6, M7))
      else (
        (fp_X11_isFrom v3 1 40).bind fun (y9 : Int32) =>
        if y9 = 0 then (
          (fp_X11_refuse v0 1 M).bind fun p12 => zpp p12 fun (y10 : Int32) (M11 : zM) =>
          some (y10, M11))
        else (
          (fp_X11_isFrom v4 0 3).bind fun (y13 : Int32) =>
          if y13 ≠ 0 then (
            (zgR 9 M v0 17).bind fun (y14 : Nat) =>
            (fp_X11_puts v0 y14 0 M).bind fun (M15 : zM) =>
            (zpI 9 M15 v0 51 v1).bind fun (M16 : zM) =>
            fp_X11_sample_L73
              (fun v5_34 v6_35 v7_36 M37 =>
                (zgR 9 M37 v0 17).bind fun (y38 : Nat) =>
                (fp_X11_brings v0 y38 0 M37).bind fun (M39 : zM) =>
                lett ((v3 * ((v2 * (v2 - 1)) / 2))) fun (v8_40 : Int32) =>
                if v4 ≠ 0 then (
                  if v4 ≠ 1 then (
                    if v4 ≠ 2 then (
                      if v8_40 ≠ 0 then (
                        (fp_X11_quotient (v5_34.toInt64) (v8_40.toInt64)).bind fun (y41 : Int32) =>
                        (fp_X11_gives v0 y41 M39).bind fun p44 => zpp p44 fun (y42 : Int32) (M43 : zM) =>
                        some (y42, M43))
                      else (
                        (fp_X11_gives v0 0 M39).bind fun p47 => zpp p47 fun (y45 : Int32) (M46 : zM) =>
                        some (y45, M46)))
                    else (
                      (fp_X11_gives v0 v7_36 M39).bind fun p50 => zpp p50 fun (y48 : Int32) (M49 : zM) =>
                      some (y48, M49)))
                  else (
                    (fp_X11_gives v0 v6_35 M39).bind fun p53 => zpp p53 fun (y51 : Int32) (M52 : zM) =>
                    some (y51, M52)))
                else (
                  (fp_X11_gives v0 v5_34 M39).bind fun p56 => zpp p56 fun (y54 : Int32) (M55 : zM) =>
                  some (y54, M55))) v0 v2 v3 v4 FU 0 0 0 0 M16)
          else (
            (fp_X11_refuse v0 1 M).bind fun p59 => zpp p59 fun (y57 : Int32) (M58 : zM) =>
            some (y57, M58))))))
set_option maxHeartbeats 4000000 in
set_option maxRecDepth 100000 in
theorem th_X11_sample {v0 : Nat} {v1 : Int32} {v2 : Int32} {v3 : Int32} {v4 : Int32} {M : zM} {x0 : Int32 × zM} (h : fp_X11_sample v0 v1 v2 v3 v4 M = some x0) : v0 < zS M ∧ kd v0 = 9 := by
  unfold fp_X11_sample at h
  exact zthis_of h
set_option maxHeartbeats 4000000 in
set_option maxRecDepth 100000 in
theorem w_X11_sample_L73 (E : zEnv) (hE : zEok E) (d : Nat) (hd : 5 ≤ d) (M0 : zM) (x0 : Int32 × zM) (v0 : Nat) (v2 : Int32) (v3 : Int32) (v4 : Int32) (k146 : Int32 → Int32 → Int32 → zM → Option (Int32 × zM)) (hk146 : ∀ (v5 : Int32) (v6 : Int32) (v7 : Int32) (M : zM), zSy E mu_X11_sample d M0 (some (.int x0.1), x0.2) x0 (k146 v5 v6 v7 M) 146 [(0, .ref (E.2.2.2.1 + v0)), (2, .int v2), (3, .int v3), (4, .int v4), (5, .int v5), (6, .int v6), (7, .int v7)] [] M) : ∀ (n : Nat) (v5 : Int32) (v6 : Int32) (v7 : Int32) (v8 : Int32) (M : zM), zSy E mu_X11_sample d M0 (some (.int x0.1), x0.2) x0 (fp_X11_sample_L73 k146 v0 v2 v3 v4 n v5 v6 v7 v8 M) 73 [(0, .ref (E.2.2.2.1 + v0)), (2, .int v2), (3, .int v3), (4, .int v4), (5, .int v5), (6, .int v6), (7, .int v7), (8, .int v8)] [] M := by
  intro n
  induction n with
  | zero =>
    intro v5 v6 v7 v8 M
    rw [fp_X11_sample_L73]
    exact zs_none
  | succ n ih =>
    intro v5 v6 v7 v8 M
    rw [fp_X11_sample_L73]
    refine zs_iload dX11_sample_73 7 rfl ?_
    refine zs_iload_n dX11_sample_75 rfl 2 rfl ?_
    refine zs_icmp_ge dX11_sample_76 rfl ?_ ?_
    · refine zs_sub (loc' := [(0, .ref (E.2.2.2.1 + v0)), (2, .int v2), (3, .int v3), (4, .int v4), (5, .int v5), (6, .int v6), (7, .int v7)]) [0, 1, 2, 3, 4, 5, 6] rfl ?_
      exact hk146 v5 v6 v7 M
    refine zs_aload_n dX11_sample_79 rfl 0 rfl ?_
    refine zs_iload_n dX11_sample_80 rfl 1 rfl ?_
    refine zs_invVWV (rest := []) [.int v2] dX11_sample_81 lk_X11_463 rfl (fun _ h => th_X11_draws h) (zd1 rfl hd) rfl (Nat.le_of_ble_eq_true rfl) (ct_X11_draws E hE _ (zdl rfl hd) _ _ _) (fun M17 => ?_)
    refine zs_iload dX11_sample_84 4 rfl ?_
    refine zs_aload_n dX11_sample_86 rfl 0 rfl ?_
    refine zs_invVPI (rest := [.int v5]) [] dX11_sample_87 lk_X11_248 rfl (fun _ h => th_X11_lines h) (zd1 rfl hd) rfl (Nat.le_of_ble_eq_true rfl) (ct_X11_lines E hE _ (zdl rfl hd) _ _) (fun y18 => ?_)
    refine zs_iadd dX11_sample_90 ?_
    refine zs_istoreL (loc' := fun v5_19 => [(0, .ref (E.2.2.2.1 + v0)), (2, .int v2), (3, .int v3), (4, .int v4), (5, .int v5_19), (6, .int v6), (7, .int v7), (8, .int v8)]) dX11_sample_91 (Nat.le_of_ble_eq_true rfl) [1, 2, 3, 4, 0, 5, 6, 7] (fun _ => rfl) (fun v5_19 => ?_)
    refine zs_iload dX11_sample_93 5 rfl ?_
    refine zs_aload_n dX11_sample_95 rfl 0 rfl ?_
    refine zs_invVPI (rest := [.int v6]) [] dX11_sample_96 lk_X11_251 rfl (fun _ h => th_X11_areJoined h) (zd1 rfl hd) rfl (Nat.le_of_ble_eq_true rfl) (ct_X11_areJoined E hE _ (zdl rfl hd) _ _) (fun y20 => ?_)
    refine zs_jn (fun j107 => ∀ (s21 : Int32) (s22 : Int32), zSy E mu_X11_sample d M0 (some (.int x0.1), x0.2) x0 (j107 s21 s22) 107 [(0, .ref (E.2.2.2.1 + v0)), (2, .int v2), (3, .int v3), (4, .int v4), (5, .int v5_19), (7, .int v7), (8, .int v8)] [.int s21, .int s22] M17) (fun s21 s22 => ?_) (fun j107 hj107 => ?_)
    · refine zs_iadd dX11_sample_107 ?_
      refine zs_istoreL (loc' := fun v6_23 => [(0, .ref (E.2.2.2.1 + v0)), (2, .int v2), (3, .int v3), (4, .int v4), (5, .int v5_19), (6, .int v6_23), (7, .int v7), (8, .int v8)]) dX11_sample_108 (Nat.le_of_ble_eq_true rfl) [1, 2, 3, 4, 5, 0, 6, 7] (fun _ => rfl) (fun v6_23 => ?_)
      refine zs_iload dX11_sample_110 6 rfl ?_
      refine zs_iload_n dX11_sample_112 rfl 1 rfl ?_
      refine zs_iconst (v := 4) dX11_sample_113 ciconst_4 ?_
      refine zs_jn (fun j137 => ∀ (s24 : Int32) (s25 : Int32) (M26 : zM), zSy E mu_X11_sample d M0 (some (.int x0.1), x0.2) x0 (j137 s24 s25 M26) 137 [(0, .ref (E.2.2.2.1 + v0)), (2, .int v2), (3, .int v3), (4, .int v4), (5, .int v5_19), (6, .int v6_23), (8, .int v8)] [.int s24, .int s25] M26) (fun s24 s25 M26 => ?_) (fun j137 hj137 => ?_)
      · refine zs_iadd dX11_sample_137 ?_
        refine zs_istoreL (loc' := fun v7_27 => [(0, .ref (E.2.2.2.1 + v0)), (2, .int v2), (3, .int v3), (4, .int v4), (5, .int v5_19), (6, .int v6_23), (7, .int v7_27), (8, .int v8)]) dX11_sample_138 (Nat.le_of_ble_eq_true rfl) [1, 2, 3, 4, 5, 6, 0, 7] (fun _ => rfl) (fun v7_27 => ?_)
        refine zs_iinc (v := (v8 + 1)) (loc' := [(0, .ref (E.2.2.2.1 + v0)), (2, .int v2), (3, .int v3), (4, .int v4), (5, .int v5_19), (6, .int v6_23), (7, .int v7_27), (8, .int (v8 + 1))]) dX11_sample_140 7 rfl (by rfl) (Nat.le_of_ble_eq_true rfl) [1, 2, 3, 4, 5, 6, 7, 0] rfl ?_
        refine zs_goto dX11_sample_143 rfl ?_
        exact ih v5_19 v6_23 v7_27 (v8 + 1) M26
      refine zs_jn (fun j136 => ∀ (s28 : Int32) (M29 : zM), zSy E mu_X11_sample d M0 (some (.int x0.1), x0.2) x0 (j136 s28 M29) 136 [(0, .ref (E.2.2.2.1 + v0)), (2, .int v2), (3, .int v3), (4, .int v4), (5, .int v5_19), (6, .int v6_23), (8, .int v8)] [.int s28] M29) (fun s28 M29 => ?_) (fun j136 hj136 => ?_)
      · refine zs_iconst (v := 0) dX11_sample_136 ciconst_0 ?_
        exact hj137 0 s28 M29
      refine zs_icmp_le dX11_sample_114 rfl ?_ ?_
      · refine zs_sub (loc' := [(0, .ref (E.2.2.2.1 + v0)), (2, .int v2), (3, .int v3), (4, .int v4), (5, .int v5_19), (6, .int v6_23), (8, .int v8)]) [0, 1, 2, 3, 4, 5, 7] rfl ?_
        exact hj136 v7 M17
      refine zs_aload_n dX11_sample_117 rfl 0 rfl ?_
      refine zs_invVPI (rest := [.int v7]) [] dX11_sample_118 lk_X11_251 rfl (fun _ h => th_X11_areJoined h) (zd1 rfl hd) rfl (Nat.le_of_ble_eq_true rfl) (ct_X11_areJoined E hE _ (zdl rfl hd) _ _) (fun y30 => ?_)
      refine zs_if_eq dX11_sample_121 rfl ?_ ?_
      · refine zs_sub (loc' := [(0, .ref (E.2.2.2.1 + v0)), (2, .int v2), (3, .int v3), (4, .int v4), (5, .int v5_19), (6, .int v6_23), (8, .int v8)]) [0, 1, 2, 3, 4, 5, 7] rfl ?_
        exact hj136 v7 M17
      refine zs_aload_n dX11_sample_124 rfl 0 rfl ?_
      refine zs_iconst (v := (-1)) dX11_sample_125 ciconst_m1 ?_
      refine zs_invVWI (rest := [.int v7]) [.int (-1)] dX11_sample_126 lk_X11_254 rfl (fun _ h => th_X11_splits h) (zd1 rfl hd) rfl (Nat.le_of_ble_eq_true rfl) (ct_X11_splits E hE _ (zdl rfl hd) _ _ _) (fun y31 M32 => ?_)
      refine zs_if_ne dX11_sample_129 rfl ?_ ?_
      · refine zs_sub (loc' := [(0, .ref (E.2.2.2.1 + v0)), (2, .int v2), (3, .int v3), (4, .int v4), (5, .int v5_19), (6, .int v6_23), (8, .int v8)]) [0, 1, 2, 3, 4, 5, 7] rfl ?_
        exact hj136 v7 M32
      refine zs_iconst (v := 1) dX11_sample_132 ciconst_1 ?_
      refine zs_goto dX11_sample_133 rfl ?_
      refine zs_sub (loc' := [(0, .ref (E.2.2.2.1 + v0)), (2, .int v2), (3, .int v3), (4, .int v4), (5, .int v5_19), (6, .int v6_23), (8, .int v8)]) [0, 1, 2, 3, 4, 5, 7] rfl ?_
      exact hj137 1 v7 M32
    refine zs_if_eq dX11_sample_99 rfl ?_ ?_
    · refine zs_iconst (v := 0) dX11_sample_106 ciconst_0 ?_
      refine zs_sub (loc' := [(0, .ref (E.2.2.2.1 + v0)), (2, .int v2), (3, .int v3), (4, .int v4), (5, .int v5_19), (7, .int v7), (8, .int v8)]) [0, 1, 2, 3, 4, 6, 7] rfl ?_
      exact hj107 0 v6
    refine zs_iconst (v := 1) dX11_sample_102 ciconst_1 ?_
    refine zs_goto dX11_sample_103 rfl ?_
    refine zs_sub (loc' := [(0, .ref (E.2.2.2.1 + v0)), (2, .int v2), (3, .int v3), (4, .int v4), (5, .int v5_19), (7, .int v7), (8, .int v8)]) [0, 1, 2, 3, 4, 6, 7] rfl ?_
    exact hj107 1 v6
set_option maxHeartbeats 4000000 in
set_option maxRecDepth 100000 in
theorem ct_X11_sample (E : zEnv) (hE : zEok E) (d : Nat) (hd : 5 ≤ d) (v0 : Nat) (v1 : Int32) (v2 : Int32) (v3 : Int32) (v4 : Int32) (M : zM) (x0 : Int32 × zM) (hx : fp_X11_sample v0 v1 v2 v3 v4 M = some x0) : zCt E mu_X11_sample d [.ref (E.2.2.2.1 + v0), .int v1, .int v2, .int v3, .int v4] M (some (.int x0.1), x0.2) := by
  refine zCt_of (μ := mu_X11_sample) (t := fp_X11_sample v0 v1 v2 v3 v4 M) rfl rfl (Nat.le_of_ble_eq_true rfl) hx ?_
  change zSy E mu_X11_sample d M (some (.int x0.1), x0.2) x0 (fp_X11_sample v0 v1 v2 v3 v4 M) 0 [(0, .ref (E.2.2.2.1 + v0)), (1, .int v1), (2, .int v2), (3, .int v3), (4, .int v4)] [] M
  unfold fp_X11_sample
  refine zs_this (fun hth => ?_)
  refine zs_iload_n dX11_sample_0 rfl 1 rfl ?_
  refine zs_iconst (v := 0) dX11_sample_1 ciconst_0 ?_
  refine zs_sipush (v := 9999) dX11_sample_2 csipush_9999 ?_
  refine zs_invSPI (rest := []) [.int v1, .int 0, .int 9999] dX11_sample_5 lk_X11_195 rfl (zd1 rfl hd) rfl (Nat.le_of_ble_eq_true rfl) (ct_X11_isFrom E hE _ (zdl rfl hd) _ _ _ _) (fun y1 => ?_)
  refine zs_if_eq dX11_sample_8 rfl ?_ ?_
  · refine zs_aload_n dX11_sample_41 rfl 0 rfl ?_
    refine zs_iconst (v := 1) dX11_sample_42 ciconst_1 ?_
    refine zs_invVWI (rest := []) [.int 1] dX11_sample_43 lk_X11_226 rfl (fun _ h => th_X11_refuse h) (zd1 rfl hd) rfl (Nat.le_of_ble_eq_true rfl) (ct_X11_refuse E hE _ (zdl rfl hd) _ _ _) (fun y2 M3 => ?_)
    exact zs_iretW dX11_sample_46 rfl
  refine zs_iload_n dX11_sample_11 rfl 2 rfl ?_
  refine zs_iconst (v := 0) dX11_sample_12 ciconst_0 ?_
  refine zs_bipush (v := 7) dX11_sample_13 cbipush_7 ?_
  refine zs_invSPI (rest := []) [.int v2, .int 0, .int 7] dX11_sample_15 lk_X11_195 rfl (zd1 rfl hd) rfl (Nat.le_of_ble_eq_true rfl) (ct_X11_isFrom E hE _ (zdl rfl hd) _ _ _ _) (fun y5 => ?_)
  refine zs_if_eq dX11_sample_18 rfl ?_ ?_
  · refine zs_aload_n dX11_sample_41 rfl 0 rfl ?_
    refine zs_iconst (v := 1) dX11_sample_42 ciconst_1 ?_
    refine zs_invVWI (rest := []) [.int 1] dX11_sample_43 lk_X11_226 rfl (fun _ h => th_X11_refuse h) (zd1 rfl hd) rfl (Nat.le_of_ble_eq_true rfl) (ct_X11_refuse E hE _ (zdl rfl hd) _ _ _) (fun y6 M7 => ?_)
    exact zs_iretW dX11_sample_46 rfl
  refine zs_iload_n dX11_sample_21 rfl 3 rfl ?_
  refine zs_iconst (v := 1) dX11_sample_22 ciconst_1 ?_
  refine zs_bipush (v := 40) dX11_sample_23 cbipush_40 ?_
  refine zs_invSPI (rest := []) [.int v3, .int 1, .int 40] dX11_sample_25 lk_X11_195 rfl (zd1 rfl hd) rfl (Nat.le_of_ble_eq_true rfl) (ct_X11_isFrom E hE _ (zdl rfl hd) _ _ _ _) (fun y9 => ?_)
  refine zs_if_eq dX11_sample_28 rfl ?_ ?_
  · refine zs_aload_n dX11_sample_41 rfl 0 rfl ?_
    refine zs_iconst (v := 1) dX11_sample_42 ciconst_1 ?_
    refine zs_invVWI (rest := []) [.int 1] dX11_sample_43 lk_X11_226 rfl (fun _ h => th_X11_refuse h) (zd1 rfl hd) rfl (Nat.le_of_ble_eq_true rfl) (ct_X11_refuse E hE _ (zdl rfl hd) _ _ _) (fun y10 M11 => ?_)
    exact zs_iretW dX11_sample_46 rfl
  refine zs_iload dX11_sample_31 4 rfl ?_
  refine zs_iconst (v := 0) dX11_sample_33 ciconst_0 ?_
  refine zs_iconst (v := 3) dX11_sample_34 ciconst_3 ?_
  refine zs_invSPI (rest := []) [.int v4, .int 0, .int 3] dX11_sample_35 lk_X11_195 rfl (zd1 rfl hd) rfl (Nat.le_of_ble_eq_true rfl) (ct_X11_isFrom E hE _ (zdl rfl hd) _ _ _ _) (fun y13 => ?_)
  refine zs_if_ne dX11_sample_38 rfl ?_ ?_
  · refine zs_aload_n dX11_sample_47 rfl 0 rfl ?_
    refine zs_aload_n dX11_sample_48 rfl 0 rfl ?_
    refine zs_getR dX11_sample_49 fl_X11_39 rfl (fun y14 => ?_)
    refine zs_iconst (v := 0) dX11_sample_52 ciconst_0 ?_
    refine zs_invVWV (rest := []) [.ref (E.2.2.2.1 + y14), .int 0] dX11_sample_53 lk_X11_229 rfl (fun _ h => th_X11_puts h) (zd1 rfl hd) rfl (Nat.le_of_ble_eq_true rfl) (ct_X11_puts E hE _ (zdl rfl hd) _ _ _ _) (fun M15 => ?_)
    refine zs_aload_n dX11_sample_56 rfl 0 rfl ?_
    refine zs_iload_n dX11_sample_57 rfl 1 rfl ?_
    refine zs_putI dX11_sample_58 fl_X11_456 ft_X11 rfl rfl rfl rfl rfl (fun M16 => ?_)
    refine zs_iconst (v := 0) dX11_sample_61 ciconst_0 ?_
    refine zs_istore (loc' := [(0, .ref (E.2.2.2.1 + v0)), (2, .int v2), (3, .int v3), (4, .int v4), (5, .int 0)]) dX11_sample_62 (Nat.le_of_ble_eq_true rfl) [1, 3, 4, 5, 0] rfl ?_
    refine zs_iconst (v := 0) dX11_sample_64 ciconst_0 ?_
    refine zs_istore (loc' := [(0, .ref (E.2.2.2.1 + v0)), (2, .int v2), (3, .int v3), (4, .int v4), (5, .int 0), (6, .int 0)]) dX11_sample_65 (Nat.le_of_ble_eq_true rfl) [1, 2, 3, 4, 5, 0] rfl ?_
    refine zs_iconst (v := 0) dX11_sample_67 ciconst_0 ?_
    refine zs_istore (loc' := [(0, .ref (E.2.2.2.1 + v0)), (2, .int v2), (3, .int v3), (4, .int v4), (5, .int 0), (6, .int 0), (7, .int 0)]) dX11_sample_68 (Nat.le_of_ble_eq_true rfl) [1, 2, 3, 4, 5, 6, 0] rfl ?_
    refine zs_iconst (v := 0) dX11_sample_70 ciconst_0 ?_
    refine zs_istore (loc' := [(0, .ref (E.2.2.2.1 + v0)), (2, .int v2), (3, .int v3), (4, .int v4), (5, .int 0), (6, .int 0), (7, .int 0), (8, .int 0)]) dX11_sample_71 (Nat.le_of_ble_eq_true rfl) [1, 2, 3, 4, 5, 6, 7, 0] rfl ?_
    refine w_X11_sample_L73 E hE d hd _ _ _ _ _ _ _ (fun v5_34 v6_35 v7_36 M37 => ?_) _ _ _ _ _ _
    refine zs_aload_n dX11_sample_146 rfl 0 rfl ?_
    refine zs_aload_n dX11_sample_147 rfl 0 rfl ?_
    refine zs_getR dX11_sample_148 fl_X11_39 rfl (fun y38 => ?_)
    refine zs_iconst (v := 0) dX11_sample_151 ciconst_0 ?_
    refine zs_invVWV (rest := []) [.ref (E.2.2.2.1 + y38), .int 0] dX11_sample_152 lk_X11_236 rfl (fun _ h => th_X11_brings h) (zd1 rfl hd) rfl (Nat.le_of_ble_eq_true rfl) (ct_X11_brings E hE _ (zdl rfl hd) _ _ _ _) (fun M39 => ?_)
    refine zs_iload_n dX11_sample_155 rfl 2 rfl ?_
    refine zs_iload_n dX11_sample_156 rfl 1 rfl ?_
    refine zs_iload_n dX11_sample_157 rfl 1 rfl ?_
    refine zs_iconst (v := 1) dX11_sample_158 ciconst_1 ?_
    refine zs_isub dX11_sample_159 ?_
    refine zs_imul dX11_sample_160 ?_
    refine zs_iconst (v := 2) dX11_sample_161 ciconst_2 ?_
    refine zs_idivK dX11_sample_162 (by decide) ?_
    refine zs_imul dX11_sample_163 ?_
    refine zs_istoreL (loc' := fun v8_40 => [(0, .ref (E.2.2.2.1 + v0)), (4, .int v4), (5, .int v5_34), (6, .int v6_35), (7, .int v7_36), (8, .int v8_40)]) dX11_sample_164 (Nat.le_of_ble_eq_true rfl) [1, 4, 5, 6, 7, 0] (fun _ => rfl) (fun v8_40 => ?_)
    refine zs_aload_n dX11_sample_166 rfl 0 rfl ?_
    refine zs_iload dX11_sample_167 1 rfl ?_
    refine zs_if_ne dX11_sample_169 rfl ?_ ?_
    · refine zs_iload dX11_sample_177 1 rfl ?_
      refine zs_iconst (v := 1) dX11_sample_179 ciconst_1 ?_
      refine zs_icmp_ne dX11_sample_180 rfl ?_ ?_
      · refine zs_iload dX11_sample_188 1 rfl ?_
        refine zs_iconst (v := 2) dX11_sample_190 ciconst_2 ?_
        refine zs_icmp_ne dX11_sample_191 rfl ?_ ?_
        · refine zs_iload dX11_sample_199 5 rfl ?_
          refine zs_if_ne dX11_sample_201 rfl ?_ ?_
          · refine zs_iload dX11_sample_208 2 rfl ?_
            refine zs_i2l dX11_sample_210 ?_
            refine zs_iload dX11_sample_211 5 rfl ?_
            refine zs_i2l dX11_sample_213 ?_
            refine zs_invSPI (rest := [.ref (E.2.2.2.1 + v0)]) [.long (v5_34.toInt64), .long (v8_40.toInt64)] dX11_sample_214 lk_X11_406 rfl (zd1 rfl hd) rfl (Nat.le_of_ble_eq_true rfl) (ct_X11_quotient E hE _ (zdl rfl hd) _ _ _) (fun y41 => ?_)
            refine zs_invVWI (rest := []) [.int y41] dX11_sample_217 lk_X11_242 rfl (fun _ h => th_X11_gives h) (zd1 rfl hd) rfl (Nat.le_of_ble_eq_true rfl) (ct_X11_gives E hE _ (zdl rfl hd) _ _ _) (fun y42 M43 => ?_)
            exact zs_iretW dX11_sample_220 rfl
          refine zs_iconst (v := 0) dX11_sample_204 ciconst_0 ?_
          refine zs_goto dX11_sample_205 rfl ?_
          refine zs_invVWI (rest := []) [.int 0] dX11_sample_217 lk_X11_242 rfl (fun _ h => th_X11_gives h) (zd1 rfl hd) rfl (Nat.le_of_ble_eq_true rfl) (ct_X11_gives E hE _ (zdl rfl hd) _ _ _) (fun y45 M46 => ?_)
          exact zs_iretW dX11_sample_220 rfl
        refine zs_iload dX11_sample_194 4 rfl ?_
        refine zs_goto dX11_sample_196 rfl ?_
        refine zs_invVWI (rest := []) [.int v7_36] dX11_sample_217 lk_X11_242 rfl (fun _ h => th_X11_gives h) (zd1 rfl hd) rfl (Nat.le_of_ble_eq_true rfl) (ct_X11_gives E hE _ (zdl rfl hd) _ _ _) (fun y48 M49 => ?_)
        exact zs_iretW dX11_sample_220 rfl
      refine zs_iload dX11_sample_183 3 rfl ?_
      refine zs_goto dX11_sample_185 rfl ?_
      refine zs_invVWI (rest := []) [.int v6_35] dX11_sample_217 lk_X11_242 rfl (fun _ h => th_X11_gives h) (zd1 rfl hd) rfl (Nat.le_of_ble_eq_true rfl) (ct_X11_gives E hE _ (zdl rfl hd) _ _ _) (fun y51 M52 => ?_)
      exact zs_iretW dX11_sample_220 rfl
    refine zs_iload dX11_sample_172 2 rfl ?_
    refine zs_goto dX11_sample_174 rfl ?_
    refine zs_invVWI (rest := []) [.int v5_34] dX11_sample_217 lk_X11_242 rfl (fun _ h => th_X11_gives h) (zd1 rfl hd) rfl (Nat.le_of_ble_eq_true rfl) (ct_X11_gives E hE _ (zdl rfl hd) _ _ _) (fun y54 M55 => ?_)
    exact zs_iretW dX11_sample_220 rfl
  refine zs_aload_n dX11_sample_41 rfl 0 rfl ?_
  refine zs_iconst (v := 1) dX11_sample_42 ciconst_1 ?_
  refine zs_invVWI (rest := []) [.int 1] dX11_sample_43 lk_X11_226 rfl (fun _ h => th_X11_refuse h) (zd1 rfl hd) rfl (Nat.le_of_ble_eq_true rfl) (ct_X11_refuse E hE _ (zdl rfl hd) _ _ _) (fun y57 M58 => ?_)
  exact zs_iretW dX11_sample_46 rfl

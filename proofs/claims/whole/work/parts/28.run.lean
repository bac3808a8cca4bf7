theorem dX10_beside_0 : decode cX10_beside 0 = .ok (.aload_n 0, 1) := by decide +kernel
theorem dX10_beside_1 : decode cX10_beside 1 = .ok (.iload_n 1, 1) := by decide +kernel
theorem dX10_beside_2 : decode cX10_beside 2 = .ok (.iload_n 2, 1) := by decide +kernel
theorem dX10_beside_3 : decode cX10_beside 3 = .ok (.invokevirtual 183, 3) := by decide +kernel
theorem dX10_beside_6 : decode cX10_beside 6 = .ok (.istore_n 3, 1) := by decide +kernel
theorem dX10_beside_7 : decode cX10_beside 7 = .ok (.iload_n 3, 1) := by decide +kernel
theorem dX10_beside_8 : decode cX10_beside 8 = .ok (.ifCond .eq 9, 3) := by decide +kernel
theorem dX10_beside_11 : decode cX10_beside 11 = .ok (.aload_n 0, 1) := by decide +kernel
theorem dX10_beside_12 : decode cX10_beside 12 = .ok (.iload_n 3, 1) := by decide +kernel
theorem dX10_beside_13 : decode cX10_beside 13 = .ok (.invokevirtual 102, 3) := by decide +kernel
theorem dX10_beside_16 : decode cX10_beside 16 = .ok (.ireturn, 1) := by decide +kernel
theorem dX10_beside_17 : decode cX10_beside 17 = .ok (.aload_n 0, 1) := by decide +kernel
theorem dX10_beside_18 : decode cX10_beside 18 = .ok (.getfield 57, 3) := by decide +kernel
theorem dX10_beside_21 : decode cX10_beside 21 = .ok (.aload_n 0, 1) := by decide +kernel
theorem dX10_beside_22 : decode cX10_beside 22 = .ok (.getfield 129, 3) := by decide +kernel
theorem dX10_beside_25 : decode cX10_beside 25 = .ok (.aload_n 0, 1) := by decide +kernel
theorem dX10_beside_26 : decode cX10_beside 26 = .ok (.getfield 136, 3) := by decide +kernel
theorem dX10_beside_29 : decode cX10_beside 29 = .ok (.ldc 157, 2) := by decide +kernel
theorem dX10_beside_31 : decode cX10_beside 31 = .ok (.invokevirtual 158, 3) := by decide +kernel
theorem dX10_beside_34 : decode cX10_beside 34 = .ok (.iconst 0, 1) := by decide +kernel
theorem dX10_beside_35 : decode cX10_beside 35 = .ok (.istore 4, 2) := by decide +kernel
theorem dX10_beside_37 : decode cX10_beside 37 = .ok (.iconst 0, 1) := by decide +kernel
theorem dX10_beside_38 : decode cX10_beside 38 = .ok (.istore 5, 2) := by decide +kernel
theorem dX10_beside_40 : decode cX10_beside 40 = .ok (.iload 5, 2) := by decide +kernel
theorem dX10_beside_42 : decode cX10_beside 42 = .ok (.aload_n 0, 1) := by decide +kernel
theorem dX10_beside_43 : decode cX10_beside 43 = .ok (.getfield 57, 3) := by decide +kernel
theorem dX10_beside_46 : decode cX10_beside 46 = .ok (.getfield 161, 3) := by decide +kernel
theorem dX10_beside_49 : decode cX10_beside 49 = .ok (.if_icmp .ge 26, 3) := by decide +kernel
theorem dX10_beside_52 : decode cX10_beside 52 = .ok (.aload_n 0, 1) := by decide +kernel
theorem dX10_beside_53 : decode cX10_beside 53 = .ok (.getfield 57, 3) := by decide +kernel
theorem dX10_beside_56 : decode cX10_beside 56 = .ok (.iload 5, 2) := by decide +kernel
theorem dX10_beside_58 : decode cX10_beside 58 = .ok (.iload_n 1, 1) := by decide +kernel
theorem dX10_beside_59 : decode cX10_beside 59 = .ok (.iload_n 2, 1) := by decide +kernel
theorem dX10_beside_60 : decode cX10_beside 60 = .ok (.invokevirtual 333, 3) := by decide +kernel
theorem dX10_beside_63 : decode cX10_beside 63 = .ok (.ifCond .eq 6, 3) := by decide +kernel
theorem dX10_beside_66 : decode cX10_beside 66 = .ok (.iinc 4 1, 3) := by decide +kernel
theorem dX10_beside_69 : decode cX10_beside 69 = .ok (.iinc 5 1, 3) := by decide +kernel
theorem dX10_beside_72 : decode cX10_beside 72 = .ok (.goto (-32), 3) := by decide +kernel
theorem dX10_beside_75 : decode cX10_beside 75 = .ok (.aload_n 0, 1) := by decide +kernel
theorem dX10_beside_76 : decode cX10_beside 76 = .ok (.iload 4, 2) := by decide +kernel
theorem dX10_beside_78 : decode cX10_beside 78 = .ok (.invokevirtual 130, 3) := by decide +kernel
theorem dX10_beside_81 : decode cX10_beside 81 = .ok (.ireturn, 1) := by decide +kernel
def fp_X10_beside_L40 (v0 : Nat) (v1 : Int32) (v2 : Int32) (M : zM) : Nat → Int32 → Int32 → Option (Int32 × zM)
  | 0, _, _ => none
  | n + 1, v4, v5 =>
    (zgR 8 M v0 10).bind fun (y6 : Nat) =>
    (zgI 1 M y6 0).bind fun (y7 : Int32) =>
    if v5 ≥ y7 then (
      (fp_X10_answer v0 v4 M).bind fun p10 => zpp p10 fun (y8 : Int32) (M9 : zM) =>
      some (y8, M9))
    else (
      (zgR 8 M v0 10).bind fun (y11 : Nat) =>
      (fp_X1_setsBeside y11 v5 v1 v2 M).bind fun (y12 : Int32) =>
      zjn (fun (v4_13 : Int32) =>
          fp_X10_beside_L40 v0 v1 v2 M n v4_13 (v5 + 1))
        (fun j69 =>
          if y12 = 0 then (
            j69 v4)
          else (
            j69 (v4 + 1))))
def fp_X10_beside (v0 : Nat) (v1 : Int32) (v2 : Int32) (M : zM) : Option (Int32 × zM) :=
  zthis 8 M v0 (
    (fp_X10_badCouple v0 v1 v2 M).bind fun (y1 : Int32) =>
    if y1 = 0 then (
      (zgR 8 M v0 10).bind fun (y2 : Nat) =>
      (zgI 8 M v0 1).bind fun (y3 : Int32) =>
      (zgI 8 M v0 2).bind fun (y4 : Int32) =>
      (fp_X1_gather y2 y3 y4 80000 M).bind fun (M5 : zM) =>
      fp_X10_beside_L40 v0 v1 v2 M5 FU 0 0)
    else (
      (fp_X10_refuse v0 y1 M).bind fun p16 => zpp p16 fun (y14 : Int32) (M15 : zM) =>
      some (y14, M15)))
set_option maxHeartbeats 4000000 in
set_option maxRecDepth 100000 in
theorem th_X10_beside {v0 : Nat} {v1 : Int32} {v2 : Int32} {M : zM} {x0 : Int32 × zM} (h : fp_X10_beside v0 v1 v2 M = some x0) : v0 < zS M ∧ kd v0 = 8 := by
  unfold fp_X10_beside at h
  exact zthis_of h
set_option maxHeartbeats 4000000 in
set_option maxRecDepth 100000 in
theorem w_X10_beside_L40 (E : zEnv) (hE : zEok E) (d : Nat) (hd : 27 ≤ d) (M0 : zM) (x0 : Int32 × zM) (v0 : Nat) (v1 : Int32) (v2 : Int32) (M : zM)  : ∀ (n : Nat) (v4 : Int32) (v5 : Int32), zSy E mu_X10_beside d M0 (some (.int x0.1), x0.2) x0 (fp_X10_beside_L40 v0 v1 v2 M n v4 v5) 40 [(0, .ref (E.2.2.2.1 + v0)), (1, .int v1), (2, .int v2), (4, .int v4), (5, .int v5)] [] M := by
  intro n
  induction n with
  | zero =>
    intro v4 v5
    rw [fp_X10_beside_L40]
    exact zs_none
  | succ n ih =>
    intro v4 v5
    rw [fp_X10_beside_L40]
    refine zs_iload dX10_beside_40 4 rfl ?_
    refine zs_aload_n dX10_beside_42 rfl 0 rfl ?_
    refine zs_getR dX10_beside_43 fl_X10_57 rfl (fun y6 => ?_)
    refine zs_getI dX10_beside_46 fl_X10_161 rfl (fun y7 => ?_)
    refine zs_icmp_ge dX10_beside_49 rfl ?_ ?_
    · refine zs_aload_n dX10_beside_75 rfl 0 rfl ?_
      refine zs_iload dX10_beside_76 3 rfl ?_
      refine zs_invVWI (rest := []) [.int v4] dX10_beside_78 lk_X10_130 rfl (fun _ h => th_X10_answer h) (zd1 rfl hd) rfl (Nat.le_of_ble_eq_true rfl) (ct_X10_answer E hE _ (zdl rfl hd) _ _ _) (fun y8 M9 => ?_)
      exact zs_iretW dX10_beside_81 rfl
    refine zs_aload_n dX10_beside_52 rfl 0 rfl ?_
    refine zs_getR dX10_beside_53 fl_X10_57 rfl (fun y11 => ?_)
    refine zs_iload dX10_beside_56 4 rfl ?_
    refine zs_iload_n dX10_beside_58 rfl 1 rfl ?_
    refine zs_iload_n dX10_beside_59 rfl 2 rfl ?_
    refine zs_invVPI (rest := []) [.int v5, .int v1, .int v2] dX10_beside_60 lk_X10_333 rfl (fun _ h => th_X1_setsBeside h) (zd1 rfl hd) rfl (Nat.le_of_ble_eq_true rfl) (ct_X1_setsBeside E hE _ (zdl rfl hd) _ _ _ _ _) (fun y12 => ?_)
    refine zs_jn (fun j69 => ∀ (v4_13 : Int32), zSy E mu_X10_beside d M0 (some (.int x0.1), x0.2) x0 (j69 v4_13) 69 [(0, .ref (E.2.2.2.1 + v0)), (1, .int v1), (2, .int v2), (4, .int v4_13), (5, .int v5)] [] M) (fun v4_13 => ?_) (fun j69 hj69 => ?_)
    · refine zs_iinc (v := (v5 + 1)) (loc' := [(0, .ref (E.2.2.2.1 + v0)), (1, .int v1), (2, .int v2), (4, .int v4_13), (5, .int (v5 + 1))]) dX10_beside_69 4 rfl (by rfl) (Nat.le_of_ble_eq_true rfl) [1, 2, 3, 4, 0] rfl ?_
      refine zs_goto dX10_beside_72 rfl ?_
      exact ih v4_13 (v5 + 1)
    refine zs_if_eq dX10_beside_63 rfl ?_ ?_
    · exact hj69 v4
    refine zs_iinc (v := (v4 + 1)) (loc' := [(0, .ref (E.2.2.2.1 + v0)), (1, .int v1), (2, .int v2), (4, .int (v4 + 1)), (5, .int v5)]) dX10_beside_66 3 rfl (by rfl) (Nat.le_of_ble_eq_true rfl) [1, 2, 3, 0, 4] rfl ?_
    exact hj69 (v4 + 1)
set_option maxHeartbeats 4000000 in
set_option maxRecDepth 100000 in
theorem ct_X10_beside (E : zEnv) (hE : zEok E) (d : Nat) (hd : 27 ≤ d) (v0 : Nat) (v1 : Int32) (v2 : Int32) (M : zM) (x0 : Int32 × zM) (hx : fp_X10_beside v0 v1 v2 M = some x0) : zCt E mu_X10_beside d [.ref (E.2.2.2.1 + v0), .int v1, .int v2] M (some (.int x0.1), x0.2) := by
  refine zCt_of (μ := mu_X10_beside) (t := fp_X10_beside v0 v1 v2 M) rfl rfl (Nat.le_of_ble_eq_true rfl) hx ?_
  change zSy E mu_X10_beside d M (some (.int x0.1), x0.2) x0 (fp_X10_beside v0 v1 v2 M) 0 [(0, .ref (E.2.2.2.1 + v0)), (1, .int v1), (2, .int v2)] [] M
  unfold fp_X10_beside
  refine zs_this (fun hth => ?_)
  refine zs_aload_n dX10_beside_0 rfl 0 rfl ?_
  refine zs_iload_n dX10_beside_1 rfl 1 rfl ?_
  refine zs_iload_n dX10_beside_2 rfl 2 rfl ?_
  refine zs_invVPI (rest := []) [.int v1, .int v2] dX10_beside_3 lk_X10_183 rfl (fun _ h => th_X10_badCouple h) (zd1 rfl hd) rfl (Nat.le_of_ble_eq_true rfl) (ct_X10_badCouple E hE _ (zdl rfl hd) _ _ _ _) (fun y1 => ?_)
  refine zs_istore_n (loc' := [(0, .ref (E.2.2.2.1 + v0)), (1, .int v1), (2, .int v2), (3, .int y1)]) dX10_beside_6 rfl (Nat.le_of_ble_eq_true rfl) [1, 2, 3, 0] rfl ?_
  refine zs_iload_n dX10_beside_7 rfl 3 rfl ?_
  refine zs_if_eq dX10_beside_8 rfl ?_ ?_
  · refine zs_aload_n dX10_beside_17 rfl 0 rfl ?_
    refine zs_getR dX10_beside_18 fl_X10_57 rfl (fun y2 => ?_)
    refine zs_aload_n dX10_beside_21 rfl 0 rfl ?_
    refine zs_getI dX10_beside_22 fl_X10_129 rfl (fun y3 => ?_)
    refine zs_aload_n dX10_beside_25 rfl 0 rfl ?_
    refine zs_getI dX10_beside_26 fl_X10_136 rfl (fun y4 => ?_)
    refine zs_ldc (v := 80000) dX10_beside_29 (ti_3 86 rfl rfl) ?_
    refine zs_invVWV (rest := []) [.int y3, .int y4, .int 80000] dX10_beside_31 lk_X10_158 rfl (fun _ h => th_X1_gather h) (zd1 rfl hd) rfl (Nat.le_of_ble_eq_true rfl) (ct_X1_gather E hE _ (zdl rfl hd) _ _ _ _ _) (fun M5 => ?_)
    refine zs_iconst (v := 0) dX10_beside_34 ciconst_0 ?_
    refine zs_istore (loc' := [(0, .ref (E.2.2.2.1 + v0)), (1, .int v1), (2, .int v2), (4, .int 0)]) dX10_beside_35 (Nat.le_of_ble_eq_true rfl) [1, 2, 3, 0] rfl ?_
    refine zs_iconst (v := 0) dX10_beside_37 ciconst_0 ?_
    refine zs_istore (loc' := [(0, .ref (E.2.2.2.1 + v0)), (1, .int v1), (2, .int v2), (4, .int 0), (5, .int 0)]) dX10_beside_38 (Nat.le_of_ble_eq_true rfl) [1, 2, 3, 4, 0] rfl ?_
    exact w_X10_beside_L40 E hE d hd _ _ _ _ _ _ _ _ _
  refine zs_aload_n dX10_beside_11 rfl 0 rfl ?_
  refine zs_iload_n dX10_beside_12 rfl 3 rfl ?_
  refine zs_invVWI (rest := []) [.int y1] dX10_beside_13 lk_X10_102 rfl (fun _ h => th_X10_refuse h) (zd1 rfl hd) rfl (Nat.le_of_ble_eq_true rfl) (ct_X10_refuse E hE _ (zdl rfl hd) _ _ _) (fun y14 M15 => ?_)
  exact zs_iretW dX10_beside_16 rfl
theorem dX10_turned_0 : decode cX10_turned 0 = .ok (.aload_n 0, 1) := by decide +kernel
theorem dX10_turned_1 : decode cX10_turned 1 = .ok (.iload_n 1, 1) := by decide +kernel
theorem dX10_turned_2 : decode cX10_turned 2 = .ok (.iload_n 2, 1) := by decide +kernel
theorem dX10_turned_3 : decode cX10_turned 3 = .ok (.invokevirtual 281, 3) := by decide +kernel
theorem dX10_turned_6 : decode cX10_turned 6 = .ok (.istore_n 3, 1) := by decide +kernel
theorem dX10_turned_7 : decode cX10_turned 7 = .ok (.iload_n 3, 1) := by decide +kernel
theorem dX10_turned_8 : decode cX10_turned 8 = .ok (.ifCond .eq 9, 3) := by decide +kernel
theorem dX10_turned_11 : decode cX10_turned 11 = .ok (.aload_n 0, 1) := by decide +kernel
theorem dX10_turned_12 : decode cX10_turned 12 = .ok (.iload_n 3, 1) := by decide +kernel
theorem dX10_turned_13 : decode cX10_turned 13 = .ok (.invokevirtual 102, 3) := by decide +kernel
theorem dX10_turned_16 : decode cX10_turned 16 = .ok (.ireturn, 1) := by decide +kernel
theorem dX10_turned_17 : decode cX10_turned 17 = .ok (.aload_n 0, 1) := by decide +kernel
theorem dX10_turned_18 : decode cX10_turned 18 = .ok (.getfield 57, 3) := by decide +kernel
theorem dX10_turned_21 : decode cX10_turned 21 = .ok (.iload_n 1, 1) := by decide +kernel
theorem dX10_turned_22 : decode cX10_turned 22 = .ok (.aload_n 0, 1) := by decide +kernel
theorem dX10_turned_23 : decode cX10_turned 23 = .ok (.getfield 84, 3) := by decide +kernel
theorem dX10_turned_26 : decode cX10_turned 26 = .ok (.invokevirtual 277, 3) := by decide +kernel
theorem dX10_turned_29 : decode cX10_turned 29 = .ok (.aload_n 0, 1) := by decide +kernel
theorem dX10_turned_30 : decode cX10_turned 30 = .ok (.getfield 84, 3) := by decide +kernel
theorem dX10_turned_33 : decode cX10_turned 33 = .ok (.iconst 2, 1) := by decide +kernel
theorem dX10_turned_34 : decode cX10_turned 34 = .ok (.aload_n 0, 1) := by decide +kernel
theorem dX10_turned_35 : decode cX10_turned 35 = .ok (.getfield 129, 3) := by decide +kernel
theorem dX10_turned_38 : decode cX10_turned 38 = .ok (.imul, 1) := by decide +kernel
theorem dX10_turned_39 : decode cX10_turned 39 = .ok (.iload_n 2, 1) := by decide +kernel
theorem dX10_turned_40 : decode cX10_turned 40 = .ok (.invokestatic 336, 3) := by decide +kernel
theorem dX10_turned_43 : decode cX10_turned 43 = .ok (.aload_n 0, 1) := by decide +kernel
theorem dX10_turned_44 : decode cX10_turned 44 = .ok (.getfield 61, 3) := by decide +kernel
theorem dX10_turned_47 : decode cX10_turned 47 = .ok (.aload_n 0, 1) := by decide +kernel
theorem dX10_turned_48 : decode cX10_turned 48 = .ok (.getfield 129, 3) := by decide +kernel
theorem dX10_turned_51 : decode cX10_turned 51 = .ok (.aload_n 0, 1) := by decide +kernel
theorem dX10_turned_52 : decode cX10_turned 52 = .ok (.getfield 129, 3) := by decide +kernel
theorem dX10_turned_55 : decode cX10_turned 55 = .ok (.aload_n 0, 1) := by decide +kernel
theorem dX10_turned_56 : decode cX10_turned 56 = .ok (.getfield 136, 3) := by decide +kernel
theorem dX10_turned_59 : decode cX10_turned 59 = .ok (.iload_n 2, 1) := by decide +kernel
theorem dX10_turned_60 : decode cX10_turned 60 = .ok (.invokestatic 190, 3) := by decide +kernel
theorem dX10_turned_63 : decode cX10_turned 63 = .ok (.ldc 157, 2) := by decide +kernel
theorem dX10_turned_65 : decode cX10_turned 65 = .ok (.invokevirtual 158, 3) := by decide +kernel
theorem dX10_turned_68 : decode cX10_turned 68 = .ok (.aload_n 0, 1) := by decide +kernel
theorem dX10_turned_69 : decode cX10_turned 69 = .ok (.aload_n 0, 1) := by decide +kernel
theorem dX10_turned_70 : decode cX10_turned 70 = .ok (.getfield 61, 3) := by decide +kernel
theorem dX10_turned_73 : decode cX10_turned 73 = .ok (.aload_n 0, 1) := by decide +kernel
theorem dX10_turned_74 : decode cX10_turned 74 = .ok (.getfield 84, 3) := by decide +kernel
theorem dX10_turned_77 : decode cX10_turned 77 = .ok (.iconst 2, 1) := by decide +kernel
theorem dX10_turned_78 : decode cX10_turned 78 = .ok (.aload_n 0, 1) := by decide +kernel
theorem dX10_turned_79 : decode cX10_turned 79 = .ok (.getfield 129, 3) := by decide +kernel
theorem dX10_turned_82 : decode cX10_turned 82 = .ok (.imul, 1) := by decide +kernel
theorem dX10_turned_83 : decode cX10_turned 83 = .ok (.invokestatic 309, 3) := by decide +kernel
theorem dX10_turned_86 : decode cX10_turned 86 = .ok (.invokevirtual 313, 3) := by decide +kernel
theorem dX10_turned_89 : decode cX10_turned 89 = .ok (.invokevirtual 130, 3) := by decide +kernel
theorem dX10_turned_92 : decode cX10_turned 92 = .ok (.ireturn, 1) := by decide +kernel
def fp_X10_turned (v0 : Nat) (v1 : Int32) (v2 : Int32) (M : zM) : Option (Int32 × zM) :=
  zthis 8 M v0 (
    (fp_X10_badModelPoint v0 v1 v2 M).bind fun p3 => zpp p3 fun (y1 : Int32) (M2 : zM) =>
    if y1 = 0 then (
      (zgR 8 M2 v0 10).bind fun (y4 : Nat) =>
      (zgR 8 M2 v0 16).bind fun (y5 : Nat) =>
      (fp_X1_spell y4 v1 y5 M2).bind fun (M6 : zM) =>
      (zgR 8 M6 v0 16).bind fun (y7 : Nat) =>
      (zgI 8 M6 v0 1).bind fun (y8 : Int32) =>
      (fp_X5_reverseBetween y7 (2 * y8) v2 M6).bind fun (M9 : zM) =>
      (zgR 8 M9 v0 11).bind fun (y10 : Nat) =>
      (zgI 8 M9 v0 1).bind fun (y11 : Int32) =>
      (zgI 8 M9 v0 1).bind fun (y12 : Int32) =>
      (zgI 8 M9 v0 2).bind fun (y13 : Int32) =>
      (fp_X2_turnedAt y12 y13 v2).bind fun (y14 : Int32) =>
      (fp_X1_gather y10 y11 y14 80000 M9).bind fun (M15 : zM) =>
      (zgR 8 M15 v0 11).bind fun (y16 : Nat) =>
      (zgR 8 M15 v0 16).bind fun (y17 : Nat) =>
      (zgI 8 M15 v0 1).bind fun (y18 : Int32) =>
      (fp_X5_leastReading y17 (2 * y18) M15).bind fun (y19 : Int64) =>
      (fp_X1_indexOf y16 y19 M15).bind fun (y20 : Int32) =>
      (fp_X10_answer v0 y20 M15).bind fun p23 => zpp p23 fun (y21 : Int32) (M22 : zM) =>
      some (y21, M22))
    else (
      (fp_X10_refuse v0 y1 M2).bind fun p26 => zpp p26 fun (y24 : Int32) (M25 : zM) =>
      some (y24, M25)))
set_option maxHeartbeats 4000000 in
set_option maxRecDepth 100000 in
theorem th_X10_turned {v0 : Nat} {v1 : Int32} {v2 : Int32} {M : zM} {x0 : Int32 × zM} (h : fp_X10_turned v0 v1 v2 M = some x0) : v0 < zS M ∧ kd v0 = 8 := by
  unfold fp_X10_turned at h
  exact zthis_of h
set_option maxHeartbeats 4000000 in
set_option maxRecDepth 100000 in
theorem ct_X10_turned (E : zEnv) (hE : zEok E) (d : Nat) (hd : 29 ≤ d) (v0 : Nat) (v1 : Int32) (v2 : Int32) (M : zM) (x0 : Int32 × zM) (hx : fp_X10_turned v0 v1 v2 M = some x0) : zCt E mu_X10_turned d [.ref (E.2.2.2.1 + v0), .int v1, .int v2] M (some (.int x0.1), x0.2) := by
  refine zCt_of (μ := mu_X10_turned) (t := fp_X10_turned v0 v1 v2 M) rfl rfl (Nat.le_of_ble_eq_true rfl) hx ?_
  change zSy E mu_X10_turned d M (some (.int x0.1), x0.2) x0 (fp_X10_turned v0 v1 v2 M) 0 [(0, .ref (E.2.2.2.1 + v0)), (1, .int v1), (2, .int v2)] [] M
  unfold fp_X10_turned
  refine zs_this (fun hth => ?_)
  refine zs_aload_n dX10_turned_0 rfl 0 rfl ?_
  refine zs_iload_n dX10_turned_1 rfl 1 rfl ?_
  refine zs_iload_n dX10_turned_2 rfl 2 rfl ?_
  refine zs_invVWI (rest := []) [.int v1, .int v2] dX10_turned_3 lk_X10_281 rfl (fun _ h => th_X10_badModelPoint h) (zd1 rfl hd) rfl (Nat.le_of_ble_eq_true rfl) (ct_X10_badModelPoint E hE _ (zdl rfl hd) _ _ _ _) (fun y1 M2 => ?_)
  refine zs_istore_n (loc' := [(0, .ref (E.2.2.2.1 + v0)), (1, .int v1), (2, .int v2), (3, .int y1)]) dX10_turned_6 rfl (Nat.le_of_ble_eq_true rfl) [1, 2, 3, 0] rfl ?_
  refine zs_iload_n dX10_turned_7 rfl 3 rfl ?_
  refine zs_if_eq dX10_turned_8 rfl ?_ ?_
  · refine zs_aload_n dX10_turned_17 rfl 0 rfl ?_
    refine zs_getR dX10_turned_18 fl_X10_57 rfl (fun y4 => ?_)
    refine zs_iload_n dX10_turned_21 rfl 1 rfl ?_
    refine zs_aload_n dX10_turned_22 rfl 0 rfl ?_
    refine zs_getR dX10_turned_23 fl_X10_84 rfl (fun y5 => ?_)
    refine zs_invVWV (rest := []) [.int v1, .ref (E.2.2.2.1 + y5)] dX10_turned_26 lk_X10_277 rfl (fun _ h => th_X1_spell h) (zd1 rfl hd) rfl (Nat.le_of_ble_eq_true rfl) (ct_X1_spell E hE _ (zdl rfl hd) _ _ _ _) (fun M6 => ?_)
    refine zs_aload_n dX10_turned_29 rfl 0 rfl ?_
    refine zs_getR dX10_turned_30 fl_X10_84 rfl (fun y7 => ?_)
    refine zs_iconst (v := 2) dX10_turned_33 ciconst_2 ?_
    refine zs_aload_n dX10_turned_34 rfl 0 rfl ?_
    refine zs_getI dX10_turned_35 fl_X10_129 rfl (fun y8 => ?_)
    refine zs_imul dX10_turned_38 ?_
    refine zs_iload_n dX10_turned_39 rfl 2 rfl ?_
    refine zs_invSWV (rest := []) [.ref (E.2.2.2.1 + y7), .int (2 * y8), .int v2] dX10_turned_40 lk_X10_336 rfl (zd1 rfl hd) rfl (Nat.le_of_ble_eq_true rfl) (ct_X5_reverseBetween E hE _ (zdl rfl hd) _ _ _ _) (fun M9 => ?_)
    refine zs_aload_n dX10_turned_43 rfl 0 rfl ?_
    refine zs_getR dX10_turned_44 fl_X10_61 rfl (fun y10 => ?_)
    refine zs_aload_n dX10_turned_47 rfl 0 rfl ?_
    refine zs_getI dX10_turned_48 fl_X10_129 rfl (fun y11 => ?_)
    refine zs_aload_n dX10_turned_51 rfl 0 rfl ?_
    refine zs_getI dX10_turned_52 fl_X10_129 rfl (fun y12 => ?_)
    refine zs_aload_n dX10_turned_55 rfl 0 rfl ?_
    refine zs_getI dX10_turned_56 fl_X10_136 rfl (fun y13 => ?_)
    refine zs_iload_n dX10_turned_59 rfl 2 rfl ?_
    refine zs_invSPI (rest := [.int y11, .ref (E.2.2.2.1 + y10)]) [.int y12, .int y13, .int v2] dX10_turned_60 lk_X10_190 rfl (zd1 rfl hd) rfl (Nat.le_of_ble_eq_true rfl) (ct_X2_turnedAt E hE _ (zdl rfl hd) _ _ _ _) (fun y14 => ?_)
    refine zs_ldc (v := 80000) dX10_turned_63 (ti_3 86 rfl rfl) ?_
    refine zs_invVWV (rest := []) [.int y11, .int y14, .int 80000] dX10_turned_65 lk_X10_158 rfl (fun _ h => th_X1_gather h) (zd1 rfl hd) rfl (Nat.le_of_ble_eq_true rfl) (ct_X1_gather E hE _ (zdl rfl hd) _ _ _ _ _) (fun M15 => ?_)
    refine zs_aload_n dX10_turned_68 rfl 0 rfl ?_
    refine zs_aload_n dX10_turned_69 rfl 0 rfl ?_
    refine zs_getR dX10_turned_70 fl_X10_61 rfl (fun y16 => ?_)
    refine zs_aload_n dX10_turned_73 rfl 0 rfl ?_
    refine zs_getR dX10_turned_74 fl_X10_84 rfl (fun y17 => ?_)
    refine zs_iconst (v := 2) dX10_turned_77 ciconst_2 ?_
    refine zs_aload_n dX10_turned_78 rfl 0 rfl ?_
    refine zs_getI dX10_turned_79 fl_X10_129 rfl (fun y18 => ?_)
    refine zs_imul dX10_turned_82 ?_
    refine zs_invSPJ (rest := [.ref (E.2.2.2.1 + y16), .ref (E.2.2.2.1 + v0)]) [.ref (E.2.2.2.1 + y17), .int (2 * y18)] dX10_turned_83 lk_X10_309 rfl (zd1 rfl hd) rfl (Nat.le_of_ble_eq_true rfl) (ct_X5_leastReading E hE _ (zdl rfl hd) _ _ _) (fun y19 => ?_)
    refine zs_invVPI (rest := [.ref (E.2.2.2.1 + v0)]) [.long y19] dX10_turned_86 lk_X10_313 rfl (fun _ h => th_X1_indexOf h) (zd1 rfl hd) rfl (Nat.le_of_ble_eq_true rfl) (ct_X1_indexOf E hE _ (zdl rfl hd) _ _ _) (fun y20 => ?_)
    refine zs_invVWI (rest := []) [.int y20] dX10_turned_89 lk_X10_130 rfl (fun _ h => th_X10_answer h) (zd1 rfl hd) rfl (Nat.le_of_ble_eq_true rfl) (ct_X10_answer E hE _ (zdl rfl hd) _ _ _) (fun y21 M22 => ?_)
    exact zs_iretW dX10_turned_92 rfl
  refine zs_aload_n dX10_turned_11 rfl 0 rfl ?_
  refine zs_iload_n dX10_turned_12 rfl 3 rfl ?_
  refine zs_invVWI (rest := []) [.int y1] dX10_turned_13 lk_X10_102 rfl (fun _ h => th_X10_refuse h) (zd1 rfl hd) rfl (Nat.le_of_ble_eq_true rfl) (ct_X10_refuse E hE _ (zdl rfl hd) _ _ _) (fun y24 M25 => ?_)
  exact zs_iretW dX10_turned_16 rfl
theorem dX10_partHasModel_0 : decode cX10_partHasModel 0 = .ok (.aload_n 0, 1) := by decide +kernel
theorem dX10_partHasModel_1 : decode cX10_partHasModel 1 = .ok (.getfield 64, 3) := by decide +kernel
theorem dX10_partHasModel_4 : decode cX10_partHasModel 4 = .ok (.iload_n 1, 1) := by decide +kernel
theorem dX10_partHasModel_5 : decode cX10_partHasModel 5 = .ok (.invokestatic 137, 3) := by decide +kernel
theorem dX10_partHasModel_8 : decode cX10_partHasModel 8 = .ok (.aload_n 0, 1) := by decide +kernel
theorem dX10_partHasModel_9 : decode cX10_partHasModel 9 = .ok (.getfield 129, 3) := by decide +kernel
theorem dX10_partHasModel_12 : decode cX10_partHasModel 12 = .ok (.aload_n 0, 1) := by decide +kernel
theorem dX10_partHasModel_13 : decode cX10_partHasModel 13 = .ok (.getfield 136, 3) := by decide +kernel
theorem dX10_partHasModel_16 : decode cX10_partHasModel 16 = .ok (.iload_n 1, 1) := by decide +kernel
theorem dX10_partHasModel_17 : decode cX10_partHasModel 17 = .ok (.invokestatic 180, 3) := by decide +kernel
theorem dX10_partHasModel_20 : decode cX10_partHasModel 20 = .ok (.iconst 1, 1) := by decide +kernel
theorem dX10_partHasModel_21 : decode cX10_partHasModel 21 = .ok (.invokevirtual 158, 3) := by decide +kernel
theorem dX10_partHasModel_24 : decode cX10_partHasModel 24 = .ok (.aload_n 0, 1) := by decide +kernel
theorem dX10_partHasModel_25 : decode cX10_partHasModel 25 = .ok (.getfield 64, 3) := by decide +kernel
theorem dX10_partHasModel_28 : decode cX10_partHasModel 28 = .ok (.getfield 161, 3) := by decide +kernel
theorem dX10_partHasModel_31 : decode cX10_partHasModel 31 = .ok (.ifCond .le 7, 3) := by decide +kernel
theorem dX10_partHasModel_34 : decode cX10_partHasModel 34 = .ok (.iconst 1, 1) := by decide +kernel
theorem dX10_partHasModel_35 : decode cX10_partHasModel 35 = .ok (.goto 4, 3) := by decide +kernel
theorem dX10_partHasModel_38 : decode cX10_partHasModel 38 = .ok (.iconst 0, 1) := by decide +kernel
theorem dX10_partHasModel_39 : decode cX10_partHasModel 39 = .ok (.ireturn, 1) := by decide +kernel
def fp_X10_partHasModel (v0 : Nat) (v1 : Int32) (M : zM) : Option (Int32 × zM) :=
  zthis 8 M v0 (
    (zgR 8 M v0 12).bind fun (y1 : Nat) =>
    (fp_J6_bitCount_0f7a4 v1).bind fun (y2 : Int32) =>
    (zgI 8 M v0 1).bind fun (y3 : Int32) =>
    (zgI 8 M v0 2).bind fun (y4 : Int32) =>
    (fp_X2_part y3 y4 v1).bind fun (y5 : Int32) =>
    (fp_X1_gather y1 y2 y5 1 M).bind fun (M6 : zM) =>
    (zgR 8 M6 v0 12).bind fun (y7 : Nat) =>
    (zgI 1 M6 y7 0).bind fun (y8 : Int32) =>
    if y8 ≤ 0 then (
      some (0, M6))
    else (
      some (1, M6)))
set_option maxHeartbeats 4000000 in
set_option maxRecDepth 100000 in
theorem th_X10_partHasModel {v0 : Nat} {v1 : Int32} {M : zM} {x0 : Int32 × zM} (h : fp_X10_partHasModel v0 v1 M = some x0) : v0 < zS M ∧ kd v0 = 8 := by
  unfold fp_X10_partHasModel at h
  exact zthis_of h
set_option maxHeartbeats 4000000 in
set_option maxRecDepth 100000 in
theorem ct_X10_partHasModel (E : zEnv) (hE : zEok E) (d : Nat) (hd : 27 ≤ d) (v0 : Nat) (v1 : Int32) (M : zM) (x0 : Int32 × zM) (hx : fp_X10_partHasModel v0 v1 M = some x0) : zCt E mu_X10_partHasModel d [.ref (E.2.2.2.1 + v0), .int v1] M (some (.int x0.1), x0.2) := by
  refine zCt_of (μ := mu_X10_partHasModel) (t := fp_X10_partHasModel v0 v1 M) rfl rfl (Nat.le_of_ble_eq_true rfl) hx ?_
  change zSy E mu_X10_partHasModel d M (some (.int x0.1), x0.2) x0 (fp_X10_partHasModel v0 v1 M) 0 [(0, .ref (E.2.2.2.1 + v0)), (1, .int v1)] [] M
  unfold fp_X10_partHasModel
  refine zs_this (fun hth => ?_)
  refine zs_aload_n dX10_partHasModel_0 rfl 0 rfl ?_
  refine zs_getR dX10_partHasModel_1 fl_X10_64 rfl (fun y1 => ?_)
  refine zs_iload_n dX10_partHasModel_4 rfl 1 rfl ?_
  refine zs_invSPI (rest := [.ref (E.2.2.2.1 + y1)]) [.int v1] dX10_partHasModel_5 lk_X10_137 rfl (zd1 rfl hd) rfl (Nat.le_of_ble_eq_true rfl) (ct_J6_bitCount_0f7a4 E hE _ (zdl rfl hd) _ _) (fun y2 => ?_)
  refine zs_aload_n dX10_partHasModel_8 rfl 0 rfl ?_
  refine zs_getI dX10_partHasModel_9 fl_X10_129 rfl (fun y3 => ?_)
  refine zs_aload_n dX10_partHasModel_12 rfl 0 rfl ?_
  refine zs_getI dX10_partHasModel_13 fl_X10_136 rfl (fun y4 => ?_)
  refine zs_iload_n dX10_partHasModel_16 rfl 1 rfl ?_
  refine zs_invSPI (rest := [.int y2, .ref (E.2.2.2.1 + y1)]) [.int y3, .int y4, .int v1] dX10_partHasModel_17 lk_X10_180 rfl (zd1 rfl hd) rfl (Nat.le_of_ble_eq_true rfl) (ct_X2_part E hE _ (zdl rfl hd) _ _ _ _) (fun y5 => ?_)
  refine zs_iconst (v := 1) dX10_partHasModel_20 ciconst_1 ?_
  refine zs_invVWV (rest := []) [.int y2, .int y5, .int 1] dX10_partHasModel_21 lk_X10_158 rfl (fun _ h => th_X1_gather h) (zd1 rfl hd) rfl (Nat.le_of_ble_eq_true rfl) (ct_X1_gather E hE _ (zdl rfl hd) _ _ _ _ _) (fun M6 => ?_)
  refine zs_aload_n dX10_partHasModel_24 rfl 0 rfl ?_
  refine zs_getR dX10_partHasModel_25 fl_X10_64 rfl (fun y7 => ?_)
  refine zs_getI dX10_partHasModel_28 fl_X10_161 rfl (fun y8 => ?_)
  refine zs_if_le dX10_partHasModel_31 rfl ?_ ?_
  · refine zs_iconst (v := 0) dX10_partHasModel_38 ciconst_0 ?_
    exact zs_iretW dX10_partHasModel_39 rfl
  refine zs_iconst (v := 1) dX10_partHasModel_34 ciconst_1 ?_
  refine zs_goto dX10_partHasModel_35 rfl ?_
  exact zs_iretW dX10_partHasModel_39 rfl
theorem dX10_findObstruction_0 : decode cX10_findObstruction 0 = .ok (.aload_n 0, 1) := by decide +kernel
theorem dX10_findObstruction_1 : decode cX10_findObstruction 1 = .ok (.aload_n 0, 1) := by decide +kernel
theorem dX10_findObstruction_2 : decode cX10_findObstruction 2 = .ok (.getfield 129, 3) := by decide +kernel
theorem dX10_findObstruction_5 : decode cX10_findObstruction 5 = .ok (.invokestatic 177, 3) := by decide +kernel
theorem dX10_findObstruction_8 : decode cX10_findObstruction 8 = .ok (.invokevirtual 343, 3) := by decide +kernel
theorem dX10_findObstruction_11 : decode cX10_findObstruction 11 = .ok (.ifCond .eq 5, 3) := by decide +kernel
theorem dX10_findObstruction_14 : decode cX10_findObstruction 14 = .ok (.iconst (-1), 1) := by decide +kernel
theorem dX10_findObstruction_15 : decode cX10_findObstruction 15 = .ok (.ireturn, 1) := by decide +kernel
theorem dX10_findObstruction_16 : decode cX10_findObstruction 16 = .ok (.iconst 1, 1) := by decide +kernel
theorem dX10_findObstruction_17 : decode cX10_findObstruction 17 = .ok (.istore_n 1, 1) := by decide +kernel
theorem dX10_findObstruction_18 : decode cX10_findObstruction 18 = .ok (.iload_n 1, 1) := by decide +kernel
theorem dX10_findObstruction_19 : decode cX10_findObstruction 19 = .ok (.aload_n 0, 1) := by decide +kernel
theorem dX10_findObstruction_20 : decode cX10_findObstruction 20 = .ok (.getfield 129, 3) := by decide +kernel
theorem dX10_findObstruction_23 : decode cX10_findObstruction 23 = .ok (.if_icmp .gt 45, 3) := by decide +kernel
theorem dX10_findObstruction_26 : decode cX10_findObstruction 26 = .ok (.iconst 1, 1) := by decide +kernel
theorem dX10_findObstruction_27 : decode cX10_findObstruction 27 = .ok (.istore_n 2, 1) := by decide +kernel
theorem dX10_findObstruction_28 : decode cX10_findObstruction 28 = .ok (.iload_n 2, 1) := by decide +kernel
theorem dX10_findObstruction_29 : decode cX10_findObstruction 29 = .ok (.iconst 1, 1) := by decide +kernel
theorem dX10_findObstruction_30 : decode cX10_findObstruction 30 = .ok (.aload_n 0, 1) := by decide +kernel
theorem dX10_findObstruction_31 : decode cX10_findObstruction 31 = .ok (.getfield 129, 3) := by decide +kernel
theorem dX10_findObstruction_34 : decode cX10_findObstruction 34 = .ok (.ishl, 1) := by decide +kernel
theorem dX10_findObstruction_35 : decode cX10_findObstruction 35 = .ok (.if_icmp .ge 27, 3) := by decide +kernel
theorem dX10_findObstruction_38 : decode cX10_findObstruction 38 = .ok (.iload_n 2, 1) := by decide +kernel
theorem dX10_findObstruction_39 : decode cX10_findObstruction 39 = .ok (.invokestatic 137, 3) := by decide +kernel
theorem dX10_findObstruction_42 : decode cX10_findObstruction 42 = .ok (.iload_n 1, 1) := by decide +kernel
theorem dX10_findObstruction_43 : decode cX10_findObstruction 43 = .ok (.if_icmp .ne 13, 3) := by decide +kernel
theorem dX10_findObstruction_46 : decode cX10_findObstruction 46 = .ok (.aload_n 0, 1) := by decide +kernel
theorem dX10_findObstruction_47 : decode cX10_findObstruction 47 = .ok (.iload_n 2, 1) := by decide +kernel
theorem dX10_findObstruction_48 : decode cX10_findObstruction 48 = .ok (.invokevirtual 343, 3) := by decide +kernel
theorem dX10_findObstruction_51 : decode cX10_findObstruction 51 = .ok (.ifCond .ne 5, 3) := by decide +kernel
theorem dX10_findObstruction_54 : decode cX10_findObstruction 54 = .ok (.iload_n 2, 1) := by decide +kernel
theorem dX10_findObstruction_55 : decode cX10_findObstruction 55 = .ok (.ireturn, 1) := by decide +kernel
theorem dX10_findObstruction_56 : decode cX10_findObstruction 56 = .ok (.iinc 2 1, 3) := by decide +kernel
theorem dX10_findObstruction_59 : decode cX10_findObstruction 59 = .ok (.goto (-31), 3) := by decide +kernel
theorem dX10_findObstruction_62 : decode cX10_findObstruction 62 = .ok (.iinc 1 1, 3) := by decide +kernel
theorem dX10_findObstruction_65 : decode cX10_findObstruction 65 = .ok (.goto (-47), 3) := by decide +kernel
theorem dX10_findObstruction_68 : decode cX10_findObstruction 68 = .ok (.iconst (-1), 1) := by decide +kernel
theorem dX10_findObstruction_69 : decode cX10_findObstruction 69 = .ok (.ireturn, 1) := by decide +kernel
def fp_X10_findObstruction_L28 (k62 : zM → Option (Int32 × zM)) (v0 : Nat) (v1 : Int32) : Nat → Int32 → zM → Option (Int32 × zM)
  | 0, _, _ => none
  | n + 1, v2, M =>
    (zgI 8 M v0 1).bind fun (y7 : Int32) =>
    if v2 ≥ (1 <<< (y7 &&& 31)) then (
      k62 M)
    else (
      (fp_J6_bitCount_0f7a4 v2).bind fun (y8 : Int32) =>
      zjn (fun (M9 : zM) =>
          fp_X10_findObstruction_L28 k62 v0 v1 n (v2 + 1) M9)
        (fun j56 =>
          if y8 ≠ v1 then (
            j56 M)
          else (
            (fp_X10_partHasModel v0 v2 M).bind fun p12 => zpp p12 fun (y10 : Int32) (M11 : zM) =>
            if y10 ≠ 0 then (
              j56 M11)
            else (
              some (v2, M11)))))
def fp_X10_findObstruction_L18 (v0 : Nat) : Nat → Int32 → zM → Option (Int32 × zM)
  | 0, _, _ => none
  | n + 1, v1, M =>
    (zgI 8 M v0 1).bind fun (y6 : Int32) =>
    if v1 > y6 then (
      some ((-1), M))
    else (
      fp_X10_findObstruction_L28
        (fun M13 =>
          fp_X10_findObstruction_L18 v0 n (v1 + 1) M13) v0 v1 FU 1 M)
def fp_X10_findObstruction (v0 : Nat) (M : zM) : Option (Int32 × zM) :=
  zthis 8 M v0 (
    (zgI 8 M v0 1).bind fun (y1 : Int32) =>
    (fp_X2_everyPoint y1).bind fun (y2 : Int32) =>
    (fp_X10_partHasModel v0 y2 M).bind fun p5 => zpp p5 fun (y3 : Int32) (M4 : zM) =>
    if y3 = 0 then (
      fp_X10_findObstruction_L18 v0 FU 1 M4)
    else (
      some ((-1), M4)))
set_option maxHeartbeats 4000000 in
set_option maxRecDepth 100000 in
theorem th_X10_findObstruction {v0 : Nat} {M : zM} {x0 : Int32 × zM} (h : fp_X10_findObstruction v0 M = some x0) : v0 < zS M ∧ kd v0 = 8 := by
  unfold fp_X10_findObstruction at h
  exact zthis_of h
set_option maxHeartbeats 4000000 in
set_option maxRecDepth 100000 in
theorem w_X10_findObstruction_L28 (E : zEnv) (hE : zEok E) (d : Nat) (hd : 28 ≤ d) (M0 : zM) (x0 : Int32 × zM) (v0 : Nat) (v1 : Int32) (k62 : zM → Option (Int32 × zM)) (hk62 : ∀ (M : zM), zSy E mu_X10_findObstruction d M0 (some (.int x0.1), x0.2) x0 (k62 M) 62 [(0, .ref (E.2.2.2.1 + v0)), (1, .int v1)] [] M) : ∀ (n : Nat) (v2 : Int32) (M : zM), zSy E mu_X10_findObstruction d M0 (some (.int x0.1), x0.2) x0 (fp_X10_findObstruction_L28 k62 v0 v1 n v2 M) 28 [(0, .ref (E.2.2.2.1 + v0)), (1, .int v1), (2, .int v2)] [] M := by
  intro n
  induction n with
  | zero =>
    intro v2 M
    rw [fp_X10_findObstruction_L28]
    exact zs_none
  | succ n ih =>
    intro v2 M
    rw [fp_X10_findObstruction_L28]
    refine zs_iload_n dX10_findObstruction_28 rfl 2 rfl ?_
    refine zs_iconst (v := 1) dX10_findObstruction_29 ciconst_1 ?_
    refine zs_aload_n dX10_findObstruction_30 rfl 0 rfl ?_
    refine zs_getI dX10_findObstruction_31 fl_X10_129 rfl (fun y7 => ?_)
    refine zs_ishl dX10_findObstruction_34 ?_
    refine zs_icmp_ge dX10_findObstruction_35 rfl ?_ ?_
    · refine zs_sub (loc' := [(0, .ref (E.2.2.2.1 + v0)), (1, .int v1)]) [0, 1] rfl ?_
      exact hk62 M
    refine zs_iload_n dX10_findObstruction_38 rfl 2 rfl ?_
    refine zs_invSPI (rest := []) [.int v2] dX10_findObstruction_39 lk_X10_137 rfl (zd1 rfl hd) rfl (Nat.le_of_ble_eq_true rfl) (ct_J6_bitCount_0f7a4 E hE _ (zdl rfl hd) _ _) (fun y8 => ?_)
    refine zs_iload_n dX10_findObstruction_42 rfl 1 rfl ?_
    refine zs_jn (fun j56 => ∀ (M9 : zM), zSy E mu_X10_findObstruction d M0 (some (.int x0.1), x0.2) x0 (j56 M9) 56 [(0, .ref (E.2.2.2.1 + v0)), (1, .int v1), (2, .int v2)] [] M9) (fun M9 => ?_) (fun j56 hj56 => ?_)
    · refine zs_iinc (v := (v2 + 1)) (loc' := [(0, .ref (E.2.2.2.1 + v0)), (1, .int v1), (2, .int (v2 + 1))]) dX10_findObstruction_56 2 rfl (by rfl) (Nat.le_of_ble_eq_true rfl) [1, 2, 0] rfl ?_
      refine zs_goto dX10_findObstruction_59 rfl ?_
      exact ih (v2 + 1) M9
    refine zs_icmp_ne dX10_findObstruction_43 rfl ?_ ?_
    · exact hj56 M
    refine zs_aload_n dX10_findObstruction_46 rfl 0 rfl ?_
    refine zs_iload_n dX10_findObstruction_47 rfl 2 rfl ?_
    refine zs_invVWI (rest := []) [.int v2] dX10_findObstruction_48 lk_X10_343 rfl (fun _ h => th_X10_partHasModel h) (zd1 rfl hd) rfl (Nat.le_of_ble_eq_true rfl) (ct_X10_partHasModel E hE _ (zdl rfl hd) _ _ _) (fun y10 M11 => ?_)
    refine zs_if_ne dX10_findObstruction_51 rfl ?_ ?_
    · exact hj56 M11
    refine zs_iload_n dX10_findObstruction_54 rfl 2 rfl ?_
    exact zs_iretW dX10_findObstruction_55 rfl
set_option maxHeartbeats 4000000 in
set_option maxRecDepth 100000 in
theorem w_X10_findObstruction_L18 (E : zEnv) (hE : zEok E) (d : Nat) (hd : 28 ≤ d) (M0 : zM) (x0 : Int32 × zM) (v0 : Nat)  : ∀ (n : Nat) (v1 : Int32) (M : zM), zSy E mu_X10_findObstruction d M0 (some (.int x0.1), x0.2) x0 (fp_X10_findObstruction_L18 v0 n v1 M) 18 [(0, .ref (E.2.2.2.1 + v0)), (1, .int v1)] [] M := by
  intro n
  induction n with
  | zero =>
    intro v1 M
    rw [fp_X10_findObstruction_L18]
    exact zs_none
  | succ n ih =>
    intro v1 M
    rw [fp_X10_findObstruction_L18]
    refine zs_iload_n dX10_findObstruction_18 rfl 1 rfl ?_
    refine zs_aload_n dX10_findObstruction_19 rfl 0 rfl ?_
    refine zs_getI dX10_findObstruction_20 fl_X10_129 rfl (fun y6 => ?_)
    refine zs_icmp_gt dX10_findObstruction_23 rfl ?_ ?_
    · refine zs_iconst (v := (-1)) dX10_findObstruction_68 ciconst_m1 ?_
      exact zs_iretW dX10_findObstruction_69 rfl
    refine zs_iconst (v := 1) dX10_findObstruction_26 ciconst_1 ?_
    refine zs_istore_n (loc' := [(0, .ref (E.2.2.2.1 + v0)), (1, .int v1), (2, .int 1)]) dX10_findObstruction_27 rfl (Nat.le_of_ble_eq_true rfl) [1, 2, 0] rfl ?_
    refine w_X10_findObstruction_L28 E hE d hd _ _ _ _ _ (fun M13 => ?_) _ _ _
    refine zs_iinc (v := (v1 + 1)) (loc' := [(0, .ref (E.2.2.2.1 + v0)), (1, .int (v1 + 1))]) dX10_findObstruction_62 1 rfl (by rfl) (Nat.le_of_ble_eq_true rfl) [1, 0] rfl ?_
    refine zs_goto dX10_findObstruction_65 rfl ?_
    exact ih (v1 + 1) M13
set_option maxHeartbeats 4000000 in
set_option maxRecDepth 100000 in
theorem ct_X10_findObstruction (E : zEnv) (hE : zEok E) (d : Nat) (hd : 28 ≤ d) (v0 : Nat) (M : zM) (x0 : Int32 × zM) (hx : fp_X10_findObstruction v0 M = some x0) : zCt E mu_X10_findObstruction d [.ref (E.2.2.2.1 + v0)] M (some (.int x0.1), x0.2) := by
  refine zCt_of (μ := mu_X10_findObstruction) (t := fp_X10_findObstruction v0 M) rfl rfl (Nat.le_of_ble_eq_true rfl) hx ?_
  change zSy E mu_X10_findObstruction d M (some (.int x0.1), x0.2) x0 (fp_X10_findObstruction v0 M) 0 [(0, .ref (E.2.2.2.1 + v0))] [] M
  unfold fp_X10_findObstruction
  refine zs_this (fun hth => ?_)
  refine zs_aload_n dX10_findObstruction_0 rfl 0 rfl ?_
  refine zs_aload_n dX10_findObstruction_1 rfl 0 rfl ?_
  refine zs_getI dX10_findObstruction_2 fl_X10_129 rfl (fun y1 => ?_)
  refine zs_invSPI (rest := [.ref (E.2.2.2.1 + v0)]) [.int y1] dX10_findObstruction_5 lk_X10_177 rfl (zd1 rfl hd) rfl (Nat.le_of_ble_eq_true rfl) (ct_X2_everyPoint E hE _ (zdl rfl hd) _ _) (fun y2 => ?_)
  refine zs_invVWI (rest := []) [.int y2] dX10_findObstruction_8 lk_X10_343 rfl (fun _ h => th_X10_partHasModel h) (zd1 rfl hd) rfl (Nat.le_of_ble_eq_true rfl) (ct_X10_partHasModel E hE _ (zdl rfl hd) _ _ _) (fun y3 M4 => ?_)
  refine zs_if_eq dX10_findObstruction_11 rfl ?_ ?_
  · refine zs_iconst (v := 1) dX10_findObstruction_16 ciconst_1 ?_
    refine zs_istore_n (loc' := [(0, .ref (E.2.2.2.1 + v0)), (1, .int 1)]) dX10_findObstruction_17 rfl (Nat.le_of_ble_eq_true rfl) [1, 0] rfl ?_
    exact w_X10_findObstruction_L18 E hE d hd _ _ _ _ _ _
  refine zs_iconst (v := (-1)) dX10_findObstruction_14 ciconst_m1 ?_
  exact zs_iretW dX10_findObstruction_15 rfl
theorem dX10_obstruction_0 : decode cX10_obstruction 0 = .ok (.aload_n 0, 1) := by decide +kernel
theorem dX10_obstruction_1 : decode cX10_obstruction 1 = .ok (.invokevirtual 340, 3) := by decide +kernel
theorem dX10_obstruction_4 : decode cX10_obstruction 4 = .ok (.istore_n 1, 1) := by decide +kernel
theorem dX10_obstruction_5 : decode cX10_obstruction 5 = .ok (.iload_n 1, 1) := by decide +kernel
theorem dX10_obstruction_6 : decode cX10_obstruction 6 = .ok (.ifCond .ge 12, 3) := by decide +kernel
theorem dX10_obstruction_9 : decode cX10_obstruction 9 = .ok (.aload_n 0, 1) := by decide +kernel
theorem dX10_obstruction_10 : decode cX10_obstruction 10 = .ok (.bipush 6, 2) := by decide +kernel
theorem dX10_obstruction_12 : decode cX10_obstruction 12 = .ok (.invokevirtual 102, 3) := by decide +kernel
theorem dX10_obstruction_15 : decode cX10_obstruction 15 = .ok (.goto 8, 3) := by decide +kernel
theorem dX10_obstruction_18 : decode cX10_obstruction 18 = .ok (.aload_n 0, 1) := by decide +kernel
theorem dX10_obstruction_19 : decode cX10_obstruction 19 = .ok (.iload_n 1, 1) := by decide +kernel
theorem dX10_obstruction_20 : decode cX10_obstruction 20 = .ok (.invokevirtual 130, 3) := by decide +kernel
theorem dX10_obstruction_23 : decode cX10_obstruction 23 = .ok (.ireturn, 1) := by decide +kernel
def fp_X10_obstruction (v0 : Nat) (M : zM) : Option (Int32 × zM) :=
  zthis 8 M v0 (
    (fp_X10_findObstruction v0 M).bind fun p3 => zpp p3 fun (y1 : Int32) (M2 : zM) =>
    if y1 ≥ 0 then (
      (fp_X10_answer v0 y1 M2).bind fun p6 => zpp p6 fun (y4 : Int32) (M5 : zM) =>
      some (y4, M5))
    else (
      (fp_X10_refuse v0 6 M2).bind fun p9 => zpp p9 fun (y7 : Int32) (M8 : zM) =>
      some (y7, M8)))
set_option maxHeartbeats 4000000 in
set_option maxRecDepth 100000 in
theorem th_X10_obstruction {v0 : Nat} {M : zM} {x0 : Int32 × zM} (h : fp_X10_obstruction v0 M = some x0) : v0 < zS M ∧ kd v0 = 8 := by
  unfold fp_X10_obstruction at h
  exact zthis_of h
set_option maxHeartbeats 4000000 in
set_option maxRecDepth 100000 in
theorem ct_X10_obstruction (E : zEnv) (hE : zEok E) (d : Nat) (hd : 29 ≤ d) (v0 : Nat) (M : zM) (x0 : Int32 × zM) (hx : fp_X10_obstruction v0 M = some x0) : zCt E mu_X10_obstruction d [.ref (E.2.2.2.1 + v0)] M (some (.int x0.1), x0.2) := by
  refine zCt_of (μ := mu_X10_obstruction) (t := fp_X10_obstruction v0 M) rfl rfl (Nat.le_of_ble_eq_true rfl) hx ?_
  change zSy E mu_X10_obstruction d M (some (.int x0.1), x0.2) x0 (fp_X10_obstruction v0 M) 0 [(0, .ref (E.2.2.2.1 + v0))] [] M
  unfold fp_X10_obstruction
  refine zs_this (fun hth => ?_)
  refine zs_aload_n dX10_obstruction_0 rfl 0 rfl ?_
  refine zs_invVWI (rest := []) [] dX10_obstruction_1 lk_X10_340 rfl (fun _ h => th_X10_findObstruction h) (zd1 rfl hd) rfl (Nat.le_of_ble_eq_true rfl) (ct_X10_findObstruction E hE _ (zdl rfl hd) _ _) (fun y1 M2 => ?_)
  refine zs_istore_n (loc' := [(0, .ref (E.2.2.2.1 + v0)), (1, .int y1)]) dX10_obstruction_4 rfl (Nat.le_of_ble_eq_true rfl) [1, 0] rfl ?_
  refine zs_iload_n dX10_obstruction_5 rfl 1 rfl ?_
  refine zs_if_ge dX10_obstruction_6 rfl ?_ ?_
  · refine zs_aload_n dX10_obstruction_18 rfl 0 rfl ?_
    refine zs_iload_n dX10_obstruction_19 rfl 1 rfl ?_
    refine zs_invVWI (rest := []) [.int y1] dX10_obstruction_20 lk_X10_130 rfl (fun _ h => th_X10_answer h) (zd1 rfl hd) rfl (Nat.le_of_ble_eq_true rfl) (ct_X10_answer E hE _ (zdl rfl hd) _ _ _) (fun y4 M5 => ?_)
    exact zs_iretW dX10_obstruction_23 rfl
  refine zs_aload_n dX10_obstruction_9 rfl 0 rfl ?_
  refine zs_bipush (v := 6) dX10_obstruction_10 cbipush_6 ?_
  refine zs_invVWI (rest := []) [.int 6] dX10_obstruction_12 lk_X10_102 rfl (fun _ h => th_X10_refuse h) (zd1 rfl hd) rfl (Nat.le_of_ble_eq_true rfl) (ct_X10_refuse E hE _ (zdl rfl hd) _ _ _) (fun y7 M8 => ?_)
  refine zs_goto dX10_obstruction_15 rfl ?_
  exact zs_iretW dX10_obstruction_23 rfl
theorem dX10_obstructions_0 : decode cX10_obstructions 0 = .ok (.aload_n 0, 1) := by decide +kernel
theorem dX10_obstructions_1 : decode cX10_obstructions 1 = .ok (.invokevirtual 340, 3) := by decide +kernel
theorem dX10_obstructions_4 : decode cX10_obstructions 4 = .ok (.istore_n 1, 1) := by decide +kernel
theorem dX10_obstructions_5 : decode cX10_obstructions 5 = .ok (.iload_n 1, 1) := by decide +kernel
theorem dX10_obstructions_6 : decode cX10_obstructions 6 = .ok (.ifCond .ge 10, 3) := by decide +kernel
theorem dX10_obstructions_9 : decode cX10_obstructions 9 = .ok (.aload_n 0, 1) := by decide +kernel
theorem dX10_obstructions_10 : decode cX10_obstructions 10 = .ok (.bipush 6, 2) := by decide +kernel
theorem dX10_obstructions_12 : decode cX10_obstructions 12 = .ok (.invokevirtual 102, 3) := by decide +kernel
theorem dX10_obstructions_15 : decode cX10_obstructions 15 = .ok (.ireturn, 1) := by decide +kernel
theorem dX10_obstructions_16 : decode cX10_obstructions 16 = .ok (.iconst 0, 1) := by decide +kernel
theorem dX10_obstructions_17 : decode cX10_obstructions 17 = .ok (.istore_n 2, 1) := by decide +kernel
theorem dX10_obstructions_18 : decode cX10_obstructions 18 = .ok (.iload_n 1, 1) := by decide +kernel
theorem dX10_obstructions_19 : decode cX10_obstructions 19 = .ok (.istore_n 3, 1) := by decide +kernel
theorem dX10_obstructions_20 : decode cX10_obstructions 20 = .ok (.iload_n 3, 1) := by decide +kernel
theorem dX10_obstructions_21 : decode cX10_obstructions 21 = .ok (.iconst 1, 1) := by decide +kernel
theorem dX10_obstructions_22 : decode cX10_obstructions 22 = .ok (.aload_n 0, 1) := by decide +kernel
theorem dX10_obstructions_23 : decode cX10_obstructions 23 = .ok (.getfield 129, 3) := by decide +kernel
theorem dX10_obstructions_26 : decode cX10_obstructions 26 = .ok (.ishl, 1) := by decide +kernel
theorem dX10_obstructions_27 : decode cX10_obstructions 27 = .ok (.if_icmp .ge 31, 3) := by decide +kernel
theorem dX10_obstructions_30 : decode cX10_obstructions 30 = .ok (.iload_n 3, 1) := by decide +kernel
theorem dX10_obstructions_31 : decode cX10_obstructions 31 = .ok (.invokestatic 137, 3) := by decide +kernel
theorem dX10_obstructions_34 : decode cX10_obstructions 34 = .ok (.iload_n 1, 1) := by decide +kernel
theorem dX10_obstructions_35 : decode cX10_obstructions 35 = .ok (.invokestatic 137, 3) := by decide +kernel
theorem dX10_obstructions_38 : decode cX10_obstructions 38 = .ok (.if_icmp .ne 14, 3) := by decide +kernel
theorem dX10_obstructions_41 : decode cX10_obstructions 41 = .ok (.aload_n 0, 1) := by decide +kernel
theorem dX10_obstructions_42 : decode cX10_obstructions 42 = .ok (.iload_n 3, 1) := by decide +kernel
theorem dX10_obstructions_43 : decode cX10_obstructions 43 = .ok (.invokevirtual 343, 3) := by decide +kernel
theorem dX10_obstructions_46 : decode cX10_obstructions 46 = .ok (.ifCond .ne 6, 3) := by decide +kernel
theorem dX10_obstructions_49 : decode cX10_obstructions 49 = .ok (.iinc 2 1, 3) := by decide +kernel
theorem dX10_obstructions_52 : decode cX10_obstructions 52 = .ok (.iinc 3 1, 3) := by decide +kernel
theorem dX10_obstructions_55 : decode cX10_obstructions 55 = .ok (.goto (-35), 3) := by decide +kernel
theorem dX10_obstructions_58 : decode cX10_obstructions 58 = .ok (.aload_n 0, 1) := by decide +kernel
theorem dX10_obstructions_59 : decode cX10_obstructions 59 = .ok (.iload_n 2, 1) := by decide +kernel
theorem dX10_obstructions_60 : decode cX10_obstructions 60 = .ok (.invokevirtual 130, 3) := by decide +kernel
theorem dX10_obstructions_63 : decode cX10_obstructions 63 = .ok (.ireturn, 1) := by decide +kernel
def fp_X10_obstructions_L20 (v0 : Nat) (v1 : Int32) : Nat → Int32 → Int32 → zM → Option (Int32 × zM)
  | 0, _, _, _ => none
  | n + 1, v2, v3, M =>
    (zgI 8 M v0 1).bind fun (y4 : Int32) =>
    if v3 ≥ (1 <<< (y4 &&& 31)) then (
      (fp_X10_answer v0 v2 M).bind fun p7 => zpp p7 fun (y5 : Int32) (M6 : zM) =>
      some (y5, M6))
    else (
      (fp_J6_bitCount_0f7a4 v3).bind fun (y8 : Int32) =>
      (fp_J6_bitCount_0f7a4 v1).bind fun (y9 : Int32) =>
      zjn (fun (v2_10 : Int32) (M11 : zM) =>
          fp_X10_obstructions_L20 v0 v1 n v2_10 (v3 + 1) M11)
        (fun j52 =>
          if y8 ≠ y9 then (
            j52 v2 M)
          else (
            (fp_X10_partHasModel v0 v3 M).bind fun p14 => zpp p14 fun (y12 : Int32) (M13 : zM) =>
            if y12 ≠ 0 then (
              j52 v2 M13)
            else (
              j52 (v2 + 1) M13))))
def fp_X10_obstructions (v0 : Nat) (M : zM) : Option (Int32 × zM) :=
  zthis 8 M v0 (
    (fp_X10_findObstruction v0 M).bind fun p3 => zpp p3 fun (y1 : Int32) (M2 : zM) =>
    if y1 ≥ 0 then (
      fp_X10_obstructions_L20 v0 y1 FU 0 y1 M2)
    else (
      (fp_X10_refuse v0 6 M2).bind fun p17 => zpp p17 fun (y15 : Int32) (M16 : zM) =>
      some (y15, M16)))
set_option maxHeartbeats 4000000 in
set_option maxRecDepth 100000 in
theorem th_X10_obstructions {v0 : Nat} {M : zM} {x0 : Int32 × zM} (h : fp_X10_obstructions v0 M = some x0) : v0 < zS M ∧ kd v0 = 8 := by
  unfold fp_X10_obstructions at h
  exact zthis_of h
set_option maxHeartbeats 4000000 in
set_option maxRecDepth 100000 in
theorem w_X10_obstructions_L20 (E : zEnv) (hE : zEok E) (d : Nat) (hd : 29 ≤ d) (M0 : zM) (x0 : Int32 × zM) (v0 : Nat) (v1 : Int32)  : ∀ (n : Nat) (v2 : Int32) (v3 : Int32) (M : zM), zSy E mu_X10_obstructions d M0 (some (.int x0.1), x0.2) x0 (fp_X10_obstructions_L20 v0 v1 n v2 v3 M) 20 [(0, .ref (E.2.2.2.1 + v0)), (1, .int v1), (2, .int v2), (3, .int v3)] [] M := by
  intro n
  induction n with
  | zero =>
    intro v2 v3 M
    rw [fp_X10_obstructions_L20]
    exact zs_none
  | succ n ih =>
    intro v2 v3 M
    rw [fp_X10_obstructions_L20]
    refine zs_iload_n dX10_obstructions_20 rfl 3 rfl ?_
    refine zs_iconst (v := 1) dX10_obstructions_21 ciconst_1 ?_
    refine zs_aload_n dX10_obstructions_22 rfl 0 rfl ?_
    refine zs_getI dX10_obstructions_23 fl_X10_129 rfl (fun y4 => ?_)
    refine zs_ishl dX10_obstructions_26 ?_
    refine zs_icmp_ge dX10_obstructions_27 rfl ?_ ?_
    · refine zs_aload_n dX10_obstructions_58 rfl 0 rfl ?_
      refine zs_iload_n dX10_obstructions_59 rfl 2 rfl ?_
      refine zs_invVWI (rest := []) [.int v2] dX10_obstructions_60 lk_X10_130 rfl (fun _ h => th_X10_answer h) (zd1 rfl hd) rfl (Nat.le_of_ble_eq_true rfl) (ct_X10_answer E hE _ (zdl rfl hd) _ _ _) (fun y5 M6 => ?_)
      exact zs_iretW dX10_obstructions_63 rfl
    refine zs_iload_n dX10_obstructions_30 rfl 3 rfl ?_
    refine zs_invSPI (rest := []) [.int v3] dX10_obstructions_31 lk_X10_137 rfl (zd1 rfl hd) rfl (Nat.le_of_ble_eq_true rfl) (ct_J6_bitCount_0f7a4 E hE _ (zdl rfl hd) _ _) (fun y8 => ?_)
    refine zs_iload_n dX10_obstructions_34 rfl 1 rfl ?_
    refine zs_invSPI (rest := [.int y8]) [.int v1] dX10_obstructions_35 lk_X10_137 rfl (zd1 rfl hd) rfl (Nat.le_of_ble_eq_true rfl) (ct_J6_bitCount_0f7a4 E hE _ (zdl rfl hd) _ _) (fun y9 => ?_)
    refine zs_jn (fun j52 => ∀ (v2_10 : Int32) (M11 : zM), zSy E mu_X10_obstructions d M0 (some (.int x0.1), x0.2) x0 (j52 v2_10 M11) 52 [(0, .ref (E.2.2.2.1 + v0)), (1, .int v1), (2, .int v2_10), (3, .int v3)] [] M11) (fun v2_10 M11 => ?_) (fun j52 hj52 => ?_)
    · refine zs_iinc (v := (v3 + 1)) (loc' := [(0, .ref (E.2.2.2.1 + v0)), (1, .int v1), (2, .int v2_10), (3, .int (v3 + 1))]) dX10_obstructions_52 3 rfl (by rfl) (Nat.le_of_ble_eq_true rfl) [1, 2, 3, 0] rfl ?_
      refine zs_goto dX10_obstructions_55 rfl ?_
      exact ih v2_10 (v3 + 1) M11
    refine zs_icmp_ne dX10_obstructions_38 rfl ?_ ?_
    · exact hj52 v2 M
    refine zs_aload_n dX10_obstructions_41 rfl 0 rfl ?_
    refine zs_iload_n dX10_obstructions_42 rfl 3 rfl ?_
    refine zs_invVWI (rest := []) [.int v3] dX10_obstructions_43 lk_X10_343 rfl (fun _ h => th_X10_partHasModel h) (zd1 rfl hd) rfl (Nat.le_of_ble_eq_true rfl) (ct_X10_partHasModel E hE _ (zdl rfl hd) _ _ _) (fun y12 M13 => ?_)
    refine zs_if_ne dX10_obstructions_46 rfl ?_ ?_
    · exact hj52 v2 M13
    refine zs_iinc (v := (v2 + 1)) (loc' := [(0, .ref (E.2.2.2.1 + v0)), (1, .int v1), (2, .int (v2 + 1)), (3, .int v3)]) dX10_obstructions_49 2 rfl (by rfl) (Nat.le_of_ble_eq_true rfl) [1, 2, 0, 3] rfl ?_
    exact hj52 (v2 + 1) M13
set_option maxHeartbeats 4000000 in
set_option maxRecDepth 100000 in
theorem ct_X10_obstructions (E : zEnv) (hE : zEok E) (d : Nat) (hd : 29 ≤ d) (v0 : Nat) (M : zM) (x0 : Int32 × zM) (hx : fp_X10_obstructions v0 M = some x0) : zCt E mu_X10_obstructions d [.ref (E.2.2.2.1 + v0)] M (some (.int x0.1), x0.2) := by
  refine zCt_of (μ := mu_X10_obstructions) (t := fp_X10_obstructions v0 M) rfl rfl (Nat.le_of_ble_eq_true rfl) hx ?_
  change zSy E mu_X10_obstructions d M (some (.int x0.1), x0.2) x0 (fp_X10_obstructions v0 M) 0 [(0, .ref (E.2.2.2.1 + v0))] [] M
  unfold fp_X10_obstructions
  refine zs_this (fun hth => ?_)
  refine zs_aload_n dX10_obstructions_0 rfl 0 rfl ?_
  refine zs_invVWI (rest := []) [] dX10_obstructions_1 lk_X10_340 rfl (fun _ h => th_X10_findObstruction h) (zd1 rfl hd) rfl (Nat.le_of_ble_eq_true rfl) (ct_X10_findObstruction E hE _ (zdl rfl hd) _ _) (fun y1 M2 => ?_)
  refine zs_istore_n (loc' := [(0, .ref (E.2.2.2.1 + v0)), (1, .int y1)]) dX10_obstructions_4 rfl (Nat.le_of_ble_eq_true rfl) [1, 0] rfl ?_
  refine zs_iload_n dX10_obstructions_5 rfl 1 rfl ?_
  refine zs_if_ge dX10_obstructions_6 rfl ?_ ?_
  · refine zs_iconst (v := 0) dX10_obstructions_16 ciconst_0 ?_
    refine zs_istore_n (loc' := [(0, .ref (E.2.2.2.1 + v0)), (1, .int y1), (2, .int 0)]) dX10_obstructions_17 rfl (Nat.le_of_ble_eq_true rfl) [1, 2, 0] rfl ?_
    refine zs_iload_n dX10_obstructions_18 rfl 1 rfl ?_
    refine zs_istore_n (loc' := [(0, .ref (E.2.2.2.1 + v0)), (1, .int y1), (2, .int 0), (3, .int y1)]) dX10_obstructions_19 rfl (Nat.le_of_ble_eq_true rfl) [1, 2, 3, 0] rfl ?_
    exact w_X10_obstructions_L20 E hE d hd _ _ _ _ _ _ _ _
  refine zs_aload_n dX10_obstructions_9 rfl 0 rfl ?_
  refine zs_bipush (v := 6) dX10_obstructions_10 cbipush_6 ?_
  refine zs_invVWI (rest := []) [.int 6] dX10_obstructions_12 lk_X10_102 rfl (fun _ h => th_X10_refuse h) (zd1 rfl hd) rfl (Nat.le_of_ble_eq_true rfl) (ct_X10_refuse E hE _ (zdl rfl hd) _ _ _) (fun y15 M16 => ?_)
  exact zs_iretW dX10_obstructions_15 rfl
theorem dX10_family_0 : decode cX10_family 0 = .ok (.iload_n 1, 1) := by decide +kernel
theorem dX10_family_1 : decode cX10_family 1 = .ok (.ifCond .lt 8, 3) := by decide +kernel
theorem dX10_family_4 : decode cX10_family 4 = .ok (.iload_n 1, 1) := by decide +kernel
theorem dX10_family_5 : decode cX10_family 5 = .ok (.iconst 3, 1) := by decide +kernel
theorem dX10_family_6 : decode cX10_family 6 = .ok (.if_icmp .le 9, 3) := by decide +kernel
theorem dX10_family_9 : decode cX10_family 9 = .ok (.aload_n 0, 1) := by decide +kernel
theorem dX10_family_10 : decode cX10_family 10 = .ok (.iconst 1, 1) := by decide +kernel
theorem dX10_family_11 : decode cX10_family 11 = .ok (.invokevirtual 102, 3) := by decide +kernel
theorem dX10_family_14 : decode cX10_family 14 = .ok (.ireturn, 1) := by decide +kernel
theorem dX10_family_15 : decode cX10_family 15 = .ok (.aload_n 0, 1) := by decide +kernel
theorem dX10_family_16 : decode cX10_family 16 = .ok (.getfield 70, 3) := by decide +kernel
theorem dX10_family_19 : decode cX10_family 19 = .ok (.aload_n 0, 1) := by decide +kernel
theorem dX10_family_20 : decode cX10_family 20 = .ok (.getfield 129, 3) := by decide +kernel
theorem dX10_family_23 : decode cX10_family 23 = .ok (.aload_n 0, 1) := by decide +kernel
theorem dX10_family_24 : decode cX10_family 24 = .ok (.getfield 136, 3) := by decide +kernel
theorem dX10_family_27 : decode cX10_family 27 = .ok (.invokevirtual 162, 3) := by decide +kernel
theorem dX10_family_30 : decode cX10_family 30 = .ok (.iload_n 1, 1) := by decide +kernel
theorem dX10_family_31 : decode cX10_family 31 = .ok (.tableswitch 68 0 2 #[25, 37, 49], 25) := by decide +kernel
theorem dX10_family_56 : decode cX10_family 56 = .ok (.aload_n 0, 1) := by decide +kernel
theorem dX10_family_57 : decode cX10_family 57 = .ok (.aload_n 0, 1) := by decide +kernel
theorem dX10_family_58 : decode cX10_family 58 = .ok (.getfield 70, 3) := by decide +kernel
theorem dX10_family_61 : decode cX10_family 61 = .ok (.invokevirtual 346, 3) := by decide +kernel
theorem dX10_family_64 : decode cX10_family 64 = .ok (.invokevirtual 130, 3) := by decide +kernel
theorem dX10_family_67 : decode cX10_family 67 = .ok (.ireturn, 1) := by decide +kernel
theorem dX10_family_68 : decode cX10_family 68 = .ok (.aload_n 0, 1) := by decide +kernel
theorem dX10_family_69 : decode cX10_family 69 = .ok (.aload_n 0, 1) := by decide +kernel
theorem dX10_family_70 : decode cX10_family 70 = .ok (.getfield 70, 3) := by decide +kernel
theorem dX10_family_73 : decode cX10_family 73 = .ok (.invokevirtual 349, 3) := by decide +kernel
theorem dX10_family_76 : decode cX10_family 76 = .ok (.invokevirtual 130, 3) := by decide +kernel
theorem dX10_family_79 : decode cX10_family 79 = .ok (.ireturn, 1) := by decide +kernel
theorem dX10_family_80 : decode cX10_family 80 = .ok (.aload_n 0, 1) := by decide +kernel
theorem dX10_family_81 : decode cX10_family 81 = .ok (.aload_n 0, 1) := by decide +kernel
theorem dX10_family_82 : decode cX10_family 82 = .ok (.getfield 70, 3) := by decide +kernel
theorem dX10_family_85 : decode cX10_family 85 = .ok (.aload_n 0, 1) := by decide +kernel
theorem dX10_family_86 : decode cX10_family 86 = .ok (.getfield 70, 3) := by decide +kernel
theorem dX10_family_89 : decode cX10_family 89 = .ok (.invokevirtual 346, 3) := by decide +kernel
theorem dX10_family_92 : decode cX10_family 92 = .ok (.invokevirtual 352, 3) := by decide +kernel
theorem dX10_family_95 : decode cX10_family 95 = .ok (.invokevirtual 130, 3) := by decide +kernel
theorem dX10_family_98 : decode cX10_family 98 = .ok (.ireturn, 1) := by decide +kernel
theorem dX10_family_99 : decode cX10_family 99 = .ok (.aload_n 0, 1) := by decide +kernel
theorem dX10_family_100 : decode cX10_family 100 = .ok (.aload_n 0, 1) := by decide +kernel
theorem dX10_family_101 : decode cX10_family 101 = .ok (.getfield 70, 3) := by decide +kernel
theorem dX10_family_104 : decode cX10_family 104 = .ok (.invokevirtual 355, 3) := by decide +kernel
theorem dX10_family_107 : decode cX10_family 107 = .ok (.invokevirtual 130, 3) := by decide +kernel
theorem dX10_family_110 : decode cX10_family 110 = .ok (.ireturn, 1) := by decide +kernel
def fp_X10_family (v0 : Nat) (v1 : Int32) (M : zM) : Option (Int32 × zM) :=
  zthis 8 M v0 (
    if v1 < 0 then (
      (fp_X10_refuse v0 1 M).bind fun p3 => zpp p3 fun (y1 : Int32) (M2 : zM) =>
      some (y1, M2))
    else (
      if v1 ≤ 3 then (
        (zgR 8 M v0 13).bind fun (y4 : Nat) =>
        (zgI 8 M v0 1).bind fun (y5 : Int32) =>
        (zgI 8 M v0 2).bind fun (y6 : Int32) =>
        (fp_X8_gather y4 y5 y6 M).bind fun (M7 : zM) =>
        if v1 = 0 then (
          (zgR 8 M7 v0 13).bind fun (y8 : Nat) =>
          (fp_X8_fewestLines y8 M7).bind fun (y9 : Int32) =>
          (fp_X10_answer v0 y9 M7).bind fun p12 => zpp p12 fun (y10 : Int32) (M11 : zM) =>
          some (y10, M11))
        else if v1 = 1 then (
          (zgR 8 M7 v0 13).bind fun (y14 : Nat) =>
          (fp_X8_mostLines y14 M7).bind fun (y15 : Int32) =>
          (fp_X10_answer v0 y15 M7).bind fun p18 => zpp p18 fun (y16 : Int32) (M17 : zM) =>
          some (y16, M17))
        else if v1 = 2 then (
          (zgR 8 M7 v0 13).bind fun (y20 : Nat) =>
          (zgR 8 M7 v0 13).bind fun (y21 : Nat) =>
          (fp_X8_fewestLines y21 M7).bind fun (y22 : Int32) =>
          (fp_X8_countWith y20 y22 M7).bind fun (y23 : Int32) =>
          (fp_X10_answer v0 y23 M7).bind fun p26 => zpp p26 fun (y24 : Int32) (M25 : zM) =>
          some (y24, M25))
        else (
          (zgR 8 M7 v0 13).bind fun (y28 : Nat) =>
          (fp_X8_allLines y28 M7).bind fun (y29 : Int32) =>
          (fp_X10_answer v0 y29 M7).bind fun p32 => zpp p32 fun (y30 : Int32) (M31 : zM) =>
          some (y30, M31)))
      else (
        (fp_X10_refuse v0 1 M).bind fun p35 => zpp p35 fun (y33 : Int32) (M34 : zM) =>
        some (y33, M34))))
set_option maxHeartbeats 4000000 in
set_option maxRecDepth 100000 in
theorem th_X10_family {v0 : Nat} {v1 : Int32} {M : zM} {x0 : Int32 × zM} (h : fp_X10_family v0 v1 M = some x0) : v0 < zS M ∧ kd v0 = 8 := by
  unfold fp_X10_family at h
  exact zthis_of h
set_option maxHeartbeats 4000000 in
set_option maxRecDepth 100000 in
theorem ct_X10_family (E : zEnv) (hE : zEok E) (d : Nat) (hd : 4 ≤ d) (v0 : Nat) (v1 : Int32) (M : zM) (x0 : Int32 × zM) (hx : fp_X10_family v0 v1 M = some x0) : zCt E mu_X10_family d [.ref (E.2.2.2.1 + v0), .int v1] M (some (.int x0.1), x0.2) := by
  refine zCt_of (μ := mu_X10_family) (t := fp_X10_family v0 v1 M) rfl rfl (Nat.le_of_ble_eq_true rfl) hx ?_
  change zSy E mu_X10_family d M (some (.int x0.1), x0.2) x0 (fp_X10_family v0 v1 M) 0 [(0, .ref (E.2.2.2.1 + v0)), (1, .int v1)] [] M
  unfold fp_X10_family
  refine zs_this (fun hth => ?_)
  refine zs_iload_n dX10_family_0 rfl 1 rfl ?_
  refine zs_if_lt dX10_family_1 rfl ?_ ?_
  · refine zs_aload_n dX10_family_9 rfl 0 rfl ?_
    refine zs_iconst (v := 1) dX10_family_10 ciconst_1 ?_
    refine zs_invVWI (rest := []) [.int 1] dX10_family_11 lk_X10_102 rfl (fun _ h => th_X10_refuse h) (zd1 rfl hd) rfl (Nat.le_of_ble_eq_true rfl) (ct_X10_refuse E hE _ (zdl rfl hd) _ _ _) (fun y1 M2 => ?_)
    exact zs_iretW dX10_family_14 rfl
  refine zs_iload_n dX10_family_4 rfl 1 rfl ?_
  refine zs_iconst (v := 3) dX10_family_5 ciconst_3 ?_
  refine zs_icmp_le dX10_family_6 rfl ?_ ?_
  · refine zs_aload_n dX10_family_15 rfl 0 rfl ?_
    refine zs_getR dX10_family_16 fl_X10_70 rfl (fun y4 => ?_)
    refine zs_aload_n dX10_family_19 rfl 0 rfl ?_
    refine zs_getI dX10_family_20 fl_X10_129 rfl (fun y5 => ?_)
    refine zs_aload_n dX10_family_23 rfl 0 rfl ?_
    refine zs_getI dX10_family_24 fl_X10_136 rfl (fun y6 => ?_)
    refine zs_invVWV (rest := []) [.int y5, .int y6] dX10_family_27 lk_X10_162 rfl (fun _ h => th_X8_gather h) (zd1 rfl hd) rfl (Nat.le_of_ble_eq_true rfl) (ct_X8_gather E hE _ (zdl rfl hd) _ _ _ _) (fun M7 => ?_)
    refine zs_iload_n dX10_family_30 rfl 1 rfl ?_
    refine zs_ite (fun hc13 => ?_) (fun hc13 => ?_)
    · refine zs_tsw dX10_family_31 hc13 (by decide) (by decide) (by rfl) rfl ?_
      refine zs_aload_n dX10_family_56 rfl 0 rfl ?_
      refine zs_aload_n dX10_family_57 rfl 0 rfl ?_
      refine zs_getR dX10_family_58 fl_X10_70 rfl (fun y8 => ?_)
      refine zs_invVPI (rest := [.ref (E.2.2.2.1 + v0)]) [] dX10_family_61 lk_X10_346 rfl (fun _ h => th_X8_fewestLines h) (zd1 rfl hd) rfl (Nat.le_of_ble_eq_true rfl) (ct_X8_fewestLines E hE _ (zdl rfl hd) _ _) (fun y9 => ?_)
      refine zs_invVWI (rest := []) [.int y9] dX10_family_64 lk_X10_130 rfl (fun _ h => th_X10_answer h) (zd1 rfl hd) rfl (Nat.le_of_ble_eq_true rfl) (ct_X10_answer E hE _ (zdl rfl hd) _ _ _) (fun y10 M11 => ?_)
      exact zs_iretW dX10_family_67 rfl
    refine zs_ite (fun hc19 => ?_) (fun hc19 => ?_)
    · refine zs_tsw dX10_family_31 hc19 (by decide) (by decide) (by rfl) rfl ?_
      refine zs_aload_n dX10_family_68 rfl 0 rfl ?_
      refine zs_aload_n dX10_family_69 rfl 0 rfl ?_
      refine zs_getR dX10_family_70 fl_X10_70 rfl (fun y14 => ?_)
      refine zs_invVPI (rest := [.ref (E.2.2.2.1 + v0)]) [] dX10_family_73 lk_X10_349 rfl (fun _ h => th_X8_mostLines h) (zd1 rfl hd) rfl (Nat.le_of_ble_eq_true rfl) (ct_X8_mostLines E hE _ (zdl rfl hd) _ _) (fun y15 => ?_)
      refine zs_invVWI (rest := []) [.int y15] dX10_family_76 lk_X10_130 rfl (fun _ h => th_X10_answer h) (zd1 rfl hd) rfl (Nat.le_of_ble_eq_true rfl) (ct_X10_answer E hE _ (zdl rfl hd) _ _ _) (fun y16 M17 => ?_)
      exact zs_iretW dX10_family_79 rfl
    refine zs_ite (fun hc27 => ?_) (fun hc27 => ?_)
    · refine zs_tsw dX10_family_31 hc27 (by decide) (by decide) (by rfl) rfl ?_
      refine zs_aload_n dX10_family_80 rfl 0 rfl ?_
      refine zs_aload_n dX10_family_81 rfl 0 rfl ?_
      refine zs_getR dX10_family_82 fl_X10_70 rfl (fun y20 => ?_)
      refine zs_aload_n dX10_family_85 rfl 0 rfl ?_
      refine zs_getR dX10_family_86 fl_X10_70 rfl (fun y21 => ?_)
      refine zs_invVPI (rest := [.ref (E.2.2.2.1 + y20), .ref (E.2.2.2.1 + v0)]) [] dX10_family_89 lk_X10_346 rfl (fun _ h => th_X8_fewestLines h) (zd1 rfl hd) rfl (Nat.le_of_ble_eq_true rfl) (ct_X8_fewestLines E hE _ (zdl rfl hd) _ _) (fun y22 => ?_)
      refine zs_invVPI (rest := [.ref (E.2.2.2.1 + v0)]) [.int y22] dX10_family_92 lk_X10_352 rfl (fun _ h => th_X8_countWith h) (zd1 rfl hd) rfl (Nat.le_of_ble_eq_true rfl) (ct_X8_countWith E hE _ (zdl rfl hd) _ _ _) (fun y23 => ?_)
      refine zs_invVWI (rest := []) [.int y23] dX10_family_95 lk_X10_130 rfl (fun _ h => th_X10_answer h) (zd1 rfl hd) rfl (Nat.le_of_ble_eq_true rfl) (ct_X10_answer E hE _ (zdl rfl hd) _ _ _) (fun y24 M25 => ?_)
      exact zs_iretW dX10_family_98 rfl
    refine zs_tswD dX10_family_31 (ztsw_of (n := 2) (by decide) (fun q hq => by
      have hq2 : q = 0 ∨ q = 1 ∨ q = 2 := by omega
      rcases hq2 with rfl | rfl | rfl
      · exact hc13
      · exact hc19
      · exact hc27)) rfl ?_
    refine zs_aload_n dX10_family_99 rfl 0 rfl ?_
    refine zs_aload_n dX10_family_100 rfl 0 rfl ?_
    refine zs_getR dX10_family_101 fl_X10_70 rfl (fun y28 => ?_)
    refine zs_invVPI (rest := [.ref (E.2.2.2.1 + v0)]) [] dX10_family_104 lk_X10_355 rfl (fun _ h => th_X8_allLines h) (zd1 rfl hd) rfl (Nat.le_of_ble_eq_true rfl) (ct_X8_allLines E hE _ (zdl rfl hd) _ _) (fun y29 => ?_)
    refine zs_invVWI (rest := []) [.int y29] dX10_family_107 lk_X10_130 rfl (fun _ h => th_X10_answer h) (zd1 rfl hd) rfl (Nat.le_of_ble_eq_true rfl) (ct_X10_answer E hE _ (zdl rfl hd) _ _ _) (fun y30 M31 => ?_)
    exact zs_iretW dX10_family_110 rfl
  refine zs_aload_n dX10_family_9 rfl 0 rfl ?_
  refine zs_iconst (v := 1) dX10_family_10 ciconst_1 ?_
  refine zs_invVWI (rest := []) [.int 1] dX10_family_11 lk_X10_102 rfl (fun _ h => th_X10_refuse h) (zd1 rfl hd) rfl (Nat.le_of_ble_eq_true rfl) (ct_X10_refuse E hE _ (zdl rfl hd) _ _ _) (fun y33 M34 => ?_)
  exact zs_iretW dX10_family_14 rfl
theorem dX10_turns_0 : decode cX10_turns 0 = .ok (.aload_n 0, 1) := by decide +kernel
theorem dX10_turns_1 : decode cX10_turns 1 = .ok (.iload_n 1, 1) := by decide +kernel
theorem dX10_turns_2 : decode cX10_turns 2 = .ok (.invokevirtual 213, 3) := by decide +kernel
theorem dX10_turns_5 : decode cX10_turns 5 = .ok (.istore_n 2, 1) := by decide +kernel
theorem dX10_turns_6 : decode cX10_turns 6 = .ok (.iload_n 2, 1) := by decide +kernel
theorem dX10_turns_7 : decode cX10_turns 7 = .ok (.ifCond .eq 9, 3) := by decide +kernel
theorem dX10_turns_10 : decode cX10_turns 10 = .ok (.aload_n 0, 1) := by decide +kernel
theorem dX10_turns_11 : decode cX10_turns 11 = .ok (.iload_n 2, 1) := by decide +kernel
theorem dX10_turns_12 : decode cX10_turns 12 = .ok (.invokevirtual 102, 3) := by decide +kernel
theorem dX10_turns_15 : decode cX10_turns 15 = .ok (.ireturn, 1) := by decide +kernel
theorem dX10_turns_16 : decode cX10_turns 16 = .ok (.aload_n 0, 1) := by decide +kernel
theorem dX10_turns_17 : decode cX10_turns 17 = .ok (.iload_n 1, 1) := by decide +kernel
theorem dX10_turns_18 : decode cX10_turns 18 = .ok (.invokevirtual 216, 3) := by decide +kernel
theorem dX10_turns_21 : decode cX10_turns 21 = .ok (.istore_n 3, 1) := by decide +kernel
theorem dX10_turns_22 : decode cX10_turns 22 = .ok (.iload_n 3, 1) := by decide +kernel
theorem dX10_turns_23 : decode cX10_turns 23 = .ok (.invokestatic 204, 3) := by decide +kernel
theorem dX10_turns_26 : decode cX10_turns 26 = .ok (.aload_n 0, 1) := by decide +kernel
theorem dX10_turns_27 : decode cX10_turns 27 = .ok (.getfield 129, 3) := by decide +kernel
theorem dX10_turns_30 : decode cX10_turns 30 = .ok (.if_icmp .eq 10, 3) := by decide +kernel
theorem dX10_turns_33 : decode cX10_turns 33 = .ok (.aload_n 0, 1) := by decide +kernel
theorem dX10_turns_34 : decode cX10_turns 34 = .ok (.bipush 7, 2) := by decide +kernel
theorem dX10_turns_36 : decode cX10_turns 36 = .ok (.invokevirtual 102, 3) := by decide +kernel
theorem dX10_turns_39 : decode cX10_turns 39 = .ok (.ireturn, 1) := by decide +kernel
theorem dX10_turns_40 : decode cX10_turns 40 = .ok (.aload_n 0, 1) := by decide +kernel
theorem dX10_turns_41 : decode cX10_turns 41 = .ok (.getfield 70, 3) := by decide +kernel
theorem dX10_turns_44 : decode cX10_turns 44 = .ok (.aload_n 0, 1) := by decide +kernel
theorem dX10_turns_45 : decode cX10_turns 45 = .ok (.getfield 129, 3) := by decide +kernel
theorem dX10_turns_48 : decode cX10_turns 48 = .ok (.aload_n 0, 1) := by decide +kernel
theorem dX10_turns_49 : decode cX10_turns 49 = .ok (.getfield 136, 3) := by decide +kernel
theorem dX10_turns_52 : decode cX10_turns 52 = .ok (.invokevirtual 162, 3) := by decide +kernel
theorem dX10_turns_55 : decode cX10_turns 55 = .ok (.aload_n 0, 1) := by decide +kernel
theorem dX10_turns_56 : decode cX10_turns 56 = .ok (.getfield 70, 3) := by decide +kernel
theorem dX10_turns_59 : decode cX10_turns 59 = .ok (.iload_n 3, 1) := by decide +kernel
theorem dX10_turns_60 : decode cX10_turns 60 = .ok (.invokestatic 207, 3) := by decide +kernel
theorem dX10_turns_63 : decode cX10_turns 63 = .ok (.invokevirtual 358, 3) := by decide +kernel
theorem dX10_turns_66 : decode cX10_turns 66 = .ok (.istore 4, 2) := by decide +kernel
theorem dX10_turns_68 : decode cX10_turns 68 = .ok (.iload 4, 2) := by decide +kernel
theorem dX10_turns_70 : decode cX10_turns 70 = .ok (.ifCond .ge 12, 3) := by decide +kernel
theorem dX10_turns_73 : decode cX10_turns 73 = .ok (.aload_n 0, 1) := by decide +kernel
theorem dX10_turns_74 : decode cX10_turns 74 = .ok (.bipush 6, 2) := by decide +kernel
theorem dX10_turns_76 : decode cX10_turns 76 = .ok (.invokevirtual 102, 3) := by decide +kernel
theorem dX10_turns_79 : decode cX10_turns 79 = .ok (.goto 9, 3) := by decide +kernel
theorem dX10_turns_82 : decode cX10_turns 82 = .ok (.aload_n 0, 1) := by decide +kernel
theorem dX10_turns_83 : decode cX10_turns 83 = .ok (.iload 4, 2) := by decide +kernel
theorem dX10_turns_85 : decode cX10_turns 85 = .ok (.invokevirtual 130, 3) := by decide +kernel
theorem dX10_turns_88 : decode cX10_turns 88 = .ok (.ireturn, 1) := by decide +kernel
def fp_X10_turns (v0 : Nat) (v1 : Int32) (M : zM) : Option (Int32 × zM) :=
  zthis 8 M v0 (
    (fp_X10_badImage v0 v1 M).bind fun (y1 : Int32) =>
    if y1 = 0 then (
      (fp_X10_imageAt v0 v1 M).bind fun (y2 : Int32) =>
      (fp_X2_pointsOf y2).bind fun (y3 : Int32) =>
      (zgI 8 M v0 1).bind fun (y4 : Int32) =>
      if y3 = y4 then (
        (zgR 8 M v0 13).bind fun (y5 : Nat) =>
        (zgI 8 M v0 1).bind fun (y6 : Int32) =>
        (zgI 8 M v0 2).bind fun (y7 : Int32) =>
        (fp_X8_gather y5 y6 y7 M).bind fun (M8 : zM) =>
        (zgR 8 M8 v0 13).bind fun (y9 : Nat) =>
        (fp_X2_linesOf y2).bind fun (y10 : Int32) =>
        (fp_X8_turnsTo y9 y10 M8).bind fun (y11 : Int32) =>
        if y11 ≥ 0 then (
          (fp_X10_answer v0 y11 M8).bind fun p14 => zpp p14 fun (y12 : Int32) (M13 : zM) =>
          some (y12, M13))
        else (
          (fp_X10_refuse v0 6 M8).bind fun p17 => zpp p17 fun (y15 : Int32) (M16 : zM) =>
          some (y15, M16)))
      else (
        (fp_X10_refuse v0 7 M).bind fun p20 => zpp p20 fun (y18 : Int32) (M19 : zM) =>
        some (y18, M19)))
    else (
      (fp_X10_refuse v0 y1 M).bind fun p23 => zpp p23 fun (y21 : Int32) (M22 : zM) =>
      some (y21, M22)))
set_option maxHeartbeats 4000000 in
set_option maxRecDepth 100000 in
theorem th_X10_turns {v0 : Nat} {v1 : Int32} {M : zM} {x0 : Int32 × zM} (h : fp_X10_turns v0 v1 M = some x0) : v0 < zS M ∧ kd v0 = 8 := by
  unfold fp_X10_turns at h
  exact zthis_of h
set_option maxHeartbeats 4000000 in
set_option maxRecDepth 100000 in
theorem ct_X10_turns (E : zEnv) (hE : zEok E) (d : Nat) (hd : 4 ≤ d) (v0 : Nat) (v1 : Int32) (M : zM) (x0 : Int32 × zM) (hx : fp_X10_turns v0 v1 M = some x0) : zCt E mu_X10_turns d [.ref (E.2.2.2.1 + v0), .int v1] M (some (.int x0.1), x0.2) := by
  refine zCt_of (μ := mu_X10_turns) (t := fp_X10_turns v0 v1 M) rfl rfl (Nat.le_of_ble_eq_true rfl) hx ?_
  change zSy E mu_X10_turns d M (some (.int x0.1), x0.2) x0 (fp_X10_turns v0 v1 M) 0 [(0, .ref (E.2.2.2.1 + v0)), (1, .int v1)] [] M
  unfold fp_X10_turns
  refine zs_this (fun hth => ?_)
  refine zs_aload_n dX10_turns_0 rfl 0 rfl ?_
  refine zs_iload_n dX10_turns_1 rfl 1 rfl ?_
  refine zs_invVPI (rest := []) [.int v1] dX10_turns_2 lk_X10_213 rfl (fun _ h => th_X10_badImage h) (zd1 rfl hd) rfl (Nat.le_of_ble_eq_true rfl) (ct_X10_badImage E hE _ (zdl rfl hd) _ _ _) (fun y1 => ?_)
  refine zs_istore_n (loc' := [(0, .ref (E.2.2.2.1 + v0)), (1, .int v1), (2, .int y1)]) dX10_turns_5 rfl (Nat.le_of_ble_eq_true rfl) [1, 2, 0] rfl ?_
  refine zs_iload_n dX10_turns_6 rfl 2 rfl ?_
  refine zs_if_eq dX10_turns_7 rfl ?_ ?_
  · refine zs_aload_n dX10_turns_16 rfl 0 rfl ?_
    refine zs_iload_n dX10_turns_17 rfl 1 rfl ?_
    refine zs_invVPI (rest := []) [.int v1] dX10_turns_18 lk_X10_216 rfl (fun _ h => th_X10_imageAt h) (zd1 rfl hd) rfl (Nat.le_of_ble_eq_true rfl) (ct_X10_imageAt E hE _ (zdl rfl hd) _ _ _) (fun y2 => ?_)
    refine zs_istore_n (loc' := [(0, .ref (E.2.2.2.1 + v0)), (3, .int y2)]) dX10_turns_21 rfl (Nat.le_of_ble_eq_true rfl) [1, 0] rfl ?_
    refine zs_iload_n dX10_turns_22 rfl 1 rfl ?_
    refine zs_invSPI (rest := []) [.int y2] dX10_turns_23 lk_X10_204 rfl (zd1 rfl hd) rfl (Nat.le_of_ble_eq_true rfl) (ct_X2_pointsOf E hE _ (zdl rfl hd) _ _) (fun y3 => ?_)
    refine zs_aload_n dX10_turns_26 rfl 0 rfl ?_
    refine zs_getI dX10_turns_27 fl_X10_129 rfl (fun y4 => ?_)
    refine zs_icmp_eq dX10_turns_30 rfl ?_ ?_
    · refine zs_aload_n dX10_turns_40 rfl 0 rfl ?_
      refine zs_getR dX10_turns_41 fl_X10_70 rfl (fun y5 => ?_)
      refine zs_aload_n dX10_turns_44 rfl 0 rfl ?_
      refine zs_getI dX10_turns_45 fl_X10_129 rfl (fun y6 => ?_)
      refine zs_aload_n dX10_turns_48 rfl 0 rfl ?_
      refine zs_getI dX10_turns_49 fl_X10_136 rfl (fun y7 => ?_)
      refine zs_invVWV (rest := []) [.int y6, .int y7] dX10_turns_52 lk_X10_162 rfl (fun _ h => th_X8_gather h) (zd1 rfl hd) rfl (Nat.le_of_ble_eq_true rfl) (ct_X8_gather E hE _ (zdl rfl hd) _ _ _ _) (fun M8 => ?_)
      refine zs_aload_n dX10_turns_55 rfl 0 rfl ?_
      refine zs_getR dX10_turns_56 fl_X10_70 rfl (fun y9 => ?_)
      refine zs_iload_n dX10_turns_59 rfl 1 rfl ?_
      refine zs_invSPI (rest := [.ref (E.2.2.2.1 + y9)]) [.int y2] dX10_turns_60 lk_X10_207 rfl (zd1 rfl hd) rfl (Nat.le_of_ble_eq_true rfl) (ct_X2_linesOf E hE _ (zdl rfl hd) _ _) (fun y10 => ?_)
      refine zs_invVPI (rest := []) [.int y10] dX10_turns_63 lk_X10_358 rfl (fun _ h => th_X8_turnsTo h) (zd1 rfl hd) rfl (Nat.le_of_ble_eq_true rfl) (ct_X8_turnsTo E hE _ (zdl rfl hd) _ _ _) (fun y11 => ?_)
      refine zs_istore (loc' := [(0, .ref (E.2.2.2.1 + v0)), (4, .int y11)]) dX10_turns_66 (Nat.le_of_ble_eq_true rfl) [1, 0] rfl ?_
      refine zs_iload dX10_turns_68 1 rfl ?_
      refine zs_if_ge dX10_turns_70 rfl ?_ ?_
      · refine zs_aload_n dX10_turns_82 rfl 0 rfl ?_
        refine zs_iload dX10_turns_83 1 rfl ?_
        refine zs_invVWI (rest := []) [.int y11] dX10_turns_85 lk_X10_130 rfl (fun _ h => th_X10_answer h) (zd1 rfl hd) rfl (Nat.le_of_ble_eq_true rfl) (ct_X10_answer E hE _ (zdl rfl hd) _ _ _) (fun y12 M13 => ?_)
        exact zs_iretW dX10_turns_88 rfl
      refine zs_aload_n dX10_turns_73 rfl 0 rfl ?_
      refine zs_bipush (v := 6) dX10_turns_74 cbipush_6 ?_
      refine zs_invVWI (rest := []) [.int 6] dX10_turns_76 lk_X10_102 rfl (fun _ h => th_X10_refuse h) (zd1 rfl hd) rfl (Nat.le_of_ble_eq_true rfl) (ct_X10_refuse E hE _ (zdl rfl hd) _ _ _) (fun y15 M16 => ?_)
      refine zs_goto dX10_turns_79 rfl ?_
      exact zs_iretW dX10_turns_88 rfl
    refine zs_aload_n dX10_turns_33 rfl 0 rfl ?_
    refine zs_bipush (v := 7) dX10_turns_34 cbipush_7 ?_
    refine zs_invVWI (rest := []) [.int 7] dX10_turns_36 lk_X10_102 rfl (fun _ h => th_X10_refuse h) (zd1 rfl hd) rfl (Nat.le_of_ble_eq_true rfl) (ct_X10_refuse E hE _ (zdl rfl hd) _ _ _) (fun y18 M19 => ?_)
    exact zs_iretW dX10_turns_39 rfl
  refine zs_aload_n dX10_turns_10 rfl 0 rfl ?_
  refine zs_iload_n dX10_turns_11 rfl 2 rfl ?_
  refine zs_invVWI (rest := []) [.int y1] dX10_turns_12 lk_X10_102 rfl (fun _ h => th_X10_refuse h) (zd1 rfl hd) rfl (Nat.le_of_ble_eq_true rfl) (ct_X10_refuse E hE _ (zdl rfl hd) _ _ _) (fun y21 M22 => ?_)
  exact zs_iretW dX10_turns_15 rfl
theorem dX10_within_0 : decode cX10_within 0 = .ok (.aload_n 0, 1) := by decide +kernel
theorem dX10_within_1 : decode cX10_within 1 = .ok (.iload_n 1, 1) := by decide +kernel
theorem dX10_within_2 : decode cX10_within 2 = .ok (.invokevirtual 213, 3) := by decide +kernel
theorem dX10_within_5 : decode cX10_within 5 = .ok (.istore_n 2, 1) := by decide +kernel
theorem dX10_within_6 : decode cX10_within 6 = .ok (.iload_n 2, 1) := by decide +kernel
theorem dX10_within_7 : decode cX10_within 7 = .ok (.ifCond .eq 9, 3) := by decide +kernel
theorem dX10_within_10 : decode cX10_within 10 = .ok (.aload_n 0, 1) := by decide +kernel
theorem dX10_within_11 : decode cX10_within 11 = .ok (.iload_n 2, 1) := by decide +kernel
theorem dX10_within_12 : decode cX10_within 12 = .ok (.invokevirtual 102, 3) := by decide +kernel
theorem dX10_within_15 : decode cX10_within 15 = .ok (.ireturn, 1) := by decide +kernel
theorem dX10_within_16 : decode cX10_within 16 = .ok (.aload_n 0, 1) := by decide +kernel
theorem dX10_within_17 : decode cX10_within 17 = .ok (.iload_n 1, 1) := by decide +kernel
theorem dX10_within_18 : decode cX10_within 18 = .ok (.invokevirtual 216, 3) := by decide +kernel
theorem dX10_within_21 : decode cX10_within 21 = .ok (.istore_n 3, 1) := by decide +kernel
theorem dX10_within_22 : decode cX10_within 22 = .ok (.iload_n 3, 1) := by decide +kernel
theorem dX10_within_23 : decode cX10_within 23 = .ok (.invokestatic 204, 3) := by decide +kernel
theorem dX10_within_26 : decode cX10_within 26 = .ok (.aload_n 0, 1) := by decide +kernel
theorem dX10_within_27 : decode cX10_within 27 = .ok (.getfield 129, 3) := by decide +kernel
theorem dX10_within_30 : decode cX10_within 30 = .ok (.if_icmp .le 10, 3) := by decide +kernel
theorem dX10_within_33 : decode cX10_within 33 = .ok (.aload_n 0, 1) := by decide +kernel
theorem dX10_within_34 : decode cX10_within 34 = .ok (.bipush 7, 2) := by decide +kernel
theorem dX10_within_36 : decode cX10_within 36 = .ok (.invokevirtual 102, 3) := by decide +kernel
theorem dX10_within_39 : decode cX10_within 39 = .ok (.ireturn, 1) := by decide +kernel
theorem dX10_within_40 : decode cX10_within 40 = .ok (.aload_n 0, 1) := by decide +kernel
theorem dX10_within_41 : decode cX10_within 41 = .ok (.getfield 70, 3) := by decide +kernel
theorem dX10_within_44 : decode cX10_within 44 = .ok (.aload_n 0, 1) := by decide +kernel
theorem dX10_within_45 : decode cX10_within 45 = .ok (.getfield 129, 3) := by decide +kernel
theorem dX10_within_48 : decode cX10_within 48 = .ok (.aload_n 0, 1) := by decide +kernel
theorem dX10_within_49 : decode cX10_within 49 = .ok (.getfield 136, 3) := by decide +kernel
theorem dX10_within_52 : decode cX10_within 52 = .ok (.invokevirtual 162, 3) := by decide +kernel
theorem dX10_within_55 : decode cX10_within 55 = .ok (.aload_n 0, 1) := by decide +kernel
theorem dX10_within_56 : decode cX10_within 56 = .ok (.getfield 70, 3) := by decide +kernel
theorem dX10_within_59 : decode cX10_within 59 = .ok (.iload_n 3, 1) := by decide +kernel
theorem dX10_within_60 : decode cX10_within 60 = .ok (.invokestatic 204, 3) := by decide +kernel
theorem dX10_within_63 : decode cX10_within 63 = .ok (.iload_n 3, 1) := by decide +kernel
theorem dX10_within_64 : decode cX10_within 64 = .ok (.invokestatic 207, 3) := by decide +kernel
theorem dX10_within_67 : decode cX10_within 67 = .ok (.invokevirtual 361, 3) := by decide +kernel
theorem dX10_within_70 : decode cX10_within 70 = .ok (.istore 4, 2) := by decide +kernel
theorem dX10_within_72 : decode cX10_within 72 = .ok (.aload_n 0, 1) := by decide +kernel
theorem dX10_within_73 : decode cX10_within 73 = .ok (.iload 4, 2) := by decide +kernel
theorem dX10_within_75 : decode cX10_within 75 = .ok (.ifCond .eq 7, 3) := by decide +kernel
theorem dX10_within_78 : decode cX10_within 78 = .ok (.iconst 1, 1) := by decide +kernel
theorem dX10_within_79 : decode cX10_within 79 = .ok (.goto 4, 3) := by decide +kernel
theorem dX10_within_82 : decode cX10_within 82 = .ok (.iconst 0, 1) := by decide +kernel
theorem dX10_within_83 : decode cX10_within 83 = .ok (.invokevirtual 130, 3) := by decide +kernel
theorem dX10_within_86 : decode cX10_within 86 = .ok (.ireturn, 1) := by decide +kernel
def fp_X10_within (v0 : Nat) (v1 : Int32) (M : zM) : Option (Int32 × zM) :=
  zthis 8 M v0 (
    (fp_X10_badImage v0 v1 M).bind fun (y1 : Int32) =>
    if y1 = 0 then (
      (fp_X10_imageAt v0 v1 M).bind fun (y2 : Int32) =>
      (fp_X2_pointsOf y2).bind fun (y3 : Int32) =>
      (zgI 8 M v0 1).bind fun (y4 : Int32) =>
      if y3 ≤ y4 then (
        (zgR 8 M v0 13).bind fun (y5 : Nat) =>
        (zgI 8 M v0 1).bind fun (y6 : Int32) =>
        (zgI 8 M v0 2).bind fun (y7 : Int32) =>
        (fp_X8_gather y5 y6 y7 M).bind fun (M8 : zM) =>
        (zgR 8 M8 v0 13).bind fun (y9 : Nat) =>
        (fp_X2_pointsOf y2).bind fun (y10 : Int32) =>
        (fp_X2_linesOf y2).bind fun (y11 : Int32) =>
        (fp_X8_anyBeginsWith y9 y10 y11 M8).bind fun (y12 : Int32) =>
        if y12 = 0 then (
          (fp_X10_answer v0 0 M8).bind fun p15 => zpp p15 fun (y13 : Int32) (M14 : zM) =>
          some (y13, M14))
        else (
          (fp_X10_answer v0 1 M8).bind fun p18 => zpp p18 fun (y16 : Int32) (M17 : zM) =>
          some (y16, M17)))
      else (
        (fp_X10_refuse v0 7 M).bind fun p21 => zpp p21 fun (y19 : Int32) (M20 : zM) =>
        some (y19, M20)))
    else (
      (fp_X10_refuse v0 y1 M).bind fun p24 => zpp p24 fun (y22 : Int32) (M23 : zM) =>
      some (y22, M23)))
set_option maxHeartbeats 4000000 in
set_option maxRecDepth 100000 in
theorem th_X10_within {v0 : Nat} {v1 : Int32} {M : zM} {x0 : Int32 × zM} (h : fp_X10_within v0 v1 M = some x0) : v0 < zS M ∧ kd v0 = 8 := by
  unfold fp_X10_within at h
  exact zthis_of h
set_option maxHeartbeats 4000000 in
set_option maxRecDepth 100000 in
theorem ct_X10_within (E : zEnv) (hE : zEok E) (d : Nat) (hd : 4 ≤ d) (v0 : Nat) (v1 : Int32) (M : zM) (x0 : Int32 × zM) (hx : fp_X10_within v0 v1 M = some x0) : zCt E mu_X10_within d [.ref (E.2.2.2.1 + v0), .int v1] M (some (.int x0.1), x0.2) := by
  refine zCt_of (μ := mu_X10_within) (t := fp_X10_within v0 v1 M) rfl rfl (Nat.le_of_ble_eq_true rfl) hx ?_
  change zSy E mu_X10_within d M (some (.int x0.1), x0.2) x0 (fp_X10_within v0 v1 M) 0 [(0, .ref (E.2.2.2.1 + v0)), (1, .int v1)] [] M
  unfold fp_X10_within
  refine zs_this (fun hth => ?_)
  refine zs_aload_n dX10_within_0 rfl 0 rfl ?_
  refine zs_iload_n dX10_within_1 rfl 1 rfl ?_
  refine zs_invVPI (rest := []) [.int v1] dX10_within_2 lk_X10_213 rfl (fun _ h => th_X10_badImage h) (zd1 rfl hd) rfl (Nat.le_of_ble_eq_true rfl) (ct_X10_badImage E hE _ (zdl rfl hd) _ _ _) (fun y1 => ?_)
  refine zs_istore_n (loc' := [(0, .ref (E.2.2.2.1 + v0)), (1, .int v1), (2, .int y1)]) dX10_within_5 rfl (Nat.le_of_ble_eq_true rfl) [1, 2, 0] rfl ?_
  refine zs_iload_n dX10_within_6 rfl 2 rfl ?_
  refine zs_if_eq dX10_within_7 rfl ?_ ?_
  · refine zs_aload_n dX10_within_16 rfl 0 rfl ?_
    refine zs_iload_n dX10_within_17 rfl 1 rfl ?_
    refine zs_invVPI (rest := []) [.int v1] dX10_within_18 lk_X10_216 rfl (fun _ h => th_X10_imageAt h) (zd1 rfl hd) rfl (Nat.le_of_ble_eq_true rfl) (ct_X10_imageAt E hE _ (zdl rfl hd) _ _ _) (fun y2 => ?_)
    refine zs_istore_n (loc' := [(0, .ref (E.2.2.2.1 + v0)), (3, .int y2)]) dX10_within_21 rfl (Nat.le_of_ble_eq_true rfl) [1, 0] rfl ?_
    refine zs_iload_n dX10_within_22 rfl 1 rfl ?_
    refine zs_invSPI (rest := []) [.int y2] dX10_within_23 lk_X10_204 rfl (zd1 rfl hd) rfl (Nat.le_of_ble_eq_true rfl) (ct_X2_pointsOf E hE _ (zdl rfl hd) _ _) (fun y3 => ?_)
    refine zs_aload_n dX10_within_26 rfl 0 rfl ?_
    refine zs_getI dX10_within_27 fl_X10_129 rfl (fun y4 => ?_)
    refine zs_icmp_le dX10_within_30 rfl ?_ ?_
    · refine zs_aload_n dX10_within_40 rfl 0 rfl ?_
      refine zs_getR dX10_within_41 fl_X10_70 rfl (fun y5 => ?_)
      refine zs_aload_n dX10_within_44 rfl 0 rfl ?_
      refine zs_getI dX10_within_45 fl_X10_129 rfl (fun y6 => ?_)
      refine zs_aload_n dX10_within_48 rfl 0 rfl ?_
      refine zs_getI dX10_within_49 fl_X10_136 rfl (fun y7 => ?_)
      refine zs_invVWV (rest := []) [.int y6, .int y7] dX10_within_52 lk_X10_162 rfl (fun _ h => th_X8_gather h) (zd1 rfl hd) rfl (Nat.le_of_ble_eq_true rfl) (ct_X8_gather E hE _ (zdl rfl hd) _ _ _ _) (fun M8 => ?_)
      refine zs_aload_n dX10_within_55 rfl 0 rfl ?_
      refine zs_getR dX10_within_56 fl_X10_70 rfl (fun y9 => ?_)
      refine zs_iload_n dX10_within_59 rfl 1 rfl ?_
      refine zs_invSPI (rest := [.ref (E.2.2.2.1 + y9)]) [.int y2] dX10_within_60 lk_X10_204 rfl (zd1 rfl hd) rfl (Nat.le_of_ble_eq_true rfl) (ct_X2_pointsOf E hE _ (zdl rfl hd) _ _) (fun y10 => ?_)
      refine zs_iload_n dX10_within_63 rfl 1 rfl ?_
      refine zs_invSPI (rest := [.int y10, .ref (E.2.2.2.1 + y9)]) [.int y2] dX10_within_64 lk_X10_207 rfl (zd1 rfl hd) rfl (Nat.le_of_ble_eq_true rfl) (ct_X2_linesOf E hE _ (zdl rfl hd) _ _) (fun y11 => ?_)
      refine zs_invVPI (rest := []) [.int y10, .int y11] dX10_within_67 lk_X10_361 rfl (fun _ h => th_X8_anyBeginsWith h) (zd1 rfl hd) rfl (Nat.le_of_ble_eq_true rfl) (ct_X8_anyBeginsWith E hE _ (zdl rfl hd) _ _ _ _) (fun y12 => ?_)
      refine zs_istore (loc' := [(0, .ref (E.2.2.2.1 + v0)), (4, .int y12)]) dX10_within_70 (Nat.le_of_ble_eq_true rfl) [1, 0] rfl ?_
      refine zs_aload_n dX10_within_72 rfl 0 rfl ?_
      refine zs_iload dX10_within_73 1 rfl ?_
      refine zs_if_eq dX10_within_75 rfl ?_ ?_
      · refine zs_iconst (v := 0) dX10_within_82 ciconst_0 ?_
        refine zs_invVWI (rest := []) [.int 0] dX10_within_83 lk_X10_130 rfl (fun _ h => th_X10_answer h) (zd1 rfl hd) rfl (Nat.le_of_ble_eq_true rfl) (ct_X10_answer E hE _ (zdl rfl hd) _ _ _) (fun y13 M14 => ?_)
        exact zs_iretW dX10_within_86 rfl
      refine zs_iconst (v := 1) dX10_within_78 ciconst_1 ?_
      refine zs_goto dX10_within_79 rfl ?_
      refine zs_invVWI (rest := []) [.int 1] dX10_within_83 lk_X10_130 rfl (fun _ h => th_X10_answer h) (zd1 rfl hd) rfl (Nat.le_of_ble_eq_true rfl) (ct_X10_answer E hE _ (zdl rfl hd) _ _ _) (fun y16 M17 => ?_)
      exact zs_iretW dX10_within_86 rfl
    refine zs_aload_n dX10_within_33 rfl 0 rfl ?_
    refine zs_bipush (v := 7) dX10_within_34 cbipush_7 ?_
    refine zs_invVWI (rest := []) [.int 7] dX10_within_36 lk_X10_102 rfl (fun _ h => th_X10_refuse h) (zd1 rfl hd) rfl (Nat.le_of_ble_eq_true rfl) (ct_X10_refuse E hE _ (zdl rfl hd) _ _ _) (fun y19 M20 => ?_)
    exact zs_iretW dX10_within_39 rfl
  refine zs_aload_n dX10_within_10 rfl 0 rfl ?_
  refine zs_iload_n dX10_within_11 rfl 2 rfl ?_
  refine zs_invVWI (rest := []) [.int y1] dX10_within_12 lk_X10_102 rfl (fun _ h => th_X10_refuse h) (zd1 rfl hd) rfl (Nat.le_of_ble_eq_true rfl) (ct_X10_refuse E hE _ (zdl rfl hd) _ _ _) (fun y22 M23 => ?_)
  exact zs_iretW dX10_within_15 rfl
theorem dX10_shuffle_0 : decode cX10_shuffle 0 = .ok (.iload_n 1, 1) := by decide +kernel
theorem dX10_shuffle_1 : decode cX10_shuffle 1 = .ok (.ifCond .lt 20, 3) := by decide +kernel
theorem dX10_shuffle_4 : decode cX10_shuffle 4 = .ok (.iload_n 1, 1) := by decide +kernel
theorem dX10_shuffle_5 : decode cX10_shuffle 5 = .ok (.sipush 9999, 3) := by decide +kernel
theorem dX10_shuffle_8 : decode cX10_shuffle 8 = .ok (.if_icmp .gt 13, 3) := by decide +kernel
theorem dX10_shuffle_11 : decode cX10_shuffle 11 = .ok (.iload_n 2, 1) := by decide +kernel
theorem dX10_shuffle_12 : decode cX10_shuffle 12 = .ok (.ifCond .lt 9, 3) := by decide +kernel
theorem dX10_shuffle_15 : decode cX10_shuffle 15 = .ok (.iload_n 2, 1) := by decide +kernel
theorem dX10_shuffle_16 : decode cX10_shuffle 16 = .ok (.bipush 7, 2) := by decide +kernel
theorem dX10_shuffle_18 : decode cX10_shuffle 18 = .ok (.if_icmp .le 9, 3) := by decide +kernel
theorem dX10_shuffle_21 : decode cX10_shuffle 21 = .ok (.aload_n 0, 1) := by decide +kernel
theorem dX10_shuffle_22 : decode cX10_shuffle 22 = .ok (.iconst 1, 1) := by decide +kernel
theorem dX10_shuffle_23 : decode cX10_shuffle 23 = .ok (.invokevirtual 102, 3) := by decide +kernel
theorem dX10_shuffle_26 : decode cX10_shuffle 26 = .ok (.ireturn, 1) := by decide +kernel
theorem dX10_shuffle_27 : decode cX10_shuffle 27 = .ok (.aload_n 0, 1) := by decide +kernel
theorem dX10_shuffle_28 : decode cX10_shuffle 28 = .ok (.getfield 77, 3) := by decide +kernel
theorem dX10_shuffle_31 : decode cX10_shuffle 31 = .ok (.iload_n 1, 1) := by decide +kernel
theorem dX10_shuffle_32 : decode cX10_shuffle 32 = .ok (.invokevirtual 364, 3) := by decide +kernel
theorem dX10_shuffle_35 : decode cX10_shuffle 35 = .ok (.aload_n 0, 1) := by decide +kernel
theorem dX10_shuffle_36 : decode cX10_shuffle 36 = .ok (.iload_n 2, 1) := by decide +kernel
theorem dX10_shuffle_37 : decode cX10_shuffle 37 = .ok (.aload_n 0, 1) := by decide +kernel
theorem dX10_shuffle_38 : decode cX10_shuffle 38 = .ok (.getfield 77, 3) := by decide +kernel
theorem dX10_shuffle_41 : decode cX10_shuffle 41 = .ok (.iload_n 2, 1) := by decide +kernel
theorem dX10_shuffle_42 : decode cX10_shuffle 42 = .ok (.invokevirtual 367, 3) := by decide +kernel
theorem dX10_shuffle_45 : decode cX10_shuffle 45 = .ok (.invokevirtual 125, 3) := by decide +kernel
theorem dX10_shuffle_48 : decode cX10_shuffle 48 = .ok (.aload_n 0, 1) := by decide +kernel
theorem dX10_shuffle_49 : decode cX10_shuffle 49 = .ok (.aload_n 0, 1) := by decide +kernel
theorem dX10_shuffle_50 : decode cX10_shuffle 50 = .ok (.getfield 136, 3) := by decide +kernel
theorem dX10_shuffle_53 : decode cX10_shuffle 53 = .ok (.invokestatic 137, 3) := by decide +kernel
theorem dX10_shuffle_56 : decode cX10_shuffle 56 = .ok (.invokevirtual 130, 3) := by decide +kernel
theorem dX10_shuffle_59 : decode cX10_shuffle 59 = .ok (.ireturn, 1) := by decide +kernel
def fp_X10_shuffle (v0 : Nat) (v1 : Int32) (v2 : Int32) (M : zM) : Option (Int32 × zM) :=
  zthis 8 M v0 (
    if v1 < 0 then (
      (fp_X10_refuse v0 1 M).bind fun p3 => zpp p3 fun (y1 : Int32) (M2 : zM) =>
      some (y1, M2))
    else (
      if v1 > 9999 then (
        (fp_X10_refuse v0 1 M).bind fun p6 => zpp p6 fun (y4 : Int32) (M5 : zM) =>
        some (y4, M5))
      else (
        if v2 < 0 then (
          (fp_X10_refuse v0 1 M).bind fun p9 => zpp p9 fun (y7 : Int32) (M8 : zM) =>
          some (y7, M8))
        else (
          if v2 ≤ 7 then (
            (zgR 8 M v0 14).bind fun (y10 : Nat) =>
            (fp_X0_begin y10 v1 M).bind fun (M11 : zM) =>
            (zgR 8 M11 v0 14).bind fun (y12 : Nat) =>
            (fp_X0_drawnLines y12 v2 M11).bind fun p15 => zpp p15 fun (y13 : Int32) (M14 : zM) =>
            (fp_X10_become v0 v2 y13 M14).bind fun (M16 : zM) =>
            (zgI 8 M16 v0 2).bind fun (y17 : Int32) =>
            (fp_J6_bitCount_0f7a4 y17).bind fun (y18 : Int32) =>
            (fp_X10_answer v0 y18 M16).bind fun p21 => zpp p21 fun (y19 : Int32) (M20 : zM) =>
            some (y19, M20))
          else (
            (fp_X10_refuse v0 1 M).bind fun p24 => zpp p24 fun (y22 : Int32) (M23 : zM) =>
            some (y22, M23))))))
set_option maxHeartbeats 4000000 in
set_option maxRecDepth 100000 in
theorem th_X10_shuffle {v0 : Nat} {v1 : Int32} {v2 : Int32} {M : zM} {x0 : Int32 × zM} (h : fp_X10_shuffle v0 v1 v2 M = some x0) : v0 < zS M ∧ kd v0 = 8 := by
  unfold fp_X10_shuffle at h
  exact zthis_of h
set_option maxHeartbeats 4000000 in
set_option maxRecDepth 100000 in
theorem ct_X10_shuffle (E : zEnv) (hE : zEok E) (d : Nat) (hd : 4 ≤ d) (v0 : Nat) (v1 : Int32) (v2 : Int32) (M : zM) (x0 : Int32 × zM) (hx : fp_X10_shuffle v0 v1 v2 M = some x0) : zCt E mu_X10_shuffle d [.ref (E.2.2.2.1 + v0), .int v1, .int v2] M (some (.int x0.1), x0.2) := by
  refine zCt_of (μ := mu_X10_shuffle) (t := fp_X10_shuffle v0 v1 v2 M) rfl rfl (Nat.le_of_ble_eq_true rfl) hx ?_
  change zSy E mu_X10_shuffle d M (some (.int x0.1), x0.2) x0 (fp_X10_shuffle v0 v1 v2 M) 0 [(0, .ref (E.2.2.2.1 + v0)), (1, .int v1), (2, .int v2)] [] M
  unfold fp_X10_shuffle
  refine zs_this (fun hth => ?_)
  refine zs_iload_n dX10_shuffle_0 rfl 1 rfl ?_
  refine zs_if_lt dX10_shuffle_1 rfl ?_ ?_
  · refine zs_aload_n dX10_shuffle_21 rfl 0 rfl ?_
    refine zs_iconst (v := 1) dX10_shuffle_22 ciconst_1 ?_
    refine zs_invVWI (rest := []) [.int 1] dX10_shuffle_23 lk_X10_102 rfl (fun _ h => th_X10_refuse h) (zd1 rfl hd) rfl (Nat.le_of_ble_eq_true rfl) (ct_X10_refuse E hE _ (zdl rfl hd) _ _ _) (fun y1 M2 => ?_)
    exact zs_iretW dX10_shuffle_26 rfl
  refine zs_iload_n dX10_shuffle_4 rfl 1 rfl ?_
  refine zs_sipush (v := 9999) dX10_shuffle_5 csipush_9999 ?_
  refine zs_icmp_gt dX10_shuffle_8 rfl ?_ ?_
  · refine zs_aload_n dX10_shuffle_21 rfl 0 rfl ?_
    refine zs_iconst (v := 1) dX10_shuffle_22 ciconst_1 ?_
    refine zs_invVWI (rest := []) [.int 1] dX10_shuffle_23 lk_X10_102 rfl (fun _ h => th_X10_refuse h) (zd1 rfl hd) rfl (Nat.le_of_ble_eq_true rfl) (ct_X10_refuse E hE _ (zdl rfl hd) _ _ _) (fun y4 M5 => ?_)
    exact zs_iretW dX10_shuffle_26 rfl
  refine zs_iload_n dX10_shuffle_11 rfl 2 rfl ?_
  refine zs_if_lt dX10_shuffle_12 rfl ?_ ?_
  · refine zs_aload_n dX10_shuffle_21 rfl 0 rfl ?_
    refine zs_iconst (v := 1) dX10_shuffle_22 ciconst_1 ?_
    refine zs_invVWI (rest := []) [.int 1] dX10_shuffle_23 lk_X10_102 rfl (fun _ h => th_X10_refuse h) (zd1 rfl hd) rfl (Nat.le_of_ble_eq_true rfl) (ct_X10_refuse E hE _ (zdl rfl hd) _ _ _) (fun y7 M8 => ?_)
    exact zs_iretW dX10_shuffle_26 rfl
  refine zs_iload_n dX10_shuffle_15 rfl 2 rfl ?_
  refine zs_bipush (v := 7) dX10_shuffle_16 cbipush_7 ?_
  refine zs_icmp_le dX10_shuffle_18 rfl ?_ ?_
  · refine zs_aload_n dX10_shuffle_27 rfl 0 rfl ?_
    refine zs_getR dX10_shuffle_28 fl_X10_77 rfl (fun y10 => ?_)
    refine zs_iload_n dX10_shuffle_31 rfl 1 rfl ?_
    refine zs_invVWV (rest := []) [.int v1] dX10_shuffle_32 lk_X10_364 rfl (fun _ h => th_X0_begin h) (zd1 rfl hd) rfl (Nat.le_of_ble_eq_true rfl) (ct_X0_begin E hE _ (zdl rfl hd) _ _ _) (fun M11 => ?_)
    refine zs_aload_n dX10_shuffle_35 rfl 0 rfl ?_
    refine zs_iload_n dX10_shuffle_36 rfl 2 rfl ?_
    refine zs_aload_n dX10_shuffle_37 rfl 0 rfl ?_
    refine zs_getR dX10_shuffle_38 fl_X10_77 rfl (fun y12 => ?_)
    refine zs_iload_n dX10_shuffle_41 rfl 2 rfl ?_
    refine zs_invVWI (rest := [.int v2, .ref (E.2.2.2.1 + v0)]) [.int v2] dX10_shuffle_42 lk_X10_367 rfl (fun _ h => th_X0_drawnLines h) (zd1 rfl hd) rfl (Nat.le_of_ble_eq_true rfl) (ct_X0_drawnLines E hE _ (zdl rfl hd) _ _ _) (fun y13 M14 => ?_)
    refine zs_invVWV (rest := []) [.int v2, .int y13] dX10_shuffle_45 lk_X10_125 rfl (fun _ h => th_X10_become h) (zd1 rfl hd) rfl (Nat.le_of_ble_eq_true rfl) (ct_X10_become E hE _ (zdl rfl hd) _ _ _ _) (fun M16 => ?_)
    refine zs_aload_n dX10_shuffle_48 rfl 0 rfl ?_
    refine zs_aload_n dX10_shuffle_49 rfl 0 rfl ?_
    refine zs_getI dX10_shuffle_50 fl_X10_136 rfl (fun y17 => ?_)
    refine zs_invSPI (rest := [.ref (E.2.2.2.1 + v0)]) [.int y17] dX10_shuffle_53 lk_X10_137 rfl (zd1 rfl hd) rfl (Nat.le_of_ble_eq_true rfl) (ct_J6_bitCount_0f7a4 E hE _ (zdl rfl hd) _ _) (fun y18 => ?_)
    refine zs_invVWI (rest := []) [.int y18] dX10_shuffle_56 lk_X10_130 rfl (fun _ h => th_X10_answer h) (zd1 rfl hd) rfl (Nat.le_of_ble_eq_true rfl) (ct_X10_answer E hE _ (zdl rfl hd) _ _ _) (fun y19 M20 => ?_)
    exact zs_iretW dX10_shuffle_59 rfl
  refine zs_aload_n dX10_shuffle_21 rfl 0 rfl ?_
  refine zs_iconst (v := 1) dX10_shuffle_22 ciconst_1 ?_
  refine zs_invVWI (rest := []) [.int 1] dX10_shuffle_23 lk_X10_102 rfl (fun _ h => th_X10_refuse h) (zd1 rfl hd) rfl (Nat.le_of_ble_eq_true rfl) (ct_X10_refuse E hE _ (zdl rfl hd) _ _ _) (fun y22 M23 => ?_)
  exact zs_iretW dX10_shuffle_26 rfl
theorem dX10_sample_0 : decode cX10_sample 0 = .ok (.iload_n 1, 1) := by decide +kernel
theorem dX10_sample_1 : decode cX10_sample 1 = .ok (.ifCond .lt 20, 3) := by decide +kernel
theorem dX10_sample_4 : decode cX10_sample 4 = .ok (.iload_n 1, 1) := by decide +kernel
theorem dX10_sample_5 : decode cX10_sample 5 = .ok (.sipush 9999, 3) := by decide +kernel
theorem dX10_sample_8 : decode cX10_sample 8 = .ok (.if_icmp .gt 13, 3) := by decide +kernel
theorem dX10_sample_11 : decode cX10_sample 11 = .ok (.iload_n 2, 1) := by decide +kernel
theorem dX10_sample_12 : decode cX10_sample 12 = .ok (.ifCond .lt 9, 3) := by decide +kernel
theorem dX10_sample_15 : decode cX10_sample 15 = .ok (.iload_n 2, 1) := by decide +kernel
theorem dX10_sample_16 : decode cX10_sample 16 = .ok (.bipush 7, 2) := by decide +kernel
theorem dX10_sample_18 : decode cX10_sample 18 = .ok (.if_icmp .le 9, 3) := by decide +kernel
theorem dX10_sample_21 : decode cX10_sample 21 = .ok (.aload_n 0, 1) := by decide +kernel
theorem dX10_sample_22 : decode cX10_sample 22 = .ok (.iconst 1, 1) := by decide +kernel
theorem dX10_sample_23 : decode cX10_sample 23 = .ok (.invokevirtual 102, 3) := by decide +kernel
theorem dX10_sample_26 : decode cX10_sample 26 = .ok (.ireturn, 1) := by decide +kernel
theorem dX10_sample_27 : decode cX10_sample 27 = .ok (.iload_n 3, 1) := by decide +kernel
theorem dX10_sample_28 : decode cX10_sample 28 = .ok (.iconst 1, 1) := by decide +kernel
theorem dX10_sample_29 : decode cX10_sample 29 = .ok (.if_icmp .lt 20, 3) := by decide +kernel
theorem dX10_sample_32 : decode cX10_sample 32 = .ok (.iload_n 3, 1) := by decide +kernel
theorem dX10_sample_33 : decode cX10_sample 33 = .ok (.bipush 40, 2) := by decide +kernel
theorem dX10_sample_35 : decode cX10_sample 35 = .ok (.if_icmp .gt 14, 3) := by decide +kernel
theorem dX10_sample_38 : decode cX10_sample 38 = .ok (.iload 4, 2) := by decide +kernel
theorem dX10_sample_40 : decode cX10_sample 40 = .ok (.ifCond .lt 9, 3) := by decide +kernel
theorem dX10_sample_43 : decode cX10_sample 43 = .ok (.iload 4, 2) := by decide +kernel
theorem dX10_sample_45 : decode cX10_sample 45 = .ok (.iconst 3, 1) := by decide +kernel
theorem dX10_sample_46 : decode cX10_sample 46 = .ok (.if_icmp .le 9, 3) := by decide +kernel
theorem dX10_sample_49 : decode cX10_sample 49 = .ok (.aload_n 0, 1) := by decide +kernel
theorem dX10_sample_50 : decode cX10_sample 50 = .ok (.iconst 1, 1) := by decide +kernel
theorem dX10_sample_51 : decode cX10_sample 51 = .ok (.invokevirtual 102, 3) := by decide +kernel
theorem dX10_sample_54 : decode cX10_sample 54 = .ok (.ireturn, 1) := by decide +kernel
theorem dX10_sample_55 : decode cX10_sample 55 = .ok (.aload_n 0, 1) := by decide +kernel
theorem dX10_sample_56 : decode cX10_sample 56 = .ok (.getfield 77, 3) := by decide +kernel
theorem dX10_sample_59 : decode cX10_sample 59 = .ok (.iload_n 1, 1) := by decide +kernel
theorem dX10_sample_60 : decode cX10_sample 60 = .ok (.invokevirtual 364, 3) := by decide +kernel
theorem dX10_sample_63 : decode cX10_sample 63 = .ok (.aload_n 0, 1) := by decide +kernel
theorem dX10_sample_64 : decode cX10_sample 64 = .ok (.getfield 77, 3) := by decide +kernel
theorem dX10_sample_67 : decode cX10_sample 67 = .ok (.iload_n 2, 1) := by decide +kernel
theorem dX10_sample_68 : decode cX10_sample 68 = .ok (.iload_n 3, 1) := by decide +kernel
theorem dX10_sample_69 : decode cX10_sample 69 = .ok (.invokevirtual 370, 3) := by decide +kernel
theorem dX10_sample_72 : decode cX10_sample 72 = .ok (.iload 4, 2) := by decide +kernel
theorem dX10_sample_74 : decode cX10_sample 74 = .ok (.tableswitch 62 0 2 #[26, 38, 50], 26) := by decide +kernel
theorem dX10_sample_100 : decode cX10_sample 100 = .ok (.aload_n 0, 1) := by decide +kernel
theorem dX10_sample_101 : decode cX10_sample 101 = .ok (.aload_n 0, 1) := by decide +kernel
theorem dX10_sample_102 : decode cX10_sample 102 = .ok (.getfield 77, 3) := by decide +kernel
theorem dX10_sample_105 : decode cX10_sample 105 = .ok (.getfield 372, 3) := by decide +kernel
theorem dX10_sample_108 : decode cX10_sample 108 = .ok (.invokevirtual 130, 3) := by decide +kernel
theorem dX10_sample_111 : decode cX10_sample 111 = .ok (.ireturn, 1) := by decide +kernel
theorem dX10_sample_112 : decode cX10_sample 112 = .ok (.aload_n 0, 1) := by decide +kernel
theorem dX10_sample_113 : decode cX10_sample 113 = .ok (.aload_n 0, 1) := by decide +kernel
theorem dX10_sample_114 : decode cX10_sample 114 = .ok (.getfield 77, 3) := by decide +kernel
theorem dX10_sample_117 : decode cX10_sample 117 = .ok (.getfield 375, 3) := by decide +kernel
theorem dX10_sample_120 : decode cX10_sample 120 = .ok (.invokevirtual 130, 3) := by decide +kernel
theorem dX10_sample_123 : decode cX10_sample 123 = .ok (.ireturn, 1) := by decide +kernel
theorem dX10_sample_124 : decode cX10_sample 124 = .ok (.aload_n 0, 1) := by decide +kernel
theorem dX10_sample_125 : decode cX10_sample 125 = .ok (.aload_n 0, 1) := by decide +kernel
theorem dX10_sample_126 : decode cX10_sample 126 = .ok (.getfield 77, 3) := by decide +kernel
theorem dX10_sample_129 : decode cX10_sample 129 = .ok (.getfield 378, 3) := by decide +kernel
theorem dX10_sample_132 : decode cX10_sample 132 = .ok (.invokevirtual 130, 3) := by decide +kernel
theorem dX10_sample_135 : decode cX10_sample 135 = .ok (.ireturn, 1) := by decide +kernel
theorem dX10_sample_136 : decode cX10_sample 136 = .ok (.aload_n 0, 1) := by decide +kernel
theorem dX10_sample_137 : decode cX10_sample 137 = .ok (.aload_n 0, 1) := by decide +kernel
theorem dX10_sample_138 : decode cX10_sample 138 = .ok (.getfield 77, 3) := by decide +kernel
theorem dX10_sample_141 : decode cX10_sample 141 = .ok (.getfield 372, 3) := by decide +kernel
theorem dX10_sample_144 : decode cX10_sample 144 = .ok (.iload_n 3, 1) := by decide +kernel
theorem dX10_sample_145 : decode cX10_sample 145 = .ok (.iconst 0, 1) := by decide +kernel
theorem dX10_sample_146 : decode cX10_sample 146 = .ok (.iload_n 2, 1) := by decide +kernel
theorem dX10_sample_147 : decode cX10_sample 147 = .ok (.invokestatic 174, 3) := by decide +kernel
theorem dX10_sample_150 : decode cX10_sample 150 = .ok (.imul, 1) := by decide +kernel
theorem dX10_sample_151 : decode cX10_sample 151 = .ok (.iconst 0, 1) := by decide +kernel
theorem dX10_sample_152 : decode cX10_sample 152 = .ok (.invokestatic 381, 3) := by decide +kernel
theorem dX10_sample_155 : decode cX10_sample 155 = .ok (.invokestatic 297, 3) := by decide +kernel
theorem dX10_sample_158 : decode cX10_sample 158 = .ok (.invokevirtual 130, 3) := by decide +kernel
theorem dX10_sample_161 : decode cX10_sample 161 = .ok (.ireturn, 1) := by decide +kernel
def fp_X10_sample (v0 : Nat) (v1 : Int32) (v2 : Int32) (v3 : Int32) (v4 : Int32) (M : zM) : Option (Int32 × zM) :=
  zthis 8 M v0 (
    if v1 < 0 then (
      (fp_X10_refuse v0 1 M).bind fun p3 => zpp p3 fun (y1 : Int32) (M2 : zM) =>
      some (y1, M2))
    else (
      if v1 > 9999 then (
        (fp_X10_refuse v0 1 M).bind fun p6 => zpp p6 fun (y4 : Int32) (M5 : zM) =>
        some (y4, M5))
      else (
        if v2 < 0 then (
          (fp_X10_refuse v0 1 M).bind fun p9 => zpp p9 fun (y7 : Int32) (M8 : zM) =>
          some (y7, M8))
        else (
          if v2 ≤ 7 then (
            if v3 < 1 then (
              (fp_X10_refuse v0 1 M).bind fun p12 => zpp p12 fun (y10 : Int32) (M11 : zM) =>
              some (y10, M11))
            else (
              if v3 > 40 then (
                (fp_X10_refuse v0 1 M).bind fun p15 => zpp p15 fun (y13 : Int32) (M14 : zM) =>
                some (y13, M14))
              else (
                if v4 < 0 then (
                  (fp_X10_refuse v0 1 M).bind fun p18 => zpp p18 fun (y16 : Int32) (M17 : zM) =>
                  some (y16, M17))
                else (
                  if v4 ≤ 3 then (
                    (zgR 8 M v0 14).bind fun (y19 : Nat) =>
                    (fp_X0_begin y19 v1 M).bind fun (M20 : zM) =>
                    (zgR 8 M20 v0 14).bind fun (y21 : Nat) =>
                    (fp_X0_count y21 v2 v3 M20).bind fun (M22 : zM) =>
                    if v4 = 0 then (
                      (zgR 8 M22 v0 14).bind fun (y23 : Nat) =>
                      (zgI 0 M22 y23 0).bind fun (y24 : Int32) =>
                      (fp_X10_answer v0 y24 M22).bind fun p27 => zpp p27 fun (y25 : Int32) (M26 : zM) =>
                      some (y25, M26))
                    else if v4 = 1 then (
                      (zgR 8 M22 v0 14).bind fun (y29 : Nat) =>
                      (zgI 0 M22 y29 1).bind fun (y30 : Int32) =>
                      (fp_X10_answer v0 y30 M22).bind fun p33 => zpp p33 fun (y31 : Int32) (M32 : zM) =>
                      some (y31, M32))
                    else if v4 = 2 then (
                      (zgR 8 M22 v0 14).bind fun (y35 : Nat) =>
                      (zgI 0 M22 y35 2).bind fun (y36 : Int32) =>
                      (fp_X10_answer v0 y36 M22).bind fun p39 => zpp p39 fun (y37 : Int32) (M38 : zM) =>
                      some (y37, M38))
                    else (
                      (zgR 8 M22 v0 14).bind fun (y41 : Nat) =>
                      (zgI 0 M22 y41 0).bind fun (y42 : Int32) =>
                      (fp_X2_pair 0 v2).bind fun (y43 : Int32) =>
                      (fp_X10_ratio y42 (v3 * y43) 0).bind fun (y44 : UInt32) =>
                      (fp_X10_bitsOf y44).bind fun (y45 : Int32) =>
                      (fp_X10_answer v0 y45 M22).bind fun p48 => zpp p48 fun (y46 : Int32) (M47 : zM) =>
                      some (y46, M47)))
                  else (
                    (fp_X10_refuse v0 1 M).bind fun p51 => zpp p51 fun (y49 : Int32) (M50 : zM) =>
                    some (y49, M50))))))
          else (
            (fp_X10_refuse v0 1 M).bind fun p54 => zpp p54 fun (y52 : Int32) (M53 : zM) =>
            some (y52, M53))))))
set_option maxHeartbeats 4000000 in
set_option maxRecDepth 100000 in
theorem th_X10_sample {v0 : Nat} {v1 : Int32} {v2 : Int32} {v3 : Int32} {v4 : Int32} {M : zM} {x0 : Int32 × zM} (h : fp_X10_sample v0 v1 v2 v3 v4 M = some x0) : v0 < zS M ∧ kd v0 = 8 := by
  unfold fp_X10_sample at h
  exact zthis_of h
set_option maxHeartbeats 4000000 in
set_option maxRecDepth 100000 in
theorem ct_X10_sample (E : zEnv) (hE : zEok E) (d : Nat) (hd : 7 ≤ d) (v0 : Nat) (v1 : Int32) (v2 : Int32) (v3 : Int32) (v4 : Int32) (M : zM) (x0 : Int32 × zM) (hx : fp_X10_sample v0 v1 v2 v3 v4 M = some x0) : zCt E mu_X10_sample d [.ref (E.2.2.2.1 + v0), .int v1, .int v2, .int v3, .int v4] M (some (.int x0.1), x0.2) := by
  refine zCt_of (μ := mu_X10_sample) (t := fp_X10_sample v0 v1 v2 v3 v4 M) rfl rfl (Nat.le_of_ble_eq_true rfl) hx ?_
  change zSy E mu_X10_sample d M (some (.int x0.1), x0.2) x0 (fp_X10_sample v0 v1 v2 v3 v4 M) 0 [(0, .ref (E.2.2.2.1 + v0)), (1, .int v1), (2, .int v2), (3, .int v3), (4, .int v4)] [] M
  unfold fp_X10_sample
  refine zs_this (fun hth => ?_)
  refine zs_iload_n dX10_sample_0 rfl 1 rfl ?_
  refine zs_if_lt dX10_sample_1 rfl ?_ ?_
  · refine zs_aload_n dX10_sample_21 rfl 0 rfl ?_
    refine zs_iconst (v := 1) dX10_sample_22 ciconst_1 ?_
    refine zs_invVWI (rest := []) [.int 1] dX10_sample_23 lk_X10_102 rfl (fun _ h => th_X10_refuse h) (zd1 rfl hd) rfl (Nat.le_of_ble_eq_true rfl) (ct_X10_refuse E hE _ (zdl rfl hd) _ _ _) (fun y1 M2 => ?_)
    exact zs_iretW dX10_sample_26 rfl
  refine zs_iload_n dX10_sample_4 rfl 1 rfl ?_
  refine zs_sipush (v := 9999) dX10_sample_5 csipush_9999 ?_
  refine zs_icmp_gt dX10_sample_8 rfl ?_ ?_
  · refine zs_aload_n dX10_sample_21 rfl 0 rfl ?_
    refine zs_iconst (v := 1) dX10_sample_22 ciconst_1 ?_
    refine zs_invVWI (rest := []) [.int 1] dX10_sample_23 lk_X10_102 rfl (fun _ h => th_X10_refuse h) (zd1 rfl hd) rfl (Nat.le_of_ble_eq_true rfl) (ct_X10_refuse E hE _ (zdl rfl hd) _ _ _) (fun y4 M5 => ?_)
    exact zs_iretW dX10_sample_26 rfl
  refine zs_iload_n dX10_sample_11 rfl 2 rfl ?_
  refine zs_if_lt dX10_sample_12 rfl ?_ ?_
  · refine zs_aload_n dX10_sample_21 rfl 0 rfl ?_
    refine zs_iconst (v := 1) dX10_sample_22 ciconst_1 ?_
    refine zs_invVWI (rest := []) [.int 1] dX10_sample_23 lk_X10_102 rfl (fun _ h => th_X10_refuse h) (zd1 rfl hd) rfl (Nat.le_of_ble_eq_true rfl) (ct_X10_refuse E hE _ (zdl rfl hd) _ _ _) (fun y7 M8 => ?_)
    exact zs_iretW dX10_sample_26 rfl
  refine zs_iload_n dX10_sample_15 rfl 2 rfl ?_
  refine zs_bipush (v := 7) dX10_sample_16 cbipush_7 ?_
  refine zs_icmp_le dX10_sample_18 rfl ?_ ?_
  · refine zs_iload_n dX10_sample_27 rfl 3 rfl ?_
    refine zs_iconst (v := 1) dX10_sample_28 ciconst_1 ?_
    refine zs_icmp_lt dX10_sample_29 rfl ?_ ?_
    · refine zs_aload_n dX10_sample_49 rfl 0 rfl ?_
      refine zs_iconst (v := 1) dX10_sample_50 ciconst_1 ?_
      refine zs_invVWI (rest := []) [.int 1] dX10_sample_51 lk_X10_102 rfl (fun _ h => th_X10_refuse h) (zd1 rfl hd) rfl (Nat.le_of_ble_eq_true rfl) (ct_X10_refuse E hE _ (zdl rfl hd) _ _ _) (fun y10 M11 => ?_)
      exact zs_iretW dX10_sample_54 rfl
    refine zs_iload_n dX10_sample_32 rfl 3 rfl ?_
    refine zs_bipush (v := 40) dX10_sample_33 cbipush_40 ?_
    refine zs_icmp_gt dX10_sample_35 rfl ?_ ?_
    · refine zs_aload_n dX10_sample_49 rfl 0 rfl ?_
      refine zs_iconst (v := 1) dX10_sample_50 ciconst_1 ?_
      refine zs_invVWI (rest := []) [.int 1] dX10_sample_51 lk_X10_102 rfl (fun _ h => th_X10_refuse h) (zd1 rfl hd) rfl (Nat.le_of_ble_eq_true rfl) (ct_X10_refuse E hE _ (zdl rfl hd) _ _ _) (fun y13 M14 => ?_)
      exact zs_iretW dX10_sample_54 rfl
    refine zs_iload dX10_sample_38 4 rfl ?_
    refine zs_if_lt dX10_sample_40 rfl ?_ ?_
    · refine zs_aload_n dX10_sample_49 rfl 0 rfl ?_
      refine zs_iconst (v := 1) dX10_sample_50 ciconst_1 ?_
      refine zs_invVWI (rest := []) [.int 1] dX10_sample_51 lk_X10_102 rfl (fun _ h => th_X10_refuse h) (zd1 rfl hd) rfl (Nat.le_of_ble_eq_true rfl) (ct_X10_refuse E hE _ (zdl rfl hd) _ _ _) (fun y16 M17 => ?_)
      exact zs_iretW dX10_sample_54 rfl
    refine zs_iload dX10_sample_43 4 rfl ?_
    refine zs_iconst (v := 3) dX10_sample_45 ciconst_3 ?_
    refine zs_icmp_le dX10_sample_46 rfl ?_ ?_
    · refine zs_aload_n dX10_sample_55 rfl 0 rfl ?_
      refine zs_getR dX10_sample_56 fl_X10_77 rfl (fun y19 => ?_)
      refine zs_iload_n dX10_sample_59 rfl 1 rfl ?_
      refine zs_invVWV (rest := []) [.int v1] dX10_sample_60 lk_X10_364 rfl (fun _ h => th_X0_begin h) (zd1 rfl hd) rfl (Nat.le_of_ble_eq_true rfl) (ct_X0_begin E hE _ (zdl rfl hd) _ _ _) (fun M20 => ?_)
      refine zs_aload_n dX10_sample_63 rfl 0 rfl ?_
      refine zs_getR dX10_sample_64 fl_X10_77 rfl (fun y21 => ?_)
      refine zs_iload_n dX10_sample_67 rfl 2 rfl ?_
      refine zs_iload_n dX10_sample_68 rfl 3 rfl ?_
      refine zs_invVWV (rest := []) [.int v2, .int v3] dX10_sample_69 lk_X10_370 rfl (fun _ h => th_X0_count h) (zd1 rfl hd) rfl (Nat.le_of_ble_eq_true rfl) (ct_X0_count E hE _ (zdl rfl hd) _ _ _ _) (fun M22 => ?_)
      refine zs_iload dX10_sample_72 4 rfl ?_
      refine zs_ite (fun hc28 => ?_) (fun hc28 => ?_)
      · refine zs_tsw dX10_sample_74 hc28 (by decide) (by decide) (by rfl) rfl ?_
        refine zs_aload_n dX10_sample_100 rfl 0 rfl ?_
        refine zs_aload_n dX10_sample_101 rfl 0 rfl ?_
        refine zs_getR dX10_sample_102 fl_X10_77 rfl (fun y23 => ?_)
        refine zs_getI dX10_sample_105 fl_X10_372 rfl (fun y24 => ?_)
        refine zs_invVWI (rest := []) [.int y24] dX10_sample_108 lk_X10_130 rfl (fun _ h => th_X10_answer h) (zd1 rfl hd) rfl (Nat.le_of_ble_eq_true rfl) (ct_X10_answer E hE _ (zdl rfl hd) _ _ _) (fun y25 M26 => ?_)
        exact zs_iretW dX10_sample_111 rfl
      refine zs_ite (fun hc34 => ?_) (fun hc34 => ?_)
      · refine zs_tsw dX10_sample_74 hc34 (by decide) (by decide) (by rfl) rfl ?_
        refine zs_aload_n dX10_sample_112 rfl 0 rfl ?_
        refine zs_aload_n dX10_sample_113 rfl 0 rfl ?_
        refine zs_getR dX10_sample_114 fl_X10_77 rfl (fun y29 => ?_)
        refine zs_getI dX10_sample_117 fl_X10_375 rfl (fun y30 => ?_)
        refine zs_invVWI (rest := []) [.int y30] dX10_sample_120 lk_X10_130 rfl (fun _ h => th_X10_answer h) (zd1 rfl hd) rfl (Nat.le_of_ble_eq_true rfl) (ct_X10_answer E hE _ (zdl rfl hd) _ _ _) (fun y31 M32 => ?_)
        exact zs_iretW dX10_sample_123 rfl
      refine zs_ite (fun hc40 => ?_) (fun hc40 => ?_)
      · refine zs_tsw dX10_sample_74 hc40 (by decide) (by decide) (by rfl) rfl ?_
        refine zs_aload_n dX10_sample_124 rfl 0 rfl ?_
        refine zs_aload_n dX10_sample_125 rfl 0 rfl ?_
        refine zs_getR dX10_sample_126 fl_X10_77 rfl (fun y35 => ?_)
        refine zs_getI dX10_sample_129 fl_X10_378 rfl (fun y36 => ?_)
        refine zs_invVWI (rest := []) [.int y36] dX10_sample_132 lk_X10_130 rfl (fun _ h => th_X10_answer h) (zd1 rfl hd) rfl (Nat.le_of_ble_eq_true rfl) (ct_X10_answer E hE _ (zdl rfl hd) _ _ _) (fun y37 M38 => ?_)
        exact zs_iretW dX10_sample_135 rfl
      refine zs_tswD dX10_sample_74 (ztsw_of (n := 2) (by decide) (fun q hq => by
        have hq2 : q = 0 ∨ q = 1 ∨ q = 2 := by omega
        rcases hq2 with rfl | rfl | rfl
        · exact hc28
        · exact hc34
        · exact hc40)) rfl ?_
      refine zs_aload_n dX10_sample_136 rfl 0 rfl ?_
      refine zs_aload_n dX10_sample_137 rfl 0 rfl ?_
      refine zs_getR dX10_sample_138 fl_X10_77 rfl (fun y41 => ?_)
      refine zs_getI dX10_sample_141 fl_X10_372 rfl (fun y42 => ?_)
      refine zs_iload_n dX10_sample_144 rfl 3 rfl ?_
      refine zs_iconst (v := 0) dX10_sample_145 ciconst_0 ?_
      refine zs_iload_n dX10_sample_146 rfl 2 rfl ?_
      refine zs_invSPI (rest := [.int v3, .int y42, .ref (E.2.2.2.1 + v0)]) [.int 0, .int v2] dX10_sample_147 lk_X10_174 rfl (zd1 rfl hd) rfl (Nat.le_of_ble_eq_true rfl) (ct_X2_pair E hE _ (zdl rfl hd) _ _ _) (fun y43 => ?_)
      refine zs_imul dX10_sample_150 ?_
      refine zs_iconst (v := 0) dX10_sample_151 ciconst_0 ?_
      refine zs_invSPF (rest := [.ref (E.2.2.2.1 + v0)]) [.int y42, .int (v3 * y43), .int 0] dX10_sample_152 lk_X10_381 rfl (zd1 rfl hd) rfl (Nat.le_of_ble_eq_true rfl) (ct_X10_ratio E hE _ (zdl rfl hd) _ _ _ _) (fun y44 => ?_)
      refine zs_invSPI (rest := [.ref (E.2.2.2.1 + v0)]) [.float y44] dX10_sample_155 lk_X10_297 rfl (zd1 rfl hd) rfl (Nat.le_of_ble_eq_true rfl) (ct_X10_bitsOf E hE _ (zdl rfl hd) _ _) (fun y45 => ?_)
      refine zs_invVWI (rest := []) [.int y45] dX10_sample_158 lk_X10_130 rfl (fun _ h => th_X10_answer h) (zd1 rfl hd) rfl (Nat.le_of_ble_eq_true rfl) (ct_X10_answer E hE _ (zdl rfl hd) _ _ _) (fun y46 M47 => ?_)
      exact zs_iretW dX10_sample_161 rfl
    refine zs_aload_n dX10_sample_49 rfl 0 rfl ?_
    refine zs_iconst (v := 1) dX10_sample_50 ciconst_1 ?_
    refine zs_invVWI (rest := []) [.int 1] dX10_sample_51 lk_X10_102 rfl (fun _ h => th_X10_refuse h) (zd1 rfl hd) rfl (Nat.le_of_ble_eq_true rfl) (ct_X10_refuse E hE _ (zdl rfl hd) _ _ _) (fun y49 M50 => ?_)
    exact zs_iretW dX10_sample_54 rfl
  refine zs_aload_n dX10_sample_21 rfl 0 rfl ?_
  refine zs_iconst (v := 1) dX10_sample_22 ciconst_1 ?_
  refine zs_invVWI (rest := []) [.int 1] dX10_sample_23 lk_X10_102 rfl (fun _ h => th_X10_refuse h) (zd1 rfl hd) rfl (Nat.le_of_ble_eq_true rfl) (ct_X10_refuse E hE _ (zdl rfl hd) _ _ _) (fun y52 M53 => ?_)
  exact zs_iretW dX10_sample_26 rfl
theorem dX11_init_0 : decode cX11_init 0 = .ok (.aload_n 0, 1) := by decide +kernel
theorem dX11_init_1 : decode cX11_init 1 = .ok (.invokespecial 1, 3) := by decide +kernel
theorem dX11_init_4 : decode cX11_init 4 = .ok (.aload_n 0, 1) := by decide +kernel
theorem dX11_init_5 : decode cX11_init 5 = .ok (.bipush 8, 2) := by decide +kernel
theorem dX11_init_7 : decode cX11_init 7 = .ok (.newarray .int, 2) := by decide +kernel
theorem dX11_init_9 : decode cX11_init 9 = .ok (.putfield 7, 3) := by decide +kernel
theorem dX11_init_12 : decode cX11_init 12 = .ok (.aload_n 0, 1) := by decide +kernel
theorem dX11_init_13 : decode cX11_init 13 = .ok (.sipush 200, 3) := by decide +kernel
theorem dX11_init_16 : decode cX11_init 16 = .ok (.newarray .byte, 2) := by decide +kernel
theorem dX11_init_18 : decode cX11_init 18 = .ok (.putfield 13, 3) := by decide +kernel
theorem dX11_init_21 : decode cX11_init 21 = .ok (.aload_n 0, 1) := by decide +kernel
theorem dX11_init_22 : decode cX11_init 22 = .ok (.sipush 200, 3) := by decide +kernel
theorem dX11_init_25 : decode cX11_init 25 = .ok (.newarray .byte, 2) := by decide +kernel
theorem dX11_init_27 : decode cX11_init 27 = .ok (.putfield 17, 3) := by decide +kernel
theorem dX11_init_30 : decode cX11_init 30 = .ok (.aload_n 0, 1) := by decide +kernel
theorem dX11_init_31 : decode cX11_init 31 = .ok (.iconst (-1), 1) := by decide +kernel
theorem dX11_init_32 : decode cX11_init 32 = .ok (.putfield 20, 3) := by decide +kernel
theorem dX11_init_35 : decode cX11_init 35 = .ok (.aload_n 0, 1) := by decide +kernel
theorem dX11_init_36 : decode cX11_init 36 = .ok (.iconst (-1), 1) := by decide +kernel
theorem dX11_init_37 : decode cX11_init 37 = .ok (.putfield 24, 3) := by decide +kernel
theorem dX11_init_40 : decode cX11_init 40 = .ok (.aload_n 0, 1) := by decide +kernel
theorem dX11_init_41 : decode cX11_init 41 = .ok (.bipush 26, 2) := by decide +kernel
theorem dX11_init_43 : decode cX11_init 43 = .ok (.newarray .int, 2) := by decide +kernel
theorem dX11_init_45 : decode cX11_init 45 = .ok (.putfield 27, 3) := by decide +kernel
theorem dX11_init_48 : decode cX11_init 48 = .ok (.aload_n 0, 1) := by decide +kernel
theorem dX11_init_49 : decode cX11_init 49 = .ok (.bipush 26, 2) := by decide +kernel
theorem dX11_init_51 : decode cX11_init 51 = .ok (.newarray .int, 2) := by decide +kernel
theorem dX11_init_53 : decode cX11_init 53 = .ok (.putfield 30, 3) := by decide +kernel
theorem dX11_init_56 : decode cX11_init 56 = .ok (.aload_n 0, 1) := by decide +kernel
theorem dX11_init_57 : decode cX11_init 57 = .ok (.bipush 26, 2) := by decide +kernel
theorem dX11_init_59 : decode cX11_init 59 = .ok (.newarray .int, 2) := by decide +kernel
theorem dX11_init_61 : decode cX11_init 61 = .ok (.putfield 33, 3) := by decide +kernel
theorem dX11_init_64 : decode cX11_init 64 = .ok (.aload_n 0, 1) := by decide +kernel
theorem dX11_init_65 : decode cX11_init 65 = .ok (.bipush 96, 2) := by decide +kernel
theorem dX11_init_67 : decode cX11_init 67 = .ok (.newarray .int, 2) := by decide +kernel
theorem dX11_init_69 : decode cX11_init 69 = .ok (.putfield 36, 3) := by decide +kernel
theorem dX11_init_72 : decode cX11_init 72 = .ok (.aload_n 0, 1) := by decide +kernel
theorem dX11_init_73 : decode cX11_init 73 = .ok (.bipush 8, 2) := by decide +kernel
theorem dX11_init_75 : decode cX11_init 75 = .ok (.newarray .int, 2) := by decide +kernel
theorem dX11_init_77 : decode cX11_init 77 = .ok (.putfield 39, 3) := by decide +kernel
theorem dX11_init_80 : decode cX11_init 80 = .ok (.aload_n 0, 1) := by decide +kernel
theorem dX11_init_81 : decode cX11_init 81 = .ok (.bipush 24, 2) := by decide +kernel
theorem dX11_init_83 : decode cX11_init 83 = .ok (.newarray .int, 2) := by decide +kernel
theorem dX11_init_85 : decode cX11_init 85 = .ok (.putfield 42, 3) := by decide +kernel
theorem dX11_init_88 : decode cX11_init 88 = .ok (.aload_n 0, 1) := by decide +kernel
theorem dX11_init_89 : decode cX11_init 89 = .ok (.iconst 3, 1) := by decide +kernel
theorem dX11_init_90 : decode cX11_init 90 = .ok (.newarray .boolean, 2) := by decide +kernel
theorem dX11_init_92 : decode cX11_init 92 = .ok (.putfield 45, 3) := by decide +kernel
theorem dX11_init_95 : decode cX11_init 95 = .ok (.aload_n 0, 1) := by decide +kernel
theorem dX11_init_96 : decode cX11_init 96 = .ok (.bipush 8, 2) := by decide +kernel
theorem dX11_init_98 : decode cX11_init 98 = .ok (.newarray .int, 2) := by decide +kernel
theorem dX11_init_100 : decode cX11_init 100 = .ok (.putfield 49, 3) := by decide +kernel
theorem dX11_init_103 : decode cX11_init 103 = .ok (.aload_n 0, 1) := by decide +kernel
theorem dX11_init_104 : decode cX11_init 104 = .ok (.bipush 8, 2) := by decide +kernel
theorem dX11_init_106 : decode cX11_init 106 = .ok (.newarray .int, 2) := by decide +kernel
theorem dX11_init_108 : decode cX11_init 108 = .ok (.putfield 52, 3) := by decide +kernel
theorem dX11_init_111 : decode cX11_init 111 = .ok (.aload_n 0, 1) := by decide +kernel
theorem dX11_init_112 : decode cX11_init 112 = .ok (.bipush 64, 2) := by decide +kernel
theorem dX11_init_114 : decode cX11_init 114 = .ok (.newarray .int, 2) := by decide +kernel
theorem dX11_init_116 : decode cX11_init 116 = .ok (.putfield 55, 3) := by decide +kernel
theorem dX11_init_119 : decode cX11_init 119 = .ok (.aload_n 0, 1) := by decide +kernel
theorem dX11_init_120 : decode cX11_init 120 = .ok (.bipush 64, 2) := by decide +kernel
theorem dX11_init_122 : decode cX11_init 122 = .ok (.newarray .int, 2) := by decide +kernel
theorem dX11_init_124 : decode cX11_init 124 = .ok (.putfield 58, 3) := by decide +kernel
theorem dX11_init_127 : decode cX11_init 127 = .ok (.aload_n 0, 1) := by decide +kernel
theorem dX11_init_128 : decode cX11_init 128 = .ok (.bipush 8, 2) := by decide +kernel
theorem dX11_init_130 : decode cX11_init 130 = .ok (.newarray .int, 2) := by decide +kernel
theorem dX11_init_132 : decode cX11_init 132 = .ok (.putfield 61, 3) := by decide +kernel
theorem dX11_init_135 : decode cX11_init 135 = .ok (.aload_n 0, 1) := by decide +kernel
theorem dX11_init_136 : decode cX11_init 136 = .ok (.bipush 8, 2) := by decide +kernel
theorem dX11_init_138 : decode cX11_init 138 = .ok (.newarray .int, 2) := by decide +kernel
theorem dX11_init_140 : decode cX11_init 140 = .ok (.putfield 64, 3) := by decide +kernel
theorem dX11_init_143 : decode cX11_init 143 = .ok (.aload_n 0, 1) := by decide +kernel
theorem dX11_init_144 : decode cX11_init 144 = .ok (.bipush 8, 2) := by decide +kernel
theorem dX11_init_146 : decode cX11_init 146 = .ok (.newarray .int, 2) := by decide +kernel
theorem dX11_init_148 : decode cX11_init 148 = .ok (.putfield 67, 3) := by decide +kernel
theorem dX11_init_151 : decode cX11_init 151 = .ok (.aload_n 0, 1) := by decide +kernel
theorem dX11_init_152 : decode cX11_init 152 = .ok (.bipush 14, 2) := by decide +kernel
theorem dX11_init_154 : decode cX11_init 154 = .ok (.newarray .int, 2) := by decide +kernel
theorem dX11_init_156 : decode cX11_init 156 = .ok (.putfield 70, 3) := by decide +kernel
theorem dX11_init_159 : decode cX11_init 159 = .ok (.aload_n 0, 1) := by decide +kernel
theorem dX11_init_160 : decode cX11_init 160 = .ok (.bipush 8, 2) := by decide +kernel
theorem dX11_init_162 : decode cX11_init 162 = .ok (.newarray .int, 2) := by decide +kernel
theorem dX11_init_164 : decode cX11_init 164 = .ok (.putfield 73, 3) := by decide +kernel
theorem dX11_init_167 : decode cX11_init 167 = .ok (.aload_n 0, 1) := by decide +kernel
theorem dX11_init_168 : decode cX11_init 168 = .ok (.bipush 8, 2) := by decide +kernel
theorem dX11_init_170 : decode cX11_init 170 = .ok (.newarray .int, 2) := by decide +kernel
theorem dX11_init_172 : decode cX11_init 172 = .ok (.putfield 76, 3) := by decide +kernel
theorem dX11_init_175 : decode cX11_init 175 = .ok (.aload_n 0, 1) := by decide +kernel
theorem dX11_init_176 : decode cX11_init 176 = .ok (.bipush 14, 2) := by decide +kernel
theorem dX11_init_178 : decode cX11_init 178 = .ok (.newarray .int, 2) := by decide +kernel
theorem dX11_init_180 : decode cX11_init 180 = .ok (.putfield 79, 3) := by decide +kernel
theorem dX11_init_183 : decode cX11_init 183 = .ok (.aload_n 0, 1) := by decide +kernel
theorem dX11_init_184 : decode cX11_init 184 = .ok (.bipush 14, 2) := by decide +kernel
theorem dX11_init_186 : decode cX11_init 186 = .ok (.newarray .int, 2) := by decide +kernel
theorem dX11_init_188 : decode cX11_init 188 = .ok (.putfield 82, 3) := by decide +kernel
theorem dX11_init_191 : decode cX11_init 191 = .ok (.aload_n 0, 1) := by decide +kernel
theorem dX11_init_192 : decode cX11_init 192 = .ok (.bipush 8, 2) := by decide +kernel
theorem dX11_init_194 : decode cX11_init 194 = .ok (.newarray .int, 2) := by decide +kernel
theorem dX11_init_196 : decode cX11_init 196 = .ok (.putfield 85, 3) := by decide +kernel
theorem dX11_init_199 : decode cX11_init 199 = .ok (.aload_n 0, 1) := by decide +kernel
theorem dX11_init_200 : decode cX11_init 200 = .ok (.sipush 2187, 3) := by decide +kernel
theorem dX11_init_203 : decode cX11_init 203 = .ok (.newarray .int, 2) := by decide +kernel
theorem dX11_init_205 : decode cX11_init 205 = .ok (.putfield 88, 3) := by decide +kernel
theorem dX11_init_208 : decode cX11_init 208 = .ok (.aload_n 0, 1) := by decide +kernel
theorem dX11_init_209 : decode cX11_init 209 = .ok (.sipush 2187, 3) := by decide +kernel
theorem dX11_init_212 : decode cX11_init 212 = .ok (.newarray .int, 2) := by decide +kernel
theorem dX11_init_214 : decode cX11_init 214 = .ok (.putfield 91, 3) := by decide +kernel
theorem dX11_init_217 : decode cX11_init 217 = .ok (.return_, 1) := by decide +kernel
def fp_X11_init (v0 : Nat) (M : zM) : Option (zM) :=
  zthis 9 M v0 (
    (zna 100 M 8).bind fun p3 => zpp p3 fun (q1 : Nat) (M2 : zM) =>
    (zpR 9 M2 v0 2 q1).bind fun (M4 : zM) =>
    (zna 102 M4 200).bind fun p7 => zpp p7 fun (q5 : Nat) (M6 : zM) =>
    (zpR 9 M6 v0 3 q5).bind fun (M8 : zM) =>
    (zna 102 M8 200).bind fun p11 => zpp p11 fun (q9 : Nat) (M10 : zM) =>
    (zpR 9 M10 v0 4 q9).bind fun (M12 : zM) =>
    (zpI 9 M12 v0 11 (-1)).bind fun (M13 : zM) =>
    (zpI 9 M13 v0 12 (-1)).bind fun (M14 : zM) =>
    (zna 100 M14 26).bind fun p17 => zpp p17 fun (q15 : Nat) (M16 : zM) =>
    (zpR 9 M16 v0 13 q15).bind fun (M18 : zM) =>
    (zna 100 M18 26).bind fun p21 => zpp p21 fun (q19 : Nat) (M20 : zM) =>
    (zpR 9 M20 v0 14 q19).bind fun (M22 : zM) =>
    (zna 100 M22 26).bind fun p25 => zpp p25 fun (q23 : Nat) (M24 : zM) =>
    (zpR 9 M24 v0 15 q23).bind fun (M26 : zM) =>
    (zna 100 M26 96).bind fun p29 => zpp p29 fun (q27 : Nat) (M28 : zM) =>
    (zpR 9 M28 v0 16 q27).bind fun (M30 : zM) =>
    (zna 100 M30 8).bind fun p33 => zpp p33 fun (q31 : Nat) (M32 : zM) =>
    (zpR 9 M32 v0 17 q31).bind fun (M34 : zM) =>
    (zna 100 M34 24).bind fun p37 => zpp p37 fun (q35 : Nat) (M36 : zM) =>
    (zpR 9 M36 v0 18 q35).bind fun (M38 : zM) =>
    (zna 103 M38 3).bind fun p41 => zpp p41 fun (q39 : Nat) (M40 : zM) =>
    (zpR 9 M40 v0 19 q39).bind fun (M42 : zM) =>
    (zna 100 M42 8).bind fun p45 => zpp p45 fun (q43 : Nat) (M44 : zM) =>
    (zpR 9 M44 v0 21 q43).bind fun (M46 : zM) =>
    (zna 100 M46 8).bind fun p49 => zpp p49 fun (q47 : Nat) (M48 : zM) =>
    (zpR 9 M48 v0 23 q47).bind fun (M50 : zM) =>
    (zna 100 M50 64).bind fun p53 => zpp p53 fun (q51 : Nat) (M52 : zM) =>
    (zpR 9 M52 v0 24 q51).bind fun (M54 : zM) =>
    (zna 100 M54 64).bind fun p57 => zpp p57 fun (q55 : Nat) (M56 : zM) =>
    (zpR 9 M56 v0 25 q55).bind fun (M58 : zM) =>
    (zna 100 M58 8).bind fun p61 => zpp p61 fun (q59 : Nat) (M60 : zM) =>
    (zpR 9 M60 v0 26 q59).bind fun (M62 : zM) =>
    (zna 100 M62 8).bind fun p65 => zpp p65 fun (q63 : Nat) (M64 : zM) =>
    (zpR 9 M64 v0 27 q63).bind fun (M66 : zM) =>
    (zna 100 M66 8).bind fun p69 => zpp p69 fun (q67 : Nat) (M68 : zM) =>
    (zpR 9 M68 v0 30 q67).bind fun (M70 : zM) =>
    (zna 100 M70 14).bind fun p73 => zpp p73 fun (q71 : Nat) (M72 : zM) =>
    (zpR 9 M72 v0 31 q71).bind fun (M74 : zM) =>
    (zna 100 M74 8).bind fun p77 => zpp p77 fun (q75 : Nat) (M76 : zM) =>
    (zpR 9 M76 v0 32 q75).bind fun (M78 : zM) =>
    (zna 100 M78 8).bind fun p81 => zpp p81 fun (q79 : Nat) (M80 : zM) =>
    (zpR 9 M80 v0 33 q79).bind fun (M82 : zM) =>
    (zna 100 M82 14).bind fun p85 => zpp p85 fun (q83 : Nat) (M84 : zM) =>
    (zpR 9 M84 v0 34 q83).bind fun (M86 : zM) =>
    (zna 100 M86 14).bind fun p89 => zpp p89 fun (q87 : Nat) (M88 : zM) =>
    (zpR 9 M88 v0 35 q87).bind fun (M90 : zM) =>
    (zna 100 M90 8).bind fun p93 => zpp p93 fun (q91 : Nat) (M92 : zM) =>
    (zpR 9 M92 v0 45 q91).bind fun (M94 : zM) =>
    (zna 100 M94 2187).bind fun p97 => zpp p97 fun (q95 : Nat) (M96 : zM) =>
    (zpR 9 M96 v0 47 q95).bind fun (M98 : zM) =>
    (zna 100 M98 2187).bind fun p101 => zpp p101 fun (q99 : Nat) (M100 : zM) =>
    (zpR 9 M100 v0 48 q99).bind fun (M102 : zM) =>
    some M102)
set_option maxHeartbeats 4000000 in
set_option maxRecDepth 100000 in
theorem th_X11_init {v0 : Nat} {M : zM} {x0 : zM} (h : fp_X11_init v0 M = some x0) : v0 < zS M ∧ kd v0 = 9 := by
  unfold fp_X11_init at h
  exact zthis_of h
set_option maxHeartbeats 4000000 in
set_option maxRecDepth 100000 in
theorem ct_X11_init (E : zEnv) (hE : zEok E) (d : Nat) (hd : 2 ≤ d) (v0 : Nat) (M : zM) (x0 : zM) (hx : fp_X11_init v0 M = some x0) : zCt E mu_X11_init d [.ref (E.2.2.2.1 + v0)] M (none, x0) := by
  refine zCt_of (μ := mu_X11_init) (t := fp_X11_init v0 M) rfl rfl (Nat.le_of_ble_eq_true rfl) hx ?_
  change zSy E mu_X11_init d M (none, x0) x0 (fp_X11_init v0 M) 0 [(0, .ref (E.2.2.2.1 + v0))] [] M
  unfold fp_X11_init
  refine zs_this (fun hth => ?_)
  refine zs_aload_n dX11_init_0 rfl 0 rfl ?_
  refine zs_objInit dX11_init_1 (ti_5 97 rfl rfl) mi_oinit mc_oinit (zd0 rfl hd) (Nat.le_of_ble_eq_true rfl) ?_
  refine zs_aload_n dX11_init_4 rfl 0 rfl ?_
  refine zs_bipush (v := 8) dX11_init_5 cbipush_8 ?_
  refine zs_newA dX11_init_7 rfl (by decide) (ti_1 44 rfl rfl) (fun q1 M2 => ?_)
  refine zs_putRF dX11_init_9 fl_X11_7 ft_X11 rfl rfl rfl rfl rfl rfl rfl (fun M4 => ?_)
  refine zs_aload_n dX11_init_12 rfl 0 rfl ?_
  refine zs_sipush (v := 200) dX11_init_13 csipush_200 ?_
  refine zs_newA dX11_init_16 rfl (by decide) (ti_3 14 rfl rfl) (fun q5 M6 => ?_)
  refine zs_putRF dX11_init_18 fl_X11_13 ft_X11 rfl rfl rfl rfl rfl rfl rfl (fun M8 => ?_)
  refine zs_aload_n dX11_init_21 rfl 0 rfl ?_
  refine zs_sipush (v := 200) dX11_init_22 csipush_200 ?_
  refine zs_newA dX11_init_25 rfl (by decide) (ti_3 14 rfl rfl) (fun q9 M10 => ?_)
  refine zs_putRF dX11_init_27 fl_X11_17 ft_X11 rfl rfl rfl rfl rfl rfl rfl (fun M12 => ?_)
  refine zs_aload_n dX11_init_30 rfl 0 rfl ?_
  refine zs_iconst (v := (-1)) dX11_init_31 ciconst_m1 ?_
  refine zs_putI dX11_init_32 fl_X11_20 ft_X11 rfl rfl rfl rfl rfl (fun M13 => ?_)
  refine zs_aload_n dX11_init_35 rfl 0 rfl ?_
  refine zs_iconst (v := (-1)) dX11_init_36 ciconst_m1 ?_
  refine zs_putI dX11_init_37 fl_X11_24 ft_X11 rfl rfl rfl rfl rfl (fun M14 => ?_)
  refine zs_aload_n dX11_init_40 rfl 0 rfl ?_
  refine zs_bipush (v := 26) dX11_init_41 cbipush_26 ?_
  refine zs_newA dX11_init_43 rfl (by decide) (ti_1 44 rfl rfl) (fun q15 M16 => ?_)
  refine zs_putRF dX11_init_45 fl_X11_27 ft_X11 rfl rfl rfl rfl rfl rfl rfl (fun M18 => ?_)
  refine zs_aload_n dX11_init_48 rfl 0 rfl ?_
  refine zs_bipush (v := 26) dX11_init_49 cbipush_26 ?_
  refine zs_newA dX11_init_51 rfl (by decide) (ti_1 44 rfl rfl) (fun q19 M20 => ?_)
  refine zs_putRF dX11_init_53 fl_X11_30 ft_X11 rfl rfl rfl rfl rfl rfl rfl (fun M22 => ?_)
  refine zs_aload_n dX11_init_56 rfl 0 rfl ?_
  refine zs_bipush (v := 26) dX11_init_57 cbipush_26 ?_
  refine zs_newA dX11_init_59 rfl (by decide) (ti_1 44 rfl rfl) (fun q23 M24 => ?_)
  refine zs_putRF dX11_init_61 fl_X11_33 ft_X11 rfl rfl rfl rfl rfl rfl rfl (fun M26 => ?_)
  refine zs_aload_n dX11_init_64 rfl 0 rfl ?_
  refine zs_bipush (v := 96) dX11_init_65 cbipush_96 ?_
  refine zs_newA dX11_init_67 rfl (by decide) (ti_1 44 rfl rfl) (fun q27 M28 => ?_)
  refine zs_putRF dX11_init_69 fl_X11_36 ft_X11 rfl rfl rfl rfl rfl rfl rfl (fun M30 => ?_)
  refine zs_aload_n dX11_init_72 rfl 0 rfl ?_
  refine zs_bipush (v := 8) dX11_init_73 cbipush_8 ?_
  refine zs_newA dX11_init_75 rfl (by decide) (ti_1 44 rfl rfl) (fun q31 M32 => ?_)
  refine zs_putRF dX11_init_77 fl_X11_39 ft_X11 rfl rfl rfl rfl rfl rfl rfl (fun M34 => ?_)
  refine zs_aload_n dX11_init_80 rfl 0 rfl ?_
  refine zs_bipush (v := 24) dX11_init_81 cbipush_24 ?_
  refine zs_newA dX11_init_83 rfl (by decide) (ti_1 44 rfl rfl) (fun q35 M36 => ?_)
  refine zs_putRF dX11_init_85 fl_X11_42 ft_X11 rfl rfl rfl rfl rfl rfl rfl (fun M38 => ?_)
  refine zs_aload_n dX11_init_88 rfl 0 rfl ?_
  refine zs_iconst (v := 3) dX11_init_89 ciconst_3 ?_
  refine zs_newA dX11_init_90 rfl (by decide) (ti_6 15 rfl rfl) (fun q39 M40 => ?_)
  refine zs_putRF dX11_init_92 fl_X11_45 ft_X11 rfl rfl rfl rfl rfl rfl rfl (fun M42 => ?_)
  refine zs_aload_n dX11_init_95 rfl 0 rfl ?_
  refine zs_bipush (v := 8) dX11_init_96 cbipush_8 ?_
  refine zs_newA dX11_init_98 rfl (by decide) (ti_1 44 rfl rfl) (fun q43 M44 => ?_)
  refine zs_putRF dX11_init_100 fl_X11_49 ft_X11 rfl rfl rfl rfl rfl rfl rfl (fun M46 => ?_)
  refine zs_aload_n dX11_init_103 rfl 0 rfl ?_
  refine zs_bipush (v := 8) dX11_init_104 cbipush_8 ?_
  refine zs_newA dX11_init_106 rfl (by decide) (ti_1 44 rfl rfl) (fun q47 M48 => ?_)
  refine zs_putRF dX11_init_108 fl_X11_52 ft_X11 rfl rfl rfl rfl rfl rfl rfl (fun M50 => ?_)
  refine zs_aload_n dX11_init_111 rfl 0 rfl ?_
  refine zs_bipush (v := 64) dX11_init_112 cbipush_64 ?_
  refine zs_newA dX11_init_114 rfl (by decide) (ti_1 44 rfl rfl) (fun q51 M52 => ?_)
  refine zs_putRF dX11_init_116 fl_X11_55 ft_X11 rfl rfl rfl rfl rfl rfl rfl (fun M54 => ?_)
  refine zs_aload_n dX11_init_119 rfl 0 rfl ?_
  refine zs_bipush (v := 64) dX11_init_120 cbipush_64 ?_
  refine zs_newA dX11_init_122 rfl (by decide) (ti_1 44 rfl rfl) (fun q55 M56 => ?_)
  refine zs_putRF dX11_init_124 fl_X11_58 ft_X11 rfl rfl rfl rfl rfl rfl rfl (fun M58 => ?_)
  refine zs_aload_n dX11_init_127 rfl 0 rfl ?_
  refine zs_bipush (v := 8) dX11_init_128 cbipush_8 ?_
  refine zs_newA dX11_init_130 rfl (by decide) (ti_1 44 rfl rfl) (fun q59 M60 => ?_)
  refine zs_putRF dX11_init_132 fl_X11_61 ft_X11 rfl rfl rfl rfl rfl rfl rfl (fun M62 => ?_)
  refine zs_aload_n dX11_init_135 rfl 0 rfl ?_
  refine zs_bipush (v := 8) dX11_init_136 cbipush_8 ?_
  refine zs_newA dX11_init_138 rfl (by decide) (ti_1 44 rfl rfl) (fun q63 M64 => ?_)
  refine zs_putRF dX11_init_140 fl_X11_64 ft_X11 rfl rfl rfl rfl rfl rfl rfl (fun M66 => ?_)
  refine zs_aload_n dX11_init_143 rfl 0 rfl ?_
  refine zs_bipush (v := 8) dX11_init_144 cbipush_8 ?_
  refine zs_newA dX11_init_146 rfl (by decide) (ti_1 44 rfl rfl) (fun q67 M68 => ?_)
  refine zs_putRF dX11_init_148 fl_X11_67 ft_X11 rfl rfl rfl rfl rfl rfl rfl (fun M70 => ?_)
  refine zs_aload_n dX11_init_151 rfl 0 rfl ?_
  refine zs_bipush (v := 14) dX11_init_152 cbipush_14 ?_
  refine zs_newA dX11_init_154 rfl (by decide) (ti_1 44 rfl rfl) (fun q71 M72 => ?_)
  refine zs_putRF dX11_init_156 fl_X11_70 ft_X11 rfl rfl rfl rfl rfl rfl rfl (fun M74 => ?_)
  refine zs_aload_n dX11_init_159 rfl 0 rfl ?_
  refine zs_bipush (v := 8) dX11_init_160 cbipush_8 ?_
  refine zs_newA dX11_init_162 rfl (by decide) (ti_1 44 rfl rfl) (fun q75 M76 => ?_)
  refine zs_putRF dX11_init_164 fl_X11_73 ft_X11 rfl rfl rfl rfl rfl rfl rfl (fun M78 => ?_)
  refine zs_aload_n dX11_init_167 rfl 0 rfl ?_
  refine zs_bipush (v := 8) dX11_init_168 cbipush_8 ?_
  refine zs_newA dX11_init_170 rfl (by decide) (ti_1 44 rfl rfl) (fun q79 M80 => ?_)
  refine zs_putRF dX11_init_172 fl_X11_76 ft_X11 rfl rfl rfl rfl rfl rfl rfl (fun M82 => ?_)
  refine zs_aload_n dX11_init_175 rfl 0 rfl ?_
  refine zs_bipush (v := 14) dX11_init_176 cbipush_14 ?_
  refine zs_newA dX11_init_178 rfl (by decide) (ti_1 44 rfl rfl) (fun q83 M84 => ?_)
  refine zs_putRF dX11_init_180 fl_X11_79 ft_X11 rfl rfl rfl rfl rfl rfl rfl (fun M86 => ?_)
  refine zs_aload_n dX11_init_183 rfl 0 rfl ?_
  refine zs_bipush (v := 14) dX11_init_184 cbipush_14 ?_
  refine zs_newA dX11_init_186 rfl (by decide) (ti_1 44 rfl rfl) (fun q87 M88 => ?_)
  refine zs_putRF dX11_init_188 fl_X11_82 ft_X11 rfl rfl rfl rfl rfl rfl rfl (fun M90 => ?_)
  refine zs_aload_n dX11_init_191 rfl 0 rfl ?_
  refine zs_bipush (v := 8) dX11_init_192 cbipush_8 ?_
  refine zs_newA dX11_init_194 rfl (by decide) (ti_1 44 rfl rfl) (fun q91 M92 => ?_)
  refine zs_putRF dX11_init_196 fl_X11_85 ft_X11 rfl rfl rfl rfl rfl rfl rfl (fun M94 => ?_)
  refine zs_aload_n dX11_init_199 rfl 0 rfl ?_
  refine zs_sipush (v := 2187) dX11_init_200 csipush_2187 ?_
  refine zs_newA dX11_init_203 rfl (by decide) (ti_1 44 rfl rfl) (fun q95 M96 => ?_)
  refine zs_putRF dX11_init_205 fl_X11_88 ft_X11 rfl rfl rfl rfl rfl rfl rfl (fun M98 => ?_)
  refine zs_aload_n dX11_init_208 rfl 0 rfl ?_
  refine zs_sipush (v := 2187) dX11_init_209 csipush_2187 ?_
  refine zs_newA dX11_init_212 rfl (by decide) (ti_1 44 rfl rfl) (fun q99 M100 => ?_)
  refine zs_putRF dX11_init_214 fl_X11_91 ft_X11 rfl rfl rfl rfl rfl rfl rfl (fun M102 => ?_)
  exact zs_vret dX11_init_217 trivial
theorem dX11_status_0 : decode cX11_status 0 = .ok (.aload_n 0, 1) := by decide +kernel
theorem dX11_status_1 : decode cX11_status 1 = .ok (.getfield 94, 3) := by decide +kernel
theorem dX11_status_4 : decode cX11_status 4 = .ok (.ireturn, 1) := by decide +kernel
def fp_X11_status (v0 : Nat) (M : zM) : Option (Int32) :=
  zthis 9 M v0 (
    (zgI 9 M v0 1).bind fun (y1 : Int32) =>
    some y1)
set_option maxHeartbeats 4000000 in
set_option maxRecDepth 100000 in
theorem th_X11_status {v0 : Nat} {M : zM} {x0 : Int32} (h : fp_X11_status v0 M = some x0) : v0 < zS M ∧ kd v0 = 9 := by
  unfold fp_X11_status at h
  exact zthis_of h
set_option maxHeartbeats 4000000 in
set_option maxRecDepth 100000 in
theorem ct_X11_status (E : zEnv) (hE : zEok E) (d : Nat) (hd : 1 ≤ d) (v0 : Nat) (M : zM) (x0 : Int32) (hx : fp_X11_status v0 M = some x0) : zCt E mu_X11_status d [.ref (E.2.2.2.1 + v0)] M (some (.int x0), M) := by
  refine zCt_of (μ := mu_X11_status) (t := fp_X11_status v0 M) rfl rfl (Nat.le_of_ble_eq_true rfl) hx ?_
  change zSy E mu_X11_status d M (some (.int x0), M) x0 (fp_X11_status v0 M) 0 [(0, .ref (E.2.2.2.1 + v0))] [] M
  unfold fp_X11_status
  refine zs_this (fun hth => ?_)
  refine zs_aload_n dX11_status_0 rfl 0 rfl ?_
  refine zs_getI dX11_status_1 fl_X11_94 rfl (fun y1 => ?_)
  exact zs_iretP dX11_status_4 rfl
theorem dX11_refuse_0 : decode cX11_refuse 0 = .ok (.aload_n 0, 1) := by decide +kernel
theorem dX11_refuse_1 : decode cX11_refuse 1 = .ok (.iload_n 1, 1) := by decide +kernel
theorem dX11_refuse_2 : decode cX11_refuse 2 = .ok (.putfield 94, 3) := by decide +kernel
theorem dX11_refuse_5 : decode cX11_refuse 5 = .ok (.iconst (-1), 1) := by decide +kernel
theorem dX11_refuse_6 : decode cX11_refuse 6 = .ok (.ireturn, 1) := by decide +kernel
def fp_X11_refuse (v0 : Nat) (v1 : Int32) (M : zM) : Option (Int32 × zM) :=
  zthis 9 M v0 (
    (zpI 9 M v0 1 v1).bind fun (M1 : zM) =>
    some ((-1), M1))
set_option maxHeartbeats 4000000 in
set_option maxRecDepth 100000 in
theorem th_X11_refuse {v0 : Nat} {v1 : Int32} {M : zM} {x0 : Int32 × zM} (h : fp_X11_refuse v0 v1 M = some x0) : v0 < zS M ∧ kd v0 = 9 := by
  unfold fp_X11_refuse at h
  exact zthis_of h
set_option maxHeartbeats 4000000 in
set_option maxRecDepth 100000 in
theorem ct_X11_refuse (E : zEnv) (hE : zEok E) (d : Nat) (hd : 1 ≤ d) (v0 : Nat) (v1 : Int32) (M : zM) (x0 : Int32 × zM) (hx : fp_X11_refuse v0 v1 M = some x0) : zCt E mu_X11_refuse d [.ref (E.2.2.2.1 + v0), .int v1] M (some (.int x0.1), x0.2) := by
  refine zCt_of (μ := mu_X11_refuse) (t := fp_X11_refuse v0 v1 M) rfl rfl (Nat.le_of_ble_eq_true rfl) hx ?_
  change zSy E mu_X11_refuse d M (some (.int x0.1), x0.2) x0 (fp_X11_refuse v0 v1 M) 0 [(0, .ref (E.2.2.2.1 + v0)), (1, .int v1)] [] M
  unfold fp_X11_refuse
  refine zs_this (fun hth => ?_)
  refine zs_aload_n dX11_refuse_0 rfl 0 rfl ?_
  refine zs_iload_n dX11_refuse_1 rfl 1 rfl ?_
  refine zs_putI dX11_refuse_2 fl_X11_94 ft_X11 rfl rfl rfl rfl rfl (fun M1 => ?_)
  refine zs_iconst (v := (-1)) dX11_refuse_5 ciconst_m1 ?_
  exact zs_iretW dX11_refuse_6 rfl
theorem dX11_isSo_0 : decode cX11_isSo 0 = .ok (.aload_n 0, 1) := by decide +kernel
theorem dX11_isSo_1 : decode cX11_isSo 1 = .ok (.iload_n 1, 1) := by decide +kernel
theorem dX11_isSo_2 : decode cX11_isSo 2 = .ok (.putfield 94, 3) := by decide +kernel
theorem dX11_isSo_5 : decode cX11_isSo 5 = .ok (.iload_n 1, 1) := by decide +kernel
theorem dX11_isSo_6 : decode cX11_isSo 6 = .ok (.ifCond .ne 7, 3) := by decide +kernel
theorem dX11_isSo_9 : decode cX11_isSo 9 = .ok (.iconst 1, 1) := by decide +kernel
theorem dX11_isSo_10 : decode cX11_isSo 10 = .ok (.goto 4, 3) := by decide +kernel
theorem dX11_isSo_13 : decode cX11_isSo 13 = .ok (.iconst 0, 1) := by decide +kernel
theorem dX11_isSo_14 : decode cX11_isSo 14 = .ok (.ireturn, 1) := by decide +kernel
def fp_X11_isSo (v0 : Nat) (v1 : Int32) (M : zM) : Option (Int32 × zM) :=
  zthis 9 M v0 (
    (zpI 9 M v0 1 v1).bind fun (M1 : zM) =>
    if v1 ≠ 0 then (
      some (0, M1))
    else (
      some (1, M1)))
set_option maxHeartbeats 4000000 in
set_option maxRecDepth 100000 in
theorem th_X11_isSo {v0 : Nat} {v1 : Int32} {M : zM} {x0 : Int32 × zM} (h : fp_X11_isSo v0 v1 M = some x0) : v0 < zS M ∧ kd v0 = 9 := by
  unfold fp_X11_isSo at h
  exact zthis_of h
set_option maxHeartbeats 4000000 in
set_option maxRecDepth 100000 in
theorem ct_X11_isSo (E : zEnv) (hE : zEok E) (d : Nat) (hd : 1 ≤ d) (v0 : Nat) (v1 : Int32) (M : zM) (x0 : Int32 × zM) (hx : fp_X11_isSo v0 v1 M = some x0) : zCt E mu_X11_isSo d [.ref (E.2.2.2.1 + v0), .int v1] M (some (.int x0.1), x0.2) := by
  refine zCt_of (μ := mu_X11_isSo) (t := fp_X11_isSo v0 v1 M) rfl rfl (Nat.le_of_ble_eq_true rfl) hx ?_
  change zSy E mu_X11_isSo d M (some (.int x0.1), x0.2) x0 (fp_X11_isSo v0 v1 M) 0 [(0, .ref (E.2.2.2.1 + v0)), (1, .int v1)] [] M
  unfold fp_X11_isSo
  refine zs_this (fun hth => ?_)
  refine zs_aload_n dX11_isSo_0 rfl 0 rfl ?_
  refine zs_iload_n dX11_isSo_1 rfl 1 rfl ?_
  refine zs_putI dX11_isSo_2 fl_X11_94 ft_X11 rfl rfl rfl rfl rfl (fun M1 => ?_)
  refine zs_iload_n dX11_isSo_5 rfl 1 rfl ?_
  refine zs_if_ne dX11_isSo_6 rfl ?_ ?_
  · refine zs_iconst (v := 0) dX11_isSo_13 ciconst_0 ?_
    exact zs_iretW dX11_isSo_14 rfl
  refine zs_iconst (v := 1) dX11_isSo_9 ciconst_1 ?_
  refine zs_goto dX11_isSo_10 rfl ?_
  exact zs_iretW dX11_isSo_14 rfl
theorem dX11_gives_0 : decode cX11_gives 0 = .ok (.aload_n 0, 1) := by decide +kernel
theorem dX11_gives_1 : decode cX11_gives 1 = .ok (.iconst 0, 1) := by decide +kernel
theorem dX11_gives_2 : decode cX11_gives 2 = .ok (.putfield 94, 3) := by decide +kernel
theorem dX11_gives_5 : decode cX11_gives 5 = .ok (.iload_n 1, 1) := by decide +kernel
theorem dX11_gives_6 : decode cX11_gives 6 = .ok (.ireturn, 1) := by decide +kernel
def fp_X11_gives (v0 : Nat) (v1 : Int32) (M : zM) : Option (Int32 × zM) :=
  zthis 9 M v0 (
    (zpI 9 M v0 1 0).bind fun (M1 : zM) =>
    some (v1, M1))
set_option maxHeartbeats 4000000 in
set_option maxRecDepth 100000 in
theorem th_X11_gives {v0 : Nat} {v1 : Int32} {M : zM} {x0 : Int32 × zM} (h : fp_X11_gives v0 v1 M = some x0) : v0 < zS M ∧ kd v0 = 9 := by
  unfold fp_X11_gives at h
  exact zthis_of h
set_option maxHeartbeats 4000000 in
set_option maxRecDepth 100000 in
theorem ct_X11_gives (E : zEnv) (hE : zEok E) (d : Nat) (hd : 1 ≤ d) (v0 : Nat) (v1 : Int32) (M : zM) (x0 : Int32 × zM) (hx : fp_X11_gives v0 v1 M = some x0) : zCt E mu_X11_gives d [.ref (E.2.2.2.1 + v0), .int v1] M (some (.int x0.1), x0.2) := by
  refine zCt_of (μ := mu_X11_gives) (t := fp_X11_gives v0 v1 M) rfl rfl (Nat.le_of_ble_eq_true rfl) hx ?_
  change zSy E mu_X11_gives d M (some (.int x0.1), x0.2) x0 (fp_X11_gives v0 v1 M) 0 [(0, .ref (E.2.2.2.1 + v0)), (1, .int v1)] [] M
  unfold fp_X11_gives
  refine zs_this (fun hth => ?_)
  refine zs_aload_n dX11_gives_0 rfl 0 rfl ?_
  refine zs_iconst (v := 0) dX11_gives_1 ciconst_0 ?_
  refine zs_putI dX11_gives_2 fl_X11_94 ft_X11 rfl rfl rfl rfl rfl (fun M1 => ?_)
  refine zs_iload_n dX11_gives_5 rfl 1 rfl ?_
  exact zs_iretW dX11_gives_6 rfl
theorem dX11_isFrom_0 : decode cX11_isFrom 0 = .ok (.iload_n 0, 1) := by decide +kernel
theorem dX11_isFrom_1 : decode cX11_isFrom 1 = .ok (.iload_n 1, 1) := by decide +kernel
theorem dX11_isFrom_2 : decode cX11_isFrom 2 = .ok (.if_icmp .lt 12, 3) := by decide +kernel
theorem dX11_isFrom_5 : decode cX11_isFrom 5 = .ok (.iload_n 0, 1) := by decide +kernel
theorem dX11_isFrom_6 : decode cX11_isFrom 6 = .ok (.iload_n 2, 1) := by decide +kernel
theorem dX11_isFrom_7 : decode cX11_isFrom 7 = .ok (.if_icmp .gt 7, 3) := by decide +kernel
theorem dX11_isFrom_10 : decode cX11_isFrom 10 = .ok (.iconst 1, 1) := by decide +kernel
theorem dX11_isFrom_11 : decode cX11_isFrom 11 = .ok (.goto 4, 3) := by decide +kernel
theorem dX11_isFrom_14 : decode cX11_isFrom 14 = .ok (.iconst 0, 1) := by decide +kernel
theorem dX11_isFrom_15 : decode cX11_isFrom 15 = .ok (.ireturn, 1) := by decide +kernel
def fp_X11_isFrom (v0 : Int32) (v1 : Int32) (v2 : Int32) : Option (Int32) :=
  if v0 < v1 then (
    some 0)
  else (
    if v0 > v2 then (
      some 0)
    else (
      some 1))
set_option maxHeartbeats 4000000 in
set_option maxRecDepth 100000 in
theorem ct_X11_isFrom (E : zEnv) (hE : zEok E) (d : Nat) (hd : 1 ≤ d) (v0 : Int32) (v1 : Int32) (v2 : Int32) (M : zM) (x0 : Int32) (hx : fp_X11_isFrom v0 v1 v2 = some x0) : zCt E mu_X11_isFrom d [.int v0, .int v1, .int v2] M (some (.int x0), M) := by
  refine zCt_of (μ := mu_X11_isFrom) (t := fp_X11_isFrom v0 v1 v2) rfl rfl (Nat.le_of_ble_eq_true rfl) hx ?_
  change zSy E mu_X11_isFrom d M (some (.int x0), M) x0 (fp_X11_isFrom v0 v1 v2) 0 [(0, .int v0), (1, .int v1), (2, .int v2)] [] M
  unfold fp_X11_isFrom
  refine zs_iload_n dX11_isFrom_0 rfl 0 rfl ?_
  refine zs_iload_n dX11_isFrom_1 rfl 1 rfl ?_
  refine zs_icmp_lt dX11_isFrom_2 rfl ?_ ?_
  · refine zs_iconst (v := 0) dX11_isFrom_14 ciconst_0 ?_
    exact zs_iretP dX11_isFrom_15 rfl
  refine zs_iload_n dX11_isFrom_5 rfl 0 rfl ?_
  refine zs_iload_n dX11_isFrom_6 rfl 2 rfl ?_
  refine zs_icmp_gt dX11_isFrom_7 rfl ?_ ?_
  · refine zs_iconst (v := 0) dX11_isFrom_14 ciconst_0 ?_
    exact zs_iretP dX11_isFrom_15 rfl
  refine zs_iconst (v := 1) dX11_isFrom_10 ciconst_1 ?_
  refine zs_goto dX11_isFrom_11 rfl ?_
  exact zs_iretP dX11_isFrom_15 rfl
theorem dX11_has_0 : decode cX11_has 0 = .ok (.iload_n 0, 1) := by decide +kernel
theorem dX11_has_1 : decode cX11_has 1 = .ok (.iload_n 1, 1) := by decide +kernel
theorem dX11_has_2 : decode cX11_has 2 = .ok (.ishr, 1) := by decide +kernel
theorem dX11_has_3 : decode cX11_has 3 = .ok (.iconst 1, 1) := by decide +kernel
theorem dX11_has_4 : decode cX11_has 4 = .ok (.iand, 1) := by decide +kernel
theorem dX11_has_5 : decode cX11_has 5 = .ok (.iconst 1, 1) := by decide +kernel
theorem dX11_has_6 : decode cX11_has 6 = .ok (.if_icmp .ne 7, 3) := by decide +kernel
theorem dX11_has_9 : decode cX11_has 9 = .ok (.iconst 1, 1) := by decide +kernel
theorem dX11_has_10 : decode cX11_has 10 = .ok (.goto 4, 3) := by decide +kernel
theorem dX11_has_13 : decode cX11_has 13 = .ok (.iconst 0, 1) := by decide +kernel
theorem dX11_has_14 : decode cX11_has 14 = .ok (.ireturn, 1) := by decide +kernel
def fp_X11_has (v0 : Int32) (v1 : Int32) : Option (Int32) :=
  if ((v0 >>> (v1 &&& 31)) &&& 1) ≠ 1 then (
    some 0)
  else (
    some 1)
set_option maxHeartbeats 4000000 in
set_option maxRecDepth 100000 in
theorem ct_X11_has (E : zEnv) (hE : zEok E) (d : Nat) (hd : 1 ≤ d) (v0 : Int32) (v1 : Int32) (M : zM) (x0 : Int32) (hx : fp_X11_has v0 v1 = some x0) : zCt E mu_X11_has d [.int v0, .int v1] M (some (.int x0), M) := by
  refine zCt_of (μ := mu_X11_has) (t := fp_X11_has v0 v1) rfl rfl (Nat.le_of_ble_eq_true rfl) hx ?_
  change zSy E mu_X11_has d M (some (.int x0), M) x0 (fp_X11_has v0 v1) 0 [(0, .int v0), (1, .int v1)] [] M
  unfold fp_X11_has
  refine zs_iload_n dX11_has_0 rfl 0 rfl ?_
  refine zs_iload_n dX11_has_1 rfl 1 rfl ?_
  refine zs_ishr dX11_has_2 ?_
  refine zs_iconst (v := 1) dX11_has_3 ciconst_1 ?_
  refine zs_iand dX11_has_4 ?_
  refine zs_iconst (v := 1) dX11_has_5 ciconst_1 ?_
  refine zs_icmp_ne dX11_has_6 rfl ?_ ?_
  · refine zs_iconst (v := 0) dX11_has_13 ciconst_0 ?_
    exact zs_iretP dX11_has_14 rfl
  refine zs_iconst (v := 1) dX11_has_9 ciconst_1 ?_
  refine zs_goto dX11_has_10 rfl ?_
  exact zs_iretP dX11_has_14 rfl
theorem dX11_bits_0 : decode cX11_bits 0 = .ok (.iconst 0, 1) := by decide +kernel
theorem dX11_bits_1 : decode cX11_bits 1 = .ok (.istore_n 1, 1) := by decide +kernel
theorem dX11_bits_2 : decode cX11_bits 2 = .ok (.iload_n 0, 1) := by decide +kernel
theorem dX11_bits_3 : decode cX11_bits 3 = .ok (.istore_n 2, 1) := by decide +kernel
theorem dX11_bits_4 : decode cX11_bits 4 = .ok (.iload_n 2, 1) := by decide +kernel
theorem dX11_bits_5 : decode cX11_bits 5 = .ok (.ifCond .eq 15, 3) := by decide +kernel
theorem dX11_bits_8 : decode cX11_bits 8 = .ok (.iinc 1 1, 3) := by decide +kernel
theorem dX11_bits_11 : decode cX11_bits 11 = .ok (.iload_n 2, 1) := by decide +kernel
theorem dX11_bits_12 : decode cX11_bits 12 = .ok (.iload_n 2, 1) := by decide +kernel
theorem dX11_bits_13 : decode cX11_bits 13 = .ok (.iconst 1, 1) := by decide +kernel
theorem dX11_bits_14 : decode cX11_bits 14 = .ok (.isub, 1) := by decide +kernel
theorem dX11_bits_15 : decode cX11_bits 15 = .ok (.iand, 1) := by decide +kernel
theorem dX11_bits_16 : decode cX11_bits 16 = .ok (.istore_n 2, 1) := by decide +kernel
theorem dX11_bits_17 : decode cX11_bits 17 = .ok (.goto (-13), 3) := by decide +kernel
theorem dX11_bits_20 : decode cX11_bits 20 = .ok (.iload_n 1, 1) := by decide +kernel
theorem dX11_bits_21 : decode cX11_bits 21 = .ok (.ireturn, 1) := by decide +kernel
def fp_X11_bits_L4  : Nat → Int32 → Int32 → Option (Int32)
  | 0, _, _ => none
  | n + 1, v1, v2 =>
    if v2 = 0 then (
      some v1)
    else (
      lett ((v2 &&& (v2 - 1))) fun (v2_1 : Int32) =>
      fp_X11_bits_L4 n (v1 + 1) v2_1)
def fp_X11_bits (v0 : Int32) : Option (Int32) :=
  fp_X11_bits_L4 FU 0 v0
set_option maxHeartbeats 4000000 in
set_option maxRecDepth 100000 in
theorem w_X11_bits_L4 (E : zEnv) (hE : zEok E) (d : Nat) (hd : 1 ≤ d) (x0 : Int32)  (M : zM)  : ∀ (n : Nat) (v1 : Int32) (v2 : Int32), zSy E mu_X11_bits d M (some (.int x0), M) x0 (fp_X11_bits_L4 n v1 v2) 4 [(1, .int v1), (2, .int v2)] [] M := by
  intro n
  induction n with
  | zero =>
    intro v1 v2
    rw [fp_X11_bits_L4]
    exact zs_none
  | succ n ih =>
    intro v1 v2
    rw [fp_X11_bits_L4]
    refine zs_iload_n dX11_bits_4 rfl 1 rfl ?_
    refine zs_if_eq dX11_bits_5 rfl ?_ ?_
    · refine zs_iload_n dX11_bits_20 rfl 0 rfl ?_
      exact zs_iretP dX11_bits_21 rfl
    refine zs_iinc (v := (v1 + 1)) (loc' := [(1, .int (v1 + 1)), (2, .int v2)]) dX11_bits_8 0 rfl (by rfl) (Nat.le_of_ble_eq_true rfl) [0, 1] rfl ?_
    refine zs_iload_n dX11_bits_11 rfl 1 rfl ?_
    refine zs_iload_n dX11_bits_12 rfl 1 rfl ?_
    refine zs_iconst (v := 1) dX11_bits_13 ciconst_1 ?_
    refine zs_isub dX11_bits_14 ?_
    refine zs_iand dX11_bits_15 ?_
    refine zs_istore_nL (loc' := fun v2_1 => [(1, .int (v1 + 1)), (2, .int v2_1)]) dX11_bits_16 rfl (Nat.le_of_ble_eq_true rfl) [1, 0] (fun _ => rfl) (fun v2_1 => ?_)
    refine zs_goto dX11_bits_17 rfl ?_
    exact ih (v1 + 1) v2_1
set_option maxHeartbeats 4000000 in
set_option maxRecDepth 100000 in
theorem ct_X11_bits (E : zEnv) (hE : zEok E) (d : Nat) (hd : 1 ≤ d) (v0 : Int32) (M : zM) (x0 : Int32) (hx : fp_X11_bits v0 = some x0) : zCt E mu_X11_bits d [.int v0] M (some (.int x0), M) := by
  refine zCt_of (μ := mu_X11_bits) (t := fp_X11_bits v0) rfl rfl (Nat.le_of_ble_eq_true rfl) hx ?_
  change zSy E mu_X11_bits d M (some (.int x0), M) x0 (fp_X11_bits v0) 0 [(0, .int v0)] [] M
  unfold fp_X11_bits
  refine zs_iconst (v := 0) dX11_bits_0 ciconst_0 ?_
  refine zs_istore_n (loc' := [(0, .int v0), (1, .int 0)]) dX11_bits_1 rfl (Nat.le_of_ble_eq_true rfl) [1, 0] rfl ?_
  refine zs_iload_n dX11_bits_2 rfl 0 rfl ?_
  refine zs_istore_n (loc' := [(1, .int 0), (2, .int v0)]) dX11_bits_3 rfl (Nat.le_of_ble_eq_true rfl) [2, 0] rfl ?_
  exact w_X11_bits_L4 E hE d hd _ _ _ _ _
theorem dX11_lowest_0 : decode cX11_lowest 0 = .ok (.iconst 0, 1) := by decide +kernel
theorem dX11_lowest_1 : decode cX11_lowest 1 = .ok (.istore_n 1, 1) := by decide +kernel
theorem dX11_lowest_2 : decode cX11_lowest 2 = .ok (.iload_n 0, 1) := by decide +kernel
theorem dX11_lowest_3 : decode cX11_lowest 3 = .ok (.iload_n 1, 1) := by decide +kernel
theorem dX11_lowest_4 : decode cX11_lowest 4 = .ok (.invokestatic 97, 3) := by decide +kernel
theorem dX11_lowest_7 : decode cX11_lowest 7 = .ok (.ifCond .ne 9, 3) := by decide +kernel
theorem dX11_lowest_10 : decode cX11_lowest 10 = .ok (.iinc 1 1, 3) := by decide +kernel
theorem dX11_lowest_13 : decode cX11_lowest 13 = .ok (.goto (-11), 3) := by decide +kernel
theorem dX11_lowest_16 : decode cX11_lowest 16 = .ok (.iload_n 1, 1) := by decide +kernel
theorem dX11_lowest_17 : decode cX11_lowest 17 = .ok (.ireturn, 1) := by decide +kernel
def fp_X11_lowest_L2 (v0 : Int32) : Nat → Int32 → Option (Int32)
  | 0, _ => none
  | n + 1, v1 =>
    (fp_X11_has v0 v1).bind fun (y1 : Int32) =>
    if y1 ≠ 0 then (
      some v1)
    else (
      fp_X11_lowest_L2 v0 n (v1 + 1))
def fp_X11_lowest (v0 : Int32) : Option (Int32) :=
  fp_X11_lowest_L2 v0 FU 0
set_option maxHeartbeats 4000000 in
set_option maxRecDepth 100000 in
theorem w_X11_lowest_L2 (E : zEnv) (hE : zEok E) (d : Nat) (hd : 2 ≤ d) (x0 : Int32) (v0 : Int32) (M : zM)  : ∀ (n : Nat) (v1 : Int32), zSy E mu_X11_lowest d M (some (.int x0), M) x0 (fp_X11_lowest_L2 v0 n v1) 2 [(0, .int v0), (1, .int v1)] [] M := by
  intro n
  induction n with
  | zero =>
    intro v1
    rw [fp_X11_lowest_L2]
    exact zs_none
  | succ n ih =>
    intro v1
    rw [fp_X11_lowest_L2]
    refine zs_iload_n dX11_lowest_2 rfl 0 rfl ?_
    refine zs_iload_n dX11_lowest_3 rfl 1 rfl ?_
    refine zs_invSPI (rest := []) [.int v0, .int v1] dX11_lowest_4 lk_X11_97 rfl (zd1 rfl hd) rfl (Nat.le_of_ble_eq_true rfl) (ct_X11_has E hE _ (zdl rfl hd) _ _ _) (fun y1 => ?_)
    refine zs_if_ne dX11_lowest_7 rfl ?_ ?_
    · refine zs_iload_n dX11_lowest_16 rfl 1 rfl ?_
      exact zs_iretP dX11_lowest_17 rfl
    refine zs_iinc (v := (v1 + 1)) (loc' := [(0, .int v0), (1, .int (v1 + 1))]) dX11_lowest_10 1 rfl (by rfl) (Nat.le_of_ble_eq_true rfl) [1, 0] rfl ?_
    refine zs_goto dX11_lowest_13 rfl ?_
    exact ih (v1 + 1)
set_option maxHeartbeats 4000000 in
set_option maxRecDepth 100000 in
theorem ct_X11_lowest (E : zEnv) (hE : zEok E) (d : Nat) (hd : 2 ≤ d) (v0 : Int32) (M : zM) (x0 : Int32) (hx : fp_X11_lowest v0 = some x0) : zCt E mu_X11_lowest d [.int v0] M (some (.int x0), M) := by
  refine zCt_of (μ := mu_X11_lowest) (t := fp_X11_lowest v0) rfl rfl (Nat.le_of_ble_eq_true rfl) hx ?_
  change zSy E mu_X11_lowest d M (some (.int x0), M) x0 (fp_X11_lowest v0) 0 [(0, .int v0)] [] M
  unfold fp_X11_lowest
  refine zs_iconst (v := 0) dX11_lowest_0 ciconst_0 ?_
  refine zs_istore_n (loc' := [(0, .int v0), (1, .int 0)]) dX11_lowest_1 rfl (Nat.le_of_ble_eq_true rfl) [1, 0] rfl ?_
  exact w_X11_lowest_L2 E hE d hd _ _ _ _ _
theorem dX11_all_0 : decode cX11_all 0 = .ok (.iconst 1, 1) := by decide +kernel
theorem dX11_all_1 : decode cX11_all 1 = .ok (.aload_n 0, 1) := by decide +kernel
theorem dX11_all_2 : decode cX11_all 2 = .ok (.getfield 101, 3) := by decide +kernel
theorem dX11_all_5 : decode cX11_all 5 = .ok (.ishl, 1) := by decide +kernel
theorem dX11_all_6 : decode cX11_all 6 = .ok (.iconst 1, 1) := by decide +kernel
theorem dX11_all_7 : decode cX11_all 7 = .ok (.isub, 1) := by decide +kernel
theorem dX11_all_8 : decode cX11_all 8 = .ok (.ireturn, 1) := by decide +kernel
def fp_X11_all (v0 : Nat) (M : zM) : Option (Int32) :=
  zthis 9 M v0 (
    (zgI 9 M v0 0).bind fun (y1 : Int32) =>
    some ((1 <<< (y1 &&& 31)) - 1))
set_option maxHeartbeats 4000000 in
set_option maxRecDepth 100000 in
theorem th_X11_all {v0 : Nat} {M : zM} {x0 : Int32} (h : fp_X11_all v0 M = some x0) : v0 < zS M ∧ kd v0 = 9 := by
  unfold fp_X11_all at h
  exact zthis_of h
set_option maxHeartbeats 4000000 in
set_option maxRecDepth 100000 in
theorem ct_X11_all (E : zEnv) (hE : zEok E) (d : Nat) (hd : 1 ≤ d) (v0 : Nat) (M : zM) (x0 : Int32) (hx : fp_X11_all v0 M = some x0) : zCt E mu_X11_all d [.ref (E.2.2.2.1 + v0)] M (some (.int x0), M) := by
  refine zCt_of (μ := mu_X11_all) (t := fp_X11_all v0 M) rfl rfl (Nat.le_of_ble_eq_true rfl) hx ?_
  change zSy E mu_X11_all d M (some (.int x0), M) x0 (fp_X11_all v0 M) 0 [(0, .ref (E.2.2.2.1 + v0))] [] M
  unfold fp_X11_all
  refine zs_this (fun hth => ?_)
  refine zs_iconst (v := 1) dX11_all_0 ciconst_1 ?_
  refine zs_aload_n dX11_all_1 rfl 0 rfl ?_
  refine zs_getI dX11_all_2 fl_X11_101 rfl (fun y1 => ?_)
  refine zs_ishl dX11_all_5 ?_
  refine zs_iconst (v := 1) dX11_all_6 ciconst_1 ?_
  refine zs_isub dX11_all_7 ?_
  exact zs_iretP dX11_all_8 rfl
theorem dX11_isPoint_0 : decode cX11_isPoint 0 = .ok (.iload_n 1, 1) := by decide +kernel
theorem dX11_isPoint_1 : decode cX11_isPoint 1 = .ok (.ifCond .lt 15, 3) := by decide +kernel
theorem dX11_isPoint_4 : decode cX11_isPoint 4 = .ok (.iload_n 1, 1) := by decide +kernel
theorem dX11_isPoint_5 : decode cX11_isPoint 5 = .ok (.aload_n 0, 1) := by decide +kernel
theorem dX11_isPoint_6 : decode cX11_isPoint 6 = .ok (.getfield 101, 3) := by decide +kernel
theorem dX11_isPoint_9 : decode cX11_isPoint 9 = .ok (.if_icmp .ge 7, 3) := by decide +kernel
theorem dX11_isPoint_12 : decode cX11_isPoint 12 = .ok (.iconst 1, 1) := by decide +kernel
theorem dX11_isPoint_13 : decode cX11_isPoint 13 = .ok (.goto 4, 3) := by decide +kernel
theorem dX11_isPoint_16 : decode cX11_isPoint 16 = .ok (.iconst 0, 1) := by decide +kernel
theorem dX11_isPoint_17 : decode cX11_isPoint 17 = .ok (.ireturn, 1) := by decide +kernel
def fp_X11_isPoint (v0 : Nat) (v1 : Int32) (M : zM) : Option (Int32) :=
  zthis 9 M v0 (
    if v1 < 0 then (
      some 0)
    else (
      (zgI 9 M v0 0).bind fun (y1 : Int32) =>
      if v1 ≥ y1 then (
        some 0)
      else (
        some 1)))
set_option maxHeartbeats 4000000 in
set_option maxRecDepth 100000 in
theorem th_X11_isPoint {v0 : Nat} {v1 : Int32} {M : zM} {x0 : Int32} (h : fp_X11_isPoint v0 v1 M = some x0) : v0 < zS M ∧ kd v0 = 9 := by
  unfold fp_X11_isPoint at h
  exact zthis_of h
set_option maxHeartbeats 4000000 in
set_option maxRecDepth 100000 in
theorem ct_X11_isPoint (E : zEnv) (hE : zEok E) (d : Nat) (hd : 1 ≤ d) (v0 : Nat) (v1 : Int32) (M : zM) (x0 : Int32) (hx : fp_X11_isPoint v0 v1 M = some x0) : zCt E mu_X11_isPoint d [.ref (E.2.2.2.1 + v0), .int v1] M (some (.int x0), M) := by
  refine zCt_of (μ := mu_X11_isPoint) (t := fp_X11_isPoint v0 v1 M) rfl rfl (Nat.le_of_ble_eq_true rfl) hx ?_
  change zSy E mu_X11_isPoint d M (some (.int x0), M) x0 (fp_X11_isPoint v0 v1 M) 0 [(0, .ref (E.2.2.2.1 + v0)), (1, .int v1)] [] M
  unfold fp_X11_isPoint
  refine zs_this (fun hth => ?_)
  refine zs_iload_n dX11_isPoint_0 rfl 1 rfl ?_
  refine zs_if_lt dX11_isPoint_1 rfl ?_ ?_
  · refine zs_iconst (v := 0) dX11_isPoint_16 ciconst_0 ?_
    exact zs_iretP dX11_isPoint_17 rfl
  refine zs_iload_n dX11_isPoint_4 rfl 1 rfl ?_
  refine zs_aload_n dX11_isPoint_5 rfl 0 rfl ?_
  refine zs_getI dX11_isPoint_6 fl_X11_101 rfl (fun y1 => ?_)
  refine zs_icmp_ge dX11_isPoint_9 rfl ?_ ?_
  · refine zs_iconst (v := 0) dX11_isPoint_16 ciconst_0 ?_
    exact zs_iretP dX11_isPoint_17 rfl
  refine zs_iconst (v := 1) dX11_isPoint_12 ciconst_1 ?_
  refine zs_goto dX11_isPoint_13 rfl ?_
  exact zs_iretP dX11_isPoint_17 rfl
theorem dX11_isSet_0 : decode cX11_isSet 0 = .ok (.iload_n 1, 1) := by decide +kernel
theorem dX11_isSet_1 : decode cX11_isSet 1 = .ok (.ifCond .lt 18, 3) := by decide +kernel
theorem dX11_isSet_4 : decode cX11_isSet 4 = .ok (.iload_n 1, 1) := by decide +kernel
theorem dX11_isSet_5 : decode cX11_isSet 5 = .ok (.aload_n 0, 1) := by decide +kernel
theorem dX11_isSet_6 : decode cX11_isSet 6 = .ok (.invokevirtual 104, 3) := by decide +kernel
theorem dX11_isSet_9 : decode cX11_isSet 9 = .ok (.iconst (-1), 1) := by decide +kernel
theorem dX11_isSet_10 : decode cX11_isSet 10 = .ok (.ixor, 1) := by decide +kernel
theorem dX11_isSet_11 : decode cX11_isSet 11 = .ok (.iand, 1) := by decide +kernel
theorem dX11_isSet_12 : decode cX11_isSet 12 = .ok (.ifCond .ne 7, 3) := by decide +kernel
theorem dX11_isSet_15 : decode cX11_isSet 15 = .ok (.iconst 1, 1) := by decide +kernel
theorem dX11_isSet_16 : decode cX11_isSet 16 = .ok (.goto 4, 3) := by decide +kernel
theorem dX11_isSet_19 : decode cX11_isSet 19 = .ok (.iconst 0, 1) := by decide +kernel
theorem dX11_isSet_20 : decode cX11_isSet 20 = .ok (.ireturn, 1) := by decide +kernel
def fp_X11_isSet (v0 : Nat) (v1 : Int32) (M : zM) : Option (Int32) :=
  zthis 9 M v0 (
    if v1 < 0 then (
      some 0)
    else (
      (fp_X11_all v0 M).bind fun (y1 : Int32) =>
      if (v1 &&& (y1 ^^^ (-1))) ≠ 0 then (
        some 0)
      else (
        some 1)))
set_option maxHeartbeats 4000000 in
set_option maxRecDepth 100000 in
theorem th_X11_isSet {v0 : Nat} {v1 : Int32} {M : zM} {x0 : Int32} (h : fp_X11_isSet v0 v1 M = some x0) : v0 < zS M ∧ kd v0 = 9 := by
  unfold fp_X11_isSet at h
  exact zthis_of h
set_option maxHeartbeats 4000000 in
set_option maxRecDepth 100000 in
theorem ct_X11_isSet (E : zEnv) (hE : zEok E) (d : Nat) (hd : 2 ≤ d) (v0 : Nat) (v1 : Int32) (M : zM) (x0 : Int32) (hx : fp_X11_isSet v0 v1 M = some x0) : zCt E mu_X11_isSet d [.ref (E.2.2.2.1 + v0), .int v1] M (some (.int x0), M) := by
  refine zCt_of (μ := mu_X11_isSet) (t := fp_X11_isSet v0 v1 M) rfl rfl (Nat.le_of_ble_eq_true rfl) hx ?_
  change zSy E mu_X11_isSet d M (some (.int x0), M) x0 (fp_X11_isSet v0 v1 M) 0 [(0, .ref (E.2.2.2.1 + v0)), (1, .int v1)] [] M
  unfold fp_X11_isSet
  refine zs_this (fun hth => ?_)
  refine zs_iload_n dX11_isSet_0 rfl 1 rfl ?_
  refine zs_if_lt dX11_isSet_1 rfl ?_ ?_
  · refine zs_iconst (v := 0) dX11_isSet_19 ciconst_0 ?_
    exact zs_iretP dX11_isSet_20 rfl
  refine zs_iload_n dX11_isSet_4 rfl 1 rfl ?_
  refine zs_aload_n dX11_isSet_5 rfl 0 rfl ?_
  refine zs_invVPI (rest := [.int v1]) [] dX11_isSet_6 lk_X11_104 rfl (fun _ h => th_X11_all h) (zd1 rfl hd) rfl (Nat.le_of_ble_eq_true rfl) (ct_X11_all E hE _ (zdl rfl hd) _ _) (fun y1 => ?_)
  refine zs_iconst (v := (-1)) dX11_isSet_9 ciconst_m1 ?_
  refine zs_ixor dX11_isSet_10 ?_
  refine zs_iand dX11_isSet_11 ?_
  refine zs_if_ne dX11_isSet_12 rfl ?_ ?_
  · refine zs_iconst (v := 0) dX11_isSet_19 ciconst_0 ?_
    exact zs_iretP dX11_isSet_20 rfl
  refine zs_iconst (v := 1) dX11_isSet_15 ciconst_1 ?_
  refine zs_goto dX11_isSet_16 rfl ?_
  exact zs_iretP dX11_isSet_20 rfl

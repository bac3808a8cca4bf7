theorem dX0_init_0 : decode cX0_init 0 = .ok (.aload_n 0, 1) := by decide +kernel
theorem dX0_init_1 : decode cX0_init 1 = .ok (.invokespecial 3, 3) := by decide +kernel
theorem dX0_init_4 : decode cX0_init 4 = .ok (.aload_n 0, 1) := by decide +kernel
theorem dX0_init_5 : decode cX0_init 5 = .ok (.bipush 14, 2) := by decide +kernel
theorem dX0_init_7 : decode cX0_init 7 = .ok (.newarray .int, 2) := by decide +kernel
theorem dX0_init_9 : decode cX0_init 9 = .ok (.putfield 9, 3) := by decide +kernel
theorem dX0_init_12 : decode cX0_init 12 = .ok (.return_, 1) := by decide +kernel
def fp_X0_init (v0 : Nat) (M : zM) : Option (zM) :=
  zthis 0 M v0 (
    (zna 100 M 14).bind fun p3 => zpp p3 fun (q1 : Nat) (M2 : zM) =>
    (zpR 0 M2 v0 4 q1).bind fun (M4 : zM) =>
    some M4)
set_option maxHeartbeats 4000000 in
set_option maxRecDepth 100000 in
theorem th_X0_init {v0 : Nat} {M : zM} {x0 : zM} (h : fp_X0_init v0 M = some x0) : v0 < zS M ∧ kd v0 = 0 := by
  unfold fp_X0_init at h
  exact zthis_of h
set_option maxHeartbeats 4000000 in
set_option maxRecDepth 100000 in
theorem ct_X0_init (E : zEnv) (hE : zEok E) (d : Nat) (hd : 2 ≤ d) (v0 : Nat) (M : zM) (x0 : zM) (hx : fp_X0_init v0 M = some x0) : zCt E mu_X0_init d [.ref (E.2.2.2.1 + v0)] M (none, x0) := by
  refine zCt_of (μ := mu_X0_init) (t := fp_X0_init v0 M) rfl rfl (Nat.le_of_ble_eq_true rfl) hx ?_
  change zSy E mu_X0_init d M (none, x0) x0 (fp_X0_init v0 M) 0 [(0, .ref (E.2.2.2.1 + v0))] [] M
  unfold fp_X0_init
  refine zs_this (fun hth => ?_)
  refine zs_aload_n dX0_init_0 rfl 0 rfl ?_
  refine zs_objInit dX0_init_1 (ti_1 212 rfl rfl) mi_oinit mc_oinit (zd0 rfl hd) (Nat.le_of_ble_eq_true rfl) ?_
  refine zs_aload_n dX0_init_4 rfl 0 rfl ?_
  refine zs_bipush (v := 14) dX0_init_5 cbipush_14 ?_
  refine zs_newA dX0_init_7 rfl (by decide) (ti_1 44 rfl rfl) (fun q1 M2 => ?_)
  refine zs_putRF dX0_init_9 fl_X0_9 ft_X0 rfl rfl rfl rfl rfl rfl rfl (fun M4 => ?_)
  exact zs_vret dX0_init_12 trivial
theorem dX0_begin_0 : decode cX0_begin 0 = .ok (.aload_n 0, 1) := by decide +kernel
theorem dX0_begin_1 : decode cX0_begin 1 = .ok (.iload_n 1, 1) := by decide +kernel
theorem dX0_begin_2 : decode cX0_begin 2 = .ok (.putfield 15, 3) := by decide +kernel
theorem dX0_begin_5 : decode cX0_begin 5 = .ok (.return_, 1) := by decide +kernel
def fp_X0_begin (v0 : Nat) (v1 : Int32) (M : zM) : Option (zM) :=
  zthis 0 M v0 (
    (zpI 0 M v0 3 v1).bind fun (M1 : zM) =>
    some M1)
set_option maxHeartbeats 4000000 in
set_option maxRecDepth 100000 in
theorem th_X0_begin {v0 : Nat} {v1 : Int32} {M : zM} {x0 : zM} (h : fp_X0_begin v0 v1 M = some x0) : v0 < zS M ∧ kd v0 = 0 := by
  unfold fp_X0_begin at h
  exact zthis_of h
set_option maxHeartbeats 4000000 in
set_option maxRecDepth 100000 in
theorem ct_X0_begin (E : zEnv) (hE : zEok E) (d : Nat) (hd : 1 ≤ d) (v0 : Nat) (v1 : Int32) (M : zM) (x0 : zM) (hx : fp_X0_begin v0 v1 M = some x0) : zCt E mu_X0_begin d [.ref (E.2.2.2.1 + v0), .int v1] M (none, x0) := by
  refine zCt_of (μ := mu_X0_begin) (t := fp_X0_begin v0 v1 M) rfl rfl (Nat.le_of_ble_eq_true rfl) hx ?_
  change zSy E mu_X0_begin d M (none, x0) x0 (fp_X0_begin v0 v1 M) 0 [(0, .ref (E.2.2.2.1 + v0)), (1, .int v1)] [] M
  unfold fp_X0_begin
  refine zs_this (fun hth => ?_)
  refine zs_aload_n dX0_begin_0 rfl 0 rfl ?_
  refine zs_iload_n dX0_begin_1 rfl 1 rfl ?_
  refine zs_putI dX0_begin_2 fl_X0_15 ft_X0 rfl rfl rfl rfl rfl (fun M1 => ?_)
  exact zs_vret dX0_begin_5 trivial
theorem dX0_draw_0 : decode cX0_draw 0 = .ok (.aload_n 0, 1) := by decide +kernel
theorem dX0_draw_1 : decode cX0_draw 1 = .ok (.aload_n 0, 1) := by decide +kernel
theorem dX0_draw_2 : decode cX0_draw 2 = .ok (.getfield 15, 3) := by decide +kernel
theorem dX0_draw_5 : decode cX0_draw 5 = .ok (.sipush 4093, 3) := by decide +kernel
theorem dX0_draw_8 : decode cX0_draw 8 = .ok (.imul, 1) := by decide +kernel
theorem dX0_draw_9 : decode cX0_draw 9 = .ok (.sipush 18257, 3) := by decide +kernel
theorem dX0_draw_12 : decode cX0_draw 12 = .ok (.iadd, 1) := by decide +kernel
theorem dX0_draw_13 : decode cX0_draw 13 = .ok (.ldc 19, 2) := by decide +kernel
theorem dX0_draw_15 : decode cX0_draw 15 = .ok (.irem, 1) := by decide +kernel
theorem dX0_draw_16 : decode cX0_draw 16 = .ok (.putfield 15, 3) := by decide +kernel
theorem dX0_draw_19 : decode cX0_draw 19 = .ok (.iload_n 1, 1) := by decide +kernel
theorem dX0_draw_20 : decode cX0_draw 20 = .ok (.ifCond .le 15, 3) := by decide +kernel
theorem dX0_draw_23 : decode cX0_draw 23 = .ok (.aload_n 0, 1) := by decide +kernel
theorem dX0_draw_24 : decode cX0_draw 24 = .ok (.getfield 15, 3) := by decide +kernel
theorem dX0_draw_27 : decode cX0_draw 27 = .ok (.bipush 8, 2) := by decide +kernel
theorem dX0_draw_29 : decode cX0_draw 29 = .ok (.idiv, 1) := by decide +kernel
theorem dX0_draw_30 : decode cX0_draw 30 = .ok (.iload_n 1, 1) := by decide +kernel
theorem dX0_draw_31 : decode cX0_draw 31 = .ok (.irem, 1) := by decide +kernel
theorem dX0_draw_32 : decode cX0_draw 32 = .ok (.goto 4, 3) := by decide +kernel
theorem dX0_draw_35 : decode cX0_draw 35 = .ok (.iconst 0, 1) := by decide +kernel
theorem dX0_draw_36 : decode cX0_draw 36 = .ok (.ireturn, 1) := by decide +kernel
def fp_X0_draw (v0 : Nat) (v1 : Int32) (M : zM) : Option (Int32 × zM) :=
  zthis 0 M v0 (
    (zgI 0 M v0 3).bind fun (y1 : Int32) =>
    (zpI 0 M v0 3 (((y1 * 4093) + 18257) - ((y1 * 4093) + 18257) / 65536 * 65536)).bind fun (M2 : zM) =>
    if v1 ≤ 0 then (
      some (0, M2))
    else (
      (zgI 0 M2 v0 3).bind fun (y3 : Int32) =>
      (zrm (y3 / 8) v1).bind fun (y4 : Int32) =>
      some (y4, M2)))
set_option maxHeartbeats 4000000 in
set_option maxRecDepth 100000 in
theorem th_X0_draw {v0 : Nat} {v1 : Int32} {M : zM} {x0 : Int32 × zM} (h : fp_X0_draw v0 v1 M = some x0) : v0 < zS M ∧ kd v0 = 0 := by
  unfold fp_X0_draw at h
  exact zthis_of h
set_option maxHeartbeats 4000000 in
set_option maxRecDepth 100000 in
theorem ct_X0_draw (E : zEnv) (hE : zEok E) (d : Nat) (hd : 1 ≤ d) (v0 : Nat) (v1 : Int32) (M : zM) (x0 : Int32 × zM) (hx : fp_X0_draw v0 v1 M = some x0) : zCt E mu_X0_draw d [.ref (E.2.2.2.1 + v0), .int v1] M (some (.int x0.1), x0.2) := by
  refine zCt_of (μ := mu_X0_draw) (t := fp_X0_draw v0 v1 M) rfl rfl (Nat.le_of_ble_eq_true rfl) hx ?_
  change zSy E mu_X0_draw d M (some (.int x0.1), x0.2) x0 (fp_X0_draw v0 v1 M) 0 [(0, .ref (E.2.2.2.1 + v0)), (1, .int v1)] [] M
  unfold fp_X0_draw
  refine zs_this (fun hth => ?_)
  refine zs_aload_n dX0_draw_0 rfl 0 rfl ?_
  refine zs_aload_n dX0_draw_1 rfl 0 rfl ?_
  refine zs_getI dX0_draw_2 fl_X0_15 rfl (fun y1 => ?_)
  refine zs_sipush (v := 4093) dX0_draw_5 csipush_4093 ?_
  refine zs_imul dX0_draw_8 ?_
  refine zs_sipush (v := 18257) dX0_draw_9 csipush_18257 ?_
  refine zs_iadd dX0_draw_12 ?_
  refine zs_ldc (v := 65536) dX0_draw_13 (ti_5 77 rfl rfl) ?_
  refine zs_iremK dX0_draw_15 (by decide) ?_
  refine zs_putI dX0_draw_16 fl_X0_15 ft_X0 rfl rfl rfl rfl rfl (fun M2 => ?_)
  refine zs_iload_n dX0_draw_19 rfl 1 rfl ?_
  refine zs_if_le dX0_draw_20 rfl ?_ ?_
  · refine zs_iconst (v := 0) dX0_draw_35 ciconst_0 ?_
    exact zs_iretW dX0_draw_36 rfl
  refine zs_aload_n dX0_draw_23 rfl 0 rfl ?_
  refine zs_getI dX0_draw_24 fl_X0_15 rfl (fun y3 => ?_)
  refine zs_bipush (v := 8) dX0_draw_27 cbipush_8 ?_
  refine zs_idivK dX0_draw_29 (by decide) ?_
  refine zs_iload_n dX0_draw_30 rfl 1 rfl ?_
  refine zs_irem dX0_draw_31 (fun y4 => ?_)
  refine zs_goto dX0_draw_32 rfl ?_
  exact zs_iretW dX0_draw_36 rfl
theorem dX5_crossing_0 : decode cX5_crossing 0 = .ok (.iconst 0, 1) := by decide +kernel
theorem dX5_crossing_1 : decode cX5_crossing 1 = .ok (.istore 4, 2) := by decide +kernel
theorem dX5_crossing_3 : decode cX5_crossing 3 = .ok (.iconst 0, 1) := by decide +kernel
theorem dX5_crossing_4 : decode cX5_crossing 4 = .ok (.istore 5, 2) := by decide +kernel
theorem dX5_crossing_6 : decode cX5_crossing 6 = .ok (.iconst 0, 1) := by decide +kernel
theorem dX5_crossing_7 : decode cX5_crossing 7 = .ok (.istore 6, 2) := by decide +kernel
theorem dX5_crossing_9 : decode cX5_crossing 9 = .ok (.iload 6, 2) := by decide +kernel
theorem dX5_crossing_11 : decode cX5_crossing 11 = .ok (.iload_n 1, 1) := by decide +kernel
theorem dX5_crossing_12 : decode cX5_crossing 12 = .ok (.if_icmp .ge 55, 3) := by decide +kernel
theorem dX5_crossing_15 : decode cX5_crossing 15 = .ok (.iload 6, 2) := by decide +kernel
theorem dX5_crossing_17 : decode cX5_crossing 17 = .ok (.aload_n 0, 1) := by decide +kernel
theorem dX5_crossing_18 : decode cX5_crossing 18 = .ok (.arraylength, 1) := by decide +kernel
theorem dX5_crossing_19 : decode cX5_crossing 19 = .ok (.if_icmp .ge 48, 3) := by decide +kernel
theorem dX5_crossing_22 : decode cX5_crossing 22 = .ok (.aload_n 0, 1) := by decide +kernel
theorem dX5_crossing_23 : decode cX5_crossing 23 = .ok (.iload 6, 2) := by decide +kernel
theorem dX5_crossing_25 : decode cX5_crossing 25 = .ok (.iaload, 1) := by decide +kernel
theorem dX5_crossing_26 : decode cX5_crossing 26 = .ok (.iload_n 2, 1) := by decide +kernel
theorem dX5_crossing_27 : decode cX5_crossing 27 = .ok (.if_icmp .ne 18, 3) := by decide +kernel
theorem dX5_crossing_30 : decode cX5_crossing 30 = .ok (.iload 4, 2) := by decide +kernel
theorem dX5_crossing_32 : decode cX5_crossing 32 = .ok (.ifCond .ne 7, 3) := by decide +kernel
theorem dX5_crossing_35 : decode cX5_crossing 35 = .ok (.iconst 1, 1) := by decide +kernel
theorem dX5_crossing_36 : decode cX5_crossing 36 = .ok (.goto 4, 3) := by decide +kernel
theorem dX5_crossing_39 : decode cX5_crossing 39 = .ok (.iconst 0, 1) := by decide +kernel
theorem dX5_crossing_40 : decode cX5_crossing 40 = .ok (.istore 4, 2) := by decide +kernel
theorem dX5_crossing_42 : decode cX5_crossing 42 = .ok (.goto 19, 3) := by decide +kernel
theorem dX5_crossing_45 : decode cX5_crossing 45 = .ok (.iload 4, 2) := by decide +kernel
theorem dX5_crossing_47 : decode cX5_crossing 47 = .ok (.ifCond .eq 14, 3) := by decide +kernel
theorem dX5_crossing_50 : decode cX5_crossing 50 = .ok (.aload_n 0, 1) := by decide +kernel
theorem dX5_crossing_51 : decode cX5_crossing 51 = .ok (.iload 6, 2) := by decide +kernel
theorem dX5_crossing_53 : decode cX5_crossing 53 = .ok (.iaload, 1) := by decide +kernel
theorem dX5_crossing_54 : decode cX5_crossing 54 = .ok (.iload_n 3, 1) := by decide +kernel
theorem dX5_crossing_55 : decode cX5_crossing 55 = .ok (.if_icmp .ne 6, 3) := by decide +kernel
theorem dX5_crossing_58 : decode cX5_crossing 58 = .ok (.iinc 5 1, 3) := by decide +kernel
theorem dX5_crossing_61 : decode cX5_crossing 61 = .ok (.iinc 6 1, 3) := by decide +kernel
theorem dX5_crossing_64 : decode cX5_crossing 64 = .ok (.goto (-55), 3) := by decide +kernel
theorem dX5_crossing_67 : decode cX5_crossing 67 = .ok (.iload 5, 2) := by decide +kernel
theorem dX5_crossing_69 : decode cX5_crossing 69 = .ok (.iconst 1, 1) := by decide +kernel
theorem dX5_crossing_70 : decode cX5_crossing 70 = .ok (.if_icmp .ne 7, 3) := by decide +kernel
theorem dX5_crossing_73 : decode cX5_crossing 73 = .ok (.iconst 1, 1) := by decide +kernel
theorem dX5_crossing_74 : decode cX5_crossing 74 = .ok (.goto 4, 3) := by decide +kernel
theorem dX5_crossing_77 : decode cX5_crossing 77 = .ok (.iconst 0, 1) := by decide +kernel
theorem dX5_crossing_78 : decode cX5_crossing 78 = .ok (.ireturn, 1) := by decide +kernel
def fp_X5_crossing_L9 (k67 : Int32 → Option (Int32)) (v0 : Nat) (v1 : Int32) (v2 : Int32) (v3 : Int32) (M : zM) : Nat → Int32 → Int32 → Int32 → Option (Int32)
  | 0, _, _, _ => none
  | n + 1, v4, v5, v6 =>
    if v6 ≥ v1 then (
      k67 v5)
    else (
      (zln M v0).bind fun (y1 : Int32) =>
      if v6 ≥ y1 then (
        k67 v5)
      else (
        (zlI 100 M v0 v6).bind fun (y2 : Int32) =>
        zjn (fun (v4_3 : Int32) (v5_4 : Int32) =>
            fp_X5_crossing_L9 k67 v0 v1 v2 v3 M n v4_3 v5_4 (v6 + 1))
          (fun j61 =>
            if y2 ≠ v2 then (
              if v4 = 0 then (
                j61 v4 v5)
              else (
                (zlI 100 M v0 v6).bind fun (y5 : Int32) =>
                if y5 ≠ v3 then (
                  j61 v4 v5)
                else (
                  j61 v4 (v5 + 1))))
            else (
              zjn (fun (s6 : Int32) =>
                  j61 s6 v5)
                (fun j40 =>
                  if v4 ≠ 0 then (
                    j40 0)
                  else (
                    j40 1))))))
def fp_X5_crossing (v0 : Nat) (v1 : Int32) (v2 : Int32) (v3 : Int32) (M : zM) : Option (Int32) :=
  fp_X5_crossing_L9
    (fun v5_7 =>
      if v5_7 ≠ 1 then (
        some 0)
      else (
        some 1)) v0 v1 v2 v3 M FU 0 0 0
set_option maxHeartbeats 4000000 in
set_option maxRecDepth 100000 in
theorem w_X5_crossing_L9 (E : zEnv) (hE : zEok E) (d : Nat) (hd : 1 ≤ d) (x0 : Int32) (v0 : Nat) (v1 : Int32) (v2 : Int32) (v3 : Int32) (M : zM) (k67 : Int32 → Option (Int32)) (hk67 : ∀ (v5 : Int32), zSy E mu_X5_crossing d M (some (.int x0), M) x0 (k67 v5) 67 [(5, .int v5)] [] M) : ∀ (n : Nat) (v4 : Int32) (v5 : Int32) (v6 : Int32), zSy E mu_X5_crossing d M (some (.int x0), M) x0 (fp_X5_crossing_L9 k67 v0 v1 v2 v3 M n v4 v5 v6) 9 [(0, .ref (E.2.2.2.1 + v0)), (1, .int v1), (2, .int v2), (3, .int v3), (4, .int v4), (5, .int v5), (6, .int v6)] [] M := by
  intro n
  induction n with
  | zero =>
    intro v4 v5 v6
    rw [fp_X5_crossing_L9]
    exact zs_none
  | succ n ih =>
    intro v4 v5 v6
    rw [fp_X5_crossing_L9]
    refine zs_iload dX5_crossing_9 6 rfl ?_
    refine zs_iload_n dX5_crossing_11 rfl 1 rfl ?_
    refine zs_icmp_ge dX5_crossing_12 rfl ?_ ?_
    · refine zs_sub (loc' := [(5, .int v5)]) [5] rfl ?_
      exact hk67 v5
    refine zs_iload dX5_crossing_15 6 rfl ?_
    refine zs_aload_n dX5_crossing_17 rfl 0 rfl ?_
    refine zs_alen dX5_crossing_18 (fun y1 => ?_)
    refine zs_icmp_ge dX5_crossing_19 rfl ?_ ?_
    · refine zs_sub (loc' := [(5, .int v5)]) [5] rfl ?_
      exact hk67 v5
    refine zs_aload_n dX5_crossing_22 rfl 0 rfl ?_
    refine zs_iload dX5_crossing_23 6 rfl ?_
    refine zs_ldI dX5_crossing_25 (fun y2 => ?_)
    refine zs_iload_n dX5_crossing_26 rfl 2 rfl ?_
    refine zs_jn (fun j61 => ∀ (v4_3 : Int32) (v5_4 : Int32), zSy E mu_X5_crossing d M (some (.int x0), M) x0 (j61 v4_3 v5_4) 61 [(0, .ref (E.2.2.2.1 + v0)), (1, .int v1), (2, .int v2), (3, .int v3), (4, .int v4_3), (5, .int v5_4), (6, .int v6)] [] M) (fun v4_3 v5_4 => ?_) (fun j61 hj61 => ?_)
    · refine zs_iinc (v := (v6 + 1)) (loc' := [(0, .ref (E.2.2.2.1 + v0)), (1, .int v1), (2, .int v2), (3, .int v3), (4, .int v4_3), (5, .int v5_4), (6, .int (v6 + 1))]) dX5_crossing_61 6 rfl (by rfl) (Nat.le_of_ble_eq_true rfl) [1, 2, 3, 4, 5, 6, 0] rfl ?_
      refine zs_goto dX5_crossing_64 rfl ?_
      exact ih v4_3 v5_4 (v6 + 1)
    refine zs_icmp_ne dX5_crossing_27 rfl ?_ ?_
    · refine zs_iload dX5_crossing_45 4 rfl ?_
      refine zs_if_eq dX5_crossing_47 rfl ?_ ?_
      · exact hj61 v4 v5
      refine zs_aload_n dX5_crossing_50 rfl 0 rfl ?_
      refine zs_iload dX5_crossing_51 6 rfl ?_
      refine zs_ldI dX5_crossing_53 (fun y5 => ?_)
      refine zs_iload_n dX5_crossing_54 rfl 3 rfl ?_
      refine zs_icmp_ne dX5_crossing_55 rfl ?_ ?_
      · exact hj61 v4 v5
      refine zs_iinc (v := (v5 + 1)) (loc' := [(0, .ref (E.2.2.2.1 + v0)), (1, .int v1), (2, .int v2), (3, .int v3), (4, .int v4), (5, .int (v5 + 1)), (6, .int v6)]) dX5_crossing_58 5 rfl (by rfl) (Nat.le_of_ble_eq_true rfl) [1, 2, 3, 4, 5, 0, 6] rfl ?_
      exact hj61 v4 (v5 + 1)
    refine zs_iload dX5_crossing_30 4 rfl ?_
    refine zs_jn (fun j40 => ∀ (s6 : Int32), zSy E mu_X5_crossing d M (some (.int x0), M) x0 (j40 s6) 40 [(0, .ref (E.2.2.2.1 + v0)), (1, .int v1), (2, .int v2), (3, .int v3), (5, .int v5), (6, .int v6)] [.int s6] M) (fun s6 => ?_) (fun j40 hj40 => ?_)
    · refine zs_istore (loc' := [(0, .ref (E.2.2.2.1 + v0)), (1, .int v1), (2, .int v2), (3, .int v3), (4, .int s6), (5, .int v5), (6, .int v6)]) dX5_crossing_40 (Nat.le_of_ble_eq_true rfl) [1, 2, 3, 4, 0, 5, 6] rfl ?_
      refine zs_goto dX5_crossing_42 rfl ?_
      exact hj61 s6 v5
    refine zs_if_ne dX5_crossing_32 rfl ?_ ?_
    · refine zs_iconst (v := 0) dX5_crossing_39 ciconst_0 ?_
      refine zs_sub (loc' := [(0, .ref (E.2.2.2.1 + v0)), (1, .int v1), (2, .int v2), (3, .int v3), (5, .int v5), (6, .int v6)]) [0, 1, 2, 3, 5, 6] rfl ?_
      exact hj40 0
    refine zs_iconst (v := 1) dX5_crossing_35 ciconst_1 ?_
    refine zs_goto dX5_crossing_36 rfl ?_
    refine zs_sub (loc' := [(0, .ref (E.2.2.2.1 + v0)), (1, .int v1), (2, .int v2), (3, .int v3), (5, .int v5), (6, .int v6)]) [0, 1, 2, 3, 5, 6] rfl ?_
    exact hj40 1
set_option maxHeartbeats 4000000 in
set_option maxRecDepth 100000 in
theorem ct_X5_crossing (E : zEnv) (hE : zEok E) (d : Nat) (hd : 1 ≤ d) (v0 : Nat) (v1 : Int32) (v2 : Int32) (v3 : Int32) (M : zM) (x0 : Int32) (hx : fp_X5_crossing v0 v1 v2 v3 M = some x0) : zCt E mu_X5_crossing d [.ref (E.2.2.2.1 + v0), .int v1, .int v2, .int v3] M (some (.int x0), M) := by
  refine zCt_of (μ := mu_X5_crossing) (t := fp_X5_crossing v0 v1 v2 v3 M) rfl rfl (Nat.le_of_ble_eq_true rfl) hx ?_
  change zSy E mu_X5_crossing d M (some (.int x0), M) x0 (fp_X5_crossing v0 v1 v2 v3 M) 0 [(0, .ref (E.2.2.2.1 + v0)), (1, .int v1), (2, .int v2), (3, .int v3)] [] M
  unfold fp_X5_crossing
  refine zs_iconst (v := 0) dX5_crossing_0 ciconst_0 ?_
  refine zs_istore (loc' := [(0, .ref (E.2.2.2.1 + v0)), (1, .int v1), (2, .int v2), (3, .int v3), (4, .int 0)]) dX5_crossing_1 (Nat.le_of_ble_eq_true rfl) [1, 2, 3, 4, 0] rfl ?_
  refine zs_iconst (v := 0) dX5_crossing_3 ciconst_0 ?_
  refine zs_istore (loc' := [(0, .ref (E.2.2.2.1 + v0)), (1, .int v1), (2, .int v2), (3, .int v3), (4, .int 0), (5, .int 0)]) dX5_crossing_4 (Nat.le_of_ble_eq_true rfl) [1, 2, 3, 4, 5, 0] rfl ?_
  refine zs_iconst (v := 0) dX5_crossing_6 ciconst_0 ?_
  refine zs_istore (loc' := [(0, .ref (E.2.2.2.1 + v0)), (1, .int v1), (2, .int v2), (3, .int v3), (4, .int 0), (5, .int 0), (6, .int 0)]) dX5_crossing_7 (Nat.le_of_ble_eq_true rfl) [1, 2, 3, 4, 5, 6, 0] rfl ?_
  refine w_X5_crossing_L9 E hE d hd _ _ _ _ _ _ _ (fun v5_7 => ?_) _ _ _ _
  refine zs_iload dX5_crossing_67 0 rfl ?_
  refine zs_iconst (v := 1) dX5_crossing_69 ciconst_1 ?_
  refine zs_icmp_ne dX5_crossing_70 rfl ?_ ?_
  · refine zs_iconst (v := 0) dX5_crossing_77 ciconst_0 ?_
    exact zs_iretP dX5_crossing_78 rfl
  refine zs_iconst (v := 1) dX5_crossing_73 ciconst_1 ?_
  refine zs_goto dX5_crossing_74 rfl ?_
  exact zs_iretP dX5_crossing_78 rfl
theorem dX2_pair_0 : decode cX2_pair 0 = .ok (.iload_n 0, 1) := by decide +kernel
theorem dX2_pair_1 : decode cX2_pair 1 = .ok (.iload_n 1, 1) := by decide +kernel
theorem dX2_pair_2 : decode cX2_pair 2 = .ok (.if_icmp .le 15, 3) := by decide +kernel
theorem dX2_pair_5 : decode cX2_pair 5 = .ok (.iload_n 0, 1) := by decide +kernel
theorem dX2_pair_6 : decode cX2_pair 6 = .ok (.iload_n 0, 1) := by decide +kernel
theorem dX2_pair_7 : decode cX2_pair 7 = .ok (.iconst 1, 1) := by decide +kernel
theorem dX2_pair_8 : decode cX2_pair 8 = .ok (.isub, 1) := by decide +kernel
theorem dX2_pair_9 : decode cX2_pair 9 = .ok (.imul, 1) := by decide +kernel
theorem dX2_pair_10 : decode cX2_pair 10 = .ok (.iconst 2, 1) := by decide +kernel
theorem dX2_pair_11 : decode cX2_pair 11 = .ok (.idiv, 1) := by decide +kernel
theorem dX2_pair_12 : decode cX2_pair 12 = .ok (.iload_n 1, 1) := by decide +kernel
theorem dX2_pair_13 : decode cX2_pair 13 = .ok (.iadd, 1) := by decide +kernel
theorem dX2_pair_14 : decode cX2_pair 14 = .ok (.goto 12, 3) := by decide +kernel
theorem dX2_pair_17 : decode cX2_pair 17 = .ok (.iload_n 1, 1) := by decide +kernel
theorem dX2_pair_18 : decode cX2_pair 18 = .ok (.iload_n 1, 1) := by decide +kernel
theorem dX2_pair_19 : decode cX2_pair 19 = .ok (.iconst 1, 1) := by decide +kernel
theorem dX2_pair_20 : decode cX2_pair 20 = .ok (.isub, 1) := by decide +kernel
theorem dX2_pair_21 : decode cX2_pair 21 = .ok (.imul, 1) := by decide +kernel
theorem dX2_pair_22 : decode cX2_pair 22 = .ok (.iconst 2, 1) := by decide +kernel
theorem dX2_pair_23 : decode cX2_pair 23 = .ok (.idiv, 1) := by decide +kernel
theorem dX2_pair_24 : decode cX2_pair 24 = .ok (.iload_n 0, 1) := by decide +kernel
theorem dX2_pair_25 : decode cX2_pair 25 = .ok (.iadd, 1) := by decide +kernel
theorem dX2_pair_26 : decode cX2_pair 26 = .ok (.ireturn, 1) := by decide +kernel
def fp_X2_pair (v0 : Int32) (v1 : Int32) : Option (Int32) :=
  if v0 ≤ v1 then (
    some (((v1 * (v1 - 1)) / 2) + v0))
  else (
    some (((v0 * (v0 - 1)) / 2) + v1))
set_option maxHeartbeats 4000000 in
set_option maxRecDepth 100000 in
theorem ct_X2_pair (E : zEnv) (hE : zEok E) (d : Nat) (hd : 1 ≤ d) (v0 : Int32) (v1 : Int32) (M : zM) (x0 : Int32) (hx : fp_X2_pair v0 v1 = some x0) : zCt E mu_X2_pair d [.int v0, .int v1] M (some (.int x0), M) := by
  refine zCt_of (μ := mu_X2_pair) (t := fp_X2_pair v0 v1) rfl rfl (Nat.le_of_ble_eq_true rfl) hx ?_
  change zSy E mu_X2_pair d M (some (.int x0), M) x0 (fp_X2_pair v0 v1) 0 [(0, .int v0), (1, .int v1)] [] M
  unfold fp_X2_pair
  refine zs_iload_n dX2_pair_0 rfl 0 rfl ?_
  refine zs_iload_n dX2_pair_1 rfl 1 rfl ?_
  refine zs_icmp_le dX2_pair_2 rfl ?_ ?_
  · refine zs_iload_n dX2_pair_17 rfl 1 rfl ?_
    refine zs_iload_n dX2_pair_18 rfl 1 rfl ?_
    refine zs_iconst (v := 1) dX2_pair_19 ciconst_1 ?_
    refine zs_isub dX2_pair_20 ?_
    refine zs_imul dX2_pair_21 ?_
    refine zs_iconst (v := 2) dX2_pair_22 ciconst_2 ?_
    refine zs_idivK dX2_pair_23 (by decide) ?_
    refine zs_iload_n dX2_pair_24 rfl 0 rfl ?_
    refine zs_iadd dX2_pair_25 ?_
    exact zs_iretP dX2_pair_26 rfl
  refine zs_iload_n dX2_pair_5 rfl 0 rfl ?_
  refine zs_iload_n dX2_pair_6 rfl 0 rfl ?_
  refine zs_iconst (v := 1) dX2_pair_7 ciconst_1 ?_
  refine zs_isub dX2_pair_8 ?_
  refine zs_imul dX2_pair_9 ?_
  refine zs_iconst (v := 2) dX2_pair_10 ciconst_2 ?_
  refine zs_idivK dX2_pair_11 (by decide) ?_
  refine zs_iload_n dX2_pair_12 rfl 1 rfl ?_
  refine zs_iadd dX2_pair_13 ?_
  refine zs_goto dX2_pair_14 rfl ?_
  exact zs_iretP dX2_pair_26 rfl
theorem dX5_crossings_0 : decode cX5_crossings 0 = .ok (.iconst 0, 1) := by decide +kernel
theorem dX5_crossings_1 : decode cX5_crossings 1 = .ok (.istore_n 2, 1) := by decide +kernel
theorem dX5_crossings_2 : decode cX5_crossings 2 = .ok (.iconst 1, 1) := by decide +kernel
theorem dX5_crossings_3 : decode cX5_crossings 3 = .ok (.istore_n 3, 1) := by decide +kernel
theorem dX5_crossings_4 : decode cX5_crossings 4 = .ok (.iload_n 3, 1) := by decide +kernel
theorem dX5_crossings_5 : decode cX5_crossings 5 = .ok (.iload_n 1, 1) := by decide +kernel
theorem dX5_crossings_6 : decode cX5_crossings 6 = .ok (.if_icmp .ge 48, 3) := by decide +kernel
theorem dX5_crossings_9 : decode cX5_crossings 9 = .ok (.iconst 0, 1) := by decide +kernel
theorem dX5_crossings_10 : decode cX5_crossings 10 = .ok (.istore 4, 2) := by decide +kernel
theorem dX5_crossings_12 : decode cX5_crossings 12 = .ok (.iload 4, 2) := by decide +kernel
theorem dX5_crossings_14 : decode cX5_crossings 14 = .ok (.iload_n 3, 1) := by decide +kernel
theorem dX5_crossings_15 : decode cX5_crossings 15 = .ok (.if_icmp .ge 33, 3) := by decide +kernel
theorem dX5_crossings_18 : decode cX5_crossings 18 = .ok (.aload_n 0, 1) := by decide +kernel
theorem dX5_crossings_19 : decode cX5_crossings 19 = .ok (.iconst 2, 1) := by decide +kernel
theorem dX5_crossings_20 : decode cX5_crossings 20 = .ok (.iload_n 1, 1) := by decide +kernel
theorem dX5_crossings_21 : decode cX5_crossings 21 = .ok (.imul, 1) := by decide +kernel
theorem dX5_crossings_22 : decode cX5_crossings 22 = .ok (.iload 4, 2) := by decide +kernel
theorem dX5_crossings_24 : decode cX5_crossings 24 = .ok (.iload_n 3, 1) := by decide +kernel
theorem dX5_crossings_25 : decode cX5_crossings 25 = .ok (.invokestatic 9, 3) := by decide +kernel
theorem dX5_crossings_28 : decode cX5_crossings 28 = .ok (.ifCond .eq 14, 3) := by decide +kernel
theorem dX5_crossings_31 : decode cX5_crossings 31 = .ok (.iload_n 2, 1) := by decide +kernel
theorem dX5_crossings_32 : decode cX5_crossings 32 = .ok (.iconst 1, 1) := by decide +kernel
theorem dX5_crossings_33 : decode cX5_crossings 33 = .ok (.iload 4, 2) := by decide +kernel
theorem dX5_crossings_35 : decode cX5_crossings 35 = .ok (.iload_n 3, 1) := by decide +kernel
theorem dX5_crossings_36 : decode cX5_crossings 36 = .ok (.invokestatic 15, 3) := by decide +kernel
theorem dX5_crossings_39 : decode cX5_crossings 39 = .ok (.ishl, 1) := by decide +kernel
theorem dX5_crossings_40 : decode cX5_crossings 40 = .ok (.ior, 1) := by decide +kernel
theorem dX5_crossings_41 : decode cX5_crossings 41 = .ok (.istore_n 2, 1) := by decide +kernel
theorem dX5_crossings_42 : decode cX5_crossings 42 = .ok (.iinc 4 1, 3) := by decide +kernel
theorem dX5_crossings_45 : decode cX5_crossings 45 = .ok (.goto (-33), 3) := by decide +kernel
theorem dX5_crossings_48 : decode cX5_crossings 48 = .ok (.iinc 3 1, 3) := by decide +kernel
theorem dX5_crossings_51 : decode cX5_crossings 51 = .ok (.goto (-47), 3) := by decide +kernel
theorem dX5_crossings_54 : decode cX5_crossings 54 = .ok (.iload_n 2, 1) := by decide +kernel
theorem dX5_crossings_55 : decode cX5_crossings 55 = .ok (.ireturn, 1) := by decide +kernel
def fp_X5_crossings_L12 (k48 : Int32 → Option (Int32)) (v0 : Nat) (v1 : Int32) (v3 : Int32) (M : zM) : Nat → Int32 → Int32 → Option (Int32)
  | 0, _, _ => none
  | n + 1, v2, v4 =>
    if v4 ≥ v3 then (
      k48 v2)
    else (
      (fp_X5_crossing v0 (2 * v1) v4 v3 M).bind fun (y1 : Int32) =>
      zjn (fun (v2_2 : Int32) =>
          fp_X5_crossings_L12 k48 v0 v1 v3 M n v2_2 (v4 + 1))
        (fun j42 =>
          if y1 = 0 then (
            j42 v2)
          else (
            (fp_X2_pair v4 v3).bind fun (y3 : Int32) =>
            lett ((v2 ||| (1 <<< (y3 &&& 31)))) fun (v2_4 : Int32) =>
            j42 v2_4)))
def fp_X5_crossings_L4 (v0 : Nat) (v1 : Int32) (M : zM) : Nat → Int32 → Int32 → Option (Int32)
  | 0, _, _ => none
  | n + 1, v2, v3 =>
    if v3 ≥ v1 then (
      some v2)
    else (
      fp_X5_crossings_L12
        (fun v2_5 =>
          fp_X5_crossings_L4 v0 v1 M n v2_5 (v3 + 1)) v0 v1 v3 M FU v2 0)
def fp_X5_crossings (v0 : Nat) (v1 : Int32) (M : zM) : Option (Int32) :=
  fp_X5_crossings_L4 v0 v1 M FU 0 1
set_option maxHeartbeats 4000000 in
set_option maxRecDepth 100000 in
theorem w_X5_crossings_L12 (E : zEnv) (hE : zEok E) (d : Nat) (hd : 2 ≤ d) (x0 : Int32) (v0 : Nat) (v1 : Int32) (v3 : Int32) (M : zM) (k48 : Int32 → Option (Int32)) (hk48 : ∀ (v2 : Int32), zSy E mu_X5_crossings d M (some (.int x0), M) x0 (k48 v2) 48 [(0, .ref (E.2.2.2.1 + v0)), (1, .int v1), (2, .int v2), (3, .int v3)] [] M) : ∀ (n : Nat) (v2 : Int32) (v4 : Int32), zSy E mu_X5_crossings d M (some (.int x0), M) x0 (fp_X5_crossings_L12 k48 v0 v1 v3 M n v2 v4) 12 [(0, .ref (E.2.2.2.1 + v0)), (1, .int v1), (2, .int v2), (3, .int v3), (4, .int v4)] [] M := by
  intro n
  induction n with
  | zero =>
    intro v2 v4
    rw [fp_X5_crossings_L12]
    exact zs_none
  | succ n ih =>
    intro v2 v4
    rw [fp_X5_crossings_L12]
    refine zs_iload dX5_crossings_12 4 rfl ?_
    refine zs_iload_n dX5_crossings_14 rfl 3 rfl ?_
    refine zs_icmp_ge dX5_crossings_15 rfl ?_ ?_
    · refine zs_sub (loc' := [(0, .ref (E.2.2.2.1 + v0)), (1, .int v1), (2, .int v2), (3, .int v3)]) [0, 1, 2, 3] rfl ?_
      exact hk48 v2
    refine zs_aload_n dX5_crossings_18 rfl 0 rfl ?_
    refine zs_iconst (v := 2) dX5_crossings_19 ciconst_2 ?_
    refine zs_iload_n dX5_crossings_20 rfl 1 rfl ?_
    refine zs_imul dX5_crossings_21 ?_
    refine zs_iload dX5_crossings_22 4 rfl ?_
    refine zs_iload_n dX5_crossings_24 rfl 3 rfl ?_
    refine zs_invSPI (rest := []) [.ref (E.2.2.2.1 + v0), .int (2 * v1), .int v4, .int v3] dX5_crossings_25 lk_X5_9 rfl (zd1 rfl hd) rfl (Nat.le_of_ble_eq_true rfl) (ct_X5_crossing E hE _ (zdl rfl hd) _ _ _ _ _) (fun y1 => ?_)
    refine zs_jn (fun j42 => ∀ (v2_2 : Int32), zSy E mu_X5_crossings d M (some (.int x0), M) x0 (j42 v2_2) 42 [(0, .ref (E.2.2.2.1 + v0)), (1, .int v1), (2, .int v2_2), (3, .int v3), (4, .int v4)] [] M) (fun v2_2 => ?_) (fun j42 hj42 => ?_)
    · refine zs_iinc (v := (v4 + 1)) (loc' := [(0, .ref (E.2.2.2.1 + v0)), (1, .int v1), (2, .int v2_2), (3, .int v3), (4, .int (v4 + 1))]) dX5_crossings_42 4 rfl (by rfl) (Nat.le_of_ble_eq_true rfl) [1, 2, 3, 4, 0] rfl ?_
      refine zs_goto dX5_crossings_45 rfl ?_
      exact ih v2_2 (v4 + 1)
    refine zs_if_eq dX5_crossings_28 rfl ?_ ?_
    · exact hj42 v2
    refine zs_iload_n dX5_crossings_31 rfl 2 rfl ?_
    refine zs_iconst (v := 1) dX5_crossings_32 ciconst_1 ?_
    refine zs_iload dX5_crossings_33 4 rfl ?_
    refine zs_iload_n dX5_crossings_35 rfl 3 rfl ?_
    refine zs_invSPI (rest := [.int 1, .int v2]) [.int v4, .int v3] dX5_crossings_36 lk_X5_15 rfl (zd1 rfl hd) rfl (Nat.le_of_ble_eq_true rfl) (ct_X2_pair E hE _ (zdl rfl hd) _ _ _) (fun y3 => ?_)
    refine zs_ishl dX5_crossings_39 ?_
    refine zs_ior dX5_crossings_40 ?_
    refine zs_istore_nL (loc' := fun v2_4 => [(0, .ref (E.2.2.2.1 + v0)), (1, .int v1), (2, .int v2_4), (3, .int v3), (4, .int v4)]) dX5_crossings_41 rfl (Nat.le_of_ble_eq_true rfl) [1, 2, 0, 3, 4] (fun _ => rfl) (fun v2_4 => ?_)
    exact hj42 v2_4
set_option maxHeartbeats 4000000 in
set_option maxRecDepth 100000 in
theorem w_X5_crossings_L4 (E : zEnv) (hE : zEok E) (d : Nat) (hd : 2 ≤ d) (x0 : Int32) (v0 : Nat) (v1 : Int32) (M : zM)  : ∀ (n : Nat) (v2 : Int32) (v3 : Int32), zSy E mu_X5_crossings d M (some (.int x0), M) x0 (fp_X5_crossings_L4 v0 v1 M n v2 v3) 4 [(0, .ref (E.2.2.2.1 + v0)), (1, .int v1), (2, .int v2), (3, .int v3)] [] M := by
  intro n
  induction n with
  | zero =>
    intro v2 v3
    rw [fp_X5_crossings_L4]
    exact zs_none
  | succ n ih =>
    intro v2 v3
    rw [fp_X5_crossings_L4]
    refine zs_iload_n dX5_crossings_4 rfl 3 rfl ?_
    refine zs_iload_n dX5_crossings_5 rfl 1 rfl ?_
    refine zs_icmp_ge dX5_crossings_6 rfl ?_ ?_
    · refine zs_iload_n dX5_crossings_54 rfl 2 rfl ?_
      exact zs_iretP dX5_crossings_55 rfl
    refine zs_iconst (v := 0) dX5_crossings_9 ciconst_0 ?_
    refine zs_istore (loc' := [(0, .ref (E.2.2.2.1 + v0)), (1, .int v1), (2, .int v2), (3, .int v3), (4, .int 0)]) dX5_crossings_10 (Nat.le_of_ble_eq_true rfl) [1, 2, 3, 4, 0] rfl ?_
    refine w_X5_crossings_L12 E hE d hd _ _ _ _ _ _ (fun v2_5 => ?_) _ _ _
    refine zs_iinc (v := (v3 + 1)) (loc' := [(0, .ref (E.2.2.2.1 + v0)), (1, .int v1), (2, .int v2_5), (3, .int (v3 + 1))]) dX5_crossings_48 3 rfl (by rfl) (Nat.le_of_ble_eq_true rfl) [1, 2, 3, 0] rfl ?_
    refine zs_goto dX5_crossings_51 rfl ?_
    exact ih v2_5 (v3 + 1)
set_option maxHeartbeats 4000000 in
set_option maxRecDepth 100000 in
theorem ct_X5_crossings (E : zEnv) (hE : zEok E) (d : Nat) (hd : 2 ≤ d) (v0 : Nat) (v1 : Int32) (M : zM) (x0 : Int32) (hx : fp_X5_crossings v0 v1 M = some x0) : zCt E mu_X5_crossings d [.ref (E.2.2.2.1 + v0), .int v1] M (some (.int x0), M) := by
  refine zCt_of (μ := mu_X5_crossings) (t := fp_X5_crossings v0 v1 M) rfl rfl (Nat.le_of_ble_eq_true rfl) hx ?_
  change zSy E mu_X5_crossings d M (some (.int x0), M) x0 (fp_X5_crossings v0 v1 M) 0 [(0, .ref (E.2.2.2.1 + v0)), (1, .int v1)] [] M
  unfold fp_X5_crossings
  refine zs_iconst (v := 0) dX5_crossings_0 ciconst_0 ?_
  refine zs_istore_n (loc' := [(0, .ref (E.2.2.2.1 + v0)), (1, .int v1), (2, .int 0)]) dX5_crossings_1 rfl (Nat.le_of_ble_eq_true rfl) [1, 2, 0] rfl ?_
  refine zs_iconst (v := 1) dX5_crossings_2 ciconst_1 ?_
  refine zs_istore_n (loc' := [(0, .ref (E.2.2.2.1 + v0)), (1, .int v1), (2, .int 0), (3, .int 1)]) dX5_crossings_3 rfl (Nat.le_of_ble_eq_true rfl) [1, 2, 3, 0] rfl ?_
  exact w_X5_crossings_L4 E hE d hd _ _ _ _ _ _ _
theorem dX0_drawnLines_0 : decode cX0_drawnLines 0 = .ok (.iconst 2, 1) := by decide +kernel
theorem dX0_drawnLines_1 : decode cX0_drawnLines 1 = .ok (.iload_n 1, 1) := by decide +kernel
theorem dX0_drawnLines_2 : decode cX0_drawnLines 2 = .ok (.imul, 1) := by decide +kernel
theorem dX0_drawnLines_3 : decode cX0_drawnLines 3 = .ok (.aload_n 0, 1) := by decide +kernel
theorem dX0_drawnLines_4 : decode cX0_drawnLines 4 = .ok (.getfield 9, 3) := by decide +kernel
theorem dX0_drawnLines_7 : decode cX0_drawnLines 7 = .ok (.arraylength, 1) := by decide +kernel
theorem dX0_drawnLines_8 : decode cX0_drawnLines 8 = .ok (.invokestatic 20, 3) := by decide +kernel
theorem dX0_drawnLines_11 : decode cX0_drawnLines 11 = .ok (.istore_n 2, 1) := by decide +kernel
theorem dX0_drawnLines_12 : decode cX0_drawnLines 12 = .ok (.iconst 0, 1) := by decide +kernel
theorem dX0_drawnLines_13 : decode cX0_drawnLines 13 = .ok (.istore_n 3, 1) := by decide +kernel
theorem dX0_drawnLines_14 : decode cX0_drawnLines 14 = .ok (.iload_n 3, 1) := by decide +kernel
theorem dX0_drawnLines_15 : decode cX0_drawnLines 15 = .ok (.iload_n 2, 1) := by decide +kernel
theorem dX0_drawnLines_16 : decode cX0_drawnLines 16 = .ok (.if_icmp .ge 18, 3) := by decide +kernel
theorem dX0_drawnLines_19 : decode cX0_drawnLines 19 = .ok (.aload_n 0, 1) := by decide +kernel
theorem dX0_drawnLines_20 : decode cX0_drawnLines 20 = .ok (.getfield 9, 3) := by decide +kernel
theorem dX0_drawnLines_23 : decode cX0_drawnLines 23 = .ok (.iload_n 3, 1) := by decide +kernel
theorem dX0_drawnLines_24 : decode cX0_drawnLines 24 = .ok (.iload_n 3, 1) := by decide +kernel
theorem dX0_drawnLines_25 : decode cX0_drawnLines 25 = .ok (.iconst 2, 1) := by decide +kernel
theorem dX0_drawnLines_26 : decode cX0_drawnLines 26 = .ok (.idiv, 1) := by decide +kernel
theorem dX0_drawnLines_27 : decode cX0_drawnLines 27 = .ok (.iastore, 1) := by decide +kernel
theorem dX0_drawnLines_28 : decode cX0_drawnLines 28 = .ok (.iinc 3 1, 3) := by decide +kernel
theorem dX0_drawnLines_31 : decode cX0_drawnLines 31 = .ok (.goto (-17), 3) := by decide +kernel
theorem dX0_drawnLines_34 : decode cX0_drawnLines 34 = .ok (.iload_n 2, 1) := by decide +kernel
theorem dX0_drawnLines_35 : decode cX0_drawnLines 35 = .ok (.iconst 1, 1) := by decide +kernel
theorem dX0_drawnLines_36 : decode cX0_drawnLines 36 = .ok (.isub, 1) := by decide +kernel
theorem dX0_drawnLines_37 : decode cX0_drawnLines 37 = .ok (.istore_n 3, 1) := by decide +kernel
theorem dX0_drawnLines_38 : decode cX0_drawnLines 38 = .ok (.iload_n 3, 1) := by decide +kernel
theorem dX0_drawnLines_39 : decode cX0_drawnLines 39 = .ok (.iconst 1, 1) := by decide +kernel
theorem dX0_drawnLines_40 : decode cX0_drawnLines 40 = .ok (.if_icmp .lt 63, 3) := by decide +kernel
theorem dX0_drawnLines_43 : decode cX0_drawnLines 43 = .ok (.aload_n 0, 1) := by decide +kernel
theorem dX0_drawnLines_44 : decode cX0_drawnLines 44 = .ok (.iload_n 3, 1) := by decide +kernel
theorem dX0_drawnLines_45 : decode cX0_drawnLines 45 = .ok (.iconst 1, 1) := by decide +kernel
theorem dX0_drawnLines_46 : decode cX0_drawnLines 46 = .ok (.iadd, 1) := by decide +kernel
theorem dX0_drawnLines_47 : decode cX0_drawnLines 47 = .ok (.invokevirtual 26, 3) := by decide +kernel
theorem dX0_drawnLines_50 : decode cX0_drawnLines 50 = .ok (.istore 4, 2) := by decide +kernel
theorem dX0_drawnLines_52 : decode cX0_drawnLines 52 = .ok (.iload 4, 2) := by decide +kernel
theorem dX0_drawnLines_54 : decode cX0_drawnLines 54 = .ok (.ifCond .lt 43, 3) := by decide +kernel
theorem dX0_drawnLines_57 : decode cX0_drawnLines 57 = .ok (.iload 4, 2) := by decide +kernel
theorem dX0_drawnLines_59 : decode cX0_drawnLines 59 = .ok (.aload_n 0, 1) := by decide +kernel
theorem dX0_drawnLines_60 : decode cX0_drawnLines 60 = .ok (.getfield 9, 3) := by decide +kernel
theorem dX0_drawnLines_63 : decode cX0_drawnLines 63 = .ok (.arraylength, 1) := by decide +kernel
theorem dX0_drawnLines_64 : decode cX0_drawnLines 64 = .ok (.if_icmp .ge 33, 3) := by decide +kernel
theorem dX0_drawnLines_67 : decode cX0_drawnLines 67 = .ok (.aload_n 0, 1) := by decide +kernel
theorem dX0_drawnLines_68 : decode cX0_drawnLines 68 = .ok (.getfield 9, 3) := by decide +kernel
theorem dX0_drawnLines_71 : decode cX0_drawnLines 71 = .ok (.iload_n 3, 1) := by decide +kernel
theorem dX0_drawnLines_72 : decode cX0_drawnLines 72 = .ok (.iaload, 1) := by decide +kernel
theorem dX0_drawnLines_73 : decode cX0_drawnLines 73 = .ok (.istore 5, 2) := by decide +kernel
theorem dX0_drawnLines_75 : decode cX0_drawnLines 75 = .ok (.aload_n 0, 1) := by decide +kernel
theorem dX0_drawnLines_76 : decode cX0_drawnLines 76 = .ok (.getfield 9, 3) := by decide +kernel
theorem dX0_drawnLines_79 : decode cX0_drawnLines 79 = .ok (.iload_n 3, 1) := by decide +kernel
theorem dX0_drawnLines_80 : decode cX0_drawnLines 80 = .ok (.aload_n 0, 1) := by decide +kernel
theorem dX0_drawnLines_81 : decode cX0_drawnLines 81 = .ok (.getfield 9, 3) := by decide +kernel
theorem dX0_drawnLines_84 : decode cX0_drawnLines 84 = .ok (.iload 4, 2) := by decide +kernel
theorem dX0_drawnLines_86 : decode cX0_drawnLines 86 = .ok (.iaload, 1) := by decide +kernel
theorem dX0_drawnLines_87 : decode cX0_drawnLines 87 = .ok (.iastore, 1) := by decide +kernel
theorem dX0_drawnLines_88 : decode cX0_drawnLines 88 = .ok (.aload_n 0, 1) := by decide +kernel
theorem dX0_drawnLines_89 : decode cX0_drawnLines 89 = .ok (.getfield 9, 3) := by decide +kernel
theorem dX0_drawnLines_92 : decode cX0_drawnLines 92 = .ok (.iload 4, 2) := by decide +kernel
theorem dX0_drawnLines_94 : decode cX0_drawnLines 94 = .ok (.iload 5, 2) := by decide +kernel
theorem dX0_drawnLines_96 : decode cX0_drawnLines 96 = .ok (.iastore, 1) := by decide +kernel
theorem dX0_drawnLines_97 : decode cX0_drawnLines 97 = .ok (.iinc 3 (-1), 3) := by decide +kernel
theorem dX0_drawnLines_100 : decode cX0_drawnLines 100 = .ok (.goto (-62), 3) := by decide +kernel
theorem dX0_drawnLines_103 : decode cX0_drawnLines 103 = .ok (.aload_n 0, 1) := by decide +kernel
theorem dX0_drawnLines_104 : decode cX0_drawnLines 104 = .ok (.getfield 9, 3) := by decide +kernel
theorem dX0_drawnLines_107 : decode cX0_drawnLines 107 = .ok (.iload_n 1, 1) := by decide +kernel
theorem dX0_drawnLines_108 : decode cX0_drawnLines 108 = .ok (.invokestatic 30, 3) := by decide +kernel
theorem dX0_drawnLines_111 : decode cX0_drawnLines 111 = .ok (.ireturn, 1) := by decide +kernel
def fp_X0_drawnLines_L14 (k34 : zM → Option (Int32 × zM)) (v0 : Nat) (v1 : Int32) (v2 : Int32) : Nat → Int32 → zM → Option (Int32 × zM)
  | 0, _, _ => none
  | n + 1, v3, M =>
    if v3 ≥ v2 then (
      k34 M)
    else (
      (zgR 0 M v0 4).bind fun (y4 : Nat) =>
      (ztI M y4 v3 (v3 / 2)).bind fun (M5 : zM) =>
      fp_X0_drawnLines_L14 k34 v0 v1 v2 n (v3 + 1) M5)
def fp_X0_drawnLines_L38 (v0 : Nat) (v1 : Int32) : Nat → Int32 → zM → Option (Int32 × zM)
  | 0, _, _ => none
  | n + 1, v3, M =>
    if v3 < 1 then (
      (zgR 0 M v0 4).bind fun (y8 : Nat) =>
      (fp_X5_crossings y8 v1 M).bind fun (y9 : Int32) =>
      some (y9, M))
    else (
      (fp_X0_draw v0 (v3 + 1) M).bind fun p12 => zpp p12 fun (y10 : Int32) (M11 : zM) =>
      zjn (fun (M13 : zM) =>
          fp_X0_drawnLines_L38 v0 v1 n (v3 + (-1)) M13)
        (fun j97 =>
          if y10 < 0 then (
            j97 M11)
          else (
            (zgR 0 M11 v0 4).bind fun (y14 : Nat) =>
            (zln M11 y14).bind fun (y15 : Int32) =>
            if y10 ≥ y15 then (
              j97 M11)
            else (
              (zgR 0 M11 v0 4).bind fun (y16 : Nat) =>
              (zlI 100 M11 y16 v3).bind fun (y17 : Int32) =>
              (zgR 0 M11 v0 4).bind fun (y18 : Nat) =>
              (zgR 0 M11 v0 4).bind fun (y19 : Nat) =>
              (zlI 100 M11 y19 y10).bind fun (y20 : Int32) =>
              (ztI M11 y18 v3 y20).bind fun (M21 : zM) =>
              (zgR 0 M21 v0 4).bind fun (y22 : Nat) =>
              (ztI M21 y22 y10 y17).bind fun (M23 : zM) =>
              j97 M23))))
def fp_X0_drawnLines (v0 : Nat) (v1 : Int32) (M : zM) : Option (Int32 × zM) :=
  zthis 0 M v0 (
    (zgR 0 M v0 4).bind fun (y1 : Nat) =>
    (zln M y1).bind fun (y2 : Int32) =>
    lett ((kmin (2 * v1) y2)) fun (v2_3 : Int32) =>
    fp_X0_drawnLines_L14
      (fun M6 =>
        lett ((v2_3 - 1)) fun (v3_7 : Int32) =>
        fp_X0_drawnLines_L38 v0 v1 FU v3_7 M6) v0 v1 v2_3 FU 0 M)
set_option maxHeartbeats 4000000 in
set_option maxRecDepth 100000 in
theorem th_X0_drawnLines {v0 : Nat} {v1 : Int32} {M : zM} {x0 : Int32 × zM} (h : fp_X0_drawnLines v0 v1 M = some x0) : v0 < zS M ∧ kd v0 = 0 := by
  unfold fp_X0_drawnLines at h
  exact zthis_of h
set_option maxHeartbeats 4000000 in
set_option maxRecDepth 100000 in
theorem w_X0_drawnLines_L14 (E : zEnv) (hE : zEok E) (d : Nat) (hd : 3 ≤ d) (M0 : zM) (x0 : Int32 × zM) (v0 : Nat) (v1 : Int32) (v2 : Int32) (k34 : zM → Option (Int32 × zM)) (hk34 : ∀ (M : zM), zSy E mu_X0_drawnLines d M0 (some (.int x0.1), x0.2) x0 (k34 M) 34 [(0, .ref (E.2.2.2.1 + v0)), (1, .int v1), (2, .int v2)] [] M) : ∀ (n : Nat) (v3 : Int32) (M : zM), zSy E mu_X0_drawnLines d M0 (some (.int x0.1), x0.2) x0 (fp_X0_drawnLines_L14 k34 v0 v1 v2 n v3 M) 14 [(0, .ref (E.2.2.2.1 + v0)), (1, .int v1), (2, .int v2), (3, .int v3)] [] M := by
  intro n
  induction n with
  | zero =>
    intro v3 M
    rw [fp_X0_drawnLines_L14]
    exact zs_none
  | succ n ih =>
    intro v3 M
    rw [fp_X0_drawnLines_L14]
    refine zs_iload_n dX0_drawnLines_14 rfl 3 rfl ?_
    refine zs_iload_n dX0_drawnLines_15 rfl 2 rfl ?_
    refine zs_icmp_ge dX0_drawnLines_16 rfl ?_ ?_
    · refine zs_sub (loc' := [(0, .ref (E.2.2.2.1 + v0)), (1, .int v1), (2, .int v2)]) [0, 1, 2] rfl ?_
      exact hk34 M
    refine zs_aload_n dX0_drawnLines_19 rfl 0 rfl ?_
    refine zs_getR dX0_drawnLines_20 fl_X0_9 rfl (fun y4 => ?_)
    refine zs_iload_n dX0_drawnLines_23 rfl 3 rfl ?_
    refine zs_iload_n dX0_drawnLines_24 rfl 3 rfl ?_
    refine zs_iconst (v := 2) dX0_drawnLines_25 ciconst_2 ?_
    refine zs_idivK dX0_drawnLines_26 (by decide) ?_
    refine zs_stI dX0_drawnLines_27 (fun M5 => ?_)
    refine zs_iinc (v := (v3 + 1)) (loc' := [(0, .ref (E.2.2.2.1 + v0)), (1, .int v1), (2, .int v2), (3, .int (v3 + 1))]) dX0_drawnLines_28 3 rfl (by rfl) (Nat.le_of_ble_eq_true rfl) [1, 2, 3, 0] rfl ?_
    refine zs_goto dX0_drawnLines_31 rfl ?_
    exact ih (v3 + 1) M5
set_option maxHeartbeats 4000000 in
set_option maxRecDepth 100000 in
theorem w_X0_drawnLines_L38 (E : zEnv) (hE : zEok E) (d : Nat) (hd : 3 ≤ d) (M0 : zM) (x0 : Int32 × zM) (v0 : Nat) (v1 : Int32)  : ∀ (n : Nat) (v3 : Int32) (M : zM), zSy E mu_X0_drawnLines d M0 (some (.int x0.1), x0.2) x0 (fp_X0_drawnLines_L38 v0 v1 n v3 M) 38 [(0, .ref (E.2.2.2.1 + v0)), (1, .int v1), (3, .int v3)] [] M := by
  intro n
  induction n with
  | zero =>
    intro v3 M
    rw [fp_X0_drawnLines_L38]
    exact zs_none
  | succ n ih =>
    intro v3 M
    rw [fp_X0_drawnLines_L38]
    refine zs_iload_n dX0_drawnLines_38 rfl 2 rfl ?_
    refine zs_iconst (v := 1) dX0_drawnLines_39 ciconst_1 ?_
    refine zs_icmp_lt dX0_drawnLines_40 rfl ?_ ?_
    · refine zs_aload_n dX0_drawnLines_103 rfl 0 rfl ?_
      refine zs_getR dX0_drawnLines_104 fl_X0_9 rfl (fun y8 => ?_)
      refine zs_iload_n dX0_drawnLines_107 rfl 1 rfl ?_
      refine zs_invSPI (rest := []) [.ref (E.2.2.2.1 + y8), .int v1] dX0_drawnLines_108 lk_X0_30 rfl (zd1 rfl hd) rfl (Nat.le_of_ble_eq_true rfl) (ct_X5_crossings E hE _ (zdl rfl hd) _ _ _) (fun y9 => ?_)
      exact zs_iretW dX0_drawnLines_111 rfl
    refine zs_aload_n dX0_drawnLines_43 rfl 0 rfl ?_
    refine zs_iload_n dX0_drawnLines_44 rfl 2 rfl ?_
    refine zs_iconst (v := 1) dX0_drawnLines_45 ciconst_1 ?_
    refine zs_iadd dX0_drawnLines_46 ?_
    refine zs_invVWI (rest := []) [.int (v3 + 1)] dX0_drawnLines_47 lk_X0_26 rfl (fun _ h => th_X0_draw h) (zd1 rfl hd) rfl (Nat.le_of_ble_eq_true rfl) (ct_X0_draw E hE _ (zdl rfl hd) _ _ _) (fun y10 M11 => ?_)
    refine zs_istore (loc' := [(0, .ref (E.2.2.2.1 + v0)), (1, .int v1), (3, .int v3), (4, .int y10)]) dX0_drawnLines_50 (Nat.le_of_ble_eq_true rfl) [1, 2, 3, 0] rfl ?_
    refine zs_iload dX0_drawnLines_52 3 rfl ?_
    refine zs_jn (fun j97 => ∀ (M13 : zM), zSy E mu_X0_drawnLines d M0 (some (.int x0.1), x0.2) x0 (j97 M13) 97 [(0, .ref (E.2.2.2.1 + v0)), (1, .int v1), (3, .int v3)] [] M13) (fun M13 => ?_) (fun j97 hj97 => ?_)
    · refine zs_iinc (v := (v3 + (-1))) (loc' := [(0, .ref (E.2.2.2.1 + v0)), (1, .int v1), (3, .int (v3 + (-1)))]) dX0_drawnLines_97 2 rfl (by rfl) (Nat.le_of_ble_eq_true rfl) [1, 2, 0] rfl ?_
      refine zs_goto dX0_drawnLines_100 rfl ?_
      exact ih (v3 + (-1)) M13
    refine zs_if_lt dX0_drawnLines_54 rfl ?_ ?_
    · refine zs_sub (loc' := [(0, .ref (E.2.2.2.1 + v0)), (1, .int v1), (3, .int v3)]) [0, 1, 2] rfl ?_
      exact hj97 M11
    refine zs_iload dX0_drawnLines_57 3 rfl ?_
    refine zs_aload_n dX0_drawnLines_59 rfl 0 rfl ?_
    refine zs_getR dX0_drawnLines_60 fl_X0_9 rfl (fun y14 => ?_)
    refine zs_alen dX0_drawnLines_63 (fun y15 => ?_)
    refine zs_icmp_ge dX0_drawnLines_64 rfl ?_ ?_
    · refine zs_sub (loc' := [(0, .ref (E.2.2.2.1 + v0)), (1, .int v1), (3, .int v3)]) [0, 1, 2] rfl ?_
      exact hj97 M11
    refine zs_aload_n dX0_drawnLines_67 rfl 0 rfl ?_
    refine zs_getR dX0_drawnLines_68 fl_X0_9 rfl (fun y16 => ?_)
    refine zs_iload_n dX0_drawnLines_71 rfl 2 rfl ?_
    refine zs_ldI dX0_drawnLines_72 (fun y17 => ?_)
    refine zs_istore (loc' := [(0, .ref (E.2.2.2.1 + v0)), (1, .int v1), (3, .int v3), (4, .int y10), (5, .int y17)]) dX0_drawnLines_73 (Nat.le_of_ble_eq_true rfl) [1, 2, 3, 4, 0] rfl ?_
    refine zs_aload_n dX0_drawnLines_75 rfl 0 rfl ?_
    refine zs_getR dX0_drawnLines_76 fl_X0_9 rfl (fun y18 => ?_)
    refine zs_iload_n dX0_drawnLines_79 rfl 2 rfl ?_
    refine zs_aload_n dX0_drawnLines_80 rfl 0 rfl ?_
    refine zs_getR dX0_drawnLines_81 fl_X0_9 rfl (fun y19 => ?_)
    refine zs_iload dX0_drawnLines_84 3 rfl ?_
    refine zs_ldI dX0_drawnLines_86 (fun y20 => ?_)
    refine zs_stI dX0_drawnLines_87 (fun M21 => ?_)
    refine zs_aload_n dX0_drawnLines_88 rfl 0 rfl ?_
    refine zs_getR dX0_drawnLines_89 fl_X0_9 rfl (fun y22 => ?_)
    refine zs_iload dX0_drawnLines_92 3 rfl ?_
    refine zs_iload dX0_drawnLines_94 4 rfl ?_
    refine zs_stI dX0_drawnLines_96 (fun M23 => ?_)
    refine zs_sub (loc' := [(0, .ref (E.2.2.2.1 + v0)), (1, .int v1), (3, .int v3)]) [0, 1, 2] rfl ?_
    exact hj97 M23
set_option maxHeartbeats 4000000 in
set_option maxRecDepth 100000 in
theorem ct_X0_drawnLines (E : zEnv) (hE : zEok E) (d : Nat) (hd : 3 ≤ d) (v0 : Nat) (v1 : Int32) (M : zM) (x0 : Int32 × zM) (hx : fp_X0_drawnLines v0 v1 M = some x0) : zCt E mu_X0_drawnLines d [.ref (E.2.2.2.1 + v0), .int v1] M (some (.int x0.1), x0.2) := by
  refine zCt_of (μ := mu_X0_drawnLines) (t := fp_X0_drawnLines v0 v1 M) rfl rfl (Nat.le_of_ble_eq_true rfl) hx ?_
  change zSy E mu_X0_drawnLines d M (some (.int x0.1), x0.2) x0 (fp_X0_drawnLines v0 v1 M) 0 [(0, .ref (E.2.2.2.1 + v0)), (1, .int v1)] [] M
  unfold fp_X0_drawnLines
  refine zs_this (fun hth => ?_)
  refine zs_iconst (v := 2) dX0_drawnLines_0 ciconst_2 ?_
  refine zs_iload_n dX0_drawnLines_1 rfl 1 rfl ?_
  refine zs_imul dX0_drawnLines_2 ?_
  refine zs_aload_n dX0_drawnLines_3 rfl 0 rfl ?_
  refine zs_getR dX0_drawnLines_4 fl_X0_9 rfl (fun y1 => ?_)
  refine zs_alen dX0_drawnLines_7 (fun y2 => ?_)
  refine zs_min dX0_drawnLines_8 (ti_5 72 rfl rfl) ms_min mi_Math mc_min (zd0 rfl hd) (Nat.le_of_ble_eq_true rfl) ?_
  refine zs_istore_nL (loc' := fun v2_3 => [(0, .ref (E.2.2.2.1 + v0)), (1, .int v1), (2, .int v2_3)]) dX0_drawnLines_11 rfl (Nat.le_of_ble_eq_true rfl) [1, 2, 0] (fun _ => rfl) (fun v2_3 => ?_)
  refine zs_iconst (v := 0) dX0_drawnLines_12 ciconst_0 ?_
  refine zs_istore_n (loc' := [(0, .ref (E.2.2.2.1 + v0)), (1, .int v1), (2, .int v2_3), (3, .int 0)]) dX0_drawnLines_13 rfl (Nat.le_of_ble_eq_true rfl) [1, 2, 3, 0] rfl ?_
  refine w_X0_drawnLines_L14 E hE d hd _ _ _ _ _ _ (fun M6 => ?_) _ _ _
  refine zs_iload_n dX0_drawnLines_34 rfl 2 rfl ?_
  refine zs_iconst (v := 1) dX0_drawnLines_35 ciconst_1 ?_
  refine zs_isub dX0_drawnLines_36 ?_
  refine zs_istore_nL (loc' := fun v3_7 => [(0, .ref (E.2.2.2.1 + v0)), (1, .int v1), (3, .int v3_7)]) dX0_drawnLines_37 rfl (Nat.le_of_ble_eq_true rfl) [1, 2, 0] (fun _ => rfl) (fun v3_7 => ?_)
  exact w_X0_drawnLines_L38 E hE d hd _ _ _ _ _ _ _
theorem dJ6_bitCount_0f7a4_0 : decode cJ6_bitCount_0f7a4 0 = .ok (.iload_n 0, 1) := by decide +kernel
theorem dJ6_bitCount_0f7a4_1 : decode cJ6_bitCount_0f7a4 1 = .ok (.iload_n 0, 1) := by decide +kernel
theorem dJ6_bitCount_0f7a4_2 : decode cJ6_bitCount_0f7a4 2 = .ok (.iconst 1, 1) := by decide +kernel
theorem dJ6_bitCount_0f7a4_3 : decode cJ6_bitCount_0f7a4 3 = .ok (.iushr, 1) := by decide +kernel
theorem dJ6_bitCount_0f7a4_4 : decode cJ6_bitCount_0f7a4 4 = .ok (.ldc_w 265, 3) := by decide +kernel
theorem dJ6_bitCount_0f7a4_7 : decode cJ6_bitCount_0f7a4 7 = .ok (.iand, 1) := by decide +kernel
theorem dJ6_bitCount_0f7a4_8 : decode cJ6_bitCount_0f7a4 8 = .ok (.isub, 1) := by decide +kernel
theorem dJ6_bitCount_0f7a4_9 : decode cJ6_bitCount_0f7a4 9 = .ok (.istore_n 0, 1) := by decide +kernel
theorem dJ6_bitCount_0f7a4_10 : decode cJ6_bitCount_0f7a4 10 = .ok (.iload_n 0, 1) := by decide +kernel
theorem dJ6_bitCount_0f7a4_11 : decode cJ6_bitCount_0f7a4 11 = .ok (.ldc_w 266, 3) := by decide +kernel
theorem dJ6_bitCount_0f7a4_14 : decode cJ6_bitCount_0f7a4 14 = .ok (.iand, 1) := by decide +kernel
theorem dJ6_bitCount_0f7a4_15 : decode cJ6_bitCount_0f7a4 15 = .ok (.iload_n 0, 1) := by decide +kernel
theorem dJ6_bitCount_0f7a4_16 : decode cJ6_bitCount_0f7a4 16 = .ok (.iconst 2, 1) := by decide +kernel
theorem dJ6_bitCount_0f7a4_17 : decode cJ6_bitCount_0f7a4 17 = .ok (.iushr, 1) := by decide +kernel
theorem dJ6_bitCount_0f7a4_18 : decode cJ6_bitCount_0f7a4 18 = .ok (.ldc_w 266, 3) := by decide +kernel
theorem dJ6_bitCount_0f7a4_21 : decode cJ6_bitCount_0f7a4 21 = .ok (.iand, 1) := by decide +kernel
theorem dJ6_bitCount_0f7a4_22 : decode cJ6_bitCount_0f7a4 22 = .ok (.iadd, 1) := by decide +kernel
theorem dJ6_bitCount_0f7a4_23 : decode cJ6_bitCount_0f7a4 23 = .ok (.istore_n 0, 1) := by decide +kernel
theorem dJ6_bitCount_0f7a4_24 : decode cJ6_bitCount_0f7a4 24 = .ok (.iload_n 0, 1) := by decide +kernel
theorem dJ6_bitCount_0f7a4_25 : decode cJ6_bitCount_0f7a4 25 = .ok (.iload_n 0, 1) := by decide +kernel
theorem dJ6_bitCount_0f7a4_26 : decode cJ6_bitCount_0f7a4 26 = .ok (.iconst 4, 1) := by decide +kernel
theorem dJ6_bitCount_0f7a4_27 : decode cJ6_bitCount_0f7a4 27 = .ok (.iushr, 1) := by decide +kernel
theorem dJ6_bitCount_0f7a4_28 : decode cJ6_bitCount_0f7a4 28 = .ok (.iadd, 1) := by decide +kernel
theorem dJ6_bitCount_0f7a4_29 : decode cJ6_bitCount_0f7a4 29 = .ok (.ldc_w 267, 3) := by decide +kernel
theorem dJ6_bitCount_0f7a4_32 : decode cJ6_bitCount_0f7a4 32 = .ok (.iand, 1) := by decide +kernel
theorem dJ6_bitCount_0f7a4_33 : decode cJ6_bitCount_0f7a4 33 = .ok (.istore_n 0, 1) := by decide +kernel
theorem dJ6_bitCount_0f7a4_34 : decode cJ6_bitCount_0f7a4 34 = .ok (.iload_n 0, 1) := by decide +kernel
theorem dJ6_bitCount_0f7a4_35 : decode cJ6_bitCount_0f7a4 35 = .ok (.iload_n 0, 1) := by decide +kernel
theorem dJ6_bitCount_0f7a4_36 : decode cJ6_bitCount_0f7a4 36 = .ok (.bipush 8, 2) := by decide +kernel
theorem dJ6_bitCount_0f7a4_38 : decode cJ6_bitCount_0f7a4 38 = .ok (.iushr, 1) := by decide +kernel
theorem dJ6_bitCount_0f7a4_39 : decode cJ6_bitCount_0f7a4 39 = .ok (.iadd, 1) := by decide +kernel
theorem dJ6_bitCount_0f7a4_40 : decode cJ6_bitCount_0f7a4 40 = .ok (.istore_n 0, 1) := by decide +kernel
theorem dJ6_bitCount_0f7a4_41 : decode cJ6_bitCount_0f7a4 41 = .ok (.iload_n 0, 1) := by decide +kernel
theorem dJ6_bitCount_0f7a4_42 : decode cJ6_bitCount_0f7a4 42 = .ok (.iload_n 0, 1) := by decide +kernel
theorem dJ6_bitCount_0f7a4_43 : decode cJ6_bitCount_0f7a4 43 = .ok (.bipush 16, 2) := by decide +kernel
theorem dJ6_bitCount_0f7a4_45 : decode cJ6_bitCount_0f7a4 45 = .ok (.iushr, 1) := by decide +kernel
theorem dJ6_bitCount_0f7a4_46 : decode cJ6_bitCount_0f7a4 46 = .ok (.iadd, 1) := by decide +kernel
theorem dJ6_bitCount_0f7a4_47 : decode cJ6_bitCount_0f7a4 47 = .ok (.istore_n 0, 1) := by decide +kernel
theorem dJ6_bitCount_0f7a4_48 : decode cJ6_bitCount_0f7a4 48 = .ok (.iload_n 0, 1) := by decide +kernel
theorem dJ6_bitCount_0f7a4_49 : decode cJ6_bitCount_0f7a4 49 = .ok (.bipush 63, 2) := by decide +kernel
theorem dJ6_bitCount_0f7a4_51 : decode cJ6_bitCount_0f7a4 51 = .ok (.iand, 1) := by decide +kernel
theorem dJ6_bitCount_0f7a4_52 : decode cJ6_bitCount_0f7a4 52 = .ok (.ireturn, 1) := by decide +kernel
def fp_J6_bitCount_0f7a4 (v0 : Int32) : Option (Int32) :=
  lett ((v0 - (((v0.toUInt32 >>> ((1 : Int32).toUInt32 &&& Int32.toUInt32 31)).toInt32) &&& 1431655765))) fun (v0_1 : Int32) =>
  lett (((v0_1 &&& 858993459) + (((v0_1.toUInt32 >>> ((2 : Int32).toUInt32 &&& Int32.toUInt32 31)).toInt32) &&& 858993459))) fun (v0_2 : Int32) =>
  lett (((v0_2 + ((v0_2.toUInt32 >>> ((4 : Int32).toUInt32 &&& Int32.toUInt32 31)).toInt32)) &&& 252645135)) fun (v0_3 : Int32) =>
  lett ((v0_3 + ((v0_3.toUInt32 >>> ((8 : Int32).toUInt32 &&& Int32.toUInt32 31)).toInt32))) fun (v0_4 : Int32) =>
  lett ((v0_4 + ((v0_4.toUInt32 >>> ((16 : Int32).toUInt32 &&& Int32.toUInt32 31)).toInt32))) fun (v0_5 : Int32) =>
  some (v0_5 &&& 63)
set_option maxHeartbeats 4000000 in
set_option maxRecDepth 100000 in
theorem ct_J6_bitCount_0f7a4 (E : zEnv) (hE : zEok E) (d : Nat) (hd : 1 ≤ d) (v0 : Int32) (M : zM) (x0 : Int32) (hx : fp_J6_bitCount_0f7a4 v0 = some x0) : zCt E mu_J6_bitCount_0f7a4 d [.int v0] M (some (.int x0), M) := by
  refine zCt_of (μ := mu_J6_bitCount_0f7a4) (t := fp_J6_bitCount_0f7a4 v0) rfl rfl (Nat.le_of_ble_eq_true rfl) hx ?_
  change zSy E mu_J6_bitCount_0f7a4 d M (some (.int x0), M) x0 (fp_J6_bitCount_0f7a4 v0) 0 [(0, .int v0)] [] M
  unfold fp_J6_bitCount_0f7a4
  refine zs_iload_n dJ6_bitCount_0f7a4_0 rfl 0 rfl ?_
  refine zs_iload_n dJ6_bitCount_0f7a4_1 rfl 0 rfl ?_
  refine zs_iconst (v := 1) dJ6_bitCount_0f7a4_2 ciconst_1 ?_
  refine zs_iushr dJ6_bitCount_0f7a4_3 ?_
  refine zs_ldcw (v := 1431655765) dJ6_bitCount_0f7a4_4 (ti_2 205 rfl rfl) ?_
  refine zs_iand dJ6_bitCount_0f7a4_7 ?_
  refine zs_isub dJ6_bitCount_0f7a4_8 ?_
  refine zs_istore_nL (loc' := fun v0_1 => [(0, .int v0_1)]) dJ6_bitCount_0f7a4_9 rfl (Nat.le_of_ble_eq_true rfl) [0] (fun _ => rfl) (fun v0_1 => ?_)
  refine zs_iload_n dJ6_bitCount_0f7a4_10 rfl 0 rfl ?_
  refine zs_ldcw (v := 858993459) dJ6_bitCount_0f7a4_11 (ti_2 206 rfl rfl) ?_
  refine zs_iand dJ6_bitCount_0f7a4_14 ?_
  refine zs_iload_n dJ6_bitCount_0f7a4_15 rfl 0 rfl ?_
  refine zs_iconst (v := 2) dJ6_bitCount_0f7a4_16 ciconst_2 ?_
  refine zs_iushr dJ6_bitCount_0f7a4_17 ?_
  refine zs_ldcw (v := 858993459) dJ6_bitCount_0f7a4_18 (ti_2 206 rfl rfl) ?_
  refine zs_iand dJ6_bitCount_0f7a4_21 ?_
  refine zs_iadd dJ6_bitCount_0f7a4_22 ?_
  refine zs_istore_nL (loc' := fun v0_2 => [(0, .int v0_2)]) dJ6_bitCount_0f7a4_23 rfl (Nat.le_of_ble_eq_true rfl) [0] (fun _ => rfl) (fun v0_2 => ?_)
  refine zs_iload_n dJ6_bitCount_0f7a4_24 rfl 0 rfl ?_
  refine zs_iload_n dJ6_bitCount_0f7a4_25 rfl 0 rfl ?_
  refine zs_iconst (v := 4) dJ6_bitCount_0f7a4_26 ciconst_4 ?_
  refine zs_iushr dJ6_bitCount_0f7a4_27 ?_
  refine zs_iadd dJ6_bitCount_0f7a4_28 ?_
  refine zs_ldcw (v := 252645135) dJ6_bitCount_0f7a4_29 (ti_2 207 rfl rfl) ?_
  refine zs_iand dJ6_bitCount_0f7a4_32 ?_
  refine zs_istore_nL (loc' := fun v0_3 => [(0, .int v0_3)]) dJ6_bitCount_0f7a4_33 rfl (Nat.le_of_ble_eq_true rfl) [0] (fun _ => rfl) (fun v0_3 => ?_)
  refine zs_iload_n dJ6_bitCount_0f7a4_34 rfl 0 rfl ?_
  refine zs_iload_n dJ6_bitCount_0f7a4_35 rfl 0 rfl ?_
  refine zs_bipush (v := 8) dJ6_bitCount_0f7a4_36 cbipush_8 ?_
  refine zs_iushr dJ6_bitCount_0f7a4_38 ?_
  refine zs_iadd dJ6_bitCount_0f7a4_39 ?_
  refine zs_istore_nL (loc' := fun v0_4 => [(0, .int v0_4)]) dJ6_bitCount_0f7a4_40 rfl (Nat.le_of_ble_eq_true rfl) [0] (fun _ => rfl) (fun v0_4 => ?_)
  refine zs_iload_n dJ6_bitCount_0f7a4_41 rfl 0 rfl ?_
  refine zs_iload_n dJ6_bitCount_0f7a4_42 rfl 0 rfl ?_
  refine zs_bipush (v := 16) dJ6_bitCount_0f7a4_43 cbipush_16 ?_
  refine zs_iushr dJ6_bitCount_0f7a4_45 ?_
  refine zs_iadd dJ6_bitCount_0f7a4_46 ?_
  refine zs_istore_nL (loc' := fun v0_5 => [(0, .int v0_5)]) dJ6_bitCount_0f7a4_47 rfl (Nat.le_of_ble_eq_true rfl) [0] (fun _ => rfl) (fun v0_5 => ?_)
  refine zs_iload_n dJ6_bitCount_0f7a4_48 rfl 0 rfl ?_
  refine zs_bipush (v := 63) dJ6_bitCount_0f7a4_49 cbipush_63 ?_
  refine zs_iand dJ6_bitCount_0f7a4_51 ?_
  exact zs_iretP dJ6_bitCount_0f7a4_52 rfl
theorem dX2_isIn_0 : decode cX2_isIn 0 = .ok (.iload_n 0, 1) := by decide +kernel
theorem dX2_isIn_1 : decode cX2_isIn 1 = .ok (.iload_n 1, 1) := by decide +kernel
theorem dX2_isIn_2 : decode cX2_isIn 2 = .ok (.ishr, 1) := by decide +kernel
theorem dX2_isIn_3 : decode cX2_isIn 3 = .ok (.iconst 1, 1) := by decide +kernel
theorem dX2_isIn_4 : decode cX2_isIn 4 = .ok (.iand, 1) := by decide +kernel
theorem dX2_isIn_5 : decode cX2_isIn 5 = .ok (.ifCond .eq 7, 3) := by decide +kernel
theorem dX2_isIn_8 : decode cX2_isIn 8 = .ok (.iconst 1, 1) := by decide +kernel
theorem dX2_isIn_9 : decode cX2_isIn 9 = .ok (.goto 4, 3) := by decide +kernel
theorem dX2_isIn_12 : decode cX2_isIn 12 = .ok (.iconst 0, 1) := by decide +kernel
theorem dX2_isIn_13 : decode cX2_isIn 13 = .ok (.ireturn, 1) := by decide +kernel
def fp_X2_isIn (v0 : Int32) (v1 : Int32) : Option (Int32) :=
  if ((v0 >>> (v1 &&& 31)) &&& 1) = 0 then (
    some 0)
  else (
    some 1)
set_option maxHeartbeats 4000000 in
set_option maxRecDepth 100000 in
theorem ct_X2_isIn (E : zEnv) (hE : zEok E) (d : Nat) (hd : 1 ≤ d) (v0 : Int32) (v1 : Int32) (M : zM) (x0 : Int32) (hx : fp_X2_isIn v0 v1 = some x0) : zCt E mu_X2_isIn d [.int v0, .int v1] M (some (.int x0), M) := by
  refine zCt_of (μ := mu_X2_isIn) (t := fp_X2_isIn v0 v1) rfl rfl (Nat.le_of_ble_eq_true rfl) hx ?_
  change zSy E mu_X2_isIn d M (some (.int x0), M) x0 (fp_X2_isIn v0 v1) 0 [(0, .int v0), (1, .int v1)] [] M
  unfold fp_X2_isIn
  refine zs_iload_n dX2_isIn_0 rfl 0 rfl ?_
  refine zs_iload_n dX2_isIn_1 rfl 1 rfl ?_
  refine zs_ishr dX2_isIn_2 ?_
  refine zs_iconst (v := 1) dX2_isIn_3 ciconst_1 ?_
  refine zs_iand dX2_isIn_4 ?_
  refine zs_if_eq dX2_isIn_5 rfl ?_ ?_
  · refine zs_iconst (v := 0) dX2_isIn_12 ciconst_0 ?_
    exact zs_iretP dX2_isIn_13 rfl
  refine zs_iconst (v := 1) dX2_isIn_8 ciconst_1 ?_
  refine zs_goto dX2_isIn_9 rfl ?_
  exact zs_iretP dX2_isIn_13 rfl
theorem dX2_nearTo_0 : decode cX2_nearTo 0 = .ok (.iload_n 1, 1) := by decide +kernel
theorem dX2_nearTo_1 : decode cX2_nearTo 1 = .ok (.iload_n 2, 1) := by decide +kernel
theorem dX2_nearTo_2 : decode cX2_nearTo 2 = .ok (.iload_n 2, 1) := by decide +kernel
theorem dX2_nearTo_3 : decode cX2_nearTo 3 = .ok (.iconst 1, 1) := by decide +kernel
theorem dX2_nearTo_4 : decode cX2_nearTo 4 = .ok (.isub, 1) := by decide +kernel
theorem dX2_nearTo_5 : decode cX2_nearTo 5 = .ok (.imul, 1) := by decide +kernel
theorem dX2_nearTo_6 : decode cX2_nearTo 6 = .ok (.iconst 2, 1) := by decide +kernel
theorem dX2_nearTo_7 : decode cX2_nearTo 7 = .ok (.idiv, 1) := by decide +kernel
theorem dX2_nearTo_8 : decode cX2_nearTo 8 = .ok (.ishr, 1) := by decide +kernel
theorem dX2_nearTo_9 : decode cX2_nearTo 9 = .ok (.iconst 1, 1) := by decide +kernel
theorem dX2_nearTo_10 : decode cX2_nearTo 10 = .ok (.iload_n 2, 1) := by decide +kernel
theorem dX2_nearTo_11 : decode cX2_nearTo 11 = .ok (.ishl, 1) := by decide +kernel
theorem dX2_nearTo_12 : decode cX2_nearTo 12 = .ok (.iconst 1, 1) := by decide +kernel
theorem dX2_nearTo_13 : decode cX2_nearTo 13 = .ok (.isub, 1) := by decide +kernel
theorem dX2_nearTo_14 : decode cX2_nearTo 14 = .ok (.iand, 1) := by decide +kernel
theorem dX2_nearTo_15 : decode cX2_nearTo 15 = .ok (.istore_n 3, 1) := by decide +kernel
theorem dX2_nearTo_16 : decode cX2_nearTo 16 = .ok (.iload_n 2, 1) := by decide +kernel
theorem dX2_nearTo_17 : decode cX2_nearTo 17 = .ok (.iconst 1, 1) := by decide +kernel
theorem dX2_nearTo_18 : decode cX2_nearTo 18 = .ok (.iadd, 1) := by decide +kernel
theorem dX2_nearTo_19 : decode cX2_nearTo 19 = .ok (.istore 4, 2) := by decide +kernel
theorem dX2_nearTo_21 : decode cX2_nearTo 21 = .ok (.iload 4, 2) := by decide +kernel
theorem dX2_nearTo_23 : decode cX2_nearTo 23 = .ok (.iload_n 0, 1) := by decide +kernel
theorem dX2_nearTo_24 : decode cX2_nearTo 24 = .ok (.if_icmp .ge 30, 3) := by decide +kernel
theorem dX2_nearTo_27 : decode cX2_nearTo 27 = .ok (.iload_n 3, 1) := by decide +kernel
theorem dX2_nearTo_28 : decode cX2_nearTo 28 = .ok (.iload_n 1, 1) := by decide +kernel
theorem dX2_nearTo_29 : decode cX2_nearTo 29 = .ok (.iload 4, 2) := by decide +kernel
theorem dX2_nearTo_31 : decode cX2_nearTo 31 = .ok (.iload 4, 2) := by decide +kernel
theorem dX2_nearTo_33 : decode cX2_nearTo 33 = .ok (.iconst 1, 1) := by decide +kernel
theorem dX2_nearTo_34 : decode cX2_nearTo 34 = .ok (.isub, 1) := by decide +kernel
theorem dX2_nearTo_35 : decode cX2_nearTo 35 = .ok (.imul, 1) := by decide +kernel
theorem dX2_nearTo_36 : decode cX2_nearTo 36 = .ok (.iconst 2, 1) := by decide +kernel
theorem dX2_nearTo_37 : decode cX2_nearTo 37 = .ok (.idiv, 1) := by decide +kernel
theorem dX2_nearTo_38 : decode cX2_nearTo 38 = .ok (.iload_n 2, 1) := by decide +kernel
theorem dX2_nearTo_39 : decode cX2_nearTo 39 = .ok (.iadd, 1) := by decide +kernel
theorem dX2_nearTo_40 : decode cX2_nearTo 40 = .ok (.ishr, 1) := by decide +kernel
theorem dX2_nearTo_41 : decode cX2_nearTo 41 = .ok (.iconst 1, 1) := by decide +kernel
theorem dX2_nearTo_42 : decode cX2_nearTo 42 = .ok (.iand, 1) := by decide +kernel
theorem dX2_nearTo_43 : decode cX2_nearTo 43 = .ok (.iload 4, 2) := by decide +kernel
theorem dX2_nearTo_45 : decode cX2_nearTo 45 = .ok (.ishl, 1) := by decide +kernel
theorem dX2_nearTo_46 : decode cX2_nearTo 46 = .ok (.ior, 1) := by decide +kernel
theorem dX2_nearTo_47 : decode cX2_nearTo 47 = .ok (.istore_n 3, 1) := by decide +kernel
theorem dX2_nearTo_48 : decode cX2_nearTo 48 = .ok (.iinc 4 1, 3) := by decide +kernel
theorem dX2_nearTo_51 : decode cX2_nearTo 51 = .ok (.goto (-30), 3) := by decide +kernel
theorem dX2_nearTo_54 : decode cX2_nearTo 54 = .ok (.iload_n 3, 1) := by decide +kernel
theorem dX2_nearTo_55 : decode cX2_nearTo 55 = .ok (.ireturn, 1) := by decide +kernel
def fp_X2_nearTo_L21 (v0 : Int32) (v1 : Int32) (v2 : Int32) : Nat → Int32 → Int32 → Option (Int32)
  | 0, _, _ => none
  | n + 1, v3, v4 =>
    if v4 ≥ v0 then (
      some v3)
    else (
      lett ((v3 ||| (((v1 >>> ((((v4 * (v4 - 1)) / 2) + v2) &&& 31)) &&& 1) <<< (v4 &&& 31)))) fun (v3_3 : Int32) =>
      fp_X2_nearTo_L21 v0 v1 v2 n v3_3 (v4 + 1))
def fp_X2_nearTo (v0 : Int32) (v1 : Int32) (v2 : Int32) : Option (Int32) :=
  lett (((v1 >>> (((v2 * (v2 - 1)) / 2) &&& 31)) &&& ((1 <<< (v2 &&& 31)) - 1))) fun (v3_1 : Int32) =>
  lett ((v2 + 1)) fun (v4_2 : Int32) =>
  fp_X2_nearTo_L21 v0 v1 v2 FU v3_1 v4_2
set_option maxHeartbeats 4000000 in
set_option maxRecDepth 100000 in
theorem w_X2_nearTo_L21 (E : zEnv) (hE : zEok E) (d : Nat) (hd : 1 ≤ d) (x0 : Int32) (v0 : Int32) (v1 : Int32) (v2 : Int32) (M : zM)  : ∀ (n : Nat) (v3 : Int32) (v4 : Int32), zSy E mu_X2_nearTo d M (some (.int x0), M) x0 (fp_X2_nearTo_L21 v0 v1 v2 n v3 v4) 21 [(0, .int v0), (1, .int v1), (2, .int v2), (3, .int v3), (4, .int v4)] [] M := by
  intro n
  induction n with
  | zero =>
    intro v3 v4
    rw [fp_X2_nearTo_L21]
    exact zs_none
  | succ n ih =>
    intro v3 v4
    rw [fp_X2_nearTo_L21]
    refine zs_iload dX2_nearTo_21 4 rfl ?_
    refine zs_iload_n dX2_nearTo_23 rfl 0 rfl ?_
    refine zs_icmp_ge dX2_nearTo_24 rfl ?_ ?_
    · refine zs_iload_n dX2_nearTo_54 rfl 3 rfl ?_
      exact zs_iretP dX2_nearTo_55 rfl
    refine zs_iload_n dX2_nearTo_27 rfl 3 rfl ?_
    refine zs_iload_n dX2_nearTo_28 rfl 1 rfl ?_
    refine zs_iload dX2_nearTo_29 4 rfl ?_
    refine zs_iload dX2_nearTo_31 4 rfl ?_
    refine zs_iconst (v := 1) dX2_nearTo_33 ciconst_1 ?_
    refine zs_isub dX2_nearTo_34 ?_
    refine zs_imul dX2_nearTo_35 ?_
    refine zs_iconst (v := 2) dX2_nearTo_36 ciconst_2 ?_
    refine zs_idivK dX2_nearTo_37 (by decide) ?_
    refine zs_iload_n dX2_nearTo_38 rfl 2 rfl ?_
    refine zs_iadd dX2_nearTo_39 ?_
    refine zs_ishr dX2_nearTo_40 ?_
    refine zs_iconst (v := 1) dX2_nearTo_41 ciconst_1 ?_
    refine zs_iand dX2_nearTo_42 ?_
    refine zs_iload dX2_nearTo_43 4 rfl ?_
    refine zs_ishl dX2_nearTo_45 ?_
    refine zs_ior dX2_nearTo_46 ?_
    refine zs_istore_nL (loc' := fun v3_3 => [(0, .int v0), (1, .int v1), (2, .int v2), (3, .int v3_3), (4, .int v4)]) dX2_nearTo_47 rfl (Nat.le_of_ble_eq_true rfl) [1, 2, 3, 0, 4] (fun _ => rfl) (fun v3_3 => ?_)
    refine zs_iinc (v := (v4 + 1)) (loc' := [(0, .int v0), (1, .int v1), (2, .int v2), (3, .int v3_3), (4, .int (v4 + 1))]) dX2_nearTo_48 4 rfl (by rfl) (Nat.le_of_ble_eq_true rfl) [1, 2, 3, 4, 0] rfl ?_
    refine zs_goto dX2_nearTo_51 rfl ?_
    exact ih v3_3 (v4 + 1)
set_option maxHeartbeats 4000000 in
set_option maxRecDepth 100000 in
theorem ct_X2_nearTo (E : zEnv) (hE : zEok E) (d : Nat) (hd : 1 ≤ d) (v0 : Int32) (v1 : Int32) (v2 : Int32) (M : zM) (x0 : Int32) (hx : fp_X2_nearTo v0 v1 v2 = some x0) : zCt E mu_X2_nearTo d [.int v0, .int v1, .int v2] M (some (.int x0), M) := by
  refine zCt_of (μ := mu_X2_nearTo) (t := fp_X2_nearTo v0 v1 v2) rfl rfl (Nat.le_of_ble_eq_true rfl) hx ?_
  change zSy E mu_X2_nearTo d M (some (.int x0), M) x0 (fp_X2_nearTo v0 v1 v2) 0 [(0, .int v0), (1, .int v1), (2, .int v2)] [] M
  unfold fp_X2_nearTo
  refine zs_iload_n dX2_nearTo_0 rfl 1 rfl ?_
  refine zs_iload_n dX2_nearTo_1 rfl 2 rfl ?_
  refine zs_iload_n dX2_nearTo_2 rfl 2 rfl ?_
  refine zs_iconst (v := 1) dX2_nearTo_3 ciconst_1 ?_
  refine zs_isub dX2_nearTo_4 ?_
  refine zs_imul dX2_nearTo_5 ?_
  refine zs_iconst (v := 2) dX2_nearTo_6 ciconst_2 ?_
  refine zs_idivK dX2_nearTo_7 (by decide) ?_
  refine zs_ishr dX2_nearTo_8 ?_
  refine zs_iconst (v := 1) dX2_nearTo_9 ciconst_1 ?_
  refine zs_iload_n dX2_nearTo_10 rfl 2 rfl ?_
  refine zs_ishl dX2_nearTo_11 ?_
  refine zs_iconst (v := 1) dX2_nearTo_12 ciconst_1 ?_
  refine zs_isub dX2_nearTo_13 ?_
  refine zs_iand dX2_nearTo_14 ?_
  refine zs_istore_nL (loc' := fun v3_1 => [(0, .int v0), (1, .int v1), (2, .int v2), (3, .int v3_1)]) dX2_nearTo_15 rfl (Nat.le_of_ble_eq_true rfl) [1, 2, 3, 0] (fun _ => rfl) (fun v3_1 => ?_)
  refine zs_iload_n dX2_nearTo_16 rfl 2 rfl ?_
  refine zs_iconst (v := 1) dX2_nearTo_17 ciconst_1 ?_
  refine zs_iadd dX2_nearTo_18 ?_
  refine zs_istoreL (loc' := fun v4_2 => [(0, .int v0), (1, .int v1), (2, .int v2), (3, .int v3_1), (4, .int v4_2)]) dX2_nearTo_19 (Nat.le_of_ble_eq_true rfl) [1, 2, 3, 4, 0] (fun _ => rfl) (fun v4_2 => ?_)
  exact w_X2_nearTo_L21 E hE d hd _ _ _ _ _ _ _ _
theorem dX2_joinedTo_0 : decode cX2_joinedTo 0 = .ok (.iconst 1, 1) := by decide +kernel
theorem dX2_joinedTo_1 : decode cX2_joinedTo 1 = .ok (.iload_n 2, 1) := by decide +kernel
theorem dX2_joinedTo_2 : decode cX2_joinedTo 2 = .ok (.ishl, 1) := by decide +kernel
theorem dX2_joinedTo_3 : decode cX2_joinedTo 3 = .ok (.istore_n 3, 1) := by decide +kernel
theorem dX2_joinedTo_4 : decode cX2_joinedTo 4 = .ok (.iconst 0, 1) := by decide +kernel
theorem dX2_joinedTo_5 : decode cX2_joinedTo 5 = .ok (.istore 4, 2) := by decide +kernel
theorem dX2_joinedTo_7 : decode cX2_joinedTo 7 = .ok (.iload 4, 2) := by decide +kernel
theorem dX2_joinedTo_9 : decode cX2_joinedTo 9 = .ok (.iload_n 0, 1) := by decide +kernel
theorem dX2_joinedTo_10 : decode cX2_joinedTo 10 = .ok (.if_icmp .ge 43, 3) := by decide +kernel
theorem dX2_joinedTo_13 : decode cX2_joinedTo 13 = .ok (.iconst 0, 1) := by decide +kernel
theorem dX2_joinedTo_14 : decode cX2_joinedTo 14 = .ok (.istore 5, 2) := by decide +kernel
theorem dX2_joinedTo_16 : decode cX2_joinedTo 16 = .ok (.iload 5, 2) := by decide +kernel
theorem dX2_joinedTo_18 : decode cX2_joinedTo 18 = .ok (.iload_n 0, 1) := by decide +kernel
theorem dX2_joinedTo_19 : decode cX2_joinedTo 19 = .ok (.if_icmp .ge 28, 3) := by decide +kernel
theorem dX2_joinedTo_22 : decode cX2_joinedTo 22 = .ok (.iload_n 3, 1) := by decide +kernel
theorem dX2_joinedTo_23 : decode cX2_joinedTo 23 = .ok (.iload 5, 2) := by decide +kernel
theorem dX2_joinedTo_25 : decode cX2_joinedTo 25 = .ok (.invokestatic 45, 3) := by decide +kernel
theorem dX2_joinedTo_28 : decode cX2_joinedTo 28 = .ok (.ifCond .eq 13, 3) := by decide +kernel
theorem dX2_joinedTo_31 : decode cX2_joinedTo 31 = .ok (.iload_n 3, 1) := by decide +kernel
theorem dX2_joinedTo_32 : decode cX2_joinedTo 32 = .ok (.iload_n 0, 1) := by decide +kernel
theorem dX2_joinedTo_33 : decode cX2_joinedTo 33 = .ok (.iload_n 1, 1) := by decide +kernel
theorem dX2_joinedTo_34 : decode cX2_joinedTo 34 = .ok (.iload 5, 2) := by decide +kernel
theorem dX2_joinedTo_36 : decode cX2_joinedTo 36 = .ok (.invokestatic 20, 3) := by decide +kernel
theorem dX2_joinedTo_39 : decode cX2_joinedTo 39 = .ok (.ior, 1) := by decide +kernel
theorem dX2_joinedTo_40 : decode cX2_joinedTo 40 = .ok (.istore_n 3, 1) := by decide +kernel
theorem dX2_joinedTo_41 : decode cX2_joinedTo 41 = .ok (.iinc 5 1, 3) := by decide +kernel
theorem dX2_joinedTo_44 : decode cX2_joinedTo 44 = .ok (.goto (-28), 3) := by decide +kernel
theorem dX2_joinedTo_47 : decode cX2_joinedTo 47 = .ok (.iinc 4 1, 3) := by decide +kernel
theorem dX2_joinedTo_50 : decode cX2_joinedTo 50 = .ok (.goto (-43), 3) := by decide +kernel
theorem dX2_joinedTo_53 : decode cX2_joinedTo 53 = .ok (.iload_n 3, 1) := by decide +kernel
theorem dX2_joinedTo_54 : decode cX2_joinedTo 54 = .ok (.ireturn, 1) := by decide +kernel
def fp_X2_joinedTo_L16 (k47 : Int32 → Option (Int32)) (v0 : Int32) (v1 : Int32) (v4 : Int32) : Nat → Int32 → Int32 → Option (Int32)
  | 0, _, _ => none
  | n + 1, v3, v5 =>
    if v5 ≥ v0 then (
      k47 v3)
    else (
      (fp_X2_isIn v3 v5).bind fun (y2 : Int32) =>
      zjn (fun (v3_3 : Int32) =>
          fp_X2_joinedTo_L16 k47 v0 v1 v4 n v3_3 (v5 + 1))
        (fun j41 =>
          if y2 = 0 then (
            j41 v3)
          else (
            (fp_X2_nearTo v0 v1 v5).bind fun (y4 : Int32) =>
            lett ((v3 ||| y4)) fun (v3_5 : Int32) =>
            j41 v3_5)))
def fp_X2_joinedTo_L7 (v0 : Int32) (v1 : Int32) : Nat → Int32 → Int32 → Option (Int32)
  | 0, _, _ => none
  | n + 1, v3, v4 =>
    if v4 ≥ v0 then (
      some v3)
    else (
      fp_X2_joinedTo_L16
        (fun v3_6 =>
          fp_X2_joinedTo_L7 v0 v1 n v3_6 (v4 + 1)) v0 v1 v4 FU v3 0)
def fp_X2_joinedTo (v0 : Int32) (v1 : Int32) (v2 : Int32) : Option (Int32) :=
  lett ((1 <<< (v2 &&& 31))) fun (v3_1 : Int32) =>
  fp_X2_joinedTo_L7 v0 v1 FU v3_1 0
set_option maxHeartbeats 4000000 in
set_option maxRecDepth 100000 in
theorem w_X2_joinedTo_L16 (E : zEnv) (hE : zEok E) (d : Nat) (hd : 2 ≤ d) (x0 : Int32) (v0 : Int32) (v1 : Int32) (v4 : Int32) (M : zM) (k47 : Int32 → Option (Int32)) (hk47 : ∀ (v3 : Int32), zSy E mu_X2_joinedTo d M (some (.int x0), M) x0 (k47 v3) 47 [(0, .int v0), (1, .int v1), (3, .int v3), (4, .int v4)] [] M) : ∀ (n : Nat) (v3 : Int32) (v5 : Int32), zSy E mu_X2_joinedTo d M (some (.int x0), M) x0 (fp_X2_joinedTo_L16 k47 v0 v1 v4 n v3 v5) 16 [(0, .int v0), (1, .int v1), (3, .int v3), (4, .int v4), (5, .int v5)] [] M := by
  intro n
  induction n with
  | zero =>
    intro v3 v5
    rw [fp_X2_joinedTo_L16]
    exact zs_none
  | succ n ih =>
    intro v3 v5
    rw [fp_X2_joinedTo_L16]
    refine zs_iload dX2_joinedTo_16 4 rfl ?_
    refine zs_iload_n dX2_joinedTo_18 rfl 0 rfl ?_
    refine zs_icmp_ge dX2_joinedTo_19 rfl ?_ ?_
    · refine zs_sub (loc' := [(0, .int v0), (1, .int v1), (3, .int v3), (4, .int v4)]) [0, 1, 2, 3] rfl ?_
      exact hk47 v3
    refine zs_iload_n dX2_joinedTo_22 rfl 2 rfl ?_
    refine zs_iload dX2_joinedTo_23 4 rfl ?_
    refine zs_invSPI (rest := []) [.int v3, .int v5] dX2_joinedTo_25 lk_X2_45 rfl (zd1 rfl hd) rfl (Nat.le_of_ble_eq_true rfl) (ct_X2_isIn E hE _ (zdl rfl hd) _ _ _) (fun y2 => ?_)
    refine zs_jn (fun j41 => ∀ (v3_3 : Int32), zSy E mu_X2_joinedTo d M (some (.int x0), M) x0 (j41 v3_3) 41 [(0, .int v0), (1, .int v1), (3, .int v3_3), (4, .int v4), (5, .int v5)] [] M) (fun v3_3 => ?_) (fun j41 hj41 => ?_)
    · refine zs_iinc (v := (v5 + 1)) (loc' := [(0, .int v0), (1, .int v1), (3, .int v3_3), (4, .int v4), (5, .int (v5 + 1))]) dX2_joinedTo_41 4 rfl (by rfl) (Nat.le_of_ble_eq_true rfl) [1, 2, 3, 4, 0] rfl ?_
      refine zs_goto dX2_joinedTo_44 rfl ?_
      exact ih v3_3 (v5 + 1)
    refine zs_if_eq dX2_joinedTo_28 rfl ?_ ?_
    · exact hj41 v3
    refine zs_iload_n dX2_joinedTo_31 rfl 2 rfl ?_
    refine zs_iload_n dX2_joinedTo_32 rfl 0 rfl ?_
    refine zs_iload_n dX2_joinedTo_33 rfl 1 rfl ?_
    refine zs_iload dX2_joinedTo_34 4 rfl ?_
    refine zs_invSPI (rest := [.int v3]) [.int v0, .int v1, .int v5] dX2_joinedTo_36 lk_X2_20 rfl (zd1 rfl hd) rfl (Nat.le_of_ble_eq_true rfl) (ct_X2_nearTo E hE _ (zdl rfl hd) _ _ _ _) (fun y4 => ?_)
    refine zs_ior dX2_joinedTo_39 ?_
    refine zs_istore_nL (loc' := fun v3_5 => [(0, .int v0), (1, .int v1), (3, .int v3_5), (4, .int v4), (5, .int v5)]) dX2_joinedTo_40 rfl (Nat.le_of_ble_eq_true rfl) [1, 2, 0, 3, 4] (fun _ => rfl) (fun v3_5 => ?_)
    exact hj41 v3_5
set_option maxHeartbeats 4000000 in
set_option maxRecDepth 100000 in
theorem w_X2_joinedTo_L7 (E : zEnv) (hE : zEok E) (d : Nat) (hd : 2 ≤ d) (x0 : Int32) (v0 : Int32) (v1 : Int32) (M : zM)  : ∀ (n : Nat) (v3 : Int32) (v4 : Int32), zSy E mu_X2_joinedTo d M (some (.int x0), M) x0 (fp_X2_joinedTo_L7 v0 v1 n v3 v4) 7 [(0, .int v0), (1, .int v1), (3, .int v3), (4, .int v4)] [] M := by
  intro n
  induction n with
  | zero =>
    intro v3 v4
    rw [fp_X2_joinedTo_L7]
    exact zs_none
  | succ n ih =>
    intro v3 v4
    rw [fp_X2_joinedTo_L7]
    refine zs_iload dX2_joinedTo_7 3 rfl ?_
    refine zs_iload_n dX2_joinedTo_9 rfl 0 rfl ?_
    refine zs_icmp_ge dX2_joinedTo_10 rfl ?_ ?_
    · refine zs_iload_n dX2_joinedTo_53 rfl 2 rfl ?_
      exact zs_iretP dX2_joinedTo_54 rfl
    refine zs_iconst (v := 0) dX2_joinedTo_13 ciconst_0 ?_
    refine zs_istore (loc' := [(0, .int v0), (1, .int v1), (3, .int v3), (4, .int v4), (5, .int 0)]) dX2_joinedTo_14 (Nat.le_of_ble_eq_true rfl) [1, 2, 3, 4, 0] rfl ?_
    refine w_X2_joinedTo_L16 E hE d hd _ _ _ _ _ _ (fun v3_6 => ?_) _ _ _
    refine zs_iinc (v := (v4 + 1)) (loc' := [(0, .int v0), (1, .int v1), (3, .int v3_6), (4, .int (v4 + 1))]) dX2_joinedTo_47 3 rfl (by rfl) (Nat.le_of_ble_eq_true rfl) [1, 2, 3, 0] rfl ?_
    refine zs_goto dX2_joinedTo_50 rfl ?_
    exact ih v3_6 (v4 + 1)
set_option maxHeartbeats 4000000 in
set_option maxRecDepth 100000 in
theorem ct_X2_joinedTo (E : zEnv) (hE : zEok E) (d : Nat) (hd : 2 ≤ d) (v0 : Int32) (v1 : Int32) (v2 : Int32) (M : zM) (x0 : Int32) (hx : fp_X2_joinedTo v0 v1 v2 = some x0) : zCt E mu_X2_joinedTo d [.int v0, .int v1, .int v2] M (some (.int x0), M) := by
  refine zCt_of (μ := mu_X2_joinedTo) (t := fp_X2_joinedTo v0 v1 v2) rfl rfl (Nat.le_of_ble_eq_true rfl) hx ?_
  change zSy E mu_X2_joinedTo d M (some (.int x0), M) x0 (fp_X2_joinedTo v0 v1 v2) 0 [(0, .int v0), (1, .int v1), (2, .int v2)] [] M
  unfold fp_X2_joinedTo
  refine zs_iconst (v := 1) dX2_joinedTo_0 ciconst_1 ?_
  refine zs_iload_n dX2_joinedTo_1 rfl 2 rfl ?_
  refine zs_ishl dX2_joinedTo_2 ?_
  refine zs_istore_nL (loc' := fun v3_1 => [(0, .int v0), (1, .int v1), (3, .int v3_1)]) dX2_joinedTo_3 rfl (Nat.le_of_ble_eq_true rfl) [1, 2, 0] (fun _ => rfl) (fun v3_1 => ?_)
  refine zs_iconst (v := 0) dX2_joinedTo_4 ciconst_0 ?_
  refine zs_istore (loc' := [(0, .int v0), (1, .int v1), (3, .int v3_1), (4, .int 0)]) dX2_joinedTo_5 (Nat.le_of_ble_eq_true rfl) [1, 2, 3, 0] rfl ?_
  exact w_X2_joinedTo_L7 E hE d hd _ _ _ _ _ _ _
theorem dX2_everyPoint_0 : decode cX2_everyPoint 0 = .ok (.iconst 1, 1) := by decide +kernel
theorem dX2_everyPoint_1 : decode cX2_everyPoint 1 = .ok (.iload_n 0, 1) := by decide +kernel
theorem dX2_everyPoint_2 : decode cX2_everyPoint 2 = .ok (.ishl, 1) := by decide +kernel
theorem dX2_everyPoint_3 : decode cX2_everyPoint 3 = .ok (.iconst 1, 1) := by decide +kernel
theorem dX2_everyPoint_4 : decode cX2_everyPoint 4 = .ok (.isub, 1) := by decide +kernel
theorem dX2_everyPoint_5 : decode cX2_everyPoint 5 = .ok (.ireturn, 1) := by decide +kernel
def fp_X2_everyPoint (v0 : Int32) : Option (Int32) :=
  some ((1 <<< (v0 &&& 31)) - 1)
set_option maxHeartbeats 4000000 in
set_option maxRecDepth 100000 in
theorem ct_X2_everyPoint (E : zEnv) (hE : zEok E) (d : Nat) (hd : 1 ≤ d) (v0 : Int32) (M : zM) (x0 : Int32) (hx : fp_X2_everyPoint v0 = some x0) : zCt E mu_X2_everyPoint d [.int v0] M (some (.int x0), M) := by
  refine zCt_of (μ := mu_X2_everyPoint) (t := fp_X2_everyPoint v0) rfl rfl (Nat.le_of_ble_eq_true rfl) hx ?_
  change zSy E mu_X2_everyPoint d M (some (.int x0), M) x0 (fp_X2_everyPoint v0) 0 [(0, .int v0)] [] M
  unfold fp_X2_everyPoint
  refine zs_iconst (v := 1) dX2_everyPoint_0 ciconst_1 ?_
  refine zs_iload_n dX2_everyPoint_1 rfl 0 rfl ?_
  refine zs_ishl dX2_everyPoint_2 ?_
  refine zs_iconst (v := 1) dX2_everyPoint_3 ciconst_1 ?_
  refine zs_isub dX2_everyPoint_4 ?_
  exact zs_iretP dX2_everyPoint_5 rfl
theorem dX2_joined_0 : decode cX2_joined 0 = .ok (.iload_n 0, 1) := by decide +kernel
theorem dX2_joined_1 : decode cX2_joined 1 = .ok (.ifCond .eq 16, 3) := by decide +kernel
theorem dX2_joined_4 : decode cX2_joined 4 = .ok (.iload_n 0, 1) := by decide +kernel
theorem dX2_joined_5 : decode cX2_joined 5 = .ok (.iload_n 1, 1) := by decide +kernel
theorem dX2_joined_6 : decode cX2_joined 6 = .ok (.iconst 0, 1) := by decide +kernel
theorem dX2_joined_7 : decode cX2_joined 7 = .ok (.invokestatic 49, 3) := by decide +kernel
theorem dX2_joined_10 : decode cX2_joined 10 = .ok (.iload_n 0, 1) := by decide +kernel
theorem dX2_joined_11 : decode cX2_joined 11 = .ok (.invokestatic 16, 3) := by decide +kernel
theorem dX2_joined_14 : decode cX2_joined 14 = .ok (.if_icmp .ne 7, 3) := by decide +kernel
theorem dX2_joined_17 : decode cX2_joined 17 = .ok (.iconst 1, 1) := by decide +kernel
theorem dX2_joined_18 : decode cX2_joined 18 = .ok (.goto 4, 3) := by decide +kernel
theorem dX2_joined_21 : decode cX2_joined 21 = .ok (.iconst 0, 1) := by decide +kernel
theorem dX2_joined_22 : decode cX2_joined 22 = .ok (.ireturn, 1) := by decide +kernel
def fp_X2_joined (v0 : Int32) (v1 : Int32) : Option (Int32) :=
  zjn (
      some 1)
    (fun j17 =>
      if v0 = 0 then (
        j17)
      else (
        (fp_X2_joinedTo v0 v1 0).bind fun (y1 : Int32) =>
        (fp_X2_everyPoint v0).bind fun (y2 : Int32) =>
        if y1 ≠ y2 then (
          some 0)
        else (
          j17)))
set_option maxHeartbeats 4000000 in
set_option maxRecDepth 100000 in
theorem ct_X2_joined (E : zEnv) (hE : zEok E) (d : Nat) (hd : 3 ≤ d) (v0 : Int32) (v1 : Int32) (M : zM) (x0 : Int32) (hx : fp_X2_joined v0 v1 = some x0) : zCt E mu_X2_joined d [.int v0, .int v1] M (some (.int x0), M) := by
  refine zCt_of (μ := mu_X2_joined) (t := fp_X2_joined v0 v1) rfl rfl (Nat.le_of_ble_eq_true rfl) hx ?_
  change zSy E mu_X2_joined d M (some (.int x0), M) x0 (fp_X2_joined v0 v1) 0 [(0, .int v0), (1, .int v1)] [] M
  unfold fp_X2_joined
  refine zs_iload_n dX2_joined_0 rfl 0 rfl ?_
  refine zs_jn (fun j17 => zSy E mu_X2_joined d M (some (.int x0), M) x0 (j17) 17 [] [] M) ?_ (fun j17 hj17 => ?_)
  · refine zs_iconst (v := 1) dX2_joined_17 ciconst_1 ?_
    refine zs_goto dX2_joined_18 rfl ?_
    exact zs_iretP dX2_joined_22 rfl
  refine zs_if_eq dX2_joined_1 rfl ?_ ?_
  · refine zs_sub (loc' := []) [] rfl ?_
    exact hj17
  refine zs_iload_n dX2_joined_4 rfl 0 rfl ?_
  refine zs_iload_n dX2_joined_5 rfl 1 rfl ?_
  refine zs_iconst (v := 0) dX2_joined_6 ciconst_0 ?_
  refine zs_invSPI (rest := []) [.int v0, .int v1, .int 0] dX2_joined_7 lk_X2_49 rfl (zd1 rfl hd) rfl (Nat.le_of_ble_eq_true rfl) (ct_X2_joinedTo E hE _ (zdl rfl hd) _ _ _ _) (fun y1 => ?_)
  refine zs_iload_n dX2_joined_10 rfl 0 rfl ?_
  refine zs_invSPI (rest := [.int y1]) [.int v0] dX2_joined_11 lk_X2_16 rfl (zd1 rfl hd) rfl (Nat.le_of_ble_eq_true rfl) (ct_X2_everyPoint E hE _ (zdl rfl hd) _ _) (fun y2 => ?_)
  refine zs_icmp_ne dX2_joined_14 rfl ?_ ?_
  · refine zs_iconst (v := 0) dX2_joined_21 ciconst_0 ?_
    exact zs_iretP dX2_joined_22 rfl
  refine zs_sub (loc' := []) [] rfl ?_
  exact hj17
theorem dX2_withRow_0 : decode cX2_withRow 0 = .ok (.iload_n 2, 1) := by decide +kernel
theorem dX2_withRow_1 : decode cX2_withRow 1 = .ok (.istore_n 3, 1) := by decide +kernel
theorem dX2_withRow_2 : decode cX2_withRow 2 = .ok (.bipush 6, 2) := by decide +kernel
theorem dX2_withRow_4 : decode cX2_withRow 4 = .ok (.istore 4, 2) := by decide +kernel
theorem dX2_withRow_6 : decode cX2_withRow 6 = .ok (.iload 4, 2) := by decide +kernel
theorem dX2_withRow_8 : decode cX2_withRow 8 = .ok (.ifCond .lt 53, 3) := by decide +kernel
theorem dX2_withRow_11 : decode cX2_withRow 11 = .ok (.iload_n 3, 1) := by decide +kernel
theorem dX2_withRow_12 : decode cX2_withRow 12 = .ok (.iload 4, 2) := by decide +kernel
theorem dX2_withRow_14 : decode cX2_withRow 14 = .ok (.ishr, 1) := by decide +kernel
theorem dX2_withRow_15 : decode cX2_withRow 15 = .ok (.iconst 1, 1) := by decide +kernel
theorem dX2_withRow_16 : decode cX2_withRow 16 = .ok (.iand, 1) := by decide +kernel
theorem dX2_withRow_17 : decode cX2_withRow 17 = .ok (.ifCond .eq 38, 3) := by decide +kernel
theorem dX2_withRow_20 : decode cX2_withRow 20 = .ok (.lload_n 0, 1) := by decide +kernel
theorem dX2_withRow_21 : decode cX2_withRow 21 = .ok (.bipush 8, 2) := by decide +kernel
theorem dX2_withRow_23 : decode cX2_withRow 23 = .ok (.iload 4, 2) := by decide +kernel
theorem dX2_withRow_25 : decode cX2_withRow 25 = .ok (.imul, 1) := by decide +kernel
theorem dX2_withRow_26 : decode cX2_withRow 26 = .ok (.lshr, 1) := by decide +kernel
theorem dX2_withRow_27 : decode cX2_withRow 27 = .ok (.ldc2_w 59, 3) := by decide +kernel
theorem dX2_withRow_30 : decode cX2_withRow 30 = .ok (.land, 1) := by decide +kernel
theorem dX2_withRow_31 : decode cX2_withRow 31 = .ok (.l2i, 1) := by decide +kernel
theorem dX2_withRow_32 : decode cX2_withRow 32 = .ok (.istore 5, 2) := by decide +kernel
theorem dX2_withRow_34 : decode cX2_withRow 34 = .ok (.iload 5, 2) := by decide +kernel
theorem dX2_withRow_36 : decode cX2_withRow 36 = .ok (.ifCond .ne 14, 3) := by decide +kernel
theorem dX2_withRow_39 : decode cX2_withRow 39 = .ok (.lload_n 0, 1) := by decide +kernel
theorem dX2_withRow_40 : decode cX2_withRow 40 = .ok (.iload_n 3, 1) := by decide +kernel
theorem dX2_withRow_41 : decode cX2_withRow 41 = .ok (.i2l, 1) := by decide +kernel
theorem dX2_withRow_42 : decode cX2_withRow 42 = .ok (.bipush 8, 2) := by decide +kernel
theorem dX2_withRow_44 : decode cX2_withRow 44 = .ok (.iload 4, 2) := by decide +kernel
theorem dX2_withRow_46 : decode cX2_withRow 46 = .ok (.imul, 1) := by decide +kernel
theorem dX2_withRow_47 : decode cX2_withRow 47 = .ok (.lshl, 1) := by decide +kernel
theorem dX2_withRow_48 : decode cX2_withRow 48 = .ok (.lor, 1) := by decide +kernel
theorem dX2_withRow_49 : decode cX2_withRow 49 = .ok (.lreturn, 1) := by decide +kernel
theorem dX2_withRow_50 : decode cX2_withRow 50 = .ok (.iload_n 3, 1) := by decide +kernel
theorem dX2_withRow_51 : decode cX2_withRow 51 = .ok (.iload 5, 2) := by decide +kernel
theorem dX2_withRow_53 : decode cX2_withRow 53 = .ok (.ixor, 1) := by decide +kernel
theorem dX2_withRow_54 : decode cX2_withRow 54 = .ok (.istore_n 3, 1) := by decide +kernel
theorem dX2_withRow_55 : decode cX2_withRow 55 = .ok (.iinc 4 (-1), 3) := by decide +kernel
theorem dX2_withRow_58 : decode cX2_withRow 58 = .ok (.goto (-52), 3) := by decide +kernel
theorem dX2_withRow_61 : decode cX2_withRow 61 = .ok (.lload_n 0, 1) := by decide +kernel
theorem dX2_withRow_62 : decode cX2_withRow 62 = .ok (.lreturn, 1) := by decide +kernel
def fp_X2_withRow_L6 (k39 : Int32 → Int32 → Option (Int64)) (v0 : Int64) : Nat → Int32 → Int32 → Option (Int64)
  | 0, _, _ => none
  | n + 1, v3, v4 =>
    if v4 < 0 then (
      some v0)
    else (
      zjn (fun (v3_1 : Int32) =>
          fp_X2_withRow_L6 k39 v0 n v3_1 (v4 + (-1)))
        (fun j55 =>
          if ((v3 >>> (v4 &&& 31)) &&& 1) = 0 then (
            j55 v3)
          else (
            lett ((((v0 >>> ((8 * v4).toInt64 &&& 63)) &&& 127).toInt32)) fun (v5_2 : Int32) =>
            if v5_2 ≠ 0 then (
              lett ((v3 ^^^ v5_2)) fun (v3_3 : Int32) =>
              j55 v3_3)
            else (
              k39 v3 v4))))
def fp_X2_withRow (v0 : Int64) (v2 : Int32) : Option (Int64) :=
  fp_X2_withRow_L6
    (fun v3_4 v4_5 =>
      some (v0 ||| ((v3_4.toInt64) <<< ((8 * v4_5).toInt64 &&& 63)))) v0 FU v2 6
set_option maxHeartbeats 4000000 in
set_option maxRecDepth 100000 in
theorem w_X2_withRow_L6 (E : zEnv) (hE : zEok E) (d : Nat) (hd : 1 ≤ d) (x0 : Int64) (v0 : Int64) (M : zM) (k39 : Int32 → Int32 → Option (Int64)) (hk39 : ∀ (v3 : Int32) (v4 : Int32), zSy E mu_X2_withRow d M (some (.long x0), M) x0 (k39 v3 v4) 39 [(0, .long v0), (3, .int v3), (4, .int v4)] [] M) : ∀ (n : Nat) (v3 : Int32) (v4 : Int32), zSy E mu_X2_withRow d M (some (.long x0), M) x0 (fp_X2_withRow_L6 k39 v0 n v3 v4) 6 [(0, .long v0), (3, .int v3), (4, .int v4)] [] M := by
  intro n
  induction n with
  | zero =>
    intro v3 v4
    rw [fp_X2_withRow_L6]
    exact zs_none
  | succ n ih =>
    intro v3 v4
    rw [fp_X2_withRow_L6]
    refine zs_iload dX2_withRow_6 2 rfl ?_
    refine zs_if_lt dX2_withRow_8 rfl ?_ ?_
    · refine zs_lload_n dX2_withRow_61 rfl 0 rfl ?_
      exact zs_lretP dX2_withRow_62 trivial
    refine zs_iload_n dX2_withRow_11 rfl 1 rfl ?_
    refine zs_iload dX2_withRow_12 2 rfl ?_
    refine zs_ishr dX2_withRow_14 ?_
    refine zs_iconst (v := 1) dX2_withRow_15 ciconst_1 ?_
    refine zs_iand dX2_withRow_16 ?_
    refine zs_jn (fun j55 => ∀ (v3_1 : Int32), zSy E mu_X2_withRow d M (some (.long x0), M) x0 (j55 v3_1) 55 [(0, .long v0), (3, .int v3_1), (4, .int v4)] [] M) (fun v3_1 => ?_) (fun j55 hj55 => ?_)
    · refine zs_iinc (v := (v4 + (-1))) (loc' := [(0, .long v0), (3, .int v3_1), (4, .int (v4 + (-1)))]) dX2_withRow_55 2 rfl (by rfl) (Nat.le_of_ble_eq_true rfl) [1, 2, 0] rfl ?_
      refine zs_goto dX2_withRow_58 rfl ?_
      exact ih v3_1 (v4 + (-1))
    refine zs_if_eq dX2_withRow_17 rfl ?_ ?_
    · exact hj55 v3
    refine zs_lload_n dX2_withRow_20 rfl 0 rfl ?_
    refine zs_bipush (v := 8) dX2_withRow_21 cbipush_8 ?_
    refine zs_iload dX2_withRow_23 2 rfl ?_
    refine zs_imul dX2_withRow_25 ?_
    refine zs_lshr dX2_withRow_26 ?_
    refine zs_ldc2 (v := 127) dX2_withRow_27 (ti_3 56 rfl rfl) ?_
    refine zs_land dX2_withRow_30 ?_
    refine zs_l2i dX2_withRow_31 ?_
    refine zs_istoreL (loc' := fun v5_2 => [(0, .long v0), (3, .int v3), (4, .int v4), (5, .int v5_2)]) dX2_withRow_32 (Nat.le_of_ble_eq_true rfl) [1, 2, 3, 0] (fun _ => rfl) (fun v5_2 => ?_)
    refine zs_iload dX2_withRow_34 3 rfl ?_
    refine zs_if_ne dX2_withRow_36 rfl ?_ ?_
    · refine zs_iload_n dX2_withRow_50 rfl 1 rfl ?_
      refine zs_iload dX2_withRow_51 3 rfl ?_
      refine zs_ixor dX2_withRow_53 ?_
      refine zs_istore_nL (loc' := fun v3_3 => [(0, .long v0), (3, .int v3_3), (4, .int v4)]) dX2_withRow_54 rfl (Nat.le_of_ble_eq_true rfl) [1, 0, 2] (fun _ => rfl) (fun v3_3 => ?_)
      exact hj55 v3_3
    refine zs_sub (loc' := [(0, .long v0), (3, .int v3), (4, .int v4)]) [0, 1, 2] rfl ?_
    exact hk39 v3 v4
set_option maxHeartbeats 4000000 in
set_option maxRecDepth 100000 in
theorem ct_X2_withRow (E : zEnv) (hE : zEok E) (d : Nat) (hd : 1 ≤ d) (v0 : Int64) (v2 : Int32) (M : zM) (x0 : Int64) (hx : fp_X2_withRow v0 v2 = some x0) : zCt E mu_X2_withRow d [.long v0, .int v2] M (some (.long x0), M) := by
  refine zCt_of (μ := mu_X2_withRow) (t := fp_X2_withRow v0 v2) rfl rfl (Nat.le_of_ble_eq_true rfl) hx ?_
  change zSy E mu_X2_withRow d M (some (.long x0), M) x0 (fp_X2_withRow v0 v2) 0 [(0, .long v0), (2, .int v2)] [] M
  unfold fp_X2_withRow
  refine zs_iload_n dX2_withRow_0 rfl 1 rfl ?_
  refine zs_istore_n (loc' := [(0, .long v0), (3, .int v2)]) dX2_withRow_1 rfl (Nat.le_of_ble_eq_true rfl) [1, 0] rfl ?_
  refine zs_bipush (v := 6) dX2_withRow_2 cbipush_6 ?_
  refine zs_istore (loc' := [(0, .long v0), (3, .int v2), (4, .int 6)]) dX2_withRow_4 (Nat.le_of_ble_eq_true rfl) [1, 2, 0] rfl ?_
  refine w_X2_withRow_L6 E hE d hd _ _ _ _ (fun v3_4 v4_5 => ?_) _ _ _
  refine zs_lload_n dX2_withRow_39 rfl 0 rfl ?_
  refine zs_iload_n dX2_withRow_40 rfl 1 rfl ?_
  refine zs_i2l dX2_withRow_41 ?_
  refine zs_bipush (v := 8) dX2_withRow_42 cbipush_8 ?_
  refine zs_iload dX2_withRow_44 2 rfl ?_
  refine zs_imul dX2_withRow_46 ?_
  refine zs_lshl dX2_withRow_47 ?_
  refine zs_lor dX2_withRow_48 ?_
  exact zs_lretP dX2_withRow_49 trivial
theorem dX2_rank_0 : decode cX2_rank 0 = .ok (.lconst 0, 1) := by decide +kernel
theorem dX2_rank_1 : decode cX2_rank 1 = .ok (.lstore_n 3, 1) := by decide +kernel
theorem dX2_rank_2 : decode cX2_rank 2 = .ok (.iconst 0, 1) := by decide +kernel
theorem dX2_rank_3 : decode cX2_rank 3 = .ok (.istore 5, 2) := by decide +kernel
theorem dX2_rank_5 : decode cX2_rank 5 = .ok (.iconst 0, 1) := by decide +kernel
theorem dX2_rank_6 : decode cX2_rank 6 = .ok (.istore 6, 2) := by decide +kernel
theorem dX2_rank_8 : decode cX2_rank 8 = .ok (.iload 6, 2) := by decide +kernel
theorem dX2_rank_10 : decode cX2_rank 10 = .ok (.iload_n 0, 1) := by decide +kernel
theorem dX2_rank_11 : decode cX2_rank 11 = .ok (.if_icmp .ge 48, 3) := by decide +kernel
theorem dX2_rank_14 : decode cX2_rank 14 = .ok (.iload_n 2, 1) := by decide +kernel
theorem dX2_rank_15 : decode cX2_rank 15 = .ok (.iload 6, 2) := by decide +kernel
theorem dX2_rank_17 : decode cX2_rank 17 = .ok (.invokestatic 45, 3) := by decide +kernel
theorem dX2_rank_20 : decode cX2_rank 20 = .ok (.ifCond .eq 33, 3) := by decide +kernel
theorem dX2_rank_23 : decode cX2_rank 23 = .ok (.lload_n 3, 1) := by decide +kernel
theorem dX2_rank_24 : decode cX2_rank 24 = .ok (.iload_n 0, 1) := by decide +kernel
theorem dX2_rank_25 : decode cX2_rank 25 = .ok (.iload_n 1, 1) := by decide +kernel
theorem dX2_rank_26 : decode cX2_rank 26 = .ok (.iload 6, 2) := by decide +kernel
theorem dX2_rank_28 : decode cX2_rank 28 = .ok (.invokestatic 20, 3) := by decide +kernel
theorem dX2_rank_31 : decode cX2_rank 31 = .ok (.iload_n 2, 1) := by decide +kernel
theorem dX2_rank_32 : decode cX2_rank 32 = .ok (.iconst (-1), 1) := by decide +kernel
theorem dX2_rank_33 : decode cX2_rank 33 = .ok (.ixor, 1) := by decide +kernel
theorem dX2_rank_34 : decode cX2_rank 34 = .ok (.iand, 1) := by decide +kernel
theorem dX2_rank_35 : decode cX2_rank 35 = .ok (.invokestatic 55, 3) := by decide +kernel
theorem dX2_rank_38 : decode cX2_rank 38 = .ok (.lstore 7, 2) := by decide +kernel
theorem dX2_rank_40 : decode cX2_rank 40 = .ok (.lload 7, 2) := by decide +kernel
theorem dX2_rank_42 : decode cX2_rank 42 = .ok (.lload_n 3, 1) := by decide +kernel
theorem dX2_rank_43 : decode cX2_rank 43 = .ok (.lcmp, 1) := by decide +kernel
theorem dX2_rank_44 : decode cX2_rank 44 = .ok (.ifCond .eq 9, 3) := by decide +kernel
theorem dX2_rank_47 : decode cX2_rank 47 = .ok (.lload 7, 2) := by decide +kernel
theorem dX2_rank_49 : decode cX2_rank 49 = .ok (.lstore_n 3, 1) := by decide +kernel
theorem dX2_rank_50 : decode cX2_rank 50 = .ok (.iinc 5 1, 3) := by decide +kernel
theorem dX2_rank_53 : decode cX2_rank 53 = .ok (.iinc 6 1, 3) := by decide +kernel
theorem dX2_rank_56 : decode cX2_rank 56 = .ok (.goto (-48), 3) := by decide +kernel
theorem dX2_rank_59 : decode cX2_rank 59 = .ok (.iload 5, 2) := by decide +kernel
theorem dX2_rank_61 : decode cX2_rank 61 = .ok (.ireturn, 1) := by decide +kernel
def fp_X2_rank_L8 (v0 : Int32) (v1 : Int32) (v2 : Int32) : Nat → Int64 → Int32 → Int32 → Option (Int32)
  | 0, _, _, _ => none
  | n + 1, v3, v5, v6 =>
    if v6 ≥ v0 then (
      some v5)
    else (
      (fp_X2_isIn v2 v6).bind fun (y1 : Int32) =>
      zjn (fun (v3_2 : Int64) (v5_3 : Int32) =>
          fp_X2_rank_L8 v0 v1 v2 n v3_2 v5_3 (v6 + 1))
        (fun j53 =>
          if y1 = 0 then (
            j53 v3 v5)
          else (
            (fp_X2_nearTo v0 v1 v6).bind fun (y4 : Int32) =>
            (fp_X2_withRow v3 (y4 &&& (v2 ^^^ (-1)))).bind fun (y5 : Int64) =>
            if (lg_cmp y5 v3) = 0 then (
              j53 v3 v5)
            else (
              j53 y5 (v5 + 1)))))
def fp_X2_rank (v0 : Int32) (v1 : Int32) (v2 : Int32) : Option (Int32) :=
  fp_X2_rank_L8 v0 v1 v2 FU 0 0 0
set_option maxHeartbeats 4000000 in
set_option maxRecDepth 100000 in
theorem w_X2_rank_L8 (E : zEnv) (hE : zEok E) (d : Nat) (hd : 2 ≤ d) (x0 : Int32) (v0 : Int32) (v1 : Int32) (v2 : Int32) (M : zM)  : ∀ (n : Nat) (v3 : Int64) (v5 : Int32) (v6 : Int32), zSy E mu_X2_rank d M (some (.int x0), M) x0 (fp_X2_rank_L8 v0 v1 v2 n v3 v5 v6) 8 [(0, .int v0), (1, .int v1), (2, .int v2), (3, .long v3), (5, .int v5), (6, .int v6)] [] M := by
  intro n
  induction n with
  | zero =>
    intro v3 v5 v6
    rw [fp_X2_rank_L8]
    exact zs_none
  | succ n ih =>
    intro v3 v5 v6
    rw [fp_X2_rank_L8]
    refine zs_iload dX2_rank_8 5 rfl ?_
    refine zs_iload_n dX2_rank_10 rfl 0 rfl ?_
    refine zs_icmp_ge dX2_rank_11 rfl ?_ ?_
    · refine zs_iload dX2_rank_59 4 rfl ?_
      exact zs_iretP dX2_rank_61 rfl
    refine zs_iload_n dX2_rank_14 rfl 2 rfl ?_
    refine zs_iload dX2_rank_15 5 rfl ?_
    refine zs_invSPI (rest := []) [.int v2, .int v6] dX2_rank_17 lk_X2_45 rfl (zd1 rfl hd) rfl (Nat.le_of_ble_eq_true rfl) (ct_X2_isIn E hE _ (zdl rfl hd) _ _ _) (fun y1 => ?_)
    refine zs_jn (fun j53 => ∀ (v3_2 : Int64) (v5_3 : Int32), zSy E mu_X2_rank d M (some (.int x0), M) x0 (j53 v3_2 v5_3) 53 [(0, .int v0), (1, .int v1), (2, .int v2), (3, .long v3_2), (5, .int v5_3), (6, .int v6)] [] M) (fun v3_2 v5_3 => ?_) (fun j53 hj53 => ?_)
    · refine zs_iinc (v := (v6 + 1)) (loc' := [(0, .int v0), (1, .int v1), (2, .int v2), (3, .long v3_2), (5, .int v5_3), (6, .int (v6 + 1))]) dX2_rank_53 5 rfl (by rfl) (Nat.le_of_ble_eq_true rfl) [1, 2, 3, 4, 5, 0] rfl ?_
      refine zs_goto dX2_rank_56 rfl ?_
      exact ih v3_2 v5_3 (v6 + 1)
    refine zs_if_eq dX2_rank_20 rfl ?_ ?_
    · exact hj53 v3 v5
    refine zs_lload_n dX2_rank_23 rfl 3 rfl ?_
    refine zs_iload_n dX2_rank_24 rfl 0 rfl ?_
    refine zs_iload_n dX2_rank_25 rfl 1 rfl ?_
    refine zs_iload dX2_rank_26 5 rfl ?_
    refine zs_invSPI (rest := [.long v3]) [.int v0, .int v1, .int v6] dX2_rank_28 lk_X2_20 rfl (zd1 rfl hd) rfl (Nat.le_of_ble_eq_true rfl) (ct_X2_nearTo E hE _ (zdl rfl hd) _ _ _ _) (fun y4 => ?_)
    refine zs_iload_n dX2_rank_31 rfl 2 rfl ?_
    refine zs_iconst (v := (-1)) dX2_rank_32 ciconst_m1 ?_
    refine zs_ixor dX2_rank_33 ?_
    refine zs_iand dX2_rank_34 ?_
    refine zs_invSPJ (rest := []) [.long v3, .int (y4 &&& (v2 ^^^ (-1)))] dX2_rank_35 lk_X2_55 rfl (zd1 rfl hd) rfl (Nat.le_of_ble_eq_true rfl) (ct_X2_withRow E hE _ (zdl rfl hd) _ _ _) (fun y5 => ?_)
    refine zs_lstore (loc' := [(0, .int v0), (1, .int v1), (2, .int v2), (3, .long v3), (5, .int v5), (6, .int v6), (7, .long y5)]) dX2_rank_38 (Nat.le_of_ble_eq_true rfl) [1, 2, 3, 4, 5, 6, 0] rfl ?_
    refine zs_lload dX2_rank_40 6 rfl ?_
    refine zs_lload_n dX2_rank_42 rfl 3 rfl ?_
    refine zs_lcmp dX2_rank_43 ?_
    refine zs_if_eq dX2_rank_44 rfl ?_ ?_
    · refine zs_sub (loc' := [(0, .int v0), (1, .int v1), (2, .int v2), (3, .long v3), (5, .int v5), (6, .int v6)]) [0, 1, 2, 3, 4, 5] rfl ?_
      exact hj53 v3 v5
    refine zs_lload dX2_rank_47 6 rfl ?_
    refine zs_lstore_n (loc' := [(0, .int v0), (1, .int v1), (2, .int v2), (3, .long y5), (5, .int v5), (6, .int v6)]) dX2_rank_49 rfl (Nat.le_of_ble_eq_true rfl) [1, 2, 3, 0, 4, 5] rfl ?_
    refine zs_iinc (v := (v5 + 1)) (loc' := [(0, .int v0), (1, .int v1), (2, .int v2), (3, .long y5), (5, .int (v5 + 1)), (6, .int v6)]) dX2_rank_50 4 rfl (by rfl) (Nat.le_of_ble_eq_true rfl) [1, 2, 3, 4, 0, 5] rfl ?_
    exact hj53 y5 (v5 + 1)
set_option maxHeartbeats 4000000 in
set_option maxRecDepth 100000 in
theorem ct_X2_rank (E : zEnv) (hE : zEok E) (d : Nat) (hd : 2 ≤ d) (v0 : Int32) (v1 : Int32) (v2 : Int32) (M : zM) (x0 : Int32) (hx : fp_X2_rank v0 v1 v2 = some x0) : zCt E mu_X2_rank d [.int v0, .int v1, .int v2] M (some (.int x0), M) := by
  refine zCt_of (μ := mu_X2_rank) (t := fp_X2_rank v0 v1 v2) rfl rfl (Nat.le_of_ble_eq_true rfl) hx ?_
  change zSy E mu_X2_rank d M (some (.int x0), M) x0 (fp_X2_rank v0 v1 v2) 0 [(0, .int v0), (1, .int v1), (2, .int v2)] [] M
  unfold fp_X2_rank
  refine zs_lconst (v := 0) dX2_rank_0 (by rfl) ?_
  refine zs_lstore_n (loc' := [(0, .int v0), (1, .int v1), (2, .int v2), (3, .long 0)]) dX2_rank_1 rfl (Nat.le_of_ble_eq_true rfl) [1, 2, 3, 0] rfl ?_
  refine zs_iconst (v := 0) dX2_rank_2 ciconst_0 ?_
  refine zs_istore (loc' := [(0, .int v0), (1, .int v1), (2, .int v2), (3, .long 0), (5, .int 0)]) dX2_rank_3 (Nat.le_of_ble_eq_true rfl) [1, 2, 3, 4, 0] rfl ?_
  refine zs_iconst (v := 0) dX2_rank_5 ciconst_0 ?_
  refine zs_istore (loc' := [(0, .int v0), (1, .int v1), (2, .int v2), (3, .long 0), (5, .int 0), (6, .int 0)]) dX2_rank_6 (Nat.le_of_ble_eq_true rfl) [1, 2, 3, 4, 5, 0] rfl ?_
  exact w_X2_rank_L8 E hE d hd _ _ _ _ _ _ _ _ _
theorem dX6_isSplit_0 : decode cX6_isSplit 0 = .ok (.iload_n 2, 1) := by decide +kernel
theorem dX6_isSplit_1 : decode cX6_isSplit 1 = .ok (.invokestatic 42, 3) := by decide +kernel
theorem dX6_isSplit_4 : decode cX6_isSplit 4 = .ok (.istore_n 3, 1) := by decide +kernel
theorem dX6_isSplit_5 : decode cX6_isSplit 5 = .ok (.iload_n 3, 1) := by decide +kernel
theorem dX6_isSplit_6 : decode cX6_isSplit 6 = .ok (.iconst 2, 1) := by decide +kernel
theorem dX6_isSplit_7 : decode cX6_isSplit 7 = .ok (.if_icmp .lt 24, 3) := by decide +kernel
theorem dX6_isSplit_10 : decode cX6_isSplit 10 = .ok (.iload_n 0, 1) := by decide +kernel
theorem dX6_isSplit_11 : decode cX6_isSplit 11 = .ok (.iload_n 3, 1) := by decide +kernel
theorem dX6_isSplit_12 : decode cX6_isSplit 12 = .ok (.isub, 1) := by decide +kernel
theorem dX6_isSplit_13 : decode cX6_isSplit 13 = .ok (.iconst 2, 1) := by decide +kernel
theorem dX6_isSplit_14 : decode cX6_isSplit 14 = .ok (.if_icmp .lt 17, 3) := by decide +kernel
theorem dX6_isSplit_17 : decode cX6_isSplit 17 = .ok (.iload_n 0, 1) := by decide +kernel
theorem dX6_isSplit_18 : decode cX6_isSplit 18 = .ok (.iload_n 1, 1) := by decide +kernel
theorem dX6_isSplit_19 : decode cX6_isSplit 19 = .ok (.iload_n 2, 1) := by decide +kernel
theorem dX6_isSplit_20 : decode cX6_isSplit 20 = .ok (.invokestatic 47, 3) := by decide +kernel
theorem dX6_isSplit_23 : decode cX6_isSplit 23 = .ok (.iconst 1, 1) := by decide +kernel
theorem dX6_isSplit_24 : decode cX6_isSplit 24 = .ok (.if_icmp .ne 7, 3) := by decide +kernel
theorem dX6_isSplit_27 : decode cX6_isSplit 27 = .ok (.iconst 1, 1) := by decide +kernel
theorem dX6_isSplit_28 : decode cX6_isSplit 28 = .ok (.goto 4, 3) := by decide +kernel
theorem dX6_isSplit_31 : decode cX6_isSplit 31 = .ok (.iconst 0, 1) := by decide +kernel
theorem dX6_isSplit_32 : decode cX6_isSplit 32 = .ok (.ireturn, 1) := by decide +kernel
def fp_X6_isSplit (v0 : Int32) (v1 : Int32) (v2 : Int32) : Option (Int32) :=
  (fp_J6_bitCount_0f7a4 v2).bind fun (y1 : Int32) =>
  if y1 < 2 then (
    some 0)
  else (
    if (v0 - y1) < 2 then (
      some 0)
    else (
      (fp_X2_rank v0 v1 v2).bind fun (y2 : Int32) =>
      if y2 ≠ 1 then (
        some 0)
      else (
        some 1)))
set_option maxHeartbeats 4000000 in
set_option maxRecDepth 100000 in
theorem ct_X6_isSplit (E : zEnv) (hE : zEok E) (d : Nat) (hd : 3 ≤ d) (v0 : Int32) (v1 : Int32) (v2 : Int32) (M : zM) (x0 : Int32) (hx : fp_X6_isSplit v0 v1 v2 = some x0) : zCt E mu_X6_isSplit d [.int v0, .int v1, .int v2] M (some (.int x0), M) := by
  refine zCt_of (μ := mu_X6_isSplit) (t := fp_X6_isSplit v0 v1 v2) rfl rfl (Nat.le_of_ble_eq_true rfl) hx ?_
  change zSy E mu_X6_isSplit d M (some (.int x0), M) x0 (fp_X6_isSplit v0 v1 v2) 0 [(0, .int v0), (1, .int v1), (2, .int v2)] [] M
  unfold fp_X6_isSplit
  refine zs_iload_n dX6_isSplit_0 rfl 2 rfl ?_
  refine zs_invSPI (rest := []) [.int v2] dX6_isSplit_1 lk_X6_42 rfl (zd1 rfl hd) rfl (Nat.le_of_ble_eq_true rfl) (ct_J6_bitCount_0f7a4 E hE _ (zdl rfl hd) _ _) (fun y1 => ?_)
  refine zs_istore_n (loc' := [(0, .int v0), (1, .int v1), (2, .int v2), (3, .int y1)]) dX6_isSplit_4 rfl (Nat.le_of_ble_eq_true rfl) [1, 2, 3, 0] rfl ?_
  refine zs_iload_n dX6_isSplit_5 rfl 3 rfl ?_
  refine zs_iconst (v := 2) dX6_isSplit_6 ciconst_2 ?_
  refine zs_icmp_lt dX6_isSplit_7 rfl ?_ ?_
  · refine zs_iconst (v := 0) dX6_isSplit_31 ciconst_0 ?_
    exact zs_iretP dX6_isSplit_32 rfl
  refine zs_iload_n dX6_isSplit_10 rfl 0 rfl ?_
  refine zs_iload_n dX6_isSplit_11 rfl 3 rfl ?_
  refine zs_isub dX6_isSplit_12 ?_
  refine zs_iconst (v := 2) dX6_isSplit_13 ciconst_2 ?_
  refine zs_icmp_lt dX6_isSplit_14 rfl ?_ ?_
  · refine zs_iconst (v := 0) dX6_isSplit_31 ciconst_0 ?_
    exact zs_iretP dX6_isSplit_32 rfl
  refine zs_iload_n dX6_isSplit_17 rfl 0 rfl ?_
  refine zs_iload_n dX6_isSplit_18 rfl 1 rfl ?_
  refine zs_iload_n dX6_isSplit_19 rfl 2 rfl ?_
  refine zs_invSPI (rest := []) [.int v0, .int v1, .int v2] dX6_isSplit_20 lk_X6_47 rfl (zd1 rfl hd) rfl (Nat.le_of_ble_eq_true rfl) (ct_X2_rank E hE _ (zdl rfl hd) _ _ _ _) (fun y2 => ?_)
  refine zs_iconst (v := 1) dX6_isSplit_23 ciconst_1 ?_
  refine zs_icmp_ne dX6_isSplit_24 rfl ?_ ?_
  · refine zs_iconst (v := 0) dX6_isSplit_31 ciconst_0 ?_
    exact zs_iretP dX6_isSplit_32 rfl
  refine zs_iconst (v := 1) dX6_isSplit_27 ciconst_1 ?_
  refine zs_goto dX6_isSplit_28 rfl ?_
  exact zs_iretP dX6_isSplit_32 rfl
theorem dX6_firstOf_0 : decode cX6_firstOf 0 = .ok (.iconst 1, 1) := by decide +kernel
theorem dX6_firstOf_1 : decode cX6_firstOf 1 = .ok (.istore_n 2, 1) := by decide +kernel
theorem dX6_firstOf_2 : decode cX6_firstOf 2 = .ok (.iload_n 2, 1) := by decide +kernel
theorem dX6_firstOf_3 : decode cX6_firstOf 3 = .ok (.iconst 1, 1) := by decide +kernel
theorem dX6_firstOf_4 : decode cX6_firstOf 4 = .ok (.iload_n 0, 1) := by decide +kernel
theorem dX6_firstOf_5 : decode cX6_firstOf 5 = .ok (.ishl, 1) := by decide +kernel
theorem dX6_firstOf_6 : decode cX6_firstOf 6 = .ok (.if_icmp .ge 20, 3) := by decide +kernel
theorem dX6_firstOf_9 : decode cX6_firstOf 9 = .ok (.iload_n 0, 1) := by decide +kernel
theorem dX6_firstOf_10 : decode cX6_firstOf 10 = .ok (.iload_n 1, 1) := by decide +kernel
theorem dX6_firstOf_11 : decode cX6_firstOf 11 = .ok (.iload_n 2, 1) := by decide +kernel
theorem dX6_firstOf_12 : decode cX6_firstOf 12 = .ok (.invokestatic 25, 3) := by decide +kernel
theorem dX6_firstOf_15 : decode cX6_firstOf 15 = .ok (.ifCond .eq 5, 3) := by decide +kernel
theorem dX6_firstOf_18 : decode cX6_firstOf 18 = .ok (.iload_n 2, 1) := by decide +kernel
theorem dX6_firstOf_19 : decode cX6_firstOf 19 = .ok (.ireturn, 1) := by decide +kernel
theorem dX6_firstOf_20 : decode cX6_firstOf 20 = .ok (.iinc 2 2, 3) := by decide +kernel
theorem dX6_firstOf_23 : decode cX6_firstOf 23 = .ok (.goto (-21), 3) := by decide +kernel
theorem dX6_firstOf_26 : decode cX6_firstOf 26 = .ok (.iconst 0, 1) := by decide +kernel
theorem dX6_firstOf_27 : decode cX6_firstOf 27 = .ok (.ireturn, 1) := by decide +kernel
def fp_X6_firstOf_L2 (v0 : Int32) (v1 : Int32) : Nat → Int32 → Option (Int32)
  | 0, _ => none
  | n + 1, v2 =>
    if v2 ≥ (1 <<< (v0 &&& 31)) then (
      some 0)
    else (
      (fp_X6_isSplit v0 v1 v2).bind fun (y1 : Int32) =>
      if y1 = 0 then (
        fp_X6_firstOf_L2 v0 v1 n (v2 + 2))
      else (
        some v2))
def fp_X6_firstOf (v0 : Int32) (v1 : Int32) : Option (Int32) :=
  fp_X6_firstOf_L2 v0 v1 FU 1
set_option maxHeartbeats 4000000 in
set_option maxRecDepth 100000 in
theorem w_X6_firstOf_L2 (E : zEnv) (hE : zEok E) (d : Nat) (hd : 4 ≤ d) (x0 : Int32) (v0 : Int32) (v1 : Int32) (M : zM)  : ∀ (n : Nat) (v2 : Int32), zSy E mu_X6_firstOf d M (some (.int x0), M) x0 (fp_X6_firstOf_L2 v0 v1 n v2) 2 [(0, .int v0), (1, .int v1), (2, .int v2)] [] M := by
  intro n
  induction n with
  | zero =>
    intro v2
    rw [fp_X6_firstOf_L2]
    exact zs_none
  | succ n ih =>
    intro v2
    rw [fp_X6_firstOf_L2]
    refine zs_iload_n dX6_firstOf_2 rfl 2 rfl ?_
    refine zs_iconst (v := 1) dX6_firstOf_3 ciconst_1 ?_
    refine zs_iload_n dX6_firstOf_4 rfl 0 rfl ?_
    refine zs_ishl dX6_firstOf_5 ?_
    refine zs_icmp_ge dX6_firstOf_6 rfl ?_ ?_
    · refine zs_iconst (v := 0) dX6_firstOf_26 ciconst_0 ?_
      exact zs_iretP dX6_firstOf_27 rfl
    refine zs_iload_n dX6_firstOf_9 rfl 0 rfl ?_
    refine zs_iload_n dX6_firstOf_10 rfl 1 rfl ?_
    refine zs_iload_n dX6_firstOf_11 rfl 2 rfl ?_
    refine zs_invSPI (rest := []) [.int v0, .int v1, .int v2] dX6_firstOf_12 lk_X6_25 rfl (zd1 rfl hd) rfl (Nat.le_of_ble_eq_true rfl) (ct_X6_isSplit E hE _ (zdl rfl hd) _ _ _ _) (fun y1 => ?_)
    refine zs_if_eq dX6_firstOf_15 rfl ?_ ?_
    · refine zs_iinc (v := (v2 + 2)) (loc' := [(0, .int v0), (1, .int v1), (2, .int (v2 + 2))]) dX6_firstOf_20 2 rfl (by rfl) (Nat.le_of_ble_eq_true rfl) [1, 2, 0] rfl ?_
      refine zs_goto dX6_firstOf_23 rfl ?_
      exact ih (v2 + 2)
    refine zs_iload_n dX6_firstOf_18 rfl 2 rfl ?_
    exact zs_iretP dX6_firstOf_19 rfl
set_option maxHeartbeats 4000000 in
set_option maxRecDepth 100000 in
theorem ct_X6_firstOf (E : zEnv) (hE : zEok E) (d : Nat) (hd : 4 ≤ d) (v0 : Int32) (v1 : Int32) (M : zM) (x0 : Int32) (hx : fp_X6_firstOf v0 v1 = some x0) : zCt E mu_X6_firstOf d [.int v0, .int v1] M (some (.int x0), M) := by
  refine zCt_of (μ := mu_X6_firstOf) (t := fp_X6_firstOf v0 v1) rfl rfl (Nat.le_of_ble_eq_true rfl) hx ?_
  change zSy E mu_X6_firstOf d M (some (.int x0), M) x0 (fp_X6_firstOf v0 v1) 0 [(0, .int v0), (1, .int v1)] [] M
  unfold fp_X6_firstOf
  refine zs_iconst (v := 1) dX6_firstOf_0 ciconst_1 ?_
  refine zs_istore_n (loc' := [(0, .int v0), (1, .int v1), (2, .int 1)]) dX6_firstOf_1 rfl (Nat.le_of_ble_eq_true rfl) [1, 2, 0] rfl ?_
  exact w_X6_firstOf_L2 E hE d hd _ _ _ _ _ _
theorem dX6_isPrime_0 : decode cX6_isPrime 0 = .ok (.iload_n 0, 1) := by decide +kernel
theorem dX6_isPrime_1 : decode cX6_isPrime 1 = .ok (.iconst 5, 1) := by decide +kernel
theorem dX6_isPrime_2 : decode cX6_isPrime 2 = .ok (.if_icmp .lt 23, 3) := by decide +kernel
theorem dX6_isPrime_5 : decode cX6_isPrime 5 = .ok (.iload_n 0, 1) := by decide +kernel
theorem dX6_isPrime_6 : decode cX6_isPrime 6 = .ok (.iload_n 1, 1) := by decide +kernel
theorem dX6_isPrime_7 : decode cX6_isPrime 7 = .ok (.invokestatic 19, 3) := by decide +kernel
theorem dX6_isPrime_10 : decode cX6_isPrime 10 = .ok (.ifCond .eq 15, 3) := by decide +kernel
theorem dX6_isPrime_13 : decode cX6_isPrime 13 = .ok (.iload_n 0, 1) := by decide +kernel
theorem dX6_isPrime_14 : decode cX6_isPrime 14 = .ok (.iload_n 1, 1) := by decide +kernel
theorem dX6_isPrime_15 : decode cX6_isPrime 15 = .ok (.invokestatic 51, 3) := by decide +kernel
theorem dX6_isPrime_18 : decode cX6_isPrime 18 = .ok (.ifCond .ne 7, 3) := by decide +kernel
theorem dX6_isPrime_21 : decode cX6_isPrime 21 = .ok (.iconst 1, 1) := by decide +kernel
theorem dX6_isPrime_22 : decode cX6_isPrime 22 = .ok (.goto 4, 3) := by decide +kernel
theorem dX6_isPrime_25 : decode cX6_isPrime 25 = .ok (.iconst 0, 1) := by decide +kernel
theorem dX6_isPrime_26 : decode cX6_isPrime 26 = .ok (.ireturn, 1) := by decide +kernel
def fp_X6_isPrime (v0 : Int32) (v1 : Int32) : Option (Int32) :=
  if v0 < 5 then (
    some 0)
  else (
    (fp_X2_joined v0 v1).bind fun (y1 : Int32) =>
    if y1 = 0 then (
      some 0)
    else (
      (fp_X6_firstOf v0 v1).bind fun (y2 : Int32) =>
      if y2 ≠ 0 then (
        some 0)
      else (
        some 1)))
set_option maxHeartbeats 4000000 in
set_option maxRecDepth 100000 in
theorem ct_X6_isPrime (E : zEnv) (hE : zEok E) (d : Nat) (hd : 5 ≤ d) (v0 : Int32) (v1 : Int32) (M : zM) (x0 : Int32) (hx : fp_X6_isPrime v0 v1 = some x0) : zCt E mu_X6_isPrime d [.int v0, .int v1] M (some (.int x0), M) := by
  refine zCt_of (μ := mu_X6_isPrime) (t := fp_X6_isPrime v0 v1) rfl rfl (Nat.le_of_ble_eq_true rfl) hx ?_
  change zSy E mu_X6_isPrime d M (some (.int x0), M) x0 (fp_X6_isPrime v0 v1) 0 [(0, .int v0), (1, .int v1)] [] M
  unfold fp_X6_isPrime
  refine zs_iload_n dX6_isPrime_0 rfl 0 rfl ?_
  refine zs_iconst (v := 5) dX6_isPrime_1 ciconst_5 ?_
  refine zs_icmp_lt dX6_isPrime_2 rfl ?_ ?_
  · refine zs_iconst (v := 0) dX6_isPrime_25 ciconst_0 ?_
    exact zs_iretP dX6_isPrime_26 rfl
  refine zs_iload_n dX6_isPrime_5 rfl 0 rfl ?_
  refine zs_iload_n dX6_isPrime_6 rfl 1 rfl ?_
  refine zs_invSPI (rest := []) [.int v0, .int v1] dX6_isPrime_7 lk_X6_19 rfl (zd1 rfl hd) rfl (Nat.le_of_ble_eq_true rfl) (ct_X2_joined E hE _ (zdl rfl hd) _ _ _) (fun y1 => ?_)
  refine zs_if_eq dX6_isPrime_10 rfl ?_ ?_
  · refine zs_iconst (v := 0) dX6_isPrime_25 ciconst_0 ?_
    exact zs_iretP dX6_isPrime_26 rfl
  refine zs_iload_n dX6_isPrime_13 rfl 0 rfl ?_
  refine zs_iload_n dX6_isPrime_14 rfl 1 rfl ?_
  refine zs_invSPI (rest := []) [.int v0, .int v1] dX6_isPrime_15 lk_X6_51 rfl (zd1 rfl hd) rfl (Nat.le_of_ble_eq_true rfl) (ct_X6_firstOf E hE _ (zdl rfl hd) _ _ _) (fun y2 => ?_)
  refine zs_if_ne dX6_isPrime_18 rfl ?_ ?_
  · refine zs_iconst (v := 0) dX6_isPrime_25 ciconst_0 ?_
    exact zs_iretP dX6_isPrime_26 rfl
  refine zs_iconst (v := 1) dX6_isPrime_21 ciconst_1 ?_
  refine zs_goto dX6_isPrime_22 rfl ?_
  exact zs_iretP dX6_isPrime_26 rfl
theorem dX0_count_0 : decode cX0_count 0 = .ok (.aload_n 0, 1) := by decide +kernel
theorem dX0_count_1 : decode cX0_count 1 = .ok (.iconst 0, 1) := by decide +kernel
theorem dX0_count_2 : decode cX0_count 2 = .ok (.putfield 36, 3) := by decide +kernel
theorem dX0_count_5 : decode cX0_count 5 = .ok (.aload_n 0, 1) := by decide +kernel
theorem dX0_count_6 : decode cX0_count 6 = .ok (.iconst 0, 1) := by decide +kernel
theorem dX0_count_7 : decode cX0_count 7 = .ok (.putfield 39, 3) := by decide +kernel
theorem dX0_count_10 : decode cX0_count 10 = .ok (.aload_n 0, 1) := by decide +kernel
theorem dX0_count_11 : decode cX0_count 11 = .ok (.iconst 0, 1) := by decide +kernel
theorem dX0_count_12 : decode cX0_count 12 = .ok (.putfield 42, 3) := by decide +kernel
theorem dX0_count_15 : decode cX0_count 15 = .ok (.iconst 0, 1) := by decide +kernel
theorem dX0_count_16 : decode cX0_count 16 = .ok (.istore_n 3, 1) := by decide +kernel
theorem dX0_count_17 : decode cX0_count 17 = .ok (.iload_n 3, 1) := by decide +kernel
theorem dX0_count_18 : decode cX0_count 18 = .ok (.iload_n 2, 1) := by decide +kernel
theorem dX0_count_19 : decode cX0_count 19 = .ok (.if_icmp .ge 68, 3) := by decide +kernel
theorem dX0_count_22 : decode cX0_count 22 = .ok (.aload_n 0, 1) := by decide +kernel
theorem dX0_count_23 : decode cX0_count 23 = .ok (.iload_n 1, 1) := by decide +kernel
theorem dX0_count_24 : decode cX0_count 24 = .ok (.invokevirtual 45, 3) := by decide +kernel
theorem dX0_count_27 : decode cX0_count 27 = .ok (.istore 4, 2) := by decide +kernel
theorem dX0_count_29 : decode cX0_count 29 = .ok (.aload_n 0, 1) := by decide +kernel
theorem dX0_count_30 : decode cX0_count 30 = .ok (.dup, 1) := by decide +kernel
theorem dX0_count_31 : decode cX0_count 31 = .ok (.getfield 36, 3) := by decide +kernel
theorem dX0_count_34 : decode cX0_count 34 = .ok (.iload 4, 2) := by decide +kernel
theorem dX0_count_36 : decode cX0_count 36 = .ok (.invokestatic 48, 3) := by decide +kernel
theorem dX0_count_39 : decode cX0_count 39 = .ok (.iadd, 1) := by decide +kernel
theorem dX0_count_40 : decode cX0_count 40 = .ok (.putfield 36, 3) := by decide +kernel
theorem dX0_count_43 : decode cX0_count 43 = .ok (.iload_n 1, 1) := by decide +kernel
theorem dX0_count_44 : decode cX0_count 44 = .ok (.iload 4, 2) := by decide +kernel
theorem dX0_count_46 : decode cX0_count 46 = .ok (.invokestatic 53, 3) := by decide +kernel
theorem dX0_count_49 : decode cX0_count 49 = .ok (.ifCond .eq 13, 3) := by decide +kernel
theorem dX0_count_52 : decode cX0_count 52 = .ok (.aload_n 0, 1) := by decide +kernel
theorem dX0_count_53 : decode cX0_count 53 = .ok (.dup, 1) := by decide +kernel
theorem dX0_count_54 : decode cX0_count 54 = .ok (.getfield 39, 3) := by decide +kernel
theorem dX0_count_57 : decode cX0_count 57 = .ok (.iconst 1, 1) := by decide +kernel
theorem dX0_count_58 : decode cX0_count 58 = .ok (.iadd, 1) := by decide +kernel
theorem dX0_count_59 : decode cX0_count 59 = .ok (.putfield 39, 3) := by decide +kernel
theorem dX0_count_62 : decode cX0_count 62 = .ok (.iload_n 1, 1) := by decide +kernel
theorem dX0_count_63 : decode cX0_count 63 = .ok (.iload 4, 2) := by decide +kernel
theorem dX0_count_65 : decode cX0_count 65 = .ok (.invokestatic 59, 3) := by decide +kernel
theorem dX0_count_68 : decode cX0_count 68 = .ok (.ifCond .eq 13, 3) := by decide +kernel
theorem dX0_count_71 : decode cX0_count 71 = .ok (.aload_n 0, 1) := by decide +kernel
theorem dX0_count_72 : decode cX0_count 72 = .ok (.dup, 1) := by decide +kernel
theorem dX0_count_73 : decode cX0_count 73 = .ok (.getfield 42, 3) := by decide +kernel
theorem dX0_count_76 : decode cX0_count 76 = .ok (.iconst 1, 1) := by decide +kernel
theorem dX0_count_77 : decode cX0_count 77 = .ok (.iadd, 1) := by decide +kernel
theorem dX0_count_78 : decode cX0_count 78 = .ok (.putfield 42, 3) := by decide +kernel
theorem dX0_count_81 : decode cX0_count 81 = .ok (.iinc 3 1, 3) := by decide +kernel
theorem dX0_count_84 : decode cX0_count 84 = .ok (.goto (-67), 3) := by decide +kernel
theorem dX0_count_87 : decode cX0_count 87 = .ok (.return_, 1) := by decide +kernel
def fp_X0_count_L17 (v0 : Nat) (v1 : Int32) (v2 : Int32) : Nat → Int32 → zM → Option (zM)
  | 0, _, _ => none
  | n + 1, v3, M =>
    if v3 ≥ v2 then (
      some M)
    else (
      (fp_X0_drawnLines v0 v1 M).bind fun p6 => zpp p6 fun (y4 : Int32) (M5 : zM) =>
      (zgI 0 M5 v0 0).bind fun (y7 : Int32) =>
      (fp_J6_bitCount_0f7a4 y4).bind fun (y8 : Int32) =>
      (zpI 0 M5 v0 0 (y7 + y8)).bind fun (M9 : zM) =>
      (fp_X2_joined v1 y4).bind fun (y10 : Int32) =>
      zjn (fun (M11 : zM) =>
          (fp_X6_isPrime v1 y4).bind fun (y12 : Int32) =>
          zjn (fun (M13 : zM) =>
              fp_X0_count_L17 v0 v1 v2 n (v3 + 1) M13)
            (fun j81 =>
              if y12 = 0 then (
                j81 M11)
              else (
                (zgI 0 M11 v0 2).bind fun (y14 : Int32) =>
                (zpI 0 M11 v0 2 (y14 + 1)).bind fun (M15 : zM) =>
                j81 M15)))
        (fun j62 =>
          if y10 = 0 then (
            j62 M9)
          else (
            (zgI 0 M9 v0 1).bind fun (y16 : Int32) =>
            (zpI 0 M9 v0 1 (y16 + 1)).bind fun (M17 : zM) =>
            j62 M17)))
def fp_X0_count (v0 : Nat) (v1 : Int32) (v2 : Int32) (M : zM) : Option (zM) :=
  zthis 0 M v0 (
    (zpI 0 M v0 0 0).bind fun (M1 : zM) =>
    (zpI 0 M1 v0 1 0).bind fun (M2 : zM) =>
    (zpI 0 M2 v0 2 0).bind fun (M3 : zM) =>
    fp_X0_count_L17 v0 v1 v2 FU 0 M3)
set_option maxHeartbeats 4000000 in
set_option maxRecDepth 100000 in
theorem th_X0_count {v0 : Nat} {v1 : Int32} {v2 : Int32} {M : zM} {x0 : zM} (h : fp_X0_count v0 v1 v2 M = some x0) : v0 < zS M ∧ kd v0 = 0 := by
  unfold fp_X0_count at h
  exact zthis_of h
set_option maxHeartbeats 4000000 in
set_option maxRecDepth 100000 in
theorem w_X0_count_L17 (E : zEnv) (hE : zEok E) (d : Nat) (hd : 6 ≤ d) (M0 : zM) (x0 : zM) (v0 : Nat) (v1 : Int32) (v2 : Int32)  : ∀ (n : Nat) (v3 : Int32) (M : zM), zSy E mu_X0_count d M0 (none, x0) x0 (fp_X0_count_L17 v0 v1 v2 n v3 M) 17 [(0, .ref (E.2.2.2.1 + v0)), (1, .int v1), (2, .int v2), (3, .int v3)] [] M := by
  intro n
  induction n with
  | zero =>
    intro v3 M
    rw [fp_X0_count_L17]
    exact zs_none
  | succ n ih =>
    intro v3 M
    rw [fp_X0_count_L17]
    refine zs_iload_n dX0_count_17 rfl 3 rfl ?_
    refine zs_iload_n dX0_count_18 rfl 2 rfl ?_
    refine zs_icmp_ge dX0_count_19 rfl ?_ ?_
    · exact zs_vret dX0_count_87 trivial
    refine zs_aload_n dX0_count_22 rfl 0 rfl ?_
    refine zs_iload_n dX0_count_23 rfl 1 rfl ?_
    refine zs_invVWI (rest := []) [.int v1] dX0_count_24 lk_X0_45 rfl (fun _ h => th_X0_drawnLines h) (zd1 rfl hd) rfl (Nat.le_of_ble_eq_true rfl) (ct_X0_drawnLines E hE _ (zdl rfl hd) _ _ _) (fun y4 M5 => ?_)
    refine zs_istore (loc' := [(0, .ref (E.2.2.2.1 + v0)), (1, .int v1), (2, .int v2), (3, .int v3), (4, .int y4)]) dX0_count_27 (Nat.le_of_ble_eq_true rfl) [1, 2, 3, 4, 0] rfl ?_
    refine zs_aload_n dX0_count_29 rfl 0 rfl ?_
    refine zs_dup dX0_count_30 rfl ?_
    refine zs_getI dX0_count_31 fl_X0_36 rfl (fun y7 => ?_)
    refine zs_iload dX0_count_34 4 rfl ?_
    refine zs_invSPI (rest := [.int y7, .ref (E.2.2.2.1 + v0)]) [.int y4] dX0_count_36 lk_X0_48 rfl (zd1 rfl hd) rfl (Nat.le_of_ble_eq_true rfl) (ct_J6_bitCount_0f7a4 E hE _ (zdl rfl hd) _ _) (fun y8 => ?_)
    refine zs_iadd dX0_count_39 ?_
    refine zs_putI dX0_count_40 fl_X0_36 ft_X0 rfl rfl rfl rfl rfl (fun M9 => ?_)
    refine zs_iload_n dX0_count_43 rfl 1 rfl ?_
    refine zs_iload dX0_count_44 4 rfl ?_
    refine zs_invSPI (rest := []) [.int v1, .int y4] dX0_count_46 lk_X0_53 rfl (zd1 rfl hd) rfl (Nat.le_of_ble_eq_true rfl) (ct_X2_joined E hE _ (zdl rfl hd) _ _ _) (fun y10 => ?_)
    refine zs_jn (fun j62 => ∀ (M11 : zM), zSy E mu_X0_count d M0 (none, x0) x0 (j62 M11) 62 [(0, .ref (E.2.2.2.1 + v0)), (1, .int v1), (2, .int v2), (3, .int v3), (4, .int y4)] [] M11) (fun M11 => ?_) (fun j62 hj62 => ?_)
    · refine zs_iload_n dX0_count_62 rfl 1 rfl ?_
      refine zs_iload dX0_count_63 4 rfl ?_
      refine zs_invSPI (rest := []) [.int v1, .int y4] dX0_count_65 lk_X0_59 rfl (zd1 rfl hd) rfl (Nat.le_of_ble_eq_true rfl) (ct_X6_isPrime E hE _ (zdl rfl hd) _ _ _) (fun y12 => ?_)
      refine zs_jn (fun j81 => ∀ (M13 : zM), zSy E mu_X0_count d M0 (none, x0) x0 (j81 M13) 81 [(0, .ref (E.2.2.2.1 + v0)), (1, .int v1), (2, .int v2), (3, .int v3)] [] M13) (fun M13 => ?_) (fun j81 hj81 => ?_)
      · refine zs_iinc (v := (v3 + 1)) (loc' := [(0, .ref (E.2.2.2.1 + v0)), (1, .int v1), (2, .int v2), (3, .int (v3 + 1))]) dX0_count_81 3 rfl (by rfl) (Nat.le_of_ble_eq_true rfl) [1, 2, 3, 0] rfl ?_
        refine zs_goto dX0_count_84 rfl ?_
        exact ih (v3 + 1) M13
      refine zs_if_eq dX0_count_68 rfl ?_ ?_
      · refine zs_sub (loc' := [(0, .ref (E.2.2.2.1 + v0)), (1, .int v1), (2, .int v2), (3, .int v3)]) [0, 1, 2, 3] rfl ?_
        exact hj81 M11
      refine zs_aload_n dX0_count_71 rfl 0 rfl ?_
      refine zs_dup dX0_count_72 rfl ?_
      refine zs_getI dX0_count_73 fl_X0_42 rfl (fun y14 => ?_)
      refine zs_iconst (v := 1) dX0_count_76 ciconst_1 ?_
      refine zs_iadd dX0_count_77 ?_
      refine zs_putI dX0_count_78 fl_X0_42 ft_X0 rfl rfl rfl rfl rfl (fun M15 => ?_)
      refine zs_sub (loc' := [(0, .ref (E.2.2.2.1 + v0)), (1, .int v1), (2, .int v2), (3, .int v3)]) [0, 1, 2, 3] rfl ?_
      exact hj81 M15
    refine zs_if_eq dX0_count_49 rfl ?_ ?_
    · exact hj62 M9
    refine zs_aload_n dX0_count_52 rfl 0 rfl ?_
    refine zs_dup dX0_count_53 rfl ?_
    refine zs_getI dX0_count_54 fl_X0_39 rfl (fun y16 => ?_)
    refine zs_iconst (v := 1) dX0_count_57 ciconst_1 ?_
    refine zs_iadd dX0_count_58 ?_
    refine zs_putI dX0_count_59 fl_X0_39 ft_X0 rfl rfl rfl rfl rfl (fun M17 => ?_)
    exact hj62 M17
set_option maxHeartbeats 4000000 in
set_option maxRecDepth 100000 in
theorem ct_X0_count (E : zEnv) (hE : zEok E) (d : Nat) (hd : 6 ≤ d) (v0 : Nat) (v1 : Int32) (v2 : Int32) (M : zM) (x0 : zM) (hx : fp_X0_count v0 v1 v2 M = some x0) : zCt E mu_X0_count d [.ref (E.2.2.2.1 + v0), .int v1, .int v2] M (none, x0) := by
  refine zCt_of (μ := mu_X0_count) (t := fp_X0_count v0 v1 v2 M) rfl rfl (Nat.le_of_ble_eq_true rfl) hx ?_
  change zSy E mu_X0_count d M (none, x0) x0 (fp_X0_count v0 v1 v2 M) 0 [(0, .ref (E.2.2.2.1 + v0)), (1, .int v1), (2, .int v2)] [] M
  unfold fp_X0_count
  refine zs_this (fun hth => ?_)
  refine zs_aload_n dX0_count_0 rfl 0 rfl ?_
  refine zs_iconst (v := 0) dX0_count_1 ciconst_0 ?_
  refine zs_putI dX0_count_2 fl_X0_36 ft_X0 rfl rfl rfl rfl rfl (fun M1 => ?_)
  refine zs_aload_n dX0_count_5 rfl 0 rfl ?_
  refine zs_iconst (v := 0) dX0_count_6 ciconst_0 ?_
  refine zs_putI dX0_count_7 fl_X0_39 ft_X0 rfl rfl rfl rfl rfl (fun M2 => ?_)
  refine zs_aload_n dX0_count_10 rfl 0 rfl ?_
  refine zs_iconst (v := 0) dX0_count_11 ciconst_0 ?_
  refine zs_putI dX0_count_12 fl_X0_42 ft_X0 rfl rfl rfl rfl rfl (fun M3 => ?_)
  refine zs_iconst (v := 0) dX0_count_15 ciconst_0 ?_
  refine zs_istore_n (loc' := [(0, .ref (E.2.2.2.1 + v0)), (1, .int v1), (2, .int v2), (3, .int 0)]) dX0_count_16 rfl (Nat.le_of_ble_eq_true rfl) [1, 2, 3, 0] rfl ?_
  exact w_X0_count_L17 E hE d hd _ _ _ _ _ _ _ _
theorem dX1_init_0 : decode cX1_init 0 = .ok (.aload_n 0, 1) := by decide +kernel
theorem dX1_init_1 : decode cX1_init 1 = .ok (.invokespecial 3, 3) := by decide +kernel
theorem dX1_init_4 : decode cX1_init 4 = .ok (.aload_n 0, 1) := by decide +kernel
theorem dX1_init_5 : decode cX1_init 5 = .ok (.sipush 256, 3) := by decide +kernel
theorem dX1_init_8 : decode cX1_init 8 = .ok (.newarray .long, 2) := by decide +kernel
theorem dX1_init_10 : decode cX1_init 10 = .ok (.putfield 11, 3) := by decide +kernel
theorem dX1_init_13 : decode cX1_init 13 = .ok (.aload_n 0, 1) := by decide +kernel
theorem dX1_init_14 : decode cX1_init 14 = .ok (.iconst (-1), 1) := by decide +kernel
theorem dX1_init_15 : decode cX1_init 15 = .ok (.putfield 15, 3) := by decide +kernel
theorem dX1_init_18 : decode cX1_init 18 = .ok (.aload_n 0, 1) := by decide +kernel
theorem dX1_init_19 : decode cX1_init 19 = .ok (.bipush 7, 2) := by decide +kernel
theorem dX1_init_21 : decode cX1_init 21 = .ok (.newarray .int, 2) := by decide +kernel
theorem dX1_init_23 : decode cX1_init 23 = .ok (.putfield 19, 3) := by decide +kernel
theorem dX1_init_26 : decode cX1_init 26 = .ok (.aload_n 0, 1) := by decide +kernel
theorem dX1_init_27 : decode cX1_init 27 = .ok (.bipush 14, 2) := by decide +kernel
theorem dX1_init_29 : decode cX1_init 29 = .ok (.newarray .int, 2) := by decide +kernel
theorem dX1_init_31 : decode cX1_init 31 = .ok (.putfield 23, 3) := by decide +kernel
theorem dX1_init_34 : decode cX1_init 34 = .ok (.aload_n 0, 1) := by decide +kernel
theorem dX1_init_35 : decode cX1_init 35 = .ok (.sipush 128, 3) := by decide +kernel
theorem dX1_init_38 : decode cX1_init 38 = .ok (.newarray .int, 2) := by decide +kernel
theorem dX1_init_40 : decode cX1_init 40 = .ok (.putfield 26, 3) := by decide +kernel
theorem dX1_init_43 : decode cX1_init 43 = .ok (.return_, 1) := by decide +kernel
def fp_X1_init (v0 : Nat) (M : zM) : Option (zM) :=
  zthis 1 M v0 (
    (zna 101 M 256).bind fun p3 => zpp p3 fun (q1 : Nat) (M2 : zM) =>
    (zpR 1 M2 v0 1 q1).bind fun (M4 : zM) =>
    (zpI 1 M4 v0 2 (-1)).bind fun (M5 : zM) =>
    (zna 100 M5 7).bind fun p8 => zpp p8 fun (q6 : Nat) (M7 : zM) =>
    (zpR 1 M7 v0 6 q6).bind fun (M9 : zM) =>
    (zna 100 M9 14).bind fun p12 => zpp p12 fun (q10 : Nat) (M11 : zM) =>
    (zpR 1 M11 v0 7 q10).bind fun (M13 : zM) =>
    (zna 100 M13 128).bind fun p16 => zpp p16 fun (q14 : Nat) (M15 : zM) =>
    (zpR 1 M15 v0 8 q14).bind fun (M17 : zM) =>
    some M17)
set_option maxHeartbeats 4000000 in
set_option maxRecDepth 100000 in
theorem th_X1_init {v0 : Nat} {M : zM} {x0 : zM} (h : fp_X1_init v0 M = some x0) : v0 < zS M ∧ kd v0 = 1 := by
  unfold fp_X1_init at h
  exact zthis_of h
set_option maxHeartbeats 4000000 in
set_option maxRecDepth 100000 in
theorem ct_X1_init (E : zEnv) (hE : zEok E) (d : Nat) (hd : 2 ≤ d) (v0 : Nat) (M : zM) (x0 : zM) (hx : fp_X1_init v0 M = some x0) : zCt E mu_X1_init d [.ref (E.2.2.2.1 + v0)] M (none, x0) := by
  refine zCt_of (μ := mu_X1_init) (t := fp_X1_init v0 M) rfl rfl (Nat.le_of_ble_eq_true rfl) hx ?_
  change zSy E mu_X1_init d M (none, x0) x0 (fp_X1_init v0 M) 0 [(0, .ref (E.2.2.2.1 + v0))] [] M
  unfold fp_X1_init
  refine zs_this (fun hth => ?_)
  refine zs_aload_n dX1_init_0 rfl 0 rfl ?_
  refine zs_objInit dX1_init_1 (ti_1 147 rfl rfl) mi_oinit mc_oinit (zd0 rfl hd) (Nat.le_of_ble_eq_true rfl) ?_
  refine zs_aload_n dX1_init_4 rfl 0 rfl ?_
  refine zs_sipush (v := 256) dX1_init_5 csipush_256 ?_
  refine zs_newA dX1_init_8 rfl (by decide) (ti_1 180 rfl rfl) (fun q1 M2 => ?_)
  refine zs_putR dX1_init_10 fl_X1_11 ft_X1 rfl rfl rfl rfl rfl (fun M4 => ?_)
  refine zs_aload_n dX1_init_13 rfl 0 rfl ?_
  refine zs_iconst (v := (-1)) dX1_init_14 ciconst_m1 ?_
  refine zs_putI dX1_init_15 fl_X1_15 ft_X1 rfl rfl rfl rfl rfl (fun M5 => ?_)
  refine zs_aload_n dX1_init_18 rfl 0 rfl ?_
  refine zs_bipush (v := 7) dX1_init_19 cbipush_7 ?_
  refine zs_newA dX1_init_21 rfl (by decide) (ti_1 44 rfl rfl) (fun q6 M7 => ?_)
  refine zs_putRF dX1_init_23 fl_X1_19 ft_X1 rfl rfl rfl rfl rfl rfl rfl (fun M9 => ?_)
  refine zs_aload_n dX1_init_26 rfl 0 rfl ?_
  refine zs_bipush (v := 14) dX1_init_27 cbipush_14 ?_
  refine zs_newA dX1_init_29 rfl (by decide) (ti_1 44 rfl rfl) (fun q10 M11 => ?_)
  refine zs_putRF dX1_init_31 fl_X1_23 ft_X1 rfl rfl rfl rfl rfl rfl rfl (fun M13 => ?_)
  refine zs_aload_n dX1_init_34 rfl 0 rfl ?_
  refine zs_sipush (v := 128) dX1_init_35 csipush_128 ?_
  refine zs_newA dX1_init_38 rfl (by decide) (ti_1 44 rfl rfl) (fun q14 M15 => ?_)
  refine zs_putRF dX1_init_40 fl_X1_26 ft_X1 rfl rfl rfl rfl rfl rfl rfl (fun M17 => ?_)
  exact zs_vret dX1_init_43 trivial
theorem dJ7_copyOf_c38d5_0 : decode cJ7_copyOf_c38d5 0 = .ok (.iload_n 1, 1) := by decide +kernel
theorem dJ7_copyOf_c38d5_1 : decode cJ7_copyOf_c38d5 1 = .ok (.aload_n 0, 1) := by decide +kernel
theorem dJ7_copyOf_c38d5_2 : decode cJ7_copyOf_c38d5 2 = .ok (.arraylength, 1) := by decide +kernel
theorem dJ7_copyOf_c38d5_3 : decode cJ7_copyOf_c38d5 3 = .ok (.if_icmp .ne 11, 3) := by decide +kernel
theorem dJ7_copyOf_c38d5_6 : decode cJ7_copyOf_c38d5 6 = .ok (.aload_n 0, 1) := by decide +kernel
theorem dJ7_copyOf_c38d5_7 : decode cJ7_copyOf_c38d5 7 = .ok (.invokevirtual 319, 3) := by decide +kernel
theorem dJ7_copyOf_c38d5_10 : decode cJ7_copyOf_c38d5 10 = .ok (.checkcast 320, 3) := by decide +kernel
theorem dJ7_copyOf_c38d5_13 : decode cJ7_copyOf_c38d5 13 = .ok (.areturn, 1) := by decide +kernel
theorem dJ7_copyOf_c38d5_14 : decode cJ7_copyOf_c38d5 14 = .ok (.iload_n 1, 1) := by decide +kernel
theorem dJ7_copyOf_c38d5_15 : decode cJ7_copyOf_c38d5 15 = .ok (.newarray .long, 2) := by decide +kernel
theorem dJ7_copyOf_c38d5_17 : decode cJ7_copyOf_c38d5 17 = .ok (.astore_n 2, 1) := by decide +kernel
theorem dJ7_copyOf_c38d5_18 : decode cJ7_copyOf_c38d5 18 = .ok (.aload_n 0, 1) := by decide +kernel
theorem dJ7_copyOf_c38d5_19 : decode cJ7_copyOf_c38d5 19 = .ok (.iconst 0, 1) := by decide +kernel
theorem dJ7_copyOf_c38d5_20 : decode cJ7_copyOf_c38d5 20 = .ok (.aload_n 2, 1) := by decide +kernel
theorem dJ7_copyOf_c38d5_21 : decode cJ7_copyOf_c38d5 21 = .ok (.iconst 0, 1) := by decide +kernel
theorem dJ7_copyOf_c38d5_22 : decode cJ7_copyOf_c38d5 22 = .ok (.aload_n 0, 1) := by decide +kernel
theorem dJ7_copyOf_c38d5_23 : decode cJ7_copyOf_c38d5 23 = .ok (.arraylength, 1) := by decide +kernel
theorem dJ7_copyOf_c38d5_24 : decode cJ7_copyOf_c38d5 24 = .ok (.iload_n 1, 1) := by decide +kernel
theorem dJ7_copyOf_c38d5_25 : decode cJ7_copyOf_c38d5 25 = .ok (.invokestatic 304, 3) := by decide +kernel
theorem dJ7_copyOf_c38d5_28 : decode cJ7_copyOf_c38d5 28 = .ok (.invokestatic 150, 3) := by decide +kernel
theorem dJ7_copyOf_c38d5_31 : decode cJ7_copyOf_c38d5 31 = .ok (.aload_n 2, 1) := by decide +kernel
theorem dJ7_copyOf_c38d5_32 : decode cJ7_copyOf_c38d5 32 = .ok (.areturn, 1) := by decide +kernel
def fp_J7_copyOf_c38d5 (v0 : Nat) (v1 : Int32) (M : zM) : Option (Nat × zM) :=
  (zln M v0).bind fun (y1 : Int32) =>
  if v1 ≠ y1 then (
    (zna 101 M v1).bind fun p4 => zpp p4 fun (q2 : Nat) (M3 : zM) =>
    (zln M3 v0).bind fun (y5 : Int32) =>
    (zcp 101 M3 v0 0 q2 0 (kmin y5 v1)).bind fun (M6 : zM) =>
    some (q2, M6))
  else (
    none)
set_option maxHeartbeats 4000000 in
set_option maxRecDepth 100000 in
theorem ct_J7_copyOf_c38d5 (E : zEnv) (hE : zEok E) (d : Nat) (hd : 2 ≤ d) (v0 : Nat) (v1 : Int32) (M : zM) (x0 : Nat × zM) (hx : fp_J7_copyOf_c38d5 v0 v1 M = some x0) : zCt E mu_J7_copyOf_c38d5 d [.ref (E.2.2.2.1 + v0), .int v1] M (some (.ref (E.2.2.2.1 + x0.1)), x0.2) := by
  refine zCt_of (μ := mu_J7_copyOf_c38d5) (t := fp_J7_copyOf_c38d5 v0 v1 M) rfl rfl (Nat.le_of_ble_eq_true rfl) hx ?_
  change zSy E mu_J7_copyOf_c38d5 d M (some (.ref (E.2.2.2.1 + x0.1)), x0.2) x0 (fp_J7_copyOf_c38d5 v0 v1 M) 0 [(0, .ref (E.2.2.2.1 + v0)), (1, .int v1)] [] M
  unfold fp_J7_copyOf_c38d5
  refine zs_iload_n dJ7_copyOf_c38d5_0 rfl 1 rfl ?_
  refine zs_aload_n dJ7_copyOf_c38d5_1 rfl 0 rfl ?_
  refine zs_alen dJ7_copyOf_c38d5_2 (fun y1 => ?_)
  refine zs_icmp_ne dJ7_copyOf_c38d5_3 rfl ?_ ?_
  · refine zs_iload_n dJ7_copyOf_c38d5_14 rfl 1 rfl ?_
    refine zs_newA dJ7_copyOf_c38d5_15 rfl (by decide) (ti_1 180 rfl rfl) (fun q2 M3 => ?_)
    refine zs_astore_n (loc' := [(0, .ref (E.2.2.2.1 + v0)), (1, .int v1), (2, .ref (E.2.2.2.1 + q2))]) dJ7_copyOf_c38d5_17 rfl (Nat.le_of_ble_eq_true rfl) [1, 2, 0] rfl ?_
    refine zs_aload_n dJ7_copyOf_c38d5_18 rfl 0 rfl ?_
    refine zs_iconst (v := 0) dJ7_copyOf_c38d5_19 ciconst_0 ?_
    refine zs_aload_n dJ7_copyOf_c38d5_20 rfl 2 rfl ?_
    refine zs_iconst (v := 0) dJ7_copyOf_c38d5_21 ciconst_0 ?_
    refine zs_aload_n dJ7_copyOf_c38d5_22 rfl 0 rfl ?_
    refine zs_alen dJ7_copyOf_c38d5_23 (fun y5 => ?_)
    refine zs_iload_n dJ7_copyOf_c38d5_24 rfl 1 rfl ?_
    refine zs_min dJ7_copyOf_c38d5_25 (ti_3 108 rfl rfl) ms_min mi_Math mc_min (zd0 rfl hd) (Nat.le_of_ble_eq_true rfl) ?_
    refine zs_copyJ dJ7_copyOf_c38d5_28 (ti_3 109 rfl rfl) mn_copy ms_copy mi_System (zd0 rfl hd) (Nat.le_of_ble_eq_true rfl) (fun M6 => ?_)
    refine zs_aload_n dJ7_copyOf_c38d5_31 rfl 2 rfl ?_
    exact zs_aretW dJ7_copyOf_c38d5_32 trivial
  exact zs_none
theorem dX1_keep_0 : decode cX1_keep 0 = .ok (.aload_n 0, 1) := by decide +kernel
theorem dX1_keep_1 : decode cX1_keep 1 = .ok (.getfield 38, 3) := by decide +kernel
theorem dX1_keep_4 : decode cX1_keep 4 = .ok (.aload_n 0, 1) := by decide +kernel
theorem dX1_keep_5 : decode cX1_keep 5 = .ok (.getfield 11, 3) := by decide +kernel
theorem dX1_keep_8 : decode cX1_keep 8 = .ok (.arraylength, 1) := by decide +kernel
theorem dX1_keep_9 : decode cX1_keep 9 = .ok (.if_icmp .lt 37, 3) := by decide +kernel
theorem dX1_keep_12 : decode cX1_keep 12 = .ok (.aload_n 0, 1) := by decide +kernel
theorem dX1_keep_13 : decode cX1_keep 13 = .ok (.getfield 11, 3) := by decide +kernel
theorem dX1_keep_16 : decode cX1_keep 16 = .ok (.arraylength, 1) := by decide +kernel
theorem dX1_keep_17 : decode cX1_keep 17 = .ok (.ldc 93, 2) := by decide +kernel
theorem dX1_keep_19 : decode cX1_keep 19 = .ok (.if_icmp .ge 27, 3) := by decide +kernel
theorem dX1_keep_22 : decode cX1_keep 22 = .ok (.aload_n 0, 1) := by decide +kernel
theorem dX1_keep_23 : decode cX1_keep 23 = .ok (.aload_n 0, 1) := by decide +kernel
theorem dX1_keep_24 : decode cX1_keep 24 = .ok (.getfield 11, 3) := by decide +kernel
theorem dX1_keep_27 : decode cX1_keep 27 = .ok (.aload_n 0, 1) := by decide +kernel
theorem dX1_keep_28 : decode cX1_keep 28 = .ok (.getfield 11, 3) := by decide +kernel
theorem dX1_keep_31 : decode cX1_keep 31 = .ok (.arraylength, 1) := by decide +kernel
theorem dX1_keep_32 : decode cX1_keep 32 = .ok (.bipush 8, 2) := by decide +kernel
theorem dX1_keep_34 : decode cX1_keep 34 = .ok (.imul, 1) := by decide +kernel
theorem dX1_keep_35 : decode cX1_keep 35 = .ok (.ldc 93, 2) := by decide +kernel
theorem dX1_keep_37 : decode cX1_keep 37 = .ok (.invokestatic 94, 3) := by decide +kernel
theorem dX1_keep_40 : decode cX1_keep 40 = .ok (.invokestatic 100, 3) := by decide +kernel
theorem dX1_keep_43 : decode cX1_keep 43 = .ok (.putfield 11, 3) := by decide +kernel
theorem dX1_keep_46 : decode cX1_keep 46 = .ok (.aload_n 0, 1) := by decide +kernel
theorem dX1_keep_47 : decode cX1_keep 47 = .ok (.getfield 38, 3) := by decide +kernel
theorem dX1_keep_50 : decode cX1_keep 50 = .ok (.aload_n 0, 1) := by decide +kernel
theorem dX1_keep_51 : decode cX1_keep 51 = .ok (.getfield 11, 3) := by decide +kernel
theorem dX1_keep_54 : decode cX1_keep 54 = .ok (.arraylength, 1) := by decide +kernel
theorem dX1_keep_55 : decode cX1_keep 55 = .ok (.if_icmp .ge 23, 3) := by decide +kernel
theorem dX1_keep_58 : decode cX1_keep 58 = .ok (.aload_n 0, 1) := by decide +kernel
theorem dX1_keep_59 : decode cX1_keep 59 = .ok (.getfield 11, 3) := by decide +kernel
theorem dX1_keep_62 : decode cX1_keep 62 = .ok (.aload_n 0, 1) := by decide +kernel
theorem dX1_keep_63 : decode cX1_keep 63 = .ok (.getfield 38, 3) := by decide +kernel
theorem dX1_keep_66 : decode cX1_keep 66 = .ok (.lload_n 1, 1) := by decide +kernel
theorem dX1_keep_67 : decode cX1_keep 67 = .ok (.lastore, 1) := by decide +kernel
theorem dX1_keep_68 : decode cX1_keep 68 = .ok (.aload_n 0, 1) := by decide +kernel
theorem dX1_keep_69 : decode cX1_keep 69 = .ok (.dup, 1) := by decide +kernel
theorem dX1_keep_70 : decode cX1_keep 70 = .ok (.getfield 38, 3) := by decide +kernel
theorem dX1_keep_73 : decode cX1_keep 73 = .ok (.iconst 1, 1) := by decide +kernel
theorem dX1_keep_74 : decode cX1_keep 74 = .ok (.iadd, 1) := by decide +kernel
theorem dX1_keep_75 : decode cX1_keep 75 = .ok (.putfield 38, 3) := by decide +kernel
theorem dX1_keep_78 : decode cX1_keep 78 = .ok (.return_, 1) := by decide +kernel
def fp_X1_keep (v0 : Nat) (v1 : Int64) (M : zM) : Option (zM) :=
  zthis 1 M v0 (
    (zgI 1 M v0 0).bind fun (y1 : Int32) =>
    (zgR 1 M v0 1).bind fun (y2 : Nat) =>
    (zln M y2).bind fun (y3 : Int32) =>
    zjn (fun (M4 : zM) =>
        (zgI 1 M4 v0 0).bind fun (y5 : Int32) =>
        (zgR 1 M4 v0 1).bind fun (y6 : Nat) =>
        (zln M4 y6).bind fun (y7 : Int32) =>
        if y5 ≥ y7 then (
          some M4)
        else (
          (zgR 1 M4 v0 1).bind fun (y8 : Nat) =>
          (zgI 1 M4 v0 0).bind fun (y9 : Int32) =>
          (ztJ M4 y8 y9 v1).bind fun (M10 : zM) =>
          (zgI 1 M10 v0 0).bind fun (y11 : Int32) =>
          (zpI 1 M10 v0 0 (y11 + 1)).bind fun (M12 : zM) =>
          some M12))
      (fun j46 =>
        if y1 < y3 then (
          j46 M)
        else (
          (zgR 1 M v0 1).bind fun (y13 : Nat) =>
          (zln M y13).bind fun (y14 : Int32) =>
          if y14 ≥ 80000 then (
            j46 M)
          else (
            (zgR 1 M v0 1).bind fun (y15 : Nat) =>
            (zgR 1 M v0 1).bind fun (y16 : Nat) =>
            (zln M y16).bind fun (y17 : Int32) =>
            (fp_J7_copyOf_c38d5 y15 (kmin (y17 * 8) 80000) M).bind fun p20 => zpp p20 fun (y18 : Nat) (M19 : zM) =>
            (zpR 1 M19 v0 1 y18).bind fun (M21 : zM) =>
            j46 M21))))
set_option maxHeartbeats 4000000 in
set_option maxRecDepth 100000 in
theorem th_X1_keep {v0 : Nat} {v1 : Int64} {M : zM} {x0 : zM} (h : fp_X1_keep v0 v1 M = some x0) : v0 < zS M ∧ kd v0 = 1 := by
  unfold fp_X1_keep at h
  exact zthis_of h
set_option maxHeartbeats 4000000 in
set_option maxRecDepth 100000 in
theorem ct_X1_keep (E : zEnv) (hE : zEok E) (d : Nat) (hd : 3 ≤ d) (v0 : Nat) (v1 : Int64) (M : zM) (x0 : zM) (hx : fp_X1_keep v0 v1 M = some x0) : zCt E mu_X1_keep d [.ref (E.2.2.2.1 + v0), .long v1] M (none, x0) := by
  refine zCt_of (μ := mu_X1_keep) (t := fp_X1_keep v0 v1 M) rfl rfl (Nat.le_of_ble_eq_true rfl) hx ?_
  change zSy E mu_X1_keep d M (none, x0) x0 (fp_X1_keep v0 v1 M) 0 [(0, .ref (E.2.2.2.1 + v0)), (1, .long v1)] [] M
  unfold fp_X1_keep
  refine zs_this (fun hth => ?_)
  refine zs_aload_n dX1_keep_0 rfl 0 rfl ?_
  refine zs_getI dX1_keep_1 fl_X1_38 rfl (fun y1 => ?_)
  refine zs_aload_n dX1_keep_4 rfl 0 rfl ?_
  refine zs_getR dX1_keep_5 fl_X1_11 rfl (fun y2 => ?_)
  refine zs_alen dX1_keep_8 (fun y3 => ?_)
  refine zs_jn (fun j46 => ∀ (M4 : zM), zSy E mu_X1_keep d M (none, x0) x0 (j46 M4) 46 [(0, .ref (E.2.2.2.1 + v0)), (1, .long v1)] [] M4) (fun M4 => ?_) (fun j46 hj46 => ?_)
  · refine zs_aload_n dX1_keep_46 rfl 0 rfl ?_
    refine zs_getI dX1_keep_47 fl_X1_38 rfl (fun y5 => ?_)
    refine zs_aload_n dX1_keep_50 rfl 0 rfl ?_
    refine zs_getR dX1_keep_51 fl_X1_11 rfl (fun y6 => ?_)
    refine zs_alen dX1_keep_54 (fun y7 => ?_)
    refine zs_icmp_ge dX1_keep_55 rfl ?_ ?_
    · exact zs_vret dX1_keep_78 trivial
    refine zs_aload_n dX1_keep_58 rfl 0 rfl ?_
    refine zs_getR dX1_keep_59 fl_X1_11 rfl (fun y8 => ?_)
    refine zs_aload_n dX1_keep_62 rfl 0 rfl ?_
    refine zs_getI dX1_keep_63 fl_X1_38 rfl (fun y9 => ?_)
    refine zs_lload_n dX1_keep_66 rfl 1 rfl ?_
    refine zs_stJ dX1_keep_67 (fun M10 => ?_)
    refine zs_aload_n dX1_keep_68 rfl 0 rfl ?_
    refine zs_dup dX1_keep_69 rfl ?_
    refine zs_getI dX1_keep_70 fl_X1_38 rfl (fun y11 => ?_)
    refine zs_iconst (v := 1) dX1_keep_73 ciconst_1 ?_
    refine zs_iadd dX1_keep_74 ?_
    refine zs_putI dX1_keep_75 fl_X1_38 ft_X1 rfl rfl rfl rfl rfl (fun M12 => ?_)
    exact zs_vret dX1_keep_78 trivial
  refine zs_icmp_lt dX1_keep_9 rfl ?_ ?_
  · exact hj46 M
  refine zs_aload_n dX1_keep_12 rfl 0 rfl ?_
  refine zs_getR dX1_keep_13 fl_X1_11 rfl (fun y13 => ?_)
  refine zs_alen dX1_keep_16 (fun y14 => ?_)
  refine zs_ldc (v := 80000) dX1_keep_17 (ti_3 96 rfl rfl) ?_
  refine zs_icmp_ge dX1_keep_19 rfl ?_ ?_
  · exact hj46 M
  refine zs_aload_n dX1_keep_22 rfl 0 rfl ?_
  refine zs_aload_n dX1_keep_23 rfl 0 rfl ?_
  refine zs_getR dX1_keep_24 fl_X1_11 rfl (fun y15 => ?_)
  refine zs_aload_n dX1_keep_27 rfl 0 rfl ?_
  refine zs_getR dX1_keep_28 fl_X1_11 rfl (fun y16 => ?_)
  refine zs_alen dX1_keep_31 (fun y17 => ?_)
  refine zs_bipush (v := 8) dX1_keep_32 cbipush_8 ?_
  refine zs_imul dX1_keep_34 ?_
  refine zs_ldc (v := 80000) dX1_keep_35 (ti_3 96 rfl rfl) ?_
  refine zs_min dX1_keep_37 (ti_3 97 rfl rfl) ms_min mi_Math mc_min (zd0 rfl hd) (Nat.le_of_ble_eq_true rfl) ?_
  refine zs_invSWA (rest := [.ref (E.2.2.2.1 + v0)]) [.ref (E.2.2.2.1 + y15), .int (kmin (y17 * 8) 80000)] dX1_keep_40 lk_X1_100 rfl (zd1 rfl hd) rfl (Nat.le_of_ble_eq_true rfl) (ct_J7_copyOf_c38d5 E hE _ (zdl rfl hd) _ _ _) (fun y18 M19 => ?_)
  refine zs_putR dX1_keep_43 fl_X1_11 ft_X1 rfl rfl rfl rfl rfl (fun M21 => ?_)
  exact hj46 M21
theorem dX5_placeOf_0 : decode cX5_placeOf 0 = .ok (.iload_n 3, 1) := by decide +kernel
theorem dX5_placeOf_1 : decode cX5_placeOf 1 = .ok (.ifCond .ge 7, 3) := by decide +kernel
theorem dX5_placeOf_4 : decode cX5_placeOf 4 = .ok (.iconst 0, 1) := by decide +kernel
theorem dX5_placeOf_5 : decode cX5_placeOf 5 = .ok (.goto 4, 3) := by decide +kernel
theorem dX5_placeOf_8 : decode cX5_placeOf 8 = .ok (.iload_n 3, 1) := by decide +kernel
theorem dX5_placeOf_9 : decode cX5_placeOf 9 = .ok (.istore 4, 2) := by decide +kernel
theorem dX5_placeOf_11 : decode cX5_placeOf 11 = .ok (.iload 4, 2) := by decide +kernel
theorem dX5_placeOf_13 : decode cX5_placeOf 13 = .ok (.iload_n 1, 1) := by decide +kernel
theorem dX5_placeOf_14 : decode cX5_placeOf 14 = .ok (.if_icmp .ge 27, 3) := by decide +kernel
theorem dX5_placeOf_17 : decode cX5_placeOf 17 = .ok (.iload 4, 2) := by decide +kernel
theorem dX5_placeOf_19 : decode cX5_placeOf 19 = .ok (.aload_n 0, 1) := by decide +kernel
theorem dX5_placeOf_20 : decode cX5_placeOf 20 = .ok (.arraylength, 1) := by decide +kernel
theorem dX5_placeOf_21 : decode cX5_placeOf 21 = .ok (.if_icmp .ge 20, 3) := by decide +kernel
theorem dX5_placeOf_24 : decode cX5_placeOf 24 = .ok (.aload_n 0, 1) := by decide +kernel
theorem dX5_placeOf_25 : decode cX5_placeOf 25 = .ok (.iload 4, 2) := by decide +kernel
theorem dX5_placeOf_27 : decode cX5_placeOf 27 = .ok (.iaload, 1) := by decide +kernel
theorem dX5_placeOf_28 : decode cX5_placeOf 28 = .ok (.iload_n 2, 1) := by decide +kernel
theorem dX5_placeOf_29 : decode cX5_placeOf 29 = .ok (.if_icmp .ne 6, 3) := by decide +kernel
theorem dX5_placeOf_32 : decode cX5_placeOf 32 = .ok (.iload 4, 2) := by decide +kernel
theorem dX5_placeOf_34 : decode cX5_placeOf 34 = .ok (.ireturn, 1) := by decide +kernel
theorem dX5_placeOf_35 : decode cX5_placeOf 35 = .ok (.iinc 4 1, 3) := by decide +kernel
theorem dX5_placeOf_38 : decode cX5_placeOf 38 = .ok (.goto (-27), 3) := by decide +kernel
theorem dX5_placeOf_41 : decode cX5_placeOf 41 = .ok (.iconst 0, 1) := by decide +kernel
theorem dX5_placeOf_42 : decode cX5_placeOf 42 = .ok (.ireturn, 1) := by decide +kernel
def fp_X5_placeOf_L11 (v0 : Nat) (v1 : Int32) (v2 : Int32) (M : zM) : Nat → Int32 → Option (Int32)
  | 0, _ => none
  | n + 1, v4 =>
    if v4 ≥ v1 then (
      some 0)
    else (
      (zln M v0).bind fun (y2 : Int32) =>
      if v4 ≥ y2 then (
        some 0)
      else (
        (zlI 100 M v0 v4).bind fun (y3 : Int32) =>
        if y3 ≠ v2 then (
          fp_X5_placeOf_L11 v0 v1 v2 M n (v4 + 1))
        else (
          some v4)))
def fp_X5_placeOf (v0 : Nat) (v1 : Int32) (v2 : Int32) (v3 : Int32) (M : zM) : Option (Int32) :=
  zjn (fun (s1 : Int32) =>
      fp_X5_placeOf_L11 v0 v1 v2 M FU s1)
    (fun j9 =>
      if v3 ≥ 0 then (
        j9 v3)
      else (
        j9 0))
set_option maxHeartbeats 4000000 in
set_option maxRecDepth 100000 in
theorem w_X5_placeOf_L11 (E : zEnv) (hE : zEok E) (d : Nat) (hd : 1 ≤ d) (x0 : Int32) (v0 : Nat) (v1 : Int32) (v2 : Int32) (M : zM)  : ∀ (n : Nat) (v4 : Int32), zSy E mu_X5_placeOf d M (some (.int x0), M) x0 (fp_X5_placeOf_L11 v0 v1 v2 M n v4) 11 [(0, .ref (E.2.2.2.1 + v0)), (1, .int v1), (2, .int v2), (4, .int v4)] [] M := by
  intro n
  induction n with
  | zero =>
    intro v4
    rw [fp_X5_placeOf_L11]
    exact zs_none
  | succ n ih =>
    intro v4
    rw [fp_X5_placeOf_L11]
    refine zs_iload dX5_placeOf_11 3 rfl ?_
    refine zs_iload_n dX5_placeOf_13 rfl 1 rfl ?_
    refine zs_icmp_ge dX5_placeOf_14 rfl ?_ ?_
    · refine zs_iconst (v := 0) dX5_placeOf_41 ciconst_0 ?_
      exact zs_iretP dX5_placeOf_42 rfl
    refine zs_iload dX5_placeOf_17 3 rfl ?_
    refine zs_aload_n dX5_placeOf_19 rfl 0 rfl ?_
    refine zs_alen dX5_placeOf_20 (fun y2 => ?_)
    refine zs_icmp_ge dX5_placeOf_21 rfl ?_ ?_
    · refine zs_iconst (v := 0) dX5_placeOf_41 ciconst_0 ?_
      exact zs_iretP dX5_placeOf_42 rfl
    refine zs_aload_n dX5_placeOf_24 rfl 0 rfl ?_
    refine zs_iload dX5_placeOf_25 3 rfl ?_
    refine zs_ldI dX5_placeOf_27 (fun y3 => ?_)
    refine zs_iload_n dX5_placeOf_28 rfl 2 rfl ?_
    refine zs_icmp_ne dX5_placeOf_29 rfl ?_ ?_
    · refine zs_iinc (v := (v4 + 1)) (loc' := [(0, .ref (E.2.2.2.1 + v0)), (1, .int v1), (2, .int v2), (4, .int (v4 + 1))]) dX5_placeOf_35 3 rfl (by rfl) (Nat.le_of_ble_eq_true rfl) [1, 2, 3, 0] rfl ?_
      refine zs_goto dX5_placeOf_38 rfl ?_
      exact ih (v4 + 1)
    refine zs_iload dX5_placeOf_32 3 rfl ?_
    exact zs_iretP dX5_placeOf_34 rfl
set_option maxHeartbeats 4000000 in
set_option maxRecDepth 100000 in
theorem ct_X5_placeOf (E : zEnv) (hE : zEok E) (d : Nat) (hd : 1 ≤ d) (v0 : Nat) (v1 : Int32) (v2 : Int32) (v3 : Int32) (M : zM) (x0 : Int32) (hx : fp_X5_placeOf v0 v1 v2 v3 M = some x0) : zCt E mu_X5_placeOf d [.ref (E.2.2.2.1 + v0), .int v1, .int v2, .int v3] M (some (.int x0), M) := by
  refine zCt_of (μ := mu_X5_placeOf) (t := fp_X5_placeOf v0 v1 v2 v3 M) rfl rfl (Nat.le_of_ble_eq_true rfl) hx ?_
  change zSy E mu_X5_placeOf d M (some (.int x0), M) x0 (fp_X5_placeOf v0 v1 v2 v3 M) 0 [(0, .ref (E.2.2.2.1 + v0)), (1, .int v1), (2, .int v2), (3, .int v3)] [] M
  unfold fp_X5_placeOf
  refine zs_iload_n dX5_placeOf_0 rfl 3 rfl ?_
  refine zs_jn (fun j9 => ∀ (s1 : Int32), zSy E mu_X5_placeOf d M (some (.int x0), M) x0 (j9 s1) 9 [(0, .ref (E.2.2.2.1 + v0)), (1, .int v1), (2, .int v2)] [.int s1] M) (fun s1 => ?_) (fun j9 hj9 => ?_)
  · refine zs_istore (loc' := [(0, .ref (E.2.2.2.1 + v0)), (1, .int v1), (2, .int v2), (4, .int s1)]) dX5_placeOf_9 (Nat.le_of_ble_eq_true rfl) [1, 2, 3, 0] rfl ?_
    exact w_X5_placeOf_L11 E hE d hd _ _ _ _ _ _ _
  refine zs_if_ge dX5_placeOf_1 rfl ?_ ?_
  · refine zs_iload_n dX5_placeOf_8 rfl 3 rfl ?_
    refine zs_sub (loc' := [(0, .ref (E.2.2.2.1 + v0)), (1, .int v1), (2, .int v2)]) [0, 1, 2] rfl ?_
    exact hj9 v3
  refine zs_iconst (v := 0) dX5_placeOf_4 ciconst_0 ?_
  refine zs_goto dX5_placeOf_5 rfl ?_
  refine zs_sub (loc' := [(0, .ref (E.2.2.2.1 + v0)), (1, .int v1), (2, .int v2)]) [0, 1, 2] rfl ?_
  exact hj9 0

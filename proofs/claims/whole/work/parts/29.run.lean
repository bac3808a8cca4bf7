theorem dX11_flips_0 : decode cX11_flips 0 = .ok (.aload_n 0, 1) := by decide +kernel
theorem dX11_flips_1 : decode cX11_flips 1 = .ok (.getfield 7, 3) := by decide +kernel
theorem dX11_flips_4 : decode cX11_flips 4 = .ok (.iload_n 1, 1) := by decide +kernel
theorem dX11_flips_5 : decode cX11_flips 5 = .ok (.dup2, 1) := by decide +kernel
theorem dX11_flips_6 : decode cX11_flips 6 = .ok (.iaload, 1) := by decide +kernel
theorem dX11_flips_7 : decode cX11_flips 7 = .ok (.iconst 1, 1) := by decide +kernel
theorem dX11_flips_8 : decode cX11_flips 8 = .ok (.iload_n 2, 1) := by decide +kernel
theorem dX11_flips_9 : decode cX11_flips 9 = .ok (.ishl, 1) := by decide +kernel
theorem dX11_flips_10 : decode cX11_flips 10 = .ok (.ixor, 1) := by decide +kernel
theorem dX11_flips_11 : decode cX11_flips 11 = .ok (.iastore, 1) := by decide +kernel
theorem dX11_flips_12 : decode cX11_flips 12 = .ok (.aload_n 0, 1) := by decide +kernel
theorem dX11_flips_13 : decode cX11_flips 13 = .ok (.getfield 7, 3) := by decide +kernel
theorem dX11_flips_16 : decode cX11_flips 16 = .ok (.iload_n 2, 1) := by decide +kernel
theorem dX11_flips_17 : decode cX11_flips 17 = .ok (.dup2, 1) := by decide +kernel
theorem dX11_flips_18 : decode cX11_flips 18 = .ok (.iaload, 1) := by decide +kernel
theorem dX11_flips_19 : decode cX11_flips 19 = .ok (.iconst 1, 1) := by decide +kernel
theorem dX11_flips_20 : decode cX11_flips 20 = .ok (.iload_n 1, 1) := by decide +kernel
theorem dX11_flips_21 : decode cX11_flips 21 = .ok (.ishl, 1) := by decide +kernel
theorem dX11_flips_22 : decode cX11_flips 22 = .ok (.ixor, 1) := by decide +kernel
theorem dX11_flips_23 : decode cX11_flips 23 = .ok (.iastore, 1) := by decide +kernel
theorem dX11_flips_24 : decode cX11_flips 24 = .ok (.return_, 1) := by decide +kernel
def fp_X11_flips (v0 : Nat) (v1 : Int32) (v2 : Int32) (M : zM) : Option (zM) :=
  zthis 9 M v0 (
    (zgR 9 M v0 2).bind fun (y1 : Nat) =>
    (zlI 100 M y1 v1).bind fun (y2 : Int32) =>
    (ztI M y1 v1 (y2 ^^^ (1 <<< (v2 &&& 31)))).bind fun (M3 : zM) =>
    (zgR 9 M3 v0 2).bind fun (y4 : Nat) =>
    (zlI 100 M3 y4 v2).bind fun (y5 : Int32) =>
    (ztI M3 y4 v2 (y5 ^^^ (1 <<< (v1 &&& 31)))).bind fun (M6 : zM) =>
    some M6)
set_option maxHeartbeats 4000000 in
set_option maxRecDepth 100000 in
theorem th_X11_flips {v0 : Nat} {v1 : Int32} {v2 : Int32} {M : zM} {x0 : zM} (h : fp_X11_flips v0 v1 v2 M = some x0) : v0 < zS M ∧ kd v0 = 9 := by
  unfold fp_X11_flips at h
  exact zthis_of h
set_option maxHeartbeats 4000000 in
set_option maxRecDepth 100000 in
theorem ct_X11_flips (E : zEnv) (hE : zEok E) (d : Nat) (hd : 1 ≤ d) (v0 : Nat) (v1 : Int32) (v2 : Int32) (M : zM) (x0 : zM) (hx : fp_X11_flips v0 v1 v2 M = some x0) : zCt E mu_X11_flips d [.ref (E.2.2.2.1 + v0), .int v1, .int v2] M (none, x0) := by
  refine zCt_of (μ := mu_X11_flips) (t := fp_X11_flips v0 v1 v2 M) rfl rfl (Nat.le_of_ble_eq_true rfl) hx ?_
  change zSy E mu_X11_flips d M (none, x0) x0 (fp_X11_flips v0 v1 v2 M) 0 [(0, .ref (E.2.2.2.1 + v0)), (1, .int v1), (2, .int v2)] [] M
  unfold fp_X11_flips
  refine zs_this (fun hth => ?_)
  refine zs_aload_n dX11_flips_0 rfl 0 rfl ?_
  refine zs_getR dX11_flips_1 fl_X11_7 rfl (fun y1 => ?_)
  refine zs_iload_n dX11_flips_4 rfl 1 rfl ?_
  refine zs_dup2 dX11_flips_5 rfl rfl ?_
  refine zs_ldI dX11_flips_6 (fun y2 => ?_)
  refine zs_iconst (v := 1) dX11_flips_7 ciconst_1 ?_
  refine zs_iload_n dX11_flips_8 rfl 2 rfl ?_
  refine zs_ishl dX11_flips_9 ?_
  refine zs_ixor dX11_flips_10 ?_
  refine zs_stI dX11_flips_11 (fun M3 => ?_)
  refine zs_aload_n dX11_flips_12 rfl 0 rfl ?_
  refine zs_getR dX11_flips_13 fl_X11_7 rfl (fun y4 => ?_)
  refine zs_iload_n dX11_flips_16 rfl 2 rfl ?_
  refine zs_dup2 dX11_flips_17 rfl rfl ?_
  refine zs_ldI dX11_flips_18 (fun y5 => ?_)
  refine zs_iconst (v := 1) dX11_flips_19 ciconst_1 ?_
  refine zs_iload_n dX11_flips_20 rfl 1 rfl ?_
  refine zs_ishl dX11_flips_21 ?_
  refine zs_ixor dX11_flips_22 ?_
  refine zs_stI dX11_flips_23 (fun M6 => ?_)
  exact zs_vret dX11_flips_24 trivial
theorem dX11_turns0_0 : decode cX11_turns0 0 = .ok (.iconst 0, 1) := by decide +kernel
theorem dX11_turns0_1 : decode cX11_turns0 1 = .ok (.istore_n 2, 1) := by decide +kernel
theorem dX11_turns0_2 : decode cX11_turns0 2 = .ok (.iload_n 2, 1) := by decide +kernel
theorem dX11_turns0_3 : decode cX11_turns0 3 = .ok (.aload_n 0, 1) := by decide +kernel
theorem dX11_turns0_4 : decode cX11_turns0 4 = .ok (.getfield 101, 3) := by decide +kernel
theorem dX11_turns0_7 : decode cX11_turns0 7 = .ok (.if_icmp .ge 59, 3) := by decide +kernel
theorem dX11_turns0_10 : decode cX11_turns0 10 = .ok (.iload_n 2, 1) := by decide +kernel
theorem dX11_turns0_11 : decode cX11_turns0 11 = .ok (.iconst 1, 1) := by decide +kernel
theorem dX11_turns0_12 : decode cX11_turns0 12 = .ok (.iadd, 1) := by decide +kernel
theorem dX11_turns0_13 : decode cX11_turns0 13 = .ok (.istore_n 3, 1) := by decide +kernel
theorem dX11_turns0_14 : decode cX11_turns0 14 = .ok (.iload_n 3, 1) := by decide +kernel
theorem dX11_turns0_15 : decode cX11_turns0 15 = .ok (.aload_n 0, 1) := by decide +kernel
theorem dX11_turns0_16 : decode cX11_turns0 16 = .ok (.getfield 101, 3) := by decide +kernel
theorem dX11_turns0_19 : decode cX11_turns0 19 = .ok (.if_icmp .ge 41, 3) := by decide +kernel
theorem dX11_turns0_22 : decode cX11_turns0 22 = .ok (.aload_n 0, 1) := by decide +kernel
theorem dX11_turns0_23 : decode cX11_turns0 23 = .ok (.getfield 7, 3) := by decide +kernel
theorem dX11_turns0_26 : decode cX11_turns0 26 = .ok (.iload_n 1, 1) := by decide +kernel
theorem dX11_turns0_27 : decode cX11_turns0 27 = .ok (.iaload, 1) := by decide +kernel
theorem dX11_turns0_28 : decode cX11_turns0 28 = .ok (.iload_n 2, 1) := by decide +kernel
theorem dX11_turns0_29 : decode cX11_turns0 29 = .ok (.invokestatic 97, 3) := by decide +kernel
theorem dX11_turns0_32 : decode cX11_turns0 32 = .ok (.ifCond .eq 22, 3) := by decide +kernel
theorem dX11_turns0_35 : decode cX11_turns0 35 = .ok (.aload_n 0, 1) := by decide +kernel
theorem dX11_turns0_36 : decode cX11_turns0 36 = .ok (.getfield 7, 3) := by decide +kernel
theorem dX11_turns0_39 : decode cX11_turns0 39 = .ok (.iload_n 1, 1) := by decide +kernel
theorem dX11_turns0_40 : decode cX11_turns0 40 = .ok (.iaload, 1) := by decide +kernel
theorem dX11_turns0_41 : decode cX11_turns0 41 = .ok (.iload_n 3, 1) := by decide +kernel
theorem dX11_turns0_42 : decode cX11_turns0 42 = .ok (.invokestatic 97, 3) := by decide +kernel
theorem dX11_turns0_45 : decode cX11_turns0 45 = .ok (.ifCond .eq 9, 3) := by decide +kernel
theorem dX11_turns0_48 : decode cX11_turns0 48 = .ok (.aload_n 0, 1) := by decide +kernel
theorem dX11_turns0_49 : decode cX11_turns0 49 = .ok (.iload_n 2, 1) := by decide +kernel
theorem dX11_turns0_50 : decode cX11_turns0 50 = .ok (.iload_n 3, 1) := by decide +kernel
theorem dX11_turns0_51 : decode cX11_turns0 51 = .ok (.invokevirtual 108, 3) := by decide +kernel
theorem dX11_turns0_54 : decode cX11_turns0 54 = .ok (.iinc 3 1, 3) := by decide +kernel
theorem dX11_turns0_57 : decode cX11_turns0 57 = .ok (.goto (-43), 3) := by decide +kernel
theorem dX11_turns0_60 : decode cX11_turns0 60 = .ok (.iinc 2 1, 3) := by decide +kernel
theorem dX11_turns0_63 : decode cX11_turns0 63 = .ok (.goto (-61), 3) := by decide +kernel
theorem dX11_turns0_66 : decode cX11_turns0 66 = .ok (.return_, 1) := by decide +kernel
def fp_X11_turns0_L14 (k60 : zM → Option (zM)) (v0 : Nat) (v1 : Int32) (v2 : Int32) : Nat → Int32 → zM → Option (zM)
  | 0, _, _ => none
  | n + 1, v3, M =>
    (zgI 9 M v0 0).bind fun (y3 : Int32) =>
    if v3 ≥ y3 then (
      k60 M)
    else (
      (zgR 9 M v0 2).bind fun (y4 : Nat) =>
      (zlI 100 M y4 v1).bind fun (y5 : Int32) =>
      (fp_X11_has y5 v2).bind fun (y6 : Int32) =>
      zjn (fun (M7 : zM) =>
          fp_X11_turns0_L14 k60 v0 v1 v2 n (v3 + 1) M7)
        (fun j54 =>
          if y6 = 0 then (
            j54 M)
          else (
            (zgR 9 M v0 2).bind fun (y8 : Nat) =>
            (zlI 100 M y8 v1).bind fun (y9 : Int32) =>
            (fp_X11_has y9 v3).bind fun (y10 : Int32) =>
            if y10 = 0 then (
              j54 M)
            else (
              (fp_X11_flips v0 v2 v3 M).bind fun (M11 : zM) =>
              j54 M11))))
def fp_X11_turns0_L2 (v0 : Nat) (v1 : Int32) : Nat → Int32 → zM → Option (zM)
  | 0, _, _ => none
  | n + 1, v2, M =>
    (zgI 9 M v0 0).bind fun (y1 : Int32) =>
    if v2 ≥ y1 then (
      some M)
    else (
      lett ((v2 + 1)) fun (v3_2 : Int32) =>
      fp_X11_turns0_L14
        (fun M12 =>
          fp_X11_turns0_L2 v0 v1 n (v2 + 1) M12) v0 v1 v2 FU v3_2 M)
def fp_X11_turns0 (v0 : Nat) (v1 : Int32) (M : zM) : Option (zM) :=
  zthis 9 M v0 (
    fp_X11_turns0_L2 v0 v1 FU 0 M)
set_option maxHeartbeats 4000000 in
set_option maxRecDepth 100000 in
theorem th_X11_turns0 {v0 : Nat} {v1 : Int32} {M : zM} {x0 : zM} (h : fp_X11_turns0 v0 v1 M = some x0) : v0 < zS M ∧ kd v0 = 9 := by
  unfold fp_X11_turns0 at h
  exact zthis_of h
set_option maxHeartbeats 4000000 in
set_option maxRecDepth 100000 in
theorem w_X11_turns0_L14 (E : zEnv) (hE : zEok E) (d : Nat) (hd : 2 ≤ d) (M0 : zM) (x0 : zM) (v0 : Nat) (v1 : Int32) (v2 : Int32) (k60 : zM → Option (zM)) (hk60 : ∀ (M : zM), zSy E mu_X11_turns0 d M0 (none, x0) x0 (k60 M) 60 [(0, .ref (E.2.2.2.1 + v0)), (1, .int v1), (2, .int v2)] [] M) : ∀ (n : Nat) (v3 : Int32) (M : zM), zSy E mu_X11_turns0 d M0 (none, x0) x0 (fp_X11_turns0_L14 k60 v0 v1 v2 n v3 M) 14 [(0, .ref (E.2.2.2.1 + v0)), (1, .int v1), (2, .int v2), (3, .int v3)] [] M := by
  intro n
  induction n with
  | zero =>
    intro v3 M
    rw [fp_X11_turns0_L14]
    exact zs_none
  | succ n ih =>
    intro v3 M
    rw [fp_X11_turns0_L14]
    refine zs_iload_n dX11_turns0_14 rfl 3 rfl ?_
    refine zs_aload_n dX11_turns0_15 rfl 0 rfl ?_
    refine zs_getI dX11_turns0_16 fl_X11_101 rfl (fun y3 => ?_)
    refine zs_icmp_ge dX11_turns0_19 rfl ?_ ?_
    · refine zs_sub (loc' := [(0, .ref (E.2.2.2.1 + v0)), (1, .int v1), (2, .int v2)]) [0, 1, 2] rfl ?_
      exact hk60 M
    refine zs_aload_n dX11_turns0_22 rfl 0 rfl ?_
    refine zs_getR dX11_turns0_23 fl_X11_7 rfl (fun y4 => ?_)
    refine zs_iload_n dX11_turns0_26 rfl 1 rfl ?_
    refine zs_ldI dX11_turns0_27 (fun y5 => ?_)
    refine zs_iload_n dX11_turns0_28 rfl 2 rfl ?_
    refine zs_invSPI (rest := []) [.int y5, .int v2] dX11_turns0_29 lk_X11_97 rfl (zd1 rfl hd) rfl (Nat.le_of_ble_eq_true rfl) (ct_X11_has E hE _ (zdl rfl hd) _ _ _) (fun y6 => ?_)
    refine zs_jn (fun j54 => ∀ (M7 : zM), zSy E mu_X11_turns0 d M0 (none, x0) x0 (j54 M7) 54 [(0, .ref (E.2.2.2.1 + v0)), (1, .int v1), (2, .int v2), (3, .int v3)] [] M7) (fun M7 => ?_) (fun j54 hj54 => ?_)
    · refine zs_iinc (v := (v3 + 1)) (loc' := [(0, .ref (E.2.2.2.1 + v0)), (1, .int v1), (2, .int v2), (3, .int (v3 + 1))]) dX11_turns0_54 3 rfl (by rfl) (Nat.le_of_ble_eq_true rfl) [1, 2, 3, 0] rfl ?_
      refine zs_goto dX11_turns0_57 rfl ?_
      exact ih (v3 + 1) M7
    refine zs_if_eq dX11_turns0_32 rfl ?_ ?_
    · exact hj54 M
    refine zs_aload_n dX11_turns0_35 rfl 0 rfl ?_
    refine zs_getR dX11_turns0_36 fl_X11_7 rfl (fun y8 => ?_)
    refine zs_iload_n dX11_turns0_39 rfl 1 rfl ?_
    refine zs_ldI dX11_turns0_40 (fun y9 => ?_)
    refine zs_iload_n dX11_turns0_41 rfl 3 rfl ?_
    refine zs_invSPI (rest := []) [.int y9, .int v3] dX11_turns0_42 lk_X11_97 rfl (zd1 rfl hd) rfl (Nat.le_of_ble_eq_true rfl) (ct_X11_has E hE _ (zdl rfl hd) _ _ _) (fun y10 => ?_)
    refine zs_if_eq dX11_turns0_45 rfl ?_ ?_
    · exact hj54 M
    refine zs_aload_n dX11_turns0_48 rfl 0 rfl ?_
    refine zs_iload_n dX11_turns0_49 rfl 2 rfl ?_
    refine zs_iload_n dX11_turns0_50 rfl 3 rfl ?_
    refine zs_invVWV (rest := []) [.int v2, .int v3] dX11_turns0_51 lk_X11_108 rfl (fun _ h => th_X11_flips h) (zd1 rfl hd) rfl (Nat.le_of_ble_eq_true rfl) (ct_X11_flips E hE _ (zdl rfl hd) _ _ _ _) (fun M11 => ?_)
    exact hj54 M11
set_option maxHeartbeats 4000000 in
set_option maxRecDepth 100000 in
theorem w_X11_turns0_L2 (E : zEnv) (hE : zEok E) (d : Nat) (hd : 2 ≤ d) (M0 : zM) (x0 : zM) (v0 : Nat) (v1 : Int32)  : ∀ (n : Nat) (v2 : Int32) (M : zM), zSy E mu_X11_turns0 d M0 (none, x0) x0 (fp_X11_turns0_L2 v0 v1 n v2 M) 2 [(0, .ref (E.2.2.2.1 + v0)), (1, .int v1), (2, .int v2)] [] M := by
  intro n
  induction n with
  | zero =>
    intro v2 M
    rw [fp_X11_turns0_L2]
    exact zs_none
  | succ n ih =>
    intro v2 M
    rw [fp_X11_turns0_L2]
    refine zs_iload_n dX11_turns0_2 rfl 2 rfl ?_
    refine zs_aload_n dX11_turns0_3 rfl 0 rfl ?_
    refine zs_getI dX11_turns0_4 fl_X11_101 rfl (fun y1 => ?_)
    refine zs_icmp_ge dX11_turns0_7 rfl ?_ ?_
    · exact zs_vret dX11_turns0_66 trivial
    refine zs_iload_n dX11_turns0_10 rfl 2 rfl ?_
    refine zs_iconst (v := 1) dX11_turns0_11 ciconst_1 ?_
    refine zs_iadd dX11_turns0_12 ?_
    refine zs_istore_nL (loc' := fun v3_2 => [(0, .ref (E.2.2.2.1 + v0)), (1, .int v1), (2, .int v2), (3, .int v3_2)]) dX11_turns0_13 rfl (Nat.le_of_ble_eq_true rfl) [1, 2, 3, 0] (fun _ => rfl) (fun v3_2 => ?_)
    refine w_X11_turns0_L14 E hE d hd _ _ _ _ _ _ (fun M12 => ?_) _ _ _
    refine zs_iinc (v := (v2 + 1)) (loc' := [(0, .ref (E.2.2.2.1 + v0)), (1, .int v1), (2, .int (v2 + 1))]) dX11_turns0_60 2 rfl (by rfl) (Nat.le_of_ble_eq_true rfl) [1, 2, 0] rfl ?_
    refine zs_goto dX11_turns0_63 rfl ?_
    exact ih (v2 + 1) M12
set_option maxHeartbeats 4000000 in
set_option maxRecDepth 100000 in
theorem ct_X11_turns0 (E : zEnv) (hE : zEok E) (d : Nat) (hd : 2 ≤ d) (v0 : Nat) (v1 : Int32) (M : zM) (x0 : zM) (hx : fp_X11_turns0 v0 v1 M = some x0) : zCt E mu_X11_turns0 d [.ref (E.2.2.2.1 + v0), .int v1] M (none, x0) := by
  refine zCt_of (μ := mu_X11_turns0) (t := fp_X11_turns0 v0 v1 M) rfl rfl (Nat.le_of_ble_eq_true rfl) hx ?_
  change zSy E mu_X11_turns0 d M (none, x0) x0 (fp_X11_turns0 v0 v1 M) 0 [(0, .ref (E.2.2.2.1 + v0)), (1, .int v1)] [] M
  unfold fp_X11_turns0
  refine zs_this (fun hth => ?_)
  refine zs_iconst (v := 0) dX11_turns0_0 ciconst_0 ?_
  refine zs_istore_n (loc' := [(0, .ref (E.2.2.2.1 + v0)), (1, .int v1), (2, .int 0)]) dX11_turns0_1 rfl (Nat.le_of_ble_eq_true rfl) [1, 2, 0] rfl ?_
  exact w_X11_turns0_L2 E hE d hd _ _ _ _ _ _ _
theorem dX11_swings_0 : decode cX11_swings 0 = .ok (.iload_n 1, 1) := by decide +kernel
theorem dX11_swings_1 : decode cX11_swings 1 = .ok (.iload_n 2, 1) := by decide +kernel
theorem dX11_swings_2 : decode cX11_swings 2 = .ok (.invokestatic 112, 3) := by decide +kernel
theorem dX11_swings_5 : decode cX11_swings 5 = .ok (.istore_n 3, 1) := by decide +kernel
theorem dX11_swings_6 : decode cX11_swings 6 = .ok (.aload_n 0, 1) := by decide +kernel
theorem dX11_swings_7 : decode cX11_swings 7 = .ok (.iload_n 3, 1) := by decide +kernel
theorem dX11_swings_8 : decode cX11_swings 8 = .ok (.invokevirtual 118, 3) := by decide +kernel
theorem dX11_swings_11 : decode cX11_swings 11 = .ok (.aload_n 0, 1) := by decide +kernel
theorem dX11_swings_12 : decode cX11_swings 12 = .ok (.iload_n 1, 1) := by decide +kernel
theorem dX11_swings_13 : decode cX11_swings 13 = .ok (.iload_n 2, 1) := by decide +kernel
theorem dX11_swings_14 : decode cX11_swings 14 = .ok (.iadd, 1) := by decide +kernel
theorem dX11_swings_15 : decode cX11_swings 15 = .ok (.iload_n 3, 1) := by decide +kernel
theorem dX11_swings_16 : decode cX11_swings 16 = .ok (.isub, 1) := by decide +kernel
theorem dX11_swings_17 : decode cX11_swings 17 = .ok (.invokevirtual 118, 3) := by decide +kernel
theorem dX11_swings_20 : decode cX11_swings 20 = .ok (.aload_n 0, 1) := by decide +kernel
theorem dX11_swings_21 : decode cX11_swings 21 = .ok (.iload_n 3, 1) := by decide +kernel
theorem dX11_swings_22 : decode cX11_swings 22 = .ok (.invokevirtual 118, 3) := by decide +kernel
theorem dX11_swings_25 : decode cX11_swings 25 = .ok (.return_, 1) := by decide +kernel
def fp_X11_swings (v0 : Nat) (v1 : Int32) (v2 : Int32) (M : zM) : Option (zM) :=
  zthis 9 M v0 (
    lett ((kmin v1 v2)) fun (v3_1 : Int32) =>
    (fp_X11_turns0 v0 v3_1 M).bind fun (M2 : zM) =>
    (fp_X11_turns0 v0 ((v1 + v2) - v3_1) M2).bind fun (M3 : zM) =>
    (fp_X11_turns0 v0 v3_1 M3).bind fun (M4 : zM) =>
    some M4)
set_option maxHeartbeats 4000000 in
set_option maxRecDepth 100000 in
theorem th_X11_swings {v0 : Nat} {v1 : Int32} {v2 : Int32} {M : zM} {x0 : zM} (h : fp_X11_swings v0 v1 v2 M = some x0) : v0 < zS M ∧ kd v0 = 9 := by
  unfold fp_X11_swings at h
  exact zthis_of h
set_option maxHeartbeats 4000000 in
set_option maxRecDepth 100000 in
theorem ct_X11_swings (E : zEnv) (hE : zEok E) (d : Nat) (hd : 3 ≤ d) (v0 : Nat) (v1 : Int32) (v2 : Int32) (M : zM) (x0 : zM) (hx : fp_X11_swings v0 v1 v2 M = some x0) : zCt E mu_X11_swings d [.ref (E.2.2.2.1 + v0), .int v1, .int v2] M (none, x0) := by
  refine zCt_of (μ := mu_X11_swings) (t := fp_X11_swings v0 v1 v2 M) rfl rfl (Nat.le_of_ble_eq_true rfl) hx ?_
  change zSy E mu_X11_swings d M (none, x0) x0 (fp_X11_swings v0 v1 v2 M) 0 [(0, .ref (E.2.2.2.1 + v0)), (1, .int v1), (2, .int v2)] [] M
  unfold fp_X11_swings
  refine zs_this (fun hth => ?_)
  refine zs_iload_n dX11_swings_0 rfl 1 rfl ?_
  refine zs_iload_n dX11_swings_1 rfl 2 rfl ?_
  refine zs_min dX11_swings_2 (ti_6 103 rfl rfl) ms_min mi_Math mc_min (zd0 rfl hd) (Nat.le_of_ble_eq_true rfl) ?_
  refine zs_istore_nL (loc' := fun v3_1 => [(0, .ref (E.2.2.2.1 + v0)), (1, .int v1), (2, .int v2), (3, .int v3_1)]) dX11_swings_5 rfl (Nat.le_of_ble_eq_true rfl) [1, 2, 3, 0] (fun _ => rfl) (fun v3_1 => ?_)
  refine zs_aload_n dX11_swings_6 rfl 0 rfl ?_
  refine zs_iload_n dX11_swings_7 rfl 3 rfl ?_
  refine zs_invVWV (rest := []) [.int v3_1] dX11_swings_8 lk_X11_118 rfl (fun _ h => th_X11_turns0 h) (zd1 rfl hd) rfl (Nat.le_of_ble_eq_true rfl) (ct_X11_turns0 E hE _ (zdl rfl hd) _ _ _) (fun M2 => ?_)
  refine zs_aload_n dX11_swings_11 rfl 0 rfl ?_
  refine zs_iload_n dX11_swings_12 rfl 1 rfl ?_
  refine zs_iload_n dX11_swings_13 rfl 2 rfl ?_
  refine zs_iadd dX11_swings_14 ?_
  refine zs_iload_n dX11_swings_15 rfl 3 rfl ?_
  refine zs_isub dX11_swings_16 ?_
  refine zs_invVWV (rest := []) [.int ((v1 + v2) - v3_1)] dX11_swings_17 lk_X11_118 rfl (fun _ h => th_X11_turns0 h) (zd1 rfl hd) rfl (Nat.le_of_ble_eq_true rfl) (ct_X11_turns0 E hE _ (zdl rfl hd) _ _ _) (fun M3 => ?_)
  refine zs_aload_n dX11_swings_20 rfl 0 rfl ?_
  refine zs_iload_n dX11_swings_21 rfl 3 rfl ?_
  refine zs_invVWV (rest := []) [.int v3_1] dX11_swings_22 lk_X11_118 rfl (fun _ h => th_X11_turns0 h) (zd1 rfl hd) rfl (Nat.le_of_ble_eq_true rfl) (ct_X11_turns0 E hE _ (zdl rfl hd) _ _ _) (fun M4 => ?_)
  exact zs_vret dX11_swings_25 trivial
theorem dX11_lines_0 : decode cX11_lines 0 = .ok (.iconst 0, 1) := by decide +kernel
theorem dX11_lines_1 : decode cX11_lines 1 = .ok (.istore_n 1, 1) := by decide +kernel
theorem dX11_lines_2 : decode cX11_lines 2 = .ok (.iconst 0, 1) := by decide +kernel
theorem dX11_lines_3 : decode cX11_lines 3 = .ok (.istore_n 2, 1) := by decide +kernel
theorem dX11_lines_4 : decode cX11_lines 4 = .ok (.iload_n 2, 1) := by decide +kernel
theorem dX11_lines_5 : decode cX11_lines 5 = .ok (.aload_n 0, 1) := by decide +kernel
theorem dX11_lines_6 : decode cX11_lines 6 = .ok (.getfield 101, 3) := by decide +kernel
theorem dX11_lines_9 : decode cX11_lines 9 = .ok (.if_icmp .ge 21, 3) := by decide +kernel
theorem dX11_lines_12 : decode cX11_lines 12 = .ok (.iload_n 1, 1) := by decide +kernel
theorem dX11_lines_13 : decode cX11_lines 13 = .ok (.aload_n 0, 1) := by decide +kernel
theorem dX11_lines_14 : decode cX11_lines 14 = .ok (.getfield 7, 3) := by decide +kernel
theorem dX11_lines_17 : decode cX11_lines 17 = .ok (.iload_n 2, 1) := by decide +kernel
theorem dX11_lines_18 : decode cX11_lines 18 = .ok (.iaload, 1) := by decide +kernel
theorem dX11_lines_19 : decode cX11_lines 19 = .ok (.invokestatic 122, 3) := by decide +kernel
theorem dX11_lines_22 : decode cX11_lines 22 = .ok (.iadd, 1) := by decide +kernel
theorem dX11_lines_23 : decode cX11_lines 23 = .ok (.istore_n 1, 1) := by decide +kernel
theorem dX11_lines_24 : decode cX11_lines 24 = .ok (.iinc 2 1, 3) := by decide +kernel
theorem dX11_lines_27 : decode cX11_lines 27 = .ok (.goto (-23), 3) := by decide +kernel
theorem dX11_lines_30 : decode cX11_lines 30 = .ok (.iload_n 1, 1) := by decide +kernel
theorem dX11_lines_31 : decode cX11_lines 31 = .ok (.iconst 2, 1) := by decide +kernel
theorem dX11_lines_32 : decode cX11_lines 32 = .ok (.idiv, 1) := by decide +kernel
theorem dX11_lines_33 : decode cX11_lines 33 = .ok (.ireturn, 1) := by decide +kernel
def fp_X11_lines_L4 (v0 : Nat) (M : zM) : Nat → Int32 → Int32 → Option (Int32)
  | 0, _, _ => none
  | n + 1, v1, v2 =>
    (zgI 9 M v0 0).bind fun (y1 : Int32) =>
    if v2 ≥ y1 then (
      some (v1 / 2))
    else (
      (zgR 9 M v0 2).bind fun (y2 : Nat) =>
      (zlI 100 M y2 v2).bind fun (y3 : Int32) =>
      (fp_X11_bits y3).bind fun (y4 : Int32) =>
      lett ((v1 + y4)) fun (v1_5 : Int32) =>
      fp_X11_lines_L4 v0 M n v1_5 (v2 + 1))
def fp_X11_lines (v0 : Nat) (M : zM) : Option (Int32) :=
  zthis 9 M v0 (
    fp_X11_lines_L4 v0 M FU 0 0)
set_option maxHeartbeats 4000000 in
set_option maxRecDepth 100000 in
theorem th_X11_lines {v0 : Nat} {M : zM} {x0 : Int32} (h : fp_X11_lines v0 M = some x0) : v0 < zS M ∧ kd v0 = 9 := by
  unfold fp_X11_lines at h
  exact zthis_of h
set_option maxHeartbeats 4000000 in
set_option maxRecDepth 100000 in
theorem w_X11_lines_L4 (E : zEnv) (hE : zEok E) (d : Nat) (hd : 2 ≤ d) (x0 : Int32) (v0 : Nat) (M : zM)  : ∀ (n : Nat) (v1 : Int32) (v2 : Int32), zSy E mu_X11_lines d M (some (.int x0), M) x0 (fp_X11_lines_L4 v0 M n v1 v2) 4 [(0, .ref (E.2.2.2.1 + v0)), (1, .int v1), (2, .int v2)] [] M := by
  intro n
  induction n with
  | zero =>
    intro v1 v2
    rw [fp_X11_lines_L4]
    exact zs_none
  | succ n ih =>
    intro v1 v2
    rw [fp_X11_lines_L4]
    refine zs_iload_n dX11_lines_4 rfl 2 rfl ?_
    refine zs_aload_n dX11_lines_5 rfl 0 rfl ?_
    refine zs_getI dX11_lines_6 fl_X11_101 rfl (fun y1 => ?_)
    refine zs_icmp_ge dX11_lines_9 rfl ?_ ?_
    · refine zs_iload_n dX11_lines_30 rfl 1 rfl ?_
      refine zs_iconst (v := 2) dX11_lines_31 ciconst_2 ?_
      refine zs_idivK dX11_lines_32 (by decide) ?_
      exact zs_iretP dX11_lines_33 rfl
    refine zs_iload_n dX11_lines_12 rfl 1 rfl ?_
    refine zs_aload_n dX11_lines_13 rfl 0 rfl ?_
    refine zs_getR dX11_lines_14 fl_X11_7 rfl (fun y2 => ?_)
    refine zs_iload_n dX11_lines_17 rfl 2 rfl ?_
    refine zs_ldI dX11_lines_18 (fun y3 => ?_)
    refine zs_invSPI (rest := [.int v1]) [.int y3] dX11_lines_19 lk_X11_122 rfl (zd1 rfl hd) rfl (Nat.le_of_ble_eq_true rfl) (ct_X11_bits E hE _ (zdl rfl hd) _ _) (fun y4 => ?_)
    refine zs_iadd dX11_lines_22 ?_
    refine zs_istore_nL (loc' := fun v1_5 => [(0, .ref (E.2.2.2.1 + v0)), (1, .int v1_5), (2, .int v2)]) dX11_lines_23 rfl (Nat.le_of_ble_eq_true rfl) [1, 0, 2] (fun _ => rfl) (fun v1_5 => ?_)
    refine zs_iinc (v := (v2 + 1)) (loc' := [(0, .ref (E.2.2.2.1 + v0)), (1, .int v1_5), (2, .int (v2 + 1))]) dX11_lines_24 2 rfl (by rfl) (Nat.le_of_ble_eq_true rfl) [1, 2, 0] rfl ?_
    refine zs_goto dX11_lines_27 rfl ?_
    exact ih v1_5 (v2 + 1)
set_option maxHeartbeats 4000000 in
set_option maxRecDepth 100000 in
theorem ct_X11_lines (E : zEnv) (hE : zEok E) (d : Nat) (hd : 2 ≤ d) (v0 : Nat) (M : zM) (x0 : Int32) (hx : fp_X11_lines v0 M = some x0) : zCt E mu_X11_lines d [.ref (E.2.2.2.1 + v0)] M (some (.int x0), M) := by
  refine zCt_of (μ := mu_X11_lines) (t := fp_X11_lines v0 M) rfl rfl (Nat.le_of_ble_eq_true rfl) hx ?_
  change zSy E mu_X11_lines d M (some (.int x0), M) x0 (fp_X11_lines v0 M) 0 [(0, .ref (E.2.2.2.1 + v0))] [] M
  unfold fp_X11_lines
  refine zs_this (fun hth => ?_)
  refine zs_iconst (v := 0) dX11_lines_0 ciconst_0 ?_
  refine zs_istore_n (loc' := [(0, .ref (E.2.2.2.1 + v0)), (1, .int 0)]) dX11_lines_1 rfl (Nat.le_of_ble_eq_true rfl) [1, 0] rfl ?_
  refine zs_iconst (v := 0) dX11_lines_2 ciconst_0 ?_
  refine zs_istore_n (loc' := [(0, .ref (E.2.2.2.1 + v0)), (1, .int 0), (2, .int 0)]) dX11_lines_3 rfl (Nat.le_of_ble_eq_true rfl) [1, 2, 0] rfl ?_
  exact w_X11_lines_L4 E hE d hd _ _ _ _ _ _
theorem dX11_joined_0 : decode cX11_joined 0 = .ok (.iconst 1, 1) := by decide +kernel
theorem dX11_joined_1 : decode cX11_joined 1 = .ok (.iload_n 1, 1) := by decide +kernel
theorem dX11_joined_2 : decode cX11_joined 2 = .ok (.ishl, 1) := by decide +kernel
theorem dX11_joined_3 : decode cX11_joined 3 = .ok (.istore_n 2, 1) := by decide +kernel
theorem dX11_joined_4 : decode cX11_joined 4 = .ok (.iconst 0, 1) := by decide +kernel
theorem dX11_joined_5 : decode cX11_joined 5 = .ok (.istore_n 3, 1) := by decide +kernel
theorem dX11_joined_6 : decode cX11_joined 6 = .ok (.iload_n 3, 1) := by decide +kernel
theorem dX11_joined_7 : decode cX11_joined 7 = .ok (.iload_n 2, 1) := by decide +kernel
theorem dX11_joined_8 : decode cX11_joined 8 = .ok (.if_icmp .eq 49, 3) := by decide +kernel
theorem dX11_joined_11 : decode cX11_joined 11 = .ok (.iload_n 2, 1) := by decide +kernel
theorem dX11_joined_12 : decode cX11_joined 12 = .ok (.istore_n 3, 1) := by decide +kernel
theorem dX11_joined_13 : decode cX11_joined 13 = .ok (.iconst 0, 1) := by decide +kernel
theorem dX11_joined_14 : decode cX11_joined 14 = .ok (.istore 4, 2) := by decide +kernel
theorem dX11_joined_16 : decode cX11_joined 16 = .ok (.iload 4, 2) := by decide +kernel
theorem dX11_joined_18 : decode cX11_joined 18 = .ok (.aload_n 0, 1) := by decide +kernel
theorem dX11_joined_19 : decode cX11_joined 19 = .ok (.getfield 101, 3) := by decide +kernel
theorem dX11_joined_22 : decode cX11_joined 22 = .ok (.if_icmp .ge 32, 3) := by decide +kernel
theorem dX11_joined_25 : decode cX11_joined 25 = .ok (.iload_n 2, 1) := by decide +kernel
theorem dX11_joined_26 : decode cX11_joined 26 = .ok (.iload_n 3, 1) := by decide +kernel
theorem dX11_joined_27 : decode cX11_joined 27 = .ok (.iload 4, 2) := by decide +kernel
theorem dX11_joined_29 : decode cX11_joined 29 = .ok (.invokestatic 97, 3) := by decide +kernel
theorem dX11_joined_32 : decode cX11_joined 32 = .ok (.ifCond .eq 13, 3) := by decide +kernel
theorem dX11_joined_35 : decode cX11_joined 35 = .ok (.aload_n 0, 1) := by decide +kernel
theorem dX11_joined_36 : decode cX11_joined 36 = .ok (.getfield 7, 3) := by decide +kernel
theorem dX11_joined_39 : decode cX11_joined 39 = .ok (.iload 4, 2) := by decide +kernel
theorem dX11_joined_41 : decode cX11_joined 41 = .ok (.iaload, 1) := by decide +kernel
theorem dX11_joined_42 : decode cX11_joined 42 = .ok (.goto 4, 3) := by decide +kernel
theorem dX11_joined_45 : decode cX11_joined 45 = .ok (.iconst 0, 1) := by decide +kernel
theorem dX11_joined_46 : decode cX11_joined 46 = .ok (.ior, 1) := by decide +kernel
theorem dX11_joined_47 : decode cX11_joined 47 = .ok (.istore_n 2, 1) := by decide +kernel
theorem dX11_joined_48 : decode cX11_joined 48 = .ok (.iinc 4 1, 3) := by decide +kernel
theorem dX11_joined_51 : decode cX11_joined 51 = .ok (.goto (-35), 3) := by decide +kernel
theorem dX11_joined_54 : decode cX11_joined 54 = .ok (.goto (-48), 3) := by decide +kernel
theorem dX11_joined_57 : decode cX11_joined 57 = .ok (.iload_n 2, 1) := by decide +kernel
theorem dX11_joined_58 : decode cX11_joined 58 = .ok (.ireturn, 1) := by decide +kernel
def fp_X11_joined_L16 (k54 : Int32 → Option (Int32)) (v0 : Nat) (v3 : Int32) (M : zM) : Nat → Int32 → Int32 → Option (Int32)
  | 0, _, _ => none
  | n + 1, v2, v4 =>
    (zgI 9 M v0 0).bind fun (y2 : Int32) =>
    if v4 ≥ y2 then (
      k54 v2)
    else (
      (fp_X11_has v3 v4).bind fun (y3 : Int32) =>
      zjn (fun (s4 : Int32) (s5 : Int32) =>
          lett ((s5 ||| s4)) fun (v2_6 : Int32) =>
          fp_X11_joined_L16 k54 v0 v3 M n v2_6 (v4 + 1))
        (fun j46 =>
          if y3 = 0 then (
            j46 0 v2)
          else (
            (zgR 9 M v0 2).bind fun (y7 : Nat) =>
            (zlI 100 M y7 v4).bind fun (y8 : Int32) =>
            j46 y8 v2)))
def fp_X11_joined_L6 (v0 : Nat) (M : zM) : Nat → Int32 → Int32 → Option (Int32)
  | 0, _, _ => none
  | n + 1, v2, v3 =>
    if v3 = v2 then (
      some v2)
    else (
      fp_X11_joined_L16
        (fun v2_9 =>
          fp_X11_joined_L6 v0 M n v2_9 v2) v0 v2 M FU v2 0)
def fp_X11_joined (v0 : Nat) (v1 : Int32) (M : zM) : Option (Int32) :=
  zthis 9 M v0 (
    lett ((1 <<< (v1 &&& 31))) fun (v2_1 : Int32) =>
    fp_X11_joined_L6 v0 M FU v2_1 0)
set_option maxHeartbeats 4000000 in
set_option maxRecDepth 100000 in
theorem th_X11_joined {v0 : Nat} {v1 : Int32} {M : zM} {x0 : Int32} (h : fp_X11_joined v0 v1 M = some x0) : v0 < zS M ∧ kd v0 = 9 := by
  unfold fp_X11_joined at h
  exact zthis_of h
set_option maxHeartbeats 4000000 in
set_option maxRecDepth 100000 in
theorem w_X11_joined_L16 (E : zEnv) (hE : zEok E) (d : Nat) (hd : 2 ≤ d) (x0 : Int32) (v0 : Nat) (v3 : Int32) (M : zM) (k54 : Int32 → Option (Int32)) (hk54 : ∀ (v2 : Int32), zSy E mu_X11_joined d M (some (.int x0), M) x0 (k54 v2) 54 [(0, .ref (E.2.2.2.1 + v0)), (2, .int v2), (3, .int v3)] [] M) : ∀ (n : Nat) (v2 : Int32) (v4 : Int32), zSy E mu_X11_joined d M (some (.int x0), M) x0 (fp_X11_joined_L16 k54 v0 v3 M n v2 v4) 16 [(0, .ref (E.2.2.2.1 + v0)), (2, .int v2), (3, .int v3), (4, .int v4)] [] M := by
  intro n
  induction n with
  | zero =>
    intro v2 v4
    rw [fp_X11_joined_L16]
    exact zs_none
  | succ n ih =>
    intro v2 v4
    rw [fp_X11_joined_L16]
    refine zs_iload dX11_joined_16 3 rfl ?_
    refine zs_aload_n dX11_joined_18 rfl 0 rfl ?_
    refine zs_getI dX11_joined_19 fl_X11_101 rfl (fun y2 => ?_)
    refine zs_icmp_ge dX11_joined_22 rfl ?_ ?_
    · refine zs_sub (loc' := [(0, .ref (E.2.2.2.1 + v0)), (2, .int v2), (3, .int v3)]) [0, 1, 2] rfl ?_
      exact hk54 v2
    refine zs_iload_n dX11_joined_25 rfl 1 rfl ?_
    refine zs_iload_n dX11_joined_26 rfl 2 rfl ?_
    refine zs_iload dX11_joined_27 3 rfl ?_
    refine zs_invSPI (rest := [.int v2]) [.int v3, .int v4] dX11_joined_29 lk_X11_97 rfl (zd1 rfl hd) rfl (Nat.le_of_ble_eq_true rfl) (ct_X11_has E hE _ (zdl rfl hd) _ _ _) (fun y3 => ?_)
    refine zs_jn (fun j46 => ∀ (s4 : Int32) (s5 : Int32), zSy E mu_X11_joined d M (some (.int x0), M) x0 (j46 s4 s5) 46 [(0, .ref (E.2.2.2.1 + v0)), (3, .int v3), (4, .int v4)] [.int s4, .int s5] M) (fun s4 s5 => ?_) (fun j46 hj46 => ?_)
    · refine zs_ior dX11_joined_46 ?_
      refine zs_istore_nL (loc' := fun v2_6 => [(0, .ref (E.2.2.2.1 + v0)), (2, .int v2_6), (3, .int v3), (4, .int v4)]) dX11_joined_47 rfl (Nat.le_of_ble_eq_true rfl) [1, 0, 2, 3] (fun _ => rfl) (fun v2_6 => ?_)
      refine zs_iinc (v := (v4 + 1)) (loc' := [(0, .ref (E.2.2.2.1 + v0)), (2, .int v2_6), (3, .int v3), (4, .int (v4 + 1))]) dX11_joined_48 3 rfl (by rfl) (Nat.le_of_ble_eq_true rfl) [1, 2, 3, 0] rfl ?_
      refine zs_goto dX11_joined_51 rfl ?_
      exact ih v2_6 (v4 + 1)
    refine zs_if_eq dX11_joined_32 rfl ?_ ?_
    · refine zs_iconst (v := 0) dX11_joined_45 ciconst_0 ?_
      refine zs_sub (loc' := [(0, .ref (E.2.2.2.1 + v0)), (3, .int v3), (4, .int v4)]) [0, 2, 3] rfl ?_
      exact hj46 0 v2
    refine zs_aload_n dX11_joined_35 rfl 0 rfl ?_
    refine zs_getR dX11_joined_36 fl_X11_7 rfl (fun y7 => ?_)
    refine zs_iload dX11_joined_39 3 rfl ?_
    refine zs_ldI dX11_joined_41 (fun y8 => ?_)
    refine zs_goto dX11_joined_42 rfl ?_
    refine zs_sub (loc' := [(0, .ref (E.2.2.2.1 + v0)), (3, .int v3), (4, .int v4)]) [0, 2, 3] rfl ?_
    exact hj46 y8 v2
set_option maxHeartbeats 4000000 in
set_option maxRecDepth 100000 in
theorem w_X11_joined_L6 (E : zEnv) (hE : zEok E) (d : Nat) (hd : 2 ≤ d) (x0 : Int32) (v0 : Nat) (M : zM)  : ∀ (n : Nat) (v2 : Int32) (v3 : Int32), zSy E mu_X11_joined d M (some (.int x0), M) x0 (fp_X11_joined_L6 v0 M n v2 v3) 6 [(0, .ref (E.2.2.2.1 + v0)), (2, .int v2), (3, .int v3)] [] M := by
  intro n
  induction n with
  | zero =>
    intro v2 v3
    rw [fp_X11_joined_L6]
    exact zs_none
  | succ n ih =>
    intro v2 v3
    rw [fp_X11_joined_L6]
    refine zs_iload_n dX11_joined_6 rfl 2 rfl ?_
    refine zs_iload_n dX11_joined_7 rfl 1 rfl ?_
    refine zs_icmp_eq dX11_joined_8 rfl ?_ ?_
    · refine zs_iload_n dX11_joined_57 rfl 1 rfl ?_
      exact zs_iretP dX11_joined_58 rfl
    refine zs_iload_n dX11_joined_11 rfl 1 rfl ?_
    refine zs_istore_n (loc' := [(0, .ref (E.2.2.2.1 + v0)), (2, .int v2), (3, .int v2)]) dX11_joined_12 rfl (Nat.le_of_ble_eq_true rfl) [1, 2, 0] rfl ?_
    refine zs_iconst (v := 0) dX11_joined_13 ciconst_0 ?_
    refine zs_istore (loc' := [(0, .ref (E.2.2.2.1 + v0)), (2, .int v2), (3, .int v2), (4, .int 0)]) dX11_joined_14 (Nat.le_of_ble_eq_true rfl) [1, 2, 3, 0] rfl ?_
    refine w_X11_joined_L16 E hE d hd _ _ _ _ _ (fun v2_9 => ?_) _ _ _
    refine zs_goto dX11_joined_54 rfl ?_
    exact ih v2_9 v2
set_option maxHeartbeats 4000000 in
set_option maxRecDepth 100000 in
theorem ct_X11_joined (E : zEnv) (hE : zEok E) (d : Nat) (hd : 2 ≤ d) (v0 : Nat) (v1 : Int32) (M : zM) (x0 : Int32) (hx : fp_X11_joined v0 v1 M = some x0) : zCt E mu_X11_joined d [.ref (E.2.2.2.1 + v0), .int v1] M (some (.int x0), M) := by
  refine zCt_of (μ := mu_X11_joined) (t := fp_X11_joined v0 v1 M) rfl rfl (Nat.le_of_ble_eq_true rfl) hx ?_
  change zSy E mu_X11_joined d M (some (.int x0), M) x0 (fp_X11_joined v0 v1 M) 0 [(0, .ref (E.2.2.2.1 + v0)), (1, .int v1)] [] M
  unfold fp_X11_joined
  refine zs_this (fun hth => ?_)
  refine zs_iconst (v := 1) dX11_joined_0 ciconst_1 ?_
  refine zs_iload_n dX11_joined_1 rfl 1 rfl ?_
  refine zs_ishl dX11_joined_2 ?_
  refine zs_istore_nL (loc' := fun v2_1 => [(0, .ref (E.2.2.2.1 + v0)), (2, .int v2_1)]) dX11_joined_3 rfl (Nat.le_of_ble_eq_true rfl) [1, 0] (fun _ => rfl) (fun v2_1 => ?_)
  refine zs_iconst (v := 0) dX11_joined_4 ciconst_0 ?_
  refine zs_istore_n (loc' := [(0, .ref (E.2.2.2.1 + v0)), (2, .int v2_1), (3, .int 0)]) dX11_joined_5 rfl (Nat.le_of_ble_eq_true rfl) [1, 2, 0] rfl ?_
  exact w_X11_joined_L6 E hE d hd _ _ _ _ _ _
theorem dX11_sets_0 : decode cX11_sets 0 = .ok (.iconst 0, 1) := by decide +kernel
theorem dX11_sets_1 : decode cX11_sets 1 = .ok (.istore_n 1, 1) := by decide +kernel
theorem dX11_sets_2 : decode cX11_sets 2 = .ok (.iconst 0, 1) := by decide +kernel
theorem dX11_sets_3 : decode cX11_sets 3 = .ok (.istore_n 2, 1) := by decide +kernel
theorem dX11_sets_4 : decode cX11_sets 4 = .ok (.iload_n 2, 1) := by decide +kernel
theorem dX11_sets_5 : decode cX11_sets 5 = .ok (.aload_n 0, 1) := by decide +kernel
theorem dX11_sets_6 : decode cX11_sets 6 = .ok (.getfield 101, 3) := by decide +kernel
theorem dX11_sets_9 : decode cX11_sets 9 = .ok (.if_icmp .ge 29, 3) := by decide +kernel
theorem dX11_sets_12 : decode cX11_sets 12 = .ok (.iload_n 1, 1) := by decide +kernel
theorem dX11_sets_13 : decode cX11_sets 13 = .ok (.aload_n 0, 1) := by decide +kernel
theorem dX11_sets_14 : decode cX11_sets 14 = .ok (.iload_n 2, 1) := by decide +kernel
theorem dX11_sets_15 : decode cX11_sets 15 = .ok (.invokevirtual 126, 3) := by decide +kernel
theorem dX11_sets_18 : decode cX11_sets 18 = .ok (.invokestatic 129, 3) := by decide +kernel
theorem dX11_sets_21 : decode cX11_sets 21 = .ok (.iload_n 2, 1) := by decide +kernel
theorem dX11_sets_22 : decode cX11_sets 22 = .ok (.if_icmp .ne 7, 3) := by decide +kernel
theorem dX11_sets_25 : decode cX11_sets 25 = .ok (.iconst 1, 1) := by decide +kernel
theorem dX11_sets_26 : decode cX11_sets 26 = .ok (.goto 4, 3) := by decide +kernel
theorem dX11_sets_29 : decode cX11_sets 29 = .ok (.iconst 0, 1) := by decide +kernel
theorem dX11_sets_30 : decode cX11_sets 30 = .ok (.iadd, 1) := by decide +kernel
theorem dX11_sets_31 : decode cX11_sets 31 = .ok (.istore_n 1, 1) := by decide +kernel
theorem dX11_sets_32 : decode cX11_sets 32 = .ok (.iinc 2 1, 3) := by decide +kernel
theorem dX11_sets_35 : decode cX11_sets 35 = .ok (.goto (-31), 3) := by decide +kernel
theorem dX11_sets_38 : decode cX11_sets 38 = .ok (.iload_n 1, 1) := by decide +kernel
theorem dX11_sets_39 : decode cX11_sets 39 = .ok (.ireturn, 1) := by decide +kernel
def fp_X11_sets_L4 (v0 : Nat) (M : zM) : Nat → Int32 → Int32 → Option (Int32)
  | 0, _, _ => none
  | n + 1, v1, v2 =>
    (zgI 9 M v0 0).bind fun (y1 : Int32) =>
    if v2 ≥ y1 then (
      some v1)
    else (
      (fp_X11_joined v0 v2 M).bind fun (y2 : Int32) =>
      (fp_X11_lowest y2).bind fun (y3 : Int32) =>
      zjn (fun (s4 : Int32) (s5 : Int32) =>
          lett ((s5 + s4)) fun (v1_6 : Int32) =>
          fp_X11_sets_L4 v0 M n v1_6 (v2 + 1))
        (fun j30 =>
          if y3 ≠ v2 then (
            j30 0 v1)
          else (
            j30 1 v1)))
def fp_X11_sets (v0 : Nat) (M : zM) : Option (Int32) :=
  zthis 9 M v0 (
    fp_X11_sets_L4 v0 M FU 0 0)
set_option maxHeartbeats 4000000 in
set_option maxRecDepth 100000 in
theorem th_X11_sets {v0 : Nat} {M : zM} {x0 : Int32} (h : fp_X11_sets v0 M = some x0) : v0 < zS M ∧ kd v0 = 9 := by
  unfold fp_X11_sets at h
  exact zthis_of h
set_option maxHeartbeats 4000000 in
set_option maxRecDepth 100000 in
theorem w_X11_sets_L4 (E : zEnv) (hE : zEok E) (d : Nat) (hd : 3 ≤ d) (x0 : Int32) (v0 : Nat) (M : zM)  : ∀ (n : Nat) (v1 : Int32) (v2 : Int32), zSy E mu_X11_sets d M (some (.int x0), M) x0 (fp_X11_sets_L4 v0 M n v1 v2) 4 [(0, .ref (E.2.2.2.1 + v0)), (1, .int v1), (2, .int v2)] [] M := by
  intro n
  induction n with
  | zero =>
    intro v1 v2
    rw [fp_X11_sets_L4]
    exact zs_none
  | succ n ih =>
    intro v1 v2
    rw [fp_X11_sets_L4]
    refine zs_iload_n dX11_sets_4 rfl 2 rfl ?_
    refine zs_aload_n dX11_sets_5 rfl 0 rfl ?_
    refine zs_getI dX11_sets_6 fl_X11_101 rfl (fun y1 => ?_)
    refine zs_icmp_ge dX11_sets_9 rfl ?_ ?_
    · refine zs_iload_n dX11_sets_38 rfl 1 rfl ?_
      exact zs_iretP dX11_sets_39 rfl
    refine zs_iload_n dX11_sets_12 rfl 1 rfl ?_
    refine zs_aload_n dX11_sets_13 rfl 0 rfl ?_
    refine zs_iload_n dX11_sets_14 rfl 2 rfl ?_
    refine zs_invVPI (rest := [.int v1]) [.int v2] dX11_sets_15 lk_X11_126 rfl (fun _ h => th_X11_joined h) (zd1 rfl hd) rfl (Nat.le_of_ble_eq_true rfl) (ct_X11_joined E hE _ (zdl rfl hd) _ _ _) (fun y2 => ?_)
    refine zs_invSPI (rest := [.int v1]) [.int y2] dX11_sets_18 lk_X11_129 rfl (zd1 rfl hd) rfl (Nat.le_of_ble_eq_true rfl) (ct_X11_lowest E hE _ (zdl rfl hd) _ _) (fun y3 => ?_)
    refine zs_iload_n dX11_sets_21 rfl 2 rfl ?_
    refine zs_jn (fun j30 => ∀ (s4 : Int32) (s5 : Int32), zSy E mu_X11_sets d M (some (.int x0), M) x0 (j30 s4 s5) 30 [(0, .ref (E.2.2.2.1 + v0)), (2, .int v2)] [.int s4, .int s5] M) (fun s4 s5 => ?_) (fun j30 hj30 => ?_)
    · refine zs_iadd dX11_sets_30 ?_
      refine zs_istore_nL (loc' := fun v1_6 => [(0, .ref (E.2.2.2.1 + v0)), (1, .int v1_6), (2, .int v2)]) dX11_sets_31 rfl (Nat.le_of_ble_eq_true rfl) [1, 0, 2] (fun _ => rfl) (fun v1_6 => ?_)
      refine zs_iinc (v := (v2 + 1)) (loc' := [(0, .ref (E.2.2.2.1 + v0)), (1, .int v1_6), (2, .int (v2 + 1))]) dX11_sets_32 2 rfl (by rfl) (Nat.le_of_ble_eq_true rfl) [1, 2, 0] rfl ?_
      refine zs_goto dX11_sets_35 rfl ?_
      exact ih v1_6 (v2 + 1)
    refine zs_icmp_ne dX11_sets_22 rfl ?_ ?_
    · refine zs_iconst (v := 0) dX11_sets_29 ciconst_0 ?_
      refine zs_sub (loc' := [(0, .ref (E.2.2.2.1 + v0)), (2, .int v2)]) [0, 2] rfl ?_
      exact hj30 0 v1
    refine zs_iconst (v := 1) dX11_sets_25 ciconst_1 ?_
    refine zs_goto dX11_sets_26 rfl ?_
    refine zs_sub (loc' := [(0, .ref (E.2.2.2.1 + v0)), (2, .int v2)]) [0, 2] rfl ?_
    exact hj30 1 v1
set_option maxHeartbeats 4000000 in
set_option maxRecDepth 100000 in
theorem ct_X11_sets (E : zEnv) (hE : zEok E) (d : Nat) (hd : 3 ≤ d) (v0 : Nat) (M : zM) (x0 : Int32) (hx : fp_X11_sets v0 M = some x0) : zCt E mu_X11_sets d [.ref (E.2.2.2.1 + v0)] M (some (.int x0), M) := by
  refine zCt_of (μ := mu_X11_sets) (t := fp_X11_sets v0 M) rfl rfl (Nat.le_of_ble_eq_true rfl) hx ?_
  change zSy E mu_X11_sets d M (some (.int x0), M) x0 (fp_X11_sets v0 M) 0 [(0, .ref (E.2.2.2.1 + v0))] [] M
  unfold fp_X11_sets
  refine zs_this (fun hth => ?_)
  refine zs_iconst (v := 0) dX11_sets_0 ciconst_0 ?_
  refine zs_istore_n (loc' := [(0, .ref (E.2.2.2.1 + v0)), (1, .int 0)]) dX11_sets_1 rfl (Nat.le_of_ble_eq_true rfl) [1, 0] rfl ?_
  refine zs_iconst (v := 0) dX11_sets_2 ciconst_0 ?_
  refine zs_istore_n (loc' := [(0, .ref (E.2.2.2.1 + v0)), (1, .int 0), (2, .int 0)]) dX11_sets_3 rfl (Nat.le_of_ble_eq_true rfl) [1, 2, 0] rfl ?_
  exact w_X11_sets_L4 E hE d hd _ _ _ _ _ _
theorem dX11_areJoined_0 : decode cX11_areJoined 0 = .ok (.aload_n 0, 1) := by decide +kernel
theorem dX11_areJoined_1 : decode cX11_areJoined 1 = .ok (.invokevirtual 132, 3) := by decide +kernel
theorem dX11_areJoined_4 : decode cX11_areJoined 4 = .ok (.iconst 2, 1) := by decide +kernel
theorem dX11_areJoined_5 : decode cX11_areJoined 5 = .ok (.if_icmp .ge 7, 3) := by decide +kernel
theorem dX11_areJoined_8 : decode cX11_areJoined 8 = .ok (.iconst 1, 1) := by decide +kernel
theorem dX11_areJoined_9 : decode cX11_areJoined 9 = .ok (.goto 4, 3) := by decide +kernel
theorem dX11_areJoined_12 : decode cX11_areJoined 12 = .ok (.iconst 0, 1) := by decide +kernel
theorem dX11_areJoined_13 : decode cX11_areJoined 13 = .ok (.ireturn, 1) := by decide +kernel
def fp_X11_areJoined (v0 : Nat) (M : zM) : Option (Int32) :=
  zthis 9 M v0 (
    (fp_X11_sets v0 M).bind fun (y1 : Int32) =>
    if y1 ≥ 2 then (
      some 0)
    else (
      some 1))
set_option maxHeartbeats 4000000 in
set_option maxRecDepth 100000 in
theorem th_X11_areJoined {v0 : Nat} {M : zM} {x0 : Int32} (h : fp_X11_areJoined v0 M = some x0) : v0 < zS M ∧ kd v0 = 9 := by
  unfold fp_X11_areJoined at h
  exact zthis_of h
set_option maxHeartbeats 4000000 in
set_option maxRecDepth 100000 in
theorem ct_X11_areJoined (E : zEnv) (hE : zEok E) (d : Nat) (hd : 4 ≤ d) (v0 : Nat) (M : zM) (x0 : Int32) (hx : fp_X11_areJoined v0 M = some x0) : zCt E mu_X11_areJoined d [.ref (E.2.2.2.1 + v0)] M (some (.int x0), M) := by
  refine zCt_of (μ := mu_X11_areJoined) (t := fp_X11_areJoined v0 M) rfl rfl (Nat.le_of_ble_eq_true rfl) hx ?_
  change zSy E mu_X11_areJoined d M (some (.int x0), M) x0 (fp_X11_areJoined v0 M) 0 [(0, .ref (E.2.2.2.1 + v0))] [] M
  unfold fp_X11_areJoined
  refine zs_this (fun hth => ?_)
  refine zs_aload_n dX11_areJoined_0 rfl 0 rfl ?_
  refine zs_invVPI (rest := []) [] dX11_areJoined_1 lk_X11_132 rfl (fun _ h => th_X11_sets h) (zd1 rfl hd) rfl (Nat.le_of_ble_eq_true rfl) (ct_X11_sets E hE _ (zdl rfl hd) _ _) (fun y1 => ?_)
  refine zs_iconst (v := 2) dX11_areJoined_4 ciconst_2 ?_
  refine zs_icmp_ge dX11_areJoined_5 rfl ?_ ?_
  · refine zs_iconst (v := 0) dX11_areJoined_12 ciconst_0 ?_
    exact zs_iretP dX11_areJoined_13 rfl
  refine zs_iconst (v := 1) dX11_areJoined_8 ciconst_1 ?_
  refine zs_goto dX11_areJoined_9 rfl ?_
  exact zs_iretP dX11_areJoined_13 rfl
theorem dX11_four_0 : decode cX11_four 0 = .ok (.iconst 3, 1) := by decide +kernel
theorem dX11_four_1 : decode cX11_four 1 = .ok (.istore_n 2, 1) := by decide +kernel
theorem dX11_four_2 : decode cX11_four 2 = .ok (.iload_n 2, 1) := by decide +kernel
theorem dX11_four_3 : decode cX11_four 3 = .ok (.ifCond .lt 35, 3) := by decide +kernel
theorem dX11_four_6 : decode cX11_four 6 = .ok (.aload_n 0, 1) := by decide +kernel
theorem dX11_four_7 : decode cX11_four 7 = .ok (.getfield 13, 3) := by decide +kernel
theorem dX11_four_10 : decode cX11_four 10 = .ok (.aload_n 0, 1) := by decide +kernel
theorem dX11_four_11 : decode cX11_four 11 = .ok (.getfield 135, 3) := by decide +kernel
theorem dX11_four_14 : decode cX11_four 14 = .ok (.iload_n 1, 1) := by decide +kernel
theorem dX11_four_15 : decode cX11_four 15 = .ok (.bipush 8, 2) := by decide +kernel
theorem dX11_four_17 : decode cX11_four 17 = .ok (.iload_n 2, 1) := by decide +kernel
theorem dX11_four_18 : decode cX11_four 18 = .ok (.imul, 1) := by decide +kernel
theorem dX11_four_19 : decode cX11_four 19 = .ok (.ishr, 1) := by decide +kernel
theorem dX11_four_20 : decode cX11_four 20 = .ok (.i2b, 1) := by decide +kernel
theorem dX11_four_21 : decode cX11_four 21 = .ok (.bastore, 1) := by decide +kernel
theorem dX11_four_22 : decode cX11_four 22 = .ok (.aload_n 0, 1) := by decide +kernel
theorem dX11_four_23 : decode cX11_four 23 = .ok (.dup, 1) := by decide +kernel
theorem dX11_four_24 : decode cX11_four 24 = .ok (.getfield 135, 3) := by decide +kernel
theorem dX11_four_27 : decode cX11_four 27 = .ok (.iconst 1, 1) := by decide +kernel
theorem dX11_four_28 : decode cX11_four 28 = .ok (.iadd, 1) := by decide +kernel
theorem dX11_four_29 : decode cX11_four 29 = .ok (.putfield 135, 3) := by decide +kernel
theorem dX11_four_32 : decode cX11_four 32 = .ok (.iinc 2 (-1), 3) := by decide +kernel
theorem dX11_four_35 : decode cX11_four 35 = .ok (.goto (-33), 3) := by decide +kernel
theorem dX11_four_38 : decode cX11_four 38 = .ok (.return_, 1) := by decide +kernel
def fp_X11_four_L2 (v0 : Nat) (v1 : Int32) : Nat → Int32 → zM → Option (zM)
  | 0, _, _ => none
  | n + 1, v2, M =>
    if v2 < 0 then (
      some M)
    else (
      (zgR 9 M v0 3).bind fun (y1 : Nat) =>
      (zgI 9 M v0 5).bind fun (y2 : Int32) =>
      (ztB M y1 y2 ((v1 >>> ((8 * v2) &&& 31)).toInt8.toInt32)).bind fun (M3 : zM) =>
      (zgI 9 M3 v0 5).bind fun (y4 : Int32) =>
      (zpI 9 M3 v0 5 (y4 + 1)).bind fun (M5 : zM) =>
      fp_X11_four_L2 v0 v1 n (v2 + (-1)) M5)
def fp_X11_four (v0 : Nat) (v1 : Int32) (M : zM) : Option (zM) :=
  zthis 9 M v0 (
    fp_X11_four_L2 v0 v1 FU 3 M)
set_option maxHeartbeats 4000000 in
set_option maxRecDepth 100000 in
theorem th_X11_four {v0 : Nat} {v1 : Int32} {M : zM} {x0 : zM} (h : fp_X11_four v0 v1 M = some x0) : v0 < zS M ∧ kd v0 = 9 := by
  unfold fp_X11_four at h
  exact zthis_of h
set_option maxHeartbeats 4000000 in
set_option maxRecDepth 100000 in
theorem w_X11_four_L2 (E : zEnv) (hE : zEok E) (d : Nat) (hd : 1 ≤ d) (M0 : zM) (x0 : zM) (v0 : Nat) (v1 : Int32)  : ∀ (n : Nat) (v2 : Int32) (M : zM), zSy E mu_X11_four d M0 (none, x0) x0 (fp_X11_four_L2 v0 v1 n v2 M) 2 [(0, .ref (E.2.2.2.1 + v0)), (1, .int v1), (2, .int v2)] [] M := by
  intro n
  induction n with
  | zero =>
    intro v2 M
    rw [fp_X11_four_L2]
    exact zs_none
  | succ n ih =>
    intro v2 M
    rw [fp_X11_four_L2]
    refine zs_iload_n dX11_four_2 rfl 2 rfl ?_
    refine zs_if_lt dX11_four_3 rfl ?_ ?_
    · exact zs_vret dX11_four_38 trivial
    refine zs_aload_n dX11_four_6 rfl 0 rfl ?_
    refine zs_getR dX11_four_7 fl_X11_13 rfl (fun y1 => ?_)
    refine zs_aload_n dX11_four_10 rfl 0 rfl ?_
    refine zs_getI dX11_four_11 fl_X11_135 rfl (fun y2 => ?_)
    refine zs_iload_n dX11_four_14 rfl 1 rfl ?_
    refine zs_bipush (v := 8) dX11_four_15 cbipush_8 ?_
    refine zs_iload_n dX11_four_17 rfl 2 rfl ?_
    refine zs_imul dX11_four_18 ?_
    refine zs_ishr dX11_four_19 ?_
    refine zs_i2b dX11_four_20 ?_
    refine zs_stB dX11_four_21 (fun M3 => ?_)
    refine zs_aload_n dX11_four_22 rfl 0 rfl ?_
    refine zs_dup dX11_four_23 rfl ?_
    refine zs_getI dX11_four_24 fl_X11_135 rfl (fun y4 => ?_)
    refine zs_iconst (v := 1) dX11_four_27 ciconst_1 ?_
    refine zs_iadd dX11_four_28 ?_
    refine zs_putI dX11_four_29 fl_X11_135 ft_X11 rfl rfl rfl rfl rfl (fun M5 => ?_)
    refine zs_iinc (v := (v2 + (-1))) (loc' := [(0, .ref (E.2.2.2.1 + v0)), (1, .int v1), (2, .int (v2 + (-1)))]) dX11_four_32 2 rfl (by rfl) (Nat.le_of_ble_eq_true rfl) [1, 2, 0] rfl ?_
    refine zs_goto dX11_four_35 rfl ?_
    exact ih (v2 + (-1)) M5
set_option maxHeartbeats 4000000 in
set_option maxRecDepth 100000 in
theorem ct_X11_four (E : zEnv) (hE : zEok E) (d : Nat) (hd : 1 ≤ d) (v0 : Nat) (v1 : Int32) (M : zM) (x0 : zM) (hx : fp_X11_four v0 v1 M = some x0) : zCt E mu_X11_four d [.ref (E.2.2.2.1 + v0), .int v1] M (none, x0) := by
  refine zCt_of (μ := mu_X11_four) (t := fp_X11_four v0 v1 M) rfl rfl (Nat.le_of_ble_eq_true rfl) hx ?_
  change zSy E mu_X11_four d M (none, x0) x0 (fp_X11_four v0 v1 M) 0 [(0, .ref (E.2.2.2.1 + v0)), (1, .int v1)] [] M
  unfold fp_X11_four
  refine zs_this (fun hth => ?_)
  refine zs_iconst (v := 3) dX11_four_0 ciconst_3 ?_
  refine zs_istore_n (loc' := [(0, .ref (E.2.2.2.1 + v0)), (1, .int v1), (2, .int 3)]) dX11_four_1 rfl (Nat.le_of_ble_eq_true rfl) [1, 2, 0] rfl ?_
  exact w_X11_four_L2 E hE d hd _ _ _ _ _ _ _
theorem dX11_feed_0 : decode cX11_feed 0 = .ok (.aload_n 0, 1) := by decide +kernel
theorem dX11_feed_1 : decode cX11_feed 1 = .ok (.getfield 135, 3) := by decide +kernel
theorem dX11_feed_4 : decode cX11_feed 4 = .ok (.sipush 180, 3) := by decide +kernel
theorem dX11_feed_7 : decode cX11_feed 7 = .ok (.if_icmp .le 5, 3) := by decide +kernel
theorem dX11_feed_10 : decode cX11_feed 10 = .ok (.iconst (-1), 1) := by decide +kernel
theorem dX11_feed_11 : decode cX11_feed 11 = .ok (.ireturn, 1) := by decide +kernel
theorem dX11_feed_12 : decode cX11_feed 12 = .ok (.aload_n 0, 1) := by decide +kernel
theorem dX11_feed_13 : decode cX11_feed 13 = .ok (.iload_n 1, 1) := by decide +kernel
theorem dX11_feed_14 : decode cX11_feed 14 = .ok (.invokevirtual 138, 3) := by decide +kernel
theorem dX11_feed_17 : decode cX11_feed 17 = .ok (.aload_n 0, 1) := by decide +kernel
theorem dX11_feed_18 : decode cX11_feed 18 = .ok (.iload_n 2, 1) := by decide +kernel
theorem dX11_feed_19 : decode cX11_feed 19 = .ok (.invokevirtual 138, 3) := by decide +kernel
theorem dX11_feed_22 : decode cX11_feed 22 = .ok (.aload_n 0, 1) := by decide +kernel
theorem dX11_feed_23 : decode cX11_feed 23 = .ok (.iload_n 3, 1) := by decide +kernel
theorem dX11_feed_24 : decode cX11_feed 24 = .ok (.invokevirtual 138, 3) := by decide +kernel
theorem dX11_feed_27 : decode cX11_feed 27 = .ok (.aload_n 0, 1) := by decide +kernel
theorem dX11_feed_28 : decode cX11_feed 28 = .ok (.iload 4, 2) := by decide +kernel
theorem dX11_feed_30 : decode cX11_feed 30 = .ok (.invokevirtual 138, 3) := by decide +kernel
theorem dX11_feed_33 : decode cX11_feed 33 = .ok (.aload_n 0, 1) := by decide +kernel
theorem dX11_feed_34 : decode cX11_feed 34 = .ok (.iload 5, 2) := by decide +kernel
theorem dX11_feed_36 : decode cX11_feed 36 = .ok (.invokevirtual 138, 3) := by decide +kernel
theorem dX11_feed_39 : decode cX11_feed 39 = .ok (.aload_n 0, 1) := by decide +kernel
theorem dX11_feed_40 : decode cX11_feed 40 = .ok (.getfield 135, 3) := by decide +kernel
theorem dX11_feed_43 : decode cX11_feed 43 = .ok (.ireturn, 1) := by decide +kernel
def fp_X11_feed (v0 : Nat) (v1 : Int32) (v2 : Int32) (v3 : Int32) (v4 : Int32) (v5 : Int32) (M : zM) : Option (Int32 × zM) :=
  zthis 9 M v0 (
    (zgI 9 M v0 5).bind fun (y1 : Int32) =>
    if y1 ≤ 180 then (
      (fp_X11_four v0 v1 M).bind fun (M2 : zM) =>
      (fp_X11_four v0 v2 M2).bind fun (M3 : zM) =>
      (fp_X11_four v0 v3 M3).bind fun (M4 : zM) =>
      (fp_X11_four v0 v4 M4).bind fun (M5 : zM) =>
      (fp_X11_four v0 v5 M5).bind fun (M6 : zM) =>
      (zgI 9 M6 v0 5).bind fun (y7 : Int32) =>
      some (y7, M6))
    else (
      some ((-1), M)))
set_option maxHeartbeats 4000000 in
set_option maxRecDepth 100000 in
theorem th_X11_feed {v0 : Nat} {v1 : Int32} {v2 : Int32} {v3 : Int32} {v4 : Int32} {v5 : Int32} {M : zM} {x0 : Int32 × zM} (h : fp_X11_feed v0 v1 v2 v3 v4 v5 M = some x0) : v0 < zS M ∧ kd v0 = 9 := by
  unfold fp_X11_feed at h
  exact zthis_of h
set_option maxHeartbeats 4000000 in
set_option maxRecDepth 100000 in
theorem ct_X11_feed (E : zEnv) (hE : zEok E) (d : Nat) (hd : 2 ≤ d) (v0 : Nat) (v1 : Int32) (v2 : Int32) (v3 : Int32) (v4 : Int32) (v5 : Int32) (M : zM) (x0 : Int32 × zM) (hx : fp_X11_feed v0 v1 v2 v3 v4 v5 M = some x0) : zCt E mu_X11_feed d [.ref (E.2.2.2.1 + v0), .int v1, .int v2, .int v3, .int v4, .int v5] M (some (.int x0.1), x0.2) := by
  refine zCt_of (μ := mu_X11_feed) (t := fp_X11_feed v0 v1 v2 v3 v4 v5 M) rfl rfl (Nat.le_of_ble_eq_true rfl) hx ?_
  change zSy E mu_X11_feed d M (some (.int x0.1), x0.2) x0 (fp_X11_feed v0 v1 v2 v3 v4 v5 M) 0 [(0, .ref (E.2.2.2.1 + v0)), (1, .int v1), (2, .int v2), (3, .int v3), (4, .int v4), (5, .int v5)] [] M
  unfold fp_X11_feed
  refine zs_this (fun hth => ?_)
  refine zs_aload_n dX11_feed_0 rfl 0 rfl ?_
  refine zs_getI dX11_feed_1 fl_X11_135 rfl (fun y1 => ?_)
  refine zs_sipush (v := 180) dX11_feed_4 csipush_180 ?_
  refine zs_icmp_le dX11_feed_7 rfl ?_ ?_
  · refine zs_aload_n dX11_feed_12 rfl 0 rfl ?_
    refine zs_iload_n dX11_feed_13 rfl 1 rfl ?_
    refine zs_invVWV (rest := []) [.int v1] dX11_feed_14 lk_X11_138 rfl (fun _ h => th_X11_four h) (zd1 rfl hd) rfl (Nat.le_of_ble_eq_true rfl) (ct_X11_four E hE _ (zdl rfl hd) _ _ _) (fun M2 => ?_)
    refine zs_aload_n dX11_feed_17 rfl 0 rfl ?_
    refine zs_iload_n dX11_feed_18 rfl 2 rfl ?_
    refine zs_invVWV (rest := []) [.int v2] dX11_feed_19 lk_X11_138 rfl (fun _ h => th_X11_four h) (zd1 rfl hd) rfl (Nat.le_of_ble_eq_true rfl) (ct_X11_four E hE _ (zdl rfl hd) _ _ _) (fun M3 => ?_)
    refine zs_aload_n dX11_feed_22 rfl 0 rfl ?_
    refine zs_iload_n dX11_feed_23 rfl 3 rfl ?_
    refine zs_invVWV (rest := []) [.int v3] dX11_feed_24 lk_X11_138 rfl (fun _ h => th_X11_four h) (zd1 rfl hd) rfl (Nat.le_of_ble_eq_true rfl) (ct_X11_four E hE _ (zdl rfl hd) _ _ _) (fun M4 => ?_)
    refine zs_aload_n dX11_feed_27 rfl 0 rfl ?_
    refine zs_iload dX11_feed_28 4 rfl ?_
    refine zs_invVWV (rest := []) [.int v4] dX11_feed_30 lk_X11_138 rfl (fun _ h => th_X11_four h) (zd1 rfl hd) rfl (Nat.le_of_ble_eq_true rfl) (ct_X11_four E hE _ (zdl rfl hd) _ _ _) (fun M5 => ?_)
    refine zs_aload_n dX11_feed_33 rfl 0 rfl ?_
    refine zs_iload dX11_feed_34 5 rfl ?_
    refine zs_invVWV (rest := []) [.int v5] dX11_feed_36 lk_X11_138 rfl (fun _ h => th_X11_four h) (zd1 rfl hd) rfl (Nat.le_of_ble_eq_true rfl) (ct_X11_four E hE _ (zdl rfl hd) _ _ _) (fun M6 => ?_)
    refine zs_aload_n dX11_feed_39 rfl 0 rfl ?_
    refine zs_getI dX11_feed_40 fl_X11_135 rfl (fun y7 => ?_)
    exact zs_iretW dX11_feed_43 rfl
  refine zs_iconst (v := (-1)) dX11_feed_10 ciconst_m1 ?_
  exact zs_iretW dX11_feed_11 rfl
theorem dX11_byteAt_0 : decode cX11_byteAt 0 = .ok (.iload_n 1, 1) := by decide +kernel
theorem dX11_byteAt_1 : decode cX11_byteAt 1 = .ok (.aload_n 0, 1) := by decide +kernel
theorem dX11_byteAt_2 : decode cX11_byteAt 2 = .ok (.getfield 141, 3) := by decide +kernel
theorem dX11_byteAt_5 : decode cX11_byteAt 5 = .ok (.if_icmp .ge 16, 3) := by decide +kernel
theorem dX11_byteAt_8 : decode cX11_byteAt 8 = .ok (.aload_n 0, 1) := by decide +kernel
theorem dX11_byteAt_9 : decode cX11_byteAt 9 = .ok (.getfield 17, 3) := by decide +kernel
theorem dX11_byteAt_12 : decode cX11_byteAt 12 = .ok (.iload_n 1, 1) := by decide +kernel
theorem dX11_byteAt_13 : decode cX11_byteAt 13 = .ok (.baload, 1) := by decide +kernel
theorem dX11_byteAt_14 : decode cX11_byteAt 14 = .ok (.sipush 255, 3) := by decide +kernel
theorem dX11_byteAt_17 : decode cX11_byteAt 17 = .ok (.iand, 1) := by decide +kernel
theorem dX11_byteAt_18 : decode cX11_byteAt 18 = .ok (.goto 4, 3) := by decide +kernel
theorem dX11_byteAt_21 : decode cX11_byteAt 21 = .ok (.iconst (-1), 1) := by decide +kernel
theorem dX11_byteAt_22 : decode cX11_byteAt 22 = .ok (.ireturn, 1) := by decide +kernel
def fp_X11_byteAt (v0 : Nat) (v1 : Int32) (M : zM) : Option (Int32) :=
  zthis 9 M v0 (
    (zgI 9 M v0 6).bind fun (y1 : Int32) =>
    if v1 ≥ y1 then (
      some (-1))
    else (
      (zgR 9 M v0 4).bind fun (y2 : Nat) =>
      (zlI 102 M y2 v1).bind fun (y3 : Int32) =>
      some (y3 &&& 255)))
set_option maxHeartbeats 4000000 in
set_option maxRecDepth 100000 in
theorem th_X11_byteAt {v0 : Nat} {v1 : Int32} {M : zM} {x0 : Int32} (h : fp_X11_byteAt v0 v1 M = some x0) : v0 < zS M ∧ kd v0 = 9 := by
  unfold fp_X11_byteAt at h
  exact zthis_of h
set_option maxHeartbeats 4000000 in
set_option maxRecDepth 100000 in
theorem ct_X11_byteAt (E : zEnv) (hE : zEok E) (d : Nat) (hd : 1 ≤ d) (v0 : Nat) (v1 : Int32) (M : zM) (x0 : Int32) (hx : fp_X11_byteAt v0 v1 M = some x0) : zCt E mu_X11_byteAt d [.ref (E.2.2.2.1 + v0), .int v1] M (some (.int x0), M) := by
  refine zCt_of (μ := mu_X11_byteAt) (t := fp_X11_byteAt v0 v1 M) rfl rfl (Nat.le_of_ble_eq_true rfl) hx ?_
  change zSy E mu_X11_byteAt d M (some (.int x0), M) x0 (fp_X11_byteAt v0 v1 M) 0 [(0, .ref (E.2.2.2.1 + v0)), (1, .int v1)] [] M
  unfold fp_X11_byteAt
  refine zs_this (fun hth => ?_)
  refine zs_iload_n dX11_byteAt_0 rfl 1 rfl ?_
  refine zs_aload_n dX11_byteAt_1 rfl 0 rfl ?_
  refine zs_getI dX11_byteAt_2 fl_X11_141 rfl (fun y1 => ?_)
  refine zs_icmp_ge dX11_byteAt_5 rfl ?_ ?_
  · refine zs_iconst (v := (-1)) dX11_byteAt_21 ciconst_m1 ?_
    exact zs_iretP dX11_byteAt_22 rfl
  refine zs_aload_n dX11_byteAt_8 rfl 0 rfl ?_
  refine zs_getR dX11_byteAt_9 fl_X11_17 rfl (fun y2 => ?_)
  refine zs_iload_n dX11_byteAt_12 rfl 1 rfl ?_
  refine zs_ldB dX11_byteAt_13 (fun y3 => ?_)
  refine zs_sipush (v := 255) dX11_byteAt_14 csipush_255 ?_
  refine zs_iand dX11_byteAt_17 ?_
  refine zs_goto dX11_byteAt_18 rfl ?_
  exact zs_iretP dX11_byteAt_22 rfl
theorem dX11_isSmall_0 : decode cX11_isSmall 0 = .ok (.iload_n 0, 1) := by decide +kernel
theorem dX11_isSmall_1 : decode cX11_isSmall 1 = .ok (.bipush 97, 2) := by decide +kernel
theorem dX11_isSmall_3 : decode cX11_isSmall 3 = .ok (.if_icmp .lt 13, 3) := by decide +kernel
theorem dX11_isSmall_6 : decode cX11_isSmall 6 = .ok (.iload_n 0, 1) := by decide +kernel
theorem dX11_isSmall_7 : decode cX11_isSmall 7 = .ok (.bipush 122, 2) := by decide +kernel
theorem dX11_isSmall_9 : decode cX11_isSmall 9 = .ok (.if_icmp .gt 7, 3) := by decide +kernel
theorem dX11_isSmall_12 : decode cX11_isSmall 12 = .ok (.iconst 1, 1) := by decide +kernel
theorem dX11_isSmall_13 : decode cX11_isSmall 13 = .ok (.goto 4, 3) := by decide +kernel
theorem dX11_isSmall_16 : decode cX11_isSmall 16 = .ok (.iconst 0, 1) := by decide +kernel
theorem dX11_isSmall_17 : decode cX11_isSmall 17 = .ok (.ireturn, 1) := by decide +kernel
def fp_X11_isSmall (v0 : Int32) : Option (Int32) :=
  if v0 < 97 then (
    some 0)
  else (
    if v0 > 122 then (
      some 0)
    else (
      some 1))
set_option maxHeartbeats 4000000 in
set_option maxRecDepth 100000 in
theorem ct_X11_isSmall (E : zEnv) (hE : zEok E) (d : Nat) (hd : 1 ≤ d) (v0 : Int32) (M : zM) (x0 : Int32) (hx : fp_X11_isSmall v0 = some x0) : zCt E mu_X11_isSmall d [.int v0] M (some (.int x0), M) := by
  refine zCt_of (μ := mu_X11_isSmall) (t := fp_X11_isSmall v0) rfl rfl (Nat.le_of_ble_eq_true rfl) hx ?_
  change zSy E mu_X11_isSmall d M (some (.int x0), M) x0 (fp_X11_isSmall v0) 0 [(0, .int v0)] [] M
  unfold fp_X11_isSmall
  refine zs_iload_n dX11_isSmall_0 rfl 0 rfl ?_
  refine zs_bipush (v := 97) dX11_isSmall_1 cbipush_97 ?_
  refine zs_icmp_lt dX11_isSmall_3 rfl ?_ ?_
  · refine zs_iconst (v := 0) dX11_isSmall_16 ciconst_0 ?_
    exact zs_iretP dX11_isSmall_17 rfl
  refine zs_iload_n dX11_isSmall_6 rfl 0 rfl ?_
  refine zs_bipush (v := 122) dX11_isSmall_7 cbipush_122 ?_
  refine zs_icmp_gt dX11_isSmall_9 rfl ?_ ?_
  · refine zs_iconst (v := 0) dX11_isSmall_16 ciconst_0 ?_
    exact zs_iretP dX11_isSmall_17 rfl
  refine zs_iconst (v := 1) dX11_isSmall_12 ciconst_1 ?_
  refine zs_goto dX11_isSmall_13 rfl ?_
  exact zs_iretP dX11_isSmall_17 rfl
theorem dX11_isDigit_0 : decode cX11_isDigit 0 = .ok (.iload_n 0, 1) := by decide +kernel
theorem dX11_isDigit_1 : decode cX11_isDigit 1 = .ok (.bipush 48, 2) := by decide +kernel
theorem dX11_isDigit_3 : decode cX11_isDigit 3 = .ok (.if_icmp .lt 13, 3) := by decide +kernel
theorem dX11_isDigit_6 : decode cX11_isDigit 6 = .ok (.iload_n 0, 1) := by decide +kernel
theorem dX11_isDigit_7 : decode cX11_isDigit 7 = .ok (.bipush 57, 2) := by decide +kernel
theorem dX11_isDigit_9 : decode cX11_isDigit 9 = .ok (.if_icmp .gt 7, 3) := by decide +kernel
theorem dX11_isDigit_12 : decode cX11_isDigit 12 = .ok (.iconst 1, 1) := by decide +kernel
theorem dX11_isDigit_13 : decode cX11_isDigit 13 = .ok (.goto 4, 3) := by decide +kernel
theorem dX11_isDigit_16 : decode cX11_isDigit 16 = .ok (.iconst 0, 1) := by decide +kernel
theorem dX11_isDigit_17 : decode cX11_isDigit 17 = .ok (.ireturn, 1) := by decide +kernel
def fp_X11_isDigit (v0 : Int32) : Option (Int32) :=
  if v0 < 48 then (
    some 0)
  else (
    if v0 > 57 then (
      some 0)
    else (
      some 1))
set_option maxHeartbeats 4000000 in
set_option maxRecDepth 100000 in
theorem ct_X11_isDigit (E : zEnv) (hE : zEok E) (d : Nat) (hd : 1 ≤ d) (v0 : Int32) (M : zM) (x0 : Int32) (hx : fp_X11_isDigit v0 = some x0) : zCt E mu_X11_isDigit d [.int v0] M (some (.int x0), M) := by
  refine zCt_of (μ := mu_X11_isDigit) (t := fp_X11_isDigit v0) rfl rfl (Nat.le_of_ble_eq_true rfl) hx ?_
  change zSy E mu_X11_isDigit d M (some (.int x0), M) x0 (fp_X11_isDigit v0) 0 [(0, .int v0)] [] M
  unfold fp_X11_isDigit
  refine zs_iload_n dX11_isDigit_0 rfl 0 rfl ?_
  refine zs_bipush (v := 48) dX11_isDigit_1 cbipush_48 ?_
  refine zs_icmp_lt dX11_isDigit_3 rfl ?_ ?_
  · refine zs_iconst (v := 0) dX11_isDigit_16 ciconst_0 ?_
    exact zs_iretP dX11_isDigit_17 rfl
  refine zs_iload_n dX11_isDigit_6 rfl 0 rfl ?_
  refine zs_bipush (v := 57) dX11_isDigit_7 cbipush_57 ?_
  refine zs_icmp_gt dX11_isDigit_9 rfl ?_ ?_
  · refine zs_iconst (v := 0) dX11_isDigit_16 ciconst_0 ?_
    exact zs_iretP dX11_isDigit_17 rfl
  refine zs_iconst (v := 1) dX11_isDigit_12 ciconst_1 ?_
  refine zs_goto dX11_isDigit_13 rfl ?_
  exact zs_iretP dX11_isDigit_17 rfl
theorem dX11_ahead_0 : decode cX11_ahead 0 = .ok (.aload_n 0, 1) := by decide +kernel
theorem dX11_ahead_1 : decode cX11_ahead 1 = .ok (.aload_n 0, 1) := by decide +kernel
theorem dX11_ahead_2 : decode cX11_ahead 2 = .ok (.getfield 144, 3) := by decide +kernel
theorem dX11_ahead_5 : decode cX11_ahead 5 = .ok (.invokevirtual 147, 3) := by decide +kernel
theorem dX11_ahead_8 : decode cX11_ahead 8 = .ok (.bipush 32, 2) := by decide +kernel
theorem dX11_ahead_10 : decode cX11_ahead 10 = .ok (.if_icmp .eq 16, 3) := by decide +kernel
theorem dX11_ahead_13 : decode cX11_ahead 13 = .ok (.aload_n 0, 1) := by decide +kernel
theorem dX11_ahead_14 : decode cX11_ahead 14 = .ok (.aload_n 0, 1) := by decide +kernel
theorem dX11_ahead_15 : decode cX11_ahead 15 = .ok (.getfield 144, 3) := by decide +kernel
theorem dX11_ahead_18 : decode cX11_ahead 18 = .ok (.invokevirtual 147, 3) := by decide +kernel
theorem dX11_ahead_21 : decode cX11_ahead 21 = .ok (.bipush 10, 2) := by decide +kernel
theorem dX11_ahead_23 : decode cX11_ahead 23 = .ok (.if_icmp .ne 16, 3) := by decide +kernel
theorem dX11_ahead_26 : decode cX11_ahead 26 = .ok (.aload_n 0, 1) := by decide +kernel
theorem dX11_ahead_27 : decode cX11_ahead 27 = .ok (.dup, 1) := by decide +kernel
theorem dX11_ahead_28 : decode cX11_ahead 28 = .ok (.getfield 144, 3) := by decide +kernel
theorem dX11_ahead_31 : decode cX11_ahead 31 = .ok (.iconst 1, 1) := by decide +kernel
theorem dX11_ahead_32 : decode cX11_ahead 32 = .ok (.iadd, 1) := by decide +kernel
theorem dX11_ahead_33 : decode cX11_ahead 33 = .ok (.putfield 144, 3) := by decide +kernel
theorem dX11_ahead_36 : decode cX11_ahead 36 = .ok (.goto (-36), 3) := by decide +kernel
theorem dX11_ahead_39 : decode cX11_ahead 39 = .ok (.aload_n 0, 1) := by decide +kernel
theorem dX11_ahead_40 : decode cX11_ahead 40 = .ok (.aload_n 0, 1) := by decide +kernel
theorem dX11_ahead_41 : decode cX11_ahead 41 = .ok (.getfield 144, 3) := by decide +kernel
theorem dX11_ahead_44 : decode cX11_ahead 44 = .ok (.putfield 150, 3) := by decide +kernel
theorem dX11_ahead_47 : decode cX11_ahead 47 = .ok (.aload_n 0, 1) := by decide +kernel
theorem dX11_ahead_48 : decode cX11_ahead 48 = .ok (.aload_n 0, 1) := by decide +kernel
theorem dX11_ahead_49 : decode cX11_ahead 49 = .ok (.getfield 144, 3) := by decide +kernel
theorem dX11_ahead_52 : decode cX11_ahead 52 = .ok (.invokevirtual 147, 3) := by decide +kernel
theorem dX11_ahead_55 : decode cX11_ahead 55 = .ok (.istore_n 1, 1) := by decide +kernel
theorem dX11_ahead_56 : decode cX11_ahead 56 = .ok (.iload_n 1, 1) := by decide +kernel
theorem dX11_ahead_57 : decode cX11_ahead 57 = .ok (.iconst (-1), 1) := by decide +kernel
theorem dX11_ahead_58 : decode cX11_ahead 58 = .ok (.if_icmp .ne 9, 3) := by decide +kernel
theorem dX11_ahead_61 : decode cX11_ahead 61 = .ok (.aload_n 0, 1) := by decide +kernel
theorem dX11_ahead_62 : decode cX11_ahead 62 = .ok (.iconst 0, 1) := by decide +kernel
theorem dX11_ahead_63 : decode cX11_ahead 63 = .ok (.putfield 153, 3) := by decide +kernel
theorem dX11_ahead_66 : decode cX11_ahead 66 = .ok (.return_, 1) := by decide +kernel
theorem dX11_ahead_67 : decode cX11_ahead 67 = .ok (.aload_n 0, 1) := by decide +kernel
theorem dX11_ahead_68 : decode cX11_ahead 68 = .ok (.dup, 1) := by decide +kernel
theorem dX11_ahead_69 : decode cX11_ahead 69 = .ok (.getfield 144, 3) := by decide +kernel
theorem dX11_ahead_72 : decode cX11_ahead 72 = .ok (.iconst 1, 1) := by decide +kernel
theorem dX11_ahead_73 : decode cX11_ahead 73 = .ok (.iadd, 1) := by decide +kernel
theorem dX11_ahead_74 : decode cX11_ahead 74 = .ok (.putfield 144, 3) := by decide +kernel
theorem dX11_ahead_77 : decode cX11_ahead 77 = .ok (.aload_n 0, 1) := by decide +kernel
theorem dX11_ahead_78 : decode cX11_ahead 78 = .ok (.iload_n 1, 1) := by decide +kernel
theorem dX11_ahead_79 : decode cX11_ahead 79 = .ok (.invokestatic 156, 3) := by decide +kernel
theorem dX11_ahead_82 : decode cX11_ahead 82 = .ok (.ifCond .eq 7, 3) := by decide +kernel
theorem dX11_ahead_85 : decode cX11_ahead 85 = .ok (.iconst 2, 1) := by decide +kernel
theorem dX11_ahead_86 : decode cX11_ahead 86 = .ok (.goto 25, 3) := by decide +kernel
theorem dX11_ahead_89 : decode cX11_ahead 89 = .ok (.iload_n 1, 1) := by decide +kernel
theorem dX11_ahead_90 : decode cX11_ahead 90 = .ok (.invokestatic 160, 3) := by decide +kernel
theorem dX11_ahead_93 : decode cX11_ahead 93 = .ok (.ifCond .eq 7, 3) := by decide +kernel
theorem dX11_ahead_96 : decode cX11_ahead 96 = .ok (.iconst 3, 1) := by decide +kernel
theorem dX11_ahead_97 : decode cX11_ahead 97 = .ok (.goto 14, 3) := by decide +kernel
theorem dX11_ahead_100 : decode cX11_ahead 100 = .ok (.iload_n 1, 1) := by decide +kernel
theorem dX11_ahead_101 : decode cX11_ahead 101 = .ok (.bipush 59, 2) := by decide +kernel
theorem dX11_ahead_103 : decode cX11_ahead 103 = .ok (.if_icmp .ne 7, 3) := by decide +kernel
theorem dX11_ahead_106 : decode cX11_ahead 106 = .ok (.iconst 4, 1) := by decide +kernel
theorem dX11_ahead_107 : decode cX11_ahead 107 = .ok (.goto 4, 3) := by decide +kernel
theorem dX11_ahead_110 : decode cX11_ahead 110 = .ok (.iconst 1, 1) := by decide +kernel
theorem dX11_ahead_111 : decode cX11_ahead 111 = .ok (.putfield 153, 3) := by decide +kernel
theorem dX11_ahead_114 : decode cX11_ahead 114 = .ok (.aload_n 0, 1) := by decide +kernel
theorem dX11_ahead_115 : decode cX11_ahead 115 = .ok (.getfield 153, 3) := by decide +kernel
theorem dX11_ahead_118 : decode cX11_ahead 118 = .ok (.iconst 2, 1) := by decide +kernel
theorem dX11_ahead_119 : decode cX11_ahead 119 = .ok (.if_icmp .ne 30, 3) := by decide +kernel
theorem dX11_ahead_122 : decode cX11_ahead 122 = .ok (.aload_n 0, 1) := by decide +kernel
theorem dX11_ahead_123 : decode cX11_ahead 123 = .ok (.aload_n 0, 1) := by decide +kernel
theorem dX11_ahead_124 : decode cX11_ahead 124 = .ok (.getfield 144, 3) := by decide +kernel
theorem dX11_ahead_127 : decode cX11_ahead 127 = .ok (.invokevirtual 147, 3) := by decide +kernel
theorem dX11_ahead_130 : decode cX11_ahead 130 = .ok (.invokestatic 156, 3) := by decide +kernel
theorem dX11_ahead_133 : decode cX11_ahead 133 = .ok (.ifCond .eq 16, 3) := by decide +kernel
theorem dX11_ahead_136 : decode cX11_ahead 136 = .ok (.aload_n 0, 1) := by decide +kernel
theorem dX11_ahead_137 : decode cX11_ahead 137 = .ok (.dup, 1) := by decide +kernel
theorem dX11_ahead_138 : decode cX11_ahead 138 = .ok (.getfield 144, 3) := by decide +kernel
theorem dX11_ahead_141 : decode cX11_ahead 141 = .ok (.iconst 1, 1) := by decide +kernel
theorem dX11_ahead_142 : decode cX11_ahead 142 = .ok (.iadd, 1) := by decide +kernel
theorem dX11_ahead_143 : decode cX11_ahead 143 = .ok (.putfield 144, 3) := by decide +kernel
theorem dX11_ahead_146 : decode cX11_ahead 146 = .ok (.goto (-32), 3) := by decide +kernel
theorem dX11_ahead_149 : decode cX11_ahead 149 = .ok (.aload_n 0, 1) := by decide +kernel
theorem dX11_ahead_150 : decode cX11_ahead 150 = .ok (.getfield 153, 3) := by decide +kernel
theorem dX11_ahead_153 : decode cX11_ahead 153 = .ok (.iconst 3, 1) := by decide +kernel
theorem dX11_ahead_154 : decode cX11_ahead 154 = .ok (.if_icmp .ne 17, 3) := by decide +kernel
theorem dX11_ahead_157 : decode cX11_ahead 157 = .ok (.aload_n 0, 1) := by decide +kernel
theorem dX11_ahead_158 : decode cX11_ahead 158 = .ok (.aload_n 0, 1) := by decide +kernel
theorem dX11_ahead_159 : decode cX11_ahead 159 = .ok (.getfield 144, 3) := by decide +kernel
theorem dX11_ahead_162 : decode cX11_ahead 162 = .ok (.invokevirtual 147, 3) := by decide +kernel
theorem dX11_ahead_165 : decode cX11_ahead 165 = .ok (.invokestatic 160, 3) := by decide +kernel
theorem dX11_ahead_168 : decode cX11_ahead 168 = .ok (.ifCond .ne 4, 3) := by decide +kernel
theorem dX11_ahead_171 : decode cX11_ahead 171 = .ok (.return_, 1) := by decide +kernel
theorem dX11_ahead_172 : decode cX11_ahead 172 = .ok (.aload_n 0, 1) := by decide +kernel
theorem dX11_ahead_173 : decode cX11_ahead 173 = .ok (.iconst 1, 1) := by decide +kernel
theorem dX11_ahead_174 : decode cX11_ahead 174 = .ok (.putfield 153, 3) := by decide +kernel
theorem dX11_ahead_177 : decode cX11_ahead 177 = .ok (.aload_n 0, 1) := by decide +kernel
theorem dX11_ahead_178 : decode cX11_ahead 178 = .ok (.aload_n 0, 1) := by decide +kernel
theorem dX11_ahead_179 : decode cX11_ahead 179 = .ok (.getfield 144, 3) := by decide +kernel
theorem dX11_ahead_182 : decode cX11_ahead 182 = .ok (.invokevirtual 147, 3) := by decide +kernel
theorem dX11_ahead_185 : decode cX11_ahead 185 = .ok (.invokestatic 160, 3) := by decide +kernel
theorem dX11_ahead_188 : decode cX11_ahead 188 = .ok (.ifCond .eq 16, 3) := by decide +kernel
theorem dX11_ahead_191 : decode cX11_ahead 191 = .ok (.aload_n 0, 1) := by decide +kernel
theorem dX11_ahead_192 : decode cX11_ahead 192 = .ok (.dup, 1) := by decide +kernel
theorem dX11_ahead_193 : decode cX11_ahead 193 = .ok (.getfield 144, 3) := by decide +kernel
theorem dX11_ahead_196 : decode cX11_ahead 196 = .ok (.iconst 1, 1) := by decide +kernel
theorem dX11_ahead_197 : decode cX11_ahead 197 = .ok (.iadd, 1) := by decide +kernel
theorem dX11_ahead_198 : decode cX11_ahead 198 = .ok (.putfield 144, 3) := by decide +kernel
theorem dX11_ahead_201 : decode cX11_ahead 201 = .ok (.goto (-24), 3) := by decide +kernel
theorem dX11_ahead_204 : decode cX11_ahead 204 = .ok (.return_, 1) := by decide +kernel
def fp_X11_ahead_L0 (k39 : zM → Option (zM)) (v0 : Nat) : Nat → zM → Option (zM)
  | 0, _ => none
  | n + 1, M =>
    (zgI 9 M v0 9).bind fun (y5 : Int32) =>
    (fp_X11_byteAt v0 y5 M).bind fun (y6 : Int32) =>
    zjn (
        (zgI 9 M v0 9).bind fun (y7 : Int32) =>
        (zpI 9 M v0 9 (y7 + 1)).bind fun (M8 : zM) =>
        fp_X11_ahead_L0 k39 v0 n M8)
      (fun j26 =>
        if y6 = 32 then (
          j26)
        else (
          (zgI 9 M v0 9).bind fun (y9 : Int32) =>
          (fp_X11_byteAt v0 y9 M).bind fun (y10 : Int32) =>
          if y10 ≠ 10 then (
            k39 M)
          else (
            j26)))
def fp_X11_ahead_L114 (k149 : zM → Option (zM)) (v0 : Nat) : Nat → zM → Option (zM)
  | 0, _ => none
  | n + 1, M =>
    (zgI 9 M v0 7).bind fun (y22 : Int32) =>
    if y22 ≠ 2 then (
      k149 M)
    else (
      (zgI 9 M v0 9).bind fun (y23 : Int32) =>
      (fp_X11_byteAt v0 y23 M).bind fun (y24 : Int32) =>
      (fp_X11_isSmall y24).bind fun (y25 : Int32) =>
      if y25 = 0 then (
        k149 M)
      else (
        (zgI 9 M v0 9).bind fun (y26 : Int32) =>
        (zpI 9 M v0 9 (y26 + 1)).bind fun (M27 : zM) =>
        fp_X11_ahead_L114 k149 v0 n M27))
def fp_X11_ahead_L177 (v0 : Nat) : Nat → zM → Option (zM)
  | 0, _ => none
  | n + 1, M =>
    (zgI 9 M v0 9).bind fun (y34 : Int32) =>
    (fp_X11_byteAt v0 y34 M).bind fun (y35 : Int32) =>
    (fp_X11_isDigit y35).bind fun (y36 : Int32) =>
    if y36 = 0 then (
      some M)
    else (
      (zgI 9 M v0 9).bind fun (y37 : Int32) =>
      (zpI 9 M v0 9 (y37 + 1)).bind fun (M38 : zM) =>
      fp_X11_ahead_L177 v0 n M38)
def fp_X11_ahead (v0 : Nat) (M : zM) : Option (zM) :=
  zthis 9 M v0 (
    (zgI 9 M v0 9).bind fun (y1 : Int32) =>
    (fp_X11_byteAt v0 y1 M).bind fun (y2 : Int32) =>
    if y2 = 32 then (
      (zgI 9 M v0 9).bind fun (y3 : Int32) =>
      (zpI 9 M v0 9 (y3 + 1)).bind fun (M4 : zM) =>
      fp_X11_ahead_L0
        (fun M11 =>
          (zgI 9 M11 v0 9).bind fun (y12 : Int32) =>
          (zpI 9 M11 v0 8 y12).bind fun (M13 : zM) =>
          (zgI 9 M13 v0 9).bind fun (y14 : Int32) =>
          (fp_X11_byteAt v0 y14 M13).bind fun (y15 : Int32) =>
          if y15 ≠ (-1) then (
            (zgI 9 M13 v0 9).bind fun (y16 : Int32) =>
            (zpI 9 M13 v0 9 (y16 + 1)).bind fun (M17 : zM) =>
            (fp_X11_isSmall y15).bind fun (y18 : Int32) =>
            zjn (fun (s19 : Int32) (s20 : Nat) =>
                (zpI 9 M17 s20 7 s19).bind fun (M21 : zM) =>
                fp_X11_ahead_L114
                  (fun M28 =>
                    (zgI 9 M28 v0 7).bind fun (y29 : Int32) =>
                    if y29 ≠ 3 then (
                      some M28)
                    else (
                      (zgI 9 M28 v0 9).bind fun (y30 : Int32) =>
                      (fp_X11_byteAt v0 y30 M28).bind fun (y31 : Int32) =>
                      (fp_X11_isDigit y31).bind fun (y32 : Int32) =>
                      if y32 ≠ 0 then (
                        (zpI 9 M28 v0 7 1).bind fun (M33 : zM) =>
                        fp_X11_ahead_L177 v0 FU M33)
                      else (
                        some M28))) v0 FU M21)
              (fun j111 =>
                if y18 = 0 then (
                  (fp_X11_isDigit y15).bind fun (y39 : Int32) =>
                  if y39 = 0 then (
                    if y15 ≠ 59 then (
                      j111 1 v0)
                    else (
                      j111 4 v0))
                  else (
                    j111 3 v0))
                else (
                  j111 2 v0)))
          else (
            (zpI 9 M13 v0 7 0).bind fun (M40 : zM) =>
            some M40)) v0 FU M4)
    else (
      (zgI 9 M v0 9).bind fun (y41 : Int32) =>
      (fp_X11_byteAt v0 y41 M).bind fun (y42 : Int32) =>
      if y42 ≠ 10 then (
        (zgI 9 M v0 9).bind fun (y43 : Int32) =>
        (zpI 9 M v0 8 y43).bind fun (M44 : zM) =>
        (zgI 9 M44 v0 9).bind fun (y45 : Int32) =>
        (fp_X11_byteAt v0 y45 M44).bind fun (y46 : Int32) =>
        if y46 ≠ (-1) then (
          (zgI 9 M44 v0 9).bind fun (y47 : Int32) =>
          (zpI 9 M44 v0 9 (y47 + 1)).bind fun (M48 : zM) =>
          (fp_X11_isSmall y46).bind fun (y49 : Int32) =>
          zjn (fun (s50 : Int32) (s51 : Nat) =>
              (zpI 9 M48 s51 7 s50).bind fun (M52 : zM) =>
              fp_X11_ahead_L114
                (fun M53 =>
                  (zgI 9 M53 v0 7).bind fun (y54 : Int32) =>
                  if y54 ≠ 3 then (
                    some M53)
                  else (
                    (zgI 9 M53 v0 9).bind fun (y55 : Int32) =>
                    (fp_X11_byteAt v0 y55 M53).bind fun (y56 : Int32) =>
                    (fp_X11_isDigit y56).bind fun (y57 : Int32) =>
                    if y57 ≠ 0 then (
                      (zpI 9 M53 v0 7 1).bind fun (M58 : zM) =>
                      fp_X11_ahead_L177 v0 FU M58)
                    else (
                      some M53))) v0 FU M52)
            (fun j111 =>
              if y49 = 0 then (
                (fp_X11_isDigit y46).bind fun (y59 : Int32) =>
                if y59 = 0 then (
                  if y46 ≠ 59 then (
                    j111 1 v0)
                  else (
                    j111 4 v0))
                else (
                  j111 3 v0))
              else (
                j111 2 v0)))
        else (
          (zpI 9 M44 v0 7 0).bind fun (M60 : zM) =>
          some M60))
      else (
        (zgI 9 M v0 9).bind fun (y61 : Int32) =>
        (zpI 9 M v0 9 (y61 + 1)).bind fun (M62 : zM) =>
        fp_X11_ahead_L0
          (fun M63 =>
            (zgI 9 M63 v0 9).bind fun (y64 : Int32) =>
            (zpI 9 M63 v0 8 y64).bind fun (M65 : zM) =>
            (zgI 9 M65 v0 9).bind fun (y66 : Int32) =>
            (fp_X11_byteAt v0 y66 M65).bind fun (y67 : Int32) =>
            if y67 ≠ (-1) then (
              (zgI 9 M65 v0 9).bind fun (y68 : Int32) =>
              (zpI 9 M65 v0 9 (y68 + 1)).bind fun (M69 : zM) =>
              (fp_X11_isSmall y67).bind fun (y70 : Int32) =>
              zjn (fun (s71 : Int32) (s72 : Nat) =>
                  (zpI 9 M69 s72 7 s71).bind fun (M73 : zM) =>
                  fp_X11_ahead_L114
                    (fun M74 =>
                      (zgI 9 M74 v0 7).bind fun (y75 : Int32) =>
                      if y75 ≠ 3 then (
                        some M74)
                      else (
                        (zgI 9 M74 v0 9).bind fun (y76 : Int32) =>
                        (fp_X11_byteAt v0 y76 M74).bind fun (y77 : Int32) =>
                        (fp_X11_isDigit y77).bind fun (y78 : Int32) =>
                        if y78 ≠ 0 then (
                          (zpI 9 M74 v0 7 1).bind fun (M79 : zM) =>
                          fp_X11_ahead_L177 v0 FU M79)
                        else (
                          some M74))) v0 FU M73)
                (fun j111 =>
                  if y70 = 0 then (
                    (fp_X11_isDigit y67).bind fun (y80 : Int32) =>
                    if y80 = 0 then (
                      if y67 ≠ 59 then (
                        j111 1 v0)
                      else (
                        j111 4 v0))
                    else (
                      j111 3 v0))
                  else (
                    j111 2 v0)))
            else (
              (zpI 9 M65 v0 7 0).bind fun (M81 : zM) =>
              some M81)) v0 FU M62)))
set_option maxHeartbeats 4000000 in
set_option maxRecDepth 100000 in
theorem th_X11_ahead {v0 : Nat} {M : zM} {x0 : zM} (h : fp_X11_ahead v0 M = some x0) : v0 < zS M ∧ kd v0 = 9 := by
  unfold fp_X11_ahead at h
  exact zthis_of h
set_option maxHeartbeats 4000000 in
set_option maxRecDepth 100000 in
theorem w_X11_ahead_L0 (E : zEnv) (hE : zEok E) (d : Nat) (hd : 2 ≤ d) (M0 : zM) (x0 : zM) (v0 : Nat) (k39 : zM → Option (zM)) (hk39 : ∀ (M : zM), zSy E mu_X11_ahead d M0 (none, x0) x0 (k39 M) 39 [(0, .ref (E.2.2.2.1 + v0))] [] M) : ∀ (n : Nat) (M : zM), zSy E mu_X11_ahead d M0 (none, x0) x0 (fp_X11_ahead_L0 k39 v0 n M) 0 [(0, .ref (E.2.2.2.1 + v0))] [] M := by
  intro n
  induction n with
  | zero =>
    intro M
    rw [fp_X11_ahead_L0]
    exact zs_none
  | succ n ih =>
    intro M
    rw [fp_X11_ahead_L0]
    refine zs_aload_n dX11_ahead_0 rfl 0 rfl ?_
    refine zs_aload_n dX11_ahead_1 rfl 0 rfl ?_
    refine zs_getI dX11_ahead_2 fl_X11_144 rfl (fun y5 => ?_)
    refine zs_invVPI (rest := []) [.int y5] dX11_ahead_5 lk_X11_147 rfl (fun _ h => th_X11_byteAt h) (zd1 rfl hd) rfl (Nat.le_of_ble_eq_true rfl) (ct_X11_byteAt E hE _ (zdl rfl hd) _ _ _) (fun y6 => ?_)
    refine zs_bipush (v := 32) dX11_ahead_8 cbipush_32 ?_
    refine zs_jn (fun j26 => zSy E mu_X11_ahead d M0 (none, x0) x0 (j26) 26 [(0, .ref (E.2.2.2.1 + v0))] [] M) ?_ (fun j26 hj26 => ?_)
    · refine zs_aload_n dX11_ahead_26 rfl 0 rfl ?_
      refine zs_dup dX11_ahead_27 rfl ?_
      refine zs_getI dX11_ahead_28 fl_X11_144 rfl (fun y7 => ?_)
      refine zs_iconst (v := 1) dX11_ahead_31 ciconst_1 ?_
      refine zs_iadd dX11_ahead_32 ?_
      refine zs_putI dX11_ahead_33 fl_X11_144 ft_X11 rfl rfl rfl rfl rfl (fun M8 => ?_)
      refine zs_goto dX11_ahead_36 rfl ?_
      exact ih M8
    refine zs_icmp_eq dX11_ahead_10 rfl ?_ ?_
    · exact hj26
    refine zs_aload_n dX11_ahead_13 rfl 0 rfl ?_
    refine zs_aload_n dX11_ahead_14 rfl 0 rfl ?_
    refine zs_getI dX11_ahead_15 fl_X11_144 rfl (fun y9 => ?_)
    refine zs_invVPI (rest := []) [.int y9] dX11_ahead_18 lk_X11_147 rfl (fun _ h => th_X11_byteAt h) (zd1 rfl hd) rfl (Nat.le_of_ble_eq_true rfl) (ct_X11_byteAt E hE _ (zdl rfl hd) _ _ _) (fun y10 => ?_)
    refine zs_bipush (v := 10) dX11_ahead_21 cbipush_10 ?_
    refine zs_icmp_ne dX11_ahead_23 rfl ?_ ?_
    · exact hk39 M
    exact hj26
set_option maxHeartbeats 4000000 in
set_option maxRecDepth 100000 in
theorem w_X11_ahead_L114 (E : zEnv) (hE : zEok E) (d : Nat) (hd : 2 ≤ d) (M0 : zM) (x0 : zM) (v0 : Nat) (k149 : zM → Option (zM)) (hk149 : ∀ (M : zM), zSy E mu_X11_ahead d M0 (none, x0) x0 (k149 M) 149 [(0, .ref (E.2.2.2.1 + v0))] [] M) : ∀ (n : Nat) (M : zM), zSy E mu_X11_ahead d M0 (none, x0) x0 (fp_X11_ahead_L114 k149 v0 n M) 114 [(0, .ref (E.2.2.2.1 + v0))] [] M := by
  intro n
  induction n with
  | zero =>
    intro M
    rw [fp_X11_ahead_L114]
    exact zs_none
  | succ n ih =>
    intro M
    rw [fp_X11_ahead_L114]
    refine zs_aload_n dX11_ahead_114 rfl 0 rfl ?_
    refine zs_getI dX11_ahead_115 fl_X11_153 rfl (fun y22 => ?_)
    refine zs_iconst (v := 2) dX11_ahead_118 ciconst_2 ?_
    refine zs_icmp_ne dX11_ahead_119 rfl ?_ ?_
    · exact hk149 M
    refine zs_aload_n dX11_ahead_122 rfl 0 rfl ?_
    refine zs_aload_n dX11_ahead_123 rfl 0 rfl ?_
    refine zs_getI dX11_ahead_124 fl_X11_144 rfl (fun y23 => ?_)
    refine zs_invVPI (rest := []) [.int y23] dX11_ahead_127 lk_X11_147 rfl (fun _ h => th_X11_byteAt h) (zd1 rfl hd) rfl (Nat.le_of_ble_eq_true rfl) (ct_X11_byteAt E hE _ (zdl rfl hd) _ _ _) (fun y24 => ?_)
    refine zs_invSPI (rest := []) [.int y24] dX11_ahead_130 lk_X11_156 rfl (zd1 rfl hd) rfl (Nat.le_of_ble_eq_true rfl) (ct_X11_isSmall E hE _ (zdl rfl hd) _ _) (fun y25 => ?_)
    refine zs_if_eq dX11_ahead_133 rfl ?_ ?_
    · exact hk149 M
    refine zs_aload_n dX11_ahead_136 rfl 0 rfl ?_
    refine zs_dup dX11_ahead_137 rfl ?_
    refine zs_getI dX11_ahead_138 fl_X11_144 rfl (fun y26 => ?_)
    refine zs_iconst (v := 1) dX11_ahead_141 ciconst_1 ?_
    refine zs_iadd dX11_ahead_142 ?_
    refine zs_putI dX11_ahead_143 fl_X11_144 ft_X11 rfl rfl rfl rfl rfl (fun M27 => ?_)
    refine zs_goto dX11_ahead_146 rfl ?_
    exact ih M27
set_option maxHeartbeats 4000000 in
set_option maxRecDepth 100000 in
theorem w_X11_ahead_L177 (E : zEnv) (hE : zEok E) (d : Nat) (hd : 2 ≤ d) (M0 : zM) (x0 : zM) (v0 : Nat)  : ∀ (n : Nat) (M : zM), zSy E mu_X11_ahead d M0 (none, x0) x0 (fp_X11_ahead_L177 v0 n M) 177 [(0, .ref (E.2.2.2.1 + v0))] [] M := by
  intro n
  induction n with
  | zero =>
    intro M
    rw [fp_X11_ahead_L177]
    exact zs_none
  | succ n ih =>
    intro M
    rw [fp_X11_ahead_L177]
    refine zs_aload_n dX11_ahead_177 rfl 0 rfl ?_
    refine zs_aload_n dX11_ahead_178 rfl 0 rfl ?_
    refine zs_getI dX11_ahead_179 fl_X11_144 rfl (fun y34 => ?_)
    refine zs_invVPI (rest := []) [.int y34] dX11_ahead_182 lk_X11_147 rfl (fun _ h => th_X11_byteAt h) (zd1 rfl hd) rfl (Nat.le_of_ble_eq_true rfl) (ct_X11_byteAt E hE _ (zdl rfl hd) _ _ _) (fun y35 => ?_)
    refine zs_invSPI (rest := []) [.int y35] dX11_ahead_185 lk_X11_160 rfl (zd1 rfl hd) rfl (Nat.le_of_ble_eq_true rfl) (ct_X11_isDigit E hE _ (zdl rfl hd) _ _) (fun y36 => ?_)
    refine zs_if_eq dX11_ahead_188 rfl ?_ ?_
    · exact zs_vret dX11_ahead_204 trivial
    refine zs_aload_n dX11_ahead_191 rfl 0 rfl ?_
    refine zs_dup dX11_ahead_192 rfl ?_
    refine zs_getI dX11_ahead_193 fl_X11_144 rfl (fun y37 => ?_)
    refine zs_iconst (v := 1) dX11_ahead_196 ciconst_1 ?_
    refine zs_iadd dX11_ahead_197 ?_
    refine zs_putI dX11_ahead_198 fl_X11_144 ft_X11 rfl rfl rfl rfl rfl (fun M38 => ?_)
    refine zs_goto dX11_ahead_201 rfl ?_
    exact ih M38
set_option maxHeartbeats 4000000 in
set_option maxRecDepth 100000 in
theorem ct_X11_ahead (E : zEnv) (hE : zEok E) (d : Nat) (hd : 2 ≤ d) (v0 : Nat) (M : zM) (x0 : zM) (hx : fp_X11_ahead v0 M = some x0) : zCt E mu_X11_ahead d [.ref (E.2.2.2.1 + v0)] M (none, x0) := by
  refine zCt_of (μ := mu_X11_ahead) (t := fp_X11_ahead v0 M) rfl rfl (Nat.le_of_ble_eq_true rfl) hx ?_
  change zSy E mu_X11_ahead d M (none, x0) x0 (fp_X11_ahead v0 M) 0 [(0, .ref (E.2.2.2.1 + v0))] [] M
  unfold fp_X11_ahead
  refine zs_this (fun hth => ?_)
  refine zs_aload_n dX11_ahead_0 rfl 0 rfl ?_
  refine zs_aload_n dX11_ahead_1 rfl 0 rfl ?_
  refine zs_getI dX11_ahead_2 fl_X11_144 rfl (fun y1 => ?_)
  refine zs_invVPI (rest := []) [.int y1] dX11_ahead_5 lk_X11_147 rfl (fun _ h => th_X11_byteAt h) (zd1 rfl hd) rfl (Nat.le_of_ble_eq_true rfl) (ct_X11_byteAt E hE _ (zdl rfl hd) _ _ _) (fun y2 => ?_)
  refine zs_bipush (v := 32) dX11_ahead_8 cbipush_32 ?_
  refine zs_icmp_eq dX11_ahead_10 rfl ?_ ?_
  · refine zs_aload_n dX11_ahead_26 rfl 0 rfl ?_
    refine zs_dup dX11_ahead_27 rfl ?_
    refine zs_getI dX11_ahead_28 fl_X11_144 rfl (fun y3 => ?_)
    refine zs_iconst (v := 1) dX11_ahead_31 ciconst_1 ?_
    refine zs_iadd dX11_ahead_32 ?_
    refine zs_putI dX11_ahead_33 fl_X11_144 ft_X11 rfl rfl rfl rfl rfl (fun M4 => ?_)
    refine zs_goto dX11_ahead_36 rfl ?_
    refine w_X11_ahead_L0 E hE d hd _ _ _ _ (fun M11 => ?_) _ _
    refine zs_aload_n dX11_ahead_39 rfl 0 rfl ?_
    refine zs_aload_n dX11_ahead_40 rfl 0 rfl ?_
    refine zs_getI dX11_ahead_41 fl_X11_144 rfl (fun y12 => ?_)
    refine zs_putI dX11_ahead_44 fl_X11_150 ft_X11 rfl rfl rfl rfl rfl (fun M13 => ?_)
    refine zs_aload_n dX11_ahead_47 rfl 0 rfl ?_
    refine zs_aload_n dX11_ahead_48 rfl 0 rfl ?_
    refine zs_getI dX11_ahead_49 fl_X11_144 rfl (fun y14 => ?_)
    refine zs_invVPI (rest := []) [.int y14] dX11_ahead_52 lk_X11_147 rfl (fun _ h => th_X11_byteAt h) (zd1 rfl hd) rfl (Nat.le_of_ble_eq_true rfl) (ct_X11_byteAt E hE _ (zdl rfl hd) _ _ _) (fun y15 => ?_)
    refine zs_istore_n (loc' := [(0, .ref (E.2.2.2.1 + v0)), (1, .int y15)]) dX11_ahead_55 rfl (Nat.le_of_ble_eq_true rfl) [1, 0] rfl ?_
    refine zs_iload_n dX11_ahead_56 rfl 1 rfl ?_
    refine zs_iconst (v := (-1)) dX11_ahead_57 ciconst_m1 ?_
    refine zs_icmp_ne dX11_ahead_58 rfl ?_ ?_
    · refine zs_aload_n dX11_ahead_67 rfl 0 rfl ?_
      refine zs_dup dX11_ahead_68 rfl ?_
      refine zs_getI dX11_ahead_69 fl_X11_144 rfl (fun y16 => ?_)
      refine zs_iconst (v := 1) dX11_ahead_72 ciconst_1 ?_
      refine zs_iadd dX11_ahead_73 ?_
      refine zs_putI dX11_ahead_74 fl_X11_144 ft_X11 rfl rfl rfl rfl rfl (fun M17 => ?_)
      refine zs_aload_n dX11_ahead_77 rfl 0 rfl ?_
      refine zs_iload_n dX11_ahead_78 rfl 1 rfl ?_
      refine zs_invSPI (rest := [.ref (E.2.2.2.1 + v0)]) [.int y15] dX11_ahead_79 lk_X11_156 rfl (zd1 rfl hd) rfl (Nat.le_of_ble_eq_true rfl) (ct_X11_isSmall E hE _ (zdl rfl hd) _ _) (fun y18 => ?_)
      refine zs_jn (fun j111 => ∀ (s19 : Int32) (s20 : Nat), zSy E mu_X11_ahead d M (none, x0) x0 (j111 s19 s20) 111 [(0, .ref (E.2.2.2.1 + v0))] [.int s19, .ref (E.2.2.2.1 + s20)] M17) (fun s19 s20 => ?_) (fun j111 hj111 => ?_)
      · refine zs_putI dX11_ahead_111 fl_X11_153 ft_X11 rfl rfl rfl rfl rfl (fun M21 => ?_)
        refine w_X11_ahead_L114 E hE d hd _ _ _ _ (fun M28 => ?_) _ _
        refine zs_aload_n dX11_ahead_149 rfl 0 rfl ?_
        refine zs_getI dX11_ahead_150 fl_X11_153 rfl (fun y29 => ?_)
        refine zs_iconst (v := 3) dX11_ahead_153 ciconst_3 ?_
        refine zs_icmp_ne dX11_ahead_154 rfl ?_ ?_
        · exact zs_vret dX11_ahead_171 trivial
        refine zs_aload_n dX11_ahead_157 rfl 0 rfl ?_
        refine zs_aload_n dX11_ahead_158 rfl 0 rfl ?_
        refine zs_getI dX11_ahead_159 fl_X11_144 rfl (fun y30 => ?_)
        refine zs_invVPI (rest := []) [.int y30] dX11_ahead_162 lk_X11_147 rfl (fun _ h => th_X11_byteAt h) (zd1 rfl hd) rfl (Nat.le_of_ble_eq_true rfl) (ct_X11_byteAt E hE _ (zdl rfl hd) _ _ _) (fun y31 => ?_)
        refine zs_invSPI (rest := []) [.int y31] dX11_ahead_165 lk_X11_160 rfl (zd1 rfl hd) rfl (Nat.le_of_ble_eq_true rfl) (ct_X11_isDigit E hE _ (zdl rfl hd) _ _) (fun y32 => ?_)
        refine zs_if_ne dX11_ahead_168 rfl ?_ ?_
        · refine zs_aload_n dX11_ahead_172 rfl 0 rfl ?_
          refine zs_iconst (v := 1) dX11_ahead_173 ciconst_1 ?_
          refine zs_putI dX11_ahead_174 fl_X11_153 ft_X11 rfl rfl rfl rfl rfl (fun M33 => ?_)
          exact w_X11_ahead_L177 E hE d hd _ _ _ _ _
        exact zs_vret dX11_ahead_171 trivial
      refine zs_if_eq dX11_ahead_82 rfl ?_ ?_
      · refine zs_iload_n dX11_ahead_89 rfl 1 rfl ?_
        refine zs_invSPI (rest := [.ref (E.2.2.2.1 + v0)]) [.int y15] dX11_ahead_90 lk_X11_160 rfl (zd1 rfl hd) rfl (Nat.le_of_ble_eq_true rfl) (ct_X11_isDigit E hE _ (zdl rfl hd) _ _) (fun y39 => ?_)
        refine zs_if_eq dX11_ahead_93 rfl ?_ ?_
        · refine zs_iload_n dX11_ahead_100 rfl 1 rfl ?_
          refine zs_bipush (v := 59) dX11_ahead_101 cbipush_59 ?_
          refine zs_icmp_ne dX11_ahead_103 rfl ?_ ?_
          · refine zs_iconst (v := 1) dX11_ahead_110 ciconst_1 ?_
            refine zs_sub (loc' := [(0, .ref (E.2.2.2.1 + v0))]) [0] rfl ?_
            exact hj111 1 v0
          refine zs_iconst (v := 4) dX11_ahead_106 ciconst_4 ?_
          refine zs_goto dX11_ahead_107 rfl ?_
          refine zs_sub (loc' := [(0, .ref (E.2.2.2.1 + v0))]) [0] rfl ?_
          exact hj111 4 v0
        refine zs_iconst (v := 3) dX11_ahead_96 ciconst_3 ?_
        refine zs_goto dX11_ahead_97 rfl ?_
        refine zs_sub (loc' := [(0, .ref (E.2.2.2.1 + v0))]) [0] rfl ?_
        exact hj111 3 v0
      refine zs_iconst (v := 2) dX11_ahead_85 ciconst_2 ?_
      refine zs_goto dX11_ahead_86 rfl ?_
      refine zs_sub (loc' := [(0, .ref (E.2.2.2.1 + v0))]) [0] rfl ?_
      exact hj111 2 v0
    refine zs_aload_n dX11_ahead_61 rfl 0 rfl ?_
    refine zs_iconst (v := 0) dX11_ahead_62 ciconst_0 ?_
    refine zs_putI dX11_ahead_63 fl_X11_153 ft_X11 rfl rfl rfl rfl rfl (fun M40 => ?_)
    exact zs_vret dX11_ahead_66 trivial
  refine zs_aload_n dX11_ahead_13 rfl 0 rfl ?_
  refine zs_aload_n dX11_ahead_14 rfl 0 rfl ?_
  refine zs_getI dX11_ahead_15 fl_X11_144 rfl (fun y41 => ?_)
  refine zs_invVPI (rest := []) [.int y41] dX11_ahead_18 lk_X11_147 rfl (fun _ h => th_X11_byteAt h) (zd1 rfl hd) rfl (Nat.le_of_ble_eq_true rfl) (ct_X11_byteAt E hE _ (zdl rfl hd) _ _ _) (fun y42 => ?_)
  refine zs_bipush (v := 10) dX11_ahead_21 cbipush_10 ?_
  refine zs_icmp_ne dX11_ahead_23 rfl ?_ ?_
  · refine zs_aload_n dX11_ahead_39 rfl 0 rfl ?_
    refine zs_aload_n dX11_ahead_40 rfl 0 rfl ?_
    refine zs_getI dX11_ahead_41 fl_X11_144 rfl (fun y43 => ?_)
    refine zs_putI dX11_ahead_44 fl_X11_150 ft_X11 rfl rfl rfl rfl rfl (fun M44 => ?_)
    refine zs_aload_n dX11_ahead_47 rfl 0 rfl ?_
    refine zs_aload_n dX11_ahead_48 rfl 0 rfl ?_
    refine zs_getI dX11_ahead_49 fl_X11_144 rfl (fun y45 => ?_)
    refine zs_invVPI (rest := []) [.int y45] dX11_ahead_52 lk_X11_147 rfl (fun _ h => th_X11_byteAt h) (zd1 rfl hd) rfl (Nat.le_of_ble_eq_true rfl) (ct_X11_byteAt E hE _ (zdl rfl hd) _ _ _) (fun y46 => ?_)
    refine zs_istore_n (loc' := [(0, .ref (E.2.2.2.1 + v0)), (1, .int y46)]) dX11_ahead_55 rfl (Nat.le_of_ble_eq_true rfl) [1, 0] rfl ?_
    refine zs_iload_n dX11_ahead_56 rfl 1 rfl ?_
    refine zs_iconst (v := (-1)) dX11_ahead_57 ciconst_m1 ?_
    refine zs_icmp_ne dX11_ahead_58 rfl ?_ ?_
    · refine zs_aload_n dX11_ahead_67 rfl 0 rfl ?_
      refine zs_dup dX11_ahead_68 rfl ?_
      refine zs_getI dX11_ahead_69 fl_X11_144 rfl (fun y47 => ?_)
      refine zs_iconst (v := 1) dX11_ahead_72 ciconst_1 ?_
      refine zs_iadd dX11_ahead_73 ?_
      refine zs_putI dX11_ahead_74 fl_X11_144 ft_X11 rfl rfl rfl rfl rfl (fun M48 => ?_)
      refine zs_aload_n dX11_ahead_77 rfl 0 rfl ?_
      refine zs_iload_n dX11_ahead_78 rfl 1 rfl ?_
      refine zs_invSPI (rest := [.ref (E.2.2.2.1 + v0)]) [.int y46] dX11_ahead_79 lk_X11_156 rfl (zd1 rfl hd) rfl (Nat.le_of_ble_eq_true rfl) (ct_X11_isSmall E hE _ (zdl rfl hd) _ _) (fun y49 => ?_)
      refine zs_jn (fun j111 => ∀ (s50 : Int32) (s51 : Nat), zSy E mu_X11_ahead d M (none, x0) x0 (j111 s50 s51) 111 [(0, .ref (E.2.2.2.1 + v0))] [.int s50, .ref (E.2.2.2.1 + s51)] M48) (fun s50 s51 => ?_) (fun j111 hj111 => ?_)
      · refine zs_putI dX11_ahead_111 fl_X11_153 ft_X11 rfl rfl rfl rfl rfl (fun M52 => ?_)
        refine w_X11_ahead_L114 E hE d hd _ _ _ _ (fun M53 => ?_) _ _
        refine zs_aload_n dX11_ahead_149 rfl 0 rfl ?_
        refine zs_getI dX11_ahead_150 fl_X11_153 rfl (fun y54 => ?_)
        refine zs_iconst (v := 3) dX11_ahead_153 ciconst_3 ?_
        refine zs_icmp_ne dX11_ahead_154 rfl ?_ ?_
        · exact zs_vret dX11_ahead_171 trivial
        refine zs_aload_n dX11_ahead_157 rfl 0 rfl ?_
        refine zs_aload_n dX11_ahead_158 rfl 0 rfl ?_
        refine zs_getI dX11_ahead_159 fl_X11_144 rfl (fun y55 => ?_)
        refine zs_invVPI (rest := []) [.int y55] dX11_ahead_162 lk_X11_147 rfl (fun _ h => th_X11_byteAt h) (zd1 rfl hd) rfl (Nat.le_of_ble_eq_true rfl) (ct_X11_byteAt E hE _ (zdl rfl hd) _ _ _) (fun y56 => ?_)
        refine zs_invSPI (rest := []) [.int y56] dX11_ahead_165 lk_X11_160 rfl (zd1 rfl hd) rfl (Nat.le_of_ble_eq_true rfl) (ct_X11_isDigit E hE _ (zdl rfl hd) _ _) (fun y57 => ?_)
        refine zs_if_ne dX11_ahead_168 rfl ?_ ?_
        · refine zs_aload_n dX11_ahead_172 rfl 0 rfl ?_
          refine zs_iconst (v := 1) dX11_ahead_173 ciconst_1 ?_
          refine zs_putI dX11_ahead_174 fl_X11_153 ft_X11 rfl rfl rfl rfl rfl (fun M58 => ?_)
          exact w_X11_ahead_L177 E hE d hd _ _ _ _ _
        exact zs_vret dX11_ahead_171 trivial
      refine zs_if_eq dX11_ahead_82 rfl ?_ ?_
      · refine zs_iload_n dX11_ahead_89 rfl 1 rfl ?_
        refine zs_invSPI (rest := [.ref (E.2.2.2.1 + v0)]) [.int y46] dX11_ahead_90 lk_X11_160 rfl (zd1 rfl hd) rfl (Nat.le_of_ble_eq_true rfl) (ct_X11_isDigit E hE _ (zdl rfl hd) _ _) (fun y59 => ?_)
        refine zs_if_eq dX11_ahead_93 rfl ?_ ?_
        · refine zs_iload_n dX11_ahead_100 rfl 1 rfl ?_
          refine zs_bipush (v := 59) dX11_ahead_101 cbipush_59 ?_
          refine zs_icmp_ne dX11_ahead_103 rfl ?_ ?_
          · refine zs_iconst (v := 1) dX11_ahead_110 ciconst_1 ?_
            refine zs_sub (loc' := [(0, .ref (E.2.2.2.1 + v0))]) [0] rfl ?_
            exact hj111 1 v0
          refine zs_iconst (v := 4) dX11_ahead_106 ciconst_4 ?_
          refine zs_goto dX11_ahead_107 rfl ?_
          refine zs_sub (loc' := [(0, .ref (E.2.2.2.1 + v0))]) [0] rfl ?_
          exact hj111 4 v0
        refine zs_iconst (v := 3) dX11_ahead_96 ciconst_3 ?_
        refine zs_goto dX11_ahead_97 rfl ?_
        refine zs_sub (loc' := [(0, .ref (E.2.2.2.1 + v0))]) [0] rfl ?_
        exact hj111 3 v0
      refine zs_iconst (v := 2) dX11_ahead_85 ciconst_2 ?_
      refine zs_goto dX11_ahead_86 rfl ?_
      refine zs_sub (loc' := [(0, .ref (E.2.2.2.1 + v0))]) [0] rfl ?_
      exact hj111 2 v0
    refine zs_aload_n dX11_ahead_61 rfl 0 rfl ?_
    refine zs_iconst (v := 0) dX11_ahead_62 ciconst_0 ?_
    refine zs_putI dX11_ahead_63 fl_X11_153 ft_X11 rfl rfl rfl rfl rfl (fun M60 => ?_)
    exact zs_vret dX11_ahead_66 trivial
  refine zs_aload_n dX11_ahead_26 rfl 0 rfl ?_
  refine zs_dup dX11_ahead_27 rfl ?_
  refine zs_getI dX11_ahead_28 fl_X11_144 rfl (fun y61 => ?_)
  refine zs_iconst (v := 1) dX11_ahead_31 ciconst_1 ?_
  refine zs_iadd dX11_ahead_32 ?_
  refine zs_putI dX11_ahead_33 fl_X11_144 ft_X11 rfl rfl rfl rfl rfl (fun M62 => ?_)
  refine zs_goto dX11_ahead_36 rfl ?_
  refine w_X11_ahead_L0 E hE d hd _ _ _ _ (fun M63 => ?_) _ _
  refine zs_aload_n dX11_ahead_39 rfl 0 rfl ?_
  refine zs_aload_n dX11_ahead_40 rfl 0 rfl ?_
  refine zs_getI dX11_ahead_41 fl_X11_144 rfl (fun y64 => ?_)
  refine zs_putI dX11_ahead_44 fl_X11_150 ft_X11 rfl rfl rfl rfl rfl (fun M65 => ?_)
  refine zs_aload_n dX11_ahead_47 rfl 0 rfl ?_
  refine zs_aload_n dX11_ahead_48 rfl 0 rfl ?_
  refine zs_getI dX11_ahead_49 fl_X11_144 rfl (fun y66 => ?_)
  refine zs_invVPI (rest := []) [.int y66] dX11_ahead_52 lk_X11_147 rfl (fun _ h => th_X11_byteAt h) (zd1 rfl hd) rfl (Nat.le_of_ble_eq_true rfl) (ct_X11_byteAt E hE _ (zdl rfl hd) _ _ _) (fun y67 => ?_)
  refine zs_istore_n (loc' := [(0, .ref (E.2.2.2.1 + v0)), (1, .int y67)]) dX11_ahead_55 rfl (Nat.le_of_ble_eq_true rfl) [1, 0] rfl ?_
  refine zs_iload_n dX11_ahead_56 rfl 1 rfl ?_
  refine zs_iconst (v := (-1)) dX11_ahead_57 ciconst_m1 ?_
  refine zs_icmp_ne dX11_ahead_58 rfl ?_ ?_
  · refine zs_aload_n dX11_ahead_67 rfl 0 rfl ?_
    refine zs_dup dX11_ahead_68 rfl ?_
    refine zs_getI dX11_ahead_69 fl_X11_144 rfl (fun y68 => ?_)
    refine zs_iconst (v := 1) dX11_ahead_72 ciconst_1 ?_
    refine zs_iadd dX11_ahead_73 ?_
    refine zs_putI dX11_ahead_74 fl_X11_144 ft_X11 rfl rfl rfl rfl rfl (fun M69 => ?_)
    refine zs_aload_n dX11_ahead_77 rfl 0 rfl ?_
    refine zs_iload_n dX11_ahead_78 rfl 1 rfl ?_
    refine zs_invSPI (rest := [.ref (E.2.2.2.1 + v0)]) [.int y67] dX11_ahead_79 lk_X11_156 rfl (zd1 rfl hd) rfl (Nat.le_of_ble_eq_true rfl) (ct_X11_isSmall E hE _ (zdl rfl hd) _ _) (fun y70 => ?_)
    refine zs_jn (fun j111 => ∀ (s71 : Int32) (s72 : Nat), zSy E mu_X11_ahead d M (none, x0) x0 (j111 s71 s72) 111 [(0, .ref (E.2.2.2.1 + v0))] [.int s71, .ref (E.2.2.2.1 + s72)] M69) (fun s71 s72 => ?_) (fun j111 hj111 => ?_)
    · refine zs_putI dX11_ahead_111 fl_X11_153 ft_X11 rfl rfl rfl rfl rfl (fun M73 => ?_)
      refine w_X11_ahead_L114 E hE d hd _ _ _ _ (fun M74 => ?_) _ _
      refine zs_aload_n dX11_ahead_149 rfl 0 rfl ?_
      refine zs_getI dX11_ahead_150 fl_X11_153 rfl (fun y75 => ?_)
      refine zs_iconst (v := 3) dX11_ahead_153 ciconst_3 ?_
      refine zs_icmp_ne dX11_ahead_154 rfl ?_ ?_
      · exact zs_vret dX11_ahead_171 trivial
      refine zs_aload_n dX11_ahead_157 rfl 0 rfl ?_
      refine zs_aload_n dX11_ahead_158 rfl 0 rfl ?_
      refine zs_getI dX11_ahead_159 fl_X11_144 rfl (fun y76 => ?_)
      refine zs_invVPI (rest := []) [.int y76] dX11_ahead_162 lk_X11_147 rfl (fun _ h => th_X11_byteAt h) (zd1 rfl hd) rfl (Nat.le_of_ble_eq_true rfl) (ct_X11_byteAt E hE _ (zdl rfl hd) _ _ _) (fun y77 => ?_)
      refine zs_invSPI (rest := []) [.int y77] dX11_ahead_165 lk_X11_160 rfl (zd1 rfl hd) rfl (Nat.le_of_ble_eq_true rfl) (ct_X11_isDigit E hE _ (zdl rfl hd) _ _) (fun y78 => ?_)
      refine zs_if_ne dX11_ahead_168 rfl ?_ ?_
      · refine zs_aload_n dX11_ahead_172 rfl 0 rfl ?_
        refine zs_iconst (v := 1) dX11_ahead_173 ciconst_1 ?_
        refine zs_putI dX11_ahead_174 fl_X11_153 ft_X11 rfl rfl rfl rfl rfl (fun M79 => ?_)
        exact w_X11_ahead_L177 E hE d hd _ _ _ _ _
      exact zs_vret dX11_ahead_171 trivial
    refine zs_if_eq dX11_ahead_82 rfl ?_ ?_
    · refine zs_iload_n dX11_ahead_89 rfl 1 rfl ?_
      refine zs_invSPI (rest := [.ref (E.2.2.2.1 + v0)]) [.int y67] dX11_ahead_90 lk_X11_160 rfl (zd1 rfl hd) rfl (Nat.le_of_ble_eq_true rfl) (ct_X11_isDigit E hE _ (zdl rfl hd) _ _) (fun y80 => ?_)
      refine zs_if_eq dX11_ahead_93 rfl ?_ ?_
      · refine zs_iload_n dX11_ahead_100 rfl 1 rfl ?_
        refine zs_bipush (v := 59) dX11_ahead_101 cbipush_59 ?_
        refine zs_icmp_ne dX11_ahead_103 rfl ?_ ?_
        · refine zs_iconst (v := 1) dX11_ahead_110 ciconst_1 ?_
          refine zs_sub (loc' := [(0, .ref (E.2.2.2.1 + v0))]) [0] rfl ?_
          exact hj111 1 v0
        refine zs_iconst (v := 4) dX11_ahead_106 ciconst_4 ?_
        refine zs_goto dX11_ahead_107 rfl ?_
        refine zs_sub (loc' := [(0, .ref (E.2.2.2.1 + v0))]) [0] rfl ?_
        exact hj111 4 v0
      refine zs_iconst (v := 3) dX11_ahead_96 ciconst_3 ?_
      refine zs_goto dX11_ahead_97 rfl ?_
      refine zs_sub (loc' := [(0, .ref (E.2.2.2.1 + v0))]) [0] rfl ?_
      exact hj111 3 v0
    refine zs_iconst (v := 2) dX11_ahead_85 ciconst_2 ?_
    refine zs_goto dX11_ahead_86 rfl ?_
    refine zs_sub (loc' := [(0, .ref (E.2.2.2.1 + v0))]) [0] rfl ?_
    exact hj111 2 v0
  refine zs_aload_n dX11_ahead_61 rfl 0 rfl ?_
  refine zs_iconst (v := 0) dX11_ahead_62 ciconst_0 ?_
  refine zs_putI dX11_ahead_63 fl_X11_153 ft_X11 rfl rfl rfl rfl rfl (fun M81 => ?_)
  exact zs_vret dX11_ahead_66 trivial
theorem dX11_key_0 : decode cX11_key 0 = .ok (.aload_n 0, 1) := by decide +kernel
theorem dX11_key_1 : decode cX11_key 1 = .ok (.getfield 153, 3) := by decide +kernel
theorem dX11_key_4 : decode cX11_key 4 = .ok (.iconst 2, 1) := by decide +kernel
theorem dX11_key_5 : decode cX11_key 5 = .ok (.if_icmp .eq 5, 3) := by decide +kernel
theorem dX11_key_8 : decode cX11_key 8 = .ok (.iconst (-1), 1) := by decide +kernel
theorem dX11_key_9 : decode cX11_key 9 = .ok (.ireturn, 1) := by decide +kernel
theorem dX11_key_10 : decode cX11_key 10 = .ok (.iconst 0, 1) := by decide +kernel
theorem dX11_key_11 : decode cX11_key 11 = .ok (.istore_n 1, 1) := by decide +kernel
theorem dX11_key_12 : decode cX11_key 12 = .ok (.iconst 1, 1) := by decide +kernel
theorem dX11_key_13 : decode cX11_key 13 = .ok (.istore_n 2, 1) := by decide +kernel
theorem dX11_key_14 : decode cX11_key 14 = .ok (.iload_n 2, 1) := by decide +kernel
theorem dX11_key_15 : decode cX11_key 15 = .ok (.ldc 163, 2) := by decide +kernel
theorem dX11_key_17 : decode cX11_key 17 = .ok (.invokevirtual 165, 3) := by decide +kernel
theorem dX11_key_20 : decode cX11_key 20 = .ok (.if_icmp .ge 113, 3) := by decide +kernel
theorem dX11_key_23 : decode cX11_key 23 = .ok (.iload_n 2, 1) := by decide +kernel
theorem dX11_key_24 : decode cX11_key 24 = .ok (.istore_n 3, 1) := by decide +kernel
theorem dX11_key_25 : decode cX11_key 25 = .ok (.ldc 163, 2) := by decide +kernel
theorem dX11_key_27 : decode cX11_key 27 = .ok (.iload_n 3, 1) := by decide +kernel
theorem dX11_key_28 : decode cX11_key 28 = .ok (.invokevirtual 170, 3) := by decide +kernel
theorem dX11_key_31 : decode cX11_key 31 = .ok (.bipush 32, 2) := by decide +kernel
theorem dX11_key_33 : decode cX11_key 33 = .ok (.if_icmp .eq 9, 3) := by decide +kernel
theorem dX11_key_36 : decode cX11_key 36 = .ok (.iinc 3 1, 3) := by decide +kernel
theorem dX11_key_39 : decode cX11_key 39 = .ok (.goto (-14), 3) := by decide +kernel
theorem dX11_key_42 : decode cX11_key 42 = .ok (.iload_n 3, 1) := by decide +kernel
theorem dX11_key_43 : decode cX11_key 43 = .ok (.iload_n 2, 1) := by decide +kernel
theorem dX11_key_44 : decode cX11_key 44 = .ok (.isub, 1) := by decide +kernel
theorem dX11_key_45 : decode cX11_key 45 = .ok (.aload_n 0, 1) := by decide +kernel
theorem dX11_key_46 : decode cX11_key 46 = .ok (.getfield 144, 3) := by decide +kernel
theorem dX11_key_49 : decode cX11_key 49 = .ok (.aload_n 0, 1) := by decide +kernel
theorem dX11_key_50 : decode cX11_key 50 = .ok (.getfield 150, 3) := by decide +kernel
theorem dX11_key_53 : decode cX11_key 53 = .ok (.isub, 1) := by decide +kernel
theorem dX11_key_54 : decode cX11_key 54 = .ok (.if_icmp .ne 7, 3) := by decide +kernel
theorem dX11_key_57 : decode cX11_key 57 = .ok (.iconst 1, 1) := by decide +kernel
theorem dX11_key_58 : decode cX11_key 58 = .ok (.goto 4, 3) := by decide +kernel
theorem dX11_key_61 : decode cX11_key 61 = .ok (.iconst 0, 1) := by decide +kernel
theorem dX11_key_62 : decode cX11_key 62 = .ok (.istore 4, 2) := by decide +kernel
theorem dX11_key_64 : decode cX11_key 64 = .ok (.iconst 0, 1) := by decide +kernel
theorem dX11_key_65 : decode cX11_key 65 = .ok (.istore 5, 2) := by decide +kernel
theorem dX11_key_67 : decode cX11_key 67 = .ok (.iload 5, 2) := by decide +kernel
theorem dX11_key_69 : decode cX11_key 69 = .ok (.iload_n 3, 1) := by decide +kernel
theorem dX11_key_70 : decode cX11_key 70 = .ok (.iload_n 2, 1) := by decide +kernel
theorem dX11_key_71 : decode cX11_key 71 = .ok (.isub, 1) := by decide +kernel
theorem dX11_key_72 : decode cX11_key 72 = .ok (.if_icmp .ge 44, 3) := by decide +kernel
theorem dX11_key_75 : decode cX11_key 75 = .ok (.iload 4, 2) := by decide +kernel
theorem dX11_key_77 : decode cX11_key 77 = .ok (.ifCond .eq 39, 3) := by decide +kernel
theorem dX11_key_80 : decode cX11_key 80 = .ok (.ldc 163, 2) := by decide +kernel
theorem dX11_key_82 : decode cX11_key 82 = .ok (.iload_n 2, 1) := by decide +kernel
theorem dX11_key_83 : decode cX11_key 83 = .ok (.iload 5, 2) := by decide +kernel
theorem dX11_key_85 : decode cX11_key 85 = .ok (.iadd, 1) := by decide +kernel
theorem dX11_key_86 : decode cX11_key 86 = .ok (.invokevirtual 170, 3) := by decide +kernel
theorem dX11_key_89 : decode cX11_key 89 = .ok (.aload_n 0, 1) := by decide +kernel
theorem dX11_key_90 : decode cX11_key 90 = .ok (.aload_n 0, 1) := by decide +kernel
theorem dX11_key_91 : decode cX11_key 91 = .ok (.getfield 150, 3) := by decide +kernel
theorem dX11_key_94 : decode cX11_key 94 = .ok (.iload 5, 2) := by decide +kernel
theorem dX11_key_96 : decode cX11_key 96 = .ok (.iadd, 1) := by decide +kernel
theorem dX11_key_97 : decode cX11_key 97 = .ok (.invokevirtual 147, 3) := by decide +kernel
theorem dX11_key_100 : decode cX11_key 100 = .ok (.if_icmp .ne 7, 3) := by decide +kernel
theorem dX11_key_103 : decode cX11_key 103 = .ok (.iconst 1, 1) := by decide +kernel
theorem dX11_key_104 : decode cX11_key 104 = .ok (.goto 4, 3) := by decide +kernel
theorem dX11_key_107 : decode cX11_key 107 = .ok (.iconst 0, 1) := by decide +kernel
theorem dX11_key_108 : decode cX11_key 108 = .ok (.istore 4, 2) := by decide +kernel
theorem dX11_key_110 : decode cX11_key 110 = .ok (.iinc 5 1, 3) := by decide +kernel
theorem dX11_key_113 : decode cX11_key 113 = .ok (.goto (-46), 3) := by decide +kernel
theorem dX11_key_116 : decode cX11_key 116 = .ok (.iload 4, 2) := by decide +kernel
theorem dX11_key_118 : decode cX11_key 118 = .ok (.ifCond .eq 5, 3) := by decide +kernel
theorem dX11_key_121 : decode cX11_key 121 = .ok (.iload_n 1, 1) := by decide +kernel
theorem dX11_key_122 : decode cX11_key 122 = .ok (.ireturn, 1) := by decide +kernel
theorem dX11_key_123 : decode cX11_key 123 = .ok (.iinc 1 1, 3) := by decide +kernel
theorem dX11_key_126 : decode cX11_key 126 = .ok (.iload_n 3, 1) := by decide +kernel
theorem dX11_key_127 : decode cX11_key 127 = .ok (.iconst 1, 1) := by decide +kernel
theorem dX11_key_128 : decode cX11_key 128 = .ok (.iadd, 1) := by decide +kernel
theorem dX11_key_129 : decode cX11_key 129 = .ok (.istore_n 2, 1) := by decide +kernel
theorem dX11_key_130 : decode cX11_key 130 = .ok (.goto (-116), 3) := by decide +kernel
theorem dX11_key_133 : decode cX11_key 133 = .ok (.iconst (-1), 1) := by decide +kernel
theorem dX11_key_134 : decode cX11_key 134 = .ok (.ireturn, 1) := by decide +kernel
def fp_X11_key_L25 (k42 : Int32 → Option (Int32)) (v0 : Nat) (v1 : Int32) (v2 : Int32) (M : zM) : Nat → Int32 → Option (Int32)
  | 0, _ => none
  | n + 1, v3 =>
    (zsc 5 v3).bind fun (y3 : Int32) =>
    if y3 = 32 then (
      k42 v3)
    else (
      fp_X11_key_L25 k42 v0 v1 v2 M n (v3 + 1))
def fp_X11_key_L67 (k116 : Int32 → Option (Int32)) (v0 : Nat) (v1 : Int32) (v2 : Int32) (v3 : Int32) (M : zM) : Nat → Int32 → Int32 → Option (Int32)
  | 0, _, _ => none
  | n + 1, v4, v5 =>
    if v5 ≥ (v3 - v2) then (
      k116 v4)
    else (
      if v4 = 0 then (
        k116 v4)
      else (
        (zsc 5 (v2 + v5)).bind fun (y8 : Int32) =>
        (zgI 9 M v0 8).bind fun (y9 : Int32) =>
        (fp_X11_byteAt v0 (y9 + v5) M).bind fun (y10 : Int32) =>
        zjn (fun (s11 : Int32) =>
            fp_X11_key_L67 k116 v0 v1 v2 v3 M n s11 (v5 + 1))
          (fun j108 =>
            if y8 ≠ y10 then (
              j108 0)
            else (
              j108 1))))
def fp_X11_key_L14 (v0 : Nat) (M : zM) : Nat → Int32 → Int32 → Option (Int32)
  | 0, _, _ => none
  | n + 1, v1, v2 =>
    (zsl 5).bind fun (y2 : Int32) =>
    if v2 ≥ y2 then (
      some (-1))
    else (
      fp_X11_key_L25
        (fun v3_4 =>
          (zgI 9 M v0 9).bind fun (y5 : Int32) =>
          (zgI 9 M v0 8).bind fun (y6 : Int32) =>
          zjn (fun (s7 : Int32) =>
              fp_X11_key_L67
                (fun v4_12 =>
                  if v4_12 = 0 then (
                    lett ((v3_4 + 1)) fun (v2_13 : Int32) =>
                    fp_X11_key_L14 v0 M n (v1 + 1) v2_13)
                  else (
                    some v1)) v0 v1 v2 v3_4 M FU s7 0)
            (fun j62 =>
              if (v3_4 - v2) ≠ (y5 - y6) then (
                j62 0)
              else (
                j62 1))) v0 v1 v2 M FU v2)
def fp_X11_key (v0 : Nat) (M : zM) : Option (Int32) :=
  zthis 9 M v0 (
    (zgI 9 M v0 7).bind fun (y1 : Int32) =>
    if y1 = 2 then (
      fp_X11_key_L14 v0 M FU 0 1)
    else (
      some (-1)))
set_option maxHeartbeats 4000000 in
set_option maxRecDepth 100000 in
theorem th_X11_key {v0 : Nat} {M : zM} {x0 : Int32} (h : fp_X11_key v0 M = some x0) : v0 < zS M ∧ kd v0 = 9 := by
  unfold fp_X11_key at h
  exact zthis_of h
set_option maxHeartbeats 4000000 in
set_option maxRecDepth 100000 in
theorem w_X11_key_L25 (E : zEnv) (hE : zEok E) (d : Nat) (hd : 9 ≤ d) (x0 : Int32) (v0 : Nat) (v1 : Int32) (v2 : Int32) (M : zM) (k42 : Int32 → Option (Int32)) (hk42 : ∀ (v3 : Int32), zSy E mu_X11_key d M (some (.int x0), M) x0 (k42 v3) 42 [(0, .ref (E.2.2.2.1 + v0)), (1, .int v1), (2, .int v2), (3, .int v3)] [] M) : ∀ (n : Nat) (v3 : Int32), zSy E mu_X11_key d M (some (.int x0), M) x0 (fp_X11_key_L25 k42 v0 v1 v2 M n v3) 25 [(0, .ref (E.2.2.2.1 + v0)), (1, .int v1), (2, .int v2), (3, .int v3)] [] M := by
  intro n
  induction n with
  | zero =>
    intro v3
    rw [fp_X11_key_L25]
    exact zs_none
  | succ n ih =>
    intro v3
    rw [fp_X11_key_L25]
    refine zs_ldcS hE 5 rfl dX11_key_25 ?_
    refine zs_iload_n dX11_key_27 rfl 3 rfl ?_
    refine zs_schr hE dX11_key_28 (ti_6 67 rfl rfl) (zd0 rfl hd) (Nat.le_of_ble_eq_true rfl) (fun y3 => ?_)
    refine zs_bipush (v := 32) dX11_key_31 cbipush_32 ?_
    refine zs_icmp_eq dX11_key_33 rfl ?_ ?_
    · exact hk42 v3
    refine zs_iinc (v := (v3 + 1)) (loc' := [(0, .ref (E.2.2.2.1 + v0)), (1, .int v1), (2, .int v2), (3, .int (v3 + 1))]) dX11_key_36 3 rfl (by rfl) (Nat.le_of_ble_eq_true rfl) [1, 2, 3, 0] rfl ?_
    refine zs_goto dX11_key_39 rfl ?_
    exact ih (v3 + 1)
set_option maxHeartbeats 4000000 in
set_option maxRecDepth 100000 in
theorem w_X11_key_L67 (E : zEnv) (hE : zEok E) (d : Nat) (hd : 9 ≤ d) (x0 : Int32) (v0 : Nat) (v1 : Int32) (v2 : Int32) (v3 : Int32) (M : zM) (k116 : Int32 → Option (Int32)) (hk116 : ∀ (v4 : Int32), zSy E mu_X11_key d M (some (.int x0), M) x0 (k116 v4) 116 [(0, .ref (E.2.2.2.1 + v0)), (1, .int v1), (3, .int v3), (4, .int v4)] [] M) : ∀ (n : Nat) (v4 : Int32) (v5 : Int32), zSy E mu_X11_key d M (some (.int x0), M) x0 (fp_X11_key_L67 k116 v0 v1 v2 v3 M n v4 v5) 67 [(0, .ref (E.2.2.2.1 + v0)), (1, .int v1), (2, .int v2), (3, .int v3), (4, .int v4), (5, .int v5)] [] M := by
  intro n
  induction n with
  | zero =>
    intro v4 v5
    rw [fp_X11_key_L67]
    exact zs_none
  | succ n ih =>
    intro v4 v5
    rw [fp_X11_key_L67]
    refine zs_iload dX11_key_67 5 rfl ?_
    refine zs_iload_n dX11_key_69 rfl 3 rfl ?_
    refine zs_iload_n dX11_key_70 rfl 2 rfl ?_
    refine zs_isub dX11_key_71 ?_
    refine zs_icmp_ge dX11_key_72 rfl ?_ ?_
    · refine zs_sub (loc' := [(0, .ref (E.2.2.2.1 + v0)), (1, .int v1), (3, .int v3), (4, .int v4)]) [0, 1, 3, 4] rfl ?_
      exact hk116 v4
    refine zs_iload dX11_key_75 4 rfl ?_
    refine zs_if_eq dX11_key_77 rfl ?_ ?_
    · refine zs_sub (loc' := [(0, .ref (E.2.2.2.1 + v0)), (1, .int v1), (3, .int v3), (4, .int v4)]) [0, 1, 3, 4] rfl ?_
      exact hk116 v4
    refine zs_ldcS hE 5 rfl dX11_key_80 ?_
    refine zs_iload_n dX11_key_82 rfl 2 rfl ?_
    refine zs_iload dX11_key_83 5 rfl ?_
    refine zs_iadd dX11_key_85 ?_
    refine zs_schr hE dX11_key_86 (ti_6 67 rfl rfl) (zd0 rfl hd) (Nat.le_of_ble_eq_true rfl) (fun y8 => ?_)
    refine zs_aload_n dX11_key_89 rfl 0 rfl ?_
    refine zs_aload_n dX11_key_90 rfl 0 rfl ?_
    refine zs_getI dX11_key_91 fl_X11_150 rfl (fun y9 => ?_)
    refine zs_iload dX11_key_94 5 rfl ?_
    refine zs_iadd dX11_key_96 ?_
    refine zs_invVPI (rest := [.int y8]) [.int (y9 + v5)] dX11_key_97 lk_X11_147 rfl (fun _ h => th_X11_byteAt h) (zd1 rfl hd) rfl (Nat.le_of_ble_eq_true rfl) (ct_X11_byteAt E hE _ (zdl rfl hd) _ _ _) (fun y10 => ?_)
    refine zs_jn (fun j108 => ∀ (s11 : Int32), zSy E mu_X11_key d M (some (.int x0), M) x0 (j108 s11) 108 [(0, .ref (E.2.2.2.1 + v0)), (1, .int v1), (2, .int v2), (3, .int v3), (5, .int v5)] [.int s11] M) (fun s11 => ?_) (fun j108 hj108 => ?_)
    · refine zs_istore (loc' := [(0, .ref (E.2.2.2.1 + v0)), (1, .int v1), (2, .int v2), (3, .int v3), (4, .int s11), (5, .int v5)]) dX11_key_108 (Nat.le_of_ble_eq_true rfl) [1, 2, 3, 4, 0, 5] rfl ?_
      refine zs_iinc (v := (v5 + 1)) (loc' := [(0, .ref (E.2.2.2.1 + v0)), (1, .int v1), (2, .int v2), (3, .int v3), (4, .int s11), (5, .int (v5 + 1))]) dX11_key_110 5 rfl (by rfl) (Nat.le_of_ble_eq_true rfl) [1, 2, 3, 4, 5, 0] rfl ?_
      refine zs_goto dX11_key_113 rfl ?_
      exact ih s11 (v5 + 1)
    refine zs_icmp_ne dX11_key_100 rfl ?_ ?_
    · refine zs_iconst (v := 0) dX11_key_107 ciconst_0 ?_
      refine zs_sub (loc' := [(0, .ref (E.2.2.2.1 + v0)), (1, .int v1), (2, .int v2), (3, .int v3), (5, .int v5)]) [0, 1, 2, 3, 5] rfl ?_
      exact hj108 0
    refine zs_iconst (v := 1) dX11_key_103 ciconst_1 ?_
    refine zs_goto dX11_key_104 rfl ?_
    refine zs_sub (loc' := [(0, .ref (E.2.2.2.1 + v0)), (1, .int v1), (2, .int v2), (3, .int v3), (5, .int v5)]) [0, 1, 2, 3, 5] rfl ?_
    exact hj108 1
set_option maxHeartbeats 4000000 in
set_option maxRecDepth 100000 in
theorem w_X11_key_L14 (E : zEnv) (hE : zEok E) (d : Nat) (hd : 9 ≤ d) (x0 : Int32) (v0 : Nat) (M : zM)  : ∀ (n : Nat) (v1 : Int32) (v2 : Int32), zSy E mu_X11_key d M (some (.int x0), M) x0 (fp_X11_key_L14 v0 M n v1 v2) 14 [(0, .ref (E.2.2.2.1 + v0)), (1, .int v1), (2, .int v2)] [] M := by
  intro n
  induction n with
  | zero =>
    intro v1 v2
    rw [fp_X11_key_L14]
    exact zs_none
  | succ n ih =>
    intro v1 v2
    rw [fp_X11_key_L14]
    refine zs_iload_n dX11_key_14 rfl 2 rfl ?_
    refine zs_ldcS hE 5 rfl dX11_key_15 ?_
    refine zs_slen hE dX11_key_17 (ti_6 66 rfl rfl) (zd0 rfl hd) (Nat.le_of_ble_eq_true rfl) (fun y2 => ?_)
    refine zs_icmp_ge dX11_key_20 rfl ?_ ?_
    · refine zs_iconst (v := (-1)) dX11_key_133 ciconst_m1 ?_
      exact zs_iretP dX11_key_134 rfl
    refine zs_iload_n dX11_key_23 rfl 2 rfl ?_
    refine zs_istore_n (loc' := [(0, .ref (E.2.2.2.1 + v0)), (1, .int v1), (2, .int v2), (3, .int v2)]) dX11_key_24 rfl (Nat.le_of_ble_eq_true rfl) [1, 2, 3, 0] rfl ?_
    refine w_X11_key_L25 E hE d hd _ _ _ _ _ _ (fun v3_4 => ?_) _ _
    refine zs_iload_n dX11_key_42 rfl 3 rfl ?_
    refine zs_iload_n dX11_key_43 rfl 2 rfl ?_
    refine zs_isub dX11_key_44 ?_
    refine zs_aload_n dX11_key_45 rfl 0 rfl ?_
    refine zs_getI dX11_key_46 fl_X11_144 rfl (fun y5 => ?_)
    refine zs_aload_n dX11_key_49 rfl 0 rfl ?_
    refine zs_getI dX11_key_50 fl_X11_150 rfl (fun y6 => ?_)
    refine zs_isub dX11_key_53 ?_
    refine zs_jn (fun j62 => ∀ (s7 : Int32), zSy E mu_X11_key d M (some (.int x0), M) x0 (j62 s7) 62 [(0, .ref (E.2.2.2.1 + v0)), (1, .int v1), (2, .int v2), (3, .int v3_4)] [.int s7] M) (fun s7 => ?_) (fun j62 hj62 => ?_)
    · refine zs_istore (loc' := [(0, .ref (E.2.2.2.1 + v0)), (1, .int v1), (2, .int v2), (3, .int v3_4), (4, .int s7)]) dX11_key_62 (Nat.le_of_ble_eq_true rfl) [1, 2, 3, 4, 0] rfl ?_
      refine zs_iconst (v := 0) dX11_key_64 ciconst_0 ?_
      refine zs_istore (loc' := [(0, .ref (E.2.2.2.1 + v0)), (1, .int v1), (2, .int v2), (3, .int v3_4), (4, .int s7), (5, .int 0)]) dX11_key_65 (Nat.le_of_ble_eq_true rfl) [1, 2, 3, 4, 5, 0] rfl ?_
      refine w_X11_key_L67 E hE d hd _ _ _ _ _ _ _ (fun v4_12 => ?_) _ _ _
      refine zs_iload dX11_key_116 3 rfl ?_
      refine zs_if_eq dX11_key_118 rfl ?_ ?_
      · refine zs_iinc (v := (v1 + 1)) (loc' := [(0, .ref (E.2.2.2.1 + v0)), (1, .int (v1 + 1)), (3, .int v3_4)]) dX11_key_123 1 rfl (by rfl) (Nat.le_of_ble_eq_true rfl) [1, 0, 2] rfl ?_
        refine zs_iload_n dX11_key_126 rfl 2 rfl ?_
        refine zs_iconst (v := 1) dX11_key_127 ciconst_1 ?_
        refine zs_iadd dX11_key_128 ?_
        refine zs_istore_nL (loc' := fun v2_13 => [(0, .ref (E.2.2.2.1 + v0)), (1, .int (v1 + 1)), (2, .int v2_13)]) dX11_key_129 rfl (Nat.le_of_ble_eq_true rfl) [1, 2, 0] (fun _ => rfl) (fun v2_13 => ?_)
        refine zs_goto dX11_key_130 rfl ?_
        exact ih (v1 + 1) v2_13
      refine zs_iload_n dX11_key_121 rfl 1 rfl ?_
      exact zs_iretP dX11_key_122 rfl
    refine zs_icmp_ne dX11_key_54 rfl ?_ ?_
    · refine zs_iconst (v := 0) dX11_key_61 ciconst_0 ?_
      exact hj62 0
    refine zs_iconst (v := 1) dX11_key_57 ciconst_1 ?_
    refine zs_goto dX11_key_58 rfl ?_
    exact hj62 1
set_option maxHeartbeats 4000000 in
set_option maxRecDepth 100000 in
theorem ct_X11_key (E : zEnv) (hE : zEok E) (d : Nat) (hd : 9 ≤ d) (v0 : Nat) (M : zM) (x0 : Int32) (hx : fp_X11_key v0 M = some x0) : zCt E mu_X11_key d [.ref (E.2.2.2.1 + v0)] M (some (.int x0), M) := by
  refine zCt_of (μ := mu_X11_key) (t := fp_X11_key v0 M) rfl rfl (Nat.le_of_ble_eq_true rfl) hx ?_
  change zSy E mu_X11_key d M (some (.int x0), M) x0 (fp_X11_key v0 M) 0 [(0, .ref (E.2.2.2.1 + v0))] [] M
  unfold fp_X11_key
  refine zs_this (fun hth => ?_)
  refine zs_aload_n dX11_key_0 rfl 0 rfl ?_
  refine zs_getI dX11_key_1 fl_X11_153 rfl (fun y1 => ?_)
  refine zs_iconst (v := 2) dX11_key_4 ciconst_2 ?_
  refine zs_icmp_eq dX11_key_5 rfl ?_ ?_
  · refine zs_iconst (v := 0) dX11_key_10 ciconst_0 ?_
    refine zs_istore_n (loc' := [(0, .ref (E.2.2.2.1 + v0)), (1, .int 0)]) dX11_key_11 rfl (Nat.le_of_ble_eq_true rfl) [1, 0] rfl ?_
    refine zs_iconst (v := 1) dX11_key_12 ciconst_1 ?_
    refine zs_istore_n (loc' := [(0, .ref (E.2.2.2.1 + v0)), (1, .int 0), (2, .int 1)]) dX11_key_13 rfl (Nat.le_of_ble_eq_true rfl) [1, 2, 0] rfl ?_
    exact w_X11_key_L14 E hE d hd _ _ _ _ _ _
  refine zs_iconst (v := (-1)) dX11_key_8 ciconst_m1 ?_
  exact zs_iretP dX11_key_9 rfl
theorem dX11_fails_0 : decode cX11_fails 0 = .ok (.aload_n 0, 1) := by decide +kernel
theorem dX11_fails_1 : decode cX11_fails 1 = .ok (.getfield 174, 3) := by decide +kernel
theorem dX11_fails_4 : decode cX11_fails 4 = .ok (.ifCond .ne 28, 3) := by decide +kernel
theorem dX11_fails_7 : decode cX11_fails 7 = .ok (.aload_n 0, 1) := by decide +kernel
theorem dX11_fails_8 : decode cX11_fails 8 = .ok (.aload_n 0, 1) := by decide +kernel
theorem dX11_fails_9 : decode cX11_fails 9 = .ok (.getfield 153, 3) := by decide +kernel
theorem dX11_fails_12 : decode cX11_fails 12 = .ok (.iconst 1, 1) := by decide +kernel
theorem dX11_fails_13 : decode cX11_fails 13 = .ok (.if_icmp .ne 7, 3) := by decide +kernel
theorem dX11_fails_16 : decode cX11_fails 16 = .ok (.iconst 1, 1) := by decide +kernel
theorem dX11_fails_17 : decode cX11_fails 17 = .ok (.goto 4, 3) := by decide +kernel
theorem dX11_fails_20 : decode cX11_fails 20 = .ok (.iload_n 1, 1) := by decide +kernel
theorem dX11_fails_21 : decode cX11_fails 21 = .ok (.putfield 174, 3) := by decide +kernel
theorem dX11_fails_24 : decode cX11_fails 24 = .ok (.aload_n 0, 1) := by decide +kernel
theorem dX11_fails_25 : decode cX11_fails 25 = .ok (.aload_n 0, 1) := by decide +kernel
theorem dX11_fails_26 : decode cX11_fails 26 = .ok (.getfield 150, 3) := by decide +kernel
theorem dX11_fails_29 : decode cX11_fails 29 = .ok (.putfield 20, 3) := by decide +kernel
theorem dX11_fails_32 : decode cX11_fails 32 = .ok (.iconst 0, 1) := by decide +kernel
theorem dX11_fails_33 : decode cX11_fails 33 = .ok (.ireturn, 1) := by decide +kernel
def fp_X11_fails (v0 : Nat) (v1 : Int32) (M : zM) : Option (Int32 × zM) :=
  zthis 9 M v0 (
    (zgI 9 M v0 10).bind fun (y1 : Int32) =>
    if y1 ≠ 0 then (
      some (0, M))
    else (
      (zgI 9 M v0 7).bind fun (y2 : Int32) =>
      zjn (fun (s3 : Int32) (s4 : Nat) =>
          (zpI 9 M s4 10 s3).bind fun (M5 : zM) =>
          (zgI 9 M5 v0 8).bind fun (y6 : Int32) =>
          (zpI 9 M5 v0 11 y6).bind fun (M7 : zM) =>
          some (0, M7))
        (fun j21 =>
          if y2 ≠ 1 then (
            j21 v1 v0)
          else (
            j21 1 v0))))
set_option maxHeartbeats 4000000 in
set_option maxRecDepth 100000 in
theorem th_X11_fails {v0 : Nat} {v1 : Int32} {M : zM} {x0 : Int32 × zM} (h : fp_X11_fails v0 v1 M = some x0) : v0 < zS M ∧ kd v0 = 9 := by
  unfold fp_X11_fails at h
  exact zthis_of h
set_option maxHeartbeats 4000000 in
set_option maxRecDepth 100000 in
theorem ct_X11_fails (E : zEnv) (hE : zEok E) (d : Nat) (hd : 1 ≤ d) (v0 : Nat) (v1 : Int32) (M : zM) (x0 : Int32 × zM) (hx : fp_X11_fails v0 v1 M = some x0) : zCt E mu_X11_fails d [.ref (E.2.2.2.1 + v0), .int v1] M (some (.int x0.1), x0.2) := by
  refine zCt_of (μ := mu_X11_fails) (t := fp_X11_fails v0 v1 M) rfl rfl (Nat.le_of_ble_eq_true rfl) hx ?_
  change zSy E mu_X11_fails d M (some (.int x0.1), x0.2) x0 (fp_X11_fails v0 v1 M) 0 [(0, .ref (E.2.2.2.1 + v0)), (1, .int v1)] [] M
  unfold fp_X11_fails
  refine zs_this (fun hth => ?_)
  refine zs_aload_n dX11_fails_0 rfl 0 rfl ?_
  refine zs_getI dX11_fails_1 fl_X11_174 rfl (fun y1 => ?_)
  refine zs_if_ne dX11_fails_4 rfl ?_ ?_
  · refine zs_iconst (v := 0) dX11_fails_32 ciconst_0 ?_
    exact zs_iretW dX11_fails_33 rfl
  refine zs_aload_n dX11_fails_7 rfl 0 rfl ?_
  refine zs_aload_n dX11_fails_8 rfl 0 rfl ?_
  refine zs_getI dX11_fails_9 fl_X11_153 rfl (fun y2 => ?_)
  refine zs_iconst (v := 1) dX11_fails_12 ciconst_1 ?_
  refine zs_jn (fun j21 => ∀ (s3 : Int32) (s4 : Nat), zSy E mu_X11_fails d M (some (.int x0.1), x0.2) x0 (j21 s3 s4) 21 [(0, .ref (E.2.2.2.1 + v0))] [.int s3, .ref (E.2.2.2.1 + s4)] M) (fun s3 s4 => ?_) (fun j21 hj21 => ?_)
  · refine zs_putI dX11_fails_21 fl_X11_174 ft_X11 rfl rfl rfl rfl rfl (fun M5 => ?_)
    refine zs_aload_n dX11_fails_24 rfl 0 rfl ?_
    refine zs_aload_n dX11_fails_25 rfl 0 rfl ?_
    refine zs_getI dX11_fails_26 fl_X11_150 rfl (fun y6 => ?_)
    refine zs_putI dX11_fails_29 fl_X11_20 ft_X11 rfl rfl rfl rfl rfl (fun M7 => ?_)
    refine zs_iconst (v := 0) dX11_fails_32 ciconst_0 ?_
    exact zs_iretW dX11_fails_33 rfl
  refine zs_icmp_ne dX11_fails_13 rfl ?_ ?_
  · refine zs_iload_n dX11_fails_20 rfl 1 rfl ?_
    refine zs_sub (loc' := [(0, .ref (E.2.2.2.1 + v0))]) [0] rfl ?_
    exact hj21 v1 v0
  refine zs_iconst (v := 1) dX11_fails_16 ciconst_1 ?_
  refine zs_goto dX11_fails_17 rfl ?_
  refine zs_sub (loc' := [(0, .ref (E.2.2.2.1 + v0))]) [0] rfl ?_
  exact hj21 1 v0
theorem dX11_digit_0 : decode cX11_digit 0 = .ok (.aload_n 0, 1) := by decide +kernel
theorem dX11_digit_1 : decode cX11_digit 1 = .ok (.aload_n 0, 1) := by decide +kernel
theorem dX11_digit_2 : decode cX11_digit 2 = .ok (.getfield 150, 3) := by decide +kernel
theorem dX11_digit_5 : decode cX11_digit 5 = .ok (.invokevirtual 147, 3) := by decide +kernel
theorem dX11_digit_8 : decode cX11_digit 8 = .ok (.bipush 48, 2) := by decide +kernel
theorem dX11_digit_10 : decode cX11_digit 10 = .ok (.isub, 1) := by decide +kernel
theorem dX11_digit_11 : decode cX11_digit 11 = .ok (.ireturn, 1) := by decide +kernel
def fp_X11_digit (v0 : Nat) (M : zM) : Option (Int32) :=
  zthis 9 M v0 (
    (zgI 9 M v0 8).bind fun (y1 : Int32) =>
    (fp_X11_byteAt v0 y1 M).bind fun (y2 : Int32) =>
    some (y2 - 48))
set_option maxHeartbeats 4000000 in
set_option maxRecDepth 100000 in
theorem th_X11_digit {v0 : Nat} {M : zM} {x0 : Int32} (h : fp_X11_digit v0 M = some x0) : v0 < zS M ∧ kd v0 = 9 := by
  unfold fp_X11_digit at h
  exact zthis_of h
set_option maxHeartbeats 4000000 in
set_option maxRecDepth 100000 in
theorem ct_X11_digit (E : zEnv) (hE : zEok E) (d : Nat) (hd : 2 ≤ d) (v0 : Nat) (M : zM) (x0 : Int32) (hx : fp_X11_digit v0 M = some x0) : zCt E mu_X11_digit d [.ref (E.2.2.2.1 + v0)] M (some (.int x0), M) := by
  refine zCt_of (μ := mu_X11_digit) (t := fp_X11_digit v0 M) rfl rfl (Nat.le_of_ble_eq_true rfl) hx ?_
  change zSy E mu_X11_digit d M (some (.int x0), M) x0 (fp_X11_digit v0 M) 0 [(0, .ref (E.2.2.2.1 + v0))] [] M
  unfold fp_X11_digit
  refine zs_this (fun hth => ?_)
  refine zs_aload_n dX11_digit_0 rfl 0 rfl ?_
  refine zs_aload_n dX11_digit_1 rfl 0 rfl ?_
  refine zs_getI dX11_digit_2 fl_X11_150 rfl (fun y1 => ?_)
  refine zs_invVPI (rest := []) [.int y1] dX11_digit_5 lk_X11_147 rfl (fun _ h => th_X11_byteAt h) (zd1 rfl hd) rfl (Nat.le_of_ble_eq_true rfl) (ct_X11_byteAt E hE _ (zdl rfl hd) _ _ _) (fun y2 => ?_)
  refine zs_bipush (v := 48) dX11_digit_8 cbipush_48 ?_
  refine zs_isub dX11_digit_10 ?_
  exact zs_iretP dX11_digit_11 rfl
theorem dX11_closes_0 : decode cX11_closes 0 = .ok (.aload_n 0, 1) := by decide +kernel
theorem dX11_closes_1 : decode cX11_closes 1 = .ok (.getfield 153, 3) := by decide +kernel
theorem dX11_closes_4 : decode cX11_closes 4 = .ok (.iconst 4, 1) := by decide +kernel
theorem dX11_closes_5 : decode cX11_closes 5 = .ok (.if_icmp .eq 9, 3) := by decide +kernel
theorem dX11_closes_8 : decode cX11_closes 8 = .ok (.aload_n 0, 1) := by decide +kernel
theorem dX11_closes_9 : decode cX11_closes 9 = .ok (.iconst 2, 1) := by decide +kernel
theorem dX11_closes_10 : decode cX11_closes 10 = .ok (.invokevirtual 177, 3) := by decide +kernel
theorem dX11_closes_13 : decode cX11_closes 13 = .ok (.ireturn, 1) := by decide +kernel
theorem dX11_closes_14 : decode cX11_closes 14 = .ok (.aload_n 0, 1) := by decide +kernel
theorem dX11_closes_15 : decode cX11_closes 15 = .ok (.invokevirtual 180, 3) := by decide +kernel
theorem dX11_closes_18 : decode cX11_closes 18 = .ok (.iconst 1, 1) := by decide +kernel
theorem dX11_closes_19 : decode cX11_closes 19 = .ok (.ireturn, 1) := by decide +kernel
def fp_X11_closes (v0 : Nat) (M : zM) : Option (Int32 × zM) :=
  zthis 9 M v0 (
    (zgI 9 M v0 7).bind fun (y1 : Int32) =>
    if y1 = 4 then (
      (fp_X11_ahead v0 M).bind fun (M2 : zM) =>
      some (1, M2))
    else (
      (fp_X11_fails v0 2 M).bind fun p5 => zpp p5 fun (y3 : Int32) (M4 : zM) =>
      (zb y3).bind fun (r : Int32) => some (r, M4)))
set_option maxHeartbeats 4000000 in
set_option maxRecDepth 100000 in
theorem th_X11_closes {v0 : Nat} {M : zM} {x0 : Int32 × zM} (h : fp_X11_closes v0 M = some x0) : v0 < zS M ∧ kd v0 = 9 := by
  unfold fp_X11_closes at h
  exact zthis_of h
set_option maxHeartbeats 4000000 in
set_option maxRecDepth 100000 in
theorem ct_X11_closes (E : zEnv) (hE : zEok E) (d : Nat) (hd : 3 ≤ d) (v0 : Nat) (M : zM) (x0 : Int32 × zM) (hx : fp_X11_closes v0 M = some x0) : zCt E mu_X11_closes d [.ref (E.2.2.2.1 + v0)] M (some (.int x0.1), x0.2) := by
  refine zCt_of (μ := mu_X11_closes) (t := fp_X11_closes v0 M) rfl rfl (Nat.le_of_ble_eq_true rfl) hx ?_
  change zSy E mu_X11_closes d M (some (.int x0.1), x0.2) x0 (fp_X11_closes v0 M) 0 [(0, .ref (E.2.2.2.1 + v0))] [] M
  unfold fp_X11_closes
  refine zs_this (fun hth => ?_)
  refine zs_aload_n dX11_closes_0 rfl 0 rfl ?_
  refine zs_getI dX11_closes_1 fl_X11_153 rfl (fun y1 => ?_)
  refine zs_iconst (v := 4) dX11_closes_4 ciconst_4 ?_
  refine zs_icmp_eq dX11_closes_5 rfl ?_ ?_
  · refine zs_aload_n dX11_closes_14 rfl 0 rfl ?_
    refine zs_invVWV (rest := []) [] dX11_closes_15 lk_X11_180 rfl (fun _ h => th_X11_ahead h) (zd1 rfl hd) rfl (Nat.le_of_ble_eq_true rfl) (ct_X11_ahead E hE _ (zdl rfl hd) _ _) (fun M2 => ?_)
    refine zs_iconst (v := 1) dX11_closes_18 ciconst_1 ?_
    exact zs_iretW dX11_closes_19 rfl
  refine zs_aload_n dX11_closes_8 rfl 0 rfl ?_
  refine zs_iconst (v := 2) dX11_closes_9 ciconst_2 ?_
  refine zs_invVWI (rest := []) [.int 2] dX11_closes_10 lk_X11_177 rfl (fun _ h => th_X11_fails h) (zd1 rfl hd) rfl (Nat.le_of_ble_eq_true rfl) (ct_X11_fails E hE _ (zdl rfl hd) _ _ _) (fun y3 M4 => ?_)
  exact zs_zretW dX11_closes_13 rfl
theorem dX11_comes_0 : decode cX11_comes 0 = .ok (.aload_n 0, 1) := by decide +kernel
theorem dX11_comes_1 : decode cX11_comes 1 = .ok (.getfield 7, 3) := by decide +kernel
theorem dX11_comes_4 : decode cX11_comes 4 = .ok (.aload_n 0, 1) := by decide +kernel
theorem dX11_comes_5 : decode cX11_comes 5 = .ok (.getfield 101, 3) := by decide +kernel
theorem dX11_comes_8 : decode cX11_comes 8 = .ok (.iload_n 1, 1) := by decide +kernel
theorem dX11_comes_9 : decode cX11_comes 9 = .ok (.iastore, 1) := by decide +kernel
theorem dX11_comes_10 : decode cX11_comes 10 = .ok (.iconst 0, 1) := by decide +kernel
theorem dX11_comes_11 : decode cX11_comes 11 = .ok (.istore_n 2, 1) := by decide +kernel
theorem dX11_comes_12 : decode cX11_comes 12 = .ok (.iload_n 2, 1) := by decide +kernel
theorem dX11_comes_13 : decode cX11_comes 13 = .ok (.aload_n 0, 1) := by decide +kernel
theorem dX11_comes_14 : decode cX11_comes 14 = .ok (.getfield 101, 3) := by decide +kernel
theorem dX11_comes_17 : decode cX11_comes 17 = .ok (.if_icmp .ge 36, 3) := by decide +kernel
theorem dX11_comes_20 : decode cX11_comes 20 = .ok (.aload_n 0, 1) := by decide +kernel
theorem dX11_comes_21 : decode cX11_comes 21 = .ok (.getfield 7, 3) := by decide +kernel
theorem dX11_comes_24 : decode cX11_comes 24 = .ok (.iload_n 2, 1) := by decide +kernel
theorem dX11_comes_25 : decode cX11_comes 25 = .ok (.dup2, 1) := by decide +kernel
theorem dX11_comes_26 : decode cX11_comes 26 = .ok (.iaload, 1) := by decide +kernel
theorem dX11_comes_27 : decode cX11_comes 27 = .ok (.iload_n 1, 1) := by decide +kernel
theorem dX11_comes_28 : decode cX11_comes 28 = .ok (.iload_n 2, 1) := by decide +kernel
theorem dX11_comes_29 : decode cX11_comes 29 = .ok (.invokestatic 97, 3) := by decide +kernel
theorem dX11_comes_32 : decode cX11_comes 32 = .ok (.ifCond .eq 12, 3) := by decide +kernel
theorem dX11_comes_35 : decode cX11_comes 35 = .ok (.iconst 1, 1) := by decide +kernel
theorem dX11_comes_36 : decode cX11_comes 36 = .ok (.aload_n 0, 1) := by decide +kernel
theorem dX11_comes_37 : decode cX11_comes 37 = .ok (.getfield 101, 3) := by decide +kernel
theorem dX11_comes_40 : decode cX11_comes 40 = .ok (.ishl, 1) := by decide +kernel
theorem dX11_comes_41 : decode cX11_comes 41 = .ok (.goto 4, 3) := by decide +kernel
theorem dX11_comes_44 : decode cX11_comes 44 = .ok (.iconst 0, 1) := by decide +kernel
theorem dX11_comes_45 : decode cX11_comes 45 = .ok (.ior, 1) := by decide +kernel
theorem dX11_comes_46 : decode cX11_comes 46 = .ok (.iastore, 1) := by decide +kernel
theorem dX11_comes_47 : decode cX11_comes 47 = .ok (.iinc 2 1, 3) := by decide +kernel
theorem dX11_comes_50 : decode cX11_comes 50 = .ok (.goto (-38), 3) := by decide +kernel
theorem dX11_comes_53 : decode cX11_comes 53 = .ok (.aload_n 0, 1) := by decide +kernel
theorem dX11_comes_54 : decode cX11_comes 54 = .ok (.dup, 1) := by decide +kernel
theorem dX11_comes_55 : decode cX11_comes 55 = .ok (.getfield 101, 3) := by decide +kernel
theorem dX11_comes_58 : decode cX11_comes 58 = .ok (.iconst 1, 1) := by decide +kernel
theorem dX11_comes_59 : decode cX11_comes 59 = .ok (.iadd, 1) := by decide +kernel
theorem dX11_comes_60 : decode cX11_comes 60 = .ok (.putfield 101, 3) := by decide +kernel
theorem dX11_comes_63 : decode cX11_comes 63 = .ok (.return_, 1) := by decide +kernel
def fp_X11_comes_L12 (k53 : zM → Option (zM)) (v0 : Nat) (v1 : Int32) : Nat → Int32 → zM → Option (zM)
  | 0, _, _ => none
  | n + 1, v2, M =>
    (zgI 9 M v0 0).bind fun (y4 : Int32) =>
    if v2 ≥ y4 then (
      k53 M)
    else (
      (zgR 9 M v0 2).bind fun (y5 : Nat) =>
      (zlI 100 M y5 v2).bind fun (y6 : Int32) =>
      (fp_X11_has v1 v2).bind fun (y7 : Int32) =>
      zjn (fun (s8 : Int32) (s9 : Int32) (s10 : Int32) (s11 : Nat) =>
          (ztI M s11 s10 (s9 ||| s8)).bind fun (M12 : zM) =>
          fp_X11_comes_L12 k53 v0 v1 n (v2 + 1) M12)
        (fun j45 =>
          if y7 = 0 then (
            j45 0 y6 v2 y5)
          else (
            (zgI 9 M v0 0).bind fun (y13 : Int32) =>
            j45 (1 <<< (y13 &&& 31)) y6 v2 y5)))
def fp_X11_comes (v0 : Nat) (v1 : Int32) (M : zM) : Option (zM) :=
  zthis 9 M v0 (
    (zgR 9 M v0 2).bind fun (y1 : Nat) =>
    (zgI 9 M v0 0).bind fun (y2 : Int32) =>
    (ztI M y1 y2 v1).bind fun (M3 : zM) =>
    fp_X11_comes_L12
      (fun M14 =>
        (zgI 9 M14 v0 0).bind fun (y15 : Int32) =>
        (zpI 9 M14 v0 0 (y15 + 1)).bind fun (M16 : zM) =>
        some M16) v0 v1 FU 0 M3)
set_option maxHeartbeats 4000000 in
set_option maxRecDepth 100000 in
theorem th_X11_comes {v0 : Nat} {v1 : Int32} {M : zM} {x0 : zM} (h : fp_X11_comes v0 v1 M = some x0) : v0 < zS M ∧ kd v0 = 9 := by
  unfold fp_X11_comes at h
  exact zthis_of h
set_option maxHeartbeats 4000000 in
set_option maxRecDepth 100000 in
theorem w_X11_comes_L12 (E : zEnv) (hE : zEok E) (d : Nat) (hd : 2 ≤ d) (M0 : zM) (x0 : zM) (v0 : Nat) (v1 : Int32) (k53 : zM → Option (zM)) (hk53 : ∀ (M : zM), zSy E mu_X11_comes d M0 (none, x0) x0 (k53 M) 53 [(0, .ref (E.2.2.2.1 + v0))] [] M) : ∀ (n : Nat) (v2 : Int32) (M : zM), zSy E mu_X11_comes d M0 (none, x0) x0 (fp_X11_comes_L12 k53 v0 v1 n v2 M) 12 [(0, .ref (E.2.2.2.1 + v0)), (1, .int v1), (2, .int v2)] [] M := by
  intro n
  induction n with
  | zero =>
    intro v2 M
    rw [fp_X11_comes_L12]
    exact zs_none
  | succ n ih =>
    intro v2 M
    rw [fp_X11_comes_L12]
    refine zs_iload_n dX11_comes_12 rfl 2 rfl ?_
    refine zs_aload_n dX11_comes_13 rfl 0 rfl ?_
    refine zs_getI dX11_comes_14 fl_X11_101 rfl (fun y4 => ?_)
    refine zs_icmp_ge dX11_comes_17 rfl ?_ ?_
    · refine zs_sub (loc' := [(0, .ref (E.2.2.2.1 + v0))]) [0] rfl ?_
      exact hk53 M
    refine zs_aload_n dX11_comes_20 rfl 0 rfl ?_
    refine zs_getR dX11_comes_21 fl_X11_7 rfl (fun y5 => ?_)
    refine zs_iload_n dX11_comes_24 rfl 2 rfl ?_
    refine zs_dup2 dX11_comes_25 rfl rfl ?_
    refine zs_ldI dX11_comes_26 (fun y6 => ?_)
    refine zs_iload_n dX11_comes_27 rfl 1 rfl ?_
    refine zs_iload_n dX11_comes_28 rfl 2 rfl ?_
    refine zs_invSPI (rest := [.int y6, .int v2, .ref (E.2.2.2.1 + y5)]) [.int v1, .int v2] dX11_comes_29 lk_X11_97 rfl (zd1 rfl hd) rfl (Nat.le_of_ble_eq_true rfl) (ct_X11_has E hE _ (zdl rfl hd) _ _ _) (fun y7 => ?_)
    refine zs_jn (fun j45 => ∀ (s8 : Int32) (s9 : Int32) (s10 : Int32) (s11 : Nat), zSy E mu_X11_comes d M0 (none, x0) x0 (j45 s8 s9 s10 s11) 45 [(0, .ref (E.2.2.2.1 + v0)), (1, .int v1), (2, .int v2)] [.int s8, .int s9, .int s10, .ref (E.2.2.2.1 + s11)] M) (fun s8 s9 s10 s11 => ?_) (fun j45 hj45 => ?_)
    · refine zs_ior dX11_comes_45 ?_
      refine zs_stI dX11_comes_46 (fun M12 => ?_)
      refine zs_iinc (v := (v2 + 1)) (loc' := [(0, .ref (E.2.2.2.1 + v0)), (1, .int v1), (2, .int (v2 + 1))]) dX11_comes_47 2 rfl (by rfl) (Nat.le_of_ble_eq_true rfl) [1, 2, 0] rfl ?_
      refine zs_goto dX11_comes_50 rfl ?_
      exact ih (v2 + 1) M12
    refine zs_if_eq dX11_comes_32 rfl ?_ ?_
    · refine zs_iconst (v := 0) dX11_comes_44 ciconst_0 ?_
      exact hj45 0 y6 v2 y5
    refine zs_iconst (v := 1) dX11_comes_35 ciconst_1 ?_
    refine zs_aload_n dX11_comes_36 rfl 0 rfl ?_
    refine zs_getI dX11_comes_37 fl_X11_101 rfl (fun y13 => ?_)
    refine zs_ishl dX11_comes_40 ?_
    refine zs_goto dX11_comes_41 rfl ?_
    exact hj45 (1 <<< (y13 &&& 31)) y6 v2 y5
set_option maxHeartbeats 4000000 in
set_option maxRecDepth 100000 in
theorem ct_X11_comes (E : zEnv) (hE : zEok E) (d : Nat) (hd : 2 ≤ d) (v0 : Nat) (v1 : Int32) (M : zM) (x0 : zM) (hx : fp_X11_comes v0 v1 M = some x0) : zCt E mu_X11_comes d [.ref (E.2.2.2.1 + v0), .int v1] M (none, x0) := by
  refine zCt_of (μ := mu_X11_comes) (t := fp_X11_comes v0 v1 M) rfl rfl (Nat.le_of_ble_eq_true rfl) hx ?_
  change zSy E mu_X11_comes d M (none, x0) x0 (fp_X11_comes v0 v1 M) 0 [(0, .ref (E.2.2.2.1 + v0)), (1, .int v1)] [] M
  unfold fp_X11_comes
  refine zs_this (fun hth => ?_)
  refine zs_aload_n dX11_comes_0 rfl 0 rfl ?_
  refine zs_getR dX11_comes_1 fl_X11_7 rfl (fun y1 => ?_)
  refine zs_aload_n dX11_comes_4 rfl 0 rfl ?_
  refine zs_getI dX11_comes_5 fl_X11_101 rfl (fun y2 => ?_)
  refine zs_iload_n dX11_comes_8 rfl 1 rfl ?_
  refine zs_stI dX11_comes_9 (fun M3 => ?_)
  refine zs_iconst (v := 0) dX11_comes_10 ciconst_0 ?_
  refine zs_istore_n (loc' := [(0, .ref (E.2.2.2.1 + v0)), (1, .int v1), (2, .int 0)]) dX11_comes_11 rfl (Nat.le_of_ble_eq_true rfl) [1, 2, 0] rfl ?_
  refine w_X11_comes_L12 E hE d hd _ _ _ _ _ (fun M14 => ?_) _ _ _
  refine zs_aload_n dX11_comes_53 rfl 0 rfl ?_
  refine zs_dup dX11_comes_54 rfl ?_
  refine zs_getI dX11_comes_55 fl_X11_101 rfl (fun y15 => ?_)
  refine zs_iconst (v := 1) dX11_comes_58 ciconst_1 ?_
  refine zs_iadd dX11_comes_59 ?_
  refine zs_putI dX11_comes_60 fl_X11_101 ft_X11 rfl rfl rfl rfl rfl (fun M16 => ?_)
  exact zs_vret dX11_comes_63 trivial
theorem dX11_morePoints_0 : decode cX11_morePoints 0 = .ok (.aload_n 0, 1) := by decide +kernel
theorem dX11_morePoints_1 : decode cX11_morePoints 1 = .ok (.getfield 153, 3) := by decide +kernel
theorem dX11_morePoints_4 : decode cX11_morePoints 4 = .ok (.iconst 3, 1) := by decide +kernel
theorem dX11_morePoints_5 : decode cX11_morePoints 5 = .ok (.if_icmp .eq 9, 3) := by decide +kernel
theorem dX11_morePoints_8 : decode cX11_morePoints 8 = .ok (.aload_n 0, 1) := by decide +kernel
theorem dX11_morePoints_9 : decode cX11_morePoints 9 = .ok (.iconst 2, 1) := by decide +kernel
theorem dX11_morePoints_10 : decode cX11_morePoints 10 = .ok (.invokevirtual 177, 3) := by decide +kernel
theorem dX11_morePoints_13 : decode cX11_morePoints 13 = .ok (.ireturn, 1) := by decide +kernel
theorem dX11_morePoints_14 : decode cX11_morePoints 14 = .ok (.aload_n 0, 1) := by decide +kernel
theorem dX11_morePoints_15 : decode cX11_morePoints 15 = .ok (.invokevirtual 183, 3) := by decide +kernel
theorem dX11_morePoints_18 : decode cX11_morePoints 18 = .ok (.istore_n 1, 1) := by decide +kernel
theorem dX11_morePoints_19 : decode cX11_morePoints 19 = .ok (.aload_n 0, 1) := by decide +kernel
theorem dX11_morePoints_20 : decode cX11_morePoints 20 = .ok (.getfield 101, 3) := by decide +kernel
theorem dX11_morePoints_23 : decode cX11_morePoints 23 = .ok (.iload_n 1, 1) := by decide +kernel
theorem dX11_morePoints_24 : decode cX11_morePoints 24 = .ok (.iadd, 1) := by decide +kernel
theorem dX11_morePoints_25 : decode cX11_morePoints 25 = .ok (.bipush 7, 2) := by decide +kernel
theorem dX11_morePoints_27 : decode cX11_morePoints 27 = .ok (.if_icmp .le 10, 3) := by decide +kernel
theorem dX11_morePoints_30 : decode cX11_morePoints 30 = .ok (.aload_n 0, 1) := by decide +kernel
theorem dX11_morePoints_31 : decode cX11_morePoints 31 = .ok (.bipush 6, 2) := by decide +kernel
theorem dX11_morePoints_33 : decode cX11_morePoints 33 = .ok (.invokevirtual 177, 3) := by decide +kernel
theorem dX11_morePoints_36 : decode cX11_morePoints 36 = .ok (.ireturn, 1) := by decide +kernel
theorem dX11_morePoints_37 : decode cX11_morePoints 37 = .ok (.iconst 0, 1) := by decide +kernel
theorem dX11_morePoints_38 : decode cX11_morePoints 38 = .ok (.istore_n 2, 1) := by decide +kernel
theorem dX11_morePoints_39 : decode cX11_morePoints 39 = .ok (.iload_n 2, 1) := by decide +kernel
theorem dX11_morePoints_40 : decode cX11_morePoints 40 = .ok (.iload_n 1, 1) := by decide +kernel
theorem dX11_morePoints_41 : decode cX11_morePoints 41 = .ok (.if_icmp .ge 14, 3) := by decide +kernel
theorem dX11_morePoints_44 : decode cX11_morePoints 44 = .ok (.aload_n 0, 1) := by decide +kernel
theorem dX11_morePoints_45 : decode cX11_morePoints 45 = .ok (.iconst 0, 1) := by decide +kernel
theorem dX11_morePoints_46 : decode cX11_morePoints 46 = .ok (.invokevirtual 186, 3) := by decide +kernel
theorem dX11_morePoints_49 : decode cX11_morePoints 49 = .ok (.iinc 2 1, 3) := by decide +kernel
theorem dX11_morePoints_52 : decode cX11_morePoints 52 = .ok (.goto (-13), 3) := by decide +kernel
theorem dX11_morePoints_55 : decode cX11_morePoints 55 = .ok (.aload_n 0, 1) := by decide +kernel
theorem dX11_morePoints_56 : decode cX11_morePoints 56 = .ok (.invokevirtual 180, 3) := by decide +kernel
theorem dX11_morePoints_59 : decode cX11_morePoints 59 = .ok (.iconst 1, 1) := by decide +kernel
theorem dX11_morePoints_60 : decode cX11_morePoints 60 = .ok (.ireturn, 1) := by decide +kernel
def fp_X11_morePoints_L39 (v0 : Nat) (v1 : Int32) : Nat → Int32 → zM → Option (Int32 × zM)
  | 0, _, _ => none
  | n + 1, v2, M =>
    if v2 ≥ v1 then (
      (fp_X11_ahead v0 M).bind fun (M4 : zM) =>
      some (1, M4))
    else (
      (fp_X11_comes v0 0 M).bind fun (M5 : zM) =>
      fp_X11_morePoints_L39 v0 v1 n (v2 + 1) M5)
def fp_X11_morePoints (v0 : Nat) (M : zM) : Option (Int32 × zM) :=
  zthis 9 M v0 (
    (zgI 9 M v0 7).bind fun (y1 : Int32) =>
    if y1 = 3 then (
      (fp_X11_digit v0 M).bind fun (y2 : Int32) =>
      (zgI 9 M v0 0).bind fun (y3 : Int32) =>
      if (y3 + y2) ≤ 7 then (
        fp_X11_morePoints_L39 v0 y2 FU 0 M)
      else (
        (fp_X11_fails v0 6 M).bind fun p8 => zpp p8 fun (y6 : Int32) (M7 : zM) =>
        (zb y6).bind fun (r : Int32) => some (r, M7)))
    else (
      (fp_X11_fails v0 2 M).bind fun p11 => zpp p11 fun (y9 : Int32) (M10 : zM) =>
      (zb y9).bind fun (r : Int32) => some (r, M10)))
set_option maxHeartbeats 4000000 in
set_option maxRecDepth 100000 in
theorem th_X11_morePoints {v0 : Nat} {M : zM} {x0 : Int32 × zM} (h : fp_X11_morePoints v0 M = some x0) : v0 < zS M ∧ kd v0 = 9 := by
  unfold fp_X11_morePoints at h
  exact zthis_of h
set_option maxHeartbeats 4000000 in
set_option maxRecDepth 100000 in
theorem w_X11_morePoints_L39 (E : zEnv) (hE : zEok E) (d : Nat) (hd : 3 ≤ d) (M0 : zM) (x0 : Int32 × zM) (v0 : Nat) (v1 : Int32)  : ∀ (n : Nat) (v2 : Int32) (M : zM), zSy E mu_X11_morePoints d M0 (some (.int x0.1), x0.2) x0 (fp_X11_morePoints_L39 v0 v1 n v2 M) 39 [(0, .ref (E.2.2.2.1 + v0)), (1, .int v1), (2, .int v2)] [] M := by
  intro n
  induction n with
  | zero =>
    intro v2 M
    rw [fp_X11_morePoints_L39]
    exact zs_none
  | succ n ih =>
    intro v2 M
    rw [fp_X11_morePoints_L39]
    refine zs_iload_n dX11_morePoints_39 rfl 2 rfl ?_
    refine zs_iload_n dX11_morePoints_40 rfl 1 rfl ?_
    refine zs_icmp_ge dX11_morePoints_41 rfl ?_ ?_
    · refine zs_aload_n dX11_morePoints_55 rfl 0 rfl ?_
      refine zs_invVWV (rest := []) [] dX11_morePoints_56 lk_X11_180 rfl (fun _ h => th_X11_ahead h) (zd1 rfl hd) rfl (Nat.le_of_ble_eq_true rfl) (ct_X11_ahead E hE _ (zdl rfl hd) _ _) (fun M4 => ?_)
      refine zs_iconst (v := 1) dX11_morePoints_59 ciconst_1 ?_
      exact zs_iretW dX11_morePoints_60 rfl
    refine zs_aload_n dX11_morePoints_44 rfl 0 rfl ?_
    refine zs_iconst (v := 0) dX11_morePoints_45 ciconst_0 ?_
    refine zs_invVWV (rest := []) [.int 0] dX11_morePoints_46 lk_X11_186 rfl (fun _ h => th_X11_comes h) (zd1 rfl hd) rfl (Nat.le_of_ble_eq_true rfl) (ct_X11_comes E hE _ (zdl rfl hd) _ _ _) (fun M5 => ?_)
    refine zs_iinc (v := (v2 + 1)) (loc' := [(0, .ref (E.2.2.2.1 + v0)), (1, .int v1), (2, .int (v2 + 1))]) dX11_morePoints_49 2 rfl (by rfl) (Nat.le_of_ble_eq_true rfl) [1, 2, 0] rfl ?_
    refine zs_goto dX11_morePoints_52 rfl ?_
    exact ih (v2 + 1) M5
set_option maxHeartbeats 4000000 in
set_option maxRecDepth 100000 in
theorem ct_X11_morePoints (E : zEnv) (hE : zEok E) (d : Nat) (hd : 3 ≤ d) (v0 : Nat) (M : zM) (x0 : Int32 × zM) (hx : fp_X11_morePoints v0 M = some x0) : zCt E mu_X11_morePoints d [.ref (E.2.2.2.1 + v0)] M (some (.int x0.1), x0.2) := by
  refine zCt_of (μ := mu_X11_morePoints) (t := fp_X11_morePoints v0 M) rfl rfl (Nat.le_of_ble_eq_true rfl) hx ?_
  change zSy E mu_X11_morePoints d M (some (.int x0.1), x0.2) x0 (fp_X11_morePoints v0 M) 0 [(0, .ref (E.2.2.2.1 + v0))] [] M
  unfold fp_X11_morePoints
  refine zs_this (fun hth => ?_)
  refine zs_aload_n dX11_morePoints_0 rfl 0 rfl ?_
  refine zs_getI dX11_morePoints_1 fl_X11_153 rfl (fun y1 => ?_)
  refine zs_iconst (v := 3) dX11_morePoints_4 ciconst_3 ?_
  refine zs_icmp_eq dX11_morePoints_5 rfl ?_ ?_
  · refine zs_aload_n dX11_morePoints_14 rfl 0 rfl ?_
    refine zs_invVPI (rest := []) [] dX11_morePoints_15 lk_X11_183 rfl (fun _ h => th_X11_digit h) (zd1 rfl hd) rfl (Nat.le_of_ble_eq_true rfl) (ct_X11_digit E hE _ (zdl rfl hd) _ _) (fun y2 => ?_)
    refine zs_istore_n (loc' := [(0, .ref (E.2.2.2.1 + v0)), (1, .int y2)]) dX11_morePoints_18 rfl (Nat.le_of_ble_eq_true rfl) [1, 0] rfl ?_
    refine zs_aload_n dX11_morePoints_19 rfl 0 rfl ?_
    refine zs_getI dX11_morePoints_20 fl_X11_101 rfl (fun y3 => ?_)
    refine zs_iload_n dX11_morePoints_23 rfl 1 rfl ?_
    refine zs_iadd dX11_morePoints_24 ?_
    refine zs_bipush (v := 7) dX11_morePoints_25 cbipush_7 ?_
    refine zs_icmp_le dX11_morePoints_27 rfl ?_ ?_
    · refine zs_iconst (v := 0) dX11_morePoints_37 ciconst_0 ?_
      refine zs_istore_n (loc' := [(0, .ref (E.2.2.2.1 + v0)), (1, .int y2), (2, .int 0)]) dX11_morePoints_38 rfl (Nat.le_of_ble_eq_true rfl) [1, 2, 0] rfl ?_
      exact w_X11_morePoints_L39 E hE d hd _ _ _ _ _ _ _
    refine zs_aload_n dX11_morePoints_30 rfl 0 rfl ?_
    refine zs_bipush (v := 6) dX11_morePoints_31 cbipush_6 ?_
    refine zs_invVWI (rest := []) [.int 6] dX11_morePoints_33 lk_X11_177 rfl (fun _ h => th_X11_fails h) (zd1 rfl hd) rfl (Nat.le_of_ble_eq_true rfl) (ct_X11_fails E hE _ (zdl rfl hd) _ _ _) (fun y6 M7 => ?_)
    exact zs_zretW dX11_morePoints_36 rfl
  refine zs_aload_n dX11_morePoints_8 rfl 0 rfl ?_
  refine zs_iconst (v := 2) dX11_morePoints_9 ciconst_2 ?_
  refine zs_invVWI (rest := []) [.int 2] dX11_morePoints_10 lk_X11_177 rfl (fun _ h => th_X11_fails h) (zd1 rfl hd) rfl (Nat.le_of_ble_eq_true rfl) (ct_X11_fails E hE _ (zdl rfl hd) _ _ _) (fun y9 M10 => ?_)
  exact zs_zretW dX11_morePoints_13 rfl
theorem dX11_pointHere_0 : decode cX11_pointHere 0 = .ok (.aload_n 0, 1) := by decide +kernel
theorem dX11_pointHere_1 : decode cX11_pointHere 1 = .ok (.getfield 153, 3) := by decide +kernel
theorem dX11_pointHere_4 : decode cX11_pointHere 4 = .ok (.iconst 3, 1) := by decide +kernel
theorem dX11_pointHere_5 : decode cX11_pointHere 5 = .ok (.if_icmp .eq 12, 3) := by decide +kernel
theorem dX11_pointHere_8 : decode cX11_pointHere 8 = .ok (.aload_n 0, 1) := by decide +kernel
theorem dX11_pointHere_9 : decode cX11_pointHere 9 = .ok (.iconst 2, 1) := by decide +kernel
theorem dX11_pointHere_10 : decode cX11_pointHere 10 = .ok (.invokevirtual 177, 3) := by decide +kernel
theorem dX11_pointHere_13 : decode cX11_pointHere 13 = .ok (.pop, 1) := by decide +kernel
theorem dX11_pointHere_14 : decode cX11_pointHere 14 = .ok (.goto 45, 3) := by decide +kernel
theorem dX11_pointHere_17 : decode cX11_pointHere 17 = .ok (.aload_n 0, 1) := by decide +kernel
theorem dX11_pointHere_18 : decode cX11_pointHere 18 = .ok (.invokevirtual 183, 3) := by decide +kernel
theorem dX11_pointHere_21 : decode cX11_pointHere 21 = .ok (.aload_n 0, 1) := by decide +kernel
theorem dX11_pointHere_22 : decode cX11_pointHere 22 = .ok (.getfield 101, 3) := by decide +kernel
theorem dX11_pointHere_25 : decode cX11_pointHere 25 = .ok (.if_icmp .lt 12, 3) := by decide +kernel
theorem dX11_pointHere_28 : decode cX11_pointHere 28 = .ok (.aload_n 0, 1) := by decide +kernel
theorem dX11_pointHere_29 : decode cX11_pointHere 29 = .ok (.iconst 3, 1) := by decide +kernel
theorem dX11_pointHere_30 : decode cX11_pointHere 30 = .ok (.invokevirtual 177, 3) := by decide +kernel
theorem dX11_pointHere_33 : decode cX11_pointHere 33 = .ok (.pop, 1) := by decide +kernel
theorem dX11_pointHere_34 : decode cX11_pointHere 34 = .ok (.goto 25, 3) := by decide +kernel
theorem dX11_pointHere_37 : decode cX11_pointHere 37 = .ok (.aload_n 0, 1) := by decide +kernel
theorem dX11_pointHere_38 : decode cX11_pointHere 38 = .ok (.invokevirtual 183, 3) := by decide +kernel
theorem dX11_pointHere_41 : decode cX11_pointHere 41 = .ok (.iload_n 1, 1) := by decide +kernel
theorem dX11_pointHere_42 : decode cX11_pointHere 42 = .ok (.if_icmp .ne 12, 3) := by decide +kernel
theorem dX11_pointHere_45 : decode cX11_pointHere 45 = .ok (.aload_n 0, 1) := by decide +kernel
theorem dX11_pointHere_46 : decode cX11_pointHere 46 = .ok (.iconst 4, 1) := by decide +kernel
theorem dX11_pointHere_47 : decode cX11_pointHere 47 = .ok (.invokevirtual 177, 3) := by decide +kernel
theorem dX11_pointHere_50 : decode cX11_pointHere 50 = .ok (.pop, 1) := by decide +kernel
theorem dX11_pointHere_51 : decode cX11_pointHere 51 = .ok (.goto 8, 3) := by decide +kernel
theorem dX11_pointHere_54 : decode cX11_pointHere 54 = .ok (.aload_n 0, 1) := by decide +kernel
theorem dX11_pointHere_55 : decode cX11_pointHere 55 = .ok (.invokevirtual 183, 3) := by decide +kernel
theorem dX11_pointHere_58 : decode cX11_pointHere 58 = .ok (.ireturn, 1) := by decide +kernel
theorem dX11_pointHere_59 : decode cX11_pointHere 59 = .ok (.iconst (-1), 1) := by decide +kernel
theorem dX11_pointHere_60 : decode cX11_pointHere 60 = .ok (.ireturn, 1) := by decide +kernel
def fp_X11_pointHere (v0 : Nat) (v1 : Int32) (M : zM) : Option (Int32 × zM) :=
  zthis 9 M v0 (
    (zgI 9 M v0 7).bind fun (y1 : Int32) =>
    if y1 = 3 then (
      (fp_X11_digit v0 M).bind fun (y2 : Int32) =>
      (zgI 9 M v0 0).bind fun (y3 : Int32) =>
      if y2 < y3 then (
        (fp_X11_digit v0 M).bind fun (y4 : Int32) =>
        if y4 ≠ v1 then (
          (fp_X11_digit v0 M).bind fun (y5 : Int32) =>
          some (y5, M))
        else (
          (fp_X11_fails v0 4 M).bind fun p8 => zpp p8 fun (y6 : Int32) (M7 : zM) =>
          some ((-1), M7)))
      else (
        (fp_X11_fails v0 3 M).bind fun p11 => zpp p11 fun (y9 : Int32) (M10 : zM) =>
        some ((-1), M10)))
    else (
      (fp_X11_fails v0 2 M).bind fun p14 => zpp p14 fun (y12 : Int32) (M13 : zM) =>
      some ((-1), M13)))
set_option maxHeartbeats 4000000 in
set_option maxRecDepth 100000 in
theorem th_X11_pointHere {v0 : Nat} {v1 : Int32} {M : zM} {x0 : Int32 × zM} (h : fp_X11_pointHere v0 v1 M = some x0) : v0 < zS M ∧ kd v0 = 9 := by
  unfold fp_X11_pointHere at h
  exact zthis_of h
set_option maxHeartbeats 4000000 in
set_option maxRecDepth 100000 in
theorem ct_X11_pointHere (E : zEnv) (hE : zEok E) (d : Nat) (hd : 3 ≤ d) (v0 : Nat) (v1 : Int32) (M : zM) (x0 : Int32 × zM) (hx : fp_X11_pointHere v0 v1 M = some x0) : zCt E mu_X11_pointHere d [.ref (E.2.2.2.1 + v0), .int v1] M (some (.int x0.1), x0.2) := by
  refine zCt_of (μ := mu_X11_pointHere) (t := fp_X11_pointHere v0 v1 M) rfl rfl (Nat.le_of_ble_eq_true rfl) hx ?_
  change zSy E mu_X11_pointHere d M (some (.int x0.1), x0.2) x0 (fp_X11_pointHere v0 v1 M) 0 [(0, .ref (E.2.2.2.1 + v0)), (1, .int v1)] [] M
  unfold fp_X11_pointHere
  refine zs_this (fun hth => ?_)
  refine zs_aload_n dX11_pointHere_0 rfl 0 rfl ?_
  refine zs_getI dX11_pointHere_1 fl_X11_153 rfl (fun y1 => ?_)
  refine zs_iconst (v := 3) dX11_pointHere_4 ciconst_3 ?_
  refine zs_icmp_eq dX11_pointHere_5 rfl ?_ ?_
  · refine zs_aload_n dX11_pointHere_17 rfl 0 rfl ?_
    refine zs_invVPI (rest := []) [] dX11_pointHere_18 lk_X11_183 rfl (fun _ h => th_X11_digit h) (zd1 rfl hd) rfl (Nat.le_of_ble_eq_true rfl) (ct_X11_digit E hE _ (zdl rfl hd) _ _) (fun y2 => ?_)
    refine zs_aload_n dX11_pointHere_21 rfl 0 rfl ?_
    refine zs_getI dX11_pointHere_22 fl_X11_101 rfl (fun y3 => ?_)
    refine zs_icmp_lt dX11_pointHere_25 rfl ?_ ?_
    · refine zs_aload_n dX11_pointHere_37 rfl 0 rfl ?_
      refine zs_invVPI (rest := []) [] dX11_pointHere_38 lk_X11_183 rfl (fun _ h => th_X11_digit h) (zd1 rfl hd) rfl (Nat.le_of_ble_eq_true rfl) (ct_X11_digit E hE _ (zdl rfl hd) _ _) (fun y4 => ?_)
      refine zs_iload_n dX11_pointHere_41 rfl 1 rfl ?_
      refine zs_icmp_ne dX11_pointHere_42 rfl ?_ ?_
      · refine zs_aload_n dX11_pointHere_54 rfl 0 rfl ?_
        refine zs_invVPI (rest := []) [] dX11_pointHere_55 lk_X11_183 rfl (fun _ h => th_X11_digit h) (zd1 rfl hd) rfl (Nat.le_of_ble_eq_true rfl) (ct_X11_digit E hE _ (zdl rfl hd) _ _) (fun y5 => ?_)
        exact zs_iretW dX11_pointHere_58 rfl
      refine zs_aload_n dX11_pointHere_45 rfl 0 rfl ?_
      refine zs_iconst (v := 4) dX11_pointHere_46 ciconst_4 ?_
      refine zs_invVWI (rest := []) [.int 4] dX11_pointHere_47 lk_X11_177 rfl (fun _ h => th_X11_fails h) (zd1 rfl hd) rfl (Nat.le_of_ble_eq_true rfl) (ct_X11_fails E hE _ (zdl rfl hd) _ _ _) (fun y6 M7 => ?_)
      refine zs_pop dX11_pointHere_50 rfl ?_
      refine zs_goto dX11_pointHere_51 rfl ?_
      refine zs_iconst (v := (-1)) dX11_pointHere_59 ciconst_m1 ?_
      exact zs_iretW dX11_pointHere_60 rfl
    refine zs_aload_n dX11_pointHere_28 rfl 0 rfl ?_
    refine zs_iconst (v := 3) dX11_pointHere_29 ciconst_3 ?_
    refine zs_invVWI (rest := []) [.int 3] dX11_pointHere_30 lk_X11_177 rfl (fun _ h => th_X11_fails h) (zd1 rfl hd) rfl (Nat.le_of_ble_eq_true rfl) (ct_X11_fails E hE _ (zdl rfl hd) _ _ _) (fun y9 M10 => ?_)
    refine zs_pop dX11_pointHere_33 rfl ?_
    refine zs_goto dX11_pointHere_34 rfl ?_
    refine zs_iconst (v := (-1)) dX11_pointHere_59 ciconst_m1 ?_
    exact zs_iretW dX11_pointHere_60 rfl
  refine zs_aload_n dX11_pointHere_8 rfl 0 rfl ?_
  refine zs_iconst (v := 2) dX11_pointHere_9 ciconst_2 ?_
  refine zs_invVWI (rest := []) [.int 2] dX11_pointHere_10 lk_X11_177 rfl (fun _ h => th_X11_fails h) (zd1 rfl hd) rfl (Nat.le_of_ble_eq_true rfl) (ct_X11_fails E hE _ (zdl rfl hd) _ _ _) (fun y12 M13 => ?_)
  refine zs_pop dX11_pointHere_13 rfl ?_
  refine zs_goto dX11_pointHere_14 rfl ?_
  refine zs_iconst (v := (-1)) dX11_pointHere_59 ciconst_m1 ?_
  exact zs_iretW dX11_pointHere_60 rfl
theorem dX11_two_0 : decode cX11_two 0 = .ok (.aload_n 0, 1) := by decide +kernel
theorem dX11_two_1 : decode cX11_two 1 = .ok (.iconst (-1), 1) := by decide +kernel
theorem dX11_two_2 : decode cX11_two 2 = .ok (.invokevirtual 189, 3) := by decide +kernel
theorem dX11_two_5 : decode cX11_two 5 = .ok (.istore_n 2, 1) := by decide +kernel
theorem dX11_two_6 : decode cX11_two 6 = .ok (.iload_n 2, 1) := by decide +kernel
theorem dX11_two_7 : decode cX11_two 7 = .ok (.iconst (-1), 1) := by decide +kernel
theorem dX11_two_8 : decode cX11_two 8 = .ok (.if_icmp .ne 5, 3) := by decide +kernel
theorem dX11_two_11 : decode cX11_two 11 = .ok (.iconst 0, 1) := by decide +kernel
theorem dX11_two_12 : decode cX11_two 12 = .ok (.ireturn, 1) := by decide +kernel
theorem dX11_two_13 : decode cX11_two 13 = .ok (.aload_n 0, 1) := by decide +kernel
theorem dX11_two_14 : decode cX11_two 14 = .ok (.invokevirtual 180, 3) := by decide +kernel
theorem dX11_two_17 : decode cX11_two 17 = .ok (.aload_n 0, 1) := by decide +kernel
theorem dX11_two_18 : decode cX11_two 18 = .ok (.iload_n 2, 1) := by decide +kernel
theorem dX11_two_19 : decode cX11_two 19 = .ok (.invokevirtual 189, 3) := by decide +kernel
theorem dX11_two_22 : decode cX11_two 22 = .ok (.istore_n 3, 1) := by decide +kernel
theorem dX11_two_23 : decode cX11_two 23 = .ok (.iload_n 3, 1) := by decide +kernel
theorem dX11_two_24 : decode cX11_two 24 = .ok (.iconst (-1), 1) := by decide +kernel
theorem dX11_two_25 : decode cX11_two 25 = .ok (.if_icmp .ne 5, 3) := by decide +kernel
theorem dX11_two_28 : decode cX11_two 28 = .ok (.iconst 0, 1) := by decide +kernel
theorem dX11_two_29 : decode cX11_two 29 = .ok (.ireturn, 1) := by decide +kernel
theorem dX11_two_30 : decode cX11_two 30 = .ok (.aload_n 0, 1) := by decide +kernel
theorem dX11_two_31 : decode cX11_two 31 = .ok (.getfield 7, 3) := by decide +kernel
theorem dX11_two_34 : decode cX11_two 34 = .ok (.iload_n 2, 1) := by decide +kernel
theorem dX11_two_35 : decode cX11_two 35 = .ok (.iaload, 1) := by decide +kernel
theorem dX11_two_36 : decode cX11_two 36 = .ok (.iload_n 3, 1) := by decide +kernel
theorem dX11_two_37 : decode cX11_two 37 = .ok (.invokestatic 97, 3) := by decide +kernel
theorem dX11_two_40 : decode cX11_two 40 = .ok (.iload_n 1, 1) := by decide +kernel
theorem dX11_two_41 : decode cX11_two 41 = .ok (.if_icmp .eq 9, 3) := by decide +kernel
theorem dX11_two_44 : decode cX11_two 44 = .ok (.aload_n 0, 1) := by decide +kernel
theorem dX11_two_45 : decode cX11_two 45 = .ok (.iconst 5, 1) := by decide +kernel
theorem dX11_two_46 : decode cX11_two 46 = .ok (.invokevirtual 177, 3) := by decide +kernel
theorem dX11_two_49 : decode cX11_two 49 = .ok (.ireturn, 1) := by decide +kernel
theorem dX11_two_50 : decode cX11_two 50 = .ok (.iload_n 1, 1) := by decide +kernel
theorem dX11_two_51 : decode cX11_two 51 = .ok (.ifCond .eq 12, 3) := by decide +kernel
theorem dX11_two_54 : decode cX11_two 54 = .ok (.aload_n 0, 1) := by decide +kernel
theorem dX11_two_55 : decode cX11_two 55 = .ok (.iload_n 2, 1) := by decide +kernel
theorem dX11_two_56 : decode cX11_two 56 = .ok (.iload_n 3, 1) := by decide +kernel
theorem dX11_two_57 : decode cX11_two 57 = .ok (.invokevirtual 192, 3) := by decide +kernel
theorem dX11_two_60 : decode cX11_two 60 = .ok (.goto 9, 3) := by decide +kernel
theorem dX11_two_63 : decode cX11_two 63 = .ok (.aload_n 0, 1) := by decide +kernel
theorem dX11_two_64 : decode cX11_two 64 = .ok (.iload_n 2, 1) := by decide +kernel
theorem dX11_two_65 : decode cX11_two 65 = .ok (.iload_n 3, 1) := by decide +kernel
theorem dX11_two_66 : decode cX11_two 66 = .ok (.invokevirtual 108, 3) := by decide +kernel
theorem dX11_two_69 : decode cX11_two 69 = .ok (.aload_n 0, 1) := by decide +kernel
theorem dX11_two_70 : decode cX11_two 70 = .ok (.invokevirtual 180, 3) := by decide +kernel
theorem dX11_two_73 : decode cX11_two 73 = .ok (.iconst 1, 1) := by decide +kernel
theorem dX11_two_74 : decode cX11_two 74 = .ok (.ireturn, 1) := by decide +kernel
def fp_X11_two (v0 : Nat) (v1 : Int32) (M : zM) : Option (Int32 × zM) :=
  zthis 9 M v0 (
    (fp_X11_pointHere v0 (-1) M).bind fun p3 => zpp p3 fun (y1 : Int32) (M2 : zM) =>
    if y1 ≠ (-1) then (
      (fp_X11_ahead v0 M2).bind fun (M4 : zM) =>
      (fp_X11_pointHere v0 y1 M4).bind fun p7 => zpp p7 fun (y5 : Int32) (M6 : zM) =>
      if y5 ≠ (-1) then (
        (zgR 9 M6 v0 2).bind fun (y8 : Nat) =>
        (zlI 100 M6 y8 y1).bind fun (y9 : Int32) =>
        (fp_X11_has y9 y5).bind fun (y10 : Int32) =>
        if y10 = v1 then (
          if v1 = 0 then (
            (fp_X11_flips v0 y1 y5 M6).bind fun (M11 : zM) =>
            (fp_X11_ahead v0 M11).bind fun (M12 : zM) =>
            some (1, M12))
          else (
            (fp_X11_swings v0 y1 y5 M6).bind fun (M13 : zM) =>
            (fp_X11_ahead v0 M13).bind fun (M14 : zM) =>
            some (1, M14)))
        else (
          (fp_X11_fails v0 5 M6).bind fun p17 => zpp p17 fun (y15 : Int32) (M16 : zM) =>
          (zb y15).bind fun (r : Int32) => some (r, M16)))
      else (
        some (0, M6)))
    else (
      some (0, M2)))
set_option maxHeartbeats 4000000 in
set_option maxRecDepth 100000 in
theorem th_X11_two {v0 : Nat} {v1 : Int32} {M : zM} {x0 : Int32 × zM} (h : fp_X11_two v0 v1 M = some x0) : v0 < zS M ∧ kd v0 = 9 := by
  unfold fp_X11_two at h
  exact zthis_of h
set_option maxHeartbeats 4000000 in
set_option maxRecDepth 100000 in
theorem ct_X11_two (E : zEnv) (hE : zEok E) (d : Nat) (hd : 4 ≤ d) (v0 : Nat) (v1 : Int32) (M : zM) (x0 : Int32 × zM) (hx : fp_X11_two v0 v1 M = some x0) : zCt E mu_X11_two d [.ref (E.2.2.2.1 + v0), .int v1] M (some (.int x0.1), x0.2) := by
  refine zCt_of (μ := mu_X11_two) (t := fp_X11_two v0 v1 M) rfl rfl (Nat.le_of_ble_eq_true rfl) hx ?_
  change zSy E mu_X11_two d M (some (.int x0.1), x0.2) x0 (fp_X11_two v0 v1 M) 0 [(0, .ref (E.2.2.2.1 + v0)), (1, .int v1)] [] M
  unfold fp_X11_two
  refine zs_this (fun hth => ?_)
  refine zs_aload_n dX11_two_0 rfl 0 rfl ?_
  refine zs_iconst (v := (-1)) dX11_two_1 ciconst_m1 ?_
  refine zs_invVWI (rest := []) [.int (-1)] dX11_two_2 lk_X11_189 rfl (fun _ h => th_X11_pointHere h) (zd1 rfl hd) rfl (Nat.le_of_ble_eq_true rfl) (ct_X11_pointHere E hE _ (zdl rfl hd) _ _ _) (fun y1 M2 => ?_)
  refine zs_istore_n (loc' := [(0, .ref (E.2.2.2.1 + v0)), (1, .int v1), (2, .int y1)]) dX11_two_5 rfl (Nat.le_of_ble_eq_true rfl) [1, 2, 0] rfl ?_
  refine zs_iload_n dX11_two_6 rfl 2 rfl ?_
  refine zs_iconst (v := (-1)) dX11_two_7 ciconst_m1 ?_
  refine zs_icmp_ne dX11_two_8 rfl ?_ ?_
  · refine zs_aload_n dX11_two_13 rfl 0 rfl ?_
    refine zs_invVWV (rest := []) [] dX11_two_14 lk_X11_180 rfl (fun _ h => th_X11_ahead h) (zd1 rfl hd) rfl (Nat.le_of_ble_eq_true rfl) (ct_X11_ahead E hE _ (zdl rfl hd) _ _) (fun M4 => ?_)
    refine zs_aload_n dX11_two_17 rfl 0 rfl ?_
    refine zs_iload_n dX11_two_18 rfl 2 rfl ?_
    refine zs_invVWI (rest := []) [.int y1] dX11_two_19 lk_X11_189 rfl (fun _ h => th_X11_pointHere h) (zd1 rfl hd) rfl (Nat.le_of_ble_eq_true rfl) (ct_X11_pointHere E hE _ (zdl rfl hd) _ _ _) (fun y5 M6 => ?_)
    refine zs_istore_n (loc' := [(0, .ref (E.2.2.2.1 + v0)), (1, .int v1), (2, .int y1), (3, .int y5)]) dX11_two_22 rfl (Nat.le_of_ble_eq_true rfl) [1, 2, 3, 0] rfl ?_
    refine zs_iload_n dX11_two_23 rfl 3 rfl ?_
    refine zs_iconst (v := (-1)) dX11_two_24 ciconst_m1 ?_
    refine zs_icmp_ne dX11_two_25 rfl ?_ ?_
    · refine zs_aload_n dX11_two_30 rfl 0 rfl ?_
      refine zs_getR dX11_two_31 fl_X11_7 rfl (fun y8 => ?_)
      refine zs_iload_n dX11_two_34 rfl 2 rfl ?_
      refine zs_ldI dX11_two_35 (fun y9 => ?_)
      refine zs_iload_n dX11_two_36 rfl 3 rfl ?_
      refine zs_invSPI (rest := []) [.int y9, .int y5] dX11_two_37 lk_X11_97 rfl (zd1 rfl hd) rfl (Nat.le_of_ble_eq_true rfl) (ct_X11_has E hE _ (zdl rfl hd) _ _ _) (fun y10 => ?_)
      refine zs_iload_n dX11_two_40 rfl 1 rfl ?_
      refine zs_icmp_eq dX11_two_41 rfl ?_ ?_
      · refine zs_iload_n dX11_two_50 rfl 1 rfl ?_
        refine zs_if_eq dX11_two_51 rfl ?_ ?_
        · refine zs_aload_n dX11_two_63 rfl 0 rfl ?_
          refine zs_iload_n dX11_two_64 rfl 2 rfl ?_
          refine zs_iload_n dX11_two_65 rfl 3 rfl ?_
          refine zs_invVWV (rest := []) [.int y1, .int y5] dX11_two_66 lk_X11_108 rfl (fun _ h => th_X11_flips h) (zd1 rfl hd) rfl (Nat.le_of_ble_eq_true rfl) (ct_X11_flips E hE _ (zdl rfl hd) _ _ _ _) (fun M11 => ?_)
          refine zs_aload_n dX11_two_69 rfl 0 rfl ?_
          refine zs_invVWV (rest := []) [] dX11_two_70 lk_X11_180 rfl (fun _ h => th_X11_ahead h) (zd1 rfl hd) rfl (Nat.le_of_ble_eq_true rfl) (ct_X11_ahead E hE _ (zdl rfl hd) _ _) (fun M12 => ?_)
          refine zs_iconst (v := 1) dX11_two_73 ciconst_1 ?_
          exact zs_iretW dX11_two_74 rfl
        refine zs_aload_n dX11_two_54 rfl 0 rfl ?_
        refine zs_iload_n dX11_two_55 rfl 2 rfl ?_
        refine zs_iload_n dX11_two_56 rfl 3 rfl ?_
        refine zs_invVWV (rest := []) [.int y1, .int y5] dX11_two_57 lk_X11_192 rfl (fun _ h => th_X11_swings h) (zd1 rfl hd) rfl (Nat.le_of_ble_eq_true rfl) (ct_X11_swings E hE _ (zdl rfl hd) _ _ _ _) (fun M13 => ?_)
        refine zs_goto dX11_two_60 rfl ?_
        refine zs_aload_n dX11_two_69 rfl 0 rfl ?_
        refine zs_invVWV (rest := []) [] dX11_two_70 lk_X11_180 rfl (fun _ h => th_X11_ahead h) (zd1 rfl hd) rfl (Nat.le_of_ble_eq_true rfl) (ct_X11_ahead E hE _ (zdl rfl hd) _ _) (fun M14 => ?_)
        refine zs_iconst (v := 1) dX11_two_73 ciconst_1 ?_
        exact zs_iretW dX11_two_74 rfl
      refine zs_aload_n dX11_two_44 rfl 0 rfl ?_
      refine zs_iconst (v := 5) dX11_two_45 ciconst_5 ?_
      refine zs_invVWI (rest := []) [.int 5] dX11_two_46 lk_X11_177 rfl (fun _ h => th_X11_fails h) (zd1 rfl hd) rfl (Nat.le_of_ble_eq_true rfl) (ct_X11_fails E hE _ (zdl rfl hd) _ _ _) (fun y15 M16 => ?_)
      exact zs_zretW dX11_two_49 rfl
    refine zs_iconst (v := 0) dX11_two_28 ciconst_0 ?_
    exact zs_iretW dX11_two_29 rfl
  refine zs_iconst (v := 0) dX11_two_11 ciconst_0 ?_
  exact zs_iretW dX11_two_12 rfl

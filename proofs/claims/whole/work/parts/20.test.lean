theorem dX2_pair_0 : decode cX2_pair 0 = .ok (.iload_n 0, 1) := by decide +kernel
theorem dX2_pair_1 : decode cX2_pair 1 = .ok (.iload_n 1, 1) := by decide +kernel
theorem dX2_pair_2 : decode cX2_pair 2 = .ok (.if_icmp .le 15, 3) := by decide +kernel
theorem dX2_pair_5 : decode cX2_pair 5 = .ok (.iload_n 0, 1) := by decide +kernel
theorem dX2_pair_6 : decode cX2_pair 6 = .ok (.iload_n 0, 1) := by decide +kernel
theorem dX2_pair_7 : decode cX2_pair 7 = .ok (.iconst 1, 1) := by decide +kernel
theorem dX2_pair_8 : decode cX2_pair 8 = .ok (.isub, 1) := by decide +kernel
theorem dX2_pair_9 : decode cX2_pair 9 = .ok (.imul, 1) := by decide +kernel
theorem dX2_pair_10 : decode cX2_pair 10 = .ok (.iconst 2, 1) := by decide +kernel
theorem dX2_pair_11 : decode cX2_pair 11 = .ok (.idiv, 1) := by decide +kernel
theorem dX2_pair_12 : decode cX2_pair 12 = .ok (.iload_n 1, 1) := by decide +kernel
theorem dX2_pair_13 : decode cX2_pair 13 = .ok (.iadd, 1) := by decide +kernel
theorem dX2_pair_14 : decode cX2_pair 14 = .ok (.goto 12, 3) := by decide +kernel
theorem dX2_pair_17 : decode cX2_pair 17 = .ok (.iload_n 1, 1) := by decide +kernel
theorem dX2_pair_18 : decode cX2_pair 18 = .ok (.iload_n 1, 1) := by decide +kernel
theorem dX2_pair_19 : decode cX2_pair 19 = .ok (.iconst 1, 1) := by decide +kernel
theorem dX2_pair_20 : decode cX2_pair 20 = .ok (.isub, 1) := by decide +kernel
theorem dX2_pair_21 : decode cX2_pair 21 = .ok (.imul, 1) := by decide +kernel
theorem dX2_pair_22 : decode cX2_pair 22 = .ok (.iconst 2, 1) := by decide +kernel
theorem dX2_pair_23 : decode cX2_pair 23 = .ok (.idiv, 1) := by decide +kernel
theorem dX2_pair_24 : decode cX2_pair 24 = .ok (.iload_n 0, 1) := by decide +kernel
theorem dX2_pair_25 : decode cX2_pair 25 = .ok (.iadd, 1) := by decide +kernel
theorem dX2_pair_26 : decode cX2_pair 26 = .ok (.ireturn, 1) := by decide +kernel
def fp_X2_pair (v0 : Int32) (v1 : Int32) : Option (Int32) :=
  if v0 ≤ v1 then (
    some (((v1 * (v1 - 1)) / 2) + v0))
  else (
    some (((v0 * (v0 - 1)) / 2) + v1))
set_option maxHeartbeats 4000000 in
set_option maxRecDepth 100000 in
theorem ct_X2_pair (E : zEnv) (hE : zEok E) (d : Nat) (hd : 1 ≤ d) (v0 : Int32) (v1 : Int32) (M : zM) (x0 : Int32) (hx : fp_X2_pair v0 v1 = some x0) : zCt E mu_X2_pair d [.int v0, .int v1] M (some (.int x0), M) := by
  refine zCt_of (μ := mu_X2_pair) (t := fp_X2_pair v0 v1) rfl rfl (Nat.le_of_ble_eq_true rfl) hx ?_
  change zSy E mu_X2_pair d M (some (.int x0), M) x0 (fp_X2_pair v0 v1) 0 [(0, .int v0), (1, .int v1)] [] M
  unfold fp_X2_pair
  refine zs_iload_n dX2_pair_0 rfl 0 rfl ?_
  refine zs_iload_n dX2_pair_1 rfl 1 rfl ?_
  refine zs_icmp_le dX2_pair_2 rfl ?_ ?_
  · refine zs_iload_n dX2_pair_17 rfl 1 rfl ?_
    refine zs_iload_n dX2_pair_18 rfl 1 rfl ?_
    refine zs_iconst (v := 1) dX2_pair_19 ciconst_1 ?_
    refine zs_isub dX2_pair_20 ?_
    refine zs_imul dX2_pair_21 ?_
    refine zs_iconst (v := 2) dX2_pair_22 ciconst_2 ?_
    refine zs_idivK dX2_pair_23 (by decide) ?_
    refine zs_iload_n dX2_pair_24 rfl 0 rfl ?_
    refine zs_iadd dX2_pair_25 ?_
    exact zs_iretP dX2_pair_26 rfl
  refine zs_iload_n dX2_pair_5 rfl 0 rfl ?_
  refine zs_iload_n dX2_pair_6 rfl 0 rfl ?_
  refine zs_iconst (v := 1) dX2_pair_7 ciconst_1 ?_
  refine zs_isub dX2_pair_8 ?_
  refine zs_imul dX2_pair_9 ?_
  refine zs_iconst (v := 2) dX2_pair_10 ciconst_2 ?_
  refine zs_idivK dX2_pair_11 (by decide) ?_
  refine zs_iload_n dX2_pair_12 rfl 1 rfl ?_
  refine zs_iadd dX2_pair_13 ?_
  refine zs_goto dX2_pair_14 rfl ?_
  exact zs_iretP dX2_pair_26 rfl
theorem dJ6_bitCount_0f7a4_0 : decode cJ6_bitCount_0f7a4 0 = .ok (.iload_n 0, 1) := by decide +kernel
theorem dJ6_bitCount_0f7a4_1 : decode cJ6_bitCount_0f7a4 1 = .ok (.iload_n 0, 1) := by decide +kernel
theorem dJ6_bitCount_0f7a4_2 : decode cJ6_bitCount_0f7a4 2 = .ok (.iconst 1, 1) := by decide +kernel
theorem dJ6_bitCount_0f7a4_3 : decode cJ6_bitCount_0f7a4 3 = .ok (.iushr, 1) := by decide +kernel
theorem dJ6_bitCount_0f7a4_4 : decode cJ6_bitCount_0f7a4 4 = .ok (.ldc_w 265, 3) := by decide +kernel
theorem dJ6_bitCount_0f7a4_7 : decode cJ6_bitCount_0f7a4 7 = .ok (.iand, 1) := by decide +kernel
theorem dJ6_bitCount_0f7a4_8 : decode cJ6_bitCount_0f7a4 8 = .ok (.isub, 1) := by decide +kernel
theorem dJ6_bitCount_0f7a4_9 : decode cJ6_bitCount_0f7a4 9 = .ok (.istore_n 0, 1) := by decide +kernel
theorem dJ6_bitCount_0f7a4_10 : decode cJ6_bitCount_0f7a4 10 = .ok (.iload_n 0, 1) := by decide +kernel
theorem dJ6_bitCount_0f7a4_11 : decode cJ6_bitCount_0f7a4 11 = .ok (.ldc_w 266, 3) := by decide +kernel
theorem dJ6_bitCount_0f7a4_14 : decode cJ6_bitCount_0f7a4 14 = .ok (.iand, 1) := by decide +kernel
theorem dJ6_bitCount_0f7a4_15 : decode cJ6_bitCount_0f7a4 15 = .ok (.iload_n 0, 1) := by decide +kernel
theorem dJ6_bitCount_0f7a4_16 : decode cJ6_bitCount_0f7a4 16 = .ok (.iconst 2, 1) := by decide +kernel
theorem dJ6_bitCount_0f7a4_17 : decode cJ6_bitCount_0f7a4 17 = .ok (.iushr, 1) := by decide +kernel
theorem dJ6_bitCount_0f7a4_18 : decode cJ6_bitCount_0f7a4 18 = .ok (.ldc_w 266, 3) := by decide +kernel
theorem dJ6_bitCount_0f7a4_21 : decode cJ6_bitCount_0f7a4 21 = .ok (.iand, 1) := by decide +kernel
theorem dJ6_bitCount_0f7a4_22 : decode cJ6_bitCount_0f7a4 22 = .ok (.iadd, 1) := by decide +kernel
theorem dJ6_bitCount_0f7a4_23 : decode cJ6_bitCount_0f7a4 23 = .ok (.istore_n 0, 1) := by decide +kernel
theorem dJ6_bitCount_0f7a4_24 : decode cJ6_bitCount_0f7a4 24 = .ok (.iload_n 0, 1) := by decide +kernel
theorem dJ6_bitCount_0f7a4_25 : decode cJ6_bitCount_0f7a4 25 = .ok (.iload_n 0, 1) := by decide +kernel
theorem dJ6_bitCount_0f7a4_26 : decode cJ6_bitCount_0f7a4 26 = .ok (.iconst 4, 1) := by decide +kernel
theorem dJ6_bitCount_0f7a4_27 : decode cJ6_bitCount_0f7a4 27 = .ok (.iushr, 1) := by decide +kernel
theorem dJ6_bitCount_0f7a4_28 : decode cJ6_bitCount_0f7a4 28 = .ok (.iadd, 1) := by decide +kernel
theorem dJ6_bitCount_0f7a4_29 : decode cJ6_bitCount_0f7a4 29 = .ok (.ldc_w 267, 3) := by decide +kernel
theorem dJ6_bitCount_0f7a4_32 : decode cJ6_bitCount_0f7a4 32 = .ok (.iand, 1) := by decide +kernel
theorem dJ6_bitCount_0f7a4_33 : decode cJ6_bitCount_0f7a4 33 = .ok (.istore_n 0, 1) := by decide +kernel
theorem dJ6_bitCount_0f7a4_34 : decode cJ6_bitCount_0f7a4 34 = .ok (.iload_n 0, 1) := by decide +kernel
theorem dJ6_bitCount_0f7a4_35 : decode cJ6_bitCount_0f7a4 35 = .ok (.iload_n 0, 1) := by decide +kernel
theorem dJ6_bitCount_0f7a4_36 : decode cJ6_bitCount_0f7a4 36 = .ok (.bipush 8, 2) := by decide +kernel
theorem dJ6_bitCount_0f7a4_38 : decode cJ6_bitCount_0f7a4 38 = .ok (.iushr, 1) := by decide +kernel
theorem dJ6_bitCount_0f7a4_39 : decode cJ6_bitCount_0f7a4 39 = .ok (.iadd, 1) := by decide +kernel
theorem dJ6_bitCount_0f7a4_40 : decode cJ6_bitCount_0f7a4 40 = .ok (.istore_n 0, 1) := by decide +kernel
theorem dJ6_bitCount_0f7a4_41 : decode cJ6_bitCount_0f7a4 41 = .ok (.iload_n 0, 1) := by decide +kernel
theorem dJ6_bitCount_0f7a4_42 : decode cJ6_bitCount_0f7a4 42 = .ok (.iload_n 0, 1) := by decide +kernel
theorem dJ6_bitCount_0f7a4_43 : decode cJ6_bitCount_0f7a4 43 = .ok (.bipush 16, 2) := by decide +kernel
theorem dJ6_bitCount_0f7a4_45 : decode cJ6_bitCount_0f7a4 45 = .ok (.iushr, 1) := by decide +kernel
theorem dJ6_bitCount_0f7a4_46 : decode cJ6_bitCount_0f7a4 46 = .ok (.iadd, 1) := by decide +kernel
theorem dJ6_bitCount_0f7a4_47 : decode cJ6_bitCount_0f7a4 47 = .ok (.istore_n 0, 1) := by decide +kernel
theorem dJ6_bitCount_0f7a4_48 : decode cJ6_bitCount_0f7a4 48 = .ok (.iload_n 0, 1) := by decide +kernel
theorem dJ6_bitCount_0f7a4_49 : decode cJ6_bitCount_0f7a4 49 = .ok (.bipush 63, 2) := by decide +kernel
theorem dJ6_bitCount_0f7a4_51 : decode cJ6_bitCount_0f7a4 51 = .ok (.iand, 1) := by decide +kernel
theorem dJ6_bitCount_0f7a4_52 : decode cJ6_bitCount_0f7a4 52 = .ok (.ireturn, 1) := by decide +kernel
def fp_J6_bitCount_0f7a4 (v0 : Int32) : Option (Int32) :=
  lett ((v0 - (((v0.toUInt32 >>> ((1 : Int32).toUInt32 &&& Int32.toUInt32 31)).toInt32) &&& 1431655765))) fun (v0_1 : Int32) =>
  lett (((v0_1 &&& 858993459) + (((v0_1.toUInt32 >>> ((2 : Int32).toUInt32 &&& Int32.toUInt32 31)).toInt32) &&& 858993459))) fun (v0_2 : Int32) =>
  lett (((v0_2 + ((v0_2.toUInt32 >>> ((4 : Int32).toUInt32 &&& Int32.toUInt32 31)).toInt32)) &&& 252645135)) fun (v0_3 : Int32) =>
  lett ((v0_3 + ((v0_3.toUInt32 >>> ((8 : Int32).toUInt32 &&& Int32.toUInt32 31)).toInt32))) fun (v0_4 : Int32) =>
  lett ((v0_4 + ((v0_4.toUInt32 >>> ((16 : Int32).toUInt32 &&& Int32.toUInt32 31)).toInt32))) fun (v0_5 : Int32) =>
  some (v0_5 &&& 63)
set_option maxHeartbeats 4000000 in
set_option maxRecDepth 100000 in
theorem ct_J6_bitCount_0f7a4 (E : zEnv) (hE : zEok E) (d : Nat) (hd : 1 ≤ d) (v0 : Int32) (M : zM) (x0 : Int32) (hx : fp_J6_bitCount_0f7a4 v0 = some x0) : zCt E mu_J6_bitCount_0f7a4 d [.int v0] M (some (.int x0), M) := by
  refine zCt_of (μ := mu_J6_bitCount_0f7a4) (t := fp_J6_bitCount_0f7a4 v0) rfl rfl (Nat.le_of_ble_eq_true rfl) hx ?_
  change zSy E mu_J6_bitCount_0f7a4 d M (some (.int x0), M) x0 (fp_J6_bitCount_0f7a4 v0) 0 [(0, .int v0)] [] M
  unfold fp_J6_bitCount_0f7a4
  refine zs_iload_n dJ6_bitCount_0f7a4_0 rfl 0 rfl ?_
  refine zs_iload_n dJ6_bitCount_0f7a4_1 rfl 0 rfl ?_
  refine zs_iconst (v := 1) dJ6_bitCount_0f7a4_2 ciconst_1 ?_
  refine zs_iushr dJ6_bitCount_0f7a4_3 ?_
  refine zs_ldcw (v := 1431655765) dJ6_bitCount_0f7a4_4 (ti_2 205 rfl rfl) ?_
  refine zs_iand dJ6_bitCount_0f7a4_7 ?_
  refine zs_isub dJ6_bitCount_0f7a4_8 ?_
  refine zs_istore_nL (loc' := fun v0_1 => [(0, .int v0_1)]) dJ6_bitCount_0f7a4_9 rfl (Nat.le_of_ble_eq_true rfl) [0] (fun _ => rfl) (fun v0_1 => ?_)
  refine zs_iload_n dJ6_bitCount_0f7a4_10 rfl 0 rfl ?_
  refine zs_ldcw (v := 858993459) dJ6_bitCount_0f7a4_11 (ti_2 206 rfl rfl) ?_
  refine zs_iand dJ6_bitCount_0f7a4_14 ?_
  refine zs_iload_n dJ6_bitCount_0f7a4_15 rfl 0 rfl ?_
  refine zs_iconst (v := 2) dJ6_bitCount_0f7a4_16 ciconst_2 ?_
  refine zs_iushr dJ6_bitCount_0f7a4_17 ?_
  refine zs_ldcw (v := 858993459) dJ6_bitCount_0f7a4_18 (ti_2 206 rfl rfl) ?_
  refine zs_iand dJ6_bitCount_0f7a4_21 ?_
  refine zs_iadd dJ6_bitCount_0f7a4_22 ?_
  refine zs_istore_nL (loc' := fun v0_2 => [(0, .int v0_2)]) dJ6_bitCount_0f7a4_23 rfl (Nat.le_of_ble_eq_true rfl) [0] (fun _ => rfl) (fun v0_2 => ?_)
  refine zs_iload_n dJ6_bitCount_0f7a4_24 rfl 0 rfl ?_
  refine zs_iload_n dJ6_bitCount_0f7a4_25 rfl 0 rfl ?_
  refine zs_iconst (v := 4) dJ6_bitCount_0f7a4_26 ciconst_4 ?_
  refine zs_iushr dJ6_bitCount_0f7a4_27 ?_
  refine zs_iadd dJ6_bitCount_0f7a4_28 ?_
  refine zs_ldcw (v := 252645135) dJ6_bitCount_0f7a4_29 (ti_2 207 rfl rfl) ?_
  refine zs_iand dJ6_bitCount_0f7a4_32 ?_
  refine zs_istore_nL (loc' := fun v0_3 => [(0, .int v0_3)]) dJ6_bitCount_0f7a4_33 rfl (Nat.le_of_ble_eq_true rfl) [0] (fun _ => rfl) (fun v0_3 => ?_)
  refine zs_iload_n dJ6_bitCount_0f7a4_34 rfl 0 rfl ?_
  refine zs_iload_n dJ6_bitCount_0f7a4_35 rfl 0 rfl ?_
  refine zs_bipush (v := 8) dJ6_bitCount_0f7a4_36 cbipush_8 ?_
  refine zs_iushr dJ6_bitCount_0f7a4_38 ?_
  refine zs_iadd dJ6_bitCount_0f7a4_39 ?_
  refine zs_istore_nL (loc' := fun v0_4 => [(0, .int v0_4)]) dJ6_bitCount_0f7a4_40 rfl (Nat.le_of_ble_eq_true rfl) [0] (fun _ => rfl) (fun v0_4 => ?_)
  refine zs_iload_n dJ6_bitCount_0f7a4_41 rfl 0 rfl ?_
  refine zs_iload_n dJ6_bitCount_0f7a4_42 rfl 0 rfl ?_
  refine zs_bipush (v := 16) dJ6_bitCount_0f7a4_43 cbipush_16 ?_
  refine zs_iushr dJ6_bitCount_0f7a4_45 ?_
  refine zs_iadd dJ6_bitCount_0f7a4_46 ?_
  refine zs_istore_nL (loc' := fun v0_5 => [(0, .int v0_5)]) dJ6_bitCount_0f7a4_47 rfl (Nat.le_of_ble_eq_true rfl) [0] (fun _ => rfl) (fun v0_5 => ?_)
  refine zs_iload_n dJ6_bitCount_0f7a4_48 rfl 0 rfl ?_
  refine zs_bipush (v := 63) dJ6_bitCount_0f7a4_49 cbipush_63 ?_
  refine zs_iand dJ6_bitCount_0f7a4_51 ?_
  exact zs_iretP dJ6_bitCount_0f7a4_52 rfl
theorem dX2_isIn_0 : decode cX2_isIn 0 = .ok (.iload_n 0, 1) := by decide +kernel
theorem dX2_isIn_1 : decode cX2_isIn 1 = .ok (.iload_n 1, 1) := by decide +kernel
theorem dX2_isIn_2 : decode cX2_isIn 2 = .ok (.ishr, 1) := by decide +kernel
theorem dX2_isIn_3 : decode cX2_isIn 3 = .ok (.iconst 1, 1) := by decide +kernel
theorem dX2_isIn_4 : decode cX2_isIn 4 = .ok (.iand, 1) := by decide +kernel
theorem dX2_isIn_5 : decode cX2_isIn 5 = .ok (.ifCond .eq 7, 3) := by decide +kernel
theorem dX2_isIn_8 : decode cX2_isIn 8 = .ok (.iconst 1, 1) := by decide +kernel
theorem dX2_isIn_9 : decode cX2_isIn 9 = .ok (.goto 4, 3) := by decide +kernel
theorem dX2_isIn_12 : decode cX2_isIn 12 = .ok (.iconst 0, 1) := by decide +kernel
theorem dX2_isIn_13 : decode cX2_isIn 13 = .ok (.ireturn, 1) := by decide +kernel
def fp_X2_isIn (v0 : Int32) (v1 : Int32) : Option (Int32) :=
  if ((v0 >>> (v1 &&& 31)) &&& 1) = 0 then (
    some 0)
  else (
    some 1)
set_option maxHeartbeats 4000000 in
set_option maxRecDepth 100000 in
theorem ct_X2_isIn (E : zEnv) (hE : zEok E) (d : Nat) (hd : 1 ≤ d) (v0 : Int32) (v1 : Int32) (M : zM) (x0 : Int32) (hx : fp_X2_isIn v0 v1 = some x0) : zCt E mu_X2_isIn d [.int v0, .int v1] M (some (.int x0), M) := by
  refine zCt_of (μ := mu_X2_isIn) (t := fp_X2_isIn v0 v1) rfl rfl (Nat.le_of_ble_eq_true rfl) hx ?_
  change zSy E mu_X2_isIn d M (some (.int x0), M) x0 (fp_X2_isIn v0 v1) 0 [(0, .int v0), (1, .int v1)] [] M
  unfold fp_X2_isIn
  refine zs_iload_n dX2_isIn_0 rfl 0 rfl ?_
  refine zs_iload_n dX2_isIn_1 rfl 1 rfl ?_
  refine zs_ishr dX2_isIn_2 ?_
  refine zs_iconst (v := 1) dX2_isIn_3 ciconst_1 ?_
  refine zs_iand dX2_isIn_4 ?_
  refine zs_if_eq dX2_isIn_5 rfl ?_ ?_
  · refine zs_iconst (v := 0) dX2_isIn_12 ciconst_0 ?_
    exact zs_iretP dX2_isIn_13 rfl
  refine zs_iconst (v := 1) dX2_isIn_8 ciconst_1 ?_
  refine zs_goto dX2_isIn_9 rfl ?_
  exact zs_iretP dX2_isIn_13 rfl
theorem dX2_nearTo_0 : decode cX2_nearTo 0 = .ok (.iload_n 1, 1) := by decide +kernel
theorem dX2_nearTo_1 : decode cX2_nearTo 1 = .ok (.iload_n 2, 1) := by decide +kernel
theorem dX2_nearTo_2 : decode cX2_nearTo 2 = .ok (.iload_n 2, 1) := by decide +kernel
theorem dX2_nearTo_3 : decode cX2_nearTo 3 = .ok (.iconst 1, 1) := by decide +kernel
theorem dX2_nearTo_4 : decode cX2_nearTo 4 = .ok (.isub, 1) := by decide +kernel
theorem dX2_nearTo_5 : decode cX2_nearTo 5 = .ok (.imul, 1) := by decide +kernel
theorem dX2_nearTo_6 : decode cX2_nearTo 6 = .ok (.iconst 2, 1) := by decide +kernel
theorem dX2_nearTo_7 : decode cX2_nearTo 7 = .ok (.idiv, 1) := by decide +kernel
theorem dX2_nearTo_8 : decode cX2_nearTo 8 = .ok (.ishr, 1) := by decide +kernel
theorem dX2_nearTo_9 : decode cX2_nearTo 9 = .ok (.iconst 1, 1) := by decide +kernel
theorem dX2_nearTo_10 : decode cX2_nearTo 10 = .ok (.iload_n 2, 1) := by decide +kernel
theorem dX2_nearTo_11 : decode cX2_nearTo 11 = .ok (.ishl, 1) := by decide +kernel
theorem dX2_nearTo_12 : decode cX2_nearTo 12 = .ok (.iconst 1, 1) := by decide +kernel
theorem dX2_nearTo_13 : decode cX2_nearTo 13 = .ok (.isub, 1) := by decide +kernel
theorem dX2_nearTo_14 : decode cX2_nearTo 14 = .ok (.iand, 1) := by decide +kernel
theorem dX2_nearTo_15 : decode cX2_nearTo 15 = .ok (.istore_n 3, 1) := by decide +kernel
theorem dX2_nearTo_16 : decode cX2_nearTo 16 = .ok (.iload_n 2, 1) := by decide +kernel
theorem dX2_nearTo_17 : decode cX2_nearTo 17 = .ok (.iconst 1, 1) := by decide +kernel
theorem dX2_nearTo_18 : decode cX2_nearTo 18 = .ok (.iadd, 1) := by decide +kernel
theorem dX2_nearTo_19 : decode cX2_nearTo 19 = .ok (.istore 4, 2) := by decide +kernel
theorem dX2_nearTo_21 : decode cX2_nearTo 21 = .ok (.iload 4, 2) := by decide +kernel
theorem dX2_nearTo_23 : decode cX2_nearTo 23 = .ok (.iload_n 0, 1) := by decide +kernel
theorem dX2_nearTo_24 : decode cX2_nearTo 24 = .ok (.if_icmp .ge 30, 3) := by decide +kernel
theorem dX2_nearTo_27 : decode cX2_nearTo 27 = .ok (.iload_n 3, 1) := by decide +kernel
theorem dX2_nearTo_28 : decode cX2_nearTo 28 = .ok (.iload_n 1, 1) := by decide +kernel
theorem dX2_nearTo_29 : decode cX2_nearTo 29 = .ok (.iload 4, 2) := by decide +kernel
theorem dX2_nearTo_31 : decode cX2_nearTo 31 = .ok (.iload 4, 2) := by decide +kernel
theorem dX2_nearTo_33 : decode cX2_nearTo 33 = .ok (.iconst 1, 1) := by decide +kernel
theorem dX2_nearTo_34 : decode cX2_nearTo 34 = .ok (.isub, 1) := by decide +kernel
theorem dX2_nearTo_35 : decode cX2_nearTo 35 = .ok (.imul, 1) := by decide +kernel
theorem dX2_nearTo_36 : decode cX2_nearTo 36 = .ok (.iconst 2, 1) := by decide +kernel
theorem dX2_nearTo_37 : decode cX2_nearTo 37 = .ok (.idiv, 1) := by decide +kernel
theorem dX2_nearTo_38 : decode cX2_nearTo 38 = .ok (.iload_n 2, 1) := by decide +kernel
theorem dX2_nearTo_39 : decode cX2_nearTo 39 = .ok (.iadd, 1) := by decide +kernel
theorem dX2_nearTo_40 : decode cX2_nearTo 40 = .ok (.ishr, 1) := by decide +kernel
theorem dX2_nearTo_41 : decode cX2_nearTo 41 = .ok (.iconst 1, 1) := by decide +kernel
theorem dX2_nearTo_42 : decode cX2_nearTo 42 = .ok (.iand, 1) := by decide +kernel
theorem dX2_nearTo_43 : decode cX2_nearTo 43 = .ok (.iload 4, 2) := by decide +kernel
theorem dX2_nearTo_45 : decode cX2_nearTo 45 = .ok (.ishl, 1) := by decide +kernel
theorem dX2_nearTo_46 : decode cX2_nearTo 46 = .ok (.ior, 1) := by decide +kernel
theorem dX2_nearTo_47 : decode cX2_nearTo 47 = .ok (.istore_n 3, 1) := by decide +kernel
theorem dX2_nearTo_48 : decode cX2_nearTo 48 = .ok (.iinc 4 1, 3) := by decide +kernel
theorem dX2_nearTo_51 : decode cX2_nearTo 51 = .ok (.goto (-30), 3) := by decide +kernel
theorem dX2_nearTo_54 : decode cX2_nearTo 54 = .ok (.iload_n 3, 1) := by decide +kernel
theorem dX2_nearTo_55 : decode cX2_nearTo 55 = .ok (.ireturn, 1) := by decide +kernel
def fp_X2_nearTo_L21 (v0 : Int32) (v1 : Int32) (v2 : Int32) : Nat → Int32 → Int32 → Option (Int32)
  | 0, _, _ => none
  | n + 1, v3, v4 =>
    if v4 ≥ v0 then (
      some v3)
    else (
      lett ((v3 ||| (((v1 >>> ((((v4 * (v4 - 1)) / 2) + v2) &&& 31)) &&& 1) <<< (v4 &&& 31)))) fun (v3_3 : Int32) =>
      fp_X2_nearTo_L21 v0 v1 v2 n v3_3 (v4 + 1))
def fp_X2_nearTo (v0 : Int32) (v1 : Int32) (v2 : Int32) : Option (Int32) :=
  lett (((v1 >>> (((v2 * (v2 - 1)) / 2) &&& 31)) &&& ((1 <<< (v2 &&& 31)) - 1))) fun (v3_1 : Int32) =>
  lett ((v2 + 1)) fun (v4_2 : Int32) =>
  fp_X2_nearTo_L21 v0 v1 v2 FU v3_1 v4_2
set_option maxHeartbeats 4000000 in
set_option maxRecDepth 100000 in
theorem w_X2_nearTo_L21 (E : zEnv) (hE : zEok E) (d : Nat) (hd : 1 ≤ d) (x0 : Int32) (v0 : Int32) (v1 : Int32) (v2 : Int32) (M : zM)  : ∀ (n : Nat) (v3 : Int32) (v4 : Int32), zSy E mu_X2_nearTo d M (some (.int x0), M) x0 (fp_X2_nearTo_L21 v0 v1 v2 n v3 v4) 21 [(0, .int v0), (1, .int v1), (2, .int v2), (3, .int v3), (4, .int v4)] [] M := by
  intro n
  induction n with
  | zero =>
    intro v3 v4
    rw [fp_X2_nearTo_L21]
    exact zs_none
  | succ n ih =>
    intro v3 v4
    rw [fp_X2_nearTo_L21]
    refine zs_iload dX2_nearTo_21 4 rfl ?_
    refine zs_iload_n dX2_nearTo_23 rfl 0 rfl ?_
    refine zs_icmp_ge dX2_nearTo_24 rfl ?_ ?_
    · refine zs_iload_n dX2_nearTo_54 rfl 3 rfl ?_
      exact zs_iretP dX2_nearTo_55 rfl
    refine zs_iload_n dX2_nearTo_27 rfl 3 rfl ?_
    refine zs_iload_n dX2_nearTo_28 rfl 1 rfl ?_
    refine zs_iload dX2_nearTo_29 4 rfl ?_
    refine zs_iload dX2_nearTo_31 4 rfl ?_
    refine zs_iconst (v := 1) dX2_nearTo_33 ciconst_1 ?_
    refine zs_isub dX2_nearTo_34 ?_
    refine zs_imul dX2_nearTo_35 ?_
    refine zs_iconst (v := 2) dX2_nearTo_36 ciconst_2 ?_
    refine zs_idivK dX2_nearTo_37 (by decide) ?_
    refine zs_iload_n dX2_nearTo_38 rfl 2 rfl ?_
    refine zs_iadd dX2_nearTo_39 ?_
    refine zs_ishr dX2_nearTo_40 ?_
    refine zs_iconst (v := 1) dX2_nearTo_41 ciconst_1 ?_
    refine zs_iand dX2_nearTo_42 ?_
    refine zs_iload dX2_nearTo_43 4 rfl ?_
    refine zs_ishl dX2_nearTo_45 ?_
    refine zs_ior dX2_nearTo_46 ?_
    refine zs_istore_nL (loc' := fun v3_3 => [(0, .int v0), (1, .int v1), (2, .int v2), (3, .int v3_3), (4, .int v4)]) dX2_nearTo_47 rfl (Nat.le_of_ble_eq_true rfl) [1, 2, 3, 0, 4] (fun _ => rfl) (fun v3_3 => ?_)
    refine zs_iinc (v := (v4 + 1)) (loc' := [(0, .int v0), (1, .int v1), (2, .int v2), (3, .int v3_3), (4, .int (v4 + 1))]) dX2_nearTo_48 4 rfl (by rfl) (Nat.le_of_ble_eq_true rfl) [1, 2, 3, 4, 0] rfl ?_
    refine zs_goto dX2_nearTo_51 rfl ?_
    exact ih v3_3 (v4 + 1)
set_option maxHeartbeats 4000000 in
set_option maxRecDepth 100000 in
theorem ct_X2_nearTo (E : zEnv) (hE : zEok E) (d : Nat) (hd : 1 ≤ d) (v0 : Int32) (v1 : Int32) (v2 : Int32) (M : zM) (x0 : Int32) (hx : fp_X2_nearTo v0 v1 v2 = some x0) : zCt E mu_X2_nearTo d [.int v0, .int v1, .int v2] M (some (.int x0), M) := by
  refine zCt_of (μ := mu_X2_nearTo) (t := fp_X2_nearTo v0 v1 v2) rfl rfl (Nat.le_of_ble_eq_true rfl) hx ?_
  change zSy E mu_X2_nearTo d M (some (.int x0), M) x0 (fp_X2_nearTo v0 v1 v2) 0 [(0, .int v0), (1, .int v1), (2, .int v2)] [] M
  unfold fp_X2_nearTo
  refine zs_iload_n dX2_nearTo_0 rfl 1 rfl ?_
  refine zs_iload_n dX2_nearTo_1 rfl 2 rfl ?_
  refine zs_iload_n dX2_nearTo_2 rfl 2 rfl ?_
  refine zs_iconst (v := 1) dX2_nearTo_3 ciconst_1 ?_
  refine zs_isub dX2_nearTo_4 ?_
  refine zs_imul dX2_nearTo_5 ?_
  refine zs_iconst (v := 2) dX2_nearTo_6 ciconst_2 ?_
  refine zs_idivK dX2_nearTo_7 (by decide) ?_
  refine zs_ishr dX2_nearTo_8 ?_
  refine zs_iconst (v := 1) dX2_nearTo_9 ciconst_1 ?_
  refine zs_iload_n dX2_nearTo_10 rfl 2 rfl ?_
  refine zs_ishl dX2_nearTo_11 ?_
  refine zs_iconst (v := 1) dX2_nearTo_12 ciconst_1 ?_
  refine zs_isub dX2_nearTo_13 ?_
  refine zs_iand dX2_nearTo_14 ?_
  refine zs_istore_nL (loc' := fun v3_1 => [(0, .int v0), (1, .int v1), (2, .int v2), (3, .int v3_1)]) dX2_nearTo_15 rfl (Nat.le_of_ble_eq_true rfl) [1, 2, 3, 0] (fun _ => rfl) (fun v3_1 => ?_)
  refine zs_iload_n dX2_nearTo_16 rfl 2 rfl ?_
  refine zs_iconst (v := 1) dX2_nearTo_17 ciconst_1 ?_
  refine zs_iadd dX2_nearTo_18 ?_
  refine zs_istoreL (loc' := fun v4_2 => [(0, .int v0), (1, .int v1), (2, .int v2), (3, .int v3_1), (4, .int v4_2)]) dX2_nearTo_19 (Nat.le_of_ble_eq_true rfl) [1, 2, 3, 4, 0] (fun _ => rfl) (fun v4_2 => ?_)
  exact w_X2_nearTo_L21 E hE d hd _ _ _ _ _ _ _ _
theorem dX2_joinedTo_0 : decode cX2_joinedTo 0 = .ok (.iconst 1, 1) := by decide +kernel
theorem dX2_joinedTo_1 : decode cX2_joinedTo 1 = .ok (.iload_n 2, 1) := by decide +kernel
theorem dX2_joinedTo_2 : decode cX2_joinedTo 2 = .ok (.ishl, 1) := by decide +kernel
theorem dX2_joinedTo_3 : decode cX2_joinedTo 3 = .ok (.istore_n 3, 1) := by decide +kernel
theorem dX2_joinedTo_4 : decode cX2_joinedTo 4 = .ok (.iconst 0, 1) := by decide +kernel
theorem dX2_joinedTo_5 : decode cX2_joinedTo 5 = .ok (.istore 4, 2) := by decide +kernel
theorem dX2_joinedTo_7 : decode cX2_joinedTo 7 = .ok (.iload 4, 2) := by decide +kernel
theorem dX2_joinedTo_9 : decode cX2_joinedTo 9 = .ok (.iload_n 0, 1) := by decide +kernel
theorem dX2_joinedTo_10 : decode cX2_joinedTo 10 = .ok (.if_icmp .ge 43, 3) := by decide +kernel
theorem dX2_joinedTo_13 : decode cX2_joinedTo 13 = .ok (.iconst 0, 1) := by decide +kernel
theorem dX2_joinedTo_14 : decode cX2_joinedTo 14 = .ok (.istore 5, 2) := by decide +kernel
theorem dX2_joinedTo_16 : decode cX2_joinedTo 16 = .ok (.iload 5, 2) := by decide +kernel
theorem dX2_joinedTo_18 : decode cX2_joinedTo 18 = .ok (.iload_n 0, 1) := by decide +kernel
theorem dX2_joinedTo_19 : decode cX2_joinedTo 19 = .ok (.if_icmp .ge 28, 3) := by decide +kernel
theorem dX2_joinedTo_22 : decode cX2_joinedTo 22 = .ok (.iload_n 3, 1) := by decide +kernel
theorem dX2_joinedTo_23 : decode cX2_joinedTo 23 = .ok (.iload 5, 2) := by decide +kernel
theorem dX2_joinedTo_25 : decode cX2_joinedTo 25 = .ok (.invokestatic 45, 3) := by decide +kernel
theorem dX2_joinedTo_28 : decode cX2_joinedTo 28 = .ok (.ifCond .eq 13, 3) := by decide +kernel
theorem dX2_joinedTo_31 : decode cX2_joinedTo 31 = .ok (.iload_n 3, 1) := by decide +kernel
theorem dX2_joinedTo_32 : decode cX2_joinedTo 32 = .ok (.iload_n 0, 1) := by decide +kernel
theorem dX2_joinedTo_33 : decode cX2_joinedTo 33 = .ok (.iload_n 1, 1) := by decide +kernel
theorem dX2_joinedTo_34 : decode cX2_joinedTo 34 = .ok (.iload 5, 2) := by decide +kernel
theorem dX2_joinedTo_36 : decode cX2_joinedTo 36 = .ok (.invokestatic 20, 3) := by decide +kernel
theorem dX2_joinedTo_39 : decode cX2_joinedTo 39 = .ok (.ior, 1) := by decide +kernel
theorem dX2_joinedTo_40 : decode cX2_joinedTo 40 = .ok (.istore_n 3, 1) := by decide +kernel
theorem dX2_joinedTo_41 : decode cX2_joinedTo 41 = .ok (.iinc 5 1, 3) := by decide +kernel
theorem dX2_joinedTo_44 : decode cX2_joinedTo 44 = .ok (.goto (-28), 3) := by decide +kernel
theorem dX2_joinedTo_47 : decode cX2_joinedTo 47 = .ok (.iinc 4 1, 3) := by decide +kernel
theorem dX2_joinedTo_50 : decode cX2_joinedTo 50 = .ok (.goto (-43), 3) := by decide +kernel
theorem dX2_joinedTo_53 : decode cX2_joinedTo 53 = .ok (.iload_n 3, 1) := by decide +kernel
theorem dX2_joinedTo_54 : decode cX2_joinedTo 54 = .ok (.ireturn, 1) := by decide +kernel
def fp_X2_joinedTo_L16 (k47 : Int32 → Option (Int32)) (v0 : Int32) (v1 : Int32) (v4 : Int32) : Nat → Int32 → Int32 → Option (Int32)
  | 0, _, _ => none
  | n + 1, v3, v5 =>
    if v5 ≥ v0 then (
      k47 v3)
    else (
      (fp_X2_isIn v3 v5).bind fun (y2 : Int32) =>
      zjn (fun (v3_3 : Int32) =>
          fp_X2_joinedTo_L16 k47 v0 v1 v4 n v3_3 (v5 + 1))
        (fun j41 =>
          if y2 = 0 then (
            j41 v3)
          else (
            (fp_X2_nearTo v0 v1 v5).bind fun (y4 : Int32) =>
            lett ((v3 ||| y4)) fun (v3_5 : Int32) =>
            j41 v3_5)))
def fp_X2_joinedTo_L7 (v0 : Int32) (v1 : Int32) : Nat → Int32 → Int32 → Option (Int32)
  | 0, _, _ => none
  | n + 1, v3, v4 =>
    if v4 ≥ v0 then (
      some v3)
    else (
      fp_X2_joinedTo_L16
        (fun v3_6 =>
          fp_X2_joinedTo_L7 v0 v1 n v3_6 (v4 + 1)) v0 v1 v4 FU v3 0)
def fp_X2_joinedTo (v0 : Int32) (v1 : Int32) (v2 : Int32) : Option (Int32) :=
  lett ((1 <<< (v2 &&& 31))) fun (v3_1 : Int32) =>
  fp_X2_joinedTo_L7 v0 v1 FU v3_1 0
set_option maxHeartbeats 4000000 in
set_option maxRecDepth 100000 in
theorem w_X2_joinedTo_L16 (E : zEnv) (hE : zEok E) (d : Nat) (hd : 2 ≤ d) (x0 : Int32) (v0 : Int32) (v1 : Int32) (v4 : Int32) (M : zM) (k47 : Int32 → Option (Int32)) (hk47 : ∀ (v3 : Int32), zSy E mu_X2_joinedTo d M (some (.int x0), M) x0 (k47 v3) 47 [(0, .int v0), (1, .int v1), (3, .int v3), (4, .int v4)] [] M) : ∀ (n : Nat) (v3 : Int32) (v5 : Int32), zSy E mu_X2_joinedTo d M (some (.int x0), M) x0 (fp_X2_joinedTo_L16 k47 v0 v1 v4 n v3 v5) 16 [(0, .int v0), (1, .int v1), (3, .int v3), (4, .int v4), (5, .int v5)] [] M := by
  intro n
  induction n with
  | zero =>
    intro v3 v5
    rw [fp_X2_joinedTo_L16]
    exact zs_none
  | succ n ih =>
    intro v3 v5
    rw [fp_X2_joinedTo_L16]
    refine zs_iload dX2_joinedTo_16 4 rfl ?_
    refine zs_iload_n dX2_joinedTo_18 rfl 0 rfl ?_
    refine zs_icmp_ge dX2_joinedTo_19 rfl ?_ ?_
    · refine zs_sub (loc' := [(0, .int v0), (1, .int v1), (3, .int v3), (4, .int v4)]) [0, 1, 2, 3] rfl ?_
      exact hk47 v3
    refine zs_iload_n dX2_joinedTo_22 rfl 2 rfl ?_
    refine zs_iload dX2_joinedTo_23 4 rfl ?_
    refine zs_invSPI (rest := []) [.int v3, .int v5] dX2_joinedTo_25 lk_X2_45 rfl (zd1 rfl hd) rfl (Nat.le_of_ble_eq_true rfl) (ct_X2_isIn E hE _ (zdl rfl hd) _ _ _) (fun y2 => ?_)
    refine zs_jn (fun j41 => ∀ (v3_3 : Int32), zSy E mu_X2_joinedTo d M (some (.int x0), M) x0 (j41 v3_3) 41 [(0, .int v0), (1, .int v1), (3, .int v3_3), (4, .int v4), (5, .int v5)] [] M) (fun v3_3 => ?_) (fun j41 hj41 => ?_)
    · refine zs_iinc (v := (v5 + 1)) (loc' := [(0, .int v0), (1, .int v1), (3, .int v3_3), (4, .int v4), (5, .int (v5 + 1))]) dX2_joinedTo_41 4 rfl (by rfl) (Nat.le_of_ble_eq_true rfl) [1, 2, 3, 4, 0] rfl ?_
      refine zs_goto dX2_joinedTo_44 rfl ?_
      exact ih v3_3 (v5 + 1)
    refine zs_if_eq dX2_joinedTo_28 rfl ?_ ?_
    · exact hj41 v3
    refine zs_iload_n dX2_joinedTo_31 rfl 2 rfl ?_
    refine zs_iload_n dX2_joinedTo_32 rfl 0 rfl ?_
    refine zs_iload_n dX2_joinedTo_33 rfl 1 rfl ?_
    refine zs_iload dX2_joinedTo_34 4 rfl ?_
    refine zs_invSPI (rest := [.int v3]) [.int v0, .int v1, .int v5] dX2_joinedTo_36 lk_X2_20 rfl (zd1 rfl hd) rfl (Nat.le_of_ble_eq_true rfl) (ct_X2_nearTo E hE _ (zdl rfl hd) _ _ _ _) (fun y4 => ?_)
    refine zs_ior dX2_joinedTo_39 ?_
    refine zs_istore_nL (loc' := fun v3_5 => [(0, .int v0), (1, .int v1), (3, .int v3_5), (4, .int v4), (5, .int v5)]) dX2_joinedTo_40 rfl (Nat.le_of_ble_eq_true rfl) [1, 2, 0, 3, 4] (fun _ => rfl) (fun v3_5 => ?_)
    exact hj41 v3_5
set_option maxHeartbeats 4000000 in
set_option maxRecDepth 100000 in
theorem w_X2_joinedTo_L7 (E : zEnv) (hE : zEok E) (d : Nat) (hd : 2 ≤ d) (x0 : Int32) (v0 : Int32) (v1 : Int32) (M : zM)  : ∀ (n : Nat) (v3 : Int32) (v4 : Int32), zSy E mu_X2_joinedTo d M (some (.int x0), M) x0 (fp_X2_joinedTo_L7 v0 v1 n v3 v4) 7 [(0, .int v0), (1, .int v1), (3, .int v3), (4, .int v4)] [] M := by
  intro n
  induction n with
  | zero =>
    intro v3 v4
    rw [fp_X2_joinedTo_L7]
    exact zs_none
  | succ n ih =>
    intro v3 v4
    rw [fp_X2_joinedTo_L7]
    refine zs_iload dX2_joinedTo_7 3 rfl ?_
    refine zs_iload_n dX2_joinedTo_9 rfl 0 rfl ?_
    refine zs_icmp_ge dX2_joinedTo_10 rfl ?_ ?_
    · refine zs_iload_n dX2_joinedTo_53 rfl 2 rfl ?_
      exact zs_iretP dX2_joinedTo_54 rfl
    refine zs_iconst (v := 0) dX2_joinedTo_13 ciconst_0 ?_
    refine zs_istore (loc' := [(0, .int v0), (1, .int v1), (3, .int v3), (4, .int v4), (5, .int 0)]) dX2_joinedTo_14 (Nat.le_of_ble_eq_true rfl) [1, 2, 3, 4, 0] rfl ?_
    refine w_X2_joinedTo_L16 E hE d hd _ _ _ _ _ _ (fun v3_6 => ?_) _ _ _
    refine zs_iinc (v := (v4 + 1)) (loc' := [(0, .int v0), (1, .int v1), (3, .int v3_6), (4, .int (v4 + 1))]) dX2_joinedTo_47 3 rfl (by rfl) (Nat.le_of_ble_eq_true rfl) [1, 2, 3, 0] rfl ?_
    refine zs_goto dX2_joinedTo_50 rfl ?_
    exact ih v3_6 (v4 + 1)
set_option maxHeartbeats 4000000 in
set_option maxRecDepth 100000 in
theorem ct_X2_joinedTo (E : zEnv) (hE : zEok E) (d : Nat) (hd : 2 ≤ d) (v0 : Int32) (v1 : Int32) (v2 : Int32) (M : zM) (x0 : Int32) (hx : fp_X2_joinedTo v0 v1 v2 = some x0) : zCt E mu_X2_joinedTo d [.int v0, .int v1, .int v2] M (some (.int x0), M) := by
  refine zCt_of (μ := mu_X2_joinedTo) (t := fp_X2_joinedTo v0 v1 v2) rfl rfl (Nat.le_of_ble_eq_true rfl) hx ?_
  change zSy E mu_X2_joinedTo d M (some (.int x0), M) x0 (fp_X2_joinedTo v0 v1 v2) 0 [(0, .int v0), (1, .int v1), (2, .int v2)] [] M
  unfold fp_X2_joinedTo
  refine zs_iconst (v := 1) dX2_joinedTo_0 ciconst_1 ?_
  refine zs_iload_n dX2_joinedTo_1 rfl 2 rfl ?_
  refine zs_ishl dX2_joinedTo_2 ?_
  refine zs_istore_nL (loc' := fun v3_1 => [(0, .int v0), (1, .int v1), (3, .int v3_1)]) dX2_joinedTo_3 rfl (Nat.le_of_ble_eq_true rfl) [1, 2, 0] (fun _ => rfl) (fun v3_1 => ?_)
  refine zs_iconst (v := 0) dX2_joinedTo_4 ciconst_0 ?_
  refine zs_istore (loc' := [(0, .int v0), (1, .int v1), (3, .int v3_1), (4, .int 0)]) dX2_joinedTo_5 (Nat.le_of_ble_eq_true rfl) [1, 2, 3, 0] rfl ?_
  exact w_X2_joinedTo_L7 E hE d hd _ _ _ _ _ _ _
theorem dX2_everyPoint_0 : decode cX2_everyPoint 0 = .ok (.iconst 1, 1) := by decide +kernel
theorem dX2_everyPoint_1 : decode cX2_everyPoint 1 = .ok (.iload_n 0, 1) := by decide +kernel
theorem dX2_everyPoint_2 : decode cX2_everyPoint 2 = .ok (.ishl, 1) := by decide +kernel
theorem dX2_everyPoint_3 : decode cX2_everyPoint 3 = .ok (.iconst 1, 1) := by decide +kernel
theorem dX2_everyPoint_4 : decode cX2_everyPoint 4 = .ok (.isub, 1) := by decide +kernel
theorem dX2_everyPoint_5 : decode cX2_everyPoint 5 = .ok (.ireturn, 1) := by decide +kernel
def fp_X2_everyPoint (v0 : Int32) : Option (Int32) :=
  some ((1 <<< (v0 &&& 31)) - 1)
set_option maxHeartbeats 4000000 in
set_option maxRecDepth 100000 in
theorem ct_X2_everyPoint (E : zEnv) (hE : zEok E) (d : Nat) (hd : 1 ≤ d) (v0 : Int32) (M : zM) (x0 : Int32) (hx : fp_X2_everyPoint v0 = some x0) : zCt E mu_X2_everyPoint d [.int v0] M (some (.int x0), M) := by
  refine zCt_of (μ := mu_X2_everyPoint) (t := fp_X2_everyPoint v0) rfl rfl (Nat.le_of_ble_eq_true rfl) hx ?_
  change zSy E mu_X2_everyPoint d M (some (.int x0), M) x0 (fp_X2_everyPoint v0) 0 [(0, .int v0)] [] M
  unfold fp_X2_everyPoint
  refine zs_iconst (v := 1) dX2_everyPoint_0 ciconst_1 ?_
  refine zs_iload_n dX2_everyPoint_1 rfl 0 rfl ?_
  refine zs_ishl dX2_everyPoint_2 ?_
  refine zs_iconst (v := 1) dX2_everyPoint_3 ciconst_1 ?_
  refine zs_isub dX2_everyPoint_4 ?_
  exact zs_iretP dX2_everyPoint_5 rfl
theorem dX2_joined_0 : decode cX2_joined 0 = .ok (.iload_n 0, 1) := by decide +kernel
theorem dX2_joined_1 : decode cX2_joined 1 = .ok (.ifCond .eq 16, 3) := by decide +kernel
theorem dX2_joined_4 : decode cX2_joined 4 = .ok (.iload_n 0, 1) := by decide +kernel
theorem dX2_joined_5 : decode cX2_joined 5 = .ok (.iload_n 1, 1) := by decide +kernel
theorem dX2_joined_6 : decode cX2_joined 6 = .ok (.iconst 0, 1) := by decide +kernel
theorem dX2_joined_7 : decode cX2_joined 7 = .ok (.invokestatic 49, 3) := by decide +kernel
theorem dX2_joined_10 : decode cX2_joined 10 = .ok (.iload_n 0, 1) := by decide +kernel
theorem dX2_joined_11 : decode cX2_joined 11 = .ok (.invokestatic 16, 3) := by decide +kernel
theorem dX2_joined_14 : decode cX2_joined 14 = .ok (.if_icmp .ne 7, 3) := by decide +kernel
theorem dX2_joined_17 : decode cX2_joined 17 = .ok (.iconst 1, 1) := by decide +kernel
theorem dX2_joined_18 : decode cX2_joined 18 = .ok (.goto 4, 3) := by decide +kernel
theorem dX2_joined_21 : decode cX2_joined 21 = .ok (.iconst 0, 1) := by decide +kernel
theorem dX2_joined_22 : decode cX2_joined 22 = .ok (.ireturn, 1) := by decide +kernel
def fp_X2_joined (v0 : Int32) (v1 : Int32) : Option (Int32) :=
  zjn (
      some 1)
    (fun j17 =>
      if v0 = 0 then (
        j17)
      else (
        (fp_X2_joinedTo v0 v1 0).bind fun (y1 : Int32) =>
        (fp_X2_everyPoint v0).bind fun (y2 : Int32) =>
        if y1 ≠ y2 then (
          some 0)
        else (
          j17)))
set_option maxHeartbeats 4000000 in
set_option maxRecDepth 100000 in
theorem ct_X2_joined (E : zEnv) (hE : zEok E) (d : Nat) (hd : 3 ≤ d) (v0 : Int32) (v1 : Int32) (M : zM) (x0 : Int32) (hx : fp_X2_joined v0 v1 = some x0) : zCt E mu_X2_joined d [.int v0, .int v1] M (some (.int x0), M) := by
  refine zCt_of (μ := mu_X2_joined) (t := fp_X2_joined v0 v1) rfl rfl (Nat.le_of_ble_eq_true rfl) hx ?_
  change zSy E mu_X2_joined d M (some (.int x0), M) x0 (fp_X2_joined v0 v1) 0 [(0, .int v0), (1, .int v1)] [] M
  unfold fp_X2_joined
  refine zs_iload_n dX2_joined_0 rfl 0 rfl ?_
  refine zs_jn (fun j17 => zSy E mu_X2_joined d M (some (.int x0), M) x0 (j17) 17 [] [] M) ?_ (fun j17 hj17 => ?_)
  · refine zs_iconst (v := 1) dX2_joined_17 ciconst_1 ?_
    refine zs_goto dX2_joined_18 rfl ?_
    exact zs_iretP dX2_joined_22 rfl
  refine zs_if_eq dX2_joined_1 rfl ?_ ?_
  · refine zs_sub (loc' := []) [] rfl ?_
    exact hj17
  refine zs_iload_n dX2_joined_4 rfl 0 rfl ?_
  refine zs_iload_n dX2_joined_5 rfl 1 rfl ?_
  refine zs_iconst (v := 0) dX2_joined_6 ciconst_0 ?_
  refine zs_invSPI (rest := []) [.int v0, .int v1, .int 0] dX2_joined_7 lk_X2_49 rfl (zd1 rfl hd) rfl (Nat.le_of_ble_eq_true rfl) (ct_X2_joinedTo E hE _ (zdl rfl hd) _ _ _ _) (fun y1 => ?_)
  refine zs_iload_n dX2_joined_10 rfl 0 rfl ?_
  refine zs_invSPI (rest := [.int y1]) [.int v0] dX2_joined_11 lk_X2_16 rfl (zd1 rfl hd) rfl (Nat.le_of_ble_eq_true rfl) (ct_X2_everyPoint E hE _ (zdl rfl hd) _ _) (fun y2 => ?_)
  refine zs_icmp_ne dX2_joined_14 rfl ?_ ?_
  · refine zs_iconst (v := 0) dX2_joined_21 ciconst_0 ?_
    exact zs_iretP dX2_joined_22 rfl
  refine zs_sub (loc' := []) [] rfl ?_
  exact hj17
theorem dX2_withRow_0 : decode cX2_withRow 0 = .ok (.iload_n 2, 1) := by decide +kernel
theorem dX2_withRow_1 : decode cX2_withRow 1 = .ok (.istore_n 3, 1) := by decide +kernel
theorem dX2_withRow_2 : decode cX2_withRow 2 = .ok (.bipush 6, 2) := by decide +kernel
theorem dX2_withRow_4 : decode cX2_withRow 4 = .ok (.istore 4, 2) := by decide +kernel
theorem dX2_withRow_6 : decode cX2_withRow 6 = .ok (.iload 4, 2) := by decide +kernel
theorem dX2_withRow_8 : decode cX2_withRow 8 = .ok (.ifCond .lt 53, 3) := by decide +kernel
theorem dX2_withRow_11 : decode cX2_withRow 11 = .ok (.iload_n 3, 1) := by decide +kernel
theorem dX2_withRow_12 : decode cX2_withRow 12 = .ok (.iload 4, 2) := by decide +kernel
theorem dX2_withRow_14 : decode cX2_withRow 14 = .ok (.ishr, 1) := by decide +kernel
theorem dX2_withRow_15 : decode cX2_withRow 15 = .ok (.iconst 1, 1) := by decide +kernel
theorem dX2_withRow_16 : decode cX2_withRow 16 = .ok (.iand, 1) := by decide +kernel
theorem dX2_withRow_17 : decode cX2_withRow 17 = .ok (.ifCond .eq 38, 3) := by decide +kernel
theorem dX2_withRow_20 : decode cX2_withRow 20 = .ok (.lload_n 0, 1) := by decide +kernel
theorem dX2_withRow_21 : decode cX2_withRow 21 = .ok (.bipush 8, 2) := by decide +kernel
theorem dX2_withRow_23 : decode cX2_withRow 23 = .ok (.iload 4, 2) := by decide +kernel
theorem dX2_withRow_25 : decode cX2_withRow 25 = .ok (.imul, 1) := by decide +kernel
theorem dX2_withRow_26 : decode cX2_withRow 26 = .ok (.lshr, 1) := by decide +kernel
theorem dX2_withRow_27 : decode cX2_withRow 27 = .ok (.ldc2_w 59, 3) := by decide +kernel
theorem dX2_withRow_30 : decode cX2_withRow 30 = .ok (.land, 1) := by decide +kernel
theorem dX2_withRow_31 : decode cX2_withRow 31 = .ok (.l2i, 1) := by decide +kernel
theorem dX2_withRow_32 : decode cX2_withRow 32 = .ok (.istore 5, 2) := by decide +kernel
theorem dX2_withRow_34 : decode cX2_withRow 34 = .ok (.iload 5, 2) := by decide +kernel
theorem dX2_withRow_36 : decode cX2_withRow 36 = .ok (.ifCond .ne 14, 3) := by decide +kernel
theorem dX2_withRow_39 : decode cX2_withRow 39 = .ok (.lload_n 0, 1) := by decide +kernel
theorem dX2_withRow_40 : decode cX2_withRow 40 = .ok (.iload_n 3, 1) := by decide +kernel
theorem dX2_withRow_41 : decode cX2_withRow 41 = .ok (.i2l, 1) := by decide +kernel
theorem dX2_withRow_42 : decode cX2_withRow 42 = .ok (.bipush 8, 2) := by decide +kernel
theorem dX2_withRow_44 : decode cX2_withRow 44 = .ok (.iload 4, 2) := by decide +kernel
theorem dX2_withRow_46 : decode cX2_withRow 46 = .ok (.imul, 1) := by decide +kernel
theorem dX2_withRow_47 : decode cX2_withRow 47 = .ok (.lshl, 1) := by decide +kernel
theorem dX2_withRow_48 : decode cX2_withRow 48 = .ok (.lor, 1) := by decide +kernel
theorem dX2_withRow_49 : decode cX2_withRow 49 = .ok (.lreturn, 1) := by decide +kernel
theorem dX2_withRow_50 : decode cX2_withRow 50 = .ok (.iload_n 3, 1) := by decide +kernel
theorem dX2_withRow_51 : decode cX2_withRow 51 = .ok (.iload 5, 2) := by decide +kernel
theorem dX2_withRow_53 : decode cX2_withRow 53 = .ok (.ixor, 1) := by decide +kernel
theorem dX2_withRow_54 : decode cX2_withRow 54 = .ok (.istore_n 3, 1) := by decide +kernel
theorem dX2_withRow_55 : decode cX2_withRow 55 = .ok (.iinc 4 (-1), 3) := by decide +kernel
theorem dX2_withRow_58 : decode cX2_withRow 58 = .ok (.goto (-52), 3) := by decide +kernel
theorem dX2_withRow_61 : decode cX2_withRow 61 = .ok (.lload_n 0, 1) := by decide +kernel
theorem dX2_withRow_62 : decode cX2_withRow 62 = .ok (.lreturn, 1) := by decide +kernel
def fp_X2_withRow_L6 (k39 : Int32 → Int32 → Option (Int64)) (v0 : Int64) : Nat → Int32 → Int32 → Option (Int64)
  | 0, _, _ => none
  | n + 1, v3, v4 =>
    if v4 < 0 then (
      some v0)
    else (
      zjn (fun (v3_1 : Int32) =>
          fp_X2_withRow_L6 k39 v0 n v3_1 (v4 + (-1)))
        (fun j55 =>
          if ((v3 >>> (v4 &&& 31)) &&& 1) = 0 then (
            j55 v3)
          else (
            lett ((((v0 >>> ((8 * v4).toInt64 &&& 63)) &&& 127).toInt32)) fun (v5_2 : Int32) =>
            if v5_2 ≠ 0 then (
              lett ((v3 ^^^ v5_2)) fun (v3_3 : Int32) =>
              j55 v3_3)
            else (
              k39 v3 v4))))
def fp_X2_withRow (v0 : Int64) (v2 : Int32) : Option (Int64) :=
  fp_X2_withRow_L6
    (fun v3_4 v4_5 =>
      some (v0 ||| ((v3_4.toInt64) <<< ((8 * v4_5).toInt64 &&& 63)))) v0 FU v2 6
set_option maxHeartbeats 4000000 in
set_option maxRecDepth 100000 in
theorem w_X2_withRow_L6 (E : zEnv) (hE : zEok E) (d : Nat) (hd : 1 ≤ d) (x0 : Int64) (v0 : Int64) (M : zM) (k39 : Int32 → Int32 → Option (Int64)) (hk39 : ∀ (v3 : Int32) (v4 : Int32), zSy E mu_X2_withRow d M (some (.long x0), M) x0 (k39 v3 v4) 39 [(0, .long v0), (3, .int v3), (4, .int v4)] [] M) : ∀ (n : Nat) (v3 : Int32) (v4 : Int32), zSy E mu_X2_withRow d M (some (.long x0), M) x0 (fp_X2_withRow_L6 k39 v0 n v3 v4) 6 [(0, .long v0), (3, .int v3), (4, .int v4)] [] M := by
  intro n
  induction n with
  | zero =>
    intro v3 v4
    rw [fp_X2_withRow_L6]
    exact zs_none
  | succ n ih =>
    intro v3 v4
    rw [fp_X2_withRow_L6]
    refine zs_iload dX2_withRow_6 2 rfl ?_
    refine zs_if_lt dX2_withRow_8 rfl ?_ ?_
    · refine zs_lload_n dX2_withRow_61 rfl 0 rfl ?_
      exact zs_lretP dX2_withRow_62 trivial
    refine zs_iload_n dX2_withRow_11 rfl 1 rfl ?_
    refine zs_iload dX2_withRow_12 2 rfl ?_
    refine zs_ishr dX2_withRow_14 ?_
    refine zs_iconst (v := 1) dX2_withRow_15 ciconst_1 ?_
    refine zs_iand dX2_withRow_16 ?_
    refine zs_jn (fun j55 => ∀ (v3_1 : Int32), zSy E mu_X2_withRow d M (some (.long x0), M) x0 (j55 v3_1) 55 [(0, .long v0), (3, .int v3_1), (4, .int v4)] [] M) (fun v3_1 => ?_) (fun j55 hj55 => ?_)
    · refine zs_iinc (v := (v4 + (-1))) (loc' := [(0, .long v0), (3, .int v3_1), (4, .int (v4 + (-1)))]) dX2_withRow_55 2 rfl (by rfl) (Nat.le_of_ble_eq_true rfl) [1, 2, 0] rfl ?_
      refine zs_goto dX2_withRow_58 rfl ?_
      exact ih v3_1 (v4 + (-1))
    refine zs_if_eq dX2_withRow_17 rfl ?_ ?_
    · exact hj55 v3
    refine zs_lload_n dX2_withRow_20 rfl 0 rfl ?_
    refine zs_bipush (v := 8) dX2_withRow_21 cbipush_8 ?_
    refine zs_iload dX2_withRow_23 2 rfl ?_
    refine zs_imul dX2_withRow_25 ?_
    refine zs_lshr dX2_withRow_26 ?_
    refine zs_ldc2 (v := 127) dX2_withRow_27 (ti_3 56 rfl rfl) ?_
    refine zs_land dX2_withRow_30 ?_
    refine zs_l2i dX2_withRow_31 ?_
    refine zs_istoreL (loc' := fun v5_2 => [(0, .long v0), (3, .int v3), (4, .int v4), (5, .int v5_2)]) dX2_withRow_32 (Nat.le_of_ble_eq_true rfl) [1, 2, 3, 0] (fun _ => rfl) (fun v5_2 => ?_)
    refine zs_iload dX2_withRow_34 3 rfl ?_
    refine zs_if_ne dX2_withRow_36 rfl ?_ ?_
    · refine zs_iload_n dX2_withRow_50 rfl 1 rfl ?_
      refine zs_iload dX2_withRow_51 3 rfl ?_
      refine zs_ixor dX2_withRow_53 ?_
      refine zs_istore_nL (loc' := fun v3_3 => [(0, .long v0), (3, .int v3_3), (4, .int v4)]) dX2_withRow_54 rfl (Nat.le_of_ble_eq_true rfl) [1, 0, 2] (fun _ => rfl) (fun v3_3 => ?_)
      exact hj55 v3_3
    refine zs_sub (loc' := [(0, .long v0), (3, .int v3), (4, .int v4)]) [0, 1, 2] rfl ?_
    exact hk39 v3 v4
set_option maxHeartbeats 4000000 in
set_option maxRecDepth 100000 in
theorem ct_X2_withRow (E : zEnv) (hE : zEok E) (d : Nat) (hd : 1 ≤ d) (v0 : Int64) (v2 : Int32) (M : zM) (x0 : Int64) (hx : fp_X2_withRow v0 v2 = some x0) : zCt E mu_X2_withRow d [.long v0, .int v2] M (some (.long x0), M) := by
  refine zCt_of (μ := mu_X2_withRow) (t := fp_X2_withRow v0 v2) rfl rfl (Nat.le_of_ble_eq_true rfl) hx ?_
  change zSy E mu_X2_withRow d M (some (.long x0), M) x0 (fp_X2_withRow v0 v2) 0 [(0, .long v0), (2, .int v2)] [] M
  unfold fp_X2_withRow
  refine zs_iload_n dX2_withRow_0 rfl 1 rfl ?_
  refine zs_istore_n (loc' := [(0, .long v0), (3, .int v2)]) dX2_withRow_1 rfl (Nat.le_of_ble_eq_true rfl) [1, 0] rfl ?_
  refine zs_bipush (v := 6) dX2_withRow_2 cbipush_6 ?_
  refine zs_istore (loc' := [(0, .long v0), (3, .int v2), (4, .int 6)]) dX2_withRow_4 (Nat.le_of_ble_eq_true rfl) [1, 2, 0] rfl ?_
  refine w_X2_withRow_L6 E hE d hd _ _ _ _ (fun v3_4 v4_5 => ?_) _ _ _
  refine zs_lload_n dX2_withRow_39 rfl 0 rfl ?_
  refine zs_iload_n dX2_withRow_40 rfl 1 rfl ?_
  refine zs_i2l dX2_withRow_41 ?_
  refine zs_bipush (v := 8) dX2_withRow_42 cbipush_8 ?_
  refine zs_iload dX2_withRow_44 2 rfl ?_
  refine zs_imul dX2_withRow_46 ?_
  refine zs_lshl dX2_withRow_47 ?_
  refine zs_lor dX2_withRow_48 ?_
  exact zs_lretP dX2_withRow_49 trivial
theorem dX2_rank_0 : decode cX2_rank 0 = .ok (.lconst 0, 1) := by decide +kernel
theorem dX2_rank_1 : decode cX2_rank 1 = .ok (.lstore_n 3, 1) := by decide +kernel
theorem dX2_rank_2 : decode cX2_rank 2 = .ok (.iconst 0, 1) := by decide +kernel
theorem dX2_rank_3 : decode cX2_rank 3 = .ok (.istore 5, 2) := by decide +kernel
theorem dX2_rank_5 : decode cX2_rank 5 = .ok (.iconst 0, 1) := by decide +kernel
theorem dX2_rank_6 : decode cX2_rank 6 = .ok (.istore 6, 2) := by decide +kernel
theorem dX2_rank_8 : decode cX2_rank 8 = .ok (.iload 6, 2) := by decide +kernel
theorem dX2_rank_10 : decode cX2_rank 10 = .ok (.iload_n 0, 1) := by decide +kernel
theorem dX2_rank_11 : decode cX2_rank 11 = .ok (.if_icmp .ge 48, 3) := by decide +kernel
theorem dX2_rank_14 : decode cX2_rank 14 = .ok (.iload_n 2, 1) := by decide +kernel
theorem dX2_rank_15 : decode cX2_rank 15 = .ok (.iload 6, 2) := by decide +kernel
theorem dX2_rank_17 : decode cX2_rank 17 = .ok (.invokestatic 45, 3) := by decide +kernel
theorem dX2_rank_20 : decode cX2_rank 20 = .ok (.ifCond .eq 33, 3) := by decide +kernel
theorem dX2_rank_23 : decode cX2_rank 23 = .ok (.lload_n 3, 1) := by decide +kernel
theorem dX2_rank_24 : decode cX2_rank 24 = .ok (.iload_n 0, 1) := by decide +kernel
theorem dX2_rank_25 : decode cX2_rank 25 = .ok (.iload_n 1, 1) := by decide +kernel
theorem dX2_rank_26 : decode cX2_rank 26 = .ok (.iload 6, 2) := by decide +kernel
theorem dX2_rank_28 : decode cX2_rank 28 = .ok (.invokestatic 20, 3) := by decide +kernel
theorem dX2_rank_31 : decode cX2_rank 31 = .ok (.iload_n 2, 1) := by decide +kernel
theorem dX2_rank_32 : decode cX2_rank 32 = .ok (.iconst (-1), 1) := by decide +kernel
theorem dX2_rank_33 : decode cX2_rank 33 = .ok (.ixor, 1) := by decide +kernel
theorem dX2_rank_34 : decode cX2_rank 34 = .ok (.iand, 1) := by decide +kernel
theorem dX2_rank_35 : decode cX2_rank 35 = .ok (.invokestatic 55, 3) := by decide +kernel
theorem dX2_rank_38 : decode cX2_rank 38 = .ok (.lstore 7, 2) := by decide +kernel
theorem dX2_rank_40 : decode cX2_rank 40 = .ok (.lload 7, 2) := by decide +kernel
theorem dX2_rank_42 : decode cX2_rank 42 = .ok (.lload_n 3, 1) := by decide +kernel
theorem dX2_rank_43 : decode cX2_rank 43 = .ok (.lcmp, 1) := by decide +kernel
theorem dX2_rank_44 : decode cX2_rank 44 = .ok (.ifCond .eq 9, 3) := by decide +kernel
theorem dX2_rank_47 : decode cX2_rank 47 = .ok (.lload 7, 2) := by decide +kernel
theorem dX2_rank_49 : decode cX2_rank 49 = .ok (.lstore_n 3, 1) := by decide +kernel
theorem dX2_rank_50 : decode cX2_rank 50 = .ok (.iinc 5 1, 3) := by decide +kernel
theorem dX2_rank_53 : decode cX2_rank 53 = .ok (.iinc 6 1, 3) := by decide +kernel
theorem dX2_rank_56 : decode cX2_rank 56 = .ok (.goto (-48), 3) := by decide +kernel
theorem dX2_rank_59 : decode cX2_rank 59 = .ok (.iload 5, 2) := by decide +kernel
theorem dX2_rank_61 : decode cX2_rank 61 = .ok (.ireturn, 1) := by decide +kernel
def fp_X2_rank_L8 (v0 : Int32) (v1 : Int32) (v2 : Int32) : Nat → Int64 → Int32 → Int32 → Option (Int32)
  | 0, _, _, _ => none
  | n + 1, v3, v5, v6 =>
    if v6 ≥ v0 then (
      some v5)
    else (
      (fp_X2_isIn v2 v6).bind fun (y1 : Int32) =>
      zjn (fun (v3_2 : Int64) (v5_3 : Int32) =>
          fp_X2_rank_L8 v0 v1 v2 n v3_2 v5_3 (v6 + 1))
        (fun j53 =>
          if y1 = 0 then (
            j53 v3 v5)
          else (
            (fp_X2_nearTo v0 v1 v6).bind fun (y4 : Int32) =>
            (fp_X2_withRow v3 (y4 &&& (v2 ^^^ (-1)))).bind fun (y5 : Int64) =>
            if (lg_cmp y5 v3) = 0 then (
              j53 v3 v5)
            else (
              j53 y5 (v5 + 1)))))
def fp_X2_rank (v0 : Int32) (v1 : Int32) (v2 : Int32) : Option (Int32) :=
  fp_X2_rank_L8 v0 v1 v2 FU 0 0 0
set_option maxHeartbeats 4000000 in
set_option maxRecDepth 100000 in
theorem w_X2_rank_L8 (E : zEnv) (hE : zEok E) (d : Nat) (hd : 2 ≤ d) (x0 : Int32) (v0 : Int32) (v1 : Int32) (v2 : Int32) (M : zM)  : ∀ (n : Nat) (v3 : Int64) (v5 : Int32) (v6 : Int32), zSy E mu_X2_rank d M (some (.int x0), M) x0 (fp_X2_rank_L8 v0 v1 v2 n v3 v5 v6) 8 [(0, .int v0), (1, .int v1), (2, .int v2), (3, .long v3), (5, .int v5), (6, .int v6)] [] M := by
  intro n
  induction n with
  | zero =>
    intro v3 v5 v6
    rw [fp_X2_rank_L8]
    exact zs_none
  | succ n ih =>
    intro v3 v5 v6
    rw [fp_X2_rank_L8]
    refine zs_iload dX2_rank_8 5 rfl ?_
    refine zs_iload_n dX2_rank_10 rfl 0 rfl ?_
    refine zs_icmp_ge dX2_rank_11 rfl ?_ ?_
    · refine zs_iload dX2_rank_59 4 rfl ?_
      exact zs_iretP dX2_rank_61 rfl
    refine zs_iload_n dX2_rank_14 rfl 2 rfl ?_
    refine zs_iload dX2_rank_15 5 rfl ?_
    refine zs_invSPI (rest := []) [.int v2, .int v6] dX2_rank_17 lk_X2_45 rfl (zd1 rfl hd) rfl (Nat.le_of_ble_eq_true rfl) (ct_X2_isIn E hE _ (zdl rfl hd) _ _ _) (fun y1 => ?_)
    refine zs_jn (fun j53 => ∀ (v3_2 : Int64) (v5_3 : Int32), zSy E mu_X2_rank d M (some (.int x0), M) x0 (j53 v3_2 v5_3) 53 [(0, .int v0), (1, .int v1), (2, .int v2), (3, .long v3_2), (5, .int v5_3), (6, .int v6)] [] M) (fun v3_2 v5_3 => ?_) (fun j53 hj53 => ?_)
    · refine zs_iinc (v := (v6 + 1)) (loc' := [(0, .int v0), (1, .int v1), (2, .int v2), (3, .long v3_2), (5, .int v5_3), (6, .int (v6 + 1))]) dX2_rank_53 5 rfl (by rfl) (Nat.le_of_ble_eq_true rfl) [1, 2, 3, 4, 5, 0] rfl ?_
      refine zs_goto dX2_rank_56 rfl ?_
      exact ih v3_2 v5_3 (v6 + 1)
    refine zs_if_eq dX2_rank_20 rfl ?_ ?_
    · exact hj53 v3 v5
    refine zs_lload_n dX2_rank_23 rfl 3 rfl ?_
    refine zs_iload_n dX2_rank_24 rfl 0 rfl ?_
    refine zs_iload_n dX2_rank_25 rfl 1 rfl ?_
    refine zs_iload dX2_rank_26 5 rfl ?_
    refine zs_invSPI (rest := [.long v3]) [.int v0, .int v1, .int v6] dX2_rank_28 lk_X2_20 rfl (zd1 rfl hd) rfl (Nat.le_of_ble_eq_true rfl) (ct_X2_nearTo E hE _ (zdl rfl hd) _ _ _ _) (fun y4 => ?_)
    refine zs_iload_n dX2_rank_31 rfl 2 rfl ?_
    refine zs_iconst (v := (-1)) dX2_rank_32 ciconst_m1 ?_
    refine zs_ixor dX2_rank_33 ?_
    refine zs_iand dX2_rank_34 ?_
    refine zs_invSPJ (rest := []) [.long v3, .int (y4 &&& (v2 ^^^ (-1)))] dX2_rank_35 lk_X2_55 rfl (zd1 rfl hd) rfl (Nat.le_of_ble_eq_true rfl) (ct_X2_withRow E hE _ (zdl rfl hd) _ _ _) (fun y5 => ?_)
    refine zs_lstore (loc' := [(0, .int v0), (1, .int v1), (2, .int v2), (3, .long v3), (5, .int v5), (6, .int v6), (7, .long y5)]) dX2_rank_38 (Nat.le_of_ble_eq_true rfl) [1, 2, 3, 4, 5, 6, 0] rfl ?_
    refine zs_lload dX2_rank_40 6 rfl ?_
    refine zs_lload_n dX2_rank_42 rfl 3 rfl ?_
    refine zs_lcmp dX2_rank_43 ?_
    refine zs_if_eq dX2_rank_44 rfl ?_ ?_
    · refine zs_sub (loc' := [(0, .int v0), (1, .int v1), (2, .int v2), (3, .long v3), (5, .int v5), (6, .int v6)]) [0, 1, 2, 3, 4, 5] rfl ?_
      exact hj53 v3 v5
    refine zs_lload dX2_rank_47 6 rfl ?_
    refine zs_lstore_n (loc' := [(0, .int v0), (1, .int v1), (2, .int v2), (3, .long y5), (5, .int v5), (6, .int v6)]) dX2_rank_49 rfl (Nat.le_of_ble_eq_true rfl) [1, 2, 3, 0, 4, 5] rfl ?_
    refine zs_iinc (v := (v5 + 1)) (loc' := [(0, .int v0), (1, .int v1), (2, .int v2), (3, .long y5), (5, .int (v5 + 1)), (6, .int v6)]) dX2_rank_50 4 rfl (by rfl) (Nat.le_of_ble_eq_true rfl) [1, 2, 3, 4, 0, 5] rfl ?_
    exact hj53 y5 (v5 + 1)
set_option maxHeartbeats 4000000 in
set_option maxRecDepth 100000 in
theorem ct_X2_rank (E : zEnv) (hE : zEok E) (d : Nat) (hd : 2 ≤ d) (v0 : Int32) (v1 : Int32) (v2 : Int32) (M : zM) (x0 : Int32) (hx : fp_X2_rank v0 v1 v2 = some x0) : zCt E mu_X2_rank d [.int v0, .int v1, .int v2] M (some (.int x0), M) := by
  refine zCt_of (μ := mu_X2_rank) (t := fp_X2_rank v0 v1 v2) rfl rfl (Nat.le_of_ble_eq_true rfl) hx ?_
  change zSy E mu_X2_rank d M (some (.int x0), M) x0 (fp_X2_rank v0 v1 v2) 0 [(0, .int v0), (1, .int v1), (2, .int v2)] [] M
  unfold fp_X2_rank
  refine zs_lconst (v := 0) dX2_rank_0 (by rfl) ?_
  refine zs_lstore_n (loc' := [(0, .int v0), (1, .int v1), (2, .int v2), (3, .long 0)]) dX2_rank_1 rfl (Nat.le_of_ble_eq_true rfl) [1, 2, 3, 0] rfl ?_
  refine zs_iconst (v := 0) dX2_rank_2 ciconst_0 ?_
  refine zs_istore (loc' := [(0, .int v0), (1, .int v1), (2, .int v2), (3, .long 0), (5, .int 0)]) dX2_rank_3 (Nat.le_of_ble_eq_true rfl) [1, 2, 3, 4, 0] rfl ?_
  refine zs_iconst (v := 0) dX2_rank_5 ciconst_0 ?_
  refine zs_istore (loc' := [(0, .int v0), (1, .int v1), (2, .int v2), (3, .long 0), (5, .int 0), (6, .int 0)]) dX2_rank_6 (Nat.le_of_ble_eq_true rfl) [1, 2, 3, 4, 5, 0] rfl ?_
  exact w_X2_rank_L8 E hE d hd _ _ _ _ _ _ _ _ _
theorem dX2_code_0 : decode cX2_code 0 = .ok (.iload_n 0, 1) := by decide +kernel
theorem dX2_code_1 : decode cX2_code 1 = .ok (.bipush 21, 2) := by decide +kernel
theorem dX2_code_3 : decode cX2_code 3 = .ok (.ishl, 1) := by decide +kernel
theorem dX2_code_4 : decode cX2_code 4 = .ok (.iload_n 1, 1) := by decide +kernel
theorem dX2_code_5 : decode cX2_code 5 = .ok (.ior, 1) := by decide +kernel
theorem dX2_code_6 : decode cX2_code 6 = .ok (.ireturn, 1) := by decide +kernel
def fp_X2_code (v0 : Int32) (v1 : Int32) : Option (Int32) :=
  some ((v0 <<< (21 &&& 31)) ||| v1)
set_option maxHeartbeats 4000000 in
set_option maxRecDepth 100000 in
theorem ct_X2_code (E : zEnv) (hE : zEok E) (d : Nat) (hd : 1 ≤ d) (v0 : Int32) (v1 : Int32) (M : zM) (x0 : Int32) (hx : fp_X2_code v0 v1 = some x0) : zCt E mu_X2_code d [.int v0, .int v1] M (some (.int x0), M) := by
  refine zCt_of (μ := mu_X2_code) (t := fp_X2_code v0 v1) rfl rfl (Nat.le_of_ble_eq_true rfl) hx ?_
  change zSy E mu_X2_code d M (some (.int x0), M) x0 (fp_X2_code v0 v1) 0 [(0, .int v0), (1, .int v1)] [] M
  unfold fp_X2_code
  refine zs_iload_n dX2_code_0 rfl 0 rfl ?_
  refine zs_bipush (v := 21) dX2_code_1 cbipush_21 ?_
  refine zs_ishl dX2_code_3 ?_
  refine zs_iload_n dX2_code_4 rfl 1 rfl ?_
  refine zs_ior dX2_code_5 ?_
  exact zs_iretP dX2_code_6 rfl
theorem dX2_pointsOf_0 : decode cX2_pointsOf 0 = .ok (.iload_n 0, 1) := by decide +kernel
theorem dX2_pointsOf_1 : decode cX2_pointsOf 1 = .ok (.bipush 21, 2) := by decide +kernel
theorem dX2_pointsOf_3 : decode cX2_pointsOf 3 = .ok (.ishr, 1) := by decide +kernel
theorem dX2_pointsOf_4 : decode cX2_pointsOf 4 = .ok (.ireturn, 1) := by decide +kernel
def fp_X2_pointsOf (v0 : Int32) : Option (Int32) :=
  some (v0 >>> (21 &&& 31))
set_option maxHeartbeats 4000000 in
set_option maxRecDepth 100000 in
theorem ct_X2_pointsOf (E : zEnv) (hE : zEok E) (d : Nat) (hd : 1 ≤ d) (v0 : Int32) (M : zM) (x0 : Int32) (hx : fp_X2_pointsOf v0 = some x0) : zCt E mu_X2_pointsOf d [.int v0] M (some (.int x0), M) := by
  refine zCt_of (μ := mu_X2_pointsOf) (t := fp_X2_pointsOf v0) rfl rfl (Nat.le_of_ble_eq_true rfl) hx ?_
  change zSy E mu_X2_pointsOf d M (some (.int x0), M) x0 (fp_X2_pointsOf v0) 0 [(0, .int v0)] [] M
  unfold fp_X2_pointsOf
  refine zs_iload_n dX2_pointsOf_0 rfl 0 rfl ?_
  refine zs_bipush (v := 21) dX2_pointsOf_1 cbipush_21 ?_
  refine zs_ishr dX2_pointsOf_3 ?_
  exact zs_iretP dX2_pointsOf_4 rfl
theorem dX2_linesOf_0 : decode cX2_linesOf 0 = .ok (.iload_n 0, 1) := by decide +kernel
theorem dX2_linesOf_1 : decode cX2_linesOf 1 = .ok (.ldc 11, 2) := by decide +kernel
theorem dX2_linesOf_3 : decode cX2_linesOf 3 = .ok (.iand, 1) := by decide +kernel
theorem dX2_linesOf_4 : decode cX2_linesOf 4 = .ok (.ireturn, 1) := by decide +kernel
def fp_X2_linesOf (v0 : Int32) : Option (Int32) :=
  some (v0 &&& 2097151)
set_option maxHeartbeats 4000000 in
set_option maxRecDepth 100000 in
theorem ct_X2_linesOf (E : zEnv) (hE : zEok E) (d : Nat) (hd : 1 ≤ d) (v0 : Int32) (M : zM) (x0 : Int32) (hx : fp_X2_linesOf v0 = some x0) : zCt E mu_X2_linesOf d [.int v0] M (some (.int x0), M) := by
  refine zCt_of (μ := mu_X2_linesOf) (t := fp_X2_linesOf v0) rfl rfl (Nat.le_of_ble_eq_true rfl) hx ?_
  change zSy E mu_X2_linesOf d M (some (.int x0), M) x0 (fp_X2_linesOf v0) 0 [(0, .int v0)] [] M
  unfold fp_X2_linesOf
  refine zs_iload_n dX2_linesOf_0 rfl 0 rfl ?_
  refine zs_ldc (v := 2097151) dX2_linesOf_1 (ti_3 219 rfl rfl) ?_
  refine zs_iand dX2_linesOf_3 ?_
  exact zs_iretP dX2_linesOf_4 rfl
theorem dX2_tied_0 : decode cX2_tied 0 = .ok (.iload_n 0, 1) := by decide +kernel
theorem dX2_tied_1 : decode cX2_tied 1 = .ok (.iload_n 1, 1) := by decide +kernel
theorem dX2_tied_2 : decode cX2_tied 2 = .ok (.iload_n 2, 1) := by decide +kernel
theorem dX2_tied_3 : decode cX2_tied 3 = .ok (.invokestatic 12, 3) := by decide +kernel
theorem dX2_tied_6 : decode cX2_tied 6 = .ok (.ishr, 1) := by decide +kernel
theorem dX2_tied_7 : decode cX2_tied 7 = .ok (.iconst 1, 1) := by decide +kernel
theorem dX2_tied_8 : decode cX2_tied 8 = .ok (.iand, 1) := by decide +kernel
theorem dX2_tied_9 : decode cX2_tied 9 = .ok (.ifCond .eq 7, 3) := by decide +kernel
theorem dX2_tied_12 : decode cX2_tied 12 = .ok (.iconst 1, 1) := by decide +kernel
theorem dX2_tied_13 : decode cX2_tied 13 = .ok (.goto 4, 3) := by decide +kernel
theorem dX2_tied_16 : decode cX2_tied 16 = .ok (.iconst 0, 1) := by decide +kernel
theorem dX2_tied_17 : decode cX2_tied 17 = .ok (.ireturn, 1) := by decide +kernel
def fp_X2_tied (v0 : Int32) (v1 : Int32) (v2 : Int32) : Option (Int32) :=
  (fp_X2_pair v1 v2).bind fun (y1 : Int32) =>
  if ((v0 >>> (y1 &&& 31)) &&& 1) = 0 then (
    some 0)
  else (
    some 1)
set_option maxHeartbeats 4000000 in
set_option maxRecDepth 100000 in
theorem ct_X2_tied (E : zEnv) (hE : zEok E) (d : Nat) (hd : 2 ≤ d) (v0 : Int32) (v1 : Int32) (v2 : Int32) (M : zM) (x0 : Int32) (hx : fp_X2_tied v0 v1 v2 = some x0) : zCt E mu_X2_tied d [.int v0, .int v1, .int v2] M (some (.int x0), M) := by
  refine zCt_of (μ := mu_X2_tied) (t := fp_X2_tied v0 v1 v2) rfl rfl (Nat.le_of_ble_eq_true rfl) hx ?_
  change zSy E mu_X2_tied d M (some (.int x0), M) x0 (fp_X2_tied v0 v1 v2) 0 [(0, .int v0), (1, .int v1), (2, .int v2)] [] M
  unfold fp_X2_tied
  refine zs_iload_n dX2_tied_0 rfl 0 rfl ?_
  refine zs_iload_n dX2_tied_1 rfl 1 rfl ?_
  refine zs_iload_n dX2_tied_2 rfl 2 rfl ?_
  refine zs_invSPI (rest := [.int v0]) [.int v1, .int v2] dX2_tied_3 lk_X2_12 rfl (zd1 rfl hd) rfl (Nat.le_of_ble_eq_true rfl) (ct_X2_pair E hE _ (zdl rfl hd) _ _ _) (fun y1 => ?_)
  refine zs_ishr dX2_tied_6 ?_
  refine zs_iconst (v := 1) dX2_tied_7 ciconst_1 ?_
  refine zs_iand dX2_tied_8 ?_
  refine zs_if_eq dX2_tied_9 rfl ?_ ?_
  · refine zs_iconst (v := 0) dX2_tied_16 ciconst_0 ?_
    exact zs_iretP dX2_tied_17 rfl
  refine zs_iconst (v := 1) dX2_tied_12 ciconst_1 ?_
  refine zs_goto dX2_tied_13 rfl ?_
  exact zs_iretP dX2_tied_17 rfl
theorem dX2_isLeastOf_0 : decode cX2_isLeastOf 0 = .ok (.iload_n 0, 1) := by decide +kernel
theorem dX2_isLeastOf_1 : decode cX2_isLeastOf 1 = .ok (.iload_n 1, 1) := by decide +kernel
theorem dX2_isLeastOf_2 : decode cX2_isLeastOf 2 = .ok (.invokestatic 16, 3) := by decide +kernel
theorem dX2_isLeastOf_5 : decode cX2_isLeastOf 5 = .ok (.iand, 1) := by decide +kernel
theorem dX2_isLeastOf_6 : decode cX2_isLeastOf 6 = .ok (.ifCond .ne 7, 3) := by decide +kernel
theorem dX2_isLeastOf_9 : decode cX2_isLeastOf 9 = .ok (.iconst 1, 1) := by decide +kernel
theorem dX2_isLeastOf_10 : decode cX2_isLeastOf 10 = .ok (.goto 4, 3) := by decide +kernel
theorem dX2_isLeastOf_13 : decode cX2_isLeastOf 13 = .ok (.iconst 0, 1) := by decide +kernel
theorem dX2_isLeastOf_14 : decode cX2_isLeastOf 14 = .ok (.ireturn, 1) := by decide +kernel
def fp_X2_isLeastOf (v0 : Int32) (v1 : Int32) : Option (Int32) :=
  (fp_X2_everyPoint v1).bind fun (y1 : Int32) =>
  if (v0 &&& y1) ≠ 0 then (
    some 0)
  else (
    some 1)
set_option maxHeartbeats 4000000 in
set_option maxRecDepth 100000 in
theorem ct_X2_isLeastOf (E : zEnv) (hE : zEok E) (d : Nat) (hd : 2 ≤ d) (v0 : Int32) (v1 : Int32) (M : zM) (x0 : Int32) (hx : fp_X2_isLeastOf v0 v1 = some x0) : zCt E mu_X2_isLeastOf d [.int v0, .int v1] M (some (.int x0), M) := by
  refine zCt_of (μ := mu_X2_isLeastOf) (t := fp_X2_isLeastOf v0 v1) rfl rfl (Nat.le_of_ble_eq_true rfl) hx ?_
  change zSy E mu_X2_isLeastOf d M (some (.int x0), M) x0 (fp_X2_isLeastOf v0 v1) 0 [(0, .int v0), (1, .int v1)] [] M
  unfold fp_X2_isLeastOf
  refine zs_iload_n dX2_isLeastOf_0 rfl 0 rfl ?_
  refine zs_iload_n dX2_isLeastOf_1 rfl 1 rfl ?_
  refine zs_invSPI (rest := [.int v0]) [.int v1] dX2_isLeastOf_2 lk_X2_16 rfl (zd1 rfl hd) rfl (Nat.le_of_ble_eq_true rfl) (ct_X2_everyPoint E hE _ (zdl rfl hd) _ _) (fun y1 => ?_)
  refine zs_iand dX2_isLeastOf_5 ?_
  refine zs_if_ne dX2_isLeastOf_6 rfl ?_ ?_
  · refine zs_iconst (v := 0) dX2_isLeastOf_13 ciconst_0 ?_
    exact zs_iretP dX2_isLeastOf_14 rfl
  refine zs_iconst (v := 1) dX2_isLeastOf_9 ciconst_1 ?_
  refine zs_goto dX2_isLeastOf_10 rfl ?_
  exact zs_iretP dX2_isLeastOf_14 rfl
theorem dX2_pairsOf_0 : decode cX2_pairsOf 0 = .ok (.iconst 0, 1) := by decide +kernel
theorem dX2_pairsOf_1 : decode cX2_pairsOf 1 = .ok (.istore_n 1, 1) := by decide +kernel
theorem dX2_pairsOf_2 : decode cX2_pairsOf 2 = .ok (.iconst 1, 1) := by decide +kernel
theorem dX2_pairsOf_3 : decode cX2_pairsOf 3 = .ok (.istore_n 2, 1) := by decide +kernel
theorem dX2_pairsOf_4 : decode cX2_pairsOf 4 = .ok (.iload_n 2, 1) := by decide +kernel
theorem dX2_pairsOf_5 : decode cX2_pairsOf 5 = .ok (.bipush 7, 2) := by decide +kernel
theorem dX2_pairsOf_7 : decode cX2_pairsOf 7 = .ok (.if_icmp .ge 35, 3) := by decide +kernel
theorem dX2_pairsOf_10 : decode cX2_pairsOf 10 = .ok (.iload_n 0, 1) := by decide +kernel
theorem dX2_pairsOf_11 : decode cX2_pairsOf 11 = .ok (.iload_n 2, 1) := by decide +kernel
theorem dX2_pairsOf_12 : decode cX2_pairsOf 12 = .ok (.ishr, 1) := by decide +kernel
theorem dX2_pairsOf_13 : decode cX2_pairsOf 13 = .ok (.iconst 1, 1) := by decide +kernel
theorem dX2_pairsOf_14 : decode cX2_pairsOf 14 = .ok (.iand, 1) := by decide +kernel
theorem dX2_pairsOf_15 : decode cX2_pairsOf 15 = .ok (.ifCond .eq 21, 3) := by decide +kernel
theorem dX2_pairsOf_18 : decode cX2_pairsOf 18 = .ok (.iload_n 1, 1) := by decide +kernel
theorem dX2_pairsOf_19 : decode cX2_pairsOf 19 = .ok (.iload_n 0, 1) := by decide +kernel
theorem dX2_pairsOf_20 : decode cX2_pairsOf 20 = .ok (.iconst 1, 1) := by decide +kernel
theorem dX2_pairsOf_21 : decode cX2_pairsOf 21 = .ok (.iload_n 2, 1) := by decide +kernel
theorem dX2_pairsOf_22 : decode cX2_pairsOf 22 = .ok (.ishl, 1) := by decide +kernel
theorem dX2_pairsOf_23 : decode cX2_pairsOf 23 = .ok (.iconst 1, 1) := by decide +kernel
theorem dX2_pairsOf_24 : decode cX2_pairsOf 24 = .ok (.isub, 1) := by decide +kernel
theorem dX2_pairsOf_25 : decode cX2_pairsOf 25 = .ok (.iand, 1) := by decide +kernel
theorem dX2_pairsOf_26 : decode cX2_pairsOf 26 = .ok (.iload_n 2, 1) := by decide +kernel
theorem dX2_pairsOf_27 : decode cX2_pairsOf 27 = .ok (.iload_n 2, 1) := by decide +kernel
theorem dX2_pairsOf_28 : decode cX2_pairsOf 28 = .ok (.iconst 1, 1) := by decide +kernel
theorem dX2_pairsOf_29 : decode cX2_pairsOf 29 = .ok (.isub, 1) := by decide +kernel
theorem dX2_pairsOf_30 : decode cX2_pairsOf 30 = .ok (.imul, 1) := by decide +kernel
theorem dX2_pairsOf_31 : decode cX2_pairsOf 31 = .ok (.iconst 2, 1) := by decide +kernel
theorem dX2_pairsOf_32 : decode cX2_pairsOf 32 = .ok (.idiv, 1) := by decide +kernel
theorem dX2_pairsOf_33 : decode cX2_pairsOf 33 = .ok (.ishl, 1) := by decide +kernel
theorem dX2_pairsOf_34 : decode cX2_pairsOf 34 = .ok (.ior, 1) := by decide +kernel
theorem dX2_pairsOf_35 : decode cX2_pairsOf 35 = .ok (.istore_n 1, 1) := by decide +kernel
theorem dX2_pairsOf_36 : decode cX2_pairsOf 36 = .ok (.iinc 2 1, 3) := by decide +kernel
theorem dX2_pairsOf_39 : decode cX2_pairsOf 39 = .ok (.goto (-35), 3) := by decide +kernel
theorem dX2_pairsOf_42 : decode cX2_pairsOf 42 = .ok (.iload_n 1, 1) := by decide +kernel
theorem dX2_pairsOf_43 : decode cX2_pairsOf 43 = .ok (.ireturn, 1) := by decide +kernel
def fp_X2_pairsOf_L4 (v0 : Int32) : Nat → Int32 → Int32 → Option (Int32)
  | 0, _, _ => none
  | n + 1, v1, v2 =>
    if v2 ≥ 7 then (
      some v1)
    else (
      zjn (fun (v1_1 : Int32) =>
          fp_X2_pairsOf_L4 v0 n v1_1 (v2 + 1))
        (fun j36 =>
          if ((v0 >>> (v2 &&& 31)) &&& 1) = 0 then (
            j36 v1)
          else (
            lett ((v1 ||| ((v0 &&& ((1 <<< (v2 &&& 31)) - 1)) <<< (((v2 * (v2 - 1)) / 2) &&& 31)))) fun (v1_2 : Int32) =>
            j36 v1_2)))
def fp_X2_pairsOf (v0 : Int32) : Option (Int32) :=
  fp_X2_pairsOf_L4 v0 FU 0 1
set_option maxHeartbeats 4000000 in
set_option maxRecDepth 100000 in
theorem w_X2_pairsOf_L4 (E : zEnv) (hE : zEok E) (d : Nat) (hd : 1 ≤ d) (x0 : Int32) (v0 : Int32) (M : zM)  : ∀ (n : Nat) (v1 : Int32) (v2 : Int32), zSy E mu_X2_pairsOf d M (some (.int x0), M) x0 (fp_X2_pairsOf_L4 v0 n v1 v2) 4 [(0, .int v0), (1, .int v1), (2, .int v2)] [] M := by
  intro n
  induction n with
  | zero =>
    intro v1 v2
    rw [fp_X2_pairsOf_L4]
    exact zs_none
  | succ n ih =>
    intro v1 v2
    rw [fp_X2_pairsOf_L4]
    refine zs_iload_n dX2_pairsOf_4 rfl 2 rfl ?_
    refine zs_bipush (v := 7) dX2_pairsOf_5 cbipush_7 ?_
    refine zs_icmp_ge dX2_pairsOf_7 rfl ?_ ?_
    · refine zs_iload_n dX2_pairsOf_42 rfl 1 rfl ?_
      exact zs_iretP dX2_pairsOf_43 rfl
    refine zs_iload_n dX2_pairsOf_10 rfl 0 rfl ?_
    refine zs_iload_n dX2_pairsOf_11 rfl 2 rfl ?_
    refine zs_ishr dX2_pairsOf_12 ?_
    refine zs_iconst (v := 1) dX2_pairsOf_13 ciconst_1 ?_
    refine zs_iand dX2_pairsOf_14 ?_
    refine zs_jn (fun j36 => ∀ (v1_1 : Int32), zSy E mu_X2_pairsOf d M (some (.int x0), M) x0 (j36 v1_1) 36 [(0, .int v0), (1, .int v1_1), (2, .int v2)] [] M) (fun v1_1 => ?_) (fun j36 hj36 => ?_)
    · refine zs_iinc (v := (v2 + 1)) (loc' := [(0, .int v0), (1, .int v1_1), (2, .int (v2 + 1))]) dX2_pairsOf_36 2 rfl (by rfl) (Nat.le_of_ble_eq_true rfl) [1, 2, 0] rfl ?_
      refine zs_goto dX2_pairsOf_39 rfl ?_
      exact ih v1_1 (v2 + 1)
    refine zs_if_eq dX2_pairsOf_15 rfl ?_ ?_
    · exact hj36 v1
    refine zs_iload_n dX2_pairsOf_18 rfl 1 rfl ?_
    refine zs_iload_n dX2_pairsOf_19 rfl 0 rfl ?_
    refine zs_iconst (v := 1) dX2_pairsOf_20 ciconst_1 ?_
    refine zs_iload_n dX2_pairsOf_21 rfl 2 rfl ?_
    refine zs_ishl dX2_pairsOf_22 ?_
    refine zs_iconst (v := 1) dX2_pairsOf_23 ciconst_1 ?_
    refine zs_isub dX2_pairsOf_24 ?_
    refine zs_iand dX2_pairsOf_25 ?_
    refine zs_iload_n dX2_pairsOf_26 rfl 2 rfl ?_
    refine zs_iload_n dX2_pairsOf_27 rfl 2 rfl ?_
    refine zs_iconst (v := 1) dX2_pairsOf_28 ciconst_1 ?_
    refine zs_isub dX2_pairsOf_29 ?_
    refine zs_imul dX2_pairsOf_30 ?_
    refine zs_iconst (v := 2) dX2_pairsOf_31 ciconst_2 ?_
    refine zs_idivK dX2_pairsOf_32 (by decide) ?_
    refine zs_ishl dX2_pairsOf_33 ?_
    refine zs_ior dX2_pairsOf_34 ?_
    refine zs_istore_nL (loc' := fun v1_2 => [(0, .int v0), (1, .int v1_2), (2, .int v2)]) dX2_pairsOf_35 rfl (Nat.le_of_ble_eq_true rfl) [1, 0, 2] (fun _ => rfl) (fun v1_2 => ?_)
    exact hj36 v1_2
set_option maxHeartbeats 4000000 in
set_option maxRecDepth 100000 in
theorem ct_X2_pairsOf (E : zEnv) (hE : zEok E) (d : Nat) (hd : 1 ≤ d) (v0 : Int32) (M : zM) (x0 : Int32) (hx : fp_X2_pairsOf v0 = some x0) : zCt E mu_X2_pairsOf d [.int v0] M (some (.int x0), M) := by
  refine zCt_of (μ := mu_X2_pairsOf) (t := fp_X2_pairsOf v0) rfl rfl (Nat.le_of_ble_eq_true rfl) hx ?_
  change zSy E mu_X2_pairsOf d M (some (.int x0), M) x0 (fp_X2_pairsOf v0) 0 [(0, .int v0)] [] M
  unfold fp_X2_pairsOf
  refine zs_iconst (v := 0) dX2_pairsOf_0 ciconst_0 ?_
  refine zs_istore_n (loc' := [(0, .int v0), (1, .int 0)]) dX2_pairsOf_1 rfl (Nat.le_of_ble_eq_true rfl) [1, 0] rfl ?_
  refine zs_iconst (v := 1) dX2_pairsOf_2 ciconst_1 ?_
  refine zs_istore_n (loc' := [(0, .int v0), (1, .int 0), (2, .int 1)]) dX2_pairsOf_3 rfl (Nat.le_of_ble_eq_true rfl) [1, 2, 0] rfl ?_
  exact w_X2_pairsOf_L4 E hE d hd _ _ _ _ _ _
theorem dX2_turnedAt_0 : decode cX2_turnedAt 0 = .ok (.iload_n 1, 1) := by decide +kernel
theorem dX2_turnedAt_1 : decode cX2_turnedAt 1 = .ok (.iload_n 0, 1) := by decide +kernel
theorem dX2_turnedAt_2 : decode cX2_turnedAt 2 = .ok (.iload_n 1, 1) := by decide +kernel
theorem dX2_turnedAt_3 : decode cX2_turnedAt 3 = .ok (.iload_n 2, 1) := by decide +kernel
theorem dX2_turnedAt_4 : decode cX2_turnedAt 4 = .ok (.invokestatic 20, 3) := by decide +kernel
theorem dX2_turnedAt_7 : decode cX2_turnedAt 7 = .ok (.invokestatic 24, 3) := by decide +kernel
theorem dX2_turnedAt_10 : decode cX2_turnedAt 10 = .ok (.ixor, 1) := by decide +kernel
theorem dX2_turnedAt_11 : decode cX2_turnedAt 11 = .ok (.ireturn, 1) := by decide +kernel
def fp_X2_turnedAt (v0 : Int32) (v1 : Int32) (v2 : Int32) : Option (Int32) :=
  (fp_X2_nearTo v0 v1 v2).bind fun (y1 : Int32) =>
  (fp_X2_pairsOf y1).bind fun (y2 : Int32) =>
  some (v1 ^^^ y2)
set_option maxHeartbeats 4000000 in
set_option maxRecDepth 100000 in
theorem ct_X2_turnedAt (E : zEnv) (hE : zEok E) (d : Nat) (hd : 2 ≤ d) (v0 : Int32) (v1 : Int32) (v2 : Int32) (M : zM) (x0 : Int32) (hx : fp_X2_turnedAt v0 v1 v2 = some x0) : zCt E mu_X2_turnedAt d [.int v0, .int v1, .int v2] M (some (.int x0), M) := by
  refine zCt_of (μ := mu_X2_turnedAt) (t := fp_X2_turnedAt v0 v1 v2) rfl rfl (Nat.le_of_ble_eq_true rfl) hx ?_
  change zSy E mu_X2_turnedAt d M (some (.int x0), M) x0 (fp_X2_turnedAt v0 v1 v2) 0 [(0, .int v0), (1, .int v1), (2, .int v2)] [] M
  unfold fp_X2_turnedAt
  refine zs_iload_n dX2_turnedAt_0 rfl 1 rfl ?_
  refine zs_iload_n dX2_turnedAt_1 rfl 0 rfl ?_
  refine zs_iload_n dX2_turnedAt_2 rfl 1 rfl ?_
  refine zs_iload_n dX2_turnedAt_3 rfl 2 rfl ?_
  refine zs_invSPI (rest := [.int v1]) [.int v0, .int v1, .int v2] dX2_turnedAt_4 lk_X2_20 rfl (zd1 rfl hd) rfl (Nat.le_of_ble_eq_true rfl) (ct_X2_nearTo E hE _ (zdl rfl hd) _ _ _ _) (fun y1 => ?_)
  refine zs_invSPI (rest := [.int v1]) [.int y1] dX2_turnedAt_7 lk_X2_24 rfl (zd1 rfl hd) rfl (Nat.le_of_ble_eq_true rfl) (ct_X2_pairsOf E hE _ (zdl rfl hd) _ _) (fun y2 => ?_)
  refine zs_ixor dX2_turnedAt_10 ?_
  exact zs_iretP dX2_turnedAt_11 rfl
theorem dX2_swungOver_0 : decode cX2_swungOver 0 = .ok (.iload_n 2, 1) := by decide +kernel
theorem dX2_swungOver_1 : decode cX2_swungOver 1 = .ok (.iload_n 3, 1) := by decide +kernel
theorem dX2_swungOver_2 : decode cX2_swungOver 2 = .ok (.invokestatic 27, 3) := by decide +kernel
theorem dX2_swungOver_5 : decode cX2_swungOver 5 = .ok (.istore 4, 2) := by decide +kernel
theorem dX2_swungOver_7 : decode cX2_swungOver 7 = .ok (.iload_n 0, 1) := by decide +kernel
theorem dX2_swungOver_8 : decode cX2_swungOver 8 = .ok (.iload_n 1, 1) := by decide +kernel
theorem dX2_swungOver_9 : decode cX2_swungOver 9 = .ok (.iload 4, 2) := by decide +kernel
theorem dX2_swungOver_11 : decode cX2_swungOver 11 = .ok (.invokestatic 32, 3) := by decide +kernel
theorem dX2_swungOver_14 : decode cX2_swungOver 14 = .ok (.istore 5, 2) := by decide +kernel
theorem dX2_swungOver_16 : decode cX2_swungOver 16 = .ok (.iload_n 0, 1) := by decide +kernel
theorem dX2_swungOver_17 : decode cX2_swungOver 17 = .ok (.iload 5, 2) := by decide +kernel
theorem dX2_swungOver_19 : decode cX2_swungOver 19 = .ok (.iload_n 2, 1) := by decide +kernel
theorem dX2_swungOver_20 : decode cX2_swungOver 20 = .ok (.iload_n 3, 1) := by decide +kernel
theorem dX2_swungOver_21 : decode cX2_swungOver 21 = .ok (.invokestatic 35, 3) := by decide +kernel
theorem dX2_swungOver_24 : decode cX2_swungOver 24 = .ok (.invokestatic 32, 3) := by decide +kernel
theorem dX2_swungOver_27 : decode cX2_swungOver 27 = .ok (.istore 6, 2) := by decide +kernel
theorem dX2_swungOver_29 : decode cX2_swungOver 29 = .ok (.iload_n 0, 1) := by decide +kernel
theorem dX2_swungOver_30 : decode cX2_swungOver 30 = .ok (.iload 6, 2) := by decide +kernel
theorem dX2_swungOver_32 : decode cX2_swungOver 32 = .ok (.iload 4, 2) := by decide +kernel
theorem dX2_swungOver_34 : decode cX2_swungOver 34 = .ok (.invokestatic 32, 3) := by decide +kernel
theorem dX2_swungOver_37 : decode cX2_swungOver 37 = .ok (.ireturn, 1) := by decide +kernel
def fp_X2_swungOver (v0 : Int32) (v1 : Int32) (v2 : Int32) (v3 : Int32) : Option (Int32) :=
  lett ((kmin v2 v3)) fun (v4_1 : Int32) =>
  (fp_X2_turnedAt v0 v1 v4_1).bind fun (y2 : Int32) =>
  (fp_X2_turnedAt v0 y2 (kmax v2 v3)).bind fun (y3 : Int32) =>
  (fp_X2_turnedAt v0 y3 v4_1).bind fun (y4 : Int32) =>
  some y4
set_option maxHeartbeats 4000000 in
set_option maxRecDepth 100000 in
theorem ct_X2_swungOver (E : zEnv) (hE : zEok E) (d : Nat) (hd : 3 ≤ d) (v0 : Int32) (v1 : Int32) (v2 : Int32) (v3 : Int32) (M : zM) (x0 : Int32) (hx : fp_X2_swungOver v0 v1 v2 v3 = some x0) : zCt E mu_X2_swungOver d [.int v0, .int v1, .int v2, .int v3] M (some (.int x0), M) := by
  refine zCt_of (μ := mu_X2_swungOver) (t := fp_X2_swungOver v0 v1 v2 v3) rfl rfl (Nat.le_of_ble_eq_true rfl) hx ?_
  change zSy E mu_X2_swungOver d M (some (.int x0), M) x0 (fp_X2_swungOver v0 v1 v2 v3) 0 [(0, .int v0), (1, .int v1), (2, .int v2), (3, .int v3)] [] M
  unfold fp_X2_swungOver
  refine zs_iload_n dX2_swungOver_0 rfl 2 rfl ?_
  refine zs_iload_n dX2_swungOver_1 rfl 3 rfl ?_
  refine zs_min dX2_swungOver_2 (ti_2 179 rfl rfl) ms_min mi_Math mc_min (zd0 rfl hd) (Nat.le_of_ble_eq_true rfl) ?_
  refine zs_istoreL (loc' := fun v4_1 => [(0, .int v0), (1, .int v1), (2, .int v2), (3, .int v3), (4, .int v4_1)]) dX2_swungOver_5 (Nat.le_of_ble_eq_true rfl) [1, 2, 3, 4, 0] (fun _ => rfl) (fun v4_1 => ?_)
  refine zs_iload_n dX2_swungOver_7 rfl 0 rfl ?_
  refine zs_iload_n dX2_swungOver_8 rfl 1 rfl ?_
  refine zs_iload dX2_swungOver_9 4 rfl ?_
  refine zs_invSPI (rest := []) [.int v0, .int v1, .int v4_1] dX2_swungOver_11 lk_X2_32 rfl (zd1 rfl hd) rfl (Nat.le_of_ble_eq_true rfl) (ct_X2_turnedAt E hE _ (zdl rfl hd) _ _ _ _) (fun y2 => ?_)
  refine zs_istore (loc' := [(0, .int v0), (2, .int v2), (3, .int v3), (4, .int v4_1), (5, .int y2)]) dX2_swungOver_14 (Nat.le_of_ble_eq_true rfl) [1, 3, 4, 5, 0] rfl ?_
  refine zs_iload_n dX2_swungOver_16 rfl 0 rfl ?_
  refine zs_iload dX2_swungOver_17 4 rfl ?_
  refine zs_iload_n dX2_swungOver_19 rfl 1 rfl ?_
  refine zs_iload_n dX2_swungOver_20 rfl 2 rfl ?_
  refine zs_max dX2_swungOver_21 (ti_2 189 rfl rfl) ms_max mi_Math mc_max (zd0 rfl hd) (Nat.le_of_ble_eq_true rfl) ?_
  refine zs_invSPI (rest := []) [.int v0, .int y2, .int (kmax v2 v3)] dX2_swungOver_24 lk_X2_32 rfl (zd1 rfl hd) rfl (Nat.le_of_ble_eq_true rfl) (ct_X2_turnedAt E hE _ (zdl rfl hd) _ _ _ _) (fun y3 => ?_)
  refine zs_istore (loc' := [(0, .int v0), (4, .int v4_1), (6, .int y3)]) dX2_swungOver_27 (Nat.le_of_ble_eq_true rfl) [1, 4, 0] rfl ?_
  refine zs_iload_n dX2_swungOver_29 rfl 0 rfl ?_
  refine zs_iload dX2_swungOver_30 2 rfl ?_
  refine zs_iload dX2_swungOver_32 1 rfl ?_
  refine zs_invSPI (rest := []) [.int v0, .int y3, .int v4_1] dX2_swungOver_34 lk_X2_32 rfl (zd1 rfl hd) rfl (Nat.le_of_ble_eq_true rfl) (ct_X2_turnedAt E hE _ (zdl rfl hd) _ _ _ _) (fun y4 => ?_)
  exact zs_iretP dX2_swungOver_37 rfl
theorem dX2_exchange_0 : decode cX2_exchange 0 = .ok (.iload_n 0, 1) := by decide +kernel
theorem dX2_exchange_1 : decode cX2_exchange 1 = .ok (.iload_n 1, 1) := by decide +kernel
theorem dX2_exchange_2 : decode cX2_exchange 2 = .ok (.if_icmp .ne 5, 3) := by decide +kernel
theorem dX2_exchange_5 : decode cX2_exchange 5 = .ok (.iload_n 2, 1) := by decide +kernel
theorem dX2_exchange_6 : decode cX2_exchange 6 = .ok (.ireturn, 1) := by decide +kernel
theorem dX2_exchange_7 : decode cX2_exchange 7 = .ok (.iload_n 0, 1) := by decide +kernel
theorem dX2_exchange_8 : decode cX2_exchange 8 = .ok (.iload_n 2, 1) := by decide +kernel
theorem dX2_exchange_9 : decode cX2_exchange 9 = .ok (.if_icmp .ne 7, 3) := by decide +kernel
theorem dX2_exchange_12 : decode cX2_exchange 12 = .ok (.iload_n 1, 1) := by decide +kernel
theorem dX2_exchange_13 : decode cX2_exchange 13 = .ok (.goto 4, 3) := by decide +kernel
theorem dX2_exchange_16 : decode cX2_exchange 16 = .ok (.iload_n 0, 1) := by decide +kernel
theorem dX2_exchange_17 : decode cX2_exchange 17 = .ok (.ireturn, 1) := by decide +kernel
def fp_X2_exchange (v0 : Int32) (v1 : Int32) (v2 : Int32) : Option (Int32) :=
  if v0 ≠ v1 then (
    if v0 ≠ v2 then (
      some v0)
    else (
      some v1))
  else (
    some v2)
set_option maxHeartbeats 4000000 in
set_option maxRecDepth 100000 in
theorem ct_X2_exchange (E : zEnv) (hE : zEok E) (d : Nat) (hd : 1 ≤ d) (v0 : Int32) (v1 : Int32) (v2 : Int32) (M : zM) (x0 : Int32) (hx : fp_X2_exchange v0 v1 v2 = some x0) : zCt E mu_X2_exchange d [.int v0, .int v1, .int v2] M (some (.int x0), M) := by
  refine zCt_of (μ := mu_X2_exchange) (t := fp_X2_exchange v0 v1 v2) rfl rfl (Nat.le_of_ble_eq_true rfl) hx ?_
  change zSy E mu_X2_exchange d M (some (.int x0), M) x0 (fp_X2_exchange v0 v1 v2) 0 [(0, .int v0), (1, .int v1), (2, .int v2)] [] M
  unfold fp_X2_exchange
  refine zs_iload_n dX2_exchange_0 rfl 0 rfl ?_
  refine zs_iload_n dX2_exchange_1 rfl 1 rfl ?_
  refine zs_icmp_ne dX2_exchange_2 rfl ?_ ?_
  · refine zs_iload_n dX2_exchange_7 rfl 0 rfl ?_
    refine zs_iload_n dX2_exchange_8 rfl 2 rfl ?_
    refine zs_icmp_ne dX2_exchange_9 rfl ?_ ?_
    · refine zs_iload_n dX2_exchange_16 rfl 0 rfl ?_
      exact zs_iretP dX2_exchange_17 rfl
    refine zs_iload_n dX2_exchange_12 rfl 1 rfl ?_
    refine zs_goto dX2_exchange_13 rfl ?_
    exact zs_iretP dX2_exchange_17 rfl
  refine zs_iload_n dX2_exchange_5 rfl 2 rfl ?_
  exact zs_iretP dX2_exchange_6 rfl
theorem dX2_exchanged_0 : decode cX2_exchanged 0 = .ok (.iconst 0, 1) := by decide +kernel
theorem dX2_exchanged_1 : decode cX2_exchanged 1 = .ok (.istore 4, 2) := by decide +kernel
theorem dX2_exchanged_3 : decode cX2_exchanged 3 = .ok (.iconst 1, 1) := by decide +kernel
theorem dX2_exchanged_4 : decode cX2_exchanged 4 = .ok (.istore 5, 2) := by decide +kernel
theorem dX2_exchanged_6 : decode cX2_exchanged 6 = .ok (.iload 5, 2) := by decide +kernel
theorem dX2_exchanged_8 : decode cX2_exchanged 8 = .ok (.iload_n 0, 1) := by decide +kernel
theorem dX2_exchanged_9 : decode cX2_exchanged 9 = .ok (.if_icmp .ge 60, 3) := by decide +kernel
theorem dX2_exchanged_12 : decode cX2_exchanged 12 = .ok (.iconst 0, 1) := by decide +kernel
theorem dX2_exchanged_13 : decode cX2_exchanged 13 = .ok (.istore 6, 2) := by decide +kernel
theorem dX2_exchanged_15 : decode cX2_exchanged 15 = .ok (.iload 6, 2) := by decide +kernel
theorem dX2_exchanged_17 : decode cX2_exchanged 17 = .ok (.iload 5, 2) := by decide +kernel
theorem dX2_exchanged_19 : decode cX2_exchanged 19 = .ok (.if_icmp .ge 44, 3) := by decide +kernel
theorem dX2_exchanged_22 : decode cX2_exchanged 22 = .ok (.iload_n 1, 1) := by decide +kernel
theorem dX2_exchanged_23 : decode cX2_exchanged 23 = .ok (.iload 6, 2) := by decide +kernel
theorem dX2_exchanged_25 : decode cX2_exchanged 25 = .ok (.iload_n 2, 1) := by decide +kernel
theorem dX2_exchanged_26 : decode cX2_exchanged 26 = .ok (.iload_n 3, 1) := by decide +kernel
theorem dX2_exchanged_27 : decode cX2_exchanged 27 = .ok (.invokestatic 38, 3) := by decide +kernel
theorem dX2_exchanged_30 : decode cX2_exchanged 30 = .ok (.iload 5, 2) := by decide +kernel
theorem dX2_exchanged_32 : decode cX2_exchanged 32 = .ok (.iload_n 2, 1) := by decide +kernel
theorem dX2_exchanged_33 : decode cX2_exchanged 33 = .ok (.iload_n 3, 1) := by decide +kernel
theorem dX2_exchanged_34 : decode cX2_exchanged 34 = .ok (.invokestatic 38, 3) := by decide +kernel
theorem dX2_exchanged_37 : decode cX2_exchanged 37 = .ok (.invokestatic 41, 3) := by decide +kernel
theorem dX2_exchanged_40 : decode cX2_exchanged 40 = .ok (.ifCond .eq 17, 3) := by decide +kernel
theorem dX2_exchanged_43 : decode cX2_exchanged 43 = .ok (.iload 4, 2) := by decide +kernel
theorem dX2_exchanged_45 : decode cX2_exchanged 45 = .ok (.iconst 1, 1) := by decide +kernel
theorem dX2_exchanged_46 : decode cX2_exchanged 46 = .ok (.iload 6, 2) := by decide +kernel
theorem dX2_exchanged_48 : decode cX2_exchanged 48 = .ok (.iload 5, 2) := by decide +kernel
theorem dX2_exchanged_50 : decode cX2_exchanged 50 = .ok (.invokestatic 12, 3) := by decide +kernel
theorem dX2_exchanged_53 : decode cX2_exchanged 53 = .ok (.ishl, 1) := by decide +kernel
theorem dX2_exchanged_54 : decode cX2_exchanged 54 = .ok (.ior, 1) := by decide +kernel
theorem dX2_exchanged_55 : decode cX2_exchanged 55 = .ok (.istore 4, 2) := by decide +kernel
theorem dX2_exchanged_57 : decode cX2_exchanged 57 = .ok (.iinc 6 1, 3) := by decide +kernel
theorem dX2_exchanged_60 : decode cX2_exchanged 60 = .ok (.goto (-45), 3) := by decide +kernel
theorem dX2_exchanged_63 : decode cX2_exchanged 63 = .ok (.iinc 5 1, 3) := by decide +kernel
theorem dX2_exchanged_66 : decode cX2_exchanged 66 = .ok (.goto (-60), 3) := by decide +kernel
theorem dX2_exchanged_69 : decode cX2_exchanged 69 = .ok (.iload 4, 2) := by decide +kernel
theorem dX2_exchanged_71 : decode cX2_exchanged 71 = .ok (.ireturn, 1) := by decide +kernel
def fp_X2_exchanged_L15 (k63 : Int32 → Option (Int32)) (v0 : Int32) (v1 : Int32) (v2 : Int32) (v3 : Int32) (v5 : Int32) : Nat → Int32 → Int32 → Option (Int32)
  | 0, _, _ => none
  | n + 1, v4, v6 =>
    if v6 ≥ v5 then (
      k63 v4)
    else (
      (fp_X2_exchange v6 v2 v3).bind fun (y1 : Int32) =>
      (fp_X2_exchange v5 v2 v3).bind fun (y2 : Int32) =>
      (fp_X2_tied v1 y1 y2).bind fun (y3 : Int32) =>
      zjn (fun (v4_4 : Int32) =>
          fp_X2_exchanged_L15 k63 v0 v1 v2 v3 v5 n v4_4 (v6 + 1))
        (fun j57 =>
          if y3 = 0 then (
            j57 v4)
          else (
            (fp_X2_pair v6 v5).bind fun (y5 : Int32) =>
            lett ((v4 ||| (1 <<< (y5 &&& 31)))) fun (v4_6 : Int32) =>
            j57 v4_6)))
def fp_X2_exchanged_L6 (v0 : Int32) (v1 : Int32) (v2 : Int32) (v3 : Int32) : Nat → Int32 → Int32 → Option (Int32)
  | 0, _, _ => none
  | n + 1, v4, v5 =>
    if v5 ≥ v0 then (
      some v4)
    else (
      fp_X2_exchanged_L15
        (fun v4_7 =>
          fp_X2_exchanged_L6 v0 v1 v2 v3 n v4_7 (v5 + 1)) v0 v1 v2 v3 v5 FU v4 0)
def fp_X2_exchanged (v0 : Int32) (v1 : Int32) (v2 : Int32) (v3 : Int32) : Option (Int32) :=
  fp_X2_exchanged_L6 v0 v1 v2 v3 FU 0 1
set_option maxHeartbeats 4000000 in
set_option maxRecDepth 100000 in
theorem w_X2_exchanged_L15 (E : zEnv) (hE : zEok E) (d : Nat) (hd : 3 ≤ d) (x0 : Int32) (v0 : Int32) (v1 : Int32) (v2 : Int32) (v3 : Int32) (v5 : Int32) (M : zM) (k63 : Int32 → Option (Int32)) (hk63 : ∀ (v4 : Int32), zSy E mu_X2_exchanged d M (some (.int x0), M) x0 (k63 v4) 63 [(0, .int v0), (1, .int v1), (2, .int v2), (3, .int v3), (4, .int v4), (5, .int v5)] [] M) : ∀ (n : Nat) (v4 : Int32) (v6 : Int32), zSy E mu_X2_exchanged d M (some (.int x0), M) x0 (fp_X2_exchanged_L15 k63 v0 v1 v2 v3 v5 n v4 v6) 15 [(0, .int v0), (1, .int v1), (2, .int v2), (3, .int v3), (4, .int v4), (5, .int v5), (6, .int v6)] [] M := by
  intro n
  induction n with
  | zero =>
    intro v4 v6
    rw [fp_X2_exchanged_L15]
    exact zs_none
  | succ n ih =>
    intro v4 v6
    rw [fp_X2_exchanged_L15]
    refine zs_iload dX2_exchanged_15 6 rfl ?_
    refine zs_iload dX2_exchanged_17 5 rfl ?_
    refine zs_icmp_ge dX2_exchanged_19 rfl ?_ ?_
    · refine zs_sub (loc' := [(0, .int v0), (1, .int v1), (2, .int v2), (3, .int v3), (4, .int v4), (5, .int v5)]) [0, 1, 2, 3, 4, 5] rfl ?_
      exact hk63 v4
    refine zs_iload_n dX2_exchanged_22 rfl 1 rfl ?_
    refine zs_iload dX2_exchanged_23 6 rfl ?_
    refine zs_iload_n dX2_exchanged_25 rfl 2 rfl ?_
    refine zs_iload_n dX2_exchanged_26 rfl 3 rfl ?_
    refine zs_invSPI (rest := [.int v1]) [.int v6, .int v2, .int v3] dX2_exchanged_27 lk_X2_38 rfl (zd1 rfl hd) rfl (Nat.le_of_ble_eq_true rfl) (ct_X2_exchange E hE _ (zdl rfl hd) _ _ _ _) (fun y1 => ?_)
    refine zs_iload dX2_exchanged_30 5 rfl ?_
    refine zs_iload_n dX2_exchanged_32 rfl 2 rfl ?_
    refine zs_iload_n dX2_exchanged_33 rfl 3 rfl ?_
    refine zs_invSPI (rest := [.int y1, .int v1]) [.int v5, .int v2, .int v3] dX2_exchanged_34 lk_X2_38 rfl (zd1 rfl hd) rfl (Nat.le_of_ble_eq_true rfl) (ct_X2_exchange E hE _ (zdl rfl hd) _ _ _ _) (fun y2 => ?_)
    refine zs_invSPI (rest := []) [.int v1, .int y1, .int y2] dX2_exchanged_37 lk_X2_41 rfl (zd1 rfl hd) rfl (Nat.le_of_ble_eq_true rfl) (ct_X2_tied E hE _ (zdl rfl hd) _ _ _ _) (fun y3 => ?_)
    refine zs_jn (fun j57 => ∀ (v4_4 : Int32), zSy E mu_X2_exchanged d M (some (.int x0), M) x0 (j57 v4_4) 57 [(0, .int v0), (1, .int v1), (2, .int v2), (3, .int v3), (4, .int v4_4), (5, .int v5), (6, .int v6)] [] M) (fun v4_4 => ?_) (fun j57 hj57 => ?_)
    · refine zs_iinc (v := (v6 + 1)) (loc' := [(0, .int v0), (1, .int v1), (2, .int v2), (3, .int v3), (4, .int v4_4), (5, .int v5), (6, .int (v6 + 1))]) dX2_exchanged_57 6 rfl (by rfl) (Nat.le_of_ble_eq_true rfl) [1, 2, 3, 4, 5, 6, 0] rfl ?_
      refine zs_goto dX2_exchanged_60 rfl ?_
      exact ih v4_4 (v6 + 1)
    refine zs_if_eq dX2_exchanged_40 rfl ?_ ?_
    · exact hj57 v4
    refine zs_iload dX2_exchanged_43 4 rfl ?_
    refine zs_iconst (v := 1) dX2_exchanged_45 ciconst_1 ?_
    refine zs_iload dX2_exchanged_46 6 rfl ?_
    refine zs_iload dX2_exchanged_48 5 rfl ?_
    refine zs_invSPI (rest := [.int 1, .int v4]) [.int v6, .int v5] dX2_exchanged_50 lk_X2_12 rfl (zd1 rfl hd) rfl (Nat.le_of_ble_eq_true rfl) (ct_X2_pair E hE _ (zdl rfl hd) _ _ _) (fun y5 => ?_)
    refine zs_ishl dX2_exchanged_53 ?_
    refine zs_ior dX2_exchanged_54 ?_
    refine zs_istoreL (loc' := fun v4_6 => [(0, .int v0), (1, .int v1), (2, .int v2), (3, .int v3), (4, .int v4_6), (5, .int v5), (6, .int v6)]) dX2_exchanged_55 (Nat.le_of_ble_eq_true rfl) [1, 2, 3, 4, 0, 5, 6] (fun _ => rfl) (fun v4_6 => ?_)
    exact hj57 v4_6
set_option maxHeartbeats 4000000 in
set_option maxRecDepth 100000 in
theorem w_X2_exchanged_L6 (E : zEnv) (hE : zEok E) (d : Nat) (hd : 3 ≤ d) (x0 : Int32) (v0 : Int32) (v1 : Int32) (v2 : Int32) (v3 : Int32) (M : zM)  : ∀ (n : Nat) (v4 : Int32) (v5 : Int32), zSy E mu_X2_exchanged d M (some (.int x0), M) x0 (fp_X2_exchanged_L6 v0 v1 v2 v3 n v4 v5) 6 [(0, .int v0), (1, .int v1), (2, .int v2), (3, .int v3), (4, .int v4), (5, .int v5)] [] M := by
  intro n
  induction n with
  | zero =>
    intro v4 v5
    rw [fp_X2_exchanged_L6]
    exact zs_none
  | succ n ih =>
    intro v4 v5
    rw [fp_X2_exchanged_L6]
    refine zs_iload dX2_exchanged_6 5 rfl ?_
    refine zs_iload_n dX2_exchanged_8 rfl 0 rfl ?_
    refine zs_icmp_ge dX2_exchanged_9 rfl ?_ ?_
    · refine zs_iload dX2_exchanged_69 4 rfl ?_
      exact zs_iretP dX2_exchanged_71 rfl
    refine zs_iconst (v := 0) dX2_exchanged_12 ciconst_0 ?_
    refine zs_istore (loc' := [(0, .int v0), (1, .int v1), (2, .int v2), (3, .int v3), (4, .int v4), (5, .int v5), (6, .int 0)]) dX2_exchanged_13 (Nat.le_of_ble_eq_true rfl) [1, 2, 3, 4, 5, 6, 0] rfl ?_
    refine w_X2_exchanged_L15 E hE d hd _ _ _ _ _ _ _ _ (fun v4_7 => ?_) _ _ _
    refine zs_iinc (v := (v5 + 1)) (loc' := [(0, .int v0), (1, .int v1), (2, .int v2), (3, .int v3), (4, .int v4_7), (5, .int (v5 + 1))]) dX2_exchanged_63 5 rfl (by rfl) (Nat.le_of_ble_eq_true rfl) [1, 2, 3, 4, 5, 0] rfl ?_
    refine zs_goto dX2_exchanged_66 rfl ?_
    exact ih v4_7 (v5 + 1)
set_option maxHeartbeats 4000000 in
set_option maxRecDepth 100000 in
theorem ct_X2_exchanged (E : zEnv) (hE : zEok E) (d : Nat) (hd : 3 ≤ d) (v0 : Int32) (v1 : Int32) (v2 : Int32) (v3 : Int32) (M : zM) (x0 : Int32) (hx : fp_X2_exchanged v0 v1 v2 v3 = some x0) : zCt E mu_X2_exchanged d [.int v0, .int v1, .int v2, .int v3] M (some (.int x0), M) := by
  refine zCt_of (μ := mu_X2_exchanged) (t := fp_X2_exchanged v0 v1 v2 v3) rfl rfl (Nat.le_of_ble_eq_true rfl) hx ?_
  change zSy E mu_X2_exchanged d M (some (.int x0), M) x0 (fp_X2_exchanged v0 v1 v2 v3) 0 [(0, .int v0), (1, .int v1), (2, .int v2), (3, .int v3)] [] M
  unfold fp_X2_exchanged
  refine zs_iconst (v := 0) dX2_exchanged_0 ciconst_0 ?_
  refine zs_istore (loc' := [(0, .int v0), (1, .int v1), (2, .int v2), (3, .int v3), (4, .int 0)]) dX2_exchanged_1 (Nat.le_of_ble_eq_true rfl) [1, 2, 3, 4, 0] rfl ?_
  refine zs_iconst (v := 1) dX2_exchanged_3 ciconst_1 ?_
  refine zs_istore (loc' := [(0, .int v0), (1, .int v1), (2, .int v2), (3, .int v3), (4, .int 0), (5, .int 1)]) dX2_exchanged_4 (Nat.le_of_ble_eq_true rfl) [1, 2, 3, 4, 5, 0] rfl ?_
  exact w_X2_exchanged_L6 E hE d hd _ _ _ _ _ _ _ _ _
theorem dX2_part_0 : decode cX2_part 0 = .ok (.iconst 0, 1) := by decide +kernel
theorem dX2_part_1 : decode cX2_part 1 = .ok (.istore_n 3, 1) := by decide +kernel
theorem dX2_part_2 : decode cX2_part 2 = .ok (.iconst 0, 1) := by decide +kernel
theorem dX2_part_3 : decode cX2_part 3 = .ok (.istore 4, 2) := by decide +kernel
theorem dX2_part_5 : decode cX2_part 5 = .ok (.iconst 0, 1) := by decide +kernel
theorem dX2_part_6 : decode cX2_part 6 = .ok (.istore 5, 2) := by decide +kernel
theorem dX2_part_8 : decode cX2_part 8 = .ok (.iload 5, 2) := by decide +kernel
theorem dX2_part_10 : decode cX2_part 10 = .ok (.iload_n 0, 1) := by decide +kernel
theorem dX2_part_11 : decode cX2_part 11 = .ok (.if_icmp .ge 74, 3) := by decide +kernel
theorem dX2_part_14 : decode cX2_part 14 = .ok (.iload_n 2, 1) := by decide +kernel
theorem dX2_part_15 : decode cX2_part 15 = .ok (.iload 5, 2) := by decide +kernel
theorem dX2_part_17 : decode cX2_part 17 = .ok (.invokestatic 45, 3) := by decide +kernel
theorem dX2_part_20 : decode cX2_part 20 = .ok (.ifCond .eq 59, 3) := by decide +kernel
theorem dX2_part_23 : decode cX2_part 23 = .ok (.iconst 0, 1) := by decide +kernel
theorem dX2_part_24 : decode cX2_part 24 = .ok (.istore 6, 2) := by decide +kernel
theorem dX2_part_26 : decode cX2_part 26 = .ok (.iconst 0, 1) := by decide +kernel
theorem dX2_part_27 : decode cX2_part 27 = .ok (.istore 7, 2) := by decide +kernel
theorem dX2_part_29 : decode cX2_part 29 = .ok (.iload 7, 2) := by decide +kernel
theorem dX2_part_31 : decode cX2_part 31 = .ok (.iload 5, 2) := by decide +kernel
theorem dX2_part_33 : decode cX2_part 33 = .ok (.if_icmp .ge 43, 3) := by decide +kernel
theorem dX2_part_36 : decode cX2_part 36 = .ok (.iload_n 2, 1) := by decide +kernel
theorem dX2_part_37 : decode cX2_part 37 = .ok (.iload 7, 2) := by decide +kernel
theorem dX2_part_39 : decode cX2_part 39 = .ok (.invokestatic 45, 3) := by decide +kernel
theorem dX2_part_42 : decode cX2_part 42 = .ok (.ifCond .eq 28, 3) := by decide +kernel
theorem dX2_part_45 : decode cX2_part 45 = .ok (.iload_n 3, 1) := by decide +kernel
theorem dX2_part_46 : decode cX2_part 46 = .ok (.iload_n 1, 1) := by decide +kernel
theorem dX2_part_47 : decode cX2_part 47 = .ok (.iload 7, 2) := by decide +kernel
theorem dX2_part_49 : decode cX2_part 49 = .ok (.iload 5, 2) := by decide +kernel
theorem dX2_part_51 : decode cX2_part 51 = .ok (.invokestatic 12, 3) := by decide +kernel
theorem dX2_part_54 : decode cX2_part 54 = .ok (.ishr, 1) := by decide +kernel
theorem dX2_part_55 : decode cX2_part 55 = .ok (.iconst 1, 1) := by decide +kernel
theorem dX2_part_56 : decode cX2_part 56 = .ok (.iand, 1) := by decide +kernel
theorem dX2_part_57 : decode cX2_part 57 = .ok (.iload 6, 2) := by decide +kernel
theorem dX2_part_59 : decode cX2_part 59 = .ok (.iload 4, 2) := by decide +kernel
theorem dX2_part_61 : decode cX2_part 61 = .ok (.invokestatic 12, 3) := by decide +kernel
theorem dX2_part_64 : decode cX2_part 64 = .ok (.ishl, 1) := by decide +kernel
theorem dX2_part_65 : decode cX2_part 65 = .ok (.ior, 1) := by decide +kernel
theorem dX2_part_66 : decode cX2_part 66 = .ok (.istore_n 3, 1) := by decide +kernel
theorem dX2_part_67 : decode cX2_part 67 = .ok (.iinc 6 1, 3) := by decide +kernel
theorem dX2_part_70 : decode cX2_part 70 = .ok (.iinc 7 1, 3) := by decide +kernel
theorem dX2_part_73 : decode cX2_part 73 = .ok (.goto (-44), 3) := by decide +kernel
theorem dX2_part_76 : decode cX2_part 76 = .ok (.iinc 4 1, 3) := by decide +kernel
theorem dX2_part_79 : decode cX2_part 79 = .ok (.iinc 5 1, 3) := by decide +kernel
theorem dX2_part_82 : decode cX2_part 82 = .ok (.goto (-74), 3) := by decide +kernel
theorem dX2_part_85 : decode cX2_part 85 = .ok (.iload_n 3, 1) := by decide +kernel
theorem dX2_part_86 : decode cX2_part 86 = .ok (.ireturn, 1) := by decide +kernel
def fp_X2_part_L29 (k76 : Int32 → Option (Int32)) (v0 : Int32) (v1 : Int32) (v2 : Int32) (v4 : Int32) (v5 : Int32) : Nat → Int32 → Int32 → Int32 → Option (Int32)
  | 0, _, _, _ => none
  | n + 1, v3, v6, v7 =>
    if v7 ≥ v5 then (
      k76 v3)
    else (
      (fp_X2_isIn v2 v7).bind fun (y4 : Int32) =>
      zjn (fun (v3_5 : Int32) (v6_6 : Int32) =>
          fp_X2_part_L29 k76 v0 v1 v2 v4 v5 n v3_5 v6_6 (v7 + 1))
        (fun j70 =>
          if y4 = 0 then (
            j70 v3 v6)
          else (
            (fp_X2_pair v7 v5).bind fun (y7 : Int32) =>
            (fp_X2_pair v6 v4).bind fun (y8 : Int32) =>
            lett ((v3 ||| (((v1 >>> (y7 &&& 31)) &&& 1) <<< (y8 &&& 31)))) fun (v3_9 : Int32) =>
            j70 v3_9 (v6 + 1))))
def fp_X2_part_L8 (v0 : Int32) (v1 : Int32) (v2 : Int32) : Nat → Int32 → Int32 → Int32 → Option (Int32)
  | 0, _, _, _ => none
  | n + 1, v3, v4, v5 =>
    if v5 ≥ v0 then (
      some v3)
    else (
      (fp_X2_isIn v2 v5).bind fun (y1 : Int32) =>
      zjn (fun (v3_2 : Int32) (v4_3 : Int32) =>
          fp_X2_part_L8 v0 v1 v2 n v3_2 v4_3 (v5 + 1))
        (fun j79 =>
          if y1 = 0 then (
            j79 v3 v4)
          else (
            fp_X2_part_L29
              (fun v3_10 =>
                j79 v3_10 (v4 + 1)) v0 v1 v2 v4 v5 FU v3 0 0)))
def fp_X2_part (v0 : Int32) (v1 : Int32) (v2 : Int32) : Option (Int32) :=
  fp_X2_part_L8 v0 v1 v2 FU 0 0 0
set_option maxHeartbeats 4000000 in
set_option maxRecDepth 100000 in
theorem w_X2_part_L29 (E : zEnv) (hE : zEok E) (d : Nat) (hd : 2 ≤ d) (x0 : Int32) (v0 : Int32) (v1 : Int32) (v2 : Int32) (v4 : Int32) (v5 : Int32) (M : zM) (k76 : Int32 → Option (Int32)) (hk76 : ∀ (v3 : Int32), zSy E mu_X2_part d M (some (.int x0), M) x0 (k76 v3) 76 [(0, .int v0), (1, .int v1), (2, .int v2), (3, .int v3), (4, .int v4), (5, .int v5)] [] M) : ∀ (n : Nat) (v3 : Int32) (v6 : Int32) (v7 : Int32), zSy E mu_X2_part d M (some (.int x0), M) x0 (fp_X2_part_L29 k76 v0 v1 v2 v4 v5 n v3 v6 v7) 29 [(0, .int v0), (1, .int v1), (2, .int v2), (3, .int v3), (4, .int v4), (5, .int v5), (6, .int v6), (7, .int v7)] [] M := by
  intro n
  induction n with
  | zero =>
    intro v3 v6 v7
    rw [fp_X2_part_L29]
    exact zs_none
  | succ n ih =>
    intro v3 v6 v7
    rw [fp_X2_part_L29]
    refine zs_iload dX2_part_29 7 rfl ?_
    refine zs_iload dX2_part_31 5 rfl ?_
    refine zs_icmp_ge dX2_part_33 rfl ?_ ?_
    · refine zs_sub (loc' := [(0, .int v0), (1, .int v1), (2, .int v2), (3, .int v3), (4, .int v4), (5, .int v5)]) [0, 1, 2, 3, 4, 5] rfl ?_
      exact hk76 v3
    refine zs_iload_n dX2_part_36 rfl 2 rfl ?_
    refine zs_iload dX2_part_37 7 rfl ?_
    refine zs_invSPI (rest := []) [.int v2, .int v7] dX2_part_39 lk_X2_45 rfl (zd1 rfl hd) rfl (Nat.le_of_ble_eq_true rfl) (ct_X2_isIn E hE _ (zdl rfl hd) _ _ _) (fun y4 => ?_)
    refine zs_jn (fun j70 => ∀ (v3_5 : Int32) (v6_6 : Int32), zSy E mu_X2_part d M (some (.int x0), M) x0 (j70 v3_5 v6_6) 70 [(0, .int v0), (1, .int v1), (2, .int v2), (3, .int v3_5), (4, .int v4), (5, .int v5), (6, .int v6_6), (7, .int v7)] [] M) (fun v3_5 v6_6 => ?_) (fun j70 hj70 => ?_)
    · refine zs_iinc (v := (v7 + 1)) (loc' := [(0, .int v0), (1, .int v1), (2, .int v2), (3, .int v3_5), (4, .int v4), (5, .int v5), (6, .int v6_6), (7, .int (v7 + 1))]) dX2_part_70 7 rfl (by rfl) (Nat.le_of_ble_eq_true rfl) [1, 2, 3, 4, 5, 6, 7, 0] rfl ?_
      refine zs_goto dX2_part_73 rfl ?_
      exact ih v3_5 v6_6 (v7 + 1)
    refine zs_if_eq dX2_part_42 rfl ?_ ?_
    · exact hj70 v3 v6
    refine zs_iload_n dX2_part_45 rfl 3 rfl ?_
    refine zs_iload_n dX2_part_46 rfl 1 rfl ?_
    refine zs_iload dX2_part_47 7 rfl ?_
    refine zs_iload dX2_part_49 5 rfl ?_
    refine zs_invSPI (rest := [.int v1, .int v3]) [.int v7, .int v5] dX2_part_51 lk_X2_12 rfl (zd1 rfl hd) rfl (Nat.le_of_ble_eq_true rfl) (ct_X2_pair E hE _ (zdl rfl hd) _ _ _) (fun y7 => ?_)
    refine zs_ishr dX2_part_54 ?_
    refine zs_iconst (v := 1) dX2_part_55 ciconst_1 ?_
    refine zs_iand dX2_part_56 ?_
    refine zs_iload dX2_part_57 6 rfl ?_
    refine zs_iload dX2_part_59 4 rfl ?_
    refine zs_invSPI (rest := [.int ((v1 >>> (y7 &&& 31)) &&& 1), .int v3]) [.int v6, .int v4] dX2_part_61 lk_X2_12 rfl (zd1 rfl hd) rfl (Nat.le_of_ble_eq_true rfl) (ct_X2_pair E hE _ (zdl rfl hd) _ _ _) (fun y8 => ?_)
    refine zs_ishl dX2_part_64 ?_
    refine zs_ior dX2_part_65 ?_
    refine zs_istore_nL (loc' := fun v3_9 => [(0, .int v0), (1, .int v1), (2, .int v2), (3, .int v3_9), (4, .int v4), (5, .int v5), (6, .int v6), (7, .int v7)]) dX2_part_66 rfl (Nat.le_of_ble_eq_true rfl) [1, 2, 3, 0, 4, 5, 6, 7] (fun _ => rfl) (fun v3_9 => ?_)
    refine zs_iinc (v := (v6 + 1)) (loc' := [(0, .int v0), (1, .int v1), (2, .int v2), (3, .int v3_9), (4, .int v4), (5, .int v5), (6, .int (v6 + 1)), (7, .int v7)]) dX2_part_67 6 rfl (by rfl) (Nat.le_of_ble_eq_true rfl) [1, 2, 3, 4, 5, 6, 0, 7] rfl ?_
    exact hj70 v3_9 (v6 + 1)
set_option maxHeartbeats 4000000 in
set_option maxRecDepth 100000 in
theorem w_X2_part_L8 (E : zEnv) (hE : zEok E) (d : Nat) (hd : 2 ≤ d) (x0 : Int32) (v0 : Int32) (v1 : Int32) (v2 : Int32) (M : zM)  : ∀ (n : Nat) (v3 : Int32) (v4 : Int32) (v5 : Int32), zSy E mu_X2_part d M (some (.int x0), M) x0 (fp_X2_part_L8 v0 v1 v2 n v3 v4 v5) 8 [(0, .int v0), (1, .int v1), (2, .int v2), (3, .int v3), (4, .int v4), (5, .int v5)] [] M := by
  intro n
  induction n with
  | zero =>
    intro v3 v4 v5
    rw [fp_X2_part_L8]
    exact zs_none
  | succ n ih =>
    intro v3 v4 v5
    rw [fp_X2_part_L8]
    refine zs_iload dX2_part_8 5 rfl ?_
    refine zs_iload_n dX2_part_10 rfl 0 rfl ?_
    refine zs_icmp_ge dX2_part_11 rfl ?_ ?_
    · refine zs_iload_n dX2_part_85 rfl 3 rfl ?_
      exact zs_iretP dX2_part_86 rfl
    refine zs_iload_n dX2_part_14 rfl 2 rfl ?_
    refine zs_iload dX2_part_15 5 rfl ?_
    refine zs_invSPI (rest := []) [.int v2, .int v5] dX2_part_17 lk_X2_45 rfl (zd1 rfl hd) rfl (Nat.le_of_ble_eq_true rfl) (ct_X2_isIn E hE _ (zdl rfl hd) _ _ _) (fun y1 => ?_)
    refine zs_jn (fun j79 => ∀ (v3_2 : Int32) (v4_3 : Int32), zSy E mu_X2_part d M (some (.int x0), M) x0 (j79 v3_2 v4_3) 79 [(0, .int v0), (1, .int v1), (2, .int v2), (3, .int v3_2), (4, .int v4_3), (5, .int v5)] [] M) (fun v3_2 v4_3 => ?_) (fun j79 hj79 => ?_)
    · refine zs_iinc (v := (v5 + 1)) (loc' := [(0, .int v0), (1, .int v1), (2, .int v2), (3, .int v3_2), (4, .int v4_3), (5, .int (v5 + 1))]) dX2_part_79 5 rfl (by rfl) (Nat.le_of_ble_eq_true rfl) [1, 2, 3, 4, 5, 0] rfl ?_
      refine zs_goto dX2_part_82 rfl ?_
      exact ih v3_2 v4_3 (v5 + 1)
    refine zs_if_eq dX2_part_20 rfl ?_ ?_
    · exact hj79 v3 v4
    refine zs_iconst (v := 0) dX2_part_23 ciconst_0 ?_
    refine zs_istore (loc' := [(0, .int v0), (1, .int v1), (2, .int v2), (3, .int v3), (4, .int v4), (5, .int v5), (6, .int 0)]) dX2_part_24 (Nat.le_of_ble_eq_true rfl) [1, 2, 3, 4, 5, 6, 0] rfl ?_
    refine zs_iconst (v := 0) dX2_part_26 ciconst_0 ?_
    refine zs_istore (loc' := [(0, .int v0), (1, .int v1), (2, .int v2), (3, .int v3), (4, .int v4), (5, .int v5), (6, .int 0), (7, .int 0)]) dX2_part_27 (Nat.le_of_ble_eq_true rfl) [1, 2, 3, 4, 5, 6, 7, 0] rfl ?_
    refine w_X2_part_L29 E hE d hd _ _ _ _ _ _ _ _ (fun v3_10 => ?_) _ _ _ _
    refine zs_iinc (v := (v4 + 1)) (loc' := [(0, .int v0), (1, .int v1), (2, .int v2), (3, .int v3_10), (4, .int (v4 + 1)), (5, .int v5)]) dX2_part_76 4 rfl (by rfl) (Nat.le_of_ble_eq_true rfl) [1, 2, 3, 4, 0, 5] rfl ?_
    exact hj79 v3_10 (v4 + 1)
set_option maxHeartbeats 4000000 in
set_option maxRecDepth 100000 in
theorem ct_X2_part (E : zEnv) (hE : zEok E) (d : Nat) (hd : 2 ≤ d) (v0 : Int32) (v1 : Int32) (v2 : Int32) (M : zM) (x0 : Int32) (hx : fp_X2_part v0 v1 v2 = some x0) : zCt E mu_X2_part d [.int v0, .int v1, .int v2] M (some (.int x0), M) := by
  refine zCt_of (μ := mu_X2_part) (t := fp_X2_part v0 v1 v2) rfl rfl (Nat.le_of_ble_eq_true rfl) hx ?_
  change zSy E mu_X2_part d M (some (.int x0), M) x0 (fp_X2_part v0 v1 v2) 0 [(0, .int v0), (1, .int v1), (2, .int v2)] [] M
  unfold fp_X2_part
  refine zs_iconst (v := 0) dX2_part_0 ciconst_0 ?_
  refine zs_istore_n (loc' := [(0, .int v0), (1, .int v1), (2, .int v2), (3, .int 0)]) dX2_part_1 rfl (Nat.le_of_ble_eq_true rfl) [1, 2, 3, 0] rfl ?_
  refine zs_iconst (v := 0) dX2_part_2 ciconst_0 ?_
  refine zs_istore (loc' := [(0, .int v0), (1, .int v1), (2, .int v2), (3, .int 0), (4, .int 0)]) dX2_part_3 (Nat.le_of_ble_eq_true rfl) [1, 2, 3, 4, 0] rfl ?_
  refine zs_iconst (v := 0) dX2_part_5 ciconst_0 ?_
  refine zs_istore (loc' := [(0, .int v0), (1, .int v1), (2, .int v2), (3, .int 0), (4, .int 0), (5, .int 0)]) dX2_part_6 (Nat.le_of_ble_eq_true rfl) [1, 2, 3, 4, 5, 0] rfl ?_
  exact w_X2_part_L8 E hE d hd _ _ _ _ _ _ _ _ _
theorem dX2_joinedSets_0 : decode cX2_joinedSets 0 = .ok (.iconst 0, 1) := by decide +kernel
theorem dX2_joinedSets_1 : decode cX2_joinedSets 1 = .ok (.istore_n 2, 1) := by decide +kernel
theorem dX2_joinedSets_2 : decode cX2_joinedSets 2 = .ok (.iconst 0, 1) := by decide +kernel
theorem dX2_joinedSets_3 : decode cX2_joinedSets 3 = .ok (.istore_n 3, 1) := by decide +kernel
theorem dX2_joinedSets_4 : decode cX2_joinedSets 4 = .ok (.iload_n 3, 1) := by decide +kernel
theorem dX2_joinedSets_5 : decode cX2_joinedSets 5 = .ok (.iload_n 0, 1) := by decide +kernel
theorem dX2_joinedSets_6 : decode cX2_joinedSets 6 = .ok (.if_icmp .ge 25, 3) := by decide +kernel
theorem dX2_joinedSets_9 : decode cX2_joinedSets 9 = .ok (.iload_n 0, 1) := by decide +kernel
theorem dX2_joinedSets_10 : decode cX2_joinedSets 10 = .ok (.iload_n 1, 1) := by decide +kernel
theorem dX2_joinedSets_11 : decode cX2_joinedSets 11 = .ok (.iload_n 3, 1) := by decide +kernel
theorem dX2_joinedSets_12 : decode cX2_joinedSets 12 = .ok (.invokestatic 49, 3) := by decide +kernel
theorem dX2_joinedSets_15 : decode cX2_joinedSets 15 = .ok (.iload_n 3, 1) := by decide +kernel
theorem dX2_joinedSets_16 : decode cX2_joinedSets 16 = .ok (.invokestatic 52, 3) := by decide +kernel
theorem dX2_joinedSets_19 : decode cX2_joinedSets 19 = .ok (.ifCond .eq 6, 3) := by decide +kernel
theorem dX2_joinedSets_22 : decode cX2_joinedSets 22 = .ok (.iinc 2 1, 3) := by decide +kernel
theorem dX2_joinedSets_25 : decode cX2_joinedSets 25 = .ok (.iinc 3 1, 3) := by decide +kernel
theorem dX2_joinedSets_28 : decode cX2_joinedSets 28 = .ok (.goto (-24), 3) := by decide +kernel
theorem dX2_joinedSets_31 : decode cX2_joinedSets 31 = .ok (.iload_n 2, 1) := by decide +kernel
theorem dX2_joinedSets_32 : decode cX2_joinedSets 32 = .ok (.ireturn, 1) := by decide +kernel
def fp_X2_joinedSets_L4 (v0 : Int32) (v1 : Int32) : Nat → Int32 → Int32 → Option (Int32)
  | 0, _, _ => none
  | n + 1, v2, v3 =>
    if v3 ≥ v0 then (
      some v2)
    else (
      (fp_X2_joinedTo v0 v1 v3).bind fun (y1 : Int32) =>
      (fp_X2_isLeastOf y1 v3).bind fun (y2 : Int32) =>
      zjn (fun (v2_3 : Int32) =>
          fp_X2_joinedSets_L4 v0 v1 n v2_3 (v3 + 1))
        (fun j25 =>
          if y2 = 0 then (
            j25 v2)
          else (
            j25 (v2 + 1))))
def fp_X2_joinedSets (v0 : Int32) (v1 : Int32) : Option (Int32) :=
  fp_X2_joinedSets_L4 v0 v1 FU 0 0
set_option maxHeartbeats 4000000 in
set_option maxRecDepth 100000 in
theorem w_X2_joinedSets_L4 (E : zEnv) (hE : zEok E) (d : Nat) (hd : 3 ≤ d) (x0 : Int32) (v0 : Int32) (v1 : Int32) (M : zM)  : ∀ (n : Nat) (v2 : Int32) (v3 : Int32), zSy E mu_X2_joinedSets d M (some (.int x0), M) x0 (fp_X2_joinedSets_L4 v0 v1 n v2 v3) 4 [(0, .int v0), (1, .int v1), (2, .int v2), (3, .int v3)] [] M := by
  intro n
  induction n with
  | zero =>
    intro v2 v3
    rw [fp_X2_joinedSets_L4]
    exact zs_none
  | succ n ih =>
    intro v2 v3
    rw [fp_X2_joinedSets_L4]
    refine zs_iload_n dX2_joinedSets_4 rfl 3 rfl ?_
    refine zs_iload_n dX2_joinedSets_5 rfl 0 rfl ?_
    refine zs_icmp_ge dX2_joinedSets_6 rfl ?_ ?_
    · refine zs_iload_n dX2_joinedSets_31 rfl 2 rfl ?_
      exact zs_iretP dX2_joinedSets_32 rfl
    refine zs_iload_n dX2_joinedSets_9 rfl 0 rfl ?_
    refine zs_iload_n dX2_joinedSets_10 rfl 1 rfl ?_
    refine zs_iload_n dX2_joinedSets_11 rfl 3 rfl ?_
    refine zs_invSPI (rest := []) [.int v0, .int v1, .int v3] dX2_joinedSets_12 lk_X2_49 rfl (zd1 rfl hd) rfl (Nat.le_of_ble_eq_true rfl) (ct_X2_joinedTo E hE _ (zdl rfl hd) _ _ _ _) (fun y1 => ?_)
    refine zs_iload_n dX2_joinedSets_15 rfl 3 rfl ?_
    refine zs_invSPI (rest := []) [.int y1, .int v3] dX2_joinedSets_16 lk_X2_52 rfl (zd1 rfl hd) rfl (Nat.le_of_ble_eq_true rfl) (ct_X2_isLeastOf E hE _ (zdl rfl hd) _ _ _) (fun y2 => ?_)
    refine zs_jn (fun j25 => ∀ (v2_3 : Int32), zSy E mu_X2_joinedSets d M (some (.int x0), M) x0 (j25 v2_3) 25 [(0, .int v0), (1, .int v1), (2, .int v2_3), (3, .int v3)] [] M) (fun v2_3 => ?_) (fun j25 hj25 => ?_)
    · refine zs_iinc (v := (v3 + 1)) (loc' := [(0, .int v0), (1, .int v1), (2, .int v2_3), (3, .int (v3 + 1))]) dX2_joinedSets_25 3 rfl (by rfl) (Nat.le_of_ble_eq_true rfl) [1, 2, 3, 0] rfl ?_
      refine zs_goto dX2_joinedSets_28 rfl ?_
      exact ih v2_3 (v3 + 1)
    refine zs_if_eq dX2_joinedSets_19 rfl ?_ ?_
    · exact hj25 v2
    refine zs_iinc (v := (v2 + 1)) (loc' := [(0, .int v0), (1, .int v1), (2, .int (v2 + 1)), (3, .int v3)]) dX2_joinedSets_22 2 rfl (by rfl) (Nat.le_of_ble_eq_true rfl) [1, 2, 0, 3] rfl ?_
    exact hj25 (v2 + 1)
set_option maxHeartbeats 4000000 in
set_option maxRecDepth 100000 in
theorem ct_X2_joinedSets (E : zEnv) (hE : zEok E) (d : Nat) (hd : 3 ≤ d) (v0 : Int32) (v1 : Int32) (M : zM) (x0 : Int32) (hx : fp_X2_joinedSets v0 v1 = some x0) : zCt E mu_X2_joinedSets d [.int v0, .int v1] M (some (.int x0), M) := by
  refine zCt_of (μ := mu_X2_joinedSets) (t := fp_X2_joinedSets v0 v1) rfl rfl (Nat.le_of_ble_eq_true rfl) hx ?_
  change zSy E mu_X2_joinedSets d M (some (.int x0), M) x0 (fp_X2_joinedSets v0 v1) 0 [(0, .int v0), (1, .int v1)] [] M
  unfold fp_X2_joinedSets
  refine zs_iconst (v := 0) dX2_joinedSets_0 ciconst_0 ?_
  refine zs_istore_n (loc' := [(0, .int v0), (1, .int v1), (2, .int 0)]) dX2_joinedSets_1 rfl (Nat.le_of_ble_eq_true rfl) [1, 2, 0] rfl ?_
  refine zs_iconst (v := 0) dX2_joinedSets_2 ciconst_0 ?_
  refine zs_istore_n (loc' := [(0, .int v0), (1, .int v1), (2, .int 0), (3, .int 0)]) dX2_joinedSets_3 rfl (Nat.le_of_ble_eq_true rfl) [1, 2, 3, 0] rfl ?_
  exact w_X2_joinedSets_L4 E hE d hd _ _ _ _ _ _ _
theorem dX2_likeCouples_0 : decode cX2_likeCouples 0 = .ok (.iconst 0, 1) := by decide +kernel
theorem dX2_likeCouples_1 : decode cX2_likeCouples 1 = .ok (.istore_n 3, 1) := by decide +kernel
theorem dX2_likeCouples_2 : decode cX2_likeCouples 2 = .ok (.iconst 0, 1) := by decide +kernel
theorem dX2_likeCouples_3 : decode cX2_likeCouples 3 = .ok (.istore 4, 2) := by decide +kernel
theorem dX2_likeCouples_5 : decode cX2_likeCouples 5 = .ok (.iload 4, 2) := by decide +kernel
theorem dX2_likeCouples_7 : decode cX2_likeCouples 7 = .ok (.iload_n 0, 1) := by decide +kernel
theorem dX2_likeCouples_8 : decode cX2_likeCouples 8 = .ok (.if_icmp .ge 88, 3) := by decide +kernel
theorem dX2_likeCouples_11 : decode cX2_likeCouples 11 = .ok (.iload 4, 2) := by decide +kernel
theorem dX2_likeCouples_13 : decode cX2_likeCouples 13 = .ok (.iconst 1, 1) := by decide +kernel
theorem dX2_likeCouples_14 : decode cX2_likeCouples 14 = .ok (.iadd, 1) := by decide +kernel
theorem dX2_likeCouples_15 : decode cX2_likeCouples 15 = .ok (.istore 5, 2) := by decide +kernel
theorem dX2_likeCouples_17 : decode cX2_likeCouples 17 = .ok (.iload 5, 2) := by decide +kernel
theorem dX2_likeCouples_19 : decode cX2_likeCouples 19 = .ok (.iload_n 0, 1) := by decide +kernel
theorem dX2_likeCouples_20 : decode cX2_likeCouples 20 = .ok (.if_icmp .ge 70, 3) := by decide +kernel
theorem dX2_likeCouples_23 : decode cX2_likeCouples 23 = .ok (.iconst 1, 1) := by decide +kernel
theorem dX2_likeCouples_24 : decode cX2_likeCouples 24 = .ok (.iload 4, 2) := by decide +kernel
theorem dX2_likeCouples_26 : decode cX2_likeCouples 26 = .ok (.ishl, 1) := by decide +kernel
theorem dX2_likeCouples_27 : decode cX2_likeCouples 27 = .ok (.iconst 1, 1) := by decide +kernel
theorem dX2_likeCouples_28 : decode cX2_likeCouples 28 = .ok (.iload 5, 2) := by decide +kernel
theorem dX2_likeCouples_30 : decode cX2_likeCouples 30 = .ok (.ishl, 1) := by decide +kernel
theorem dX2_likeCouples_31 : decode cX2_likeCouples 31 = .ok (.ior, 1) := by decide +kernel
theorem dX2_likeCouples_32 : decode cX2_likeCouples 32 = .ok (.istore 6, 2) := by decide +kernel
theorem dX2_likeCouples_34 : decode cX2_likeCouples 34 = .ok (.iload_n 0, 1) := by decide +kernel
theorem dX2_likeCouples_35 : decode cX2_likeCouples 35 = .ok (.iload_n 1, 1) := by decide +kernel
theorem dX2_likeCouples_36 : decode cX2_likeCouples 36 = .ok (.iload 4, 2) := by decide +kernel
theorem dX2_likeCouples_38 : decode cX2_likeCouples 38 = .ok (.invokestatic 20, 3) := by decide +kernel
theorem dX2_likeCouples_41 : decode cX2_likeCouples 41 = .ok (.iload 6, 2) := by decide +kernel
theorem dX2_likeCouples_43 : decode cX2_likeCouples 43 = .ok (.ior, 1) := by decide +kernel
theorem dX2_likeCouples_44 : decode cX2_likeCouples 44 = .ok (.iload_n 0, 1) := by decide +kernel
theorem dX2_likeCouples_45 : decode cX2_likeCouples 45 = .ok (.iload_n 1, 1) := by decide +kernel
theorem dX2_likeCouples_46 : decode cX2_likeCouples 46 = .ok (.iload 5, 2) := by decide +kernel
theorem dX2_likeCouples_48 : decode cX2_likeCouples 48 = .ok (.invokestatic 20, 3) := by decide +kernel
theorem dX2_likeCouples_51 : decode cX2_likeCouples 51 = .ok (.iload 6, 2) := by decide +kernel
theorem dX2_likeCouples_53 : decode cX2_likeCouples 53 = .ok (.ior, 1) := by decide +kernel
theorem dX2_likeCouples_54 : decode cX2_likeCouples 54 = .ok (.if_icmp .ne 7, 3) := by decide +kernel
theorem dX2_likeCouples_57 : decode cX2_likeCouples 57 = .ok (.iconst 1, 1) := by decide +kernel
theorem dX2_likeCouples_58 : decode cX2_likeCouples 58 = .ok (.goto 4, 3) := by decide +kernel
theorem dX2_likeCouples_61 : decode cX2_likeCouples 61 = .ok (.iconst 0, 1) := by decide +kernel
theorem dX2_likeCouples_62 : decode cX2_likeCouples 62 = .ok (.istore 7, 2) := by decide +kernel
theorem dX2_likeCouples_64 : decode cX2_likeCouples 64 = .ok (.iload 7, 2) := by decide +kernel
theorem dX2_likeCouples_66 : decode cX2_likeCouples 66 = .ok (.ifCond .eq 18, 3) := by decide +kernel
theorem dX2_likeCouples_69 : decode cX2_likeCouples 69 = .ok (.iload_n 1, 1) := by decide +kernel
theorem dX2_likeCouples_70 : decode cX2_likeCouples 70 = .ok (.iload 4, 2) := by decide +kernel
theorem dX2_likeCouples_72 : decode cX2_likeCouples 72 = .ok (.iload 5, 2) := by decide +kernel
theorem dX2_likeCouples_74 : decode cX2_likeCouples 74 = .ok (.invokestatic 41, 3) := by decide +kernel
theorem dX2_likeCouples_77 : decode cX2_likeCouples 77 = .ok (.iload_n 2, 1) := by decide +kernel
theorem dX2_likeCouples_78 : decode cX2_likeCouples 78 = .ok (.if_icmp .ne 6, 3) := by decide +kernel
theorem dX2_likeCouples_81 : decode cX2_likeCouples 81 = .ok (.iinc 3 1, 3) := by decide +kernel
theorem dX2_likeCouples_84 : decode cX2_likeCouples 84 = .ok (.iinc 5 1, 3) := by decide +kernel
theorem dX2_likeCouples_87 : decode cX2_likeCouples 87 = .ok (.goto (-70), 3) := by decide +kernel
theorem dX2_likeCouples_90 : decode cX2_likeCouples 90 = .ok (.iinc 4 1, 3) := by decide +kernel
theorem dX2_likeCouples_93 : decode cX2_likeCouples 93 = .ok (.goto (-88), 3) := by decide +kernel
theorem dX2_likeCouples_96 : decode cX2_likeCouples 96 = .ok (.iload_n 3, 1) := by decide +kernel
theorem dX2_likeCouples_97 : decode cX2_likeCouples 97 = .ok (.ireturn, 1) := by decide +kernel
def fp_X2_likeCouples_L17 (k90 : Int32 → Option (Int32)) (v0 : Int32) (v1 : Int32) (v2 : Int32) (v4 : Int32) : Nat → Int32 → Int32 → Option (Int32)
  | 0, _, _ => none
  | n + 1, v3, v5 =>
    if v5 ≥ v0 then (
      k90 v3)
    else (
      lett (((1 <<< (v4 &&& 31)) ||| (1 <<< (v5 &&& 31)))) fun (v6_2 : Int32) =>
      (fp_X2_nearTo v0 v1 v4).bind fun (y3 : Int32) =>
      (fp_X2_nearTo v0 v1 v5).bind fun (y4 : Int32) =>
      zjn (fun (s5 : Int32) =>
          zjn (fun (v3_6 : Int32) =>
              fp_X2_likeCouples_L17 k90 v0 v1 v2 v4 n v3_6 (v5 + 1))
            (fun j84 =>
              if s5 = 0 then (
                j84 v3)
              else (
                (fp_X2_tied v1 v4 v5).bind fun (y7 : Int32) =>
                if y7 ≠ v2 then (
                  j84 v3)
                else (
                  j84 (v3 + 1)))))
        (fun j62 =>
          if (y3 ||| v6_2) ≠ (y4 ||| v6_2) then (
            j62 0)
          else (
            j62 1)))
def fp_X2_likeCouples_L5 (v0 : Int32) (v1 : Int32) (v2 : Int32) : Nat → Int32 → Int32 → Option (Int32)
  | 0, _, _ => none
  | n + 1, v3, v4 =>
    if v4 ≥ v0 then (
      some v3)
    else (
      lett ((v4 + 1)) fun (v5_1 : Int32) =>
      fp_X2_likeCouples_L17
        (fun v3_8 =>
          fp_X2_likeCouples_L5 v0 v1 v2 n v3_8 (v4 + 1)) v0 v1 v2 v4 FU v3 v5_1)
def fp_X2_likeCouples (v0 : Int32) (v1 : Int32) (v2 : Int32) : Option (Int32) :=
  fp_X2_likeCouples_L5 v0 v1 v2 FU 0 0
set_option maxHeartbeats 4000000 in
set_option maxRecDepth 100000 in
theorem w_X2_likeCouples_L17 (E : zEnv) (hE : zEok E) (d : Nat) (hd : 3 ≤ d) (x0 : Int32) (v0 : Int32) (v1 : Int32) (v2 : Int32) (v4 : Int32) (M : zM) (k90 : Int32 → Option (Int32)) (hk90 : ∀ (v3 : Int32), zSy E mu_X2_likeCouples d M (some (.int x0), M) x0 (k90 v3) 90 [(0, .int v0), (1, .int v1), (2, .int v2), (3, .int v3), (4, .int v4)] [] M) : ∀ (n : Nat) (v3 : Int32) (v5 : Int32), zSy E mu_X2_likeCouples d M (some (.int x0), M) x0 (fp_X2_likeCouples_L17 k90 v0 v1 v2 v4 n v3 v5) 17 [(0, .int v0), (1, .int v1), (2, .int v2), (3, .int v3), (4, .int v4), (5, .int v5)] [] M := by
  intro n
  induction n with
  | zero =>
    intro v3 v5
    rw [fp_X2_likeCouples_L17]
    exact zs_none
  | succ n ih =>
    intro v3 v5
    rw [fp_X2_likeCouples_L17]
    refine zs_iload dX2_likeCouples_17 5 rfl ?_
    refine zs_iload_n dX2_likeCouples_19 rfl 0 rfl ?_
    refine zs_icmp_ge dX2_likeCouples_20 rfl ?_ ?_
    · refine zs_sub (loc' := [(0, .int v0), (1, .int v1), (2, .int v2), (3, .int v3), (4, .int v4)]) [0, 1, 2, 3, 4] rfl ?_
      exact hk90 v3
    refine zs_iconst (v := 1) dX2_likeCouples_23 ciconst_1 ?_
    refine zs_iload dX2_likeCouples_24 4 rfl ?_
    refine zs_ishl dX2_likeCouples_26 ?_
    refine zs_iconst (v := 1) dX2_likeCouples_27 ciconst_1 ?_
    refine zs_iload dX2_likeCouples_28 5 rfl ?_
    refine zs_ishl dX2_likeCouples_30 ?_
    refine zs_ior dX2_likeCouples_31 ?_
    refine zs_istoreL (loc' := fun v6_2 => [(0, .int v0), (1, .int v1), (2, .int v2), (3, .int v3), (4, .int v4), (5, .int v5), (6, .int v6_2)]) dX2_likeCouples_32 (Nat.le_of_ble_eq_true rfl) [1, 2, 3, 4, 5, 6, 0] (fun _ => rfl) (fun v6_2 => ?_)
    refine zs_iload_n dX2_likeCouples_34 rfl 0 rfl ?_
    refine zs_iload_n dX2_likeCouples_35 rfl 1 rfl ?_
    refine zs_iload dX2_likeCouples_36 4 rfl ?_
    refine zs_invSPI (rest := []) [.int v0, .int v1, .int v4] dX2_likeCouples_38 lk_X2_20 rfl (zd1 rfl hd) rfl (Nat.le_of_ble_eq_true rfl) (ct_X2_nearTo E hE _ (zdl rfl hd) _ _ _ _) (fun y3 => ?_)
    refine zs_iload dX2_likeCouples_41 6 rfl ?_
    refine zs_ior dX2_likeCouples_43 ?_
    refine zs_iload_n dX2_likeCouples_44 rfl 0 rfl ?_
    refine zs_iload_n dX2_likeCouples_45 rfl 1 rfl ?_
    refine zs_iload dX2_likeCouples_46 5 rfl ?_
    refine zs_invSPI (rest := [.int (y3 ||| v6_2)]) [.int v0, .int v1, .int v5] dX2_likeCouples_48 lk_X2_20 rfl (zd1 rfl hd) rfl (Nat.le_of_ble_eq_true rfl) (ct_X2_nearTo E hE _ (zdl rfl hd) _ _ _ _) (fun y4 => ?_)
    refine zs_iload dX2_likeCouples_51 6 rfl ?_
    refine zs_ior dX2_likeCouples_53 ?_
    refine zs_jn (fun j62 => ∀ (s5 : Int32), zSy E mu_X2_likeCouples d M (some (.int x0), M) x0 (j62 s5) 62 [(0, .int v0), (1, .int v1), (2, .int v2), (3, .int v3), (4, .int v4), (5, .int v5)] [.int s5] M) (fun s5 => ?_) (fun j62 hj62 => ?_)
    · refine zs_istore (loc' := [(0, .int v0), (1, .int v1), (2, .int v2), (3, .int v3), (4, .int v4), (5, .int v5), (7, .int s5)]) dX2_likeCouples_62 (Nat.le_of_ble_eq_true rfl) [1, 2, 3, 4, 5, 6, 0] rfl ?_
      refine zs_iload dX2_likeCouples_64 6 rfl ?_
      refine zs_jn (fun j84 => ∀ (v3_6 : Int32), zSy E mu_X2_likeCouples d M (some (.int x0), M) x0 (j84 v3_6) 84 [(0, .int v0), (1, .int v1), (2, .int v2), (3, .int v3_6), (4, .int v4), (5, .int v5)] [] M) (fun v3_6 => ?_) (fun j84 hj84 => ?_)
      · refine zs_iinc (v := (v5 + 1)) (loc' := [(0, .int v0), (1, .int v1), (2, .int v2), (3, .int v3_6), (4, .int v4), (5, .int (v5 + 1))]) dX2_likeCouples_84 5 rfl (by rfl) (Nat.le_of_ble_eq_true rfl) [1, 2, 3, 4, 5, 0] rfl ?_
        refine zs_goto dX2_likeCouples_87 rfl ?_
        exact ih v3_6 (v5 + 1)
      refine zs_if_eq dX2_likeCouples_66 rfl ?_ ?_
      · refine zs_sub (loc' := [(0, .int v0), (1, .int v1), (2, .int v2), (3, .int v3), (4, .int v4), (5, .int v5)]) [0, 1, 2, 3, 4, 5] rfl ?_
        exact hj84 v3
      refine zs_iload_n dX2_likeCouples_69 rfl 1 rfl ?_
      refine zs_iload dX2_likeCouples_70 4 rfl ?_
      refine zs_iload dX2_likeCouples_72 5 rfl ?_
      refine zs_invSPI (rest := []) [.int v1, .int v4, .int v5] dX2_likeCouples_74 lk_X2_41 rfl (zd1 rfl hd) rfl (Nat.le_of_ble_eq_true rfl) (ct_X2_tied E hE _ (zdl rfl hd) _ _ _ _) (fun y7 => ?_)
      refine zs_iload_n dX2_likeCouples_77 rfl 2 rfl ?_
      refine zs_icmp_ne dX2_likeCouples_78 rfl ?_ ?_
      · refine zs_sub (loc' := [(0, .int v0), (1, .int v1), (2, .int v2), (3, .int v3), (4, .int v4), (5, .int v5)]) [0, 1, 2, 3, 4, 5] rfl ?_
        exact hj84 v3
      refine zs_iinc (v := (v3 + 1)) (loc' := [(0, .int v0), (1, .int v1), (2, .int v2), (3, .int (v3 + 1)), (4, .int v4), (5, .int v5)]) dX2_likeCouples_81 3 rfl (by rfl) (Nat.le_of_ble_eq_true rfl) [1, 2, 3, 0, 4, 5] rfl ?_
      exact hj84 (v3 + 1)
    refine zs_icmp_ne dX2_likeCouples_54 rfl ?_ ?_
    · refine zs_iconst (v := 0) dX2_likeCouples_61 ciconst_0 ?_
      refine zs_sub (loc' := [(0, .int v0), (1, .int v1), (2, .int v2), (3, .int v3), (4, .int v4), (5, .int v5)]) [0, 1, 2, 3, 4, 5] rfl ?_
      exact hj62 0
    refine zs_iconst (v := 1) dX2_likeCouples_57 ciconst_1 ?_
    refine zs_goto dX2_likeCouples_58 rfl ?_
    refine zs_sub (loc' := [(0, .int v0), (1, .int v1), (2, .int v2), (3, .int v3), (4, .int v4), (5, .int v5)]) [0, 1, 2, 3, 4, 5] rfl ?_
    exact hj62 1
set_option maxHeartbeats 4000000 in
set_option maxRecDepth 100000 in
theorem w_X2_likeCouples_L5 (E : zEnv) (hE : zEok E) (d : Nat) (hd : 3 ≤ d) (x0 : Int32) (v0 : Int32) (v1 : Int32) (v2 : Int32) (M : zM)  : ∀ (n : Nat) (v3 : Int32) (v4 : Int32), zSy E mu_X2_likeCouples d M (some (.int x0), M) x0 (fp_X2_likeCouples_L5 v0 v1 v2 n v3 v4) 5 [(0, .int v0), (1, .int v1), (2, .int v2), (3, .int v3), (4, .int v4)] [] M := by
  intro n
  induction n with
  | zero =>
    intro v3 v4
    rw [fp_X2_likeCouples_L5]
    exact zs_none
  | succ n ih =>
    intro v3 v4
    rw [fp_X2_likeCouples_L5]
    refine zs_iload dX2_likeCouples_5 4 rfl ?_
    refine zs_iload_n dX2_likeCouples_7 rfl 0 rfl ?_
    refine zs_icmp_ge dX2_likeCouples_8 rfl ?_ ?_
    · refine zs_iload_n dX2_likeCouples_96 rfl 3 rfl ?_
      exact zs_iretP dX2_likeCouples_97 rfl
    refine zs_iload dX2_likeCouples_11 4 rfl ?_
    refine zs_iconst (v := 1) dX2_likeCouples_13 ciconst_1 ?_
    refine zs_iadd dX2_likeCouples_14 ?_
    refine zs_istoreL (loc' := fun v5_1 => [(0, .int v0), (1, .int v1), (2, .int v2), (3, .int v3), (4, .int v4), (5, .int v5_1)]) dX2_likeCouples_15 (Nat.le_of_ble_eq_true rfl) [1, 2, 3, 4, 5, 0] (fun _ => rfl) (fun v5_1 => ?_)
    refine w_X2_likeCouples_L17 E hE d hd _ _ _ _ _ _ _ (fun v3_8 => ?_) _ _ _
    refine zs_iinc (v := (v4 + 1)) (loc' := [(0, .int v0), (1, .int v1), (2, .int v2), (3, .int v3_8), (4, .int (v4 + 1))]) dX2_likeCouples_90 4 rfl (by rfl) (Nat.le_of_ble_eq_true rfl) [1, 2, 3, 4, 0] rfl ?_
    refine zs_goto dX2_likeCouples_93 rfl ?_
    exact ih v3_8 (v4 + 1)
set_option maxHeartbeats 4000000 in
set_option maxRecDepth 100000 in
theorem ct_X2_likeCouples (E : zEnv) (hE : zEok E) (d : Nat) (hd : 3 ≤ d) (v0 : Int32) (v1 : Int32) (v2 : Int32) (M : zM) (x0 : Int32) (hx : fp_X2_likeCouples v0 v1 v2 = some x0) : zCt E mu_X2_likeCouples d [.int v0, .int v1, .int v2] M (some (.int x0), M) := by
  refine zCt_of (μ := mu_X2_likeCouples) (t := fp_X2_likeCouples v0 v1 v2) rfl rfl (Nat.le_of_ble_eq_true rfl) hx ?_
  change zSy E mu_X2_likeCouples d M (some (.int x0), M) x0 (fp_X2_likeCouples v0 v1 v2) 0 [(0, .int v0), (1, .int v1), (2, .int v2)] [] M
  unfold fp_X2_likeCouples
  refine zs_iconst (v := 0) dX2_likeCouples_0 ciconst_0 ?_
  refine zs_istore_n (loc' := [(0, .int v0), (1, .int v1), (2, .int v2), (3, .int 0)]) dX2_likeCouples_1 rfl (Nat.le_of_ble_eq_true rfl) [1, 2, 3, 0] rfl ?_
  refine zs_iconst (v := 0) dX2_likeCouples_2 ciconst_0 ?_
  refine zs_istore (loc' := [(0, .int v0), (1, .int v1), (2, .int v2), (3, .int 0), (4, .int 0)]) dX2_likeCouples_3 (Nat.le_of_ble_eq_true rfl) [1, 2, 3, 4, 0] rfl ?_
  exact w_X2_likeCouples_L5 E hE d hd _ _ _ _ _ _ _ _
theorem dX2_lonePoints_0 : decode cX2_lonePoints 0 = .ok (.iconst 0, 1) := by decide +kernel
theorem dX2_lonePoints_1 : decode cX2_lonePoints 1 = .ok (.istore_n 2, 1) := by decide +kernel
theorem dX2_lonePoints_2 : decode cX2_lonePoints 2 = .ok (.iconst 0, 1) := by decide +kernel
theorem dX2_lonePoints_3 : decode cX2_lonePoints 3 = .ok (.istore_n 3, 1) := by decide +kernel
theorem dX2_lonePoints_4 : decode cX2_lonePoints 4 = .ok (.iload_n 3, 1) := by decide +kernel
theorem dX2_lonePoints_5 : decode cX2_lonePoints 5 = .ok (.iload_n 0, 1) := by decide +kernel
theorem dX2_lonePoints_6 : decode cX2_lonePoints 6 = .ok (.if_icmp .ge 25, 3) := by decide +kernel
theorem dX2_lonePoints_9 : decode cX2_lonePoints 9 = .ok (.iload_n 0, 1) := by decide +kernel
theorem dX2_lonePoints_10 : decode cX2_lonePoints 10 = .ok (.iload_n 1, 1) := by decide +kernel
theorem dX2_lonePoints_11 : decode cX2_lonePoints 11 = .ok (.iload_n 3, 1) := by decide +kernel
theorem dX2_lonePoints_12 : decode cX2_lonePoints 12 = .ok (.invokestatic 20, 3) := by decide +kernel
theorem dX2_lonePoints_15 : decode cX2_lonePoints 15 = .ok (.invokestatic 61, 3) := by decide +kernel
theorem dX2_lonePoints_18 : decode cX2_lonePoints 18 = .ok (.iconst 1, 1) := by decide +kernel
theorem dX2_lonePoints_19 : decode cX2_lonePoints 19 = .ok (.if_icmp .ne 6, 3) := by decide +kernel
theorem dX2_lonePoints_22 : decode cX2_lonePoints 22 = .ok (.iinc 2 1, 3) := by decide +kernel
theorem dX2_lonePoints_25 : decode cX2_lonePoints 25 = .ok (.iinc 3 1, 3) := by decide +kernel
theorem dX2_lonePoints_28 : decode cX2_lonePoints 28 = .ok (.goto (-24), 3) := by decide +kernel
theorem dX2_lonePoints_31 : decode cX2_lonePoints 31 = .ok (.iload_n 2, 1) := by decide +kernel
theorem dX2_lonePoints_32 : decode cX2_lonePoints 32 = .ok (.ireturn, 1) := by decide +kernel
def fp_X2_lonePoints_L4 (v0 : Int32) (v1 : Int32) : Nat → Int32 → Int32 → Option (Int32)
  | 0, _, _ => none
  | n + 1, v2, v3 =>
    if v3 ≥ v0 then (
      some v2)
    else (
      (fp_X2_nearTo v0 v1 v3).bind fun (y1 : Int32) =>
      (fp_J6_bitCount_0f7a4 y1).bind fun (y2 : Int32) =>
      zjn (fun (v2_3 : Int32) =>
          fp_X2_lonePoints_L4 v0 v1 n v2_3 (v3 + 1))
        (fun j25 =>
          if y2 ≠ 1 then (
            j25 v2)
          else (
            j25 (v2 + 1))))
def fp_X2_lonePoints (v0 : Int32) (v1 : Int32) : Option (Int32) :=
  fp_X2_lonePoints_L4 v0 v1 FU 0 0
set_option maxHeartbeats 4000000 in
set_option maxRecDepth 100000 in
theorem w_X2_lonePoints_L4 (E : zEnv) (hE : zEok E) (d : Nat) (hd : 2 ≤ d) (x0 : Int32) (v0 : Int32) (v1 : Int32) (M : zM)  : ∀ (n : Nat) (v2 : Int32) (v3 : Int32), zSy E mu_X2_lonePoints d M (some (.int x0), M) x0 (fp_X2_lonePoints_L4 v0 v1 n v2 v3) 4 [(0, .int v0), (1, .int v1), (2, .int v2), (3, .int v3)] [] M := by
  intro n
  induction n with
  | zero =>
    intro v2 v3
    rw [fp_X2_lonePoints_L4]
    exact zs_none
  | succ n ih =>
    intro v2 v3
    rw [fp_X2_lonePoints_L4]
    refine zs_iload_n dX2_lonePoints_4 rfl 3 rfl ?_
    refine zs_iload_n dX2_lonePoints_5 rfl 0 rfl ?_
    refine zs_icmp_ge dX2_lonePoints_6 rfl ?_ ?_
    · refine zs_iload_n dX2_lonePoints_31 rfl 2 rfl ?_
      exact zs_iretP dX2_lonePoints_32 rfl
    refine zs_iload_n dX2_lonePoints_9 rfl 0 rfl ?_
    refine zs_iload_n dX2_lonePoints_10 rfl 1 rfl ?_
    refine zs_iload_n dX2_lonePoints_11 rfl 3 rfl ?_
    refine zs_invSPI (rest := []) [.int v0, .int v1, .int v3] dX2_lonePoints_12 lk_X2_20 rfl (zd1 rfl hd) rfl (Nat.le_of_ble_eq_true rfl) (ct_X2_nearTo E hE _ (zdl rfl hd) _ _ _ _) (fun y1 => ?_)
    refine zs_invSPI (rest := []) [.int y1] dX2_lonePoints_15 lk_X2_61 rfl (zd1 rfl hd) rfl (Nat.le_of_ble_eq_true rfl) (ct_J6_bitCount_0f7a4 E hE _ (zdl rfl hd) _ _) (fun y2 => ?_)
    refine zs_iconst (v := 1) dX2_lonePoints_18 ciconst_1 ?_
    refine zs_jn (fun j25 => ∀ (v2_3 : Int32), zSy E mu_X2_lonePoints d M (some (.int x0), M) x0 (j25 v2_3) 25 [(0, .int v0), (1, .int v1), (2, .int v2_3), (3, .int v3)] [] M) (fun v2_3 => ?_) (fun j25 hj25 => ?_)
    · refine zs_iinc (v := (v3 + 1)) (loc' := [(0, .int v0), (1, .int v1), (2, .int v2_3), (3, .int (v3 + 1))]) dX2_lonePoints_25 3 rfl (by rfl) (Nat.le_of_ble_eq_true rfl) [1, 2, 3, 0] rfl ?_
      refine zs_goto dX2_lonePoints_28 rfl ?_
      exact ih v2_3 (v3 + 1)
    refine zs_icmp_ne dX2_lonePoints_19 rfl ?_ ?_
    · exact hj25 v2
    refine zs_iinc (v := (v2 + 1)) (loc' := [(0, .int v0), (1, .int v1), (2, .int (v2 + 1)), (3, .int v3)]) dX2_lonePoints_22 2 rfl (by rfl) (Nat.le_of_ble_eq_true rfl) [1, 2, 0, 3] rfl ?_
    exact hj25 (v2 + 1)
set_option maxHeartbeats 4000000 in
set_option maxRecDepth 100000 in
theorem ct_X2_lonePoints (E : zEnv) (hE : zEok E) (d : Nat) (hd : 2 ≤ d) (v0 : Int32) (v1 : Int32) (M : zM) (x0 : Int32) (hx : fp_X2_lonePoints v0 v1 = some x0) : zCt E mu_X2_lonePoints d [.int v0, .int v1] M (some (.int x0), M) := by
  refine zCt_of (μ := mu_X2_lonePoints) (t := fp_X2_lonePoints v0 v1) rfl rfl (Nat.le_of_ble_eq_true rfl) hx ?_
  change zSy E mu_X2_lonePoints d M (some (.int x0), M) x0 (fp_X2_lonePoints v0 v1) 0 [(0, .int v0), (1, .int v1)] [] M
  unfold fp_X2_lonePoints
  refine zs_iconst (v := 0) dX2_lonePoints_0 ciconst_0 ?_
  refine zs_istore_n (loc' := [(0, .int v0), (1, .int v1), (2, .int 0)]) dX2_lonePoints_1 rfl (Nat.le_of_ble_eq_true rfl) [1, 2, 0] rfl ?_
  refine zs_iconst (v := 0) dX2_lonePoints_2 ciconst_0 ?_
  refine zs_istore_n (loc' := [(0, .int v0), (1, .int v1), (2, .int 0), (3, .int 0)]) dX2_lonePoints_3 rfl (Nat.le_of_ble_eq_true rfl) [1, 2, 3, 0] rfl ?_
  exact w_X2_lonePoints_L4 E hE d hd _ _ _ _ _ _ _
theorem dX2_largest_0 : decode cX2_largest 0 = .ok (.iconst 0, 1) := by decide +kernel
theorem dX2_largest_1 : decode cX2_largest 1 = .ok (.istore_n 3, 1) := by decide +kernel
theorem dX2_largest_2 : decode cX2_largest 2 = .ok (.iconst 1, 1) := by decide +kernel
theorem dX2_largest_3 : decode cX2_largest 3 = .ok (.istore 4, 2) := by decide +kernel
theorem dX2_largest_5 : decode cX2_largest 5 = .ok (.iload 4, 2) := by decide +kernel
theorem dX2_largest_7 : decode cX2_largest 7 = .ok (.iconst 1, 1) := by decide +kernel
theorem dX2_largest_8 : decode cX2_largest 8 = .ok (.iload_n 0, 1) := by decide +kernel
theorem dX2_largest_9 : decode cX2_largest 9 = .ok (.ishl, 1) := by decide +kernel
theorem dX2_largest_10 : decode cX2_largest 10 = .ok (.if_icmp .ge 60, 3) := by decide +kernel
theorem dX2_largest_13 : decode cX2_largest 13 = .ok (.iload 4, 2) := by decide +kernel
theorem dX2_largest_15 : decode cX2_largest 15 = .ok (.invokestatic 24, 3) := by decide +kernel
theorem dX2_largest_18 : decode cX2_largest 18 = .ok (.istore 5, 2) := by decide +kernel
theorem dX2_largest_20 : decode cX2_largest 20 = .ok (.iload_n 1, 1) := by decide +kernel
theorem dX2_largest_21 : decode cX2_largest 21 = .ok (.iload 5, 2) := by decide +kernel
theorem dX2_largest_23 : decode cX2_largest 23 = .ok (.iand, 1) := by decide +kernel
theorem dX2_largest_24 : decode cX2_largest 24 = .ok (.iload_n 2, 1) := by decide +kernel
theorem dX2_largest_25 : decode cX2_largest 25 = .ok (.ifCond .eq 8, 3) := by decide +kernel
theorem dX2_largest_28 : decode cX2_largest 28 = .ok (.iload 5, 2) := by decide +kernel
theorem dX2_largest_30 : decode cX2_largest 30 = .ok (.goto 4, 3) := by decide +kernel
theorem dX2_largest_33 : decode cX2_largest 33 = .ok (.iconst 0, 1) := by decide +kernel
theorem dX2_largest_34 : decode cX2_largest 34 = .ok (.if_icmp .ne 7, 3) := by decide +kernel
theorem dX2_largest_37 : decode cX2_largest 37 = .ok (.iconst 1, 1) := by decide +kernel
theorem dX2_largest_38 : decode cX2_largest 38 = .ok (.goto 4, 3) := by decide +kernel
theorem dX2_largest_41 : decode cX2_largest 41 = .ok (.iconst 0, 1) := by decide +kernel
theorem dX2_largest_42 : decode cX2_largest 42 = .ok (.istore 6, 2) := by decide +kernel
theorem dX2_largest_44 : decode cX2_largest 44 = .ok (.iload 6, 2) := by decide +kernel
theorem dX2_largest_46 : decode cX2_largest 46 = .ok (.ifCond .eq 18, 3) := by decide +kernel
theorem dX2_largest_49 : decode cX2_largest 49 = .ok (.iload 4, 2) := by decide +kernel
theorem dX2_largest_51 : decode cX2_largest 51 = .ok (.invokestatic 61, 3) := by decide +kernel
theorem dX2_largest_54 : decode cX2_largest 54 = .ok (.iload_n 3, 1) := by decide +kernel
theorem dX2_largest_55 : decode cX2_largest 55 = .ok (.invokestatic 61, 3) := by decide +kernel
theorem dX2_largest_58 : decode cX2_largest 58 = .ok (.if_icmp .le 6, 3) := by decide +kernel
theorem dX2_largest_61 : decode cX2_largest 61 = .ok (.iload 4, 2) := by decide +kernel
theorem dX2_largest_63 : decode cX2_largest 63 = .ok (.istore_n 3, 1) := by decide +kernel
theorem dX2_largest_64 : decode cX2_largest 64 = .ok (.iinc 4 1, 3) := by decide +kernel
theorem dX2_largest_67 : decode cX2_largest 67 = .ok (.goto (-62), 3) := by decide +kernel
theorem dX2_largest_70 : decode cX2_largest 70 = .ok (.iload_n 3, 1) := by decide +kernel
theorem dX2_largest_71 : decode cX2_largest 71 = .ok (.ireturn, 1) := by decide +kernel
def fp_X2_largest_L5 (v0 : Int32) (v1 : Int32) (v2 : Int32) : Nat → Int32 → Int32 → Option (Int32)
  | 0, _, _ => none
  | n + 1, v3, v4 =>
    if v4 ≥ (1 <<< (v0 &&& 31)) then (
      some v3)
    else (
      (fp_X2_pairsOf v4).bind fun (y1 : Int32) =>
      zjn (fun (s2 : Int32) (s3 : Int32) =>
          zjn (fun (s4 : Int32) =>
              zjn (fun (v3_5 : Int32) =>
                  fp_X2_largest_L5 v0 v1 v2 n v3_5 (v4 + 1))
                (fun j64 =>
                  if s4 = 0 then (
                    j64 v3)
                  else (
                    (fp_J6_bitCount_0f7a4 v4).bind fun (y6 : Int32) =>
                    (fp_J6_bitCount_0f7a4 v3).bind fun (y7 : Int32) =>
                    if y6 ≤ y7 then (
                      j64 v3)
                    else (
                      j64 v4))))
            (fun j42 =>
              if s3 ≠ s2 then (
                j42 0)
              else (
                j42 1)))
        (fun j34 =>
          if v2 = 0 then (
            j34 0 (v1 &&& y1))
          else (
            j34 y1 (v1 &&& y1))))
def fp_X2_largest (v0 : Int32) (v1 : Int32) (v2 : Int32) : Option (Int32) :=
  fp_X2_largest_L5 v0 v1 v2 FU 0 1
set_option maxHeartbeats 4000000 in
set_option maxRecDepth 100000 in
theorem w_X2_largest_L5 (E : zEnv) (hE : zEok E) (d : Nat) (hd : 2 ≤ d) (x0 : Int32) (v0 : Int32) (v1 : Int32) (v2 : Int32) (M : zM)  : ∀ (n : Nat) (v3 : Int32) (v4 : Int32), zSy E mu_X2_largest d M (some (.int x0), M) x0 (fp_X2_largest_L5 v0 v1 v2 n v3 v4) 5 [(0, .int v0), (1, .int v1), (2, .int v2), (3, .int v3), (4, .int v4)] [] M := by
  intro n
  induction n with
  | zero =>
    intro v3 v4
    rw [fp_X2_largest_L5]
    exact zs_none
  | succ n ih =>
    intro v3 v4
    rw [fp_X2_largest_L5]
    refine zs_iload dX2_largest_5 4 rfl ?_
    refine zs_iconst (v := 1) dX2_largest_7 ciconst_1 ?_
    refine zs_iload_n dX2_largest_8 rfl 0 rfl ?_
    refine zs_ishl dX2_largest_9 ?_
    refine zs_icmp_ge dX2_largest_10 rfl ?_ ?_
    · refine zs_iload_n dX2_largest_70 rfl 3 rfl ?_
      exact zs_iretP dX2_largest_71 rfl
    refine zs_iload dX2_largest_13 4 rfl ?_
    refine zs_invSPI (rest := []) [.int v4] dX2_largest_15 lk_X2_24 rfl (zd1 rfl hd) rfl (Nat.le_of_ble_eq_true rfl) (ct_X2_pairsOf E hE _ (zdl rfl hd) _ _) (fun y1 => ?_)
    refine zs_istore (loc' := [(0, .int v0), (1, .int v1), (2, .int v2), (3, .int v3), (4, .int v4), (5, .int y1)]) dX2_largest_18 (Nat.le_of_ble_eq_true rfl) [1, 2, 3, 4, 5, 0] rfl ?_
    refine zs_iload_n dX2_largest_20 rfl 1 rfl ?_
    refine zs_iload dX2_largest_21 5 rfl ?_
    refine zs_iand dX2_largest_23 ?_
    refine zs_iload_n dX2_largest_24 rfl 2 rfl ?_
    refine zs_jn (fun j34 => ∀ (s2 : Int32) (s3 : Int32), zSy E mu_X2_largest d M (some (.int x0), M) x0 (j34 s2 s3) 34 [(0, .int v0), (1, .int v1), (2, .int v2), (3, .int v3), (4, .int v4)] [.int s2, .int s3] M) (fun s2 s3 => ?_) (fun j34 hj34 => ?_)
    · refine zs_jn (fun j42 => ∀ (s4 : Int32), zSy E mu_X2_largest d M (some (.int x0), M) x0 (j42 s4) 42 [(0, .int v0), (1, .int v1), (2, .int v2), (3, .int v3), (4, .int v4)] [.int s4] M) (fun s4 => ?_) (fun j42 hj42 => ?_)
      · refine zs_istore (loc' := [(0, .int v0), (1, .int v1), (2, .int v2), (3, .int v3), (4, .int v4), (6, .int s4)]) dX2_largest_42 (Nat.le_of_ble_eq_true rfl) [1, 2, 3, 4, 5, 0] rfl ?_
        refine zs_iload dX2_largest_44 5 rfl ?_
        refine zs_jn (fun j64 => ∀ (v3_5 : Int32), zSy E mu_X2_largest d M (some (.int x0), M) x0 (j64 v3_5) 64 [(0, .int v0), (1, .int v1), (2, .int v2), (3, .int v3_5), (4, .int v4)] [] M) (fun v3_5 => ?_) (fun j64 hj64 => ?_)
        · refine zs_iinc (v := (v4 + 1)) (loc' := [(0, .int v0), (1, .int v1), (2, .int v2), (3, .int v3_5), (4, .int (v4 + 1))]) dX2_largest_64 4 rfl (by rfl) (Nat.le_of_ble_eq_true rfl) [1, 2, 3, 4, 0] rfl ?_
          refine zs_goto dX2_largest_67 rfl ?_
          exact ih v3_5 (v4 + 1)
        refine zs_if_eq dX2_largest_46 rfl ?_ ?_
        · refine zs_sub (loc' := [(0, .int v0), (1, .int v1), (2, .int v2), (3, .int v3), (4, .int v4)]) [0, 1, 2, 3, 4] rfl ?_
          exact hj64 v3
        refine zs_iload dX2_largest_49 4 rfl ?_
        refine zs_invSPI (rest := []) [.int v4] dX2_largest_51 lk_X2_61 rfl (zd1 rfl hd) rfl (Nat.le_of_ble_eq_true rfl) (ct_J6_bitCount_0f7a4 E hE _ (zdl rfl hd) _ _) (fun y6 => ?_)
        refine zs_iload_n dX2_largest_54 rfl 3 rfl ?_
        refine zs_invSPI (rest := [.int y6]) [.int v3] dX2_largest_55 lk_X2_61 rfl (zd1 rfl hd) rfl (Nat.le_of_ble_eq_true rfl) (ct_J6_bitCount_0f7a4 E hE _ (zdl rfl hd) _ _) (fun y7 => ?_)
        refine zs_icmp_le dX2_largest_58 rfl ?_ ?_
        · refine zs_sub (loc' := [(0, .int v0), (1, .int v1), (2, .int v2), (3, .int v3), (4, .int v4)]) [0, 1, 2, 3, 4] rfl ?_
          exact hj64 v3
        refine zs_iload dX2_largest_61 4 rfl ?_
        refine zs_istore_n (loc' := [(0, .int v0), (1, .int v1), (2, .int v2), (3, .int v4), (4, .int v4)]) dX2_largest_63 rfl (Nat.le_of_ble_eq_true rfl) [1, 2, 3, 0, 4] rfl ?_
        exact hj64 v4
      refine zs_icmp_ne dX2_largest_34 rfl ?_ ?_
      · refine zs_iconst (v := 0) dX2_largest_41 ciconst_0 ?_
        exact hj42 0
      refine zs_iconst (v := 1) dX2_largest_37 ciconst_1 ?_
      refine zs_goto dX2_largest_38 rfl ?_
      exact hj42 1
    refine zs_if_eq dX2_largest_25 rfl ?_ ?_
    · refine zs_iconst (v := 0) dX2_largest_33 ciconst_0 ?_
      refine zs_sub (loc' := [(0, .int v0), (1, .int v1), (2, .int v2), (3, .int v3), (4, .int v4)]) [0, 1, 2, 3, 4] rfl ?_
      exact hj34 0 (v1 &&& y1)
    refine zs_iload dX2_largest_28 5 rfl ?_
    refine zs_goto dX2_largest_30 rfl ?_
    refine zs_sub (loc' := [(0, .int v0), (1, .int v1), (2, .int v2), (3, .int v3), (4, .int v4)]) [0, 1, 2, 3, 4] rfl ?_
    exact hj34 y1 (v1 &&& y1)
set_option maxHeartbeats 4000000 in
set_option maxRecDepth 100000 in
theorem ct_X2_largest (E : zEnv) (hE : zEok E) (d : Nat) (hd : 2 ≤ d) (v0 : Int32) (v1 : Int32) (v2 : Int32) (M : zM) (x0 : Int32) (hx : fp_X2_largest v0 v1 v2 = some x0) : zCt E mu_X2_largest d [.int v0, .int v1, .int v2] M (some (.int x0), M) := by
  refine zCt_of (μ := mu_X2_largest) (t := fp_X2_largest v0 v1 v2) rfl rfl (Nat.le_of_ble_eq_true rfl) hx ?_
  change zSy E mu_X2_largest d M (some (.int x0), M) x0 (fp_X2_largest v0 v1 v2) 0 [(0, .int v0), (1, .int v1), (2, .int v2)] [] M
  unfold fp_X2_largest
  refine zs_iconst (v := 0) dX2_largest_0 ciconst_0 ?_
  refine zs_istore_n (loc' := [(0, .int v0), (1, .int v1), (2, .int v2), (3, .int 0)]) dX2_largest_1 rfl (Nat.le_of_ble_eq_true rfl) [1, 2, 3, 0] rfl ?_
  refine zs_iconst (v := 1) dX2_largest_2 ciconst_1 ?_
  refine zs_istore (loc' := [(0, .int v0), (1, .int v1), (2, .int v2), (3, .int 0), (4, .int 1)]) dX2_largest_3 (Nat.le_of_ble_eq_true rfl) [1, 2, 3, 4, 0] rfl ?_
  exact w_X2_largest_L5 E hE d hd _ _ _ _ _ _ _ _
theorem dX2_paint_0 : decode cX2_paint 0 = .ok (.iload_n 3, 1) := by decide +kernel
theorem dX2_paint_1 : decode cX2_paint 1 = .ok (.iload_n 0, 1) := by decide +kernel
theorem dX2_paint_2 : decode cX2_paint 2 = .ok (.if_icmp .lt 5, 3) := by decide +kernel
theorem dX2_paint_5 : decode cX2_paint 5 = .ok (.lconst 1, 1) := by decide +kernel
theorem dX2_paint_6 : decode cX2_paint 6 = .ok (.lreturn, 1) := by decide +kernel
theorem dX2_paint_7 : decode cX2_paint 7 = .ok (.iload_n 0, 1) := by decide +kernel
theorem dX2_paint_8 : decode cX2_paint 8 = .ok (.iload_n 1, 1) := by decide +kernel
theorem dX2_paint_9 : decode cX2_paint 9 = .ok (.iload_n 3, 1) := by decide +kernel
theorem dX2_paint_10 : decode cX2_paint 10 = .ok (.invokestatic 20, 3) := by decide +kernel
theorem dX2_paint_13 : decode cX2_paint 13 = .ok (.istore 6, 2) := by decide +kernel
theorem dX2_paint_15 : decode cX2_paint 15 = .ok (.lconst 0, 1) := by decide +kernel
theorem dX2_paint_16 : decode cX2_paint 16 = .ok (.lstore 7, 2) := by decide +kernel
theorem dX2_paint_18 : decode cX2_paint 18 = .ok (.iconst 0, 1) := by decide +kernel
theorem dX2_paint_19 : decode cX2_paint 19 = .ok (.istore 9, 2) := by decide +kernel
theorem dX2_paint_21 : decode cX2_paint 21 = .ok (.iload 9, 2) := by decide +kernel
theorem dX2_paint_23 : decode cX2_paint 23 = .ok (.iload 4, 2) := by decide +kernel
theorem dX2_paint_25 : decode cX2_paint 25 = .ok (.if_icmp .ge 64, 3) := by decide +kernel
theorem dX2_paint_28 : decode cX2_paint 28 = .ok (.iload 9, 2) := by decide +kernel
theorem dX2_paint_30 : decode cX2_paint 30 = .ok (.aload_n 2, 1) := by decide +kernel
theorem dX2_paint_31 : decode cX2_paint 31 = .ok (.arraylength, 1) := by decide +kernel
theorem dX2_paint_32 : decode cX2_paint 32 = .ok (.if_icmp .ge 57, 3) := by decide +kernel
theorem dX2_paint_35 : decode cX2_paint 35 = .ok (.aload_n 2, 1) := by decide +kernel
theorem dX2_paint_36 : decode cX2_paint 36 = .ok (.iload 9, 2) := by decide +kernel
theorem dX2_paint_38 : decode cX2_paint 38 = .ok (.iaload, 1) := by decide +kernel
theorem dX2_paint_39 : decode cX2_paint 39 = .ok (.iload 6, 2) := by decide +kernel
theorem dX2_paint_41 : decode cX2_paint 41 = .ok (.iand, 1) := by decide +kernel
theorem dX2_paint_42 : decode cX2_paint 42 = .ok (.ifCond .ne 41, 3) := by decide +kernel
theorem dX2_paint_45 : decode cX2_paint 45 = .ok (.aload_n 2, 1) := by decide +kernel
theorem dX2_paint_46 : decode cX2_paint 46 = .ok (.iload 9, 2) := by decide +kernel
theorem dX2_paint_48 : decode cX2_paint 48 = .ok (.dup2, 1) := by decide +kernel
theorem dX2_paint_49 : decode cX2_paint 49 = .ok (.iaload, 1) := by decide +kernel
theorem dX2_paint_50 : decode cX2_paint 50 = .ok (.iconst 1, 1) := by decide +kernel
theorem dX2_paint_51 : decode cX2_paint 51 = .ok (.iload_n 3, 1) := by decide +kernel
theorem dX2_paint_52 : decode cX2_paint 52 = .ok (.ishl, 1) := by decide +kernel
theorem dX2_paint_53 : decode cX2_paint 53 = .ok (.ixor, 1) := by decide +kernel
theorem dX2_paint_54 : decode cX2_paint 54 = .ok (.iastore, 1) := by decide +kernel
theorem dX2_paint_55 : decode cX2_paint 55 = .ok (.lload 7, 2) := by decide +kernel
theorem dX2_paint_57 : decode cX2_paint 57 = .ok (.iload_n 0, 1) := by decide +kernel
theorem dX2_paint_58 : decode cX2_paint 58 = .ok (.iload_n 1, 1) := by decide +kernel
theorem dX2_paint_59 : decode cX2_paint 59 = .ok (.aload_n 2, 1) := by decide +kernel
theorem dX2_paint_60 : decode cX2_paint 60 = .ok (.iload_n 3, 1) := by decide +kernel
theorem dX2_paint_61 : decode cX2_paint 61 = .ok (.iconst 1, 1) := by decide +kernel
theorem dX2_paint_62 : decode cX2_paint 62 = .ok (.iadd, 1) := by decide +kernel
theorem dX2_paint_63 : decode cX2_paint 63 = .ok (.iload 4, 2) := by decide +kernel
theorem dX2_paint_65 : decode cX2_paint 65 = .ok (.iload 5, 2) := by decide +kernel
theorem dX2_paint_67 : decode cX2_paint 67 = .ok (.invokestatic 66, 3) := by decide +kernel
theorem dX2_paint_70 : decode cX2_paint 70 = .ok (.ladd, 1) := by decide +kernel
theorem dX2_paint_71 : decode cX2_paint 71 = .ok (.lstore 7, 2) := by decide +kernel
theorem dX2_paint_73 : decode cX2_paint 73 = .ok (.aload_n 2, 1) := by decide +kernel
theorem dX2_paint_74 : decode cX2_paint 74 = .ok (.iload 9, 2) := by decide +kernel
theorem dX2_paint_76 : decode cX2_paint 76 = .ok (.dup2, 1) := by decide +kernel
theorem dX2_paint_77 : decode cX2_paint 77 = .ok (.iaload, 1) := by decide +kernel
theorem dX2_paint_78 : decode cX2_paint 78 = .ok (.iconst 1, 1) := by decide +kernel
theorem dX2_paint_79 : decode cX2_paint 79 = .ok (.iload_n 3, 1) := by decide +kernel
theorem dX2_paint_80 : decode cX2_paint 80 = .ok (.ishl, 1) := by decide +kernel
theorem dX2_paint_81 : decode cX2_paint 81 = .ok (.ixor, 1) := by decide +kernel
theorem dX2_paint_82 : decode cX2_paint 82 = .ok (.iastore, 1) := by decide +kernel
theorem dX2_paint_83 : decode cX2_paint 83 = .ok (.iinc 9 1, 3) := by decide +kernel
theorem dX2_paint_86 : decode cX2_paint 86 = .ok (.goto (-65), 3) := by decide +kernel
theorem dX2_paint_89 : decode cX2_paint 89 = .ok (.iload 4, 2) := by decide +kernel
theorem dX2_paint_91 : decode cX2_paint 91 = .ok (.iload 5, 2) := by decide +kernel
theorem dX2_paint_93 : decode cX2_paint 93 = .ok (.if_icmp .ge 44, 3) := by decide +kernel
theorem dX2_paint_96 : decode cX2_paint 96 = .ok (.iload 4, 2) := by decide +kernel
theorem dX2_paint_98 : decode cX2_paint 98 = .ok (.aload_n 2, 1) := by decide +kernel
theorem dX2_paint_99 : decode cX2_paint 99 = .ok (.arraylength, 1) := by decide +kernel
theorem dX2_paint_100 : decode cX2_paint 100 = .ok (.if_icmp .ge 37, 3) := by decide +kernel
theorem dX2_paint_103 : decode cX2_paint 103 = .ok (.aload_n 2, 1) := by decide +kernel
theorem dX2_paint_104 : decode cX2_paint 104 = .ok (.iload 4, 2) := by decide +kernel
theorem dX2_paint_106 : decode cX2_paint 106 = .ok (.iconst 1, 1) := by decide +kernel
theorem dX2_paint_107 : decode cX2_paint 107 = .ok (.iload_n 3, 1) := by decide +kernel
theorem dX2_paint_108 : decode cX2_paint 108 = .ok (.ishl, 1) := by decide +kernel
theorem dX2_paint_109 : decode cX2_paint 109 = .ok (.iastore, 1) := by decide +kernel
theorem dX2_paint_110 : decode cX2_paint 110 = .ok (.lload 7, 2) := by decide +kernel
theorem dX2_paint_112 : decode cX2_paint 112 = .ok (.iload 5, 2) := by decide +kernel
theorem dX2_paint_114 : decode cX2_paint 114 = .ok (.iload 4, 2) := by decide +kernel
theorem dX2_paint_116 : decode cX2_paint 116 = .ok (.isub, 1) := by decide +kernel
theorem dX2_paint_117 : decode cX2_paint 117 = .ok (.i2l, 1) := by decide +kernel
theorem dX2_paint_118 : decode cX2_paint 118 = .ok (.iload_n 0, 1) := by decide +kernel
theorem dX2_paint_119 : decode cX2_paint 119 = .ok (.iload_n 1, 1) := by decide +kernel
theorem dX2_paint_120 : decode cX2_paint 120 = .ok (.aload_n 2, 1) := by decide +kernel
theorem dX2_paint_121 : decode cX2_paint 121 = .ok (.iload_n 3, 1) := by decide +kernel
theorem dX2_paint_122 : decode cX2_paint 122 = .ok (.iconst 1, 1) := by decide +kernel
theorem dX2_paint_123 : decode cX2_paint 123 = .ok (.iadd, 1) := by decide +kernel
theorem dX2_paint_124 : decode cX2_paint 124 = .ok (.iload 4, 2) := by decide +kernel
theorem dX2_paint_126 : decode cX2_paint 126 = .ok (.iconst 1, 1) := by decide +kernel
theorem dX2_paint_127 : decode cX2_paint 127 = .ok (.iadd, 1) := by decide +kernel
theorem dX2_paint_128 : decode cX2_paint 128 = .ok (.iload 5, 2) := by decide +kernel
theorem dX2_paint_130 : decode cX2_paint 130 = .ok (.invokestatic 66, 3) := by decide +kernel
theorem dX2_paint_133 : decode cX2_paint 133 = .ok (.lmul, 1) := by decide +kernel
theorem dX2_paint_134 : decode cX2_paint 134 = .ok (.ladd, 1) := by decide +kernel
theorem dX2_paint_135 : decode cX2_paint 135 = .ok (.lstore 7, 2) := by decide +kernel
theorem dX2_paint_137 : decode cX2_paint 137 = .ok (.lload 7, 2) := by decide +kernel
theorem dX2_paint_139 : decode cX2_paint 139 = .ok (.lreturn, 1) := by decide +kernel
def fp_X2_paint_L21 (self : Int32 → Int32 → Nat → Int32 → Int32 → Int32 → zM → Option (Int64 × zM)) (k89 : Int64 → zM → Option (Int64 × zM)) (v0 : Int32) (v1 : Int32) (v2 : Nat) (v3 : Int32) (v4 : Int32) (v5 : Int32) (v6 : Int32) : Nat → Int64 → Int32 → zM → Option (Int64 × zM)
  | 0, _, _, _ => none
  | n + 1, v7, v9, M =>
    if v9 ≥ v4 then (
      k89 v7 M)
    else (
      (zln M v2).bind fun (y2 : Int32) =>
      if v9 ≥ y2 then (
        k89 v7 M)
      else (
        (zlI 100 M v2 v9).bind fun (y3 : Int32) =>
        zjn (fun (v7_4 : Int64) (M5 : zM) =>
            fp_X2_paint_L21 self k89 v0 v1 v2 v3 v4 v5 v6 n v7_4 (v9 + 1) M5)
          (fun j83 =>
            if (y3 &&& v6) ≠ 0 then (
              j83 v7 M)
            else (
              (zlI 100 M v2 v9).bind fun (y6 : Int32) =>
              (ztI M v2 v9 (y6 ^^^ (1 <<< (v3 &&& 31)))).bind fun (M7 : zM) =>
              (self v0 v1 v2 (v3 + 1) v4 v5 M7).bind fun p10 => zpp p10 fun (y8 : Int64) (M9 : zM) =>
              lett ((v7 + y8)) fun (v7_11 : Int64) =>
              (zlI 100 M9 v2 v9).bind fun (y12 : Int32) =>
              (ztI M9 v2 v9 (y12 ^^^ (1 <<< (v3 &&& 31)))).bind fun (M13 : zM) =>
              j83 v7_11 M13))))
def fp_X2_paint : Nat → Int32 → Int32 → Nat → Int32 → Int32 → Int32 → zM → Option (Int64 × zM)
  | 0, _, _, _, _, _, _, _ => none
  | n + 1, v0, v1, v2, v3, v4, v5, M =>
    if v3 < v0 then (
      (fp_X2_nearTo v0 v1 v3).bind fun (y1 : Int32) =>
      fp_X2_paint_L21 (fun w0 w1 w2 w3 w4 w5 Mw => fp_X2_paint n w0 w1 w2 w3 w4 w5 Mw)
        (fun v7_14 M15 =>
          if v4 ≥ v5 then (
            some (v7_14, M15))
          else (
            (zln M15 v2).bind fun (y16 : Int32) =>
            if v4 ≥ y16 then (
              some (v7_14, M15))
            else (
              (ztI M15 v2 v4 (1 <<< (v3 &&& 31))).bind fun (M17 : zM) =>
              (fp_X2_paint n v0 v1 v2 (v3 + 1) (v4 + 1) v5 M17).bind fun p20 => zpp p20 fun (y18 : Int64) (M19 : zM) =>
              lett ((v7_14 + (((v5 - v4).toInt64) * y18))) fun (v7_21 : Int64) =>
              some (v7_21, M19)))) v0 v1 v2 v3 v4 v5 y1 FU 0 0 M)
    else (
      some (1, M))
set_option maxHeartbeats 4000000 in
set_option maxRecDepth 100000 in
theorem w_X2_paint_L21 (E : zEnv) (hE : zEok E) (d : Nat) (hd : 2 ≤ d) (M0 : zM) (x0 : Int64 × zM) (self : Int32 → Int32 → Nat → Int32 → Int32 → Int32 → zM → Option (Int64 × zM)) (hself : ∀ (v0 : Int32) (v1 : Int32) (v2 : Nat) (v3 : Int32) (v4 : Int32) (v5 : Int32) (M : zM) (y0 : Int64 × zM), self v0 v1 v2 v3 v4 v5 M = some y0 → zCt E mu_X2_paint (d - 1) [.int v0, .int v1, .ref (E.2.2.2.1 + v2), .int v3, .int v4, .int v5] M (some (.long y0.1), y0.2)) (v0 : Int32) (v1 : Int32) (v2 : Nat) (v3 : Int32) (v4 : Int32) (v5 : Int32) (v6 : Int32) (k89 : Int64 → zM → Option (Int64 × zM)) (hk89 : ∀ (v7 : Int64) (M : zM), zSy E mu_X2_paint d M0 (some (.long x0.1), x0.2) x0 (k89 v7 M) 89 [(0, .int v0), (1, .int v1), (2, .ref (E.2.2.2.1 + v2)), (3, .int v3), (4, .int v4), (5, .int v5), (7, .long v7)] [] M) : ∀ (n : Nat) (v7 : Int64) (v9 : Int32) (M : zM), zSy E mu_X2_paint d M0 (some (.long x0.1), x0.2) x0 (fp_X2_paint_L21 self k89 v0 v1 v2 v3 v4 v5 v6 n v7 v9 M) 21 [(0, .int v0), (1, .int v1), (2, .ref (E.2.2.2.1 + v2)), (3, .int v3), (4, .int v4), (5, .int v5), (6, .int v6), (7, .long v7), (9, .int v9)] [] M := by
  intro n
  induction n with
  | zero =>
    intro v7 v9 M
    rw [fp_X2_paint_L21]
    exact zs_none
  | succ n ih =>
    intro v7 v9 M
    rw [fp_X2_paint_L21]
    refine zs_iload dX2_paint_21 8 rfl ?_
    refine zs_iload dX2_paint_23 4 rfl ?_
    refine zs_icmp_ge dX2_paint_25 rfl ?_ ?_
    · refine zs_sub (loc' := [(0, .int v0), (1, .int v1), (2, .ref (E.2.2.2.1 + v2)), (3, .int v3), (4, .int v4), (5, .int v5), (7, .long v7)]) [0, 1, 2, 3, 4, 5, 7] rfl ?_
      exact hk89 v7 M
    refine zs_iload dX2_paint_28 8 rfl ?_
    refine zs_aload_n dX2_paint_30 rfl 2 rfl ?_
    refine zs_alen dX2_paint_31 (fun y2 => ?_)
    refine zs_icmp_ge dX2_paint_32 rfl ?_ ?_
    · refine zs_sub (loc' := [(0, .int v0), (1, .int v1), (2, .ref (E.2.2.2.1 + v2)), (3, .int v3), (4, .int v4), (5, .int v5), (7, .long v7)]) [0, 1, 2, 3, 4, 5, 7] rfl ?_
      exact hk89 v7 M
    refine zs_aload_n dX2_paint_35 rfl 2 rfl ?_
    refine zs_iload dX2_paint_36 8 rfl ?_
    refine zs_ldI dX2_paint_38 (fun y3 => ?_)
    refine zs_iload dX2_paint_39 6 rfl ?_
    refine zs_iand dX2_paint_41 ?_
    refine zs_jn (fun j83 => ∀ (v7_4 : Int64) (M5 : zM), zSy E mu_X2_paint d M0 (some (.long x0.1), x0.2) x0 (j83 v7_4 M5) 83 [(0, .int v0), (1, .int v1), (2, .ref (E.2.2.2.1 + v2)), (3, .int v3), (4, .int v4), (5, .int v5), (6, .int v6), (7, .long v7_4), (9, .int v9)] [] M5) (fun v7_4 M5 => ?_) (fun j83 hj83 => ?_)
    · refine zs_iinc (v := (v9 + 1)) (loc' := [(0, .int v0), (1, .int v1), (2, .ref (E.2.2.2.1 + v2)), (3, .int v3), (4, .int v4), (5, .int v5), (6, .int v6), (7, .long v7_4), (9, .int (v9 + 1))]) dX2_paint_83 8 rfl (by rfl) (Nat.le_of_ble_eq_true rfl) [1, 2, 3, 4, 5, 6, 7, 8, 0] rfl ?_
      refine zs_goto dX2_paint_86 rfl ?_
      exact ih v7_4 (v9 + 1) M5
    refine zs_if_ne dX2_paint_42 rfl ?_ ?_
    · exact hj83 v7 M
    refine zs_aload_n dX2_paint_45 rfl 2 rfl ?_
    refine zs_iload dX2_paint_46 8 rfl ?_
    refine zs_dup2 dX2_paint_48 rfl rfl ?_
    refine zs_ldI dX2_paint_49 (fun y6 => ?_)
    refine zs_iconst (v := 1) dX2_paint_50 ciconst_1 ?_
    refine zs_iload_n dX2_paint_51 rfl 3 rfl ?_
    refine zs_ishl dX2_paint_52 ?_
    refine zs_ixor dX2_paint_53 ?_
    refine zs_stI dX2_paint_54 (fun M7 => ?_)
    refine zs_lload dX2_paint_55 7 rfl ?_
    refine zs_iload_n dX2_paint_57 rfl 0 rfl ?_
    refine zs_iload_n dX2_paint_58 rfl 1 rfl ?_
    refine zs_aload_n dX2_paint_59 rfl 2 rfl ?_
    refine zs_iload_n dX2_paint_60 rfl 3 rfl ?_
    refine zs_iconst (v := 1) dX2_paint_61 ciconst_1 ?_
    refine zs_iadd dX2_paint_62 ?_
    refine zs_iload dX2_paint_63 4 rfl ?_
    refine zs_iload dX2_paint_65 5 rfl ?_
    refine zs_invSWJ (rest := [.long v7]) [.int v0, .int v1, .ref (E.2.2.2.1 + v2), .int (v3 + 1), .int v4, .int v5] dX2_paint_67 lk_X2_66 rfl (zd1 rfl hd) rfl (Nat.le_of_ble_eq_true rfl) (hself _ _ _ _ _ _ _) (fun y8 M9 => ?_)
    refine zs_ladd dX2_paint_70 ?_
    refine zs_lstoreL (loc' := fun v7_11 => [(0, .int v0), (1, .int v1), (2, .ref (E.2.2.2.1 + v2)), (3, .int v3), (4, .int v4), (5, .int v5), (6, .int v6), (7, .long v7_11), (9, .int v9)]) dX2_paint_71 (Nat.le_of_ble_eq_true rfl) [1, 2, 3, 4, 5, 6, 7, 0, 8] (fun _ => rfl) (fun v7_11 => ?_)
    refine zs_aload_n dX2_paint_73 rfl 2 rfl ?_
    refine zs_iload dX2_paint_74 8 rfl ?_
    refine zs_dup2 dX2_paint_76 rfl rfl ?_
    refine zs_ldI dX2_paint_77 (fun y12 => ?_)
    refine zs_iconst (v := 1) dX2_paint_78 ciconst_1 ?_
    refine zs_iload_n dX2_paint_79 rfl 3 rfl ?_
    refine zs_ishl dX2_paint_80 ?_
    refine zs_ixor dX2_paint_81 ?_
    refine zs_stI dX2_paint_82 (fun M13 => ?_)
    exact hj83 v7_11 M13
set_option maxHeartbeats 4000000 in
set_option maxRecDepth 100000 in
theorem ct_X2_paint (E : zEnv) (hE : zEok E) : ∀ (n : Nat) (d : Nat) (_ : n + 2 ≤ d) (v0 : Int32) (v1 : Int32) (v2 : Nat) (v3 : Int32) (v4 : Int32) (v5 : Int32) (M : zM) (x0 : Int64 × zM) (_ : fp_X2_paint n v0 v1 v2 v3 v4 v5 M = some x0), zCt E mu_X2_paint d [.int v0, .int v1, .ref (E.2.2.2.1 + v2), .int v3, .int v4, .int v5] M (some (.long x0.1), x0.2) := by
  intro n
  induction n with
  | zero =>
    intro d hd v0 v1 v2 v3 v4 v5 M x0 hx
    rw [fp_X2_paint] at hx
    cases hx
  | succ n ih0 =>
    intro d hd0 v0 v1 v2 v3 v4 v5 M x0 hx
    have hd : 2 ≤ d := by omega
    have ih := ih0 (d - 1) (by omega)
    refine zCt_of (μ := mu_X2_paint) (t := fp_X2_paint (n + 1) v0 v1 v2 v3 v4 v5 M) rfl rfl (Nat.le_of_ble_eq_true rfl) hx ?_
    change zSy E mu_X2_paint d M (some (.long x0.1), x0.2) x0 (fp_X2_paint (n + 1) v0 v1 v2 v3 v4 v5 M) 0 [(0, .int v0), (1, .int v1), (2, .ref (E.2.2.2.1 + v2)), (3, .int v3), (4, .int v4), (5, .int v5)] [] M
    rw [fp_X2_paint]
    refine zs_iload_n dX2_paint_0 rfl 3 rfl ?_
    refine zs_iload_n dX2_paint_1 rfl 0 rfl ?_
    refine zs_icmp_lt dX2_paint_2 rfl ?_ ?_
    · refine zs_iload_n dX2_paint_7 rfl 0 rfl ?_
      refine zs_iload_n dX2_paint_8 rfl 1 rfl ?_
      refine zs_iload_n dX2_paint_9 rfl 3 rfl ?_
      refine zs_invSPI (rest := []) [.int v0, .int v1, .int v3] dX2_paint_10 lk_X2_20 rfl (zd1 rfl hd) rfl (Nat.le_of_ble_eq_true rfl) (ct_X2_nearTo E hE _ (zdl rfl hd) _ _ _ _) (fun y1 => ?_)
      refine zs_istore (loc' := [(0, .int v0), (1, .int v1), (2, .ref (E.2.2.2.1 + v2)), (3, .int v3), (4, .int v4), (5, .int v5), (6, .int y1)]) dX2_paint_13 (Nat.le_of_ble_eq_true rfl) [1, 2, 3, 4, 5, 6, 0] rfl ?_
      refine zs_lconst (v := 0) dX2_paint_15 (by rfl) ?_
      refine zs_lstore (loc' := [(0, .int v0), (1, .int v1), (2, .ref (E.2.2.2.1 + v2)), (3, .int v3), (4, .int v4), (5, .int v5), (6, .int y1), (7, .long 0)]) dX2_paint_16 (Nat.le_of_ble_eq_true rfl) [1, 2, 3, 4, 5, 6, 7, 0] rfl ?_
      refine zs_iconst (v := 0) dX2_paint_18 ciconst_0 ?_
      refine zs_istore (loc' := [(0, .int v0), (1, .int v1), (2, .ref (E.2.2.2.1 + v2)), (3, .int v3), (4, .int v4), (5, .int v5), (6, .int y1), (7, .long 0), (9, .int 0)]) dX2_paint_19 (Nat.le_of_ble_eq_true rfl) [1, 2, 3, 4, 5, 6, 7, 8, 0] rfl ?_
      refine w_X2_paint_L21 E hE d hd _ _ _ ih _ _ _ _ _ _ _ _ (fun v7_14 M15 => ?_) _ _ _ _
      refine zs_iload dX2_paint_89 4 rfl ?_
      refine zs_iload dX2_paint_91 5 rfl ?_
      refine zs_icmp_ge dX2_paint_93 rfl ?_ ?_
      · refine zs_lload dX2_paint_137 6 rfl ?_
        exact zs_lretW dX2_paint_139 trivial
      refine zs_iload dX2_paint_96 4 rfl ?_
      refine zs_aload_n dX2_paint_98 rfl 2 rfl ?_
      refine zs_alen dX2_paint_99 (fun y16 => ?_)
      refine zs_icmp_ge dX2_paint_100 rfl ?_ ?_
      · refine zs_lload dX2_paint_137 6 rfl ?_
        exact zs_lretW dX2_paint_139 trivial
      refine zs_aload_n dX2_paint_103 rfl 2 rfl ?_
      refine zs_iload dX2_paint_104 4 rfl ?_
      refine zs_iconst (v := 1) dX2_paint_106 ciconst_1 ?_
      refine zs_iload_n dX2_paint_107 rfl 3 rfl ?_
      refine zs_ishl dX2_paint_108 ?_
      refine zs_stI dX2_paint_109 (fun M17 => ?_)
      refine zs_lload dX2_paint_110 6 rfl ?_
      refine zs_iload dX2_paint_112 5 rfl ?_
      refine zs_iload dX2_paint_114 4 rfl ?_
      refine zs_isub dX2_paint_116 ?_
      refine zs_i2l dX2_paint_117 ?_
      refine zs_iload_n dX2_paint_118 rfl 0 rfl ?_
      refine zs_iload_n dX2_paint_119 rfl 1 rfl ?_
      refine zs_aload_n dX2_paint_120 rfl 2 rfl ?_
      refine zs_iload_n dX2_paint_121 rfl 3 rfl ?_
      refine zs_iconst (v := 1) dX2_paint_122 ciconst_1 ?_
      refine zs_iadd dX2_paint_123 ?_
      refine zs_iload dX2_paint_124 4 rfl ?_
      refine zs_iconst (v := 1) dX2_paint_126 ciconst_1 ?_
      refine zs_iadd dX2_paint_127 ?_
      refine zs_iload dX2_paint_128 5 rfl ?_
      refine zs_invSWJ (rest := [.long ((v5 - v4).toInt64), .long v7_14]) [.int v0, .int v1, .ref (E.2.2.2.1 + v2), .int (v3 + 1), .int (v4 + 1), .int v5] dX2_paint_130 lk_X2_66 rfl (zd1 rfl hd) rfl (Nat.le_of_ble_eq_true rfl) (ih _ _ _ _ _ _ _) (fun y18 M19 => ?_)
      refine zs_lmul dX2_paint_133 ?_
      refine zs_ladd dX2_paint_134 ?_
      refine zs_lstoreL (loc' := fun v7_21 => [(7, .long v7_21)]) dX2_paint_135 (Nat.le_of_ble_eq_true rfl) [0] (fun _ => rfl) (fun v7_21 => ?_)
      refine zs_lload dX2_paint_137 0 rfl ?_
      exact zs_lretW dX2_paint_139 trivial
    refine zs_lconst (v := 1) dX2_paint_5 (by rfl) ?_
    exact zs_lretW dX2_paint_6 trivial

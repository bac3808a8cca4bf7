theorem dX2_code_0 : decode cX2_code 0 = .ok (.iload_n 0, 1) := by decide +kernel
theorem dX2_code_1 : decode cX2_code 1 = .ok (.bipush 21, 2) := by decide +kernel
theorem dX2_code_3 : decode cX2_code 3 = .ok (.ishl, 1) := by decide +kernel
theorem dX2_code_4 : decode cX2_code 4 = .ok (.iload_n 1, 1) := by decide +kernel
theorem dX2_code_5 : decode cX2_code 5 = .ok (.ior, 1) := by decide +kernel
theorem dX2_code_6 : decode cX2_code 6 = .ok (.ireturn, 1) := by decide +kernel
def fp_X2_code (v0 : Int32) (v1 : Int32) : Option (Int32) :=
  some ((v0 <<< (21 &&& 31)) ||| v1)
set_option maxHeartbeats 4000000 in
set_option maxRecDepth 100000 in
theorem ct_X2_code (E : zEnv) (hE : zEok E) (d : Nat) (hd : 1 ≤ d) (v0 : Int32) (v1 : Int32) (M : zM) (x0 : Int32) (hx : fp_X2_code v0 v1 = some x0) : zCt E mu_X2_code d [.int v0, .int v1] M (some (.int x0), M) := by
  refine zCt_of (μ := mu_X2_code) (t := fp_X2_code v0 v1) rfl rfl (Nat.le_of_ble_eq_true rfl) hx ?_
  change zSy E mu_X2_code d M (some (.int x0), M) x0 (fp_X2_code v0 v1) 0 [(0, .int v0), (1, .int v1)] [] M
  unfold fp_X2_code
  refine zs_iload_n dX2_code_0 rfl 0 rfl ?_
  refine zs_bipush (v := 21) dX2_code_1 cbipush_21 ?_
  refine zs_ishl dX2_code_3 ?_
  refine zs_iload_n dX2_code_4 rfl 1 rfl ?_
  refine zs_ior dX2_code_5 ?_
  exact zs_iretP dX2_code_6 rfl
theorem dX2_pointsOf_0 : decode cX2_pointsOf 0 = .ok (.iload_n 0, 1) := by decide +kernel
theorem dX2_pointsOf_1 : decode cX2_pointsOf 1 = .ok (.bipush 21, 2) := by decide +kernel
theorem dX2_pointsOf_3 : decode cX2_pointsOf 3 = .ok (.ishr, 1) := by decide +kernel
theorem dX2_pointsOf_4 : decode cX2_pointsOf 4 = .ok (.ireturn, 1) := by decide +kernel
def fp_X2_pointsOf (v0 : Int32) : Option (Int32) :=
  some (v0 >>> (21 &&& 31))
set_option maxHeartbeats 4000000 in
set_option maxRecDepth 100000 in
theorem ct_X2_pointsOf (E : zEnv) (hE : zEok E) (d : Nat) (hd : 1 ≤ d) (v0 : Int32) (M : zM) (x0 : Int32) (hx : fp_X2_pointsOf v0 = some x0) : zCt E mu_X2_pointsOf d [.int v0] M (some (.int x0), M) := by
  refine zCt_of (μ := mu_X2_pointsOf) (t := fp_X2_pointsOf v0) rfl rfl (Nat.le_of_ble_eq_true rfl) hx ?_
  change zSy E mu_X2_pointsOf d M (some (.int x0), M) x0 (fp_X2_pointsOf v0) 0 [(0, .int v0)] [] M
  unfold fp_X2_pointsOf
  refine zs_iload_n dX2_pointsOf_0 rfl 0 rfl ?_
  refine zs_bipush (v := 21) dX2_pointsOf_1 cbipush_21 ?_
  refine zs_ishr dX2_pointsOf_3 ?_
  exact zs_iretP dX2_pointsOf_4 rfl
theorem dX2_linesOf_0 : decode cX2_linesOf 0 = .ok (.iload_n 0, 1) := by decide +kernel
theorem dX2_linesOf_1 : decode cX2_linesOf 1 = .ok (.ldc 11, 2) := by decide +kernel
theorem dX2_linesOf_3 : decode cX2_linesOf 3 = .ok (.iand, 1) := by decide +kernel
theorem dX2_linesOf_4 : decode cX2_linesOf 4 = .ok (.ireturn, 1) := by decide +kernel
def fp_X2_linesOf (v0 : Int32) : Option (Int32) :=
  some (v0 &&& 2097151)
set_option maxHeartbeats 4000000 in
set_option maxRecDepth 100000 in
theorem ct_X2_linesOf (E : zEnv) (hE : zEok E) (d : Nat) (hd : 1 ≤ d) (v0 : Int32) (M : zM) (x0 : Int32) (hx : fp_X2_linesOf v0 = some x0) : zCt E mu_X2_linesOf d [.int v0] M (some (.int x0), M) := by
  refine zCt_of (μ := mu_X2_linesOf) (t := fp_X2_linesOf v0) rfl rfl (Nat.le_of_ble_eq_true rfl) hx ?_
  change zSy E mu_X2_linesOf d M (some (.int x0), M) x0 (fp_X2_linesOf v0) 0 [(0, .int v0)] [] M
  unfold fp_X2_linesOf
  refine zs_iload_n dX2_linesOf_0 rfl 0 rfl ?_
  refine zs_ldc (v := 2097151) dX2_linesOf_1 (ti_3 219 rfl rfl) ?_
  refine zs_iand dX2_linesOf_3 ?_
  exact zs_iretP dX2_linesOf_4 rfl
theorem dX2_tied_0 : decode cX2_tied 0 = .ok (.iload_n 0, 1) := by decide +kernel
theorem dX2_tied_1 : decode cX2_tied 1 = .ok (.iload_n 1, 1) := by decide +kernel
theorem dX2_tied_2 : decode cX2_tied 2 = .ok (.iload_n 2, 1) := by decide +kernel
theorem dX2_tied_3 : decode cX2_tied 3 = .ok (.invokestatic 12, 3) := by decide +kernel
theorem dX2_tied_6 : decode cX2_tied 6 = .ok (.ishr, 1) := by decide +kernel
theorem dX2_tied_7 : decode cX2_tied 7 = .ok (.iconst 1, 1) := by decide +kernel
theorem dX2_tied_8 : decode cX2_tied 8 = .ok (.iand, 1) := by decide +kernel
theorem dX2_tied_9 : decode cX2_tied 9 = .ok (.ifCond .eq 7, 3) := by decide +kernel
theorem dX2_tied_12 : decode cX2_tied 12 = .ok (.iconst 1, 1) := by decide +kernel
theorem dX2_tied_13 : decode cX2_tied 13 = .ok (.goto 4, 3) := by decide +kernel
theorem dX2_tied_16 : decode cX2_tied 16 = .ok (.iconst 0, 1) := by decide +kernel
theorem dX2_tied_17 : decode cX2_tied 17 = .ok (.ireturn, 1) := by decide +kernel
def fp_X2_tied (v0 : Int32) (v1 : Int32) (v2 : Int32) : Option (Int32) :=
  (fp_X2_pair v1 v2).bind fun (y1 : Int32) =>
  if ((v0 >>> (y1 &&& 31)) &&& 1) = 0 then (
    some 0)
  else (
    some 1)
set_option maxHeartbeats 4000000 in
set_option maxRecDepth 100000 in
theorem ct_X2_tied (E : zEnv) (hE : zEok E) (d : Nat) (hd : 2 ≤ d) (v0 : Int32) (v1 : Int32) (v2 : Int32) (M : zM) (x0 : Int32) (hx : fp_X2_tied v0 v1 v2 = some x0) : zCt E mu_X2_tied d [.int v0, .int v1, .int v2] M (some (.int x0), M) := by
  refine zCt_of (μ := mu_X2_tied) (t := fp_X2_tied v0 v1 v2) rfl rfl (Nat.le_of_ble_eq_true rfl) hx ?_
  change zSy E mu_X2_tied d M (some (.int x0), M) x0 (fp_X2_tied v0 v1 v2) 0 [(0, .int v0), (1, .int v1), (2, .int v2)] [] M
  unfold fp_X2_tied
  refine zs_iload_n dX2_tied_0 rfl 0 rfl ?_
  refine zs_iload_n dX2_tied_1 rfl 1 rfl ?_
  refine zs_iload_n dX2_tied_2 rfl 2 rfl ?_
  refine zs_invSPI (rest := [.int v0]) [.int v1, .int v2] dX2_tied_3 lk_X2_12 rfl (zd1 rfl hd) rfl (Nat.le_of_ble_eq_true rfl) (ct_X2_pair E hE _ (zdl rfl hd) _ _ _) (fun y1 => ?_)
  refine zs_ishr dX2_tied_6 ?_
  refine zs_iconst (v := 1) dX2_tied_7 ciconst_1 ?_
  refine zs_iand dX2_tied_8 ?_
  refine zs_if_eq dX2_tied_9 rfl ?_ ?_
  · refine zs_iconst (v := 0) dX2_tied_16 ciconst_0 ?_
    exact zs_iretP dX2_tied_17 rfl
  refine zs_iconst (v := 1) dX2_tied_12 ciconst_1 ?_
  refine zs_goto dX2_tied_13 rfl ?_
  exact zs_iretP dX2_tied_17 rfl
theorem dX2_isLeastOf_0 : decode cX2_isLeastOf 0 = .ok (.iload_n 0, 1) := by decide +kernel
theorem dX2_isLeastOf_1 : decode cX2_isLeastOf 1 = .ok (.iload_n 1, 1) := by decide +kernel
theorem dX2_isLeastOf_2 : decode cX2_isLeastOf 2 = .ok (.invokestatic 16, 3) := by decide +kernel
theorem dX2_isLeastOf_5 : decode cX2_isLeastOf 5 = .ok (.iand, 1) := by decide +kernel
theorem dX2_isLeastOf_6 : decode cX2_isLeastOf 6 = .ok (.ifCond .ne 7, 3) := by decide +kernel
theorem dX2_isLeastOf_9 : decode cX2_isLeastOf 9 = .ok (.iconst 1, 1) := by decide +kernel
theorem dX2_isLeastOf_10 : decode cX2_isLeastOf 10 = .ok (.goto 4, 3) := by decide +kernel
theorem dX2_isLeastOf_13 : decode cX2_isLeastOf 13 = .ok (.iconst 0, 1) := by decide +kernel
theorem dX2_isLeastOf_14 : decode cX2_isLeastOf 14 = .ok (.ireturn, 1) := by decide +kernel
def fp_X2_isLeastOf (v0 : Int32) (v1 : Int32) : Option (Int32) :=
  (fp_X2_everyPoint v1).bind fun (y1 : Int32) =>
  if (v0 &&& y1) ≠ 0 then (
    some 0)
  else (
    some 1)
set_option maxHeartbeats 4000000 in
set_option maxRecDepth 100000 in
theorem ct_X2_isLeastOf (E : zEnv) (hE : zEok E) (d : Nat) (hd : 2 ≤ d) (v0 : Int32) (v1 : Int32) (M : zM) (x0 : Int32) (hx : fp_X2_isLeastOf v0 v1 = some x0) : zCt E mu_X2_isLeastOf d [.int v0, .int v1] M (some (.int x0), M) := by
  refine zCt_of (μ := mu_X2_isLeastOf) (t := fp_X2_isLeastOf v0 v1) rfl rfl (Nat.le_of_ble_eq_true rfl) hx ?_
  change zSy E mu_X2_isLeastOf d M (some (.int x0), M) x0 (fp_X2_isLeastOf v0 v1) 0 [(0, .int v0), (1, .int v1)] [] M
  unfold fp_X2_isLeastOf
  refine zs_iload_n dX2_isLeastOf_0 rfl 0 rfl ?_
  refine zs_iload_n dX2_isLeastOf_1 rfl 1 rfl ?_
  refine zs_invSPI (rest := [.int v0]) [.int v1] dX2_isLeastOf_2 lk_X2_16 rfl (zd1 rfl hd) rfl (Nat.le_of_ble_eq_true rfl) (ct_X2_everyPoint E hE _ (zdl rfl hd) _ _) (fun y1 => ?_)
  refine zs_iand dX2_isLeastOf_5 ?_
  refine zs_if_ne dX2_isLeastOf_6 rfl ?_ ?_
  · refine zs_iconst (v := 0) dX2_isLeastOf_13 ciconst_0 ?_
    exact zs_iretP dX2_isLeastOf_14 rfl
  refine zs_iconst (v := 1) dX2_isLeastOf_9 ciconst_1 ?_
  refine zs_goto dX2_isLeastOf_10 rfl ?_
  exact zs_iretP dX2_isLeastOf_14 rfl
theorem dX2_pairsOf_0 : decode cX2_pairsOf 0 = .ok (.iconst 0, 1) := by decide +kernel
theorem dX2_pairsOf_1 : decode cX2_pairsOf 1 = .ok (.istore_n 1, 1) := by decide +kernel
theorem dX2_pairsOf_2 : decode cX2_pairsOf 2 = .ok (.iconst 1, 1) := by decide +kernel
theorem dX2_pairsOf_3 : decode cX2_pairsOf 3 = .ok (.istore_n 2, 1) := by decide +kernel
theorem dX2_pairsOf_4 : decode cX2_pairsOf 4 = .ok (.iload_n 2, 1) := by decide +kernel
theorem dX2_pairsOf_5 : decode cX2_pairsOf 5 = .ok (.bipush 7, 2) := by decide +kernel
theorem dX2_pairsOf_7 : decode cX2_pairsOf 7 = .ok (.if_icmp .ge 35, 3) := by decide +kernel
theorem dX2_pairsOf_10 : decode cX2_pairsOf 10 = .ok (.iload_n 0, 1) := by decide +kernel
theorem dX2_pairsOf_11 : decode cX2_pairsOf 11 = .ok (.iload_n 2, 1) := by decide +kernel
theorem dX2_pairsOf_12 : decode cX2_pairsOf 12 = .ok (.ishr, 1) := by decide +kernel
theorem dX2_pairsOf_13 : decode cX2_pairsOf 13 = .ok (.iconst 1, 1) := by decide +kernel
theorem dX2_pairsOf_14 : decode cX2_pairsOf 14 = .ok (.iand, 1) := by decide +kernel
theorem dX2_pairsOf_15 : decode cX2_pairsOf 15 = .ok (.ifCond .eq 21, 3) := by decide +kernel
theorem dX2_pairsOf_18 : decode cX2_pairsOf 18 = .ok (.iload_n 1, 1) := by decide +kernel
theorem dX2_pairsOf_19 : decode cX2_pairsOf 19 = .ok (.iload_n 0, 1) := by decide +kernel
theorem dX2_pairsOf_20 : decode cX2_pairsOf 20 = .ok (.iconst 1, 1) := by decide +kernel
theorem dX2_pairsOf_21 : decode cX2_pairsOf 21 = .ok (.iload_n 2, 1) := by decide +kernel
theorem dX2_pairsOf_22 : decode cX2_pairsOf 22 = .ok (.ishl, 1) := by decide +kernel
theorem dX2_pairsOf_23 : decode cX2_pairsOf 23 = .ok (.iconst 1, 1) := by decide +kernel
theorem dX2_pairsOf_24 : decode cX2_pairsOf 24 = .ok (.isub, 1) := by decide +kernel
theorem dX2_pairsOf_25 : decode cX2_pairsOf 25 = .ok (.iand, 1) := by decide +kernel
theorem dX2_pairsOf_26 : decode cX2_pairsOf 26 = .ok (.iload_n 2, 1) := by decide +kernel
theorem dX2_pairsOf_27 : decode cX2_pairsOf 27 = .ok (.iload_n 2, 1) := by decide +kernel
theorem dX2_pairsOf_28 : decode cX2_pairsOf 28 = .ok (.iconst 1, 1) := by decide +kernel
theorem dX2_pairsOf_29 : decode cX2_pairsOf 29 = .ok (.isub, 1) := by decide +kernel
theorem dX2_pairsOf_30 : decode cX2_pairsOf 30 = .ok (.imul, 1) := by decide +kernel
theorem dX2_pairsOf_31 : decode cX2_pairsOf 31 = .ok (.iconst 2, 1) := by decide +kernel
theorem dX2_pairsOf_32 : decode cX2_pairsOf 32 = .ok (.idiv, 1) := by decide +kernel
theorem dX2_pairsOf_33 : decode cX2_pairsOf 33 = .ok (.ishl, 1) := by decide +kernel
theorem dX2_pairsOf_34 : decode cX2_pairsOf 34 = .ok (.ior, 1) := by decide +kernel
theorem dX2_pairsOf_35 : decode cX2_pairsOf 35 = .ok (.istore_n 1, 1) := by decide +kernel
theorem dX2_pairsOf_36 : decode cX2_pairsOf 36 = .ok (.iinc 2 1, 3) := by decide +kernel
theorem dX2_pairsOf_39 : decode cX2_pairsOf 39 = .ok (.goto (-35), 3) := by decide +kernel
theorem dX2_pairsOf_42 : decode cX2_pairsOf 42 = .ok (.iload_n 1, 1) := by decide +kernel
theorem dX2_pairsOf_43 : decode cX2_pairsOf 43 = .ok (.ireturn, 1) := by decide +kernel
def fp_X2_pairsOf_L4 (v0 : Int32) : Nat → Int32 → Int32 → Option (Int32)
  | 0, _, _ => none
  | n + 1, v1, v2 =>
    if v2 ≥ 7 then (
      some v1)
    else (
      zjn (fun (v1_1 : Int32) =>
          fp_X2_pairsOf_L4 v0 n v1_1 (v2 + 1))
        (fun j36 =>
          if ((v0 >>> (v2 &&& 31)) &&& 1) = 0 then (
            j36 v1)
          else (
            lett ((v1 ||| ((v0 &&& ((1 <<< (v2 &&& 31)) - 1)) <<< (((v2 * (v2 - 1)) / 2) &&& 31)))) fun (v1_2 : Int32) =>
            j36 v1_2)))
def fp_X2_pairsOf (v0 : Int32) : Option (Int32) :=
  fp_X2_pairsOf_L4 v0 FU 0 1
set_option maxHeartbeats 4000000 in
set_option maxRecDepth 100000 in
theorem w_X2_pairsOf_L4 (E : zEnv) (hE : zEok E) (d : Nat) (hd : 1 ≤ d) (x0 : Int32) (v0 : Int32) (M : zM)  : ∀ (n : Nat) (v1 : Int32) (v2 : Int32), zSy E mu_X2_pairsOf d M (some (.int x0), M) x0 (fp_X2_pairsOf_L4 v0 n v1 v2) 4 [(0, .int v0), (1, .int v1), (2, .int v2)] [] M := by
  intro n
  induction n with
  | zero =>
    intro v1 v2
    rw [fp_X2_pairsOf_L4]
    exact zs_none
  | succ n ih =>
    intro v1 v2
    rw [fp_X2_pairsOf_L4]
    refine zs_iload_n dX2_pairsOf_4 rfl 2 rfl ?_
    refine zs_bipush (v := 7) dX2_pairsOf_5 cbipush_7 ?_
    refine zs_icmp_ge dX2_pairsOf_7 rfl ?_ ?_
    · refine zs_iload_n dX2_pairsOf_42 rfl 1 rfl ?_
      exact zs_iretP dX2_pairsOf_43 rfl
    refine zs_iload_n dX2_pairsOf_10 rfl 0 rfl ?_
    refine zs_iload_n dX2_pairsOf_11 rfl 2 rfl ?_
    refine zs_ishr dX2_pairsOf_12 ?_
    refine zs_iconst (v := 1) dX2_pairsOf_13 ciconst_1 ?_
    refine zs_iand dX2_pairsOf_14 ?_
    refine zs_jn (fun j36 => ∀ (v1_1 : Int32), zSy E mu_X2_pairsOf d M (some (.int x0), M) x0 (j36 v1_1) 36 [(0, .int v0), (1, .int v1_1), (2, .int v2)] [] M) (fun v1_1 => ?_) (fun j36 hj36 => ?_)
    · refine zs_iinc (v := (v2 + 1)) (loc' := [(0, .int v0), (1, .int v1_1), (2, .int (v2 + 1))]) dX2_pairsOf_36 2 rfl (by rfl) (Nat.le_of_ble_eq_true rfl) [1, 2, 0] rfl ?_
      refine zs_goto dX2_pairsOf_39 rfl ?_
      exact ih v1_1 (v2 + 1)
    refine zs_if_eq dX2_pairsOf_15 rfl ?_ ?_
    · exact hj36 v1
    refine zs_iload_n dX2_pairsOf_18 rfl 1 rfl ?_
    refine zs_iload_n dX2_pairsOf_19 rfl 0 rfl ?_
    refine zs_iconst (v := 1) dX2_pairsOf_20 ciconst_1 ?_
    refine zs_iload_n dX2_pairsOf_21 rfl 2 rfl ?_
    refine zs_ishl dX2_pairsOf_22 ?_
    refine zs_iconst (v := 1) dX2_pairsOf_23 ciconst_1 ?_
    refine zs_isub dX2_pairsOf_24 ?_
    refine zs_iand dX2_pairsOf_25 ?_
    refine zs_iload_n dX2_pairsOf_26 rfl 2 rfl ?_
    refine zs_iload_n dX2_pairsOf_27 rfl 2 rfl ?_
    refine zs_iconst (v := 1) dX2_pairsOf_28 ciconst_1 ?_
    refine zs_isub dX2_pairsOf_29 ?_
    refine zs_imul dX2_pairsOf_30 ?_
    refine zs_iconst (v := 2) dX2_pairsOf_31 ciconst_2 ?_
    refine zs_idivK dX2_pairsOf_32 (by decide) ?_
    refine zs_ishl dX2_pairsOf_33 ?_
    refine zs_ior dX2_pairsOf_34 ?_
    refine zs_istore_nL (loc' := fun v1_2 => [(0, .int v0), (1, .int v1_2), (2, .int v2)]) dX2_pairsOf_35 rfl (Nat.le_of_ble_eq_true rfl) [1, 0, 2] (fun _ => rfl) (fun v1_2 => ?_)
    exact hj36 v1_2
set_option maxHeartbeats 4000000 in
set_option maxRecDepth 100000 in
theorem ct_X2_pairsOf (E : zEnv) (hE : zEok E) (d : Nat) (hd : 1 ≤ d) (v0 : Int32) (M : zM) (x0 : Int32) (hx : fp_X2_pairsOf v0 = some x0) : zCt E mu_X2_pairsOf d [.int v0] M (some (.int x0), M) := by
  refine zCt_of (μ := mu_X2_pairsOf) (t := fp_X2_pairsOf v0) rfl rfl (Nat.le_of_ble_eq_true rfl) hx ?_
  change zSy E mu_X2_pairsOf d M (some (.int x0), M) x0 (fp_X2_pairsOf v0) 0 [(0, .int v0)] [] M
  unfold fp_X2_pairsOf
  refine zs_iconst (v := 0) dX2_pairsOf_0 ciconst_0 ?_
  refine zs_istore_n (loc' := [(0, .int v0), (1, .int 0)]) dX2_pairsOf_1 rfl (Nat.le_of_ble_eq_true rfl) [1, 0] rfl ?_
  refine zs_iconst (v := 1) dX2_pairsOf_2 ciconst_1 ?_
  refine zs_istore_n (loc' := [(0, .int v0), (1, .int 0), (2, .int 1)]) dX2_pairsOf_3 rfl (Nat.le_of_ble_eq_true rfl) [1, 2, 0] rfl ?_
  exact w_X2_pairsOf_L4 E hE d hd _ _ _ _ _ _
theorem dX2_turnedAt_0 : decode cX2_turnedAt 0 = .ok (.iload_n 1, 1) := by decide +kernel
theorem dX2_turnedAt_1 : decode cX2_turnedAt 1 = .ok (.iload_n 0, 1) := by decide +kernel
theorem dX2_turnedAt_2 : decode cX2_turnedAt 2 = .ok (.iload_n 1, 1) := by decide +kernel
theorem dX2_turnedAt_3 : decode cX2_turnedAt 3 = .ok (.iload_n 2, 1) := by decide +kernel
theorem dX2_turnedAt_4 : decode cX2_turnedAt 4 = .ok (.invokestatic 20, 3) := by decide +kernel
theorem dX2_turnedAt_7 : decode cX2_turnedAt 7 = .ok (.invokestatic 24, 3) := by decide +kernel
theorem dX2_turnedAt_10 : decode cX2_turnedAt 10 = .ok (.ixor, 1) := by decide +kernel
theorem dX2_turnedAt_11 : decode cX2_turnedAt 11 = .ok (.ireturn, 1) := by decide +kernel
def fp_X2_turnedAt (v0 : Int32) (v1 : Int32) (v2 : Int32) : Option (Int32) :=
  (fp_X2_nearTo v0 v1 v2).bind fun (y1 : Int32) =>
  (fp_X2_pairsOf y1).bind fun (y2 : Int32) =>
  some (v1 ^^^ y2)
set_option maxHeartbeats 4000000 in
set_option maxRecDepth 100000 in
theorem ct_X2_turnedAt (E : zEnv) (hE : zEok E) (d : Nat) (hd : 2 ≤ d) (v0 : Int32) (v1 : Int32) (v2 : Int32) (M : zM) (x0 : Int32) (hx : fp_X2_turnedAt v0 v1 v2 = some x0) : zCt E mu_X2_turnedAt d [.int v0, .int v1, .int v2] M (some (.int x0), M) := by
  refine zCt_of (μ := mu_X2_turnedAt) (t := fp_X2_turnedAt v0 v1 v2) rfl rfl (Nat.le_of_ble_eq_true rfl) hx ?_
  change zSy E mu_X2_turnedAt d M (some (.int x0), M) x0 (fp_X2_turnedAt v0 v1 v2) 0 [(0, .int v0), (1, .int v1), (2, .int v2)] [] M
  unfold fp_X2_turnedAt
  refine zs_iload_n dX2_turnedAt_0 rfl 1 rfl ?_
  refine zs_iload_n dX2_turnedAt_1 rfl 0 rfl ?_
  refine zs_iload_n dX2_turnedAt_2 rfl 1 rfl ?_
  refine zs_iload_n dX2_turnedAt_3 rfl 2 rfl ?_
  refine zs_invSPI (rest := [.int v1]) [.int v0, .int v1, .int v2] dX2_turnedAt_4 lk_X2_20 rfl (zd1 rfl hd) rfl (Nat.le_of_ble_eq_true rfl) (ct_X2_nearTo E hE _ (zdl rfl hd) _ _ _ _) (fun y1 => ?_)
  refine zs_invSPI (rest := [.int v1]) [.int y1] dX2_turnedAt_7 lk_X2_24 rfl (zd1 rfl hd) rfl (Nat.le_of_ble_eq_true rfl) (ct_X2_pairsOf E hE _ (zdl rfl hd) _ _) (fun y2 => ?_)
  refine zs_ixor dX2_turnedAt_10 ?_
  exact zs_iretP dX2_turnedAt_11 rfl
theorem dX2_swungOver_0 : decode cX2_swungOver 0 = .ok (.iload_n 2, 1) := by decide +kernel
theorem dX2_swungOver_1 : decode cX2_swungOver 1 = .ok (.iload_n 3, 1) := by decide +kernel
theorem dX2_swungOver_2 : decode cX2_swungOver 2 = .ok (.invokestatic 27, 3) := by decide +kernel
theorem dX2_swungOver_5 : decode cX2_swungOver 5 = .ok (.istore 4, 2) := by decide +kernel
theorem dX2_swungOver_7 : decode cX2_swungOver 7 = .ok (.iload_n 0, 1) := by decide +kernel
theorem dX2_swungOver_8 : decode cX2_swungOver 8 = .ok (.iload_n 1, 1) := by decide +kernel
theorem dX2_swungOver_9 : decode cX2_swungOver 9 = .ok (.iload 4, 2) := by decide +kernel
theorem dX2_swungOver_11 : decode cX2_swungOver 11 = .ok (.invokestatic 32, 3) := by decide +kernel
theorem dX2_swungOver_14 : decode cX2_swungOver 14 = .ok (.istore 5, 2) := by decide +kernel
theorem dX2_swungOver_16 : decode cX2_swungOver 16 = .ok (.iload_n 0, 1) := by decide +kernel
theorem dX2_swungOver_17 : decode cX2_swungOver 17 = .ok (.iload 5, 2) := by decide +kernel
theorem dX2_swungOver_19 : decode cX2_swungOver 19 = .ok (.iload_n 2, 1) := by decide +kernel
theorem dX2_swungOver_20 : decode cX2_swungOver 20 = .ok (.iload_n 3, 1) := by decide +kernel
theorem dX2_swungOver_21 : decode cX2_swungOver 21 = .ok (.invokestatic 35, 3) := by decide +kernel
theorem dX2_swungOver_24 : decode cX2_swungOver 24 = .ok (.invokestatic 32, 3) := by decide +kernel
theorem dX2_swungOver_27 : decode cX2_swungOver 27 = .ok (.istore 6, 2) := by decide +kernel
theorem dX2_swungOver_29 : decode cX2_swungOver 29 = .ok (.iload_n 0, 1) := by decide +kernel
theorem dX2_swungOver_30 : decode cX2_swungOver 30 = .ok (.iload 6, 2) := by decide +kernel
theorem dX2_swungOver_32 : decode cX2_swungOver 32 = .ok (.iload 4, 2) := by decide +kernel
theorem dX2_swungOver_34 : decode cX2_swungOver 34 = .ok (.invokestatic 32, 3) := by decide +kernel
theorem dX2_swungOver_37 : decode cX2_swungOver 37 = .ok (.ireturn, 1) := by decide +kernel
def fp_X2_swungOver (v0 : Int32) (v1 : Int32) (v2 : Int32) (v3 : Int32) : Option (Int32) :=
  lett ((kmin v2 v3)) fun (v4_1 : Int32) =>
  (fp_X2_turnedAt v0 v1 v4_1).bind fun (y2 : Int32) =>
  (fp_X2_turnedAt v0 y2 (kmax v2 v3)).bind fun (y3 : Int32) =>
  (fp_X2_turnedAt v0 y3 v4_1).bind fun (y4 : Int32) =>
  some y4
set_option maxHeartbeats 4000000 in
set_option maxRecDepth 100000 in
theorem ct_X2_swungOver (E : zEnv) (hE : zEok E) (d : Nat) (hd : 3 ≤ d) (v0 : Int32) (v1 : Int32) (v2 : Int32) (v3 : Int32) (M : zM) (x0 : Int32) (hx : fp_X2_swungOver v0 v1 v2 v3 = some x0) : zCt E mu_X2_swungOver d [.int v0, .int v1, .int v2, .int v3] M (some (.int x0), M) := by
  refine zCt_of (μ := mu_X2_swungOver) (t := fp_X2_swungOver v0 v1 v2 v3) rfl rfl (Nat.le_of_ble_eq_true rfl) hx ?_
  change zSy E mu_X2_swungOver d M (some (.int x0), M) x0 (fp_X2_swungOver v0 v1 v2 v3) 0 [(0, .int v0), (1, .int v1), (2, .int v2), (3, .int v3)] [] M
  unfold fp_X2_swungOver
  refine zs_iload_n dX2_swungOver_0 rfl 2 rfl ?_
  refine zs_iload_n dX2_swungOver_1 rfl 3 rfl ?_
  refine zs_min dX2_swungOver_2 (ti_2 179 rfl rfl) ms_min mi_Math mc_min (zd0 rfl hd) (Nat.le_of_ble_eq_true rfl) ?_
  refine zs_istoreL (loc' := fun v4_1 => [(0, .int v0), (1, .int v1), (2, .int v2), (3, .int v3), (4, .int v4_1)]) dX2_swungOver_5 (Nat.le_of_ble_eq_true rfl) [1, 2, 3, 4, 0] (fun _ => rfl) (fun v4_1 => ?_)
  refine zs_iload_n dX2_swungOver_7 rfl 0 rfl ?_
  refine zs_iload_n dX2_swungOver_8 rfl 1 rfl ?_
  refine zs_iload dX2_swungOver_9 4 rfl ?_
  refine zs_invSPI (rest := []) [.int v0, .int v1, .int v4_1] dX2_swungOver_11 lk_X2_32 rfl (zd1 rfl hd) rfl (Nat.le_of_ble_eq_true rfl) (ct_X2_turnedAt E hE _ (zdl rfl hd) _ _ _ _) (fun y2 => ?_)
  refine zs_istore (loc' := [(0, .int v0), (2, .int v2), (3, .int v3), (4, .int v4_1), (5, .int y2)]) dX2_swungOver_14 (Nat.le_of_ble_eq_true rfl) [1, 3, 4, 5, 0] rfl ?_
  refine zs_iload_n dX2_swungOver_16 rfl 0 rfl ?_
  refine zs_iload dX2_swungOver_17 4 rfl ?_
  refine zs_iload_n dX2_swungOver_19 rfl 1 rfl ?_
  refine zs_iload_n dX2_swungOver_20 rfl 2 rfl ?_
  refine zs_max dX2_swungOver_21 (ti_2 189 rfl rfl) ms_max mi_Math mc_max (zd0 rfl hd) (Nat.le_of_ble_eq_true rfl) ?_
  refine zs_invSPI (rest := []) [.int v0, .int y2, .int (kmax v2 v3)] dX2_swungOver_24 lk_X2_32 rfl (zd1 rfl hd) rfl (Nat.le_of_ble_eq_true rfl) (ct_X2_turnedAt E hE _ (zdl rfl hd) _ _ _ _) (fun y3 => ?_)
  refine zs_istore (loc' := [(0, .int v0), (4, .int v4_1), (6, .int y3)]) dX2_swungOver_27 (Nat.le_of_ble_eq_true rfl) [1, 4, 0] rfl ?_
  refine zs_iload_n dX2_swungOver_29 rfl 0 rfl ?_
  refine zs_iload dX2_swungOver_30 2 rfl ?_
  refine zs_iload dX2_swungOver_32 1 rfl ?_
  refine zs_invSPI (rest := []) [.int v0, .int y3, .int v4_1] dX2_swungOver_34 lk_X2_32 rfl (zd1 rfl hd) rfl (Nat.le_of_ble_eq_true rfl) (ct_X2_turnedAt E hE _ (zdl rfl hd) _ _ _ _) (fun y4 => ?_)
  exact zs_iretP dX2_swungOver_37 rfl
theorem dX2_exchange_0 : decode cX2_exchange 0 = .ok (.iload_n 0, 1) := by decide +kernel
theorem dX2_exchange_1 : decode cX2_exchange 1 = .ok (.iload_n 1, 1) := by decide +kernel
theorem dX2_exchange_2 : decode cX2_exchange 2 = .ok (.if_icmp .ne 5, 3) := by decide +kernel
theorem dX2_exchange_5 : decode cX2_exchange 5 = .ok (.iload_n 2, 1) := by decide +kernel
theorem dX2_exchange_6 : decode cX2_exchange 6 = .ok (.ireturn, 1) := by decide +kernel
theorem dX2_exchange_7 : decode cX2_exchange 7 = .ok (.iload_n 0, 1) := by decide +kernel
theorem dX2_exchange_8 : decode cX2_exchange 8 = .ok (.iload_n 2, 1) := by decide +kernel
theorem dX2_exchange_9 : decode cX2_exchange 9 = .ok (.if_icmp .ne 7, 3) := by decide +kernel
theorem dX2_exchange_12 : decode cX2_exchange 12 = .ok (.iload_n 1, 1) := by decide +kernel
theorem dX2_exchange_13 : decode cX2_exchange 13 = .ok (.goto 4, 3) := by decide +kernel
theorem dX2_exchange_16 : decode cX2_exchange 16 = .ok (.iload_n 0, 1) := by decide +kernel
theorem dX2_exchange_17 : decode cX2_exchange 17 = .ok (.ireturn, 1) := by decide +kernel
def fp_X2_exchange (v0 : Int32) (v1 : Int32) (v2 : Int32) : Option (Int32) :=
  if v0 ≠ v1 then (
    if v0 ≠ v2 then (
      some v0)
    else (
      some v1))
  else (
    some v2)
set_option maxHeartbeats 4000000 in
set_option maxRecDepth 100000 in
theorem ct_X2_exchange (E : zEnv) (hE : zEok E) (d : Nat) (hd : 1 ≤ d) (v0 : Int32) (v1 : Int32) (v2 : Int32) (M : zM) (x0 : Int32) (hx : fp_X2_exchange v0 v1 v2 = some x0) : zCt E mu_X2_exchange d [.int v0, .int v1, .int v2] M (some (.int x0), M) := by
  refine zCt_of (μ := mu_X2_exchange) (t := fp_X2_exchange v0 v1 v2) rfl rfl (Nat.le_of_ble_eq_true rfl) hx ?_
  change zSy E mu_X2_exchange d M (some (.int x0), M) x0 (fp_X2_exchange v0 v1 v2) 0 [(0, .int v0), (1, .int v1), (2, .int v2)] [] M
  unfold fp_X2_exchange
  refine zs_iload_n dX2_exchange_0 rfl 0 rfl ?_
  refine zs_iload_n dX2_exchange_1 rfl 1 rfl ?_
  refine zs_icmp_ne dX2_exchange_2 rfl ?_ ?_
  · refine zs_iload_n dX2_exchange_7 rfl 0 rfl ?_
    refine zs_iload_n dX2_exchange_8 rfl 2 rfl ?_
    refine zs_icmp_ne dX2_exchange_9 rfl ?_ ?_
    · refine zs_iload_n dX2_exchange_16 rfl 0 rfl ?_
      exact zs_iretP dX2_exchange_17 rfl
    refine zs_iload_n dX2_exchange_12 rfl 1 rfl ?_
    refine zs_goto dX2_exchange_13 rfl ?_
    exact zs_iretP dX2_exchange_17 rfl
  refine zs_iload_n dX2_exchange_5 rfl 2 rfl ?_
  exact zs_iretP dX2_exchange_6 rfl
theorem dX2_exchanged_0 : decode cX2_exchanged 0 = .ok (.iconst 0, 1) := by decide +kernel
theorem dX2_exchanged_1 : decode cX2_exchanged 1 = .ok (.istore 4, 2) := by decide +kernel
theorem dX2_exchanged_3 : decode cX2_exchanged 3 = .ok (.iconst 1, 1) := by decide +kernel
theorem dX2_exchanged_4 : decode cX2_exchanged 4 = .ok (.istore 5, 2) := by decide +kernel
theorem dX2_exchanged_6 : decode cX2_exchanged 6 = .ok (.iload 5, 2) := by decide +kernel
theorem dX2_exchanged_8 : decode cX2_exchanged 8 = .ok (.iload_n 0, 1) := by decide +kernel
theorem dX2_exchanged_9 : decode cX2_exchanged 9 = .ok (.if_icmp .ge 60, 3) := by decide +kernel
theorem dX2_exchanged_12 : decode cX2_exchanged 12 = .ok (.iconst 0, 1) := by decide +kernel
theorem dX2_exchanged_13 : decode cX2_exchanged 13 = .ok (.istore 6, 2) := by decide +kernel
theorem dX2_exchanged_15 : decode cX2_exchanged 15 = .ok (.iload 6, 2) := by decide +kernel
theorem dX2_exchanged_17 : decode cX2_exchanged 17 = .ok (.iload 5, 2) := by decide +kernel
theorem dX2_exchanged_19 : decode cX2_exchanged 19 = .ok (.if_icmp .ge 44, 3) := by decide +kernel
theorem dX2_exchanged_22 : decode cX2_exchanged 22 = .ok (.iload_n 1, 1) := by decide +kernel
theorem dX2_exchanged_23 : decode cX2_exchanged 23 = .ok (.iload 6, 2) := by decide +kernel
theorem dX2_exchanged_25 : decode cX2_exchanged 25 = .ok (.iload_n 2, 1) := by decide +kernel
theorem dX2_exchanged_26 : decode cX2_exchanged 26 = .ok (.iload_n 3, 1) := by decide +kernel
theorem dX2_exchanged_27 : decode cX2_exchanged 27 = .ok (.invokestatic 38, 3) := by decide +kernel
theorem dX2_exchanged_30 : decode cX2_exchanged 30 = .ok (.iload 5, 2) := by decide +kernel
theorem dX2_exchanged_32 : decode cX2_exchanged 32 = .ok (.iload_n 2, 1) := by decide +kernel
theorem dX2_exchanged_33 : decode cX2_exchanged 33 = .ok (.iload_n 3, 1) := by decide +kernel
theorem dX2_exchanged_34 : decode cX2_exchanged 34 = .ok (.invokestatic 38, 3) := by decide +kernel
theorem dX2_exchanged_37 : decode cX2_exchanged 37 = .ok (.invokestatic 41, 3) := by decide +kernel
theorem dX2_exchanged_40 : decode cX2_exchanged 40 = .ok (.ifCond .eq 17, 3) := by decide +kernel
theorem dX2_exchanged_43 : decode cX2_exchanged 43 = .ok (.iload 4, 2) := by decide +kernel
theorem dX2_exchanged_45 : decode cX2_exchanged 45 = .ok (.iconst 1, 1) := by decide +kernel
theorem dX2_exchanged_46 : decode cX2_exchanged 46 = .ok (.iload 6, 2) := by decide +kernel
theorem dX2_exchanged_48 : decode cX2_exchanged 48 = .ok (.iload 5, 2) := by decide +kernel
theorem dX2_exchanged_50 : decode cX2_exchanged 50 = .ok (.invokestatic 12, 3) := by decide +kernel
theorem dX2_exchanged_53 : decode cX2_exchanged 53 = .ok (.ishl, 1) := by decide +kernel
theorem dX2_exchanged_54 : decode cX2_exchanged 54 = .ok (.ior, 1) := by decide +kernel
theorem dX2_exchanged_55 : decode cX2_exchanged 55 = .ok (.istore 4, 2) := by decide +kernel
theorem dX2_exchanged_57 : decode cX2_exchanged 57 = .ok (.iinc 6 1, 3) := by decide +kernel
theorem dX2_exchanged_60 : decode cX2_exchanged 60 = .ok (.goto (-45), 3) := by decide +kernel
theorem dX2_exchanged_63 : decode cX2_exchanged 63 = .ok (.iinc 5 1, 3) := by decide +kernel
theorem dX2_exchanged_66 : decode cX2_exchanged 66 = .ok (.goto (-60), 3) := by decide +kernel
theorem dX2_exchanged_69 : decode cX2_exchanged 69 = .ok (.iload 4, 2) := by decide +kernel
theorem dX2_exchanged_71 : decode cX2_exchanged 71 = .ok (.ireturn, 1) := by decide +kernel
def fp_X2_exchanged_L15 (k63 : Int32 → Option (Int32)) (v0 : Int32) (v1 : Int32) (v2 : Int32) (v3 : Int32) (v5 : Int32) : Nat → Int32 → Int32 → Option (Int32)
  | 0, _, _ => none
  | n + 1, v4, v6 =>
    if v6 ≥ v5 then (
      k63 v4)
    else (
      (fp_X2_exchange v6 v2 v3).bind fun (y1 : Int32) =>
      (fp_X2_exchange v5 v2 v3).bind fun (y2 : Int32) =>
      (fp_X2_tied v1 y1 y2).bind fun (y3 : Int32) =>
      zjn (fun (v4_4 : Int32) =>
          fp_X2_exchanged_L15 k63 v0 v1 v2 v3 v5 n v4_4 (v6 + 1))
        (fun j57 =>
          if y3 = 0 then (
            j57 v4)
          else (
            (fp_X2_pair v6 v5).bind fun (y5 : Int32) =>
            lett ((v4 ||| (1 <<< (y5 &&& 31)))) fun (v4_6 : Int32) =>
            j57 v4_6)))
def fp_X2_exchanged_L6 (v0 : Int32) (v1 : Int32) (v2 : Int32) (v3 : Int32) : Nat → Int32 → Int32 → Option (Int32)
  | 0, _, _ => none
  | n + 1, v4, v5 =>
    if v5 ≥ v0 then (
      some v4)
    else (
      fp_X2_exchanged_L15
        (fun v4_7 =>
          fp_X2_exchanged_L6 v0 v1 v2 v3 n v4_7 (v5 + 1)) v0 v1 v2 v3 v5 FU v4 0)
def fp_X2_exchanged (v0 : Int32) (v1 : Int32) (v2 : Int32) (v3 : Int32) : Option (Int32) :=
  fp_X2_exchanged_L6 v0 v1 v2 v3 FU 0 1
set_option maxHeartbeats 4000000 in
set_option maxRecDepth 100000 in
theorem w_X2_exchanged_L15 (E : zEnv) (hE : zEok E) (d : Nat) (hd : 3 ≤ d) (x0 : Int32) (v0 : Int32) (v1 : Int32) (v2 : Int32) (v3 : Int32) (v5 : Int32) (M : zM) (k63 : Int32 → Option (Int32)) (hk63 : ∀ (v4 : Int32), zSy E mu_X2_exchanged d M (some (.int x0), M) x0 (k63 v4) 63 [(0, .int v0), (1, .int v1), (2, .int v2), (3, .int v3), (4, .int v4), (5, .int v5)] [] M) : ∀ (n : Nat) (v4 : Int32) (v6 : Int32), zSy E mu_X2_exchanged d M (some (.int x0), M) x0 (fp_X2_exchanged_L15 k63 v0 v1 v2 v3 v5 n v4 v6) 15 [(0, .int v0), (1, .int v1), (2, .int v2), (3, .int v3), (4, .int v4), (5, .int v5), (6, .int v6)] [] M := by
  intro n
  induction n with
  | zero =>
    intro v4 v6
    rw [fp_X2_exchanged_L15]
    exact zs_none
  | succ n ih =>
    intro v4 v6
    rw [fp_X2_exchanged_L15]
    refine zs_iload dX2_exchanged_15 6 rfl ?_
    refine zs_iload dX2_exchanged_17 5 rfl ?_
    refine zs_icmp_ge dX2_exchanged_19 rfl ?_ ?_
    · refine zs_sub (loc' := [(0, .int v0), (1, .int v1), (2, .int v2), (3, .int v3), (4, .int v4), (5, .int v5)]) [0, 1, 2, 3, 4, 5] rfl ?_
      exact hk63 v4
    refine zs_iload_n dX2_exchanged_22 rfl 1 rfl ?_
    refine zs_iload dX2_exchanged_23 6 rfl ?_
    refine zs_iload_n dX2_exchanged_25 rfl 2 rfl ?_
    refine zs_iload_n dX2_exchanged_26 rfl 3 rfl ?_
    refine zs_invSPI (rest := [.int v1]) [.int v6, .int v2, .int v3] dX2_exchanged_27 lk_X2_38 rfl (zd1 rfl hd) rfl (Nat.le_of_ble_eq_true rfl) (ct_X2_exchange E hE _ (zdl rfl hd) _ _ _ _) (fun y1 => ?_)
    refine zs_iload dX2_exchanged_30 5 rfl ?_
    refine zs_iload_n dX2_exchanged_32 rfl 2 rfl ?_
    refine zs_iload_n dX2_exchanged_33 rfl 3 rfl ?_
    refine zs_invSPI (rest := [.int y1, .int v1]) [.int v5, .int v2, .int v3] dX2_exchanged_34 lk_X2_38 rfl (zd1 rfl hd) rfl (Nat.le_of_ble_eq_true rfl) (ct_X2_exchange E hE _ (zdl rfl hd) _ _ _ _) (fun y2 => ?_)
    refine zs_invSPI (rest := []) [.int v1, .int y1, .int y2] dX2_exchanged_37 lk_X2_41 rfl (zd1 rfl hd) rfl (Nat.le_of_ble_eq_true rfl) (ct_X2_tied E hE _ (zdl rfl hd) _ _ _ _) (fun y3 => ?_)
    refine zs_jn (fun j57 => ∀ (v4_4 : Int32), zSy E mu_X2_exchanged d M (some (.int x0), M) x0 (j57 v4_4) 57 [(0, .int v0), (1, .int v1), (2, .int v2), (3, .int v3), (4, .int v4_4), (5, .int v5), (6, .int v6)] [] M) (fun v4_4 => ?_) (fun j57 hj57 => ?_)
    · refine zs_iinc (v := (v6 + 1)) (loc' := [(0, .int v0), (1, .int v1), (2, .int v2), (3, .int v3), (4, .int v4_4), (5, .int v5), (6, .int (v6 + 1))]) dX2_exchanged_57 6 rfl (by rfl) (Nat.le_of_ble_eq_true rfl) [1, 2, 3, 4, 5, 6, 0] rfl ?_
      refine zs_goto dX2_exchanged_60 rfl ?_
      exact ih v4_4 (v6 + 1)
    refine zs_if_eq dX2_exchanged_40 rfl ?_ ?_
    · exact hj57 v4
    refine zs_iload dX2_exchanged_43 4 rfl ?_
    refine zs_iconst (v := 1) dX2_exchanged_45 ciconst_1 ?_
    refine zs_iload dX2_exchanged_46 6 rfl ?_
    refine zs_iload dX2_exchanged_48 5 rfl ?_
    refine zs_invSPI (rest := [.int 1, .int v4]) [.int v6, .int v5] dX2_exchanged_50 lk_X2_12 rfl (zd1 rfl hd) rfl (Nat.le_of_ble_eq_true rfl) (ct_X2_pair E hE _ (zdl rfl hd) _ _ _) (fun y5 => ?_)
    refine zs_ishl dX2_exchanged_53 ?_
    refine zs_ior dX2_exchanged_54 ?_
    refine zs_istoreL (loc' := fun v4_6 => [(0, .int v0), (1, .int v1), (2, .int v2), (3, .int v3), (4, .int v4_6), (5, .int v5), (6, .int v6)]) dX2_exchanged_55 (Nat.le_of_ble_eq_true rfl) [1, 2, 3, 4, 0, 5, 6] (fun _ => rfl) (fun v4_6 => ?_)
    exact hj57 v4_6
set_option maxHeartbeats 4000000 in
set_option maxRecDepth 100000 in
theorem w_X2_exchanged_L6 (E : zEnv) (hE : zEok E) (d : Nat) (hd : 3 ≤ d) (x0 : Int32) (v0 : Int32) (v1 : Int32) (v2 : Int32) (v3 : Int32) (M : zM)  : ∀ (n : Nat) (v4 : Int32) (v5 : Int32), zSy E mu_X2_exchanged d M (some (.int x0), M) x0 (fp_X2_exchanged_L6 v0 v1 v2 v3 n v4 v5) 6 [(0, .int v0), (1, .int v1), (2, .int v2), (3, .int v3), (4, .int v4), (5, .int v5)] [] M := by
  intro n
  induction n with
  | zero =>
    intro v4 v5
    rw [fp_X2_exchanged_L6]
    exact zs_none
  | succ n ih =>
    intro v4 v5
    rw [fp_X2_exchanged_L6]
    refine zs_iload dX2_exchanged_6 5 rfl ?_
    refine zs_iload_n dX2_exchanged_8 rfl 0 rfl ?_
    refine zs_icmp_ge dX2_exchanged_9 rfl ?_ ?_
    · refine zs_iload dX2_exchanged_69 4 rfl ?_
      exact zs_iretP dX2_exchanged_71 rfl
    refine zs_iconst (v := 0) dX2_exchanged_12 ciconst_0 ?_
    refine zs_istore (loc' := [(0, .int v0), (1, .int v1), (2, .int v2), (3, .int v3), (4, .int v4), (5, .int v5), (6, .int 0)]) dX2_exchanged_13 (Nat.le_of_ble_eq_true rfl) [1, 2, 3, 4, 5, 6, 0] rfl ?_
    refine w_X2_exchanged_L15 E hE d hd _ _ _ _ _ _ _ _ (fun v4_7 => ?_) _ _ _
    refine zs_iinc (v := (v5 + 1)) (loc' := [(0, .int v0), (1, .int v1), (2, .int v2), (3, .int v3), (4, .int v4_7), (5, .int (v5 + 1))]) dX2_exchanged_63 5 rfl (by rfl) (Nat.le_of_ble_eq_true rfl) [1, 2, 3, 4, 5, 0] rfl ?_
    refine zs_goto dX2_exchanged_66 rfl ?_
    exact ih v4_7 (v5 + 1)
set_option maxHeartbeats 4000000 in
set_option maxRecDepth 100000 in
theorem ct_X2_exchanged (E : zEnv) (hE : zEok E) (d : Nat) (hd : 3 ≤ d) (v0 : Int32) (v1 : Int32) (v2 : Int32) (v3 : Int32) (M : zM) (x0 : Int32) (hx : fp_X2_exchanged v0 v1 v2 v3 = some x0) : zCt E mu_X2_exchanged d [.int v0, .int v1, .int v2, .int v3] M (some (.int x0), M) := by
  refine zCt_of (μ := mu_X2_exchanged) (t := fp_X2_exchanged v0 v1 v2 v3) rfl rfl (Nat.le_of_ble_eq_true rfl) hx ?_
  change zSy E mu_X2_exchanged d M (some (.int x0), M) x0 (fp_X2_exchanged v0 v1 v2 v3) 0 [(0, .int v0), (1, .int v1), (2, .int v2), (3, .int v3)] [] M
  unfold fp_X2_exchanged
  refine zs_iconst (v := 0) dX2_exchanged_0 ciconst_0 ?_
  refine zs_istore (loc' := [(0, .int v0), (1, .int v1), (2, .int v2), (3, .int v3), (4, .int 0)]) dX2_exchanged_1 (Nat.le_of_ble_eq_true rfl) [1, 2, 3, 4, 0] rfl ?_
  refine zs_iconst (v := 1) dX2_exchanged_3 ciconst_1 ?_
  refine zs_istore (loc' := [(0, .int v0), (1, .int v1), (2, .int v2), (3, .int v3), (4, .int 0), (5, .int 1)]) dX2_exchanged_4 (Nat.le_of_ble_eq_true rfl) [1, 2, 3, 4, 5, 0] rfl ?_
  exact w_X2_exchanged_L6 E hE d hd _ _ _ _ _ _ _ _ _
theorem dX2_part_0 : decode cX2_part 0 = .ok (.iconst 0, 1) := by decide +kernel
theorem dX2_part_1 : decode cX2_part 1 = .ok (.istore_n 3, 1) := by decide +kernel
theorem dX2_part_2 : decode cX2_part 2 = .ok (.iconst 0, 1) := by decide +kernel
theorem dX2_part_3 : decode cX2_part 3 = .ok (.istore 4, 2) := by decide +kernel
theorem dX2_part_5 : decode cX2_part 5 = .ok (.iconst 0, 1) := by decide +kernel
theorem dX2_part_6 : decode cX2_part 6 = .ok (.istore 5, 2) := by decide +kernel
theorem dX2_part_8 : decode cX2_part 8 = .ok (.iload 5, 2) := by decide +kernel
theorem dX2_part_10 : decode cX2_part 10 = .ok (.iload_n 0, 1) := by decide +kernel
theorem dX2_part_11 : decode cX2_part 11 = .ok (.if_icmp .ge 74, 3) := by decide +kernel
theorem dX2_part_14 : decode cX2_part 14 = .ok (.iload_n 2, 1) := by decide +kernel
theorem dX2_part_15 : decode cX2_part 15 = .ok (.iload 5, 2) := by decide +kernel
theorem dX2_part_17 : decode cX2_part 17 = .ok (.invokestatic 45, 3) := by decide +kernel
theorem dX2_part_20 : decode cX2_part 20 = .ok (.ifCond .eq 59, 3) := by decide +kernel
theorem dX2_part_23 : decode cX2_part 23 = .ok (.iconst 0, 1) := by decide +kernel
theorem dX2_part_24 : decode cX2_part 24 = .ok (.istore 6, 2) := by decide +kernel
theorem dX2_part_26 : decode cX2_part 26 = .ok (.iconst 0, 1) := by decide +kernel
theorem dX2_part_27 : decode cX2_part 27 = .ok (.istore 7, 2) := by decide +kernel
theorem dX2_part_29 : decode cX2_part 29 = .ok (.iload 7, 2) := by decide +kernel
theorem dX2_part_31 : decode cX2_part 31 = .ok (.iload 5, 2) := by decide +kernel
theorem dX2_part_33 : decode cX2_part 33 = .ok (.if_icmp .ge 43, 3) := by decide +kernel
theorem dX2_part_36 : decode cX2_part 36 = .ok (.iload_n 2, 1) := by decide +kernel
theorem dX2_part_37 : decode cX2_part 37 = .ok (.iload 7, 2) := by decide +kernel
theorem dX2_part_39 : decode cX2_part 39 = .ok (.invokestatic 45, 3) := by decide +kernel
theorem dX2_part_42 : decode cX2_part 42 = .ok (.ifCond .eq 28, 3) := by decide +kernel
theorem dX2_part_45 : decode cX2_part 45 = .ok (.iload_n 3, 1) := by decide +kernel
theorem dX2_part_46 : decode cX2_part 46 = .ok (.iload_n 1, 1) := by decide +kernel
theorem dX2_part_47 : decode cX2_part 47 = .ok (.iload 7, 2) := by decide +kernel
theorem dX2_part_49 : decode cX2_part 49 = .ok (.iload 5, 2) := by decide +kernel
theorem dX2_part_51 : decode cX2_part 51 = .ok (.invokestatic 12, 3) := by decide +kernel
theorem dX2_part_54 : decode cX2_part 54 = .ok (.ishr, 1) := by decide +kernel
theorem dX2_part_55 : decode cX2_part 55 = .ok (.iconst 1, 1) := by decide +kernel
theorem dX2_part_56 : decode cX2_part 56 = .ok (.iand, 1) := by decide +kernel
theorem dX2_part_57 : decode cX2_part 57 = .ok (.iload 6, 2) := by decide +kernel
theorem dX2_part_59 : decode cX2_part 59 = .ok (.iload 4, 2) := by decide +kernel
theorem dX2_part_61 : decode cX2_part 61 = .ok (.invokestatic 12, 3) := by decide +kernel
theorem dX2_part_64 : decode cX2_part 64 = .ok (.ishl, 1) := by decide +kernel
theorem dX2_part_65 : decode cX2_part 65 = .ok (.ior, 1) := by decide +kernel
theorem dX2_part_66 : decode cX2_part 66 = .ok (.istore_n 3, 1) := by decide +kernel
theorem dX2_part_67 : decode cX2_part 67 = .ok (.iinc 6 1, 3) := by decide +kernel
theorem dX2_part_70 : decode cX2_part 70 = .ok (.iinc 7 1, 3) := by decide +kernel
theorem dX2_part_73 : decode cX2_part 73 = .ok (.goto (-44), 3) := by decide +kernel
theorem dX2_part_76 : decode cX2_part 76 = .ok (.iinc 4 1, 3) := by decide +kernel
theorem dX2_part_79 : decode cX2_part 79 = .ok (.iinc 5 1, 3) := by decide +kernel
theorem dX2_part_82 : decode cX2_part 82 = .ok (.goto (-74), 3) := by decide +kernel
theorem dX2_part_85 : decode cX2_part 85 = .ok (.iload_n 3, 1) := by decide +kernel
theorem dX2_part_86 : decode cX2_part 86 = .ok (.ireturn, 1) := by decide +kernel
def fp_X2_part_L29 (k76 : Int32 → Option (Int32)) (v0 : Int32) (v1 : Int32) (v2 : Int32) (v4 : Int32) (v5 : Int32) : Nat → Int32 → Int32 → Int32 → Option (Int32)
  | 0, _, _, _ => none
  | n + 1, v3, v6, v7 =>
    if v7 ≥ v5 then (
      k76 v3)
    else (
      (fp_X2_isIn v2 v7).bind fun (y4 : Int32) =>
      zjn (fun (v3_5 : Int32) (v6_6 : Int32) =>
          fp_X2_part_L29 k76 v0 v1 v2 v4 v5 n v3_5 v6_6 (v7 + 1))
        (fun j70 =>
          if y4 = 0 then (
            j70 v3 v6)
          else (
            (fp_X2_pair v7 v5).bind fun (y7 : Int32) =>
            (fp_X2_pair v6 v4).bind fun (y8 : Int32) =>
            lett ((v3 ||| (((v1 >>> (y7 &&& 31)) &&& 1) <<< (y8 &&& 31)))) fun (v3_9 : Int32) =>
            j70 v3_9 (v6 + 1))))
def fp_X2_part_L8 (v0 : Int32) (v1 : Int32) (v2 : Int32) : Nat → Int32 → Int32 → Int32 → Option (Int32)
  | 0, _, _, _ => none
  | n + 1, v3, v4, v5 =>
    if v5 ≥ v0 then (
      some v3)
    else (
      (fp_X2_isIn v2 v5).bind fun (y1 : Int32) =>
      zjn (fun (v3_2 : Int32) (v4_3 : Int32) =>
          fp_X2_part_L8 v0 v1 v2 n v3_2 v4_3 (v5 + 1))
        (fun j79 =>
          if y1 = 0 then (
            j79 v3 v4)
          else (
            fp_X2_part_L29
              (fun v3_10 =>
                j79 v3_10 (v4 + 1)) v0 v1 v2 v4 v5 FU v3 0 0)))
def fp_X2_part (v0 : Int32) (v1 : Int32) (v2 : Int32) : Option (Int32) :=
  fp_X2_part_L8 v0 v1 v2 FU 0 0 0
set_option maxHeartbeats 4000000 in
set_option maxRecDepth 100000 in
theorem w_X2_part_L29 (E : zEnv) (hE : zEok E) (d : Nat) (hd : 2 ≤ d) (x0 : Int32) (v0 : Int32) (v1 : Int32) (v2 : Int32) (v4 : Int32) (v5 : Int32) (M : zM) (k76 : Int32 → Option (Int32)) (hk76 : ∀ (v3 : Int32), zSy E mu_X2_part d M (some (.int x0), M) x0 (k76 v3) 76 [(0, .int v0), (1, .int v1), (2, .int v2), (3, .int v3), (4, .int v4), (5, .int v5)] [] M) : ∀ (n : Nat) (v3 : Int32) (v6 : Int32) (v7 : Int32), zSy E mu_X2_part d M (some (.int x0), M) x0 (fp_X2_part_L29 k76 v0 v1 v2 v4 v5 n v3 v6 v7) 29 [(0, .int v0), (1, .int v1), (2, .int v2), (3, .int v3), (4, .int v4), (5, .int v5), (6, .int v6), (7, .int v7)] [] M := by
  intro n
  induction n with
  | zero =>
    intro v3 v6 v7
    rw [fp_X2_part_L29]
    exact zs_none
  | succ n ih =>
    intro v3 v6 v7
    rw [fp_X2_part_L29]
    refine zs_iload dX2_part_29 7 rfl ?_
    refine zs_iload dX2_part_31 5 rfl ?_
    refine zs_icmp_ge dX2_part_33 rfl ?_ ?_
    · refine zs_sub (loc' := [(0, .int v0), (1, .int v1), (2, .int v2), (3, .int v3), (4, .int v4), (5, .int v5)]) [0, 1, 2, 3, 4, 5] rfl ?_
      exact hk76 v3
    refine zs_iload_n dX2_part_36 rfl 2 rfl ?_
    refine zs_iload dX2_part_37 7 rfl ?_
    refine zs_invSPI (rest := []) [.int v2, .int v7] dX2_part_39 lk_X2_45 rfl (zd1 rfl hd) rfl (Nat.le_of_ble_eq_true rfl) (ct_X2_isIn E hE _ (zdl rfl hd) _ _ _) (fun y4 => ?_)
    refine zs_jn (fun j70 => ∀ (v3_5 : Int32) (v6_6 : Int32), zSy E mu_X2_part d M (some (.int x0), M) x0 (j70 v3_5 v6_6) 70 [(0, .int v0), (1, .int v1), (2, .int v2), (3, .int v3_5), (4, .int v4), (5, .int v5), (6, .int v6_6), (7, .int v7)] [] M) (fun v3_5 v6_6 => ?_) (fun j70 hj70 => ?_)
    · refine zs_iinc (v := (v7 + 1)) (loc' := [(0, .int v0), (1, .int v1), (2, .int v2), (3, .int v3_5), (4, .int v4), (5, .int v5), (6, .int v6_6), (7, .int (v7 + 1))]) dX2_part_70 7 rfl (by rfl) (Nat.le_of_ble_eq_true rfl) [1, 2, 3, 4, 5, 6, 7, 0] rfl ?_
      refine zs_goto dX2_part_73 rfl ?_
      exact ih v3_5 v6_6 (v7 + 1)
    refine zs_if_eq dX2_part_42 rfl ?_ ?_
    · exact hj70 v3 v6
    refine zs_iload_n dX2_part_45 rfl 3 rfl ?_
    refine zs_iload_n dX2_part_46 rfl 1 rfl ?_
    refine zs_iload dX2_part_47 7 rfl ?_
    refine zs_iload dX2_part_49 5 rfl ?_
    refine zs_invSPI (rest := [.int v1, .int v3]) [.int v7, .int v5] dX2_part_51 lk_X2_12 rfl (zd1 rfl hd) rfl (Nat.le_of_ble_eq_true rfl) (ct_X2_pair E hE _ (zdl rfl hd) _ _ _) (fun y7 => ?_)
    refine zs_ishr dX2_part_54 ?_
    refine zs_iconst (v := 1) dX2_part_55 ciconst_1 ?_
    refine zs_iand dX2_part_56 ?_
    refine zs_iload dX2_part_57 6 rfl ?_
    refine zs_iload dX2_part_59 4 rfl ?_
    refine zs_invSPI (rest := [.int ((v1 >>> (y7 &&& 31)) &&& 1), .int v3]) [.int v6, .int v4] dX2_part_61 lk_X2_12 rfl (zd1 rfl hd) rfl (Nat.le_of_ble_eq_true rfl) (ct_X2_pair E hE _ (zdl rfl hd) _ _ _) (fun y8 => ?_)
    refine zs_ishl dX2_part_64 ?_
    refine zs_ior dX2_part_65 ?_
    refine zs_istore_nL (loc' := fun v3_9 => [(0, .int v0), (1, .int v1), (2, .int v2), (3, .int v3_9), (4, .int v4), (5, .int v5), (6, .int v6), (7, .int v7)]) dX2_part_66 rfl (Nat.le_of_ble_eq_true rfl) [1, 2, 3, 0, 4, 5, 6, 7] (fun _ => rfl) (fun v3_9 => ?_)
    refine zs_iinc (v := (v6 + 1)) (loc' := [(0, .int v0), (1, .int v1), (2, .int v2), (3, .int v3_9), (4, .int v4), (5, .int v5), (6, .int (v6 + 1)), (7, .int v7)]) dX2_part_67 6 rfl (by rfl) (Nat.le_of_ble_eq_true rfl) [1, 2, 3, 4, 5, 6, 0, 7] rfl ?_
    exact hj70 v3_9 (v6 + 1)
set_option maxHeartbeats 4000000 in
set_option maxRecDepth 100000 in
theorem w_X2_part_L8 (E : zEnv) (hE : zEok E) (d : Nat) (hd : 2 ≤ d) (x0 : Int32) (v0 : Int32) (v1 : Int32) (v2 : Int32) (M : zM)  : ∀ (n : Nat) (v3 : Int32) (v4 : Int32) (v5 : Int32), zSy E mu_X2_part d M (some (.int x0), M) x0 (fp_X2_part_L8 v0 v1 v2 n v3 v4 v5) 8 [(0, .int v0), (1, .int v1), (2, .int v2), (3, .int v3), (4, .int v4), (5, .int v5)] [] M := by
  intro n
  induction n with
  | zero =>
    intro v3 v4 v5
    rw [fp_X2_part_L8]
    exact zs_none
  | succ n ih =>
    intro v3 v4 v5
    rw [fp_X2_part_L8]
    refine zs_iload dX2_part_8 5 rfl ?_
    refine zs_iload_n dX2_part_10 rfl 0 rfl ?_
    refine zs_icmp_ge dX2_part_11 rfl ?_ ?_
    · refine zs_iload_n dX2_part_85 rfl 3 rfl ?_
      exact zs_iretP dX2_part_86 rfl
    refine zs_iload_n dX2_part_14 rfl 2 rfl ?_
    refine zs_iload dX2_part_15 5 rfl ?_
    refine zs_invSPI (rest := []) [.int v2, .int v5] dX2_part_17 lk_X2_45 rfl (zd1 rfl hd) rfl (Nat.le_of_ble_eq_true rfl) (ct_X2_isIn E hE _ (zdl rfl hd) _ _ _) (fun y1 => ?_)
    refine zs_jn (fun j79 => ∀ (v3_2 : Int32) (v4_3 : Int32), zSy E mu_X2_part d M (some (.int x0), M) x0 (j79 v3_2 v4_3) 79 [(0, .int v0), (1, .int v1), (2, .int v2), (3, .int v3_2), (4, .int v4_3), (5, .int v5)] [] M) (fun v3_2 v4_3 => ?_) (fun j79 hj79 => ?_)
    · refine zs_iinc (v := (v5 + 1)) (loc' := [(0, .int v0), (1, .int v1), (2, .int v2), (3, .int v3_2), (4, .int v4_3), (5, .int (v5 + 1))]) dX2_part_79 5 rfl (by rfl) (Nat.le_of_ble_eq_true rfl) [1, 2, 3, 4, 5, 0] rfl ?_
      refine zs_goto dX2_part_82 rfl ?_
      exact ih v3_2 v4_3 (v5 + 1)
    refine zs_if_eq dX2_part_20 rfl ?_ ?_
    · exact hj79 v3 v4
    refine zs_iconst (v := 0) dX2_part_23 ciconst_0 ?_
    refine zs_istore (loc' := [(0, .int v0), (1, .int v1), (2, .int v2), (3, .int v3), (4, .int v4), (5, .int v5), (6, .int 0)]) dX2_part_24 (Nat.le_of_ble_eq_true rfl) [1, 2, 3, 4, 5, 6, 0] rfl ?_
    refine zs_iconst (v := 0) dX2_part_26 ciconst_0 ?_
    refine zs_istore (loc' := [(0, .int v0), (1, .int v1), (2, .int v2), (3, .int v3), (4, .int v4), (5, .int v5), (6, .int 0), (7, .int 0)]) dX2_part_27 (Nat.le_of_ble_eq_true rfl) [1, 2, 3, 4, 5, 6, 7, 0] rfl ?_
    refine w_X2_part_L29 E hE d hd _ _ _ _ _ _ _ _ (fun v3_10 => ?_) _ _ _ _
    refine zs_iinc (v := (v4 + 1)) (loc' := [(0, .int v0), (1, .int v1), (2, .int v2), (3, .int v3_10), (4, .int (v4 + 1)), (5, .int v5)]) dX2_part_76 4 rfl (by rfl) (Nat.le_of_ble_eq_true rfl) [1, 2, 3, 4, 0, 5] rfl ?_
    exact hj79 v3_10 (v4 + 1)
set_option maxHeartbeats 4000000 in
set_option maxRecDepth 100000 in
theorem ct_X2_part (E : zEnv) (hE : zEok E) (d : Nat) (hd : 2 ≤ d) (v0 : Int32) (v1 : Int32) (v2 : Int32) (M : zM) (x0 : Int32) (hx : fp_X2_part v0 v1 v2 = some x0) : zCt E mu_X2_part d [.int v0, .int v1, .int v2] M (some (.int x0), M) := by
  refine zCt_of (μ := mu_X2_part) (t := fp_X2_part v0 v1 v2) rfl rfl (Nat.le_of_ble_eq_true rfl) hx ?_
  change zSy E mu_X2_part d M (some (.int x0), M) x0 (fp_X2_part v0 v1 v2) 0 [(0, .int v0), (1, .int v1), (2, .int v2)] [] M
  unfold fp_X2_part
  refine zs_iconst (v := 0) dX2_part_0 ciconst_0 ?_
  refine zs_istore_n (loc' := [(0, .int v0), (1, .int v1), (2, .int v2), (3, .int 0)]) dX2_part_1 rfl (Nat.le_of_ble_eq_true rfl) [1, 2, 3, 0] rfl ?_
  refine zs_iconst (v := 0) dX2_part_2 ciconst_0 ?_
  refine zs_istore (loc' := [(0, .int v0), (1, .int v1), (2, .int v2), (3, .int 0), (4, .int 0)]) dX2_part_3 (Nat.le_of_ble_eq_true rfl) [1, 2, 3, 4, 0] rfl ?_
  refine zs_iconst (v := 0) dX2_part_5 ciconst_0 ?_
  refine zs_istore (loc' := [(0, .int v0), (1, .int v1), (2, .int v2), (3, .int 0), (4, .int 0), (5, .int 0)]) dX2_part_6 (Nat.le_of_ble_eq_true rfl) [1, 2, 3, 4, 5, 0] rfl ?_
  exact w_X2_part_L8 E hE d hd _ _ _ _ _ _ _ _ _
theorem dX2_joinedSets_0 : decode cX2_joinedSets 0 = .ok (.iconst 0, 1) := by decide +kernel
theorem dX2_joinedSets_1 : decode cX2_joinedSets 1 = .ok (.istore_n 2, 1) := by decide +kernel
theorem dX2_joinedSets_2 : decode cX2_joinedSets 2 = .ok (.iconst 0, 1) := by decide +kernel
theorem dX2_joinedSets_3 : decode cX2_joinedSets 3 = .ok (.istore_n 3, 1) := by decide +kernel
theorem dX2_joinedSets_4 : decode cX2_joinedSets 4 = .ok (.iload_n 3, 1) := by decide +kernel
theorem dX2_joinedSets_5 : decode cX2_joinedSets 5 = .ok (.iload_n 0, 1) := by decide +kernel
theorem dX2_joinedSets_6 : decode cX2_joinedSets 6 = .ok (.if_icmp .ge 25, 3) := by decide +kernel
theorem dX2_joinedSets_9 : decode cX2_joinedSets 9 = .ok (.iload_n 0, 1) := by decide +kernel
theorem dX2_joinedSets_10 : decode cX2_joinedSets 10 = .ok (.iload_n 1, 1) := by decide +kernel
theorem dX2_joinedSets_11 : decode cX2_joinedSets 11 = .ok (.iload_n 3, 1) := by decide +kernel
theorem dX2_joinedSets_12 : decode cX2_joinedSets 12 = .ok (.invokestatic 49, 3) := by decide +kernel
theorem dX2_joinedSets_15 : decode cX2_joinedSets 15 = .ok (.iload_n 3, 1) := by decide +kernel
theorem dX2_joinedSets_16 : decode cX2_joinedSets 16 = .ok (.invokestatic 52, 3) := by decide +kernel
theorem dX2_joinedSets_19 : decode cX2_joinedSets 19 = .ok (.ifCond .eq 6, 3) := by decide +kernel
theorem dX2_joinedSets_22 : decode cX2_joinedSets 22 = .ok (.iinc 2 1, 3) := by decide +kernel
theorem dX2_joinedSets_25 : decode cX2_joinedSets 25 = .ok (.iinc 3 1, 3) := by decide +kernel
theorem dX2_joinedSets_28 : decode cX2_joinedSets 28 = .ok (.goto (-24), 3) := by decide +kernel
theorem dX2_joinedSets_31 : decode cX2_joinedSets 31 = .ok (.iload_n 2, 1) := by decide +kernel
theorem dX2_joinedSets_32 : decode cX2_joinedSets 32 = .ok (.ireturn, 1) := by decide +kernel
def fp_X2_joinedSets_L4 (v0 : Int32) (v1 : Int32) : Nat → Int32 → Int32 → Option (Int32)
  | 0, _, _ => none
  | n + 1, v2, v3 =>
    if v3 ≥ v0 then (
      some v2)
    else (
      (fp_X2_joinedTo v0 v1 v3).bind fun (y1 : Int32) =>
      (fp_X2_isLeastOf y1 v3).bind fun (y2 : Int32) =>
      zjn (fun (v2_3 : Int32) =>
          fp_X2_joinedSets_L4 v0 v1 n v2_3 (v3 + 1))
        (fun j25 =>
          if y2 = 0 then (
            j25 v2)
          else (
            j25 (v2 + 1))))
def fp_X2_joinedSets (v0 : Int32) (v1 : Int32) : Option (Int32) :=
  fp_X2_joinedSets_L4 v0 v1 FU 0 0
set_option maxHeartbeats 4000000 in
set_option maxRecDepth 100000 in
theorem w_X2_joinedSets_L4 (E : zEnv) (hE : zEok E) (d : Nat) (hd : 3 ≤ d) (x0 : Int32) (v0 : Int32) (v1 : Int32) (M : zM)  : ∀ (n : Nat) (v2 : Int32) (v3 : Int32), zSy E mu_X2_joinedSets d M (some (.int x0), M) x0 (fp_X2_joinedSets_L4 v0 v1 n v2 v3) 4 [(0, .int v0), (1, .int v1), (2, .int v2), (3, .int v3)] [] M := by
  intro n
  induction n with
  | zero =>
    intro v2 v3
    rw [fp_X2_joinedSets_L4]
    exact zs_none
  | succ n ih =>
    intro v2 v3
    rw [fp_X2_joinedSets_L4]
    refine zs_iload_n dX2_joinedSets_4 rfl 3 rfl ?_
    refine zs_iload_n dX2_joinedSets_5 rfl 0 rfl ?_
    refine zs_icmp_ge dX2_joinedSets_6 rfl ?_ ?_
    · refine zs_iload_n dX2_joinedSets_31 rfl 2 rfl ?_
      exact zs_iretP dX2_joinedSets_32 rfl
    refine zs_iload_n dX2_joinedSets_9 rfl 0 rfl ?_
    refine zs_iload_n dX2_joinedSets_10 rfl 1 rfl ?_
    refine zs_iload_n dX2_joinedSets_11 rfl 3 rfl ?_
    refine zs_invSPI (rest := []) [.int v0, .int v1, .int v3] dX2_joinedSets_12 lk_X2_49 rfl (zd1 rfl hd) rfl (Nat.le_of_ble_eq_true rfl) (ct_X2_joinedTo E hE _ (zdl rfl hd) _ _ _ _) (fun y1 => ?_)
    refine zs_iload_n dX2_joinedSets_15 rfl 3 rfl ?_
    refine zs_invSPI (rest := []) [.int y1, .int v3] dX2_joinedSets_16 lk_X2_52 rfl (zd1 rfl hd) rfl (Nat.le_of_ble_eq_true rfl) (ct_X2_isLeastOf E hE _ (zdl rfl hd) _ _ _) (fun y2 => ?_)
    refine zs_jn (fun j25 => ∀ (v2_3 : Int32), zSy E mu_X2_joinedSets d M (some (.int x0), M) x0 (j25 v2_3) 25 [(0, .int v0), (1, .int v1), (2, .int v2_3), (3, .int v3)] [] M) (fun v2_3 => ?_) (fun j25 hj25 => ?_)
    · refine zs_iinc (v := (v3 + 1)) (loc' := [(0, .int v0), (1, .int v1), (2, .int v2_3), (3, .int (v3 + 1))]) dX2_joinedSets_25 3 rfl (by rfl) (Nat.le_of_ble_eq_true rfl) [1, 2, 3, 0] rfl ?_
      refine zs_goto dX2_joinedSets_28 rfl ?_
      exact ih v2_3 (v3 + 1)
    refine zs_if_eq dX2_joinedSets_19 rfl ?_ ?_
    · exact hj25 v2
    refine zs_iinc (v := (v2 + 1)) (loc' := [(0, .int v0), (1, .int v1), (2, .int (v2 + 1)), (3, .int v3)]) dX2_joinedSets_22 2 rfl (by rfl) (Nat.le_of_ble_eq_true rfl) [1, 2, 0, 3] rfl ?_
    exact hj25 (v2 + 1)
set_option maxHeartbeats 4000000 in
set_option maxRecDepth 100000 in
theorem ct_X2_joinedSets (E : zEnv) (hE : zEok E) (d : Nat) (hd : 3 ≤ d) (v0 : Int32) (v1 : Int32) (M : zM) (x0 : Int32) (hx : fp_X2_joinedSets v0 v1 = some x0) : zCt E mu_X2_joinedSets d [.int v0, .int v1] M (some (.int x0), M) := by
  refine zCt_of (μ := mu_X2_joinedSets) (t := fp_X2_joinedSets v0 v1) rfl rfl (Nat.le_of_ble_eq_true rfl) hx ?_
  change zSy E mu_X2_joinedSets d M (some (.int x0), M) x0 (fp_X2_joinedSets v0 v1) 0 [(0, .int v0), (1, .int v1)] [] M
  unfold fp_X2_joinedSets
  refine zs_iconst (v := 0) dX2_joinedSets_0 ciconst_0 ?_
  refine zs_istore_n (loc' := [(0, .int v0), (1, .int v1), (2, .int 0)]) dX2_joinedSets_1 rfl (Nat.le_of_ble_eq_true rfl) [1, 2, 0] rfl ?_
  refine zs_iconst (v := 0) dX2_joinedSets_2 ciconst_0 ?_
  refine zs_istore_n (loc' := [(0, .int v0), (1, .int v1), (2, .int 0), (3, .int 0)]) dX2_joinedSets_3 rfl (Nat.le_of_ble_eq_true rfl) [1, 2, 3, 0] rfl ?_
  exact w_X2_joinedSets_L4 E hE d hd _ _ _ _ _ _ _
theorem dX2_likeCouples_0 : decode cX2_likeCouples 0 = .ok (.iconst 0, 1) := by decide +kernel
theorem dX2_likeCouples_1 : decode cX2_likeCouples 1 = .ok (.istore_n 3, 1) := by decide +kernel
theorem dX2_likeCouples_2 : decode cX2_likeCouples 2 = .ok (.iconst 0, 1) := by decide +kernel
theorem dX2_likeCouples_3 : decode cX2_likeCouples 3 = .ok (.istore 4, 2) := by decide +kernel
theorem dX2_likeCouples_5 : decode cX2_likeCouples 5 = .ok (.iload 4, 2) := by decide +kernel
theorem dX2_likeCouples_7 : decode cX2_likeCouples 7 = .ok (.iload_n 0, 1) := by decide +kernel
theorem dX2_likeCouples_8 : decode cX2_likeCouples 8 = .ok (.if_icmp .ge 88, 3) := by decide +kernel
theorem dX2_likeCouples_11 : decode cX2_likeCouples 11 = .ok (.iload 4, 2) := by decide +kernel
theorem dX2_likeCouples_13 : decode cX2_likeCouples 13 = .ok (.iconst 1, 1) := by decide +kernel
theorem dX2_likeCouples_14 : decode cX2_likeCouples 14 = .ok (.iadd, 1) := by decide +kernel
theorem dX2_likeCouples_15 : decode cX2_likeCouples 15 = .ok (.istore 5, 2) := by decide +kernel
theorem dX2_likeCouples_17 : decode cX2_likeCouples 17 = .ok (.iload 5, 2) := by decide +kernel
theorem dX2_likeCouples_19 : decode cX2_likeCouples 19 = .ok (.iload_n 0, 1) := by decide +kernel
theorem dX2_likeCouples_20 : decode cX2_likeCouples 20 = .ok (.if_icmp .ge 70, 3) := by decide +kernel
theorem dX2_likeCouples_23 : decode cX2_likeCouples 23 = .ok (.iconst 1, 1) := by decide +kernel
theorem dX2_likeCouples_24 : decode cX2_likeCouples 24 = .ok (.iload 4, 2) := by decide +kernel
theorem dX2_likeCouples_26 : decode cX2_likeCouples 26 = .ok (.ishl, 1) := by decide +kernel
theorem dX2_likeCouples_27 : decode cX2_likeCouples 27 = .ok (.iconst 1, 1) := by decide +kernel
theorem dX2_likeCouples_28 : decode cX2_likeCouples 28 = .ok (.iload 5, 2) := by decide +kernel
theorem dX2_likeCouples_30 : decode cX2_likeCouples 30 = .ok (.ishl, 1) := by decide +kernel
theorem dX2_likeCouples_31 : decode cX2_likeCouples 31 = .ok (.ior, 1) := by decide +kernel
theorem dX2_likeCouples_32 : decode cX2_likeCouples 32 = .ok (.istore 6, 2) := by decide +kernel
theorem dX2_likeCouples_34 : decode cX2_likeCouples 34 = .ok (.iload_n 0, 1) := by decide +kernel
theorem dX2_likeCouples_35 : decode cX2_likeCouples 35 = .ok (.iload_n 1, 1) := by decide +kernel
theorem dX2_likeCouples_36 : decode cX2_likeCouples 36 = .ok (.iload 4, 2) := by decide +kernel
theorem dX2_likeCouples_38 : decode cX2_likeCouples 38 = .ok (.invokestatic 20, 3) := by decide +kernel
theorem dX2_likeCouples_41 : decode cX2_likeCouples 41 = .ok (.iload 6, 2) := by decide +kernel
theorem dX2_likeCouples_43 : decode cX2_likeCouples 43 = .ok (.ior, 1) := by decide +kernel
theorem dX2_likeCouples_44 : decode cX2_likeCouples 44 = .ok (.iload_n 0, 1) := by decide +kernel
theorem dX2_likeCouples_45 : decode cX2_likeCouples 45 = .ok (.iload_n 1, 1) := by decide +kernel
theorem dX2_likeCouples_46 : decode cX2_likeCouples 46 = .ok (.iload 5, 2) := by decide +kernel
theorem dX2_likeCouples_48 : decode cX2_likeCouples 48 = .ok (.invokestatic 20, 3) := by decide +kernel
theorem dX2_likeCouples_51 : decode cX2_likeCouples 51 = .ok (.iload 6, 2) := by decide +kernel
theorem dX2_likeCouples_53 : decode cX2_likeCouples 53 = .ok (.ior, 1) := by decide +kernel
theorem dX2_likeCouples_54 : decode cX2_likeCouples 54 = .ok (.if_icmp .ne 7, 3) := by decide +kernel
theorem dX2_likeCouples_57 : decode cX2_likeCouples 57 = .ok (.iconst 1, 1) := by decide +kernel
theorem dX2_likeCouples_58 : decode cX2_likeCouples 58 = .ok (.goto 4, 3) := by decide +kernel
theorem dX2_likeCouples_61 : decode cX2_likeCouples 61 = .ok (.iconst 0, 1) := by decide +kernel
theorem dX2_likeCouples_62 : decode cX2_likeCouples 62 = .ok (.istore 7, 2) := by decide +kernel
theorem dX2_likeCouples_64 : decode cX2_likeCouples 64 = .ok (.iload 7, 2) := by decide +kernel
theorem dX2_likeCouples_66 : decode cX2_likeCouples 66 = .ok (.ifCond .eq 18, 3) := by decide +kernel
theorem dX2_likeCouples_69 : decode cX2_likeCouples 69 = .ok (.iload_n 1, 1) := by decide +kernel
theorem dX2_likeCouples_70 : decode cX2_likeCouples 70 = .ok (.iload 4, 2) := by decide +kernel
theorem dX2_likeCouples_72 : decode cX2_likeCouples 72 = .ok (.iload 5, 2) := by decide +kernel
theorem dX2_likeCouples_74 : decode cX2_likeCouples 74 = .ok (.invokestatic 41, 3) := by decide +kernel
theorem dX2_likeCouples_77 : decode cX2_likeCouples 77 = .ok (.iload_n 2, 1) := by decide +kernel
theorem dX2_likeCouples_78 : decode cX2_likeCouples 78 = .ok (.if_icmp .ne 6, 3) := by decide +kernel
theorem dX2_likeCouples_81 : decode cX2_likeCouples 81 = .ok (.iinc 3 1, 3) := by decide +kernel
theorem dX2_likeCouples_84 : decode cX2_likeCouples 84 = .ok (.iinc 5 1, 3) := by decide +kernel
theorem dX2_likeCouples_87 : decode cX2_likeCouples 87 = .ok (.goto (-70), 3) := by decide +kernel
theorem dX2_likeCouples_90 : decode cX2_likeCouples 90 = .ok (.iinc 4 1, 3) := by decide +kernel
theorem dX2_likeCouples_93 : decode cX2_likeCouples 93 = .ok (.goto (-88), 3) := by decide +kernel
theorem dX2_likeCouples_96 : decode cX2_likeCouples 96 = .ok (.iload_n 3, 1) := by decide +kernel
theorem dX2_likeCouples_97 : decode cX2_likeCouples 97 = .ok (.ireturn, 1) := by decide +kernel
def fp_X2_likeCouples_L17 (k90 : Int32 → Option (Int32)) (v0 : Int32) (v1 : Int32) (v2 : Int32) (v4 : Int32) : Nat → Int32 → Int32 → Option (Int32)
  | 0, _, _ => none
  | n + 1, v3, v5 =>
    if v5 ≥ v0 then (
      k90 v3)
    else (
      lett (((1 <<< (v4 &&& 31)) ||| (1 <<< (v5 &&& 31)))) fun (v6_2 : Int32) =>
      (fp_X2_nearTo v0 v1 v4).bind fun (y3 : Int32) =>
      (fp_X2_nearTo v0 v1 v5).bind fun (y4 : Int32) =>
      zjn (fun (s5 : Int32) =>
          zjn (fun (v3_6 : Int32) =>
              fp_X2_likeCouples_L17 k90 v0 v1 v2 v4 n v3_6 (v5 + 1))
            (fun j84 =>
              if s5 = 0 then (
                j84 v3)
              else (
                (fp_X2_tied v1 v4 v5).bind fun (y7 : Int32) =>
                if y7 ≠ v2 then (
                  j84 v3)
                else (
                  j84 (v3 + 1)))))
        (fun j62 =>
          if (y3 ||| v6_2) ≠ (y4 ||| v6_2) then (
            j62 0)
          else (
            j62 1)))
def fp_X2_likeCouples_L5 (v0 : Int32) (v1 : Int32) (v2 : Int32) : Nat → Int32 → Int32 → Option (Int32)
  | 0, _, _ => none
  | n + 1, v3, v4 =>
    if v4 ≥ v0 then (
      some v3)
    else (
      lett ((v4 + 1)) fun (v5_1 : Int32) =>
      fp_X2_likeCouples_L17
        (fun v3_8 =>
          fp_X2_likeCouples_L5 v0 v1 v2 n v3_8 (v4 + 1)) v0 v1 v2 v4 FU v3 v5_1)
def fp_X2_likeCouples (v0 : Int32) (v1 : Int32) (v2 : Int32) : Option (Int32) :=
  fp_X2_likeCouples_L5 v0 v1 v2 FU 0 0
set_option maxHeartbeats 4000000 in
set_option maxRecDepth 100000 in
theorem w_X2_likeCouples_L17 (E : zEnv) (hE : zEok E) (d : Nat) (hd : 3 ≤ d) (x0 : Int32) (v0 : Int32) (v1 : Int32) (v2 : Int32) (v4 : Int32) (M : zM) (k90 : Int32 → Option (Int32)) (hk90 : ∀ (v3 : Int32), zSy E mu_X2_likeCouples d M (some (.int x0), M) x0 (k90 v3) 90 [(0, .int v0), (1, .int v1), (2, .int v2), (3, .int v3), (4, .int v4)] [] M) : ∀ (n : Nat) (v3 : Int32) (v5 : Int32), zSy E mu_X2_likeCouples d M (some (.int x0), M) x0 (fp_X2_likeCouples_L17 k90 v0 v1 v2 v4 n v3 v5) 17 [(0, .int v0), (1, .int v1), (2, .int v2), (3, .int v3), (4, .int v4), (5, .int v5)] [] M := by
  intro n
  induction n with
  | zero =>
    intro v3 v5
    rw [fp_X2_likeCouples_L17]
    exact zs_none
  | succ n ih =>
    intro v3 v5
    rw [fp_X2_likeCouples_L17]
    refine zs_iload dX2_likeCouples_17 5 rfl ?_
    refine zs_iload_n dX2_likeCouples_19 rfl 0 rfl ?_
    refine zs_icmp_ge dX2_likeCouples_20 rfl ?_ ?_
    · refine zs_sub (loc' := [(0, .int v0), (1, .int v1), (2, .int v2), (3, .int v3), (4, .int v4)]) [0, 1, 2, 3, 4] rfl ?_
      exact hk90 v3
    refine zs_iconst (v := 1) dX2_likeCouples_23 ciconst_1 ?_
    refine zs_iload dX2_likeCouples_24 4 rfl ?_
    refine zs_ishl dX2_likeCouples_26 ?_
    refine zs_iconst (v := 1) dX2_likeCouples_27 ciconst_1 ?_
    refine zs_iload dX2_likeCouples_28 5 rfl ?_
    refine zs_ishl dX2_likeCouples_30 ?_
    refine zs_ior dX2_likeCouples_31 ?_
    refine zs_istoreL (loc' := fun v6_2 => [(0, .int v0), (1, .int v1), (2, .int v2), (3, .int v3), (4, .int v4), (5, .int v5), (6, .int v6_2)]) dX2_likeCouples_32 (Nat.le_of_ble_eq_true rfl) [1, 2, 3, 4, 5, 6, 0] (fun _ => rfl) (fun v6_2 => ?_)
    refine zs_iload_n dX2_likeCouples_34 rfl 0 rfl ?_
    refine zs_iload_n dX2_likeCouples_35 rfl 1 rfl ?_
    refine zs_iload dX2_likeCouples_36 4 rfl ?_
    refine zs_invSPI (rest := []) [.int v0, .int v1, .int v4] dX2_likeCouples_38 lk_X2_20 rfl (zd1 rfl hd) rfl (Nat.le_of_ble_eq_true rfl) (ct_X2_nearTo E hE _ (zdl rfl hd) _ _ _ _) (fun y3 => ?_)
    refine zs_iload dX2_likeCouples_41 6 rfl ?_
    refine zs_ior dX2_likeCouples_43 ?_
    refine zs_iload_n dX2_likeCouples_44 rfl 0 rfl ?_
    refine zs_iload_n dX2_likeCouples_45 rfl 1 rfl ?_
    refine zs_iload dX2_likeCouples_46 5 rfl ?_
    refine zs_invSPI (rest := [.int (y3 ||| v6_2)]) [.int v0, .int v1, .int v5] dX2_likeCouples_48 lk_X2_20 rfl (zd1 rfl hd) rfl (Nat.le_of_ble_eq_true rfl) (ct_X2_nearTo E hE _ (zdl rfl hd) _ _ _ _) (fun y4 => ?_)
    refine zs_iload dX2_likeCouples_51 6 rfl ?_
    refine zs_ior dX2_likeCouples_53 ?_
    refine zs_jn (fun j62 => ∀ (s5 : Int32), zSy E mu_X2_likeCouples d M (some (.int x0), M) x0 (j62 s5) 62 [(0, .int v0), (1, .int v1), (2, .int v2), (3, .int v3), (4, .int v4), (5, .int v5)] [.int s5] M) (fun s5 => ?_) (fun j62 hj62 => ?_)
    · refine zs_istore (loc' := [(0, .int v0), (1, .int v1), (2, .int v2), (3, .int v3), (4, .int v4), (5, .int v5), (7, .int s5)]) dX2_likeCouples_62 (Nat.le_of_ble_eq_true rfl) [1, 2, 3, 4, 5, 6, 0] rfl ?_
      refine zs_iload dX2_likeCouples_64 6 rfl ?_
      refine zs_jn (fun j84 => ∀ (v3_6 : Int32), zSy E mu_X2_likeCouples d M (some (.int x0), M) x0 (j84 v3_6) 84 [(0, .int v0), (1, .int v1), (2, .int v2), (3, .int v3_6), (4, .int v4), (5, .int v5)] [] M) (fun v3_6 => ?_) (fun j84 hj84 => ?_)
      · refine zs_iinc (v := (v5 + 1)) (loc' := [(0, .int v0), (1, .int v1), (2, .int v2), (3, .int v3_6), (4, .int v4), (5, .int (v5 + 1))]) dX2_likeCouples_84 5 rfl (by rfl) (Nat.le_of_ble_eq_true rfl) [1, 2, 3, 4, 5, 0] rfl ?_
        refine zs_goto dX2_likeCouples_87 rfl ?_
        exact ih v3_6 (v5 + 1)
      refine zs_if_eq dX2_likeCouples_66 rfl ?_ ?_
      · refine zs_sub (loc' := [(0, .int v0), (1, .int v1), (2, .int v2), (3, .int v3), (4, .int v4), (5, .int v5)]) [0, 1, 2, 3, 4, 5] rfl ?_
        exact hj84 v3
      refine zs_iload_n dX2_likeCouples_69 rfl 1 rfl ?_
      refine zs_iload dX2_likeCouples_70 4 rfl ?_
      refine zs_iload dX2_likeCouples_72 5 rfl ?_
      refine zs_invSPI (rest := []) [.int v1, .int v4, .int v5] dX2_likeCouples_74 lk_X2_41 rfl (zd1 rfl hd) rfl (Nat.le_of_ble_eq_true rfl) (ct_X2_tied E hE _ (zdl rfl hd) _ _ _ _) (fun y7 => ?_)
      refine zs_iload_n dX2_likeCouples_77 rfl 2 rfl ?_
      refine zs_icmp_ne dX2_likeCouples_78 rfl ?_ ?_
      · refine zs_sub (loc' := [(0, .int v0), (1, .int v1), (2, .int v2), (3, .int v3), (4, .int v4), (5, .int v5)]) [0, 1, 2, 3, 4, 5] rfl ?_
        exact hj84 v3
      refine zs_iinc (v := (v3 + 1)) (loc' := [(0, .int v0), (1, .int v1), (2, .int v2), (3, .int (v3 + 1)), (4, .int v4), (5, .int v5)]) dX2_likeCouples_81 3 rfl (by rfl) (Nat.le_of_ble_eq_true rfl) [1, 2, 3, 0, 4, 5] rfl ?_
      exact hj84 (v3 + 1)
    refine zs_icmp_ne dX2_likeCouples_54 rfl ?_ ?_
    · refine zs_iconst (v := 0) dX2_likeCouples_61 ciconst_0 ?_
      refine zs_sub (loc' := [(0, .int v0), (1, .int v1), (2, .int v2), (3, .int v3), (4, .int v4), (5, .int v5)]) [0, 1, 2, 3, 4, 5] rfl ?_
      exact hj62 0
    refine zs_iconst (v := 1) dX2_likeCouples_57 ciconst_1 ?_
    refine zs_goto dX2_likeCouples_58 rfl ?_
    refine zs_sub (loc' := [(0, .int v0), (1, .int v1), (2, .int v2), (3, .int v3), (4, .int v4), (5, .int v5)]) [0, 1, 2, 3, 4, 5] rfl ?_
    exact hj62 1
set_option maxHeartbeats 4000000 in
set_option maxRecDepth 100000 in
theorem w_X2_likeCouples_L5 (E : zEnv) (hE : zEok E) (d : Nat) (hd : 3 ≤ d) (x0 : Int32) (v0 : Int32) (v1 : Int32) (v2 : Int32) (M : zM)  : ∀ (n : Nat) (v3 : Int32) (v4 : Int32), zSy E mu_X2_likeCouples d M (some (.int x0), M) x0 (fp_X2_likeCouples_L5 v0 v1 v2 n v3 v4) 5 [(0, .int v0), (1, .int v1), (2, .int v2), (3, .int v3), (4, .int v4)] [] M := by
  intro n
  induction n with
  | zero =>
    intro v3 v4
    rw [fp_X2_likeCouples_L5]
    exact zs_none
  | succ n ih =>
    intro v3 v4
    rw [fp_X2_likeCouples_L5]
    refine zs_iload dX2_likeCouples_5 4 rfl ?_
    refine zs_iload_n dX2_likeCouples_7 rfl 0 rfl ?_
    refine zs_icmp_ge dX2_likeCouples_8 rfl ?_ ?_
    · refine zs_iload_n dX2_likeCouples_96 rfl 3 rfl ?_
      exact zs_iretP dX2_likeCouples_97 rfl
    refine zs_iload dX2_likeCouples_11 4 rfl ?_
    refine zs_iconst (v := 1) dX2_likeCouples_13 ciconst_1 ?_
    refine zs_iadd dX2_likeCouples_14 ?_
    refine zs_istoreL (loc' := fun v5_1 => [(0, .int v0), (1, .int v1), (2, .int v2), (3, .int v3), (4, .int v4), (5, .int v5_1)]) dX2_likeCouples_15 (Nat.le_of_ble_eq_true rfl) [1, 2, 3, 4, 5, 0] (fun _ => rfl) (fun v5_1 => ?_)
    refine w_X2_likeCouples_L17 E hE d hd _ _ _ _ _ _ _ (fun v3_8 => ?_) _ _ _
    refine zs_iinc (v := (v4 + 1)) (loc' := [(0, .int v0), (1, .int v1), (2, .int v2), (3, .int v3_8), (4, .int (v4 + 1))]) dX2_likeCouples_90 4 rfl (by rfl) (Nat.le_of_ble_eq_true rfl) [1, 2, 3, 4, 0] rfl ?_
    refine zs_goto dX2_likeCouples_93 rfl ?_
    exact ih v3_8 (v4 + 1)
set_option maxHeartbeats 4000000 in
set_option maxRecDepth 100000 in
theorem ct_X2_likeCouples (E : zEnv) (hE : zEok E) (d : Nat) (hd : 3 ≤ d) (v0 : Int32) (v1 : Int32) (v2 : Int32) (M : zM) (x0 : Int32) (hx : fp_X2_likeCouples v0 v1 v2 = some x0) : zCt E mu_X2_likeCouples d [.int v0, .int v1, .int v2] M (some (.int x0), M) := by
  refine zCt_of (μ := mu_X2_likeCouples) (t := fp_X2_likeCouples v0 v1 v2) rfl rfl (Nat.le_of_ble_eq_true rfl) hx ?_
  change zSy E mu_X2_likeCouples d M (some (.int x0), M) x0 (fp_X2_likeCouples v0 v1 v2) 0 [(0, .int v0), (1, .int v1), (2, .int v2)] [] M
  unfold fp_X2_likeCouples
  refine zs_iconst (v := 0) dX2_likeCouples_0 ciconst_0 ?_
  refine zs_istore_n (loc' := [(0, .int v0), (1, .int v1), (2, .int v2), (3, .int 0)]) dX2_likeCouples_1 rfl (Nat.le_of_ble_eq_true rfl) [1, 2, 3, 0] rfl ?_
  refine zs_iconst (v := 0) dX2_likeCouples_2 ciconst_0 ?_
  refine zs_istore (loc' := [(0, .int v0), (1, .int v1), (2, .int v2), (3, .int 0), (4, .int 0)]) dX2_likeCouples_3 (Nat.le_of_ble_eq_true rfl) [1, 2, 3, 4, 0] rfl ?_
  exact w_X2_likeCouples_L5 E hE d hd _ _ _ _ _ _ _ _
theorem dX2_lonePoints_0 : decode cX2_lonePoints 0 = .ok (.iconst 0, 1) := by decide +kernel
theorem dX2_lonePoints_1 : decode cX2_lonePoints 1 = .ok (.istore_n 2, 1) := by decide +kernel
theorem dX2_lonePoints_2 : decode cX2_lonePoints 2 = .ok (.iconst 0, 1) := by decide +kernel
theorem dX2_lonePoints_3 : decode cX2_lonePoints 3 = .ok (.istore_n 3, 1) := by decide +kernel
theorem dX2_lonePoints_4 : decode cX2_lonePoints 4 = .ok (.iload_n 3, 1) := by decide +kernel
theorem dX2_lonePoints_5 : decode cX2_lonePoints 5 = .ok (.iload_n 0, 1) := by decide +kernel
theorem dX2_lonePoints_6 : decode cX2_lonePoints 6 = .ok (.if_icmp .ge 25, 3) := by decide +kernel
theorem dX2_lonePoints_9 : decode cX2_lonePoints 9 = .ok (.iload_n 0, 1) := by decide +kernel
theorem dX2_lonePoints_10 : decode cX2_lonePoints 10 = .ok (.iload_n 1, 1) := by decide +kernel
theorem dX2_lonePoints_11 : decode cX2_lonePoints 11 = .ok (.iload_n 3, 1) := by decide +kernel
theorem dX2_lonePoints_12 : decode cX2_lonePoints 12 = .ok (.invokestatic 20, 3) := by decide +kernel
theorem dX2_lonePoints_15 : decode cX2_lonePoints 15 = .ok (.invokestatic 61, 3) := by decide +kernel
theorem dX2_lonePoints_18 : decode cX2_lonePoints 18 = .ok (.iconst 1, 1) := by decide +kernel
theorem dX2_lonePoints_19 : decode cX2_lonePoints 19 = .ok (.if_icmp .ne 6, 3) := by decide +kernel
theorem dX2_lonePoints_22 : decode cX2_lonePoints 22 = .ok (.iinc 2 1, 3) := by decide +kernel
theorem dX2_lonePoints_25 : decode cX2_lonePoints 25 = .ok (.iinc 3 1, 3) := by decide +kernel
theorem dX2_lonePoints_28 : decode cX2_lonePoints 28 = .ok (.goto (-24), 3) := by decide +kernel
theorem dX2_lonePoints_31 : decode cX2_lonePoints 31 = .ok (.iload_n 2, 1) := by decide +kernel
theorem dX2_lonePoints_32 : decode cX2_lonePoints 32 = .ok (.ireturn, 1) := by decide +kernel
def fp_X2_lonePoints_L4 (v0 : Int32) (v1 : Int32) : Nat → Int32 → Int32 → Option (Int32)
  | 0, _, _ => none
  | n + 1, v2, v3 =>
    if v3 ≥ v0 then (
      some v2)
    else (
      (fp_X2_nearTo v0 v1 v3).bind fun (y1 : Int32) =>
      (fp_J6_bitCount_0f7a4 y1).bind fun (y2 : Int32) =>
      zjn (fun (v2_3 : Int32) =>
          fp_X2_lonePoints_L4 v0 v1 n v2_3 (v3 + 1))
        (fun j25 =>
          if y2 ≠ 1 then (
            j25 v2)
          else (
            j25 (v2 + 1))))
def fp_X2_lonePoints (v0 : Int32) (v1 : Int32) : Option (Int32) :=
  fp_X2_lonePoints_L4 v0 v1 FU 0 0
set_option maxHeartbeats 4000000 in
set_option maxRecDepth 100000 in
theorem w_X2_lonePoints_L4 (E : zEnv) (hE : zEok E) (d : Nat) (hd : 2 ≤ d) (x0 : Int32) (v0 : Int32) (v1 : Int32) (M : zM)  : ∀ (n : Nat) (v2 : Int32) (v3 : Int32), zSy E mu_X2_lonePoints d M (some (.int x0), M) x0 (fp_X2_lonePoints_L4 v0 v1 n v2 v3) 4 [(0, .int v0), (1, .int v1), (2, .int v2), (3, .int v3)] [] M := by
  intro n
  induction n with
  | zero =>
    intro v2 v3
    rw [fp_X2_lonePoints_L4]
    exact zs_none
  | succ n ih =>
    intro v2 v3
    rw [fp_X2_lonePoints_L4]
    refine zs_iload_n dX2_lonePoints_4 rfl 3 rfl ?_
    refine zs_iload_n dX2_lonePoints_5 rfl 0 rfl ?_
    refine zs_icmp_ge dX2_lonePoints_6 rfl ?_ ?_
    · refine zs_iload_n dX2_lonePoints_31 rfl 2 rfl ?_
      exact zs_iretP dX2_lonePoints_32 rfl
    refine zs_iload_n dX2_lonePoints_9 rfl 0 rfl ?_
    refine zs_iload_n dX2_lonePoints_10 rfl 1 rfl ?_
    refine zs_iload_n dX2_lonePoints_11 rfl 3 rfl ?_
    refine zs_invSPI (rest := []) [.int v0, .int v1, .int v3] dX2_lonePoints_12 lk_X2_20 rfl (zd1 rfl hd) rfl (Nat.le_of_ble_eq_true rfl) (ct_X2_nearTo E hE _ (zdl rfl hd) _ _ _ _) (fun y1 => ?_)
    refine zs_invSPI (rest := []) [.int y1] dX2_lonePoints_15 lk_X2_61 rfl (zd1 rfl hd) rfl (Nat.le_of_ble_eq_true rfl) (ct_J6_bitCount_0f7a4 E hE _ (zdl rfl hd) _ _) (fun y2 => ?_)
    refine zs_iconst (v := 1) dX2_lonePoints_18 ciconst_1 ?_
    refine zs_jn (fun j25 => ∀ (v2_3 : Int32), zSy E mu_X2_lonePoints d M (some (.int x0), M) x0 (j25 v2_3) 25 [(0, .int v0), (1, .int v1), (2, .int v2_3), (3, .int v3)] [] M) (fun v2_3 => ?_) (fun j25 hj25 => ?_)
    · refine zs_iinc (v := (v3 + 1)) (loc' := [(0, .int v0), (1, .int v1), (2, .int v2_3), (3, .int (v3 + 1))]) dX2_lonePoints_25 3 rfl (by rfl) (Nat.le_of_ble_eq_true rfl) [1, 2, 3, 0] rfl ?_
      refine zs_goto dX2_lonePoints_28 rfl ?_
      exact ih v2_3 (v3 + 1)
    refine zs_icmp_ne dX2_lonePoints_19 rfl ?_ ?_
    · exact hj25 v2
    refine zs_iinc (v := (v2 + 1)) (loc' := [(0, .int v0), (1, .int v1), (2, .int (v2 + 1)), (3, .int v3)]) dX2_lonePoints_22 2 rfl (by rfl) (Nat.le_of_ble_eq_true rfl) [1, 2, 0, 3] rfl ?_
    exact hj25 (v2 + 1)
set_option maxHeartbeats 4000000 in
set_option maxRecDepth 100000 in
theorem ct_X2_lonePoints (E : zEnv) (hE : zEok E) (d : Nat) (hd : 2 ≤ d) (v0 : Int32) (v1 : Int32) (M : zM) (x0 : Int32) (hx : fp_X2_lonePoints v0 v1 = some x0) : zCt E mu_X2_lonePoints d [.int v0, .int v1] M (some (.int x0), M) := by
  refine zCt_of (μ := mu_X2_lonePoints) (t := fp_X2_lonePoints v0 v1) rfl rfl (Nat.le_of_ble_eq_true rfl) hx ?_
  change zSy E mu_X2_lonePoints d M (some (.int x0), M) x0 (fp_X2_lonePoints v0 v1) 0 [(0, .int v0), (1, .int v1)] [] M
  unfold fp_X2_lonePoints
  refine zs_iconst (v := 0) dX2_lonePoints_0 ciconst_0 ?_
  refine zs_istore_n (loc' := [(0, .int v0), (1, .int v1), (2, .int 0)]) dX2_lonePoints_1 rfl (Nat.le_of_ble_eq_true rfl) [1, 2, 0] rfl ?_
  refine zs_iconst (v := 0) dX2_lonePoints_2 ciconst_0 ?_
  refine zs_istore_n (loc' := [(0, .int v0), (1, .int v1), (2, .int 0), (3, .int 0)]) dX2_lonePoints_3 rfl (Nat.le_of_ble_eq_true rfl) [1, 2, 3, 0] rfl ?_
  exact w_X2_lonePoints_L4 E hE d hd _ _ _ _ _ _ _
theorem dX2_largest_0 : decode cX2_largest 0 = .ok (.iconst 0, 1) := by decide +kernel
theorem dX2_largest_1 : decode cX2_largest 1 = .ok (.istore_n 3, 1) := by decide +kernel
theorem dX2_largest_2 : decode cX2_largest 2 = .ok (.iconst 1, 1) := by decide +kernel
theorem dX2_largest_3 : decode cX2_largest 3 = .ok (.istore 4, 2) := by decide +kernel
theorem dX2_largest_5 : decode cX2_largest 5 = .ok (.iload 4, 2) := by decide +kernel
theorem dX2_largest_7 : decode cX2_largest 7 = .ok (.iconst 1, 1) := by decide +kernel
theorem dX2_largest_8 : decode cX2_largest 8 = .ok (.iload_n 0, 1) := by decide +kernel
theorem dX2_largest_9 : decode cX2_largest 9 = .ok (.ishl, 1) := by decide +kernel
theorem dX2_largest_10 : decode cX2_largest 10 = .ok (.if_icmp .ge 60, 3) := by decide +kernel
theorem dX2_largest_13 : decode cX2_largest 13 = .ok (.iload 4, 2) := by decide +kernel
theorem dX2_largest_15 : decode cX2_largest 15 = .ok (.invokestatic 24, 3) := by decide +kernel
theorem dX2_largest_18 : decode cX2_largest 18 = .ok (.istore 5, 2) := by decide +kernel
theorem dX2_largest_20 : decode cX2_largest 20 = .ok (.iload_n 1, 1) := by decide +kernel
theorem dX2_largest_21 : decode cX2_largest 21 = .ok (.iload 5, 2) := by decide +kernel
theorem dX2_largest_23 : decode cX2_largest 23 = .ok (.iand, 1) := by decide +kernel
theorem dX2_largest_24 : decode cX2_largest 24 = .ok (.iload_n 2, 1) := by decide +kernel
theorem dX2_largest_25 : decode cX2_largest 25 = .ok (.ifCond .eq 8, 3) := by decide +kernel
theorem dX2_largest_28 : decode cX2_largest 28 = .ok (.iload 5, 2) := by decide +kernel
theorem dX2_largest_30 : decode cX2_largest 30 = .ok (.goto 4, 3) := by decide +kernel
theorem dX2_largest_33 : decode cX2_largest 33 = .ok (.iconst 0, 1) := by decide +kernel
theorem dX2_largest_34 : decode cX2_largest 34 = .ok (.if_icmp .ne 7, 3) := by decide +kernel
theorem dX2_largest_37 : decode cX2_largest 37 = .ok (.iconst 1, 1) := by decide +kernel
theorem dX2_largest_38 : decode cX2_largest 38 = .ok (.goto 4, 3) := by decide +kernel
theorem dX2_largest_41 : decode cX2_largest 41 = .ok (.iconst 0, 1) := by decide +kernel
theorem dX2_largest_42 : decode cX2_largest 42 = .ok (.istore 6, 2) := by decide +kernel
theorem dX2_largest_44 : decode cX2_largest 44 = .ok (.iload 6, 2) := by decide +kernel
theorem dX2_largest_46 : decode cX2_largest 46 = .ok (.ifCond .eq 18, 3) := by decide +kernel
theorem dX2_largest_49 : decode cX2_largest 49 = .ok (.iload 4, 2) := by decide +kernel
theorem dX2_largest_51 : decode cX2_largest 51 = .ok (.invokestatic 61, 3) := by decide +kernel
theorem dX2_largest_54 : decode cX2_largest 54 = .ok (.iload_n 3, 1) := by decide +kernel
theorem dX2_largest_55 : decode cX2_largest 55 = .ok (.invokestatic 61, 3) := by decide +kernel
theorem dX2_largest_58 : decode cX2_largest 58 = .ok (.if_icmp .le 6, 3) := by decide +kernel
theorem dX2_largest_61 : decode cX2_largest 61 = .ok (.iload 4, 2) := by decide +kernel
theorem dX2_largest_63 : decode cX2_largest 63 = .ok (.istore_n 3, 1) := by decide +kernel
theorem dX2_largest_64 : decode cX2_largest 64 = .ok (.iinc 4 1, 3) := by decide +kernel
theorem dX2_largest_67 : decode cX2_largest 67 = .ok (.goto (-62), 3) := by decide +kernel
theorem dX2_largest_70 : decode cX2_largest 70 = .ok (.iload_n 3, 1) := by decide +kernel
theorem dX2_largest_71 : decode cX2_largest 71 = .ok (.ireturn, 1) := by decide +kernel
def fp_X2_largest_L5 (v0 : Int32) (v1 : Int32) (v2 : Int32) : Nat → Int32 → Int32 → Option (Int32)
  | 0, _, _ => none
  | n + 1, v3, v4 =>
    if v4 ≥ (1 <<< (v0 &&& 31)) then (
      some v3)
    else (
      (fp_X2_pairsOf v4).bind fun (y1 : Int32) =>
      zjn (fun (s2 : Int32) (s3 : Int32) =>
          zjn (fun (s4 : Int32) =>
              zjn (fun (v3_5 : Int32) =>
                  fp_X2_largest_L5 v0 v1 v2 n v3_5 (v4 + 1))
                (fun j64 =>
                  if s4 = 0 then (
                    j64 v3)
                  else (
                    (fp_J6_bitCount_0f7a4 v4).bind fun (y6 : Int32) =>
                    (fp_J6_bitCount_0f7a4 v3).bind fun (y7 : Int32) =>
                    if y6 ≤ y7 then (
                      j64 v3)
                    else (
                      j64 v4))))
            (fun j42 =>
              if s3 ≠ s2 then (
                j42 0)
              else (
                j42 1)))
        (fun j34 =>
          if v2 = 0 then (
            j34 0 (v1 &&& y1))
          else (
            j34 y1 (v1 &&& y1))))
def fp_X2_largest (v0 : Int32) (v1 : Int32) (v2 : Int32) : Option (Int32) :=
  fp_X2_largest_L5 v0 v1 v2 FU 0 1
set_option maxHeartbeats 4000000 in
set_option maxRecDepth 100000 in
theorem w_X2_largest_L5 (E : zEnv) (hE : zEok E) (d : Nat) (hd : 2 ≤ d) (x0 : Int32) (v0 : Int32) (v1 : Int32) (v2 : Int32) (M : zM)  : ∀ (n : Nat) (v3 : Int32) (v4 : Int32), zSy E mu_X2_largest d M (some (.int x0), M) x0 (fp_X2_largest_L5 v0 v1 v2 n v3 v4) 5 [(0, .int v0), (1, .int v1), (2, .int v2), (3, .int v3), (4, .int v4)] [] M := by
  intro n
  induction n with
  | zero =>
    intro v3 v4
    rw [fp_X2_largest_L5]
    exact zs_none
  | succ n ih =>
    intro v3 v4
    rw [fp_X2_largest_L5]
    refine zs_iload dX2_largest_5 4 rfl ?_
    refine zs_iconst (v := 1) dX2_largest_7 ciconst_1 ?_
    refine zs_iload_n dX2_largest_8 rfl 0 rfl ?_
    refine zs_ishl dX2_largest_9 ?_
    refine zs_icmp_ge dX2_largest_10 rfl ?_ ?_
    · refine zs_iload_n dX2_largest_70 rfl 3 rfl ?_
      exact zs_iretP dX2_largest_71 rfl
    refine zs_iload dX2_largest_13 4 rfl ?_
    refine zs_invSPI (rest := []) [.int v4] dX2_largest_15 lk_X2_24 rfl (zd1 rfl hd) rfl (Nat.le_of_ble_eq_true rfl) (ct_X2_pairsOf E hE _ (zdl rfl hd) _ _) (fun y1 => ?_)
    refine zs_istore (loc' := [(0, .int v0), (1, .int v1), (2, .int v2), (3, .int v3), (4, .int v4), (5, .int y1)]) dX2_largest_18 (Nat.le_of_ble_eq_true rfl) [1, 2, 3, 4, 5, 0] rfl ?_
    refine zs_iload_n dX2_largest_20 rfl 1 rfl ?_
    refine zs_iload dX2_largest_21 5 rfl ?_
    refine zs_iand dX2_largest_23 ?_
    refine zs_iload_n dX2_largest_24 rfl 2 rfl ?_
    refine zs_jn (fun j34 => ∀ (s2 : Int32) (s3 : Int32), zSy E mu_X2_largest d M (some (.int x0), M) x0 (j34 s2 s3) 34 [(0, .int v0), (1, .int v1), (2, .int v2), (3, .int v3), (4, .int v4)] [.int s2, .int s3] M) (fun s2 s3 => ?_) (fun j34 hj34 => ?_)
    · refine zs_jn (fun j42 => ∀ (s4 : Int32), zSy E mu_X2_largest d M (some (.int x0), M) x0 (j42 s4) 42 [(0, .int v0), (1, .int v1), (2, .int v2), (3, .int v3), (4, .int v4)] [.int s4] M) (fun s4 => ?_) (fun j42 hj42 => ?_)
      · refine zs_istore (loc' := [(0, .int v0), (1, .int v1), (2, .int v2), (3, .int v3), (4, .int v4), (6, .int s4)]) dX2_largest_42 (Nat.le_of_ble_eq_true rfl) [1, 2, 3, 4, 5, 0] rfl ?_
        refine zs_iload dX2_largest_44 5 rfl ?_
        refine zs_jn (fun j64 => ∀ (v3_5 : Int32), zSy E mu_X2_largest d M (some (.int x0), M) x0 (j64 v3_5) 64 [(0, .int v0), (1, .int v1), (2, .int v2), (3, .int v3_5), (4, .int v4)] [] M) (fun v3_5 => ?_) (fun j64 hj64 => ?_)
        · refine zs_iinc (v := (v4 + 1)) (loc' := [(0, .int v0), (1, .int v1), (2, .int v2), (3, .int v3_5), (4, .int (v4 + 1))]) dX2_largest_64 4 rfl (by rfl) (Nat.le_of_ble_eq_true rfl) [1, 2, 3, 4, 0] rfl ?_
          refine zs_goto dX2_largest_67 rfl ?_
          exact ih v3_5 (v4 + 1)
        refine zs_if_eq dX2_largest_46 rfl ?_ ?_
        · refine zs_sub (loc' := [(0, .int v0), (1, .int v1), (2, .int v2), (3, .int v3), (4, .int v4)]) [0, 1, 2, 3, 4] rfl ?_
          exact hj64 v3
        refine zs_iload dX2_largest_49 4 rfl ?_
        refine zs_invSPI (rest := []) [.int v4] dX2_largest_51 lk_X2_61 rfl (zd1 rfl hd) rfl (Nat.le_of_ble_eq_true rfl) (ct_J6_bitCount_0f7a4 E hE _ (zdl rfl hd) _ _) (fun y6 => ?_)
        refine zs_iload_n dX2_largest_54 rfl 3 rfl ?_
        refine zs_invSPI (rest := [.int y6]) [.int v3] dX2_largest_55 lk_X2_61 rfl (zd1 rfl hd) rfl (Nat.le_of_ble_eq_true rfl) (ct_J6_bitCount_0f7a4 E hE _ (zdl rfl hd) _ _) (fun y7 => ?_)
        refine zs_icmp_le dX2_largest_58 rfl ?_ ?_
        · refine zs_sub (loc' := [(0, .int v0), (1, .int v1), (2, .int v2), (3, .int v3), (4, .int v4)]) [0, 1, 2, 3, 4] rfl ?_
          exact hj64 v3
        refine zs_iload dX2_largest_61 4 rfl ?_
        refine zs_istore_n (loc' := [(0, .int v0), (1, .int v1), (2, .int v2), (3, .int v4), (4, .int v4)]) dX2_largest_63 rfl (Nat.le_of_ble_eq_true rfl) [1, 2, 3, 0, 4] rfl ?_
        exact hj64 v4
      refine zs_icmp_ne dX2_largest_34 rfl ?_ ?_
      · refine zs_iconst (v := 0) dX2_largest_41 ciconst_0 ?_
        exact hj42 0
      refine zs_iconst (v := 1) dX2_largest_37 ciconst_1 ?_
      refine zs_goto dX2_largest_38 rfl ?_
      exact hj42 1
    refine zs_if_eq dX2_largest_25 rfl ?_ ?_
    · refine zs_iconst (v := 0) dX2_largest_33 ciconst_0 ?_
      refine zs_sub (loc' := [(0, .int v0), (1, .int v1), (2, .int v2), (3, .int v3), (4, .int v4)]) [0, 1, 2, 3, 4] rfl ?_
      exact hj34 0 (v1 &&& y1)
    refine zs_iload dX2_largest_28 5 rfl ?_
    refine zs_goto dX2_largest_30 rfl ?_
    refine zs_sub (loc' := [(0, .int v0), (1, .int v1), (2, .int v2), (3, .int v3), (4, .int v4)]) [0, 1, 2, 3, 4] rfl ?_
    exact hj34 y1 (v1 &&& y1)
set_option maxHeartbeats 4000000 in
set_option maxRecDepth 100000 in
theorem ct_X2_largest (E : zEnv) (hE : zEok E) (d : Nat) (hd : 2 ≤ d) (v0 : Int32) (v1 : Int32) (v2 : Int32) (M : zM) (x0 : Int32) (hx : fp_X2_largest v0 v1 v2 = some x0) : zCt E mu_X2_largest d [.int v0, .int v1, .int v2] M (some (.int x0), M) := by
  refine zCt_of (μ := mu_X2_largest) (t := fp_X2_largest v0 v1 v2) rfl rfl (Nat.le_of_ble_eq_true rfl) hx ?_
  change zSy E mu_X2_largest d M (some (.int x0), M) x0 (fp_X2_largest v0 v1 v2) 0 [(0, .int v0), (1, .int v1), (2, .int v2)] [] M
  unfold fp_X2_largest
  refine zs_iconst (v := 0) dX2_largest_0 ciconst_0 ?_
  refine zs_istore_n (loc' := [(0, .int v0), (1, .int v1), (2, .int v2), (3, .int 0)]) dX2_largest_1 rfl (Nat.le_of_ble_eq_true rfl) [1, 2, 3, 0] rfl ?_
  refine zs_iconst (v := 1) dX2_largest_2 ciconst_1 ?_
  refine zs_istore (loc' := [(0, .int v0), (1, .int v1), (2, .int v2), (3, .int 0), (4, .int 1)]) dX2_largest_3 (Nat.le_of_ble_eq_true rfl) [1, 2, 3, 4, 0] rfl ?_
  exact w_X2_largest_L5 E hE d hd _ _ _ _ _ _ _ _
theorem dX2_paint_0 : decode cX2_paint 0 = .ok (.iload_n 3, 1) := by decide +kernel
theorem dX2_paint_1 : decode cX2_paint 1 = .ok (.iload_n 0, 1) := by decide +kernel
theorem dX2_paint_2 : decode cX2_paint 2 = .ok (.if_icmp .lt 5, 3) := by decide +kernel
theorem dX2_paint_5 : decode cX2_paint 5 = .ok (.lconst 1, 1) := by decide +kernel
theorem dX2_paint_6 : decode cX2_paint 6 = .ok (.lreturn, 1) := by decide +kernel
theorem dX2_paint_7 : decode cX2_paint 7 = .ok (.iload_n 0, 1) := by decide +kernel
theorem dX2_paint_8 : decode cX2_paint 8 = .ok (.iload_n 1, 1) := by decide +kernel
theorem dX2_paint_9 : decode cX2_paint 9 = .ok (.iload_n 3, 1) := by decide +kernel
theorem dX2_paint_10 : decode cX2_paint 10 = .ok (.invokestatic 20, 3) := by decide +kernel
theorem dX2_paint_13 : decode cX2_paint 13 = .ok (.istore 6, 2) := by decide +kernel
theorem dX2_paint_15 : decode cX2_paint 15 = .ok (.lconst 0, 1) := by decide +kernel
theorem dX2_paint_16 : decode cX2_paint 16 = .ok (.lstore 7, 2) := by decide +kernel
theorem dX2_paint_18 : decode cX2_paint 18 = .ok (.iconst 0, 1) := by decide +kernel
theorem dX2_paint_19 : decode cX2_paint 19 = .ok (.istore 9, 2) := by decide +kernel
theorem dX2_paint_21 : decode cX2_paint 21 = .ok (.iload 9, 2) := by decide +kernel
theorem dX2_paint_23 : decode cX2_paint 23 = .ok (.iload 4, 2) := by decide +kernel
theorem dX2_paint_25 : decode cX2_paint 25 = .ok (.if_icmp .ge 64, 3) := by decide +kernel
theorem dX2_paint_28 : decode cX2_paint 28 = .ok (.iload 9, 2) := by decide +kernel
theorem dX2_paint_30 : decode cX2_paint 30 = .ok (.aload_n 2, 1) := by decide +kernel
theorem dX2_paint_31 : decode cX2_paint 31 = .ok (.arraylength, 1) := by decide +kernel
theorem dX2_paint_32 : decode cX2_paint 32 = .ok (.if_icmp .ge 57, 3) := by decide +kernel
theorem dX2_paint_35 : decode cX2_paint 35 = .ok (.aload_n 2, 1) := by decide +kernel
theorem dX2_paint_36 : decode cX2_paint 36 = .ok (.iload 9, 2) := by decide +kernel
theorem dX2_paint_38 : decode cX2_paint 38 = .ok (.iaload, 1) := by decide +kernel
theorem dX2_paint_39 : decode cX2_paint 39 = .ok (.iload 6, 2) := by decide +kernel
theorem dX2_paint_41 : decode cX2_paint 41 = .ok (.iand, 1) := by decide +kernel
theorem dX2_paint_42 : decode cX2_paint 42 = .ok (.ifCond .ne 41, 3) := by decide +kernel
theorem dX2_paint_45 : decode cX2_paint 45 = .ok (.aload_n 2, 1) := by decide +kernel
theorem dX2_paint_46 : decode cX2_paint 46 = .ok (.iload 9, 2) := by decide +kernel
theorem dX2_paint_48 : decode cX2_paint 48 = .ok (.dup2, 1) := by decide +kernel
theorem dX2_paint_49 : decode cX2_paint 49 = .ok (.iaload, 1) := by decide +kernel
theorem dX2_paint_50 : decode cX2_paint 50 = .ok (.iconst 1, 1) := by decide +kernel
theorem dX2_paint_51 : decode cX2_paint 51 = .ok (.iload_n 3, 1) := by decide +kernel
theorem dX2_paint_52 : decode cX2_paint 52 = .ok (.ishl, 1) := by decide +kernel
theorem dX2_paint_53 : decode cX2_paint 53 = .ok (.ixor, 1) := by decide +kernel
theorem dX2_paint_54 : decode cX2_paint 54 = .ok (.iastore, 1) := by decide +kernel
theorem dX2_paint_55 : decode cX2_paint 55 = .ok (.lload 7, 2) := by decide +kernel
theorem dX2_paint_57 : decode cX2_paint 57 = .ok (.iload_n 0, 1) := by decide +kernel
theorem dX2_paint_58 : decode cX2_paint 58 = .ok (.iload_n 1, 1) := by decide +kernel
theorem dX2_paint_59 : decode cX2_paint 59 = .ok (.aload_n 2, 1) := by decide +kernel
theorem dX2_paint_60 : decode cX2_paint 60 = .ok (.iload_n 3, 1) := by decide +kernel
theorem dX2_paint_61 : decode cX2_paint 61 = .ok (.iconst 1, 1) := by decide +kernel
theorem dX2_paint_62 : decode cX2_paint 62 = .ok (.iadd, 1) := by decide +kernel
theorem dX2_paint_63 : decode cX2_paint 63 = .ok (.iload 4, 2) := by decide +kernel
theorem dX2_paint_65 : decode cX2_paint 65 = .ok (.iload 5, 2) := by decide +kernel
theorem dX2_paint_67 : decode cX2_paint 67 = .ok (.invokestatic 66, 3) := by decide +kernel
theorem dX2_paint_70 : decode cX2_paint 70 = .ok (.ladd, 1) := by decide +kernel
theorem dX2_paint_71 : decode cX2_paint 71 = .ok (.lstore 7, 2) := by decide +kernel
theorem dX2_paint_73 : decode cX2_paint 73 = .ok (.aload_n 2, 1) := by decide +kernel
theorem dX2_paint_74 : decode cX2_paint 74 = .ok (.iload 9, 2) := by decide +kernel
theorem dX2_paint_76 : decode cX2_paint 76 = .ok (.dup2, 1) := by decide +kernel
theorem dX2_paint_77 : decode cX2_paint 77 = .ok (.iaload, 1) := by decide +kernel
theorem dX2_paint_78 : decode cX2_paint 78 = .ok (.iconst 1, 1) := by decide +kernel
theorem dX2_paint_79 : decode cX2_paint 79 = .ok (.iload_n 3, 1) := by decide +kernel
theorem dX2_paint_80 : decode cX2_paint 80 = .ok (.ishl, 1) := by decide +kernel
theorem dX2_paint_81 : decode cX2_paint 81 = .ok (.ixor, 1) := by decide +kernel
theorem dX2_paint_82 : decode cX2_paint 82 = .ok (.iastore, 1) := by decide +kernel
theorem dX2_paint_83 : decode cX2_paint 83 = .ok (.iinc 9 1, 3) := by decide +kernel
theorem dX2_paint_86 : decode cX2_paint 86 = .ok (.goto (-65), 3) := by decide +kernel
theorem dX2_paint_89 : decode cX2_paint 89 = .ok (.iload 4, 2) := by decide +kernel
theorem dX2_paint_91 : decode cX2_paint 91 = .ok (.iload 5, 2) := by decide +kernel
theorem dX2_paint_93 : decode cX2_paint 93 = .ok (.if_icmp .ge 44, 3) := by decide +kernel
theorem dX2_paint_96 : decode cX2_paint 96 = .ok (.iload 4, 2) := by decide +kernel
theorem dX2_paint_98 : decode cX2_paint 98 = .ok (.aload_n 2, 1) := by decide +kernel
theorem dX2_paint_99 : decode cX2_paint 99 = .ok (.arraylength, 1) := by decide +kernel
theorem dX2_paint_100 : decode cX2_paint 100 = .ok (.if_icmp .ge 37, 3) := by decide +kernel
theorem dX2_paint_103 : decode cX2_paint 103 = .ok (.aload_n 2, 1) := by decide +kernel
theorem dX2_paint_104 : decode cX2_paint 104 = .ok (.iload 4, 2) := by decide +kernel
theorem dX2_paint_106 : decode cX2_paint 106 = .ok (.iconst 1, 1) := by decide +kernel
theorem dX2_paint_107 : decode cX2_paint 107 = .ok (.iload_n 3, 1) := by decide +kernel
theorem dX2_paint_108 : decode cX2_paint 108 = .ok (.ishl, 1) := by decide +kernel
theorem dX2_paint_109 : decode cX2_paint 109 = .ok (.iastore, 1) := by decide +kernel
theorem dX2_paint_110 : decode cX2_paint 110 = .ok (.lload 7, 2) := by decide +kernel
theorem dX2_paint_112 : decode cX2_paint 112 = .ok (.iload 5, 2) := by decide +kernel
theorem dX2_paint_114 : decode cX2_paint 114 = .ok (.iload 4, 2) := by decide +kernel
theorem dX2_paint_116 : decode cX2_paint 116 = .ok (.isub, 1) := by decide +kernel
theorem dX2_paint_117 : decode cX2_paint 117 = .ok (.i2l, 1) := by decide +kernel
theorem dX2_paint_118 : decode cX2_paint 118 = .ok (.iload_n 0, 1) := by decide +kernel
theorem dX2_paint_119 : decode cX2_paint 119 = .ok (.iload_n 1, 1) := by decide +kernel
theorem dX2_paint_120 : decode cX2_paint 120 = .ok (.aload_n 2, 1) := by decide +kernel
theorem dX2_paint_121 : decode cX2_paint 121 = .ok (.iload_n 3, 1) := by decide +kernel
theorem dX2_paint_122 : decode cX2_paint 122 = .ok (.iconst 1, 1) := by decide +kernel
theorem dX2_paint_123 : decode cX2_paint 123 = .ok (.iadd, 1) := by decide +kernel
theorem dX2_paint_124 : decode cX2_paint 124 = .ok (.iload 4, 2) := by decide +kernel
theorem dX2_paint_126 : decode cX2_paint 126 = .ok (.iconst 1, 1) := by decide +kernel
theorem dX2_paint_127 : decode cX2_paint 127 = .ok (.iadd, 1) := by decide +kernel
theorem dX2_paint_128 : decode cX2_paint 128 = .ok (.iload 5, 2) := by decide +kernel
theorem dX2_paint_130 : decode cX2_paint 130 = .ok (.invokestatic 66, 3) := by decide +kernel
theorem dX2_paint_133 : decode cX2_paint 133 = .ok (.lmul, 1) := by decide +kernel
theorem dX2_paint_134 : decode cX2_paint 134 = .ok (.ladd, 1) := by decide +kernel
theorem dX2_paint_135 : decode cX2_paint 135 = .ok (.lstore 7, 2) := by decide +kernel
theorem dX2_paint_137 : decode cX2_paint 137 = .ok (.lload 7, 2) := by decide +kernel
theorem dX2_paint_139 : decode cX2_paint 139 = .ok (.lreturn, 1) := by decide +kernel
def fp_X2_paint_L21 (self : Int32 → Int32 → Nat → Int32 → Int32 → Int32 → zM → Option (Int64 × zM)) (k89 : Int64 → zM → Option (Int64 × zM)) (v0 : Int32) (v1 : Int32) (v2 : Nat) (v3 : Int32) (v4 : Int32) (v5 : Int32) (v6 : Int32) : Nat → Int64 → Int32 → zM → Option (Int64 × zM)
  | 0, _, _, _ => none
  | n + 1, v7, v9, M =>
    if v9 ≥ v4 then (
      k89 v7 M)
    else (
      (zln M v2).bind fun (y2 : Int32) =>
      if v9 ≥ y2 then (
        k89 v7 M)
      else (
        (zlI 100 M v2 v9).bind fun (y3 : Int32) =>
        zjn (fun (v7_4 : Int64) (M5 : zM) =>
            fp_X2_paint_L21 self k89 v0 v1 v2 v3 v4 v5 v6 n v7_4 (v9 + 1) M5)
          (fun j83 =>
            if (y3 &&& v6) ≠ 0 then (
              j83 v7 M)
            else (
              (zlI 100 M v2 v9).bind fun (y6 : Int32) =>
              (ztI M v2 v9 (y6 ^^^ (1 <<< (v3 &&& 31)))).bind fun (M7 : zM) =>
              (self v0 v1 v2 (v3 + 1) v4 v5 M7).bind fun p10 => zpp p10 fun (y8 : Int64) (M9 : zM) =>
              lett ((v7 + y8)) fun (v7_11 : Int64) =>
              (zlI 100 M9 v2 v9).bind fun (y12 : Int32) =>
              (ztI M9 v2 v9 (y12 ^^^ (1 <<< (v3 &&& 31)))).bind fun (M13 : zM) =>
              j83 v7_11 M13))))
def fp_X2_paint : Nat → Int32 → Int32 → Nat → Int32 → Int32 → Int32 → zM → Option (Int64 × zM)
  | 0, _, _, _, _, _, _, _ => none
  | n + 1, v0, v1, v2, v3, v4, v5, M =>
    if v3 < v0 then (
      (fp_X2_nearTo v0 v1 v3).bind fun (y1 : Int32) =>
      fp_X2_paint_L21 (fun w0 w1 w2 w3 w4 w5 Mw => fp_X2_paint n w0 w1 w2 w3 w4 w5 Mw)
        (fun v7_14 M15 =>
          if v4 ≥ v5 then (
            some (v7_14, M15))
          else (
            (zln M15 v2).bind fun (y16 : Int32) =>
            if v4 ≥ y16 then (
              some (v7_14, M15))
            else (
              (ztI M15 v2 v4 (1 <<< (v3 &&& 31))).bind fun (M17 : zM) =>
              (fp_X2_paint n v0 v1 v2 (v3 + 1) (v4 + 1) v5 M17).bind fun p20 => zpp p20 fun (y18 : Int64) (M19 : zM) =>
              lett ((v7_14 + (((v5 - v4).toInt64) * y18))) fun (v7_21 : Int64) =>
              some (v7_21, M19)))) v0 v1 v2 v3 v4 v5 y1 FU 0 0 M)
    else (
      some (1, M))
set_option maxHeartbeats 4000000 in
set_option maxRecDepth 100000 in
theorem w_X2_paint_L21 (E : zEnv) (hE : zEok E) (d : Nat) (hd : 2 ≤ d) (M0 : zM) (x0 : Int64 × zM) (self : Int32 → Int32 → Nat → Int32 → Int32 → Int32 → zM → Option (Int64 × zM)) (hself : ∀ (v0 : Int32) (v1 : Int32) (v2 : Nat) (v3 : Int32) (v4 : Int32) (v5 : Int32) (M : zM) (y0 : Int64 × zM), self v0 v1 v2 v3 v4 v5 M = some y0 → zCt E mu_X2_paint (d - 1) [.int v0, .int v1, .ref (E.2.2.2.1 + v2), .int v3, .int v4, .int v5] M (some (.long y0.1), y0.2)) (v0 : Int32) (v1 : Int32) (v2 : Nat) (v3 : Int32) (v4 : Int32) (v5 : Int32) (v6 : Int32) (k89 : Int64 → zM → Option (Int64 × zM)) (hk89 : ∀ (v7 : Int64) (M : zM), zSy E mu_X2_paint d M0 (some (.long x0.1), x0.2) x0 (k89 v7 M) 89 [(0, .int v0), (1, .int v1), (2, .ref (E.2.2.2.1 + v2)), (3, .int v3), (4, .int v4), (5, .int v5), (7, .long v7)] [] M) : ∀ (n : Nat) (v7 : Int64) (v9 : Int32) (M : zM), zSy E mu_X2_paint d M0 (some (.long x0.1), x0.2) x0 (fp_X2_paint_L21 self k89 v0 v1 v2 v3 v4 v5 v6 n v7 v9 M) 21 [(0, .int v0), (1, .int v1), (2, .ref (E.2.2.2.1 + v2)), (3, .int v3), (4, .int v4), (5, .int v5), (6, .int v6), (7, .long v7), (9, .int v9)] [] M := by
  intro n
  induction n with
  | zero =>
    intro v7 v9 M
    rw [fp_X2_paint_L21]
    exact zs_none
  | succ n ih =>
    intro v7 v9 M
    rw [fp_X2_paint_L21]
    refine zs_iload dX2_paint_21 8 rfl ?_
    refine zs_iload dX2_paint_23 4 rfl ?_
    refine zs_icmp_ge dX2_paint_25 rfl ?_ ?_
    · refine zs_sub (loc' := [(0, .int v0), (1, .int v1), (2, .ref (E.2.2.2.1 + v2)), (3, .int v3), (4, .int v4), (5, .int v5), (7, .long v7)]) [0, 1, 2, 3, 4, 5, 7] rfl ?_
      exact hk89 v7 M
    refine zs_iload dX2_paint_28 8 rfl ?_
    refine zs_aload_n dX2_paint_30 rfl 2 rfl ?_
    refine zs_alen dX2_paint_31 (fun y2 => ?_)
    refine zs_icmp_ge dX2_paint_32 rfl ?_ ?_
    · refine zs_sub (loc' := [(0, .int v0), (1, .int v1), (2, .ref (E.2.2.2.1 + v2)), (3, .int v3), (4, .int v4), (5, .int v5), (7, .long v7)]) [0, 1, 2, 3, 4, 5, 7] rfl ?_
      exact hk89 v7 M
    refine zs_aload_n dX2_paint_35 rfl 2 rfl ?_
    refine zs_iload dX2_paint_36 8 rfl ?_
    refine zs_ldI dX2_paint_38 (fun y3 => ?_)
    refine zs_iload dX2_paint_39 6 rfl ?_
    refine zs_iand dX2_paint_41 ?_
    refine zs_jn (fun j83 => ∀ (v7_4 : Int64) (M5 : zM), zSy E mu_X2_paint d M0 (some (.long x0.1), x0.2) x0 (j83 v7_4 M5) 83 [(0, .int v0), (1, .int v1), (2, .ref (E.2.2.2.1 + v2)), (3, .int v3), (4, .int v4), (5, .int v5), (6, .int v6), (7, .long v7_4), (9, .int v9)] [] M5) (fun v7_4 M5 => ?_) (fun j83 hj83 => ?_)
    · refine zs_iinc (v := (v9 + 1)) (loc' := [(0, .int v0), (1, .int v1), (2, .ref (E.2.2.2.1 + v2)), (3, .int v3), (4, .int v4), (5, .int v5), (6, .int v6), (7, .long v7_4), (9, .int (v9 + 1))]) dX2_paint_83 8 rfl (by rfl) (Nat.le_of_ble_eq_true rfl) [1, 2, 3, 4, 5, 6, 7, 8, 0] rfl ?_
      refine zs_goto dX2_paint_86 rfl ?_
      exact ih v7_4 (v9 + 1) M5
    refine zs_if_ne dX2_paint_42 rfl ?_ ?_
    · exact hj83 v7 M
    refine zs_aload_n dX2_paint_45 rfl 2 rfl ?_
    refine zs_iload dX2_paint_46 8 rfl ?_
    refine zs_dup2 dX2_paint_48 rfl rfl ?_
    refine zs_ldI dX2_paint_49 (fun y6 => ?_)
    refine zs_iconst (v := 1) dX2_paint_50 ciconst_1 ?_
    refine zs_iload_n dX2_paint_51 rfl 3 rfl ?_
    refine zs_ishl dX2_paint_52 ?_
    refine zs_ixor dX2_paint_53 ?_
    refine zs_stI dX2_paint_54 (fun M7 => ?_)
    refine zs_lload dX2_paint_55 7 rfl ?_
    refine zs_iload_n dX2_paint_57 rfl 0 rfl ?_
    refine zs_iload_n dX2_paint_58 rfl 1 rfl ?_
    refine zs_aload_n dX2_paint_59 rfl 2 rfl ?_
    refine zs_iload_n dX2_paint_60 rfl 3 rfl ?_
    refine zs_iconst (v := 1) dX2_paint_61 ciconst_1 ?_
    refine zs_iadd dX2_paint_62 ?_
    refine zs_iload dX2_paint_63 4 rfl ?_
    refine zs_iload dX2_paint_65 5 rfl ?_
    refine zs_invSWJ (rest := [.long v7]) [.int v0, .int v1, .ref (E.2.2.2.1 + v2), .int (v3 + 1), .int v4, .int v5] dX2_paint_67 lk_X2_66 rfl (zd1 rfl hd) rfl (Nat.le_of_ble_eq_true rfl) (hself _ _ _ _ _ _ _) (fun y8 M9 => ?_)
    refine zs_ladd dX2_paint_70 ?_
    refine zs_lstoreL (loc' := fun v7_11 => [(0, .int v0), (1, .int v1), (2, .ref (E.2.2.2.1 + v2)), (3, .int v3), (4, .int v4), (5, .int v5), (6, .int v6), (7, .long v7_11), (9, .int v9)]) dX2_paint_71 (Nat.le_of_ble_eq_true rfl) [1, 2, 3, 4, 5, 6, 7, 0, 8] (fun _ => rfl) (fun v7_11 => ?_)
    refine zs_aload_n dX2_paint_73 rfl 2 rfl ?_
    refine zs_iload dX2_paint_74 8 rfl ?_
    refine zs_dup2 dX2_paint_76 rfl rfl ?_
    refine zs_ldI dX2_paint_77 (fun y12 => ?_)
    refine zs_iconst (v := 1) dX2_paint_78 ciconst_1 ?_
    refine zs_iload_n dX2_paint_79 rfl 3 rfl ?_
    refine zs_ishl dX2_paint_80 ?_
    refine zs_ixor dX2_paint_81 ?_
    refine zs_stI dX2_paint_82 (fun M13 => ?_)
    exact hj83 v7_11 M13
set_option maxHeartbeats 4000000 in
set_option maxRecDepth 100000 in
theorem ct_X2_paint (E : zEnv) (hE : zEok E) : ∀ (n : Nat) (d : Nat) (_ : n + 2 ≤ d) (v0 : Int32) (v1 : Int32) (v2 : Nat) (v3 : Int32) (v4 : Int32) (v5 : Int32) (M : zM) (x0 : Int64 × zM) (_ : fp_X2_paint n v0 v1 v2 v3 v4 v5 M = some x0), zCt E mu_X2_paint d [.int v0, .int v1, .ref (E.2.2.2.1 + v2), .int v3, .int v4, .int v5] M (some (.long x0.1), x0.2) := by
  intro n
  induction n with
  | zero =>
    intro d hd v0 v1 v2 v3 v4 v5 M x0 hx
    rw [fp_X2_paint] at hx
    cases hx
  | succ n ih0 =>
    intro d hd0 v0 v1 v2 v3 v4 v5 M x0 hx
    have hd : 2 ≤ d := by omega
    have ih := ih0 (d - 1) (by omega)
    refine zCt_of (μ := mu_X2_paint) (t := fp_X2_paint (n + 1) v0 v1 v2 v3 v4 v5 M) rfl rfl (Nat.le_of_ble_eq_true rfl) hx ?_
    change zSy E mu_X2_paint d M (some (.long x0.1), x0.2) x0 (fp_X2_paint (n + 1) v0 v1 v2 v3 v4 v5 M) 0 [(0, .int v0), (1, .int v1), (2, .ref (E.2.2.2.1 + v2)), (3, .int v3), (4, .int v4), (5, .int v5)] [] M
    rw [fp_X2_paint]
    refine zs_iload_n dX2_paint_0 rfl 3 rfl ?_
    refine zs_iload_n dX2_paint_1 rfl 0 rfl ?_
    refine zs_icmp_lt dX2_paint_2 rfl ?_ ?_
    · refine zs_iload_n dX2_paint_7 rfl 0 rfl ?_
      refine zs_iload_n dX2_paint_8 rfl 1 rfl ?_
      refine zs_iload_n dX2_paint_9 rfl 3 rfl ?_
      refine zs_invSPI (rest := []) [.int v0, .int v1, .int v3] dX2_paint_10 lk_X2_20 rfl (zd1 rfl hd) rfl (Nat.le_of_ble_eq_true rfl) (ct_X2_nearTo E hE _ (zdl rfl hd) _ _ _ _) (fun y1 => ?_)
      refine zs_istore (loc' := [(0, .int v0), (1, .int v1), (2, .ref (E.2.2.2.1 + v2)), (3, .int v3), (4, .int v4), (5, .int v5), (6, .int y1)]) dX2_paint_13 (Nat.le_of_ble_eq_true rfl) [1, 2, 3, 4, 5, 6, 0] rfl ?_
      refine zs_lconst (v := 0) dX2_paint_15 (by rfl) ?_
      refine zs_lstore (loc' := [(0, .int v0), (1, .int v1), (2, .ref (E.2.2.2.1 + v2)), (3, .int v3), (4, .int v4), (5, .int v5), (6, .int y1), (7, .long 0)]) dX2_paint_16 (Nat.le_of_ble_eq_true rfl) [1, 2, 3, 4, 5, 6, 7, 0] rfl ?_
      refine zs_iconst (v := 0) dX2_paint_18 ciconst_0 ?_
      refine zs_istore (loc' := [(0, .int v0), (1, .int v1), (2, .ref (E.2.2.2.1 + v2)), (3, .int v3), (4, .int v4), (5, .int v5), (6, .int y1), (7, .long 0), (9, .int 0)]) dX2_paint_19 (Nat.le_of_ble_eq_true rfl) [1, 2, 3, 4, 5, 6, 7, 8, 0] rfl ?_
      refine w_X2_paint_L21 E hE d hd _ _ _ ih _ _ _ _ _ _ _ _ (fun v7_14 M15 => ?_) _ _ _ _
      refine zs_iload dX2_paint_89 4 rfl ?_
      refine zs_iload dX2_paint_91 5 rfl ?_
      refine zs_icmp_ge dX2_paint_93 rfl ?_ ?_
      · refine zs_lload dX2_paint_137 6 rfl ?_
        exact zs_lretW dX2_paint_139 trivial
      refine zs_iload dX2_paint_96 4 rfl ?_
      refine zs_aload_n dX2_paint_98 rfl 2 rfl ?_
      refine zs_alen dX2_paint_99 (fun y16 => ?_)
      refine zs_icmp_ge dX2_paint_100 rfl ?_ ?_
      · refine zs_lload dX2_paint_137 6 rfl ?_
        exact zs_lretW dX2_paint_139 trivial
      refine zs_aload_n dX2_paint_103 rfl 2 rfl ?_
      refine zs_iload dX2_paint_104 4 rfl ?_
      refine zs_iconst (v := 1) dX2_paint_106 ciconst_1 ?_
      refine zs_iload_n dX2_paint_107 rfl 3 rfl ?_
      refine zs_ishl dX2_paint_108 ?_
      refine zs_stI dX2_paint_109 (fun M17 => ?_)
      refine zs_lload dX2_paint_110 6 rfl ?_
      refine zs_iload dX2_paint_112 5 rfl ?_
      refine zs_iload dX2_paint_114 4 rfl ?_
      refine zs_isub dX2_paint_116 ?_
      refine zs_i2l dX2_paint_117 ?_
      refine zs_iload_n dX2_paint_118 rfl 0 rfl ?_
      refine zs_iload_n dX2_paint_119 rfl 1 rfl ?_
      refine zs_aload_n dX2_paint_120 rfl 2 rfl ?_
      refine zs_iload_n dX2_paint_121 rfl 3 rfl ?_
      refine zs_iconst (v := 1) dX2_paint_122 ciconst_1 ?_
      refine zs_iadd dX2_paint_123 ?_
      refine zs_iload dX2_paint_124 4 rfl ?_
      refine zs_iconst (v := 1) dX2_paint_126 ciconst_1 ?_
      refine zs_iadd dX2_paint_127 ?_
      refine zs_iload dX2_paint_128 5 rfl ?_
      refine zs_invSWJ (rest := [.long ((v5 - v4).toInt64), .long v7_14]) [.int v0, .int v1, .ref (E.2.2.2.1 + v2), .int (v3 + 1), .int (v4 + 1), .int v5] dX2_paint_130 lk_X2_66 rfl (zd1 rfl hd) rfl (Nat.le_of_ble_eq_true rfl) (ih _ _ _ _ _ _ _) (fun y18 M19 => ?_)
      refine zs_lmul dX2_paint_133 ?_
      refine zs_ladd dX2_paint_134 ?_
      refine zs_lstoreL (loc' := fun v7_21 => [(7, .long v7_21)]) dX2_paint_135 (Nat.le_of_ble_eq_true rfl) [0] (fun _ => rfl) (fun v7_21 => ?_)
      refine zs_lload dX2_paint_137 0 rfl ?_
      exact zs_lretW dX2_paint_139 trivial
    refine zs_lconst (v := 1) dX2_paint_5 (by rfl) ?_
    exact zs_lretW dX2_paint_6 trivial
theorem dX3_init_0 : decode cX3_init 0 = .ok (.aload_n 0, 1) := by decide +kernel
theorem dX3_init_1 : decode cX3_init 1 = .ok (.invokespecial 3, 3) := by decide +kernel
theorem dX3_init_4 : decode cX3_init 4 = .ok (.aload_n 0, 1) := by decide +kernel
theorem dX3_init_5 : decode cX3_init 5 = .ok (.bipush 8, 2) := by decide +kernel
theorem dX3_init_7 : decode cX3_init 7 = .ok (.bipush 8, 2) := by decide +kernel
theorem dX3_init_9 : decode cX3_init 9 = .ok (.multianewarray 11 2, 4) := by decide +kernel
theorem dX3_init_13 : decode cX3_init 13 = .ok (.putfield 13, 3) := by decide +kernel
theorem dX3_init_16 : decode cX3_init 16 = .ok (.aload_n 0, 1) := by decide +kernel
theorem dX3_init_17 : decode cX3_init 17 = .ok (.bipush 8, 2) := by decide +kernel
theorem dX3_init_19 : decode cX3_init 19 = .ok (.newarray .int, 2) := by decide +kernel
theorem dX3_init_21 : decode cX3_init 21 = .ok (.putfield 16, 3) := by decide +kernel
theorem dX3_init_24 : decode cX3_init 24 = .ok (.aload_n 0, 1) := by decide +kernel
theorem dX3_init_25 : decode cX3_init 25 = .ok (.bipush 8, 2) := by decide +kernel
theorem dX3_init_27 : decode cX3_init 27 = .ok (.newarray .int, 2) := by decide +kernel
theorem dX3_init_29 : decode cX3_init 29 = .ok (.putfield 20, 3) := by decide +kernel
theorem dX3_init_32 : decode cX3_init 32 = .ok (.return_, 1) := by decide +kernel
def fp_X3_init (v0 : Nat) (M : zM) : Option (zM) :=
  zthis 2 M v0 (
    (zmn M 8 8).bind fun p3 => zpp p3 fun (q1 : Nat) (M2 : zM) =>
    (zpR 2 M2 v0 0 q1).bind fun (M4 : zM) =>
    (zna 100 M4 8).bind fun p7 => zpp p7 fun (q5 : Nat) (M6 : zM) =>
    (zpR 2 M6 v0 1 q5).bind fun (M8 : zM) =>
    (zna 100 M8 8).bind fun p11 => zpp p11 fun (q9 : Nat) (M10 : zM) =>
    (zpR 2 M10 v0 2 q9).bind fun (M12 : zM) =>
    some M12)
set_option maxHeartbeats 4000000 in
set_option maxRecDepth 100000 in
theorem th_X3_init {v0 : Nat} {M : zM} {x0 : zM} (h : fp_X3_init v0 M = some x0) : v0 < zS M ∧ kd v0 = 2 := by
  unfold fp_X3_init at h
  exact zthis_of h
set_option maxHeartbeats 4000000 in
set_option maxRecDepth 100000 in
theorem ct_X3_init (E : zEnv) (hE : zEok E) (d : Nat) (hd : 2 ≤ d) (v0 : Nat) (M : zM) (x0 : zM) (hx : fp_X3_init v0 M = some x0) : zCt E mu_X3_init d [.ref (E.2.2.2.1 + v0)] M (none, x0) := by
  refine zCt_of (μ := mu_X3_init) (t := fp_X3_init v0 M) rfl rfl (Nat.le_of_ble_eq_true rfl) hx ?_
  change zSy E mu_X3_init d M (none, x0) x0 (fp_X3_init v0 M) 0 [(0, .ref (E.2.2.2.1 + v0))] [] M
  unfold fp_X3_init
  refine zs_this (fun hth => ?_)
  refine zs_aload_n dX3_init_0 rfl 0 rfl ?_
  refine zs_objInit dX3_init_1 (ti_1 122 rfl rfl) mi_oinit mc_oinit (zd0 rfl hd) (Nat.le_of_ble_eq_true rfl) ?_
  refine zs_aload_n dX3_init_4 rfl 0 rfl ?_
  refine zs_bipush (v := 8) dX3_init_5 cbipush_8 ?_
  refine zs_bipush (v := 8) dX3_init_7 cbipush_8 ?_
  refine zs_mnew hE dX3_init_9 (ti_1 123 rfl rfl) (ti_1 44 rfl rfl) (fun q1 M2 => ?_)
  refine zs_putRF dX3_init_13 fl_X3_13 ft_X3 rfl rfl rfl rfl rfl rfl rfl (fun M4 => ?_)
  refine zs_aload_n dX3_init_16 rfl 0 rfl ?_
  refine zs_bipush (v := 8) dX3_init_17 cbipush_8 ?_
  refine zs_newA dX3_init_19 rfl (by decide) (ti_1 44 rfl rfl) (fun q5 M6 => ?_)
  refine zs_putRF dX3_init_21 fl_X3_16 ft_X3 rfl rfl rfl rfl rfl rfl rfl (fun M8 => ?_)
  refine zs_aload_n dX3_init_24 rfl 0 rfl ?_
  refine zs_bipush (v := 8) dX3_init_25 cbipush_8 ?_
  refine zs_newA dX3_init_27 rfl (by decide) (ti_1 44 rfl rfl) (fun q9 M10 => ?_)
  refine zs_putRF dX3_init_29 fl_X3_20 ft_X3 rfl rfl rfl rfl rfl rfl rfl (fun M12 => ?_)
  exact zs_vret dX3_init_32 trivial
theorem dX3_begin_0 : decode cX3_begin 0 = .ok (.aload_n 0, 1) := by decide +kernel
theorem dX3_begin_1 : decode cX3_begin 1 = .ok (.getfield 23, 3) := by decide +kernel
theorem dX3_begin_4 : decode cX3_begin 4 = .ok (.bipush 8, 2) := by decide +kernel
theorem dX3_begin_6 : decode cX3_begin 6 = .ok (.if_icmp .lt 4, 3) := by decide +kernel
theorem dX3_begin_9 : decode cX3_begin 9 = .ok (.return_, 1) := by decide +kernel
theorem dX3_begin_10 : decode cX3_begin 10 = .ok (.iconst 0, 1) := by decide +kernel
theorem dX3_begin_11 : decode cX3_begin 11 = .ok (.istore 4, 2) := by decide +kernel
theorem dX3_begin_13 : decode cX3_begin 13 = .ok (.iconst 0, 1) := by decide +kernel
theorem dX3_begin_14 : decode cX3_begin 14 = .ok (.istore 5, 2) := by decide +kernel
theorem dX3_begin_16 : decode cX3_begin 16 = .ok (.iload 5, 2) := by decide +kernel
theorem dX3_begin_18 : decode cX3_begin 18 = .ok (.iload_n 1, 1) := by decide +kernel
theorem dX3_begin_19 : decode cX3_begin 19 = .ok (.if_icmp .ge 42, 3) := by decide +kernel
theorem dX3_begin_22 : decode cX3_begin 22 = .ok (.iload_n 3, 1) := by decide +kernel
theorem dX3_begin_23 : decode cX3_begin 23 = .ok (.iload 5, 2) := by decide +kernel
theorem dX3_begin_25 : decode cX3_begin 25 = .ok (.invokestatic 48, 3) := by decide +kernel
theorem dX3_begin_28 : decode cX3_begin 28 = .ok (.ifCond .eq 27, 3) := by decide +kernel
theorem dX3_begin_31 : decode cX3_begin 31 = .ok (.iload 4, 2) := by decide +kernel
theorem dX3_begin_33 : decode cX3_begin 33 = .ok (.bipush 8, 2) := by decide +kernel
theorem dX3_begin_35 : decode cX3_begin 35 = .ok (.if_icmp .ge 20, 3) := by decide +kernel
theorem dX3_begin_38 : decode cX3_begin 38 = .ok (.aload_n 0, 1) := by decide +kernel
theorem dX3_begin_39 : decode cX3_begin 39 = .ok (.getfield 13, 3) := by decide +kernel
theorem dX3_begin_42 : decode cX3_begin 42 = .ok (.aload_n 0, 1) := by decide +kernel
theorem dX3_begin_43 : decode cX3_begin 43 = .ok (.getfield 23, 3) := by decide +kernel
theorem dX3_begin_46 : decode cX3_begin 46 = .ok (.aaload, 1) := by decide +kernel
theorem dX3_begin_47 : decode cX3_begin 47 = .ok (.iload 4, 2) := by decide +kernel
theorem dX3_begin_49 : decode cX3_begin 49 = .ok (.iload 5, 2) := by decide +kernel
theorem dX3_begin_51 : decode cX3_begin 51 = .ok (.iastore, 1) := by decide +kernel
theorem dX3_begin_52 : decode cX3_begin 52 = .ok (.iinc 4 1, 3) := by decide +kernel
theorem dX3_begin_55 : decode cX3_begin 55 = .ok (.iinc 5 1, 3) := by decide +kernel
theorem dX3_begin_58 : decode cX3_begin 58 = .ok (.goto (-42), 3) := by decide +kernel
theorem dX3_begin_61 : decode cX3_begin 61 = .ok (.aload_n 0, 1) := by decide +kernel
theorem dX3_begin_62 : decode cX3_begin 62 = .ok (.getfield 16, 3) := by decide +kernel
theorem dX3_begin_65 : decode cX3_begin 65 = .ok (.aload_n 0, 1) := by decide +kernel
theorem dX3_begin_66 : decode cX3_begin 66 = .ok (.getfield 23, 3) := by decide +kernel
theorem dX3_begin_69 : decode cX3_begin 69 = .ok (.iload 4, 2) := by decide +kernel
theorem dX3_begin_71 : decode cX3_begin 71 = .ok (.iastore, 1) := by decide +kernel
theorem dX3_begin_72 : decode cX3_begin 72 = .ok (.aload_n 0, 1) := by decide +kernel
theorem dX3_begin_73 : decode cX3_begin 73 = .ok (.getfield 20, 3) := by decide +kernel
theorem dX3_begin_76 : decode cX3_begin 76 = .ok (.aload_n 0, 1) := by decide +kernel
theorem dX3_begin_77 : decode cX3_begin 77 = .ok (.getfield 23, 3) := by decide +kernel
theorem dX3_begin_80 : decode cX3_begin 80 = .ok (.iload_n 1, 1) := by decide +kernel
theorem dX3_begin_81 : decode cX3_begin 81 = .ok (.iload_n 2, 1) := by decide +kernel
theorem dX3_begin_82 : decode cX3_begin 82 = .ok (.iload_n 3, 1) := by decide +kernel
theorem dX3_begin_83 : decode cX3_begin 83 = .ok (.invokestatic 51, 3) := by decide +kernel
theorem dX3_begin_86 : decode cX3_begin 86 = .ok (.iastore, 1) := by decide +kernel
theorem dX3_begin_87 : decode cX3_begin 87 = .ok (.aload_n 0, 1) := by decide +kernel
theorem dX3_begin_88 : decode cX3_begin 88 = .ok (.dup, 1) := by decide +kernel
theorem dX3_begin_89 : decode cX3_begin 89 = .ok (.getfield 23, 3) := by decide +kernel
theorem dX3_begin_92 : decode cX3_begin 92 = .ok (.iconst 1, 1) := by decide +kernel
theorem dX3_begin_93 : decode cX3_begin 93 = .ok (.iadd, 1) := by decide +kernel
theorem dX3_begin_94 : decode cX3_begin 94 = .ok (.putfield 23, 3) := by decide +kernel
theorem dX3_begin_97 : decode cX3_begin 97 = .ok (.return_, 1) := by decide +kernel
def fp_X3_begin_L16 (k61 : Int32 → zM → Option (zM)) (v0 : Nat) (v1 : Int32) (v2 : Int32) (v3 : Int32) : Nat → Int32 → Int32 → zM → Option (zM)
  | 0, _, _, _ => none
  | n + 1, v4, v5, M =>
    if v5 ≥ v1 then (
      k61 v4 M)
    else (
      (fp_X2_isIn v3 v5).bind fun (y2 : Int32) =>
      zjn (fun (v4_3 : Int32) (M4 : zM) =>
          fp_X3_begin_L16 k61 v0 v1 v2 v3 n v4_3 (v5 + 1) M4)
        (fun j55 =>
          if y2 = 0 then (
            j55 v4 M)
          else (
            if v4 ≥ 8 then (
              j55 v4 M)
            else (
              (zgR 2 M v0 0).bind fun (y5 : Nat) =>
              (zgI 2 M v0 3).bind fun (y6 : Int32) =>
              (zlR M y5 y6).bind fun (y7 : Nat) =>
              (ztI M y7 v4 v5).bind fun (M8 : zM) =>
              j55 (v4 + 1) M8))))
def fp_X3_begin (v0 : Nat) (v1 : Int32) (v2 : Int32) (v3 : Int32) (M : zM) : Option (zM) :=
  zthis 2 M v0 (
    (zgI 2 M v0 3).bind fun (y1 : Int32) =>
    if y1 < 8 then (
      fp_X3_begin_L16
        (fun v4_9 M10 =>
          (zgR 2 M10 v0 1).bind fun (y11 : Nat) =>
          (zgI 2 M10 v0 3).bind fun (y12 : Int32) =>
          (ztI M10 y11 y12 v4_9).bind fun (M13 : zM) =>
          (zgR 2 M13 v0 2).bind fun (y14 : Nat) =>
          (zgI 2 M13 v0 3).bind fun (y15 : Int32) =>
          (fp_X2_part v1 v2 v3).bind fun (y16 : Int32) =>
          (ztI M13 y14 y15 y16).bind fun (M17 : zM) =>
          (zgI 2 M17 v0 3).bind fun (y18 : Int32) =>
          (zpI 2 M17 v0 3 (y18 + 1)).bind fun (M19 : zM) =>
          some M19) v0 v1 v2 v3 FU 0 0 M)
    else (
      some M))
set_option maxHeartbeats 4000000 in
set_option maxRecDepth 100000 in
theorem th_X3_begin {v0 : Nat} {v1 : Int32} {v2 : Int32} {v3 : Int32} {M : zM} {x0 : zM} (h : fp_X3_begin v0 v1 v2 v3 M = some x0) : v0 < zS M ∧ kd v0 = 2 := by
  unfold fp_X3_begin at h
  exact zthis_of h
set_option maxHeartbeats 4000000 in
set_option maxRecDepth 100000 in
theorem w_X3_begin_L16 (E : zEnv) (hE : zEok E) (d : Nat) (hd : 3 ≤ d) (M0 : zM) (x0 : zM) (v0 : Nat) (v1 : Int32) (v2 : Int32) (v3 : Int32) (k61 : Int32 → zM → Option (zM)) (hk61 : ∀ (v4 : Int32) (M : zM), zSy E mu_X3_begin d M0 (none, x0) x0 (k61 v4 M) 61 [(0, .ref (E.2.2.2.1 + v0)), (1, .int v1), (2, .int v2), (3, .int v3), (4, .int v4)] [] M) : ∀ (n : Nat) (v4 : Int32) (v5 : Int32) (M : zM), zSy E mu_X3_begin d M0 (none, x0) x0 (fp_X3_begin_L16 k61 v0 v1 v2 v3 n v4 v5 M) 16 [(0, .ref (E.2.2.2.1 + v0)), (1, .int v1), (2, .int v2), (3, .int v3), (4, .int v4), (5, .int v5)] [] M := by
  intro n
  induction n with
  | zero =>
    intro v4 v5 M
    rw [fp_X3_begin_L16]
    exact zs_none
  | succ n ih =>
    intro v4 v5 M
    rw [fp_X3_begin_L16]
    refine zs_iload dX3_begin_16 5 rfl ?_
    refine zs_iload_n dX3_begin_18 rfl 1 rfl ?_
    refine zs_icmp_ge dX3_begin_19 rfl ?_ ?_
    · refine zs_sub (loc' := [(0, .ref (E.2.2.2.1 + v0)), (1, .int v1), (2, .int v2), (3, .int v3), (4, .int v4)]) [0, 1, 2, 3, 4] rfl ?_
      exact hk61 v4 M
    refine zs_iload_n dX3_begin_22 rfl 3 rfl ?_
    refine zs_iload dX3_begin_23 5 rfl ?_
    refine zs_invSPI (rest := []) [.int v3, .int v5] dX3_begin_25 lk_X3_48 rfl (zd1 rfl hd) rfl (Nat.le_of_ble_eq_true rfl) (ct_X2_isIn E hE _ (zdl rfl hd) _ _ _) (fun y2 => ?_)
    refine zs_jn (fun j55 => ∀ (v4_3 : Int32) (M4 : zM), zSy E mu_X3_begin d M0 (none, x0) x0 (j55 v4_3 M4) 55 [(0, .ref (E.2.2.2.1 + v0)), (1, .int v1), (2, .int v2), (3, .int v3), (4, .int v4_3), (5, .int v5)] [] M4) (fun v4_3 M4 => ?_) (fun j55 hj55 => ?_)
    · refine zs_iinc (v := (v5 + 1)) (loc' := [(0, .ref (E.2.2.2.1 + v0)), (1, .int v1), (2, .int v2), (3, .int v3), (4, .int v4_3), (5, .int (v5 + 1))]) dX3_begin_55 5 rfl (by rfl) (Nat.le_of_ble_eq_true rfl) [1, 2, 3, 4, 5, 0] rfl ?_
      refine zs_goto dX3_begin_58 rfl ?_
      exact ih v4_3 (v5 + 1) M4
    refine zs_if_eq dX3_begin_28 rfl ?_ ?_
    · exact hj55 v4 M
    refine zs_iload dX3_begin_31 4 rfl ?_
    refine zs_bipush (v := 8) dX3_begin_33 cbipush_8 ?_
    refine zs_icmp_ge dX3_begin_35 rfl ?_ ?_
    · exact hj55 v4 M
    refine zs_aload_n dX3_begin_38 rfl 0 rfl ?_
    refine zs_getR dX3_begin_39 fl_X3_13 rfl (fun y5 => ?_)
    refine zs_aload_n dX3_begin_42 rfl 0 rfl ?_
    refine zs_getI dX3_begin_43 fl_X3_23 rfl (fun y6 => ?_)
    refine zs_ldR dX3_begin_46 (fun y7 => ?_)
    refine zs_iload dX3_begin_47 4 rfl ?_
    refine zs_iload dX3_begin_49 5 rfl ?_
    refine zs_stI dX3_begin_51 (fun M8 => ?_)
    refine zs_iinc (v := (v4 + 1)) (loc' := [(0, .ref (E.2.2.2.1 + v0)), (1, .int v1), (2, .int v2), (3, .int v3), (4, .int (v4 + 1)), (5, .int v5)]) dX3_begin_52 4 rfl (by rfl) (Nat.le_of_ble_eq_true rfl) [1, 2, 3, 4, 0, 5] rfl ?_
    exact hj55 (v4 + 1) M8
set_option maxHeartbeats 4000000 in
set_option maxRecDepth 100000 in
theorem ct_X3_begin (E : zEnv) (hE : zEok E) (d : Nat) (hd : 3 ≤ d) (v0 : Nat) (v1 : Int32) (v2 : Int32) (v3 : Int32) (M : zM) (x0 : zM) (hx : fp_X3_begin v0 v1 v2 v3 M = some x0) : zCt E mu_X3_begin d [.ref (E.2.2.2.1 + v0), .int v1, .int v2, .int v3] M (none, x0) := by
  refine zCt_of (μ := mu_X3_begin) (t := fp_X3_begin v0 v1 v2 v3 M) rfl rfl (Nat.le_of_ble_eq_true rfl) hx ?_
  change zSy E mu_X3_begin d M (none, x0) x0 (fp_X3_begin v0 v1 v2 v3 M) 0 [(0, .ref (E.2.2.2.1 + v0)), (1, .int v1), (2, .int v2), (3, .int v3)] [] M
  unfold fp_X3_begin
  refine zs_this (fun hth => ?_)
  refine zs_aload_n dX3_begin_0 rfl 0 rfl ?_
  refine zs_getI dX3_begin_1 fl_X3_23 rfl (fun y1 => ?_)
  refine zs_bipush (v := 8) dX3_begin_4 cbipush_8 ?_
  refine zs_icmp_lt dX3_begin_6 rfl ?_ ?_
  · refine zs_iconst (v := 0) dX3_begin_10 ciconst_0 ?_
    refine zs_istore (loc' := [(0, .ref (E.2.2.2.1 + v0)), (1, .int v1), (2, .int v2), (3, .int v3), (4, .int 0)]) dX3_begin_11 (Nat.le_of_ble_eq_true rfl) [1, 2, 3, 4, 0] rfl ?_
    refine zs_iconst (v := 0) dX3_begin_13 ciconst_0 ?_
    refine zs_istore (loc' := [(0, .ref (E.2.2.2.1 + v0)), (1, .int v1), (2, .int v2), (3, .int v3), (4, .int 0), (5, .int 0)]) dX3_begin_14 (Nat.le_of_ble_eq_true rfl) [1, 2, 3, 4, 5, 0] rfl ?_
    refine w_X3_begin_L16 E hE d hd _ _ _ _ _ _ _ (fun v4_9 M10 => ?_) _ _ _ _
    refine zs_aload_n dX3_begin_61 rfl 0 rfl ?_
    refine zs_getR dX3_begin_62 fl_X3_16 rfl (fun y11 => ?_)
    refine zs_aload_n dX3_begin_65 rfl 0 rfl ?_
    refine zs_getI dX3_begin_66 fl_X3_23 rfl (fun y12 => ?_)
    refine zs_iload dX3_begin_69 4 rfl ?_
    refine zs_stI dX3_begin_71 (fun M13 => ?_)
    refine zs_aload_n dX3_begin_72 rfl 0 rfl ?_
    refine zs_getR dX3_begin_73 fl_X3_20 rfl (fun y14 => ?_)
    refine zs_aload_n dX3_begin_76 rfl 0 rfl ?_
    refine zs_getI dX3_begin_77 fl_X3_23 rfl (fun y15 => ?_)
    refine zs_iload_n dX3_begin_80 rfl 1 rfl ?_
    refine zs_iload_n dX3_begin_81 rfl 2 rfl ?_
    refine zs_iload_n dX3_begin_82 rfl 3 rfl ?_
    refine zs_invSPI (rest := [.int y15, .ref (E.2.2.2.1 + y14)]) [.int v1, .int v2, .int v3] dX3_begin_83 lk_X3_51 rfl (zd1 rfl hd) rfl (Nat.le_of_ble_eq_true rfl) (ct_X2_part E hE _ (zdl rfl hd) _ _ _ _) (fun y16 => ?_)
    refine zs_stI dX3_begin_86 (fun M17 => ?_)
    refine zs_aload_n dX3_begin_87 rfl 0 rfl ?_
    refine zs_dup dX3_begin_88 rfl ?_
    refine zs_getI dX3_begin_89 fl_X3_23 rfl (fun y18 => ?_)
    refine zs_iconst (v := 1) dX3_begin_92 ciconst_1 ?_
    refine zs_iadd dX3_begin_93 ?_
    refine zs_putI dX3_begin_94 fl_X3_23 ft_X3 rfl rfl rfl rfl rfl (fun M19 => ?_)
    exact zs_vret dX3_begin_97 trivial
  exact zs_vret dX3_begin_9 trivial
theorem dX3_cut_0 : decode cX3_cut 0 = .ok (.aload_n 0, 1) := by decide +kernel
theorem dX3_cut_1 : decode cX3_cut 1 = .ok (.getfield 16, 3) := by decide +kernel
theorem dX3_cut_4 : decode cX3_cut 4 = .ok (.iload_n 1, 1) := by decide +kernel
theorem dX3_cut_5 : decode cX3_cut 5 = .ok (.iaload, 1) := by decide +kernel
theorem dX3_cut_6 : decode cX3_cut 6 = .ok (.istore 4, 2) := by decide +kernel
theorem dX3_cut_8 : decode cX3_cut 8 = .ok (.aload_n 0, 1) := by decide +kernel
theorem dX3_cut_9 : decode cX3_cut 9 = .ok (.getfield 20, 3) := by decide +kernel
theorem dX3_cut_12 : decode cX3_cut 12 = .ok (.iload_n 1, 1) := by decide +kernel
theorem dX3_cut_13 : decode cX3_cut 13 = .ok (.iaload, 1) := by decide +kernel
theorem dX3_cut_14 : decode cX3_cut 14 = .ok (.istore 5, 2) := by decide +kernel
theorem dX3_cut_16 : decode cX3_cut 16 = .ok (.iload 4, 2) := by decide +kernel
theorem dX3_cut_18 : decode cX3_cut 18 = .ok (.iload 5, 2) := by decide +kernel
theorem dX3_cut_20 : decode cX3_cut 20 = .ok (.iload_n 2, 1) := by decide +kernel
theorem dX3_cut_21 : decode cX3_cut 21 = .ok (.invokestatic 51, 3) := by decide +kernel
theorem dX3_cut_24 : decode cX3_cut 24 = .ok (.istore 6, 2) := by decide +kernel
theorem dX3_cut_26 : decode cX3_cut 26 = .ok (.iload_n 2, 1) := by decide +kernel
theorem dX3_cut_27 : decode cX3_cut 27 = .ok (.invokestatic 67, 3) := by decide +kernel
theorem dX3_cut_30 : decode cX3_cut 30 = .ok (.istore 7, 2) := by decide +kernel
theorem dX3_cut_32 : decode cX3_cut 32 = .ok (.iconst 0, 1) := by decide +kernel
theorem dX3_cut_33 : decode cX3_cut 33 = .ok (.istore 8, 2) := by decide +kernel
theorem dX3_cut_35 : decode cX3_cut 35 = .ok (.iconst 0, 1) := by decide +kernel
theorem dX3_cut_36 : decode cX3_cut 36 = .ok (.istore 9, 2) := by decide +kernel
theorem dX3_cut_38 : decode cX3_cut 38 = .ok (.iload 9, 2) := by decide +kernel
theorem dX3_cut_40 : decode cX3_cut 40 = .ok (.iload 4, 2) := by decide +kernel
theorem dX3_cut_42 : decode cX3_cut 42 = .ok (.if_icmp .ge 76, 3) := by decide +kernel
theorem dX3_cut_45 : decode cX3_cut 45 = .ok (.iload 8, 2) := by decide +kernel
theorem dX3_cut_47 : decode cX3_cut 47 = .ok (.bipush 8, 2) := by decide +kernel
theorem dX3_cut_49 : decode cX3_cut 49 = .ok (.if_icmp .ge 69, 3) := by decide +kernel
theorem dX3_cut_52 : decode cX3_cut 52 = .ok (.iload_n 2, 1) := by decide +kernel
theorem dX3_cut_53 : decode cX3_cut 53 = .ok (.iload 9, 2) := by decide +kernel
theorem dX3_cut_55 : decode cX3_cut 55 = .ok (.invokestatic 48, 3) := by decide +kernel
theorem dX3_cut_58 : decode cX3_cut 58 = .ok (.ifCond .eq 54, 3) := by decide +kernel
theorem dX3_cut_61 : decode cX3_cut 61 = .ok (.aload_n 0, 1) := by decide +kernel
theorem dX3_cut_62 : decode cX3_cut 62 = .ok (.getfield 13, 3) := by decide +kernel
theorem dX3_cut_65 : decode cX3_cut 65 = .ok (.iload_n 3, 1) := by decide +kernel
theorem dX3_cut_66 : decode cX3_cut 66 = .ok (.aaload, 1) := by decide +kernel
theorem dX3_cut_67 : decode cX3_cut 67 = .ok (.iload 8, 2) := by decide +kernel
theorem dX3_cut_69 : decode cX3_cut 69 = .ok (.aload_n 0, 1) := by decide +kernel
theorem dX3_cut_70 : decode cX3_cut 70 = .ok (.getfield 13, 3) := by decide +kernel
theorem dX3_cut_73 : decode cX3_cut 73 = .ok (.iload_n 1, 1) := by decide +kernel
theorem dX3_cut_74 : decode cX3_cut 74 = .ok (.aaload, 1) := by decide +kernel
theorem dX3_cut_75 : decode cX3_cut 75 = .ok (.iload 9, 2) := by decide +kernel
theorem dX3_cut_77 : decode cX3_cut 77 = .ok (.iaload, 1) := by decide +kernel
theorem dX3_cut_78 : decode cX3_cut 78 = .ok (.iastore, 1) := by decide +kernel
theorem dX3_cut_79 : decode cX3_cut 79 = .ok (.iload 4, 2) := by decide +kernel
theorem dX3_cut_81 : decode cX3_cut 81 = .ok (.iload 5, 2) := by decide +kernel
theorem dX3_cut_83 : decode cX3_cut 83 = .ok (.iload 9, 2) := by decide +kernel
theorem dX3_cut_85 : decode cX3_cut 85 = .ok (.invokestatic 72, 3) := by decide +kernel
theorem dX3_cut_88 : decode cX3_cut 88 = .ok (.iload_n 2, 1) := by decide +kernel
theorem dX3_cut_89 : decode cX3_cut 89 = .ok (.iconst (-1), 1) := by decide +kernel
theorem dX3_cut_90 : decode cX3_cut 90 = .ok (.ixor, 1) := by decide +kernel
theorem dX3_cut_91 : decode cX3_cut 91 = .ok (.iand, 1) := by decide +kernel
theorem dX3_cut_92 : decode cX3_cut 92 = .ok (.ifCond .eq 17, 3) := by decide +kernel
theorem dX3_cut_95 : decode cX3_cut 95 = .ok (.iload 6, 2) := by decide +kernel
theorem dX3_cut_97 : decode cX3_cut 97 = .ok (.iconst 1, 1) := by decide +kernel
theorem dX3_cut_98 : decode cX3_cut 98 = .ok (.iload 8, 2) := by decide +kernel
theorem dX3_cut_100 : decode cX3_cut 100 = .ok (.iload 7, 2) := by decide +kernel
theorem dX3_cut_102 : decode cX3_cut 102 = .ok (.invokestatic 75, 3) := by decide +kernel
theorem dX3_cut_105 : decode cX3_cut 105 = .ok (.ishl, 1) := by decide +kernel
theorem dX3_cut_106 : decode cX3_cut 106 = .ok (.ior, 1) := by decide +kernel
theorem dX3_cut_107 : decode cX3_cut 107 = .ok (.istore 6, 2) := by decide +kernel
theorem dX3_cut_109 : decode cX3_cut 109 = .ok (.iinc 8 1, 3) := by decide +kernel
theorem dX3_cut_112 : decode cX3_cut 112 = .ok (.iinc 9 1, 3) := by decide +kernel
theorem dX3_cut_115 : decode cX3_cut 115 = .ok (.goto (-77), 3) := by decide +kernel
theorem dX3_cut_118 : decode cX3_cut 118 = .ok (.iload 8, 2) := by decide +kernel
theorem dX3_cut_120 : decode cX3_cut 120 = .ok (.bipush 8, 2) := by decide +kernel
theorem dX3_cut_122 : decode cX3_cut 122 = .ok (.if_icmp .ge 37, 3) := by decide +kernel
theorem dX3_cut_125 : decode cX3_cut 125 = .ok (.aload_n 0, 1) := by decide +kernel
theorem dX3_cut_126 : decode cX3_cut 126 = .ok (.getfield 13, 3) := by decide +kernel
theorem dX3_cut_129 : decode cX3_cut 129 = .ok (.iload_n 3, 1) := by decide +kernel
theorem dX3_cut_130 : decode cX3_cut 130 = .ok (.aaload, 1) := by decide +kernel
theorem dX3_cut_131 : decode cX3_cut 131 = .ok (.iload 8, 2) := by decide +kernel
theorem dX3_cut_133 : decode cX3_cut 133 = .ok (.bipush 10, 2) := by decide +kernel
theorem dX3_cut_135 : decode cX3_cut 135 = .ok (.aload_n 0, 1) := by decide +kernel
theorem dX3_cut_136 : decode cX3_cut 136 = .ok (.getfield 27, 3) := by decide +kernel
theorem dX3_cut_139 : decode cX3_cut 139 = .ok (.iadd, 1) := by decide +kernel
theorem dX3_cut_140 : decode cX3_cut 140 = .ok (.iastore, 1) := by decide +kernel
theorem dX3_cut_141 : decode cX3_cut 141 = .ok (.aload_n 0, 1) := by decide +kernel
theorem dX3_cut_142 : decode cX3_cut 142 = .ok (.getfield 16, 3) := by decide +kernel
theorem dX3_cut_145 : decode cX3_cut 145 = .ok (.iload_n 3, 1) := by decide +kernel
theorem dX3_cut_146 : decode cX3_cut 146 = .ok (.iload 8, 2) := by decide +kernel
theorem dX3_cut_148 : decode cX3_cut 148 = .ok (.iconst 1, 1) := by decide +kernel
theorem dX3_cut_149 : decode cX3_cut 149 = .ok (.iadd, 1) := by decide +kernel
theorem dX3_cut_150 : decode cX3_cut 150 = .ok (.iastore, 1) := by decide +kernel
theorem dX3_cut_151 : decode cX3_cut 151 = .ok (.aload_n 0, 1) := by decide +kernel
theorem dX3_cut_152 : decode cX3_cut 152 = .ok (.getfield 20, 3) := by decide +kernel
theorem dX3_cut_155 : decode cX3_cut 155 = .ok (.iload_n 3, 1) := by decide +kernel
theorem dX3_cut_156 : decode cX3_cut 156 = .ok (.iload 6, 2) := by decide +kernel
theorem dX3_cut_158 : decode cX3_cut 158 = .ok (.iastore, 1) := by decide +kernel
theorem dX3_cut_159 : decode cX3_cut 159 = .ok (.return_, 1) := by decide +kernel
def fp_X3_cut_L38 (k118 : Int32 → Int32 → zM → Option (zM)) (v0 : Nat) (v1 : Int32) (v2 : Int32) (v3 : Int32) (v4 : Int32) (v5 : Int32) (v7 : Int32) : Nat → Int32 → Int32 → Int32 → zM → Option (zM)
  | 0, _, _, _, _ => none
  | n + 1, v6, v8, v9, M =>
    if v9 ≥ v4 then (
      k118 v6 v8 M)
    else (
      if v8 ≥ 8 then (
        k118 v6 v8 M)
      else (
        (fp_X2_isIn v2 v9).bind fun (y7 : Int32) =>
        zjn (fun (v6_8 : Int32) (v8_9 : Int32) (M10 : zM) =>
            fp_X3_cut_L38 k118 v0 v1 v2 v3 v4 v5 v7 n v6_8 v8_9 (v9 + 1) M10)
          (fun j112 =>
            if y7 = 0 then (
              j112 v6 v8 M)
            else (
              (zgR 2 M v0 0).bind fun (y11 : Nat) =>
              (zlR M y11 v3).bind fun (y12 : Nat) =>
              (zgR 2 M v0 0).bind fun (y13 : Nat) =>
              (zlR M y13 v1).bind fun (y14 : Nat) =>
              (zlI 100 M y14 v9).bind fun (y15 : Int32) =>
              (ztI M y12 v8 y15).bind fun (M16 : zM) =>
              (fp_X2_nearTo v4 v5 v9).bind fun (y17 : Int32) =>
              zjn (fun (v6_18 : Int32) =>
                  j112 v6_18 (v8 + 1) M16)
                (fun j109 =>
                  if (y17 &&& (v2 ^^^ (-1))) = 0 then (
                    j109 v6)
                  else (
                    (fp_X2_pair v8 v7).bind fun (y19 : Int32) =>
                    lett ((v6 ||| (1 <<< (y19 &&& 31)))) fun (v6_20 : Int32) =>
                    j109 v6_20))))))
def fp_X3_cut (v0 : Nat) (v1 : Int32) (v2 : Int32) (v3 : Int32) (M : zM) : Option (zM) :=
  zthis 2 M v0 (
    (zgR 2 M v0 1).bind fun (y1 : Nat) =>
    (zlI 100 M y1 v1).bind fun (y2 : Int32) =>
    (zgR 2 M v0 2).bind fun (y3 : Nat) =>
    (zlI 100 M y3 v1).bind fun (y4 : Int32) =>
    (fp_X2_part y2 y4 v2).bind fun (y5 : Int32) =>
    (fp_J6_bitCount_0f7a4 v2).bind fun (y6 : Int32) =>
    fp_X3_cut_L38
      (fun v6_21 v8_22 M23 =>
        if v8_22 ≥ 8 then (
          some M23)
        else (
          (zgR 2 M23 v0 0).bind fun (y24 : Nat) =>
          (zlR M23 y24 v3).bind fun (y25 : Nat) =>
          (zgI 2 M23 v0 4).bind fun (y26 : Int32) =>
          (ztI M23 y25 v8_22 (10 + y26)).bind fun (M27 : zM) =>
          (zgR 2 M27 v0 1).bind fun (y28 : Nat) =>
          (ztI M27 y28 v3 (v8_22 + 1)).bind fun (M29 : zM) =>
          (zgR 2 M29 v0 2).bind fun (y30 : Nat) =>
          (ztI M29 y30 v3 v6_21).bind fun (M31 : zM) =>
          some M31)) v0 v1 v2 v3 y2 y4 y6 FU y5 0 0 M)
set_option maxHeartbeats 4000000 in
set_option maxRecDepth 100000 in
theorem th_X3_cut {v0 : Nat} {v1 : Int32} {v2 : Int32} {v3 : Int32} {M : zM} {x0 : zM} (h : fp_X3_cut v0 v1 v2 v3 M = some x0) : v0 < zS M ∧ kd v0 = 2 := by
  unfold fp_X3_cut at h
  exact zthis_of h
set_option maxHeartbeats 4000000 in
set_option maxRecDepth 100000 in
theorem w_X3_cut_L38 (E : zEnv) (hE : zEok E) (d : Nat) (hd : 3 ≤ d) (M0 : zM) (x0 : zM) (v0 : Nat) (v1 : Int32) (v2 : Int32) (v3 : Int32) (v4 : Int32) (v5 : Int32) (v7 : Int32) (k118 : Int32 → Int32 → zM → Option (zM)) (hk118 : ∀ (v6 : Int32) (v8 : Int32) (M : zM), zSy E mu_X3_cut d M0 (none, x0) x0 (k118 v6 v8 M) 118 [(0, .ref (E.2.2.2.1 + v0)), (3, .int v3), (6, .int v6), (8, .int v8)] [] M) : ∀ (n : Nat) (v6 : Int32) (v8 : Int32) (v9 : Int32) (M : zM), zSy E mu_X3_cut d M0 (none, x0) x0 (fp_X3_cut_L38 k118 v0 v1 v2 v3 v4 v5 v7 n v6 v8 v9 M) 38 [(0, .ref (E.2.2.2.1 + v0)), (1, .int v1), (2, .int v2), (3, .int v3), (4, .int v4), (5, .int v5), (6, .int v6), (7, .int v7), (8, .int v8), (9, .int v9)] [] M := by
  intro n
  induction n with
  | zero =>
    intro v6 v8 v9 M
    rw [fp_X3_cut_L38]
    exact zs_none
  | succ n ih =>
    intro v6 v8 v9 M
    rw [fp_X3_cut_L38]
    refine zs_iload dX3_cut_38 9 rfl ?_
    refine zs_iload dX3_cut_40 4 rfl ?_
    refine zs_icmp_ge dX3_cut_42 rfl ?_ ?_
    · refine zs_sub (loc' := [(0, .ref (E.2.2.2.1 + v0)), (3, .int v3), (6, .int v6), (8, .int v8)]) [0, 3, 6, 8] rfl ?_
      exact hk118 v6 v8 M
    refine zs_iload dX3_cut_45 8 rfl ?_
    refine zs_bipush (v := 8) dX3_cut_47 cbipush_8 ?_
    refine zs_icmp_ge dX3_cut_49 rfl ?_ ?_
    · refine zs_sub (loc' := [(0, .ref (E.2.2.2.1 + v0)), (3, .int v3), (6, .int v6), (8, .int v8)]) [0, 3, 6, 8] rfl ?_
      exact hk118 v6 v8 M
    refine zs_iload_n dX3_cut_52 rfl 2 rfl ?_
    refine zs_iload dX3_cut_53 9 rfl ?_
    refine zs_invSPI (rest := []) [.int v2, .int v9] dX3_cut_55 lk_X3_48 rfl (zd1 rfl hd) rfl (Nat.le_of_ble_eq_true rfl) (ct_X2_isIn E hE _ (zdl rfl hd) _ _ _) (fun y7 => ?_)
    refine zs_jn (fun j112 => ∀ (v6_8 : Int32) (v8_9 : Int32) (M10 : zM), zSy E mu_X3_cut d M0 (none, x0) x0 (j112 v6_8 v8_9 M10) 112 [(0, .ref (E.2.2.2.1 + v0)), (1, .int v1), (2, .int v2), (3, .int v3), (4, .int v4), (5, .int v5), (6, .int v6_8), (7, .int v7), (8, .int v8_9), (9, .int v9)] [] M10) (fun v6_8 v8_9 M10 => ?_) (fun j112 hj112 => ?_)
    · refine zs_iinc (v := (v9 + 1)) (loc' := [(0, .ref (E.2.2.2.1 + v0)), (1, .int v1), (2, .int v2), (3, .int v3), (4, .int v4), (5, .int v5), (6, .int v6_8), (7, .int v7), (8, .int v8_9), (9, .int (v9 + 1))]) dX3_cut_112 9 rfl (by rfl) (Nat.le_of_ble_eq_true rfl) [1, 2, 3, 4, 5, 6, 7, 8, 9, 0] rfl ?_
      refine zs_goto dX3_cut_115 rfl ?_
      exact ih v6_8 v8_9 (v9 + 1) M10
    refine zs_if_eq dX3_cut_58 rfl ?_ ?_
    · exact hj112 v6 v8 M
    refine zs_aload_n dX3_cut_61 rfl 0 rfl ?_
    refine zs_getR dX3_cut_62 fl_X3_13 rfl (fun y11 => ?_)
    refine zs_iload_n dX3_cut_65 rfl 3 rfl ?_
    refine zs_ldR dX3_cut_66 (fun y12 => ?_)
    refine zs_iload dX3_cut_67 8 rfl ?_
    refine zs_aload_n dX3_cut_69 rfl 0 rfl ?_
    refine zs_getR dX3_cut_70 fl_X3_13 rfl (fun y13 => ?_)
    refine zs_iload_n dX3_cut_73 rfl 1 rfl ?_
    refine zs_ldR dX3_cut_74 (fun y14 => ?_)
    refine zs_iload dX3_cut_75 9 rfl ?_
    refine zs_ldI dX3_cut_77 (fun y15 => ?_)
    refine zs_stI dX3_cut_78 (fun M16 => ?_)
    refine zs_iload dX3_cut_79 4 rfl ?_
    refine zs_iload dX3_cut_81 5 rfl ?_
    refine zs_iload dX3_cut_83 9 rfl ?_
    refine zs_invSPI (rest := []) [.int v4, .int v5, .int v9] dX3_cut_85 lk_X3_72 rfl (zd1 rfl hd) rfl (Nat.le_of_ble_eq_true rfl) (ct_X2_nearTo E hE _ (zdl rfl hd) _ _ _ _) (fun y17 => ?_)
    refine zs_iload_n dX3_cut_88 rfl 2 rfl ?_
    refine zs_iconst (v := (-1)) dX3_cut_89 ciconst_m1 ?_
    refine zs_ixor dX3_cut_90 ?_
    refine zs_iand dX3_cut_91 ?_
    refine zs_jn (fun j109 => ∀ (v6_18 : Int32), zSy E mu_X3_cut d M0 (none, x0) x0 (j109 v6_18) 109 [(0, .ref (E.2.2.2.1 + v0)), (1, .int v1), (2, .int v2), (3, .int v3), (4, .int v4), (5, .int v5), (6, .int v6_18), (7, .int v7), (8, .int v8), (9, .int v9)] [] M16) (fun v6_18 => ?_) (fun j109 hj109 => ?_)
    · refine zs_iinc (v := (v8 + 1)) (loc' := [(0, .ref (E.2.2.2.1 + v0)), (1, .int v1), (2, .int v2), (3, .int v3), (4, .int v4), (5, .int v5), (6, .int v6_18), (7, .int v7), (8, .int (v8 + 1)), (9, .int v9)]) dX3_cut_109 8 rfl (by rfl) (Nat.le_of_ble_eq_true rfl) [1, 2, 3, 4, 5, 6, 7, 8, 0, 9] rfl ?_
      exact hj112 v6_18 (v8 + 1) M16
    refine zs_if_eq dX3_cut_92 rfl ?_ ?_
    · exact hj109 v6
    refine zs_iload dX3_cut_95 6 rfl ?_
    refine zs_iconst (v := 1) dX3_cut_97 ciconst_1 ?_
    refine zs_iload dX3_cut_98 8 rfl ?_
    refine zs_iload dX3_cut_100 7 rfl ?_
    refine zs_invSPI (rest := [.int 1, .int v6]) [.int v8, .int v7] dX3_cut_102 lk_X3_75 rfl (zd1 rfl hd) rfl (Nat.le_of_ble_eq_true rfl) (ct_X2_pair E hE _ (zdl rfl hd) _ _ _) (fun y19 => ?_)
    refine zs_ishl dX3_cut_105 ?_
    refine zs_ior dX3_cut_106 ?_
    refine zs_istoreL (loc' := fun v6_20 => [(0, .ref (E.2.2.2.1 + v0)), (1, .int v1), (2, .int v2), (3, .int v3), (4, .int v4), (5, .int v5), (6, .int v6_20), (7, .int v7), (8, .int v8), (9, .int v9)]) dX3_cut_107 (Nat.le_of_ble_eq_true rfl) [1, 2, 3, 4, 5, 6, 0, 7, 8, 9] (fun _ => rfl) (fun v6_20 => ?_)
    exact hj109 v6_20
set_option maxHeartbeats 4000000 in
set_option maxRecDepth 100000 in
theorem ct_X3_cut (E : zEnv) (hE : zEok E) (d : Nat) (hd : 3 ≤ d) (v0 : Nat) (v1 : Int32) (v2 : Int32) (v3 : Int32) (M : zM) (x0 : zM) (hx : fp_X3_cut v0 v1 v2 v3 M = some x0) : zCt E mu_X3_cut d [.ref (E.2.2.2.1 + v0), .int v1, .int v2, .int v3] M (none, x0) := by
  refine zCt_of (μ := mu_X3_cut) (t := fp_X3_cut v0 v1 v2 v3 M) rfl rfl (Nat.le_of_ble_eq_true rfl) hx ?_
  change zSy E mu_X3_cut d M (none, x0) x0 (fp_X3_cut v0 v1 v2 v3 M) 0 [(0, .ref (E.2.2.2.1 + v0)), (1, .int v1), (2, .int v2), (3, .int v3)] [] M
  unfold fp_X3_cut
  refine zs_this (fun hth => ?_)
  refine zs_aload_n dX3_cut_0 rfl 0 rfl ?_
  refine zs_getR dX3_cut_1 fl_X3_16 rfl (fun y1 => ?_)
  refine zs_iload_n dX3_cut_4 rfl 1 rfl ?_
  refine zs_ldI dX3_cut_5 (fun y2 => ?_)
  refine zs_istore (loc' := [(0, .ref (E.2.2.2.1 + v0)), (1, .int v1), (2, .int v2), (3, .int v3), (4, .int y2)]) dX3_cut_6 (Nat.le_of_ble_eq_true rfl) [1, 2, 3, 4, 0] rfl ?_
  refine zs_aload_n dX3_cut_8 rfl 0 rfl ?_
  refine zs_getR dX3_cut_9 fl_X3_20 rfl (fun y3 => ?_)
  refine zs_iload_n dX3_cut_12 rfl 1 rfl ?_
  refine zs_ldI dX3_cut_13 (fun y4 => ?_)
  refine zs_istore (loc' := [(0, .ref (E.2.2.2.1 + v0)), (1, .int v1), (2, .int v2), (3, .int v3), (4, .int y2), (5, .int y4)]) dX3_cut_14 (Nat.le_of_ble_eq_true rfl) [1, 2, 3, 4, 5, 0] rfl ?_
  refine zs_iload dX3_cut_16 4 rfl ?_
  refine zs_iload dX3_cut_18 5 rfl ?_
  refine zs_iload_n dX3_cut_20 rfl 2 rfl ?_
  refine zs_invSPI (rest := []) [.int y2, .int y4, .int v2] dX3_cut_21 lk_X3_51 rfl (zd1 rfl hd) rfl (Nat.le_of_ble_eq_true rfl) (ct_X2_part E hE _ (zdl rfl hd) _ _ _ _) (fun y5 => ?_)
  refine zs_istore (loc' := [(0, .ref (E.2.2.2.1 + v0)), (1, .int v1), (2, .int v2), (3, .int v3), (4, .int y2), (5, .int y4), (6, .int y5)]) dX3_cut_24 (Nat.le_of_ble_eq_true rfl) [1, 2, 3, 4, 5, 6, 0] rfl ?_
  refine zs_iload_n dX3_cut_26 rfl 2 rfl ?_
  refine zs_invSPI (rest := []) [.int v2] dX3_cut_27 lk_X3_67 rfl (zd1 rfl hd) rfl (Nat.le_of_ble_eq_true rfl) (ct_J6_bitCount_0f7a4 E hE _ (zdl rfl hd) _ _) (fun y6 => ?_)
  refine zs_istore (loc' := [(0, .ref (E.2.2.2.1 + v0)), (1, .int v1), (2, .int v2), (3, .int v3), (4, .int y2), (5, .int y4), (6, .int y5), (7, .int y6)]) dX3_cut_30 (Nat.le_of_ble_eq_true rfl) [1, 2, 3, 4, 5, 6, 7, 0] rfl ?_
  refine zs_iconst (v := 0) dX3_cut_32 ciconst_0 ?_
  refine zs_istore (loc' := [(0, .ref (E.2.2.2.1 + v0)), (1, .int v1), (2, .int v2), (3, .int v3), (4, .int y2), (5, .int y4), (6, .int y5), (7, .int y6), (8, .int 0)]) dX3_cut_33 (Nat.le_of_ble_eq_true rfl) [1, 2, 3, 4, 5, 6, 7, 8, 0] rfl ?_
  refine zs_iconst (v := 0) dX3_cut_35 ciconst_0 ?_
  refine zs_istore (loc' := [(0, .ref (E.2.2.2.1 + v0)), (1, .int v1), (2, .int v2), (3, .int v3), (4, .int y2), (5, .int y4), (6, .int y5), (7, .int y6), (8, .int 0), (9, .int 0)]) dX3_cut_36 (Nat.le_of_ble_eq_true rfl) [1, 2, 3, 4, 5, 6, 7, 8, 9, 0] rfl ?_
  refine w_X3_cut_L38 E hE d hd _ _ _ _ _ _ _ _ _ _ (fun v6_21 v8_22 M23 => ?_) _ _ _ _ _
  refine zs_iload dX3_cut_118 3 rfl ?_
  refine zs_bipush (v := 8) dX3_cut_120 cbipush_8 ?_
  refine zs_icmp_ge dX3_cut_122 rfl ?_ ?_
  · exact zs_vret dX3_cut_159 trivial
  refine zs_aload_n dX3_cut_125 rfl 0 rfl ?_
  refine zs_getR dX3_cut_126 fl_X3_13 rfl (fun y24 => ?_)
  refine zs_iload_n dX3_cut_129 rfl 1 rfl ?_
  refine zs_ldR dX3_cut_130 (fun y25 => ?_)
  refine zs_iload dX3_cut_131 3 rfl ?_
  refine zs_bipush (v := 10) dX3_cut_133 cbipush_10 ?_
  refine zs_aload_n dX3_cut_135 rfl 0 rfl ?_
  refine zs_getI dX3_cut_136 fl_X3_27 rfl (fun y26 => ?_)
  refine zs_iadd dX3_cut_139 ?_
  refine zs_stI dX3_cut_140 (fun M27 => ?_)
  refine zs_aload_n dX3_cut_141 rfl 0 rfl ?_
  refine zs_getR dX3_cut_142 fl_X3_16 rfl (fun y28 => ?_)
  refine zs_iload_n dX3_cut_145 rfl 1 rfl ?_
  refine zs_iload dX3_cut_146 3 rfl ?_
  refine zs_iconst (v := 1) dX3_cut_148 ciconst_1 ?_
  refine zs_iadd dX3_cut_149 ?_
  refine zs_stI dX3_cut_150 (fun M29 => ?_)
  refine zs_aload_n dX3_cut_151 rfl 0 rfl ?_
  refine zs_getR dX3_cut_152 fl_X3_20 rfl (fun y30 => ?_)
  refine zs_iload_n dX3_cut_155 rfl 1 rfl ?_
  refine zs_iload dX3_cut_156 2 rfl ?_
  refine zs_stI dX3_cut_158 (fun M31 => ?_)
  exact zs_vret dX3_cut_159 trivial
theorem dX3_takeOneApart_0 : decode cX3_takeOneApart 0 = .ok (.iconst 0, 1) := by decide +kernel
theorem dX3_takeOneApart_1 : decode cX3_takeOneApart 1 = .ok (.istore_n 1, 1) := by decide +kernel
theorem dX3_takeOneApart_2 : decode cX3_takeOneApart 2 = .ok (.iload_n 1, 1) := by decide +kernel
theorem dX3_takeOneApart_3 : decode cX3_takeOneApart 3 = .ok (.aload_n 0, 1) := by decide +kernel
theorem dX3_takeOneApart_4 : decode cX3_takeOneApart 4 = .ok (.getfield 23, 3) := by decide +kernel
theorem dX3_takeOneApart_7 : decode cX3_takeOneApart 7 = .ok (.if_icmp .ge 77, 3) := by decide +kernel
theorem dX3_takeOneApart_10 : decode cX3_takeOneApart 10 = .ok (.aload_n 0, 1) := by decide +kernel
theorem dX3_takeOneApart_11 : decode cX3_takeOneApart 11 = .ok (.getfield 23, 3) := by decide +kernel
theorem dX3_takeOneApart_14 : decode cX3_takeOneApart 14 = .ok (.bipush 8, 2) := by decide +kernel
theorem dX3_takeOneApart_16 : decode cX3_takeOneApart 16 = .ok (.if_icmp .ge 68, 3) := by decide +kernel
theorem dX3_takeOneApart_19 : decode cX3_takeOneApart 19 = .ok (.aload_n 0, 1) := by decide +kernel
theorem dX3_takeOneApart_20 : decode cX3_takeOneApart 20 = .ok (.getfield 16, 3) := by decide +kernel
theorem dX3_takeOneApart_23 : decode cX3_takeOneApart 23 = .ok (.iload_n 1, 1) := by decide +kernel
theorem dX3_takeOneApart_24 : decode cX3_takeOneApart 24 = .ok (.iaload, 1) := by decide +kernel
theorem dX3_takeOneApart_25 : decode cX3_takeOneApart 25 = .ok (.aload_n 0, 1) := by decide +kernel
theorem dX3_takeOneApart_26 : decode cX3_takeOneApart 26 = .ok (.getfield 20, 3) := by decide +kernel
theorem dX3_takeOneApart_29 : decode cX3_takeOneApart 29 = .ok (.iload_n 1, 1) := by decide +kernel
theorem dX3_takeOneApart_30 : decode cX3_takeOneApart 30 = .ok (.iaload, 1) := by decide +kernel
theorem dX3_takeOneApart_31 : decode cX3_takeOneApart 31 = .ok (.invokestatic 54, 3) := by decide +kernel
theorem dX3_takeOneApart_34 : decode cX3_takeOneApart 34 = .ok (.istore_n 2, 1) := by decide +kernel
theorem dX3_takeOneApart_35 : decode cX3_takeOneApart 35 = .ok (.iload_n 2, 1) := by decide +kernel
theorem dX3_takeOneApart_36 : decode cX3_takeOneApart 36 = .ok (.ifCond .eq 42, 3) := by decide +kernel
theorem dX3_takeOneApart_39 : decode cX3_takeOneApart 39 = .ok (.aload_n 0, 1) := by decide +kernel
theorem dX3_takeOneApart_40 : decode cX3_takeOneApart 40 = .ok (.iload_n 1, 1) := by decide +kernel
theorem dX3_takeOneApart_41 : decode cX3_takeOneApart 41 = .ok (.aload_n 0, 1) := by decide +kernel
theorem dX3_takeOneApart_42 : decode cX3_takeOneApart 42 = .ok (.getfield 16, 3) := by decide +kernel
theorem dX3_takeOneApart_45 : decode cX3_takeOneApart 45 = .ok (.iload_n 1, 1) := by decide +kernel
theorem dX3_takeOneApart_46 : decode cX3_takeOneApart 46 = .ok (.iaload, 1) := by decide +kernel
theorem dX3_takeOneApart_47 : decode cX3_takeOneApart 47 = .ok (.invokestatic 60, 3) := by decide +kernel
theorem dX3_takeOneApart_50 : decode cX3_takeOneApart 50 = .ok (.iload_n 2, 1) := by decide +kernel
theorem dX3_takeOneApart_51 : decode cX3_takeOneApart 51 = .ok (.ixor, 1) := by decide +kernel
theorem dX3_takeOneApart_52 : decode cX3_takeOneApart 52 = .ok (.aload_n 0, 1) := by decide +kernel
theorem dX3_takeOneApart_53 : decode cX3_takeOneApart 53 = .ok (.getfield 23, 3) := by decide +kernel
theorem dX3_takeOneApart_56 : decode cX3_takeOneApart 56 = .ok (.invokevirtual 64, 3) := by decide +kernel
theorem dX3_takeOneApart_59 : decode cX3_takeOneApart 59 = .ok (.aload_n 0, 1) := by decide +kernel
theorem dX3_takeOneApart_60 : decode cX3_takeOneApart 60 = .ok (.iload_n 1, 1) := by decide +kernel
theorem dX3_takeOneApart_61 : decode cX3_takeOneApart 61 = .ok (.iload_n 2, 1) := by decide +kernel
theorem dX3_takeOneApart_62 : decode cX3_takeOneApart 62 = .ok (.iload_n 1, 1) := by decide +kernel
theorem dX3_takeOneApart_63 : decode cX3_takeOneApart 63 = .ok (.invokevirtual 64, 3) := by decide +kernel
theorem dX3_takeOneApart_66 : decode cX3_takeOneApart 66 = .ok (.aload_n 0, 1) := by decide +kernel
theorem dX3_takeOneApart_67 : decode cX3_takeOneApart 67 = .ok (.dup, 1) := by decide +kernel
theorem dX3_takeOneApart_68 : decode cX3_takeOneApart 68 = .ok (.getfield 23, 3) := by decide +kernel
theorem dX3_takeOneApart_71 : decode cX3_takeOneApart 71 = .ok (.iconst 1, 1) := by decide +kernel
theorem dX3_takeOneApart_72 : decode cX3_takeOneApart 72 = .ok (.iadd, 1) := by decide +kernel
theorem dX3_takeOneApart_73 : decode cX3_takeOneApart 73 = .ok (.putfield 23, 3) := by decide +kernel
theorem dX3_takeOneApart_76 : decode cX3_takeOneApart 76 = .ok (.iconst 1, 1) := by decide +kernel
theorem dX3_takeOneApart_77 : decode cX3_takeOneApart 77 = .ok (.ireturn, 1) := by decide +kernel
theorem dX3_takeOneApart_78 : decode cX3_takeOneApart 78 = .ok (.iinc 1 1, 3) := by decide +kernel
theorem dX3_takeOneApart_81 : decode cX3_takeOneApart 81 = .ok (.goto (-79), 3) := by decide +kernel
theorem dX3_takeOneApart_84 : decode cX3_takeOneApart 84 = .ok (.iconst 0, 1) := by decide +kernel
theorem dX3_takeOneApart_85 : decode cX3_takeOneApart 85 = .ok (.ireturn, 1) := by decide +kernel
def fp_X3_takeOneApart_L2 (k39 : Int32 → Int32 → Option (Int32 × zM)) (v0 : Nat) (M : zM) : Nat → Int32 → Option (Int32 × zM)
  | 0, _ => none
  | n + 1, v1 =>
    (zgI 2 M v0 3).bind fun (y1 : Int32) =>
    if v1 ≥ y1 then (
      some (0, M))
    else (
      (zgI 2 M v0 3).bind fun (y2 : Int32) =>
      if y2 ≥ 8 then (
        some (0, M))
      else (
        (zgR 2 M v0 1).bind fun (y3 : Nat) =>
        (zlI 100 M y3 v1).bind fun (y4 : Int32) =>
        (zgR 2 M v0 2).bind fun (y5 : Nat) =>
        (zlI 100 M y5 v1).bind fun (y6 : Int32) =>
        (fp_X6_firstOf y4 y6).bind fun (y7 : Int32) =>
        if y7 = 0 then (
          fp_X3_takeOneApart_L2 k39 v0 M n (v1 + 1))
        else (
          k39 v1 y7)))
def fp_X3_takeOneApart (v0 : Nat) (M : zM) : Option (Int32 × zM) :=
  zthis 2 M v0 (
    fp_X3_takeOneApart_L2
      (fun v1_8 v2_9 =>
        (zgR 2 M v0 1).bind fun (y10 : Nat) =>
        (zlI 100 M y10 v1_8).bind fun (y11 : Int32) =>
        (fp_X2_everyPoint y11).bind fun (y12 : Int32) =>
        (zgI 2 M v0 3).bind fun (y13 : Int32) =>
        (fp_X3_cut v0 v1_8 (y12 ^^^ v2_9) y13 M).bind fun (M14 : zM) =>
        (fp_X3_cut v0 v1_8 v2_9 v1_8 M14).bind fun (M15 : zM) =>
        (zgI 2 M15 v0 3).bind fun (y16 : Int32) =>
        (zpI 2 M15 v0 3 (y16 + 1)).bind fun (M17 : zM) =>
        some (1, M17)) v0 M FU 0)
set_option maxHeartbeats 4000000 in
set_option maxRecDepth 100000 in
theorem th_X3_takeOneApart {v0 : Nat} {M : zM} {x0 : Int32 × zM} (h : fp_X3_takeOneApart v0 M = some x0) : v0 < zS M ∧ kd v0 = 2 := by
  unfold fp_X3_takeOneApart at h
  exact zthis_of h
set_option maxHeartbeats 4000000 in
set_option maxRecDepth 100000 in
theorem w_X3_takeOneApart_L2 (E : zEnv) (hE : zEok E) (d : Nat) (hd : 5 ≤ d) (M0 : zM) (x0 : Int32 × zM) (v0 : Nat) (M : zM) (k39 : Int32 → Int32 → Option (Int32 × zM)) (hk39 : ∀ (v1 : Int32) (v2 : Int32), zSy E mu_X3_takeOneApart d M0 (some (.int x0.1), x0.2) x0 (k39 v1 v2) 39 [(0, .ref (E.2.2.2.1 + v0)), (1, .int v1), (2, .int v2)] [] M) : ∀ (n : Nat) (v1 : Int32), zSy E mu_X3_takeOneApart d M0 (some (.int x0.1), x0.2) x0 (fp_X3_takeOneApart_L2 k39 v0 M n v1) 2 [(0, .ref (E.2.2.2.1 + v0)), (1, .int v1)] [] M := by
  intro n
  induction n with
  | zero =>
    intro v1
    rw [fp_X3_takeOneApart_L2]
    exact zs_none
  | succ n ih =>
    intro v1
    rw [fp_X3_takeOneApart_L2]
    refine zs_iload_n dX3_takeOneApart_2 rfl 1 rfl ?_
    refine zs_aload_n dX3_takeOneApart_3 rfl 0 rfl ?_
    refine zs_getI dX3_takeOneApart_4 fl_X3_23 rfl (fun y1 => ?_)
    refine zs_icmp_ge dX3_takeOneApart_7 rfl ?_ ?_
    · refine zs_iconst (v := 0) dX3_takeOneApart_84 ciconst_0 ?_
      exact zs_iretW dX3_takeOneApart_85 rfl
    refine zs_aload_n dX3_takeOneApart_10 rfl 0 rfl ?_
    refine zs_getI dX3_takeOneApart_11 fl_X3_23 rfl (fun y2 => ?_)
    refine zs_bipush (v := 8) dX3_takeOneApart_14 cbipush_8 ?_
    refine zs_icmp_ge dX3_takeOneApart_16 rfl ?_ ?_
    · refine zs_iconst (v := 0) dX3_takeOneApart_84 ciconst_0 ?_
      exact zs_iretW dX3_takeOneApart_85 rfl
    refine zs_aload_n dX3_takeOneApart_19 rfl 0 rfl ?_
    refine zs_getR dX3_takeOneApart_20 fl_X3_16 rfl (fun y3 => ?_)
    refine zs_iload_n dX3_takeOneApart_23 rfl 1 rfl ?_
    refine zs_ldI dX3_takeOneApart_24 (fun y4 => ?_)
    refine zs_aload_n dX3_takeOneApart_25 rfl 0 rfl ?_
    refine zs_getR dX3_takeOneApart_26 fl_X3_20 rfl (fun y5 => ?_)
    refine zs_iload_n dX3_takeOneApart_29 rfl 1 rfl ?_
    refine zs_ldI dX3_takeOneApart_30 (fun y6 => ?_)
    refine zs_invSPI (rest := []) [.int y4, .int y6] dX3_takeOneApart_31 lk_X3_54 rfl (zd1 rfl hd) rfl (Nat.le_of_ble_eq_true rfl) (ct_X6_firstOf E hE _ (zdl rfl hd) _ _ _) (fun y7 => ?_)
    refine zs_istore_n (loc' := [(0, .ref (E.2.2.2.1 + v0)), (1, .int v1), (2, .int y7)]) dX3_takeOneApart_34 rfl (Nat.le_of_ble_eq_true rfl) [1, 2, 0] rfl ?_
    refine zs_iload_n dX3_takeOneApart_35 rfl 2 rfl ?_
    refine zs_if_eq dX3_takeOneApart_36 rfl ?_ ?_
    · refine zs_iinc (v := (v1 + 1)) (loc' := [(0, .ref (E.2.2.2.1 + v0)), (1, .int (v1 + 1))]) dX3_takeOneApart_78 1 rfl (by rfl) (Nat.le_of_ble_eq_true rfl) [1, 0] rfl ?_
      refine zs_goto dX3_takeOneApart_81 rfl ?_
      exact ih (v1 + 1)
    exact hk39 v1 y7
set_option maxHeartbeats 4000000 in
set_option maxRecDepth 100000 in
theorem ct_X3_takeOneApart (E : zEnv) (hE : zEok E) (d : Nat) (hd : 5 ≤ d) (v0 : Nat) (M : zM) (x0 : Int32 × zM) (hx : fp_X3_takeOneApart v0 M = some x0) : zCt E mu_X3_takeOneApart d [.ref (E.2.2.2.1 + v0)] M (some (.int x0.1), x0.2) := by
  refine zCt_of (μ := mu_X3_takeOneApart) (t := fp_X3_takeOneApart v0 M) rfl rfl (Nat.le_of_ble_eq_true rfl) hx ?_
  change zSy E mu_X3_takeOneApart d M (some (.int x0.1), x0.2) x0 (fp_X3_takeOneApart v0 M) 0 [(0, .ref (E.2.2.2.1 + v0))] [] M
  unfold fp_X3_takeOneApart
  refine zs_this (fun hth => ?_)
  refine zs_iconst (v := 0) dX3_takeOneApart_0 ciconst_0 ?_
  refine zs_istore_n (loc' := [(0, .ref (E.2.2.2.1 + v0)), (1, .int 0)]) dX3_takeOneApart_1 rfl (Nat.le_of_ble_eq_true rfl) [1, 0] rfl ?_
  refine w_X3_takeOneApart_L2 E hE d hd _ _ _ _ _ (fun v1_8 v2_9 => ?_) _ _
  refine zs_aload_n dX3_takeOneApart_39 rfl 0 rfl ?_
  refine zs_iload_n dX3_takeOneApart_40 rfl 1 rfl ?_
  refine zs_aload_n dX3_takeOneApart_41 rfl 0 rfl ?_
  refine zs_getR dX3_takeOneApart_42 fl_X3_16 rfl (fun y10 => ?_)
  refine zs_iload_n dX3_takeOneApart_45 rfl 1 rfl ?_
  refine zs_ldI dX3_takeOneApart_46 (fun y11 => ?_)
  refine zs_invSPI (rest := [.int v1_8, .ref (E.2.2.2.1 + v0)]) [.int y11] dX3_takeOneApart_47 lk_X3_60 rfl (zd1 rfl hd) rfl (Nat.le_of_ble_eq_true rfl) (ct_X2_everyPoint E hE _ (zdl rfl hd) _ _) (fun y12 => ?_)
  refine zs_iload_n dX3_takeOneApart_50 rfl 2 rfl ?_
  refine zs_ixor dX3_takeOneApart_51 ?_
  refine zs_aload_n dX3_takeOneApart_52 rfl 0 rfl ?_
  refine zs_getI dX3_takeOneApart_53 fl_X3_23 rfl (fun y13 => ?_)
  refine zs_invVWV (rest := []) [.int v1_8, .int (y12 ^^^ v2_9), .int y13] dX3_takeOneApart_56 lk_X3_64 rfl (fun _ h => th_X3_cut h) (zd1 rfl hd) rfl (Nat.le_of_ble_eq_true rfl) (ct_X3_cut E hE _ (zdl rfl hd) _ _ _ _ _) (fun M14 => ?_)
  refine zs_aload_n dX3_takeOneApart_59 rfl 0 rfl ?_
  refine zs_iload_n dX3_takeOneApart_60 rfl 1 rfl ?_
  refine zs_iload_n dX3_takeOneApart_61 rfl 2 rfl ?_
  refine zs_iload_n dX3_takeOneApart_62 rfl 1 rfl ?_
  refine zs_invVWV (rest := []) [.int v1_8, .int v2_9, .int v1_8] dX3_takeOneApart_63 lk_X3_64 rfl (fun _ h => th_X3_cut h) (zd1 rfl hd) rfl (Nat.le_of_ble_eq_true rfl) (ct_X3_cut E hE _ (zdl rfl hd) _ _ _ _ _) (fun M15 => ?_)
  refine zs_aload_n dX3_takeOneApart_66 rfl 0 rfl ?_
  refine zs_dup dX3_takeOneApart_67 rfl ?_
  refine zs_getI dX3_takeOneApart_68 fl_X3_23 rfl (fun y16 => ?_)
  refine zs_iconst (v := 1) dX3_takeOneApart_71 ciconst_1 ?_
  refine zs_iadd dX3_takeOneApart_72 ?_
  refine zs_putI dX3_takeOneApart_73 fl_X3_23 ft_X3 rfl rfl rfl rfl rfl (fun M17 => ?_)
  refine zs_iconst (v := 1) dX3_takeOneApart_76 ciconst_1 ?_
  exact zs_iretW dX3_takeOneApart_77 rfl

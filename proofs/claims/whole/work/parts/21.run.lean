theorem dX5_readsLess_0 : decode cX5_readsLess 0 = .ok (.iload_n 2, 1) := by decide +kernel
theorem dX5_readsLess_1 : decode cX5_readsLess 1 = .ok (.istore 4, 2) := by decide +kernel
theorem dX5_readsLess_3 : decode cX5_readsLess 3 = .ok (.iconst 0, 1) := by decide +kernel
theorem dX5_readsLess_4 : decode cX5_readsLess 4 = .ok (.istore 5, 2) := by decide +kernel
theorem dX5_readsLess_6 : decode cX5_readsLess 6 = .ok (.iload 5, 2) := by decide +kernel
theorem dX5_readsLess_8 : decode cX5_readsLess 8 = .ok (.iload_n 1, 1) := by decide +kernel
theorem dX5_readsLess_9 : decode cX5_readsLess 9 = .ok (.if_icmp .ge 86, 3) := by decide +kernel
theorem dX5_readsLess_12 : decode cX5_readsLess 12 = .ok (.iload 5, 2) := by decide +kernel
theorem dX5_readsLess_14 : decode cX5_readsLess 14 = .ok (.aload_n 0, 1) := by decide +kernel
theorem dX5_readsLess_15 : decode cX5_readsLess 15 = .ok (.arraylength, 1) := by decide +kernel
theorem dX5_readsLess_16 : decode cX5_readsLess 16 = .ok (.if_icmp .ge 79, 3) := by decide +kernel
theorem dX5_readsLess_19 : decode cX5_readsLess 19 = .ok (.iload 4, 2) := by decide +kernel
theorem dX5_readsLess_21 : decode cX5_readsLess 21 = .ok (.ifCond .lt 10, 3) := by decide +kernel
theorem dX5_readsLess_24 : decode cX5_readsLess 24 = .ok (.iload 4, 2) := by decide +kernel
theorem dX5_readsLess_26 : decode cX5_readsLess 26 = .ok (.aload_n 0, 1) := by decide +kernel
theorem dX5_readsLess_27 : decode cX5_readsLess 27 = .ok (.arraylength, 1) := by decide +kernel
theorem dX5_readsLess_28 : decode cX5_readsLess 28 = .ok (.if_icmp .lt 5, 3) := by decide +kernel
theorem dX5_readsLess_31 : decode cX5_readsLess 31 = .ok (.iconst 0, 1) := by decide +kernel
theorem dX5_readsLess_32 : decode cX5_readsLess 32 = .ok (.ireturn, 1) := by decide +kernel
theorem dX5_readsLess_33 : decode cX5_readsLess 33 = .ok (.aload_n 0, 1) := by decide +kernel
theorem dX5_readsLess_34 : decode cX5_readsLess 34 = .ok (.iload 4, 2) := by decide +kernel
theorem dX5_readsLess_36 : decode cX5_readsLess 36 = .ok (.iaload, 1) := by decide +kernel
theorem dX5_readsLess_37 : decode cX5_readsLess 37 = .ok (.aload_n 0, 1) := by decide +kernel
theorem dX5_readsLess_38 : decode cX5_readsLess 38 = .ok (.iload 5, 2) := by decide +kernel
theorem dX5_readsLess_40 : decode cX5_readsLess 40 = .ok (.iaload, 1) := by decide +kernel
theorem dX5_readsLess_41 : decode cX5_readsLess 41 = .ok (.if_icmp .eq 20, 3) := by decide +kernel
theorem dX5_readsLess_44 : decode cX5_readsLess 44 = .ok (.aload_n 0, 1) := by decide +kernel
theorem dX5_readsLess_45 : decode cX5_readsLess 45 = .ok (.iload 4, 2) := by decide +kernel
theorem dX5_readsLess_47 : decode cX5_readsLess 47 = .ok (.iaload, 1) := by decide +kernel
theorem dX5_readsLess_48 : decode cX5_readsLess 48 = .ok (.aload_n 0, 1) := by decide +kernel
theorem dX5_readsLess_49 : decode cX5_readsLess 49 = .ok (.iload 5, 2) := by decide +kernel
theorem dX5_readsLess_51 : decode cX5_readsLess 51 = .ok (.iaload, 1) := by decide +kernel
theorem dX5_readsLess_52 : decode cX5_readsLess 52 = .ok (.if_icmp .ge 7, 3) := by decide +kernel
theorem dX5_readsLess_55 : decode cX5_readsLess 55 = .ok (.iconst 1, 1) := by decide +kernel
theorem dX5_readsLess_56 : decode cX5_readsLess 56 = .ok (.goto 4, 3) := by decide +kernel
theorem dX5_readsLess_59 : decode cX5_readsLess 59 = .ok (.iconst 0, 1) := by decide +kernel
theorem dX5_readsLess_60 : decode cX5_readsLess 60 = .ok (.ireturn, 1) := by decide +kernel
theorem dX5_readsLess_61 : decode cX5_readsLess 61 = .ok (.iload 4, 2) := by decide +kernel
theorem dX5_readsLess_63 : decode cX5_readsLess 63 = .ok (.iload_n 3, 1) := by decide +kernel
theorem dX5_readsLess_64 : decode cX5_readsLess 64 = .ok (.iadd, 1) := by decide +kernel
theorem dX5_readsLess_65 : decode cX5_readsLess 65 = .ok (.istore 4, 2) := by decide +kernel
theorem dX5_readsLess_67 : decode cX5_readsLess 67 = .ok (.iload 4, 2) := by decide +kernel
theorem dX5_readsLess_69 : decode cX5_readsLess 69 = .ok (.ifCond .ge 11, 3) := by decide +kernel
theorem dX5_readsLess_72 : decode cX5_readsLess 72 = .ok (.iload_n 1, 1) := by decide +kernel
theorem dX5_readsLess_73 : decode cX5_readsLess 73 = .ok (.iconst 1, 1) := by decide +kernel
theorem dX5_readsLess_74 : decode cX5_readsLess 74 = .ok (.isub, 1) := by decide +kernel
theorem dX5_readsLess_75 : decode cX5_readsLess 75 = .ok (.istore 4, 2) := by decide +kernel
theorem dX5_readsLess_77 : decode cX5_readsLess 77 = .ok (.goto 12, 3) := by decide +kernel
theorem dX5_readsLess_80 : decode cX5_readsLess 80 = .ok (.iload 4, 2) := by decide +kernel
theorem dX5_readsLess_82 : decode cX5_readsLess 82 = .ok (.iload_n 1, 1) := by decide +kernel
theorem dX5_readsLess_83 : decode cX5_readsLess 83 = .ok (.if_icmp .lt 6, 3) := by decide +kernel
theorem dX5_readsLess_86 : decode cX5_readsLess 86 = .ok (.iconst 0, 1) := by decide +kernel
theorem dX5_readsLess_87 : decode cX5_readsLess 87 = .ok (.istore 4, 2) := by decide +kernel
theorem dX5_readsLess_89 : decode cX5_readsLess 89 = .ok (.iinc 5 1, 3) := by decide +kernel
theorem dX5_readsLess_92 : decode cX5_readsLess 92 = .ok (.goto (-86), 3) := by decide +kernel
theorem dX5_readsLess_95 : decode cX5_readsLess 95 = .ok (.iconst 0, 1) := by decide +kernel
theorem dX5_readsLess_96 : decode cX5_readsLess 96 = .ok (.ireturn, 1) := by decide +kernel
def fp_X5_readsLess_L6 (k44 : Int32 → Int32 → Option (Int32)) (v0 : Nat) (v1 : Int32) (v3 : Int32) (M : zM) : Nat → Int32 → Int32 → Option (Int32)
  | 0, _, _ => none
  | n + 1, v4, v5 =>
    if v5 ≥ v1 then (
      some 0)
    else (
      (zln M v0).bind fun (y1 : Int32) =>
      if v5 ≥ y1 then (
        some 0)
      else (
        if v4 < 0 then (
          some 0)
        else (
          (zln M v0).bind fun (y2 : Int32) =>
          if v4 < y2 then (
            (zlI 100 M v0 v4).bind fun (y3 : Int32) =>
            (zlI 100 M v0 v5).bind fun (y4 : Int32) =>
            if y3 = y4 then (
              lett ((v4 + v3)) fun (v4_5 : Int32) =>
              zjn (fun (v4_6 : Int32) =>
                  fp_X5_readsLess_L6 k44 v0 v1 v3 M n v4_6 (v5 + 1))
                (fun j89 =>
                  if v4_5 ≥ 0 then (
                    if v4_5 < v1 then (
                      j89 v4_5)
                    else (
                      j89 0))
                  else (
                    lett ((v1 - 1)) fun (v4_7 : Int32) =>
                    j89 v4_7)))
            else (
              k44 v4 v5))
          else (
            some 0))))
def fp_X5_readsLess (v0 : Nat) (v1 : Int32) (v2 : Int32) (v3 : Int32) (M : zM) : Option (Int32) :=
  fp_X5_readsLess_L6
    (fun v4_8 v5_9 =>
      (zlI 100 M v0 v4_8).bind fun (y10 : Int32) =>
      (zlI 100 M v0 v5_9).bind fun (y11 : Int32) =>
      if y10 ≥ y11 then (
        some 0)
      else (
        some 1)) v0 v1 v3 M FU v2 0
set_option maxHeartbeats 4000000 in
set_option maxRecDepth 100000 in
theorem w_X5_readsLess_L6 (E : zEnv) (hE : zEok E) (d : Nat) (hd : 1 ≤ d) (x0 : Int32) (v0 : Nat) (v1 : Int32) (v3 : Int32) (M : zM) (k44 : Int32 → Int32 → Option (Int32)) (hk44 : ∀ (v4 : Int32) (v5 : Int32), zSy E mu_X5_readsLess d M (some (.int x0), M) x0 (k44 v4 v5) 44 [(0, .ref (E.2.2.2.1 + v0)), (4, .int v4), (5, .int v5)] [] M) : ∀ (n : Nat) (v4 : Int32) (v5 : Int32), zSy E mu_X5_readsLess d M (some (.int x0), M) x0 (fp_X5_readsLess_L6 k44 v0 v1 v3 M n v4 v5) 6 [(0, .ref (E.2.2.2.1 + v0)), (1, .int v1), (3, .int v3), (4, .int v4), (5, .int v5)] [] M := by
  intro n
  induction n with
  | zero =>
    intro v4 v5
    rw [fp_X5_readsLess_L6]
    exact zs_none
  | succ n ih =>
    intro v4 v5
    rw [fp_X5_readsLess_L6]
    refine zs_iload dX5_readsLess_6 4 rfl ?_
    refine zs_iload_n dX5_readsLess_8 rfl 1 rfl ?_
    refine zs_icmp_ge dX5_readsLess_9 rfl ?_ ?_
    · refine zs_iconst (v := 0) dX5_readsLess_95 ciconst_0 ?_
      exact zs_iretP dX5_readsLess_96 rfl
    refine zs_iload dX5_readsLess_12 4 rfl ?_
    refine zs_aload_n dX5_readsLess_14 rfl 0 rfl ?_
    refine zs_alen dX5_readsLess_15 (fun y1 => ?_)
    refine zs_icmp_ge dX5_readsLess_16 rfl ?_ ?_
    · refine zs_iconst (v := 0) dX5_readsLess_95 ciconst_0 ?_
      exact zs_iretP dX5_readsLess_96 rfl
    refine zs_iload dX5_readsLess_19 3 rfl ?_
    refine zs_if_lt dX5_readsLess_21 rfl ?_ ?_
    · refine zs_iconst (v := 0) dX5_readsLess_31 ciconst_0 ?_
      exact zs_iretP dX5_readsLess_32 rfl
    refine zs_iload dX5_readsLess_24 3 rfl ?_
    refine zs_aload_n dX5_readsLess_26 rfl 0 rfl ?_
    refine zs_alen dX5_readsLess_27 (fun y2 => ?_)
    refine zs_icmp_lt dX5_readsLess_28 rfl ?_ ?_
    · refine zs_aload_n dX5_readsLess_33 rfl 0 rfl ?_
      refine zs_iload dX5_readsLess_34 3 rfl ?_
      refine zs_ldI dX5_readsLess_36 (fun y3 => ?_)
      refine zs_aload_n dX5_readsLess_37 rfl 0 rfl ?_
      refine zs_iload dX5_readsLess_38 4 rfl ?_
      refine zs_ldI dX5_readsLess_40 (fun y4 => ?_)
      refine zs_icmp_eq dX5_readsLess_41 rfl ?_ ?_
      · refine zs_iload dX5_readsLess_61 3 rfl ?_
        refine zs_iload_n dX5_readsLess_63 rfl 2 rfl ?_
        refine zs_iadd dX5_readsLess_64 ?_
        refine zs_istoreL (loc' := fun v4_5 => [(0, .ref (E.2.2.2.1 + v0)), (1, .int v1), (3, .int v3), (4, .int v4_5), (5, .int v5)]) dX5_readsLess_65 (Nat.le_of_ble_eq_true rfl) [1, 2, 3, 0, 4] (fun _ => rfl) (fun v4_5 => ?_)
        refine zs_iload dX5_readsLess_67 3 rfl ?_
        refine zs_jn (fun j89 => ∀ (v4_6 : Int32), zSy E mu_X5_readsLess d M (some (.int x0), M) x0 (j89 v4_6) 89 [(0, .ref (E.2.2.2.1 + v0)), (1, .int v1), (3, .int v3), (4, .int v4_6), (5, .int v5)] [] M) (fun v4_6 => ?_) (fun j89 hj89 => ?_)
        · refine zs_iinc (v := (v5 + 1)) (loc' := [(0, .ref (E.2.2.2.1 + v0)), (1, .int v1), (3, .int v3), (4, .int v4_6), (5, .int (v5 + 1))]) dX5_readsLess_89 4 rfl (by rfl) (Nat.le_of_ble_eq_true rfl) [1, 2, 3, 4, 0] rfl ?_
          refine zs_goto dX5_readsLess_92 rfl ?_
          exact ih v4_6 (v5 + 1)
        refine zs_if_ge dX5_readsLess_69 rfl ?_ ?_
        · refine zs_iload dX5_readsLess_80 3 rfl ?_
          refine zs_iload_n dX5_readsLess_82 rfl 1 rfl ?_
          refine zs_icmp_lt dX5_readsLess_83 rfl ?_ ?_
          · exact hj89 v4_5
          refine zs_iconst (v := 0) dX5_readsLess_86 ciconst_0 ?_
          refine zs_istore (loc' := [(0, .ref (E.2.2.2.1 + v0)), (1, .int v1), (3, .int v3), (4, .int 0), (5, .int v5)]) dX5_readsLess_87 (Nat.le_of_ble_eq_true rfl) [1, 2, 3, 0, 4] rfl ?_
          exact hj89 0
        refine zs_iload_n dX5_readsLess_72 rfl 1 rfl ?_
        refine zs_iconst (v := 1) dX5_readsLess_73 ciconst_1 ?_
        refine zs_isub dX5_readsLess_74 ?_
        refine zs_istoreL (loc' := fun v4_7 => [(0, .ref (E.2.2.2.1 + v0)), (1, .int v1), (3, .int v3), (4, .int v4_7), (5, .int v5)]) dX5_readsLess_75 (Nat.le_of_ble_eq_true rfl) [1, 2, 3, 0, 4] (fun _ => rfl) (fun v4_7 => ?_)
        refine zs_goto dX5_readsLess_77 rfl ?_
        exact hj89 v4_7
      refine zs_sub (loc' := [(0, .ref (E.2.2.2.1 + v0)), (4, .int v4), (5, .int v5)]) [0, 3, 4] rfl ?_
      exact hk44 v4 v5
    refine zs_iconst (v := 0) dX5_readsLess_31 ciconst_0 ?_
    exact zs_iretP dX5_readsLess_32 rfl
set_option maxHeartbeats 4000000 in
set_option maxRecDepth 100000 in
theorem ct_X5_readsLess (E : zEnv) (hE : zEok E) (d : Nat) (hd : 1 ≤ d) (v0 : Nat) (v1 : Int32) (v2 : Int32) (v3 : Int32) (M : zM) (x0 : Int32) (hx : fp_X5_readsLess v0 v1 v2 v3 M = some x0) : zCt E mu_X5_readsLess d [.ref (E.2.2.2.1 + v0), .int v1, .int v2, .int v3] M (some (.int x0), M) := by
  refine zCt_of (μ := mu_X5_readsLess) (t := fp_X5_readsLess v0 v1 v2 v3 M) rfl rfl (Nat.le_of_ble_eq_true rfl) hx ?_
  change zSy E mu_X5_readsLess d M (some (.int x0), M) x0 (fp_X5_readsLess v0 v1 v2 v3 M) 0 [(0, .ref (E.2.2.2.1 + v0)), (1, .int v1), (2, .int v2), (3, .int v3)] [] M
  unfold fp_X5_readsLess
  refine zs_iload_n dX5_readsLess_0 rfl 2 rfl ?_
  refine zs_istore (loc' := [(0, .ref (E.2.2.2.1 + v0)), (1, .int v1), (3, .int v3), (4, .int v2)]) dX5_readsLess_1 (Nat.le_of_ble_eq_true rfl) [1, 2, 4, 0] rfl ?_
  refine zs_iconst (v := 0) dX5_readsLess_3 ciconst_0 ?_
  refine zs_istore (loc' := [(0, .ref (E.2.2.2.1 + v0)), (1, .int v1), (3, .int v3), (4, .int v2), (5, .int 0)]) dX5_readsLess_4 (Nat.le_of_ble_eq_true rfl) [1, 2, 3, 4, 0] rfl ?_
  refine w_X5_readsLess_L6 E hE d hd _ _ _ _ _ _ (fun v4_8 v5_9 => ?_) _ _ _
  refine zs_aload_n dX5_readsLess_44 rfl 0 rfl ?_
  refine zs_iload dX5_readsLess_45 1 rfl ?_
  refine zs_ldI dX5_readsLess_47 (fun y10 => ?_)
  refine zs_aload_n dX5_readsLess_48 rfl 0 rfl ?_
  refine zs_iload dX5_readsLess_49 2 rfl ?_
  refine zs_ldI dX5_readsLess_51 (fun y11 => ?_)
  refine zs_icmp_ge dX5_readsLess_52 rfl ?_ ?_
  · refine zs_iconst (v := 0) dX5_readsLess_59 ciconst_0 ?_
    exact zs_iretP dX5_readsLess_60 rfl
  refine zs_iconst (v := 1) dX5_readsLess_55 ciconst_1 ?_
  refine zs_goto dX5_readsLess_56 rfl ?_
  exact zs_iretP dX5_readsLess_60 rfl
theorem dX1_isLeast_0 : decode cX1_isLeast 0 = .ok (.aload_n 0, 1) := by decide +kernel
theorem dX1_isLeast_1 : decode cX1_isLeast 1 = .ok (.getfield 23, 3) := by decide +kernel
theorem dX1_isLeast_4 : decode cX1_isLeast 4 = .ok (.aload_n 0, 1) := by decide +kernel
theorem dX1_isLeast_5 : decode cX1_isLeast 5 = .ok (.getfield 35, 3) := by decide +kernel
theorem dX1_isLeast_8 : decode cX1_isLeast 8 = .ok (.iconst 0, 1) := by decide +kernel
theorem dX1_isLeast_9 : decode cX1_isLeast 9 = .ok (.iconst 1, 1) := by decide +kernel
theorem dX1_isLeast_10 : decode cX1_isLeast 10 = .ok (.invokestatic 83, 3) := by decide +kernel
theorem dX1_isLeast_13 : decode cX1_isLeast 13 = .ok (.istore_n 1, 1) := by decide +kernel
theorem dX1_isLeast_14 : decode cX1_isLeast 14 = .ok (.aload_n 0, 1) := by decide +kernel
theorem dX1_isLeast_15 : decode cX1_isLeast 15 = .ok (.getfield 23, 3) := by decide +kernel
theorem dX1_isLeast_18 : decode cX1_isLeast 18 = .ok (.aload_n 0, 1) := by decide +kernel
theorem dX1_isLeast_19 : decode cX1_isLeast 19 = .ok (.getfield 35, 3) := by decide +kernel
theorem dX1_isLeast_22 : decode cX1_isLeast 22 = .ok (.iconst 0, 1) := by decide +kernel
theorem dX1_isLeast_23 : decode cX1_isLeast 23 = .ok (.iconst (-1), 1) := by decide +kernel
theorem dX1_isLeast_24 : decode cX1_isLeast 24 = .ok (.invokestatic 89, 3) := by decide +kernel
theorem dX1_isLeast_27 : decode cX1_isLeast 27 = .ok (.ifCond .ne 39, 3) := by decide +kernel
theorem dX1_isLeast_30 : decode cX1_isLeast 30 = .ok (.aload_n 0, 1) := by decide +kernel
theorem dX1_isLeast_31 : decode cX1_isLeast 31 = .ok (.getfield 23, 3) := by decide +kernel
theorem dX1_isLeast_34 : decode cX1_isLeast 34 = .ok (.aload_n 0, 1) := by decide +kernel
theorem dX1_isLeast_35 : decode cX1_isLeast 35 = .ok (.getfield 35, 3) := by decide +kernel
theorem dX1_isLeast_38 : decode cX1_isLeast 38 = .ok (.iload_n 1, 1) := by decide +kernel
theorem dX1_isLeast_39 : decode cX1_isLeast 39 = .ok (.iconst 1, 1) := by decide +kernel
theorem dX1_isLeast_40 : decode cX1_isLeast 40 = .ok (.invokestatic 89, 3) := by decide +kernel
theorem dX1_isLeast_43 : decode cX1_isLeast 43 = .ok (.ifCond .ne 23, 3) := by decide +kernel
theorem dX1_isLeast_46 : decode cX1_isLeast 46 = .ok (.aload_n 0, 1) := by decide +kernel
theorem dX1_isLeast_47 : decode cX1_isLeast 47 = .ok (.getfield 23, 3) := by decide +kernel
theorem dX1_isLeast_50 : decode cX1_isLeast 50 = .ok (.aload_n 0, 1) := by decide +kernel
theorem dX1_isLeast_51 : decode cX1_isLeast 51 = .ok (.getfield 35, 3) := by decide +kernel
theorem dX1_isLeast_54 : decode cX1_isLeast 54 = .ok (.iload_n 1, 1) := by decide +kernel
theorem dX1_isLeast_55 : decode cX1_isLeast 55 = .ok (.iconst (-1), 1) := by decide +kernel
theorem dX1_isLeast_56 : decode cX1_isLeast 56 = .ok (.invokestatic 89, 3) := by decide +kernel
theorem dX1_isLeast_59 : decode cX1_isLeast 59 = .ok (.ifCond .ne 7, 3) := by decide +kernel
theorem dX1_isLeast_62 : decode cX1_isLeast 62 = .ok (.iconst 1, 1) := by decide +kernel
theorem dX1_isLeast_63 : decode cX1_isLeast 63 = .ok (.goto 4, 3) := by decide +kernel
theorem dX1_isLeast_66 : decode cX1_isLeast 66 = .ok (.iconst 0, 1) := by decide +kernel
theorem dX1_isLeast_67 : decode cX1_isLeast 67 = .ok (.ireturn, 1) := by decide +kernel
def fp_X1_isLeast (v0 : Nat) (M : zM) : Option (Int32) :=
  zthis 1 M v0 (
    (zgR 1 M v0 7).bind fun (y1 : Nat) =>
    (zgI 1 M v0 4).bind fun (y2 : Int32) =>
    (fp_X5_placeOf y1 y2 0 1 M).bind fun (y3 : Int32) =>
    (zgR 1 M v0 7).bind fun (y4 : Nat) =>
    (zgI 1 M v0 4).bind fun (y5 : Int32) =>
    (fp_X5_readsLess y4 y5 0 (-1) M).bind fun (y6 : Int32) =>
    if y6 ≠ 0 then (
      some 0)
    else (
      (zgR 1 M v0 7).bind fun (y7 : Nat) =>
      (zgI 1 M v0 4).bind fun (y8 : Int32) =>
      (fp_X5_readsLess y7 y8 y3 1 M).bind fun (y9 : Int32) =>
      if y9 ≠ 0 then (
        some 0)
      else (
        (zgR 1 M v0 7).bind fun (y10 : Nat) =>
        (zgI 1 M v0 4).bind fun (y11 : Int32) =>
        (fp_X5_readsLess y10 y11 y3 (-1) M).bind fun (y12 : Int32) =>
        if y12 ≠ 0 then (
          some 0)
        else (
          some 1))))
set_option maxHeartbeats 4000000 in
set_option maxRecDepth 100000 in
theorem th_X1_isLeast {v0 : Nat} {M : zM} {x0 : Int32} (h : fp_X1_isLeast v0 M = some x0) : v0 < zS M ∧ kd v0 = 1 := by
  unfold fp_X1_isLeast at h
  exact zthis_of h
set_option maxHeartbeats 4000000 in
set_option maxRecDepth 100000 in
theorem ct_X1_isLeast (E : zEnv) (hE : zEok E) (d : Nat) (hd : 2 ≤ d) (v0 : Nat) (M : zM) (x0 : Int32) (hx : fp_X1_isLeast v0 M = some x0) : zCt E mu_X1_isLeast d [.ref (E.2.2.2.1 + v0)] M (some (.int x0), M) := by
  refine zCt_of (μ := mu_X1_isLeast) (t := fp_X1_isLeast v0 M) rfl rfl (Nat.le_of_ble_eq_true rfl) hx ?_
  change zSy E mu_X1_isLeast d M (some (.int x0), M) x0 (fp_X1_isLeast v0 M) 0 [(0, .ref (E.2.2.2.1 + v0))] [] M
  unfold fp_X1_isLeast
  refine zs_this (fun hth => ?_)
  refine zs_aload_n dX1_isLeast_0 rfl 0 rfl ?_
  refine zs_getR dX1_isLeast_1 fl_X1_23 rfl (fun y1 => ?_)
  refine zs_aload_n dX1_isLeast_4 rfl 0 rfl ?_
  refine zs_getI dX1_isLeast_5 fl_X1_35 rfl (fun y2 => ?_)
  refine zs_iconst (v := 0) dX1_isLeast_8 ciconst_0 ?_
  refine zs_iconst (v := 1) dX1_isLeast_9 ciconst_1 ?_
  refine zs_invSPI (rest := []) [.ref (E.2.2.2.1 + y1), .int y2, .int 0, .int 1] dX1_isLeast_10 lk_X1_83 rfl (zd1 rfl hd) rfl (Nat.le_of_ble_eq_true rfl) (ct_X5_placeOf E hE _ (zdl rfl hd) _ _ _ _ _) (fun y3 => ?_)
  refine zs_istore_n (loc' := [(0, .ref (E.2.2.2.1 + v0)), (1, .int y3)]) dX1_isLeast_13 rfl (Nat.le_of_ble_eq_true rfl) [1, 0] rfl ?_
  refine zs_aload_n dX1_isLeast_14 rfl 0 rfl ?_
  refine zs_getR dX1_isLeast_15 fl_X1_23 rfl (fun y4 => ?_)
  refine zs_aload_n dX1_isLeast_18 rfl 0 rfl ?_
  refine zs_getI dX1_isLeast_19 fl_X1_35 rfl (fun y5 => ?_)
  refine zs_iconst (v := 0) dX1_isLeast_22 ciconst_0 ?_
  refine zs_iconst (v := (-1)) dX1_isLeast_23 ciconst_m1 ?_
  refine zs_invSPI (rest := []) [.ref (E.2.2.2.1 + y4), .int y5, .int 0, .int (-1)] dX1_isLeast_24 lk_X1_89 rfl (zd1 rfl hd) rfl (Nat.le_of_ble_eq_true rfl) (ct_X5_readsLess E hE _ (zdl rfl hd) _ _ _ _ _) (fun y6 => ?_)
  refine zs_if_ne dX1_isLeast_27 rfl ?_ ?_
  · refine zs_iconst (v := 0) dX1_isLeast_66 ciconst_0 ?_
    exact zs_iretP dX1_isLeast_67 rfl
  refine zs_aload_n dX1_isLeast_30 rfl 0 rfl ?_
  refine zs_getR dX1_isLeast_31 fl_X1_23 rfl (fun y7 => ?_)
  refine zs_aload_n dX1_isLeast_34 rfl 0 rfl ?_
  refine zs_getI dX1_isLeast_35 fl_X1_35 rfl (fun y8 => ?_)
  refine zs_iload_n dX1_isLeast_38 rfl 1 rfl ?_
  refine zs_iconst (v := 1) dX1_isLeast_39 ciconst_1 ?_
  refine zs_invSPI (rest := []) [.ref (E.2.2.2.1 + y7), .int y8, .int y3, .int 1] dX1_isLeast_40 lk_X1_89 rfl (zd1 rfl hd) rfl (Nat.le_of_ble_eq_true rfl) (ct_X5_readsLess E hE _ (zdl rfl hd) _ _ _ _ _) (fun y9 => ?_)
  refine zs_if_ne dX1_isLeast_43 rfl ?_ ?_
  · refine zs_iconst (v := 0) dX1_isLeast_66 ciconst_0 ?_
    exact zs_iretP dX1_isLeast_67 rfl
  refine zs_aload_n dX1_isLeast_46 rfl 0 rfl ?_
  refine zs_getR dX1_isLeast_47 fl_X1_23 rfl (fun y10 => ?_)
  refine zs_aload_n dX1_isLeast_50 rfl 0 rfl ?_
  refine zs_getI dX1_isLeast_51 fl_X1_35 rfl (fun y11 => ?_)
  refine zs_iload_n dX1_isLeast_54 rfl 1 rfl ?_
  refine zs_iconst (v := (-1)) dX1_isLeast_55 ciconst_m1 ?_
  refine zs_invSPI (rest := []) [.ref (E.2.2.2.1 + y10), .int y11, .int y3, .int (-1)] dX1_isLeast_56 lk_X1_89 rfl (zd1 rfl hd) rfl (Nat.le_of_ble_eq_true rfl) (ct_X5_readsLess E hE _ (zdl rfl hd) _ _ _ _ _) (fun y12 => ?_)
  refine zs_if_ne dX1_isLeast_59 rfl ?_ ?_
  · refine zs_iconst (v := 0) dX1_isLeast_66 ciconst_0 ?_
    exact zs_iretP dX1_isLeast_67 rfl
  refine zs_iconst (v := 1) dX1_isLeast_62 ciconst_1 ?_
  refine zs_goto dX1_isLeast_63 rfl ?_
  exact zs_iretP dX1_isLeast_67 rfl
theorem dX1_finish_0 : decode cX1_finish 0 = .ok (.lload_n 3, 1) := by decide +kernel
theorem dX1_finish_1 : decode cX1_finish 1 = .ok (.lstore 5, 2) := by decide +kernel
theorem dX1_finish_3 : decode cX1_finish 3 = .ok (.iload_n 2, 1) := by decide +kernel
theorem dX1_finish_4 : decode cX1_finish 4 = .ok (.istore 7, 2) := by decide +kernel
theorem dX1_finish_6 : decode cX1_finish 6 = .ok (.iload_n 1, 1) := by decide +kernel
theorem dX1_finish_7 : decode cX1_finish 7 = .ok (.istore 8, 2) := by decide +kernel
theorem dX1_finish_9 : decode cX1_finish 9 = .ok (.iload 8, 2) := by decide +kernel
theorem dX1_finish_11 : decode cX1_finish 11 = .ok (.aload_n 0, 1) := by decide +kernel
theorem dX1_finish_12 : decode cX1_finish 12 = .ok (.getfield 35, 3) := by decide +kernel
theorem dX1_finish_15 : decode cX1_finish 15 = .ok (.if_icmp .ge 52, 3) := by decide +kernel
theorem dX1_finish_18 : decode cX1_finish 18 = .ok (.iload 8, 2) := by decide +kernel
theorem dX1_finish_20 : decode cX1_finish 20 = .ok (.aload_n 0, 1) := by decide +kernel
theorem dX1_finish_21 : decode cX1_finish 21 = .ok (.getfield 23, 3) := by decide +kernel
theorem dX1_finish_24 : decode cX1_finish 24 = .ok (.arraylength, 1) := by decide +kernel
theorem dX1_finish_25 : decode cX1_finish 25 = .ok (.if_icmp .ge 42, 3) := by decide +kernel
theorem dX1_finish_28 : decode cX1_finish 28 = .ok (.aload_n 0, 1) := by decide +kernel
theorem dX1_finish_29 : decode cX1_finish 29 = .ok (.getfield 23, 3) := by decide +kernel
theorem dX1_finish_32 : decode cX1_finish 32 = .ok (.iload 8, 2) := by decide +kernel
theorem dX1_finish_34 : decode cX1_finish 34 = .ok (.iload 7, 2) := by decide +kernel
theorem dX1_finish_36 : decode cX1_finish 36 = .ok (.bipush 15, 2) := by decide +kernel
theorem dX1_finish_38 : decode cX1_finish 38 = .ok (.iand, 1) := by decide +kernel
theorem dX1_finish_39 : decode cX1_finish 39 = .ok (.iastore, 1) := by decide +kernel
theorem dX1_finish_40 : decode cX1_finish 40 = .ok (.lload 5, 2) := by decide +kernel
theorem dX1_finish_42 : decode cX1_finish 42 = .ok (.iconst 4, 1) := by decide +kernel
theorem dX1_finish_43 : decode cX1_finish 43 = .ok (.lshl, 1) := by decide +kernel
theorem dX1_finish_44 : decode cX1_finish 44 = .ok (.aload_n 0, 1) := by decide +kernel
theorem dX1_finish_45 : decode cX1_finish 45 = .ok (.getfield 23, 3) := by decide +kernel
theorem dX1_finish_48 : decode cX1_finish 48 = .ok (.iload 8, 2) := by decide +kernel
theorem dX1_finish_50 : decode cX1_finish 50 = .ok (.iaload, 1) := by decide +kernel
theorem dX1_finish_51 : decode cX1_finish 51 = .ok (.i2l, 1) := by decide +kernel
theorem dX1_finish_52 : decode cX1_finish 52 = .ok (.lor, 1) := by decide +kernel
theorem dX1_finish_53 : decode cX1_finish 53 = .ok (.lstore 5, 2) := by decide +kernel
theorem dX1_finish_55 : decode cX1_finish 55 = .ok (.iload 7, 2) := by decide +kernel
theorem dX1_finish_57 : decode cX1_finish 57 = .ok (.iconst 4, 1) := by decide +kernel
theorem dX1_finish_58 : decode cX1_finish 58 = .ok (.ishr, 1) := by decide +kernel
theorem dX1_finish_59 : decode cX1_finish 59 = .ok (.istore 7, 2) := by decide +kernel
theorem dX1_finish_61 : decode cX1_finish 61 = .ok (.iinc 8 1, 3) := by decide +kernel
theorem dX1_finish_64 : decode cX1_finish 64 = .ok (.goto (-55), 3) := by decide +kernel
theorem dX1_finish_67 : decode cX1_finish 67 = .ok (.aload_n 0, 1) := by decide +kernel
theorem dX1_finish_68 : decode cX1_finish 68 = .ok (.invokevirtual 79, 3) := by decide +kernel
theorem dX1_finish_71 : decode cX1_finish 71 = .ok (.ifCond .eq 9, 3) := by decide +kernel
theorem dX1_finish_74 : decode cX1_finish 74 = .ok (.aload_n 0, 1) := by decide +kernel
theorem dX1_finish_75 : decode cX1_finish 75 = .ok (.lload 5, 2) := by decide +kernel
theorem dX1_finish_77 : decode cX1_finish 77 = .ok (.invokevirtual 47, 3) := by decide +kernel
theorem dX1_finish_80 : decode cX1_finish 80 = .ok (.return_, 1) := by decide +kernel
def fp_X1_finish_L9 (k67 : Int64 → zM → Option (zM)) (v0 : Nat) : Nat → Int64 → Int32 → Int32 → zM → Option (zM)
  | 0, _, _, _, _ => none
  | n + 1, v5, v7, v8, M =>
    (zgI 1 M v0 4).bind fun (y1 : Int32) =>
    if v8 ≥ y1 then (
      k67 v5 M)
    else (
      (zgR 1 M v0 7).bind fun (y2 : Nat) =>
      (zln M y2).bind fun (y3 : Int32) =>
      if v8 ≥ y3 then (
        k67 v5 M)
      else (
        (zgR 1 M v0 7).bind fun (y4 : Nat) =>
        (ztI M y4 v8 (v7 &&& 15)).bind fun (M5 : zM) =>
        (zgR 1 M5 v0 7).bind fun (y6 : Nat) =>
        (zlI 100 M5 y6 v8).bind fun (y7 : Int32) =>
        lett (((v5 <<< ((4 : Int32).toInt64 &&& 63)) ||| (y7.toInt64))) fun (v5_8 : Int64) =>
        lett ((v7 >>> (4 &&& 31))) fun (v7_9 : Int32) =>
        fp_X1_finish_L9 k67 v0 n v5_8 v7_9 (v8 + 1) M5))
def fp_X1_finish (v0 : Nat) (v1 : Int32) (v2 : Int32) (v3 : Int64) (M : zM) : Option (zM) :=
  zthis 1 M v0 (
    fp_X1_finish_L9
      (fun v5_10 M11 =>
        (fp_X1_isLeast v0 M11).bind fun (y12 : Int32) =>
        if y12 = 0 then (
          some M11)
        else (
          (fp_X1_keep v0 v5_10 M11).bind fun (M13 : zM) =>
          some M13)) v0 FU v3 v2 v1 M)
set_option maxHeartbeats 4000000 in
set_option maxRecDepth 100000 in
theorem th_X1_finish {v0 : Nat} {v1 : Int32} {v2 : Int32} {v3 : Int64} {M : zM} {x0 : zM} (h : fp_X1_finish v0 v1 v2 v3 M = some x0) : v0 < zS M ∧ kd v0 = 1 := by
  unfold fp_X1_finish at h
  exact zthis_of h
set_option maxHeartbeats 4000000 in
set_option maxRecDepth 100000 in
theorem w_X1_finish_L9 (E : zEnv) (hE : zEok E) (d : Nat) (hd : 4 ≤ d) (M0 : zM) (x0 : zM) (v0 : Nat) (k67 : Int64 → zM → Option (zM)) (hk67 : ∀ (v5 : Int64) (M : zM), zSy E mu_X1_finish d M0 (none, x0) x0 (k67 v5 M) 67 [(0, .ref (E.2.2.2.1 + v0)), (5, .long v5)] [] M) : ∀ (n : Nat) (v5 : Int64) (v7 : Int32) (v8 : Int32) (M : zM), zSy E mu_X1_finish d M0 (none, x0) x0 (fp_X1_finish_L9 k67 v0 n v5 v7 v8 M) 9 [(0, .ref (E.2.2.2.1 + v0)), (5, .long v5), (7, .int v7), (8, .int v8)] [] M := by
  intro n
  induction n with
  | zero =>
    intro v5 v7 v8 M
    rw [fp_X1_finish_L9]
    exact zs_none
  | succ n ih =>
    intro v5 v7 v8 M
    rw [fp_X1_finish_L9]
    refine zs_iload dX1_finish_9 3 rfl ?_
    refine zs_aload_n dX1_finish_11 rfl 0 rfl ?_
    refine zs_getI dX1_finish_12 fl_X1_35 rfl (fun y1 => ?_)
    refine zs_icmp_ge dX1_finish_15 rfl ?_ ?_
    · refine zs_sub (loc' := [(0, .ref (E.2.2.2.1 + v0)), (5, .long v5)]) [0, 1] rfl ?_
      exact hk67 v5 M
    refine zs_iload dX1_finish_18 3 rfl ?_
    refine zs_aload_n dX1_finish_20 rfl 0 rfl ?_
    refine zs_getR dX1_finish_21 fl_X1_23 rfl (fun y2 => ?_)
    refine zs_alen dX1_finish_24 (fun y3 => ?_)
    refine zs_icmp_ge dX1_finish_25 rfl ?_ ?_
    · refine zs_sub (loc' := [(0, .ref (E.2.2.2.1 + v0)), (5, .long v5)]) [0, 1] rfl ?_
      exact hk67 v5 M
    refine zs_aload_n dX1_finish_28 rfl 0 rfl ?_
    refine zs_getR dX1_finish_29 fl_X1_23 rfl (fun y4 => ?_)
    refine zs_iload dX1_finish_32 3 rfl ?_
    refine zs_iload dX1_finish_34 2 rfl ?_
    refine zs_bipush (v := 15) dX1_finish_36 cbipush_15 ?_
    refine zs_iand dX1_finish_38 ?_
    refine zs_stI dX1_finish_39 (fun M5 => ?_)
    refine zs_lload dX1_finish_40 1 rfl ?_
    refine zs_iconst (v := 4) dX1_finish_42 ciconst_4 ?_
    refine zs_lshl dX1_finish_43 ?_
    refine zs_aload_n dX1_finish_44 rfl 0 rfl ?_
    refine zs_getR dX1_finish_45 fl_X1_23 rfl (fun y6 => ?_)
    refine zs_iload dX1_finish_48 3 rfl ?_
    refine zs_ldI dX1_finish_50 (fun y7 => ?_)
    refine zs_i2l dX1_finish_51 ?_
    refine zs_lor dX1_finish_52 ?_
    refine zs_lstoreL (loc' := fun v5_8 => [(0, .ref (E.2.2.2.1 + v0)), (5, .long v5_8), (7, .int v7), (8, .int v8)]) dX1_finish_53 (Nat.le_of_ble_eq_true rfl) [1, 0, 2, 3] (fun _ => rfl) (fun v5_8 => ?_)
    refine zs_iload dX1_finish_55 2 rfl ?_
    refine zs_iconst (v := 4) dX1_finish_57 ciconst_4 ?_
    refine zs_ishr dX1_finish_58 ?_
    refine zs_istoreL (loc' := fun v7_9 => [(0, .ref (E.2.2.2.1 + v0)), (5, .long v5_8), (7, .int v7_9), (8, .int v8)]) dX1_finish_59 (Nat.le_of_ble_eq_true rfl) [1, 2, 0, 3] (fun _ => rfl) (fun v7_9 => ?_)
    refine zs_iinc (v := (v8 + 1)) (loc' := [(0, .ref (E.2.2.2.1 + v0)), (5, .long v5_8), (7, .int v7_9), (8, .int (v8 + 1))]) dX1_finish_61 3 rfl (by rfl) (Nat.le_of_ble_eq_true rfl) [1, 2, 3, 0] rfl ?_
    refine zs_goto dX1_finish_64 rfl ?_
    exact ih v5_8 v7_9 (v8 + 1) M5
set_option maxHeartbeats 4000000 in
set_option maxRecDepth 100000 in
theorem ct_X1_finish (E : zEnv) (hE : zEok E) (d : Nat) (hd : 4 ≤ d) (v0 : Nat) (v1 : Int32) (v2 : Int32) (v3 : Int64) (M : zM) (x0 : zM) (hx : fp_X1_finish v0 v1 v2 v3 M = some x0) : zCt E mu_X1_finish d [.ref (E.2.2.2.1 + v0), .int v1, .int v2, .long v3] M (none, x0) := by
  refine zCt_of (μ := mu_X1_finish) (t := fp_X1_finish v0 v1 v2 v3 M) rfl rfl (Nat.le_of_ble_eq_true rfl) hx ?_
  change zSy E mu_X1_finish d M (none, x0) x0 (fp_X1_finish v0 v1 v2 v3 M) 0 [(0, .ref (E.2.2.2.1 + v0)), (1, .int v1), (2, .int v2), (3, .long v3)] [] M
  unfold fp_X1_finish
  refine zs_this (fun hth => ?_)
  refine zs_lload_n dX1_finish_0 rfl 3 rfl ?_
  refine zs_lstore (loc' := [(0, .ref (E.2.2.2.1 + v0)), (1, .int v1), (2, .int v2), (5, .long v3)]) dX1_finish_1 (Nat.le_of_ble_eq_true rfl) [1, 2, 3, 0] rfl ?_
  refine zs_iload_n dX1_finish_3 rfl 2 rfl ?_
  refine zs_istore (loc' := [(0, .ref (E.2.2.2.1 + v0)), (1, .int v1), (5, .long v3), (7, .int v2)]) dX1_finish_4 (Nat.le_of_ble_eq_true rfl) [1, 2, 4, 0] rfl ?_
  refine zs_iload_n dX1_finish_6 rfl 1 rfl ?_
  refine zs_istore (loc' := [(0, .ref (E.2.2.2.1 + v0)), (5, .long v3), (7, .int v2), (8, .int v1)]) dX1_finish_7 (Nat.le_of_ble_eq_true rfl) [1, 3, 4, 0] rfl ?_
  refine w_X1_finish_L9 E hE d hd _ _ _ _ (fun v5_10 M11 => ?_) _ _ _ _ _
  refine zs_aload_n dX1_finish_67 rfl 0 rfl ?_
  refine zs_invVPI (rest := []) [] dX1_finish_68 lk_X1_79 rfl (fun _ h => th_X1_isLeast h) (zd1 rfl hd) rfl (Nat.le_of_ble_eq_true rfl) (ct_X1_isLeast E hE _ (zdl rfl hd) _ _) (fun y12 => ?_)
  refine zs_if_eq dX1_finish_71 rfl ?_ ?_
  · exact zs_vret dX1_finish_80 trivial
  refine zs_aload_n dX1_finish_74 rfl 0 rfl ?_
  refine zs_lload dX1_finish_75 1 rfl ?_
  refine zs_invVWV (rest := []) [.long v5_10] dX1_finish_77 lk_X1_47 rfl (fun _ h => th_X1_keep h) (zd1 rfl hd) rfl (Nat.le_of_ble_eq_true rfl) (ct_X1_keep E hE _ (zdl rfl hd) _ _ _) (fun M13 => ?_)
  exact zs_vret dX1_finish_80 trivial
theorem dX1_spoils_0 : decode cX1_spoils 0 = .ok (.iload_n 1, 1) := by decide +kernel
theorem dX1_spoils_1 : decode cX1_spoils 1 = .ok (.iconst 2, 1) := by decide +kernel
theorem dX1_spoils_2 : decode cX1_spoils 2 = .ok (.if_icmp .ge 5, 3) := by decide +kernel
theorem dX1_spoils_5 : decode cX1_spoils 5 = .ok (.iconst 0, 1) := by decide +kernel
theorem dX1_spoils_6 : decode cX1_spoils 6 = .ok (.ireturn, 1) := by decide +kernel
theorem dX1_spoils_7 : decode cX1_spoils 7 = .ok (.aload_n 0, 1) := by decide +kernel
theorem dX1_spoils_8 : decode cX1_spoils 8 = .ok (.getfield 23, 3) := by decide +kernel
theorem dX1_spoils_11 : decode cX1_spoils 11 = .ok (.iload_n 1, 1) := by decide +kernel
theorem dX1_spoils_12 : decode cX1_spoils 12 = .ok (.iconst 1, 1) := by decide +kernel
theorem dX1_spoils_13 : decode cX1_spoils 13 = .ok (.isub, 1) := by decide +kernel
theorem dX1_spoils_14 : decode cX1_spoils 14 = .ok (.iaload, 1) := by decide +kernel
theorem dX1_spoils_15 : decode cX1_spoils 15 = .ok (.istore_n 3, 1) := by decide +kernel
theorem dX1_spoils_16 : decode cX1_spoils 16 = .ok (.iload_n 2, 1) := by decide +kernel
theorem dX1_spoils_17 : decode cX1_spoils 17 = .ok (.ifCond .ne 29, 3) := by decide +kernel
theorem dX1_spoils_20 : decode cX1_spoils 20 = .ok (.iload_n 3, 1) := by decide +kernel
theorem dX1_spoils_21 : decode cX1_spoils 21 = .ok (.aload_n 0, 1) := by decide +kernel
theorem dX1_spoils_22 : decode cX1_spoils 22 = .ok (.getfield 23, 3) := by decide +kernel
theorem dX1_spoils_25 : decode cX1_spoils 25 = .ok (.iconst 1, 1) := by decide +kernel
theorem dX1_spoils_26 : decode cX1_spoils 26 = .ok (.iaload, 1) := by decide +kernel
theorem dX1_spoils_27 : decode cX1_spoils 27 = .ok (.if_icmp .lt 13, 3) := by decide +kernel
theorem dX1_spoils_30 : decode cX1_spoils 30 = .ok (.iload_n 1, 1) := by decide +kernel
theorem dX1_spoils_31 : decode cX1_spoils 31 = .ok (.aload_n 0, 1) := by decide +kernel
theorem dX1_spoils_32 : decode cX1_spoils 32 = .ok (.getfield 35, 3) := by decide +kernel
theorem dX1_spoils_35 : decode cX1_spoils 35 = .ok (.iconst 1, 1) := by decide +kernel
theorem dX1_spoils_36 : decode cX1_spoils 36 = .ok (.isub, 1) := by decide +kernel
theorem dX1_spoils_37 : decode cX1_spoils 37 = .ok (.if_icmp .ne 7, 3) := by decide +kernel
theorem dX1_spoils_40 : decode cX1_spoils 40 = .ok (.iconst 1, 1) := by decide +kernel
theorem dX1_spoils_41 : decode cX1_spoils 41 = .ok (.goto 4, 3) := by decide +kernel
theorem dX1_spoils_44 : decode cX1_spoils 44 = .ok (.iconst 0, 1) := by decide +kernel
theorem dX1_spoils_45 : decode cX1_spoils 45 = .ok (.ireturn, 1) := by decide +kernel
theorem dX1_spoils_46 : decode cX1_spoils 46 = .ok (.iload_n 2, 1) := by decide +kernel
theorem dX1_spoils_47 : decode cX1_spoils 47 = .ok (.aload_n 0, 1) := by decide +kernel
theorem dX1_spoils_48 : decode cX1_spoils 48 = .ok (.getfield 23, 3) := by decide +kernel
theorem dX1_spoils_51 : decode cX1_spoils 51 = .ok (.iconst 1, 1) := by decide +kernel
theorem dX1_spoils_52 : decode cX1_spoils 52 = .ok (.iaload, 1) := by decide +kernel
theorem dX1_spoils_53 : decode cX1_spoils 53 = .ok (.if_icmp .ge 21, 3) := by decide +kernel
theorem dX1_spoils_56 : decode cX1_spoils 56 = .ok (.iload_n 3, 1) := by decide +kernel
theorem dX1_spoils_57 : decode cX1_spoils 57 = .ok (.ifCond .eq 13, 3) := by decide +kernel
theorem dX1_spoils_60 : decode cX1_spoils 60 = .ok (.iload_n 1, 1) := by decide +kernel
theorem dX1_spoils_61 : decode cX1_spoils 61 = .ok (.aload_n 0, 1) := by decide +kernel
theorem dX1_spoils_62 : decode cX1_spoils 62 = .ok (.getfield 35, 3) := by decide +kernel
theorem dX1_spoils_65 : decode cX1_spoils 65 = .ok (.iconst 1, 1) := by decide +kernel
theorem dX1_spoils_66 : decode cX1_spoils 66 = .ok (.isub, 1) := by decide +kernel
theorem dX1_spoils_67 : decode cX1_spoils 67 = .ok (.if_icmp .ne 7, 3) := by decide +kernel
theorem dX1_spoils_70 : decode cX1_spoils 70 = .ok (.iconst 1, 1) := by decide +kernel
theorem dX1_spoils_71 : decode cX1_spoils 71 = .ok (.goto 4, 3) := by decide +kernel
theorem dX1_spoils_74 : decode cX1_spoils 74 = .ok (.iconst 0, 1) := by decide +kernel
theorem dX1_spoils_75 : decode cX1_spoils 75 = .ok (.ireturn, 1) := by decide +kernel
def fp_X1_spoils (v0 : Nat) (v1 : Int32) (v2 : Int32) (M : zM) : Option (Int32) :=
  zthis 1 M v0 (
    if v1 ≥ 2 then (
      (zgR 1 M v0 7).bind fun (y1 : Nat) =>
      (zlI 100 M y1 (v1 - 1)).bind fun (y2 : Int32) =>
      if v2 ≠ 0 then (
        (zgR 1 M v0 7).bind fun (y3 : Nat) =>
        (zlI 100 M y3 1).bind fun (y4 : Int32) =>
        if v2 ≥ y4 then (
          some 0)
        else (
          zjn (
              some 1)
            (fun j70 =>
              if y2 = 0 then (
                j70)
              else (
                (zgI 1 M v0 4).bind fun (y5 : Int32) =>
                if v1 ≠ (y5 - 1) then (
                  some 0)
                else (
                  j70)))))
      else (
        (zgR 1 M v0 7).bind fun (y6 : Nat) =>
        (zlI 100 M y6 1).bind fun (y7 : Int32) =>
        zjn (
            some 1)
          (fun j40 =>
            if y2 < y7 then (
              j40)
            else (
              (zgI 1 M v0 4).bind fun (y8 : Int32) =>
              if v1 ≠ (y8 - 1) then (
                some 0)
              else (
                j40)))))
    else (
      some 0))
set_option maxHeartbeats 4000000 in
set_option maxRecDepth 100000 in
theorem th_X1_spoils {v0 : Nat} {v1 : Int32} {v2 : Int32} {M : zM} {x0 : Int32} (h : fp_X1_spoils v0 v1 v2 M = some x0) : v0 < zS M ∧ kd v0 = 1 := by
  unfold fp_X1_spoils at h
  exact zthis_of h
set_option maxHeartbeats 4000000 in
set_option maxRecDepth 100000 in
theorem ct_X1_spoils (E : zEnv) (hE : zEok E) (d : Nat) (hd : 1 ≤ d) (v0 : Nat) (v1 : Int32) (v2 : Int32) (M : zM) (x0 : Int32) (hx : fp_X1_spoils v0 v1 v2 M = some x0) : zCt E mu_X1_spoils d [.ref (E.2.2.2.1 + v0), .int v1, .int v2] M (some (.int x0), M) := by
  refine zCt_of (μ := mu_X1_spoils) (t := fp_X1_spoils v0 v1 v2 M) rfl rfl (Nat.le_of_ble_eq_true rfl) hx ?_
  change zSy E mu_X1_spoils d M (some (.int x0), M) x0 (fp_X1_spoils v0 v1 v2 M) 0 [(0, .ref (E.2.2.2.1 + v0)), (1, .int v1), (2, .int v2)] [] M
  unfold fp_X1_spoils
  refine zs_this (fun hth => ?_)
  refine zs_iload_n dX1_spoils_0 rfl 1 rfl ?_
  refine zs_iconst (v := 2) dX1_spoils_1 ciconst_2 ?_
  refine zs_icmp_ge dX1_spoils_2 rfl ?_ ?_
  · refine zs_aload_n dX1_spoils_7 rfl 0 rfl ?_
    refine zs_getR dX1_spoils_8 fl_X1_23 rfl (fun y1 => ?_)
    refine zs_iload_n dX1_spoils_11 rfl 1 rfl ?_
    refine zs_iconst (v := 1) dX1_spoils_12 ciconst_1 ?_
    refine zs_isub dX1_spoils_13 ?_
    refine zs_ldI dX1_spoils_14 (fun y2 => ?_)
    refine zs_istore_n (loc' := [(0, .ref (E.2.2.2.1 + v0)), (1, .int v1), (2, .int v2), (3, .int y2)]) dX1_spoils_15 rfl (Nat.le_of_ble_eq_true rfl) [1, 2, 3, 0] rfl ?_
    refine zs_iload_n dX1_spoils_16 rfl 2 rfl ?_
    refine zs_if_ne dX1_spoils_17 rfl ?_ ?_
    · refine zs_iload_n dX1_spoils_46 rfl 2 rfl ?_
      refine zs_aload_n dX1_spoils_47 rfl 0 rfl ?_
      refine zs_getR dX1_spoils_48 fl_X1_23 rfl (fun y3 => ?_)
      refine zs_iconst (v := 1) dX1_spoils_51 ciconst_1 ?_
      refine zs_ldI dX1_spoils_52 (fun y4 => ?_)
      refine zs_icmp_ge dX1_spoils_53 rfl ?_ ?_
      · refine zs_iconst (v := 0) dX1_spoils_74 ciconst_0 ?_
        exact zs_iretP dX1_spoils_75 rfl
      refine zs_iload_n dX1_spoils_56 rfl 3 rfl ?_
      refine zs_jn (fun j70 => zSy E mu_X1_spoils d M (some (.int x0), M) x0 (j70) 70 [] [] M) ?_ (fun j70 hj70 => ?_)
      · refine zs_iconst (v := 1) dX1_spoils_70 ciconst_1 ?_
        refine zs_goto dX1_spoils_71 rfl ?_
        exact zs_iretP dX1_spoils_75 rfl
      refine zs_if_eq dX1_spoils_57 rfl ?_ ?_
      · refine zs_sub (loc' := []) [] rfl ?_
        exact hj70
      refine zs_iload_n dX1_spoils_60 rfl 1 rfl ?_
      refine zs_aload_n dX1_spoils_61 rfl 0 rfl ?_
      refine zs_getI dX1_spoils_62 fl_X1_35 rfl (fun y5 => ?_)
      refine zs_iconst (v := 1) dX1_spoils_65 ciconst_1 ?_
      refine zs_isub dX1_spoils_66 ?_
      refine zs_icmp_ne dX1_spoils_67 rfl ?_ ?_
      · refine zs_iconst (v := 0) dX1_spoils_74 ciconst_0 ?_
        exact zs_iretP dX1_spoils_75 rfl
      refine zs_sub (loc' := []) [] rfl ?_
      exact hj70
    refine zs_iload_n dX1_spoils_20 rfl 3 rfl ?_
    refine zs_aload_n dX1_spoils_21 rfl 0 rfl ?_
    refine zs_getR dX1_spoils_22 fl_X1_23 rfl (fun y6 => ?_)
    refine zs_iconst (v := 1) dX1_spoils_25 ciconst_1 ?_
    refine zs_ldI dX1_spoils_26 (fun y7 => ?_)
    refine zs_jn (fun j40 => zSy E mu_X1_spoils d M (some (.int x0), M) x0 (j40) 40 [] [] M) ?_ (fun j40 hj40 => ?_)
    · refine zs_iconst (v := 1) dX1_spoils_40 ciconst_1 ?_
      refine zs_goto dX1_spoils_41 rfl ?_
      exact zs_iretP dX1_spoils_45 rfl
    refine zs_icmp_lt dX1_spoils_27 rfl ?_ ?_
    · refine zs_sub (loc' := []) [] rfl ?_
      exact hj40
    refine zs_iload_n dX1_spoils_30 rfl 1 rfl ?_
    refine zs_aload_n dX1_spoils_31 rfl 0 rfl ?_
    refine zs_getI dX1_spoils_32 fl_X1_35 rfl (fun y8 => ?_)
    refine zs_iconst (v := 1) dX1_spoils_35 ciconst_1 ?_
    refine zs_isub dX1_spoils_36 ?_
    refine zs_icmp_ne dX1_spoils_37 rfl ?_ ?_
    · refine zs_iconst (v := 0) dX1_spoils_44 ciconst_0 ?_
      exact zs_iretP dX1_spoils_45 rfl
    refine zs_sub (loc' := []) [] rfl ?_
    exact hj40
  refine zs_iconst (v := 0) dX1_spoils_5 ciconst_0 ?_
  exact zs_iretP dX1_spoils_6 rfl
theorem dX1_insert_0 : decode cX1_insert 0 = .ok (.iload_n 0, 1) := by decide +kernel
theorem dX1_insert_1 : decode cX1_insert 1 = .ok (.iload_n 1, 1) := by decide +kernel
theorem dX1_insert_2 : decode cX1_insert 2 = .ok (.iand, 1) := by decide +kernel
theorem dX1_insert_3 : decode cX1_insert 3 = .ok (.invokestatic 71, 3) := by decide +kernel
theorem dX1_insert_6 : decode cX1_insert 6 = .ok (.istore 4, 2) := by decide +kernel
theorem dX1_insert_8 : decode cX1_insert 8 = .ok (.iconst 0, 1) := by decide +kernel
theorem dX1_insert_9 : decode cX1_insert 9 = .ok (.istore 5, 2) := by decide +kernel
theorem dX1_insert_11 : decode cX1_insert 11 = .ok (.iload 5, 2) := by decide +kernel
theorem dX1_insert_13 : decode cX1_insert 13 = .ok (.iload 4, 2) := by decide +kernel
theorem dX1_insert_15 : decode cX1_insert 15 = .ok (.if_icmp .ge 27, 3) := by decide +kernel
theorem dX1_insert_18 : decode cX1_insert 18 = .ok (.iload_n 0, 1) := by decide +kernel
theorem dX1_insert_19 : decode cX1_insert 19 = .ok (.iload_n 2, 1) := by decide +kernel
theorem dX1_insert_20 : decode cX1_insert 20 = .ok (.iconst 4, 1) := by decide +kernel
theorem dX1_insert_21 : decode cX1_insert 21 = .ok (.iload 5, 2) := by decide +kernel
theorem dX1_insert_23 : decode cX1_insert 23 = .ok (.imul, 1) := by decide +kernel
theorem dX1_insert_24 : decode cX1_insert 24 = .ok (.ishr, 1) := by decide +kernel
theorem dX1_insert_25 : decode cX1_insert 25 = .ok (.bipush 15, 2) := by decide +kernel
theorem dX1_insert_27 : decode cX1_insert 27 = .ok (.iand, 1) := by decide +kernel
theorem dX1_insert_28 : decode cX1_insert 28 = .ok (.invokestatic 76, 3) := by decide +kernel
theorem dX1_insert_31 : decode cX1_insert 31 = .ok (.ifCond .ne 5, 3) := by decide +kernel
theorem dX1_insert_34 : decode cX1_insert 34 = .ok (.iconst (-1), 1) := by decide +kernel
theorem dX1_insert_35 : decode cX1_insert 35 = .ok (.ireturn, 1) := by decide +kernel
theorem dX1_insert_36 : decode cX1_insert 36 = .ok (.iinc 5 1, 3) := by decide +kernel
theorem dX1_insert_39 : decode cX1_insert 39 = .ok (.goto (-28), 3) := by decide +kernel
theorem dX1_insert_42 : decode cX1_insert 42 = .ok (.iload_n 2, 1) := by decide +kernel
theorem dX1_insert_43 : decode cX1_insert 43 = .ok (.iconst 1, 1) := by decide +kernel
theorem dX1_insert_44 : decode cX1_insert 44 = .ok (.iconst 4, 1) := by decide +kernel
theorem dX1_insert_45 : decode cX1_insert 45 = .ok (.iload 4, 2) := by decide +kernel
theorem dX1_insert_47 : decode cX1_insert 47 = .ok (.imul, 1) := by decide +kernel
theorem dX1_insert_48 : decode cX1_insert 48 = .ok (.ishl, 1) := by decide +kernel
theorem dX1_insert_49 : decode cX1_insert 49 = .ok (.iconst 1, 1) := by decide +kernel
theorem dX1_insert_50 : decode cX1_insert 50 = .ok (.isub, 1) := by decide +kernel
theorem dX1_insert_51 : decode cX1_insert 51 = .ok (.iand, 1) := by decide +kernel
theorem dX1_insert_52 : decode cX1_insert 52 = .ok (.istore 5, 2) := by decide +kernel
theorem dX1_insert_54 : decode cX1_insert 54 = .ok (.iload_n 2, 1) := by decide +kernel
theorem dX1_insert_55 : decode cX1_insert 55 = .ok (.iconst 4, 1) := by decide +kernel
theorem dX1_insert_56 : decode cX1_insert 56 = .ok (.iload 4, 2) := by decide +kernel
theorem dX1_insert_58 : decode cX1_insert 58 = .ok (.imul, 1) := by decide +kernel
theorem dX1_insert_59 : decode cX1_insert 59 = .ok (.ishr, 1) := by decide +kernel
theorem dX1_insert_60 : decode cX1_insert 60 = .ok (.istore 6, 2) := by decide +kernel
theorem dX1_insert_62 : decode cX1_insert 62 = .ok (.iload 6, 2) := by decide +kernel
theorem dX1_insert_64 : decode cX1_insert 64 = .ok (.iconst 4, 1) := by decide +kernel
theorem dX1_insert_65 : decode cX1_insert 65 = .ok (.ishl, 1) := by decide +kernel
theorem dX1_insert_66 : decode cX1_insert 66 = .ok (.iload_n 3, 1) := by decide +kernel
theorem dX1_insert_67 : decode cX1_insert 67 = .ok (.ior, 1) := by decide +kernel
theorem dX1_insert_68 : decode cX1_insert 68 = .ok (.iconst 4, 1) := by decide +kernel
theorem dX1_insert_69 : decode cX1_insert 69 = .ok (.iload 4, 2) := by decide +kernel
theorem dX1_insert_71 : decode cX1_insert 71 = .ok (.imul, 1) := by decide +kernel
theorem dX1_insert_72 : decode cX1_insert 72 = .ok (.ishl, 1) := by decide +kernel
theorem dX1_insert_73 : decode cX1_insert 73 = .ok (.iload 5, 2) := by decide +kernel
theorem dX1_insert_75 : decode cX1_insert 75 = .ok (.ior, 1) := by decide +kernel
theorem dX1_insert_76 : decode cX1_insert 76 = .ok (.ireturn, 1) := by decide +kernel
def fp_X1_insert_L11 (k42 : Option (Int32)) (v0 : Int32) (v2 : Int32) (v3 : Int32) (v4 : Int32) : Nat → Int32 → Option (Int32)
  | 0, _ => none
  | n + 1, v5 =>
    if v5 ≥ v4 then (
      k42)
    else (
      (fp_X2_isIn v0 ((v2 >>> ((4 * v5) &&& 31)) &&& 15)).bind fun (y2 : Int32) =>
      if y2 ≠ 0 then (
        fp_X1_insert_L11 k42 v0 v2 v3 v4 n (v5 + 1))
      else (
        some (-1)))
def fp_X1_insert (v0 : Int32) (v1 : Int32) (v2 : Int32) (v3 : Int32) : Option (Int32) :=
  (fp_J6_bitCount_0f7a4 (v0 &&& v1)).bind fun (y1 : Int32) =>
  fp_X1_insert_L11
    (lett ((v2 &&& ((1 <<< ((4 * y1) &&& 31)) - 1))) fun (v5_3 : Int32) =>
  lett ((v2 >>> ((4 * y1) &&& 31))) fun (v6_4 : Int32) =>
  some ((((v6_4 <<< (4 &&& 31)) ||| v3) <<< ((4 * y1) &&& 31)) ||| v5_3)) v0 v2 v3 y1 FU 0
set_option maxHeartbeats 4000000 in
set_option maxRecDepth 100000 in
theorem w_X1_insert_L11 (E : zEnv) (hE : zEok E) (d : Nat) (hd : 2 ≤ d) (x0 : Int32) (v0 : Int32) (v2 : Int32) (v3 : Int32) (v4 : Int32) (M : zM) (k42 : Option (Int32)) (hk42 : zSy E mu_X1_insert d M (some (.int x0), M) x0 (k42) 42 [(2, .int v2), (3, .int v3), (4, .int v4)] [] M) : ∀ (n : Nat) (v5 : Int32), zSy E mu_X1_insert d M (some (.int x0), M) x0 (fp_X1_insert_L11 k42 v0 v2 v3 v4 n v5) 11 [(0, .int v0), (2, .int v2), (3, .int v3), (4, .int v4), (5, .int v5)] [] M := by
  intro n
  induction n with
  | zero =>
    intro v5
    rw [fp_X1_insert_L11]
    exact zs_none
  | succ n ih =>
    intro v5
    rw [fp_X1_insert_L11]
    refine zs_iload dX1_insert_11 4 rfl ?_
    refine zs_iload dX1_insert_13 3 rfl ?_
    refine zs_icmp_ge dX1_insert_15 rfl ?_ ?_
    · refine zs_sub (loc' := [(2, .int v2), (3, .int v3), (4, .int v4)]) [1, 2, 3] rfl ?_
      exact hk42
    refine zs_iload_n dX1_insert_18 rfl 0 rfl ?_
    refine zs_iload_n dX1_insert_19 rfl 1 rfl ?_
    refine zs_iconst (v := 4) dX1_insert_20 ciconst_4 ?_
    refine zs_iload dX1_insert_21 4 rfl ?_
    refine zs_imul dX1_insert_23 ?_
    refine zs_ishr dX1_insert_24 ?_
    refine zs_bipush (v := 15) dX1_insert_25 cbipush_15 ?_
    refine zs_iand dX1_insert_27 ?_
    refine zs_invSPI (rest := []) [.int v0, .int ((v2 >>> ((4 * v5) &&& 31)) &&& 15)] dX1_insert_28 lk_X1_76 rfl (zd1 rfl hd) rfl (Nat.le_of_ble_eq_true rfl) (ct_X2_isIn E hE _ (zdl rfl hd) _ _ _) (fun y2 => ?_)
    refine zs_if_ne dX1_insert_31 rfl ?_ ?_
    · refine zs_iinc (v := (v5 + 1)) (loc' := [(0, .int v0), (2, .int v2), (3, .int v3), (4, .int v4), (5, .int (v5 + 1))]) dX1_insert_36 4 rfl (by rfl) (Nat.le_of_ble_eq_true rfl) [1, 2, 3, 4, 0] rfl ?_
      refine zs_goto dX1_insert_39 rfl ?_
      exact ih (v5 + 1)
    refine zs_iconst (v := (-1)) dX1_insert_34 ciconst_m1 ?_
    exact zs_iretP dX1_insert_35 rfl
set_option maxHeartbeats 4000000 in
set_option maxRecDepth 100000 in
theorem ct_X1_insert (E : zEnv) (hE : zEok E) (d : Nat) (hd : 2 ≤ d) (v0 : Int32) (v1 : Int32) (v2 : Int32) (v3 : Int32) (M : zM) (x0 : Int32) (hx : fp_X1_insert v0 v1 v2 v3 = some x0) : zCt E mu_X1_insert d [.int v0, .int v1, .int v2, .int v3] M (some (.int x0), M) := by
  refine zCt_of (μ := mu_X1_insert) (t := fp_X1_insert v0 v1 v2 v3) rfl rfl (Nat.le_of_ble_eq_true rfl) hx ?_
  change zSy E mu_X1_insert d M (some (.int x0), M) x0 (fp_X1_insert v0 v1 v2 v3) 0 [(0, .int v0), (1, .int v1), (2, .int v2), (3, .int v3)] [] M
  unfold fp_X1_insert
  refine zs_iload_n dX1_insert_0 rfl 0 rfl ?_
  refine zs_iload_n dX1_insert_1 rfl 1 rfl ?_
  refine zs_iand dX1_insert_2 ?_
  refine zs_invSPI (rest := []) [.int (v0 &&& v1)] dX1_insert_3 lk_X1_71 rfl (zd1 rfl hd) rfl (Nat.le_of_ble_eq_true rfl) (ct_J6_bitCount_0f7a4 E hE _ (zdl rfl hd) _ _) (fun y1 => ?_)
  refine zs_istore (loc' := [(0, .int v0), (2, .int v2), (3, .int v3), (4, .int y1)]) dX1_insert_6 (Nat.le_of_ble_eq_true rfl) [1, 3, 4, 0] rfl ?_
  refine zs_iconst (v := 0) dX1_insert_8 ciconst_0 ?_
  refine zs_istore (loc' := [(0, .int v0), (2, .int v2), (3, .int v3), (4, .int y1), (5, .int 0)]) dX1_insert_9 (Nat.le_of_ble_eq_true rfl) [1, 2, 3, 4, 0] rfl ?_
  refine w_X1_insert_L11 E hE d hd _ _ _ _ _ _ _ ?_ _ _
  refine zs_iload_n dX1_insert_42 rfl 0 rfl ?_
  refine zs_iconst (v := 1) dX1_insert_43 ciconst_1 ?_
  refine zs_iconst (v := 4) dX1_insert_44 ciconst_4 ?_
  refine zs_iload dX1_insert_45 2 rfl ?_
  refine zs_imul dX1_insert_47 ?_
  refine zs_ishl dX1_insert_48 ?_
  refine zs_iconst (v := 1) dX1_insert_49 ciconst_1 ?_
  refine zs_isub dX1_insert_50 ?_
  refine zs_iand dX1_insert_51 ?_
  refine zs_istoreL (loc' := fun v5_3 => [(2, .int v2), (3, .int v3), (4, .int y1), (5, .int v5_3)]) dX1_insert_52 (Nat.le_of_ble_eq_true rfl) [1, 2, 3, 0] (fun _ => rfl) (fun v5_3 => ?_)
  refine zs_iload_n dX1_insert_54 rfl 0 rfl ?_
  refine zs_iconst (v := 4) dX1_insert_55 ciconst_4 ?_
  refine zs_iload dX1_insert_56 2 rfl ?_
  refine zs_imul dX1_insert_58 ?_
  refine zs_ishr dX1_insert_59 ?_
  refine zs_istoreL (loc' := fun v6_4 => [(3, .int v3), (4, .int y1), (5, .int v5_3), (6, .int v6_4)]) dX1_insert_60 (Nat.le_of_ble_eq_true rfl) [2, 3, 4, 0] (fun _ => rfl) (fun v6_4 => ?_)
  refine zs_iload dX1_insert_62 3 rfl ?_
  refine zs_iconst (v := 4) dX1_insert_64 ciconst_4 ?_
  refine zs_ishl dX1_insert_65 ?_
  refine zs_iload_n dX1_insert_66 rfl 0 rfl ?_
  refine zs_ior dX1_insert_67 ?_
  refine zs_iconst (v := 4) dX1_insert_68 ciconst_4 ?_
  refine zs_iload dX1_insert_69 1 rfl ?_
  refine zs_imul dX1_insert_71 ?_
  refine zs_ishl dX1_insert_72 ?_
  refine zs_iload dX1_insert_73 2 rfl ?_
  refine zs_ior dX1_insert_75 ?_
  exact zs_iretP dX1_insert_76 rfl
theorem dX1_extend_0 : decode cX1_extend 0 = .ok (.iload_n 2, 1) := by decide +kernel
theorem dX1_extend_1 : decode cX1_extend 1 = .ok (.ifCond .eq 12, 3) := by decide +kernel
theorem dX1_extend_4 : decode cX1_extend 4 = .ok (.iload_n 1, 1) := by decide +kernel
theorem dX1_extend_5 : decode cX1_extend 5 = .ok (.aload_n 0, 1) := by decide +kernel
theorem dX1_extend_6 : decode cX1_extend 6 = .ok (.getfield 23, 3) := by decide +kernel
theorem dX1_extend_9 : decode cX1_extend 9 = .ok (.arraylength, 1) := by decide +kernel
theorem dX1_extend_10 : decode cX1_extend 10 = .ok (.if_icmp .lt 13, 3) := by decide +kernel
theorem dX1_extend_13 : decode cX1_extend 13 = .ok (.aload_n 0, 1) := by decide +kernel
theorem dX1_extend_14 : decode cX1_extend 14 = .ok (.iload_n 1, 1) := by decide +kernel
theorem dX1_extend_15 : decode cX1_extend 15 = .ok (.iload 4, 2) := by decide +kernel
theorem dX1_extend_17 : decode cX1_extend 17 = .ok (.lload 5, 2) := by decide +kernel
theorem dX1_extend_19 : decode cX1_extend 19 = .ok (.invokevirtual 59, 3) := by decide +kernel
theorem dX1_extend_22 : decode cX1_extend 22 = .ok (.return_, 1) := by decide +kernel
theorem dX1_extend_23 : decode cX1_extend 23 = .ok (.iload_n 3, 1) := by decide +kernel
theorem dX1_extend_24 : decode cX1_extend 24 = .ok (.ifCond .ne 7, 3) := by decide +kernel
theorem dX1_extend_27 : decode cX1_extend 27 = .ok (.iconst (-1), 1) := by decide +kernel
theorem dX1_extend_28 : decode cX1_extend 28 = .ok (.goto 8, 3) := by decide +kernel
theorem dX1_extend_31 : decode cX1_extend 31 = .ok (.iload 4, 2) := by decide +kernel
theorem dX1_extend_33 : decode cX1_extend 33 = .ok (.bipush 15, 2) := by decide +kernel
theorem dX1_extend_35 : decode cX1_extend 35 = .ok (.iand, 1) := by decide +kernel
theorem dX1_extend_36 : decode cX1_extend 36 = .ok (.istore 7, 2) := by decide +kernel
theorem dX1_extend_38 : decode cX1_extend 38 = .ok (.iconst 0, 1) := by decide +kernel
theorem dX1_extend_39 : decode cX1_extend 39 = .ok (.istore 8, 2) := by decide +kernel
theorem dX1_extend_41 : decode cX1_extend 41 = .ok (.iload 8, 2) := by decide +kernel
theorem dX1_extend_43 : decode cX1_extend 43 = .ok (.aload_n 0, 1) := by decide +kernel
theorem dX1_extend_44 : decode cX1_extend 44 = .ok (.getfield 15, 3) := by decide +kernel
theorem dX1_extend_47 : decode cX1_extend 47 = .ok (.if_icmp .ge 163, 3) := by decide +kernel
theorem dX1_extend_50 : decode cX1_extend 50 = .ok (.aload_n 0, 1) := by decide +kernel
theorem dX1_extend_51 : decode cX1_extend 51 = .ok (.getfield 38, 3) := by decide +kernel
theorem dX1_extend_54 : decode cX1_extend 54 = .ok (.aload_n 0, 1) := by decide +kernel
theorem dX1_extend_55 : decode cX1_extend 55 = .ok (.getfield 32, 3) := by decide +kernel
theorem dX1_extend_58 : decode cX1_extend 58 = .ok (.if_icmp .ge 152, 3) := by decide +kernel
theorem dX1_extend_61 : decode cX1_extend 61 = .ok (.iconst 1, 1) := by decide +kernel
theorem dX1_extend_62 : decode cX1_extend 62 = .ok (.iload 8, 2) := by decide +kernel
theorem dX1_extend_64 : decode cX1_extend 64 = .ok (.ishl, 1) := by decide +kernel
theorem dX1_extend_65 : decode cX1_extend 65 = .ok (.istore 9, 2) := by decide +kernel
theorem dX1_extend_67 : decode cX1_extend 67 = .ok (.iload 8, 2) := by decide +kernel
theorem dX1_extend_69 : decode cX1_extend 69 = .ok (.iload 7, 2) := by decide +kernel
theorem dX1_extend_71 : decode cX1_extend 71 = .ok (.if_icmp .ne 60, 3) := by decide +kernel
theorem dX1_extend_74 : decode cX1_extend 74 = .ok (.aload_n 0, 1) := by decide +kernel
theorem dX1_extend_75 : decode cX1_extend 75 = .ok (.getfield 19, 3) := by decide +kernel
theorem dX1_extend_78 : decode cX1_extend 78 = .ok (.iload 8, 2) := by decide +kernel
theorem dX1_extend_80 : decode cX1_extend 80 = .ok (.iaload, 1) := by decide +kernel
theorem dX1_extend_81 : decode cX1_extend 81 = .ok (.iload_n 2, 1) := by decide +kernel
theorem dX1_extend_82 : decode cX1_extend 82 = .ok (.iand, 1) := by decide +kernel
theorem dX1_extend_83 : decode cX1_extend 83 = .ok (.ifCond .ne 121, 3) := by decide +kernel
theorem dX1_extend_86 : decode cX1_extend 86 = .ok (.aload_n 0, 1) := by decide +kernel
theorem dX1_extend_87 : decode cX1_extend 87 = .ok (.iload_n 1, 1) := by decide +kernel
theorem dX1_extend_88 : decode cX1_extend 88 = .ok (.iload 8, 2) := by decide +kernel
theorem dX1_extend_90 : decode cX1_extend 90 = .ok (.invokevirtual 63, 3) := by decide +kernel
theorem dX1_extend_93 : decode cX1_extend 93 = .ok (.ifCond .ne 111, 3) := by decide +kernel
theorem dX1_extend_96 : decode cX1_extend 96 = .ok (.aload_n 0, 1) := by decide +kernel
theorem dX1_extend_97 : decode cX1_extend 97 = .ok (.getfield 23, 3) := by decide +kernel
theorem dX1_extend_100 : decode cX1_extend 100 = .ok (.iload_n 1, 1) := by decide +kernel
theorem dX1_extend_101 : decode cX1_extend 101 = .ok (.iload 8, 2) := by decide +kernel
theorem dX1_extend_103 : decode cX1_extend 103 = .ok (.iastore, 1) := by decide +kernel
theorem dX1_extend_104 : decode cX1_extend 104 = .ok (.aload_n 0, 1) := by decide +kernel
theorem dX1_extend_105 : decode cX1_extend 105 = .ok (.iload_n 1, 1) := by decide +kernel
theorem dX1_extend_106 : decode cX1_extend 106 = .ok (.iconst 1, 1) := by decide +kernel
theorem dX1_extend_107 : decode cX1_extend 107 = .ok (.iadd, 1) := by decide +kernel
theorem dX1_extend_108 : decode cX1_extend 108 = .ok (.iload_n 2, 1) := by decide +kernel
theorem dX1_extend_109 : decode cX1_extend 109 = .ok (.iload_n 3, 1) := by decide +kernel
theorem dX1_extend_110 : decode cX1_extend 110 = .ok (.iload 9, 2) := by decide +kernel
theorem dX1_extend_112 : decode cX1_extend 112 = .ok (.ixor, 1) := by decide +kernel
theorem dX1_extend_113 : decode cX1_extend 113 = .ok (.iload 4, 2) := by decide +kernel
theorem dX1_extend_115 : decode cX1_extend 115 = .ok (.iconst 4, 1) := by decide +kernel
theorem dX1_extend_116 : decode cX1_extend 116 = .ok (.ishr, 1) := by decide +kernel
theorem dX1_extend_117 : decode cX1_extend 117 = .ok (.lload 5, 2) := by decide +kernel
theorem dX1_extend_119 : decode cX1_extend 119 = .ok (.iconst 4, 1) := by decide +kernel
theorem dX1_extend_120 : decode cX1_extend 120 = .ok (.lshl, 1) := by decide +kernel
theorem dX1_extend_121 : decode cX1_extend 121 = .ok (.iload 8, 2) := by decide +kernel
theorem dX1_extend_123 : decode cX1_extend 123 = .ok (.i2l, 1) := by decide +kernel
theorem dX1_extend_124 : decode cX1_extend 124 = .ok (.lor, 1) := by decide +kernel
theorem dX1_extend_125 : decode cX1_extend 125 = .ok (.invokestatic 55, 3) := by decide +kernel
theorem dX1_extend_128 : decode cX1_extend 128 = .ok (.goto 76, 3) := by decide +kernel
theorem dX1_extend_131 : decode cX1_extend 131 = .ok (.iload_n 2, 1) := by decide +kernel
theorem dX1_extend_132 : decode cX1_extend 132 = .ok (.iload 9, 2) := by decide +kernel
theorem dX1_extend_134 : decode cX1_extend 134 = .ok (.iand, 1) := by decide +kernel
theorem dX1_extend_135 : decode cX1_extend 135 = .ok (.ifCond .eq 69, 3) := by decide +kernel
theorem dX1_extend_138 : decode cX1_extend 138 = .ok (.aload_n 0, 1) := by decide +kernel
theorem dX1_extend_139 : decode cX1_extend 139 = .ok (.iload_n 1, 1) := by decide +kernel
theorem dX1_extend_140 : decode cX1_extend 140 = .ok (.iload 8, 2) := by decide +kernel
theorem dX1_extend_142 : decode cX1_extend 142 = .ok (.invokevirtual 63, 3) := by decide +kernel
theorem dX1_extend_145 : decode cX1_extend 145 = .ok (.ifCond .ne 59, 3) := by decide +kernel
theorem dX1_extend_148 : decode cX1_extend 148 = .ok (.aload_n 0, 1) := by decide +kernel
theorem dX1_extend_149 : decode cX1_extend 149 = .ok (.getfield 19, 3) := by decide +kernel
theorem dX1_extend_152 : decode cX1_extend 152 = .ok (.iload 8, 2) := by decide +kernel
theorem dX1_extend_154 : decode cX1_extend 154 = .ok (.iaload, 1) := by decide +kernel
theorem dX1_extend_155 : decode cX1_extend 155 = .ok (.iload_n 3, 1) := by decide +kernel
theorem dX1_extend_156 : decode cX1_extend 156 = .ok (.iload 4, 2) := by decide +kernel
theorem dX1_extend_158 : decode cX1_extend 158 = .ok (.iload 8, 2) := by decide +kernel
theorem dX1_extend_160 : decode cX1_extend 160 = .ok (.invokestatic 67, 3) := by decide +kernel
theorem dX1_extend_163 : decode cX1_extend 163 = .ok (.istore 10, 2) := by decide +kernel
theorem dX1_extend_165 : decode cX1_extend 165 = .ok (.iload 10, 2) := by decide +kernel
theorem dX1_extend_167 : decode cX1_extend 167 = .ok (.iconst (-1), 1) := by decide +kernel
theorem dX1_extend_168 : decode cX1_extend 168 = .ok (.if_icmp .eq 36, 3) := by decide +kernel
theorem dX1_extend_171 : decode cX1_extend 171 = .ok (.aload_n 0, 1) := by decide +kernel
theorem dX1_extend_172 : decode cX1_extend 172 = .ok (.getfield 23, 3) := by decide +kernel
theorem dX1_extend_175 : decode cX1_extend 175 = .ok (.iload_n 1, 1) := by decide +kernel
theorem dX1_extend_176 : decode cX1_extend 176 = .ok (.iload 8, 2) := by decide +kernel
theorem dX1_extend_178 : decode cX1_extend 178 = .ok (.iastore, 1) := by decide +kernel
theorem dX1_extend_179 : decode cX1_extend 179 = .ok (.aload_n 0, 1) := by decide +kernel
theorem dX1_extend_180 : decode cX1_extend 180 = .ok (.iload_n 1, 1) := by decide +kernel
theorem dX1_extend_181 : decode cX1_extend 181 = .ok (.iconst 1, 1) := by decide +kernel
theorem dX1_extend_182 : decode cX1_extend 182 = .ok (.iadd, 1) := by decide +kernel
theorem dX1_extend_183 : decode cX1_extend 183 = .ok (.iload_n 2, 1) := by decide +kernel
theorem dX1_extend_184 : decode cX1_extend 184 = .ok (.iload 9, 2) := by decide +kernel
theorem dX1_extend_186 : decode cX1_extend 186 = .ok (.ixor, 1) := by decide +kernel
theorem dX1_extend_187 : decode cX1_extend 187 = .ok (.iload_n 3, 1) := by decide +kernel
theorem dX1_extend_188 : decode cX1_extend 188 = .ok (.iload 9, 2) := by decide +kernel
theorem dX1_extend_190 : decode cX1_extend 190 = .ok (.ior, 1) := by decide +kernel
theorem dX1_extend_191 : decode cX1_extend 191 = .ok (.iload 10, 2) := by decide +kernel
theorem dX1_extend_193 : decode cX1_extend 193 = .ok (.lload 5, 2) := by decide +kernel
theorem dX1_extend_195 : decode cX1_extend 195 = .ok (.iconst 4, 1) := by decide +kernel
theorem dX1_extend_196 : decode cX1_extend 196 = .ok (.lshl, 1) := by decide +kernel
theorem dX1_extend_197 : decode cX1_extend 197 = .ok (.iload 8, 2) := by decide +kernel
theorem dX1_extend_199 : decode cX1_extend 199 = .ok (.i2l, 1) := by decide +kernel
theorem dX1_extend_200 : decode cX1_extend 200 = .ok (.lor, 1) := by decide +kernel
theorem dX1_extend_201 : decode cX1_extend 201 = .ok (.invokestatic 55, 3) := by decide +kernel
theorem dX1_extend_204 : decode cX1_extend 204 = .ok (.iinc 8 1, 3) := by decide +kernel
theorem dX1_extend_207 : decode cX1_extend 207 = .ok (.goto (-166), 3) := by decide +kernel
theorem dX1_extend_210 : decode cX1_extend 210 = .ok (.return_, 1) := by decide +kernel
def fp_X1_extend_L41 (self : Nat → Int32 → Int32 → Int32 → Int32 → Int64 → zM → Option (zM)) (v0 : Nat) (v1 : Int32) (v2 : Int32) (v3 : Int32) (v4 : Int32) (v5 : Int64) (v7 : Int32) : Nat → Int32 → zM → Option (zM)
  | 0, _, _ => none
  | n + 1, v8, M =>
    (zgI 1 M v0 2).bind fun (y5 : Int32) =>
    if v8 ≥ y5 then (
      some M)
    else (
      (zgI 1 M v0 0).bind fun (y6 : Int32) =>
      (zgI 1 M v0 5).bind fun (y7 : Int32) =>
      if y6 ≥ y7 then (
        some M)
      else (
        lett ((1 <<< (v8 &&& 31))) fun (v9_8 : Int32) =>
        zjn (fun (M9 : zM) =>
            fp_X1_extend_L41 self v0 v1 v2 v3 v4 v5 v7 n (v8 + 1) M9)
          (fun j204 =>
            if v8 ≠ v7 then (
              if (v2 &&& v9_8) = 0 then (
                j204 M)
              else (
                (fp_X1_spoils v0 v1 v8 M).bind fun (y10 : Int32) =>
                if y10 ≠ 0 then (
                  j204 M)
                else (
                  (zgR 1 M v0 6).bind fun (y11 : Nat) =>
                  (zlI 100 M y11 v8).bind fun (y12 : Int32) =>
                  (fp_X1_insert y12 v3 v4 v8).bind fun (y13 : Int32) =>
                  if y13 = (-1) then (
                    j204 M)
                  else (
                    (zgR 1 M v0 7).bind fun (y14 : Nat) =>
                    (ztI M y14 v1 v8).bind fun (M15 : zM) =>
                    (self v0 (v1 + 1) (v2 ^^^ v9_8) (v3 ||| v9_8) y13 ((v5 <<< ((4 : Int32).toInt64 &&& 63)) ||| (v8.toInt64)) M15).bind fun (M16 : zM) =>
                    j204 M16))))
            else (
              (zgR 1 M v0 6).bind fun (y17 : Nat) =>
              (zlI 100 M y17 v8).bind fun (y18 : Int32) =>
              if (y18 &&& v2) ≠ 0 then (
                j204 M)
              else (
                (fp_X1_spoils v0 v1 v8 M).bind fun (y19 : Int32) =>
                if y19 ≠ 0 then (
                  j204 M)
                else (
                  (zgR 1 M v0 7).bind fun (y20 : Nat) =>
                  (ztI M y20 v1 v8).bind fun (M21 : zM) =>
                  (self v0 (v1 + 1) v2 (v3 ^^^ v9_8) (v4 >>> (4 &&& 31)) ((v5 <<< ((4 : Int32).toInt64 &&& 63)) ||| (v8.toInt64)) M21).bind fun (M22 : zM) =>
                  j204 M22))))))
def fp_X1_extend : Nat → Nat → Int32 → Int32 → Int32 → Int32 → Int64 → zM → Option (zM)
  | 0, _, _, _, _, _, _, _ => none
  | n + 1, v0, v1, v2, v3, v4, v5, M =>
    if v2 = 0 then (
      (fp_X1_finish v0 v1 v4 v5 M).bind fun (M1 : zM) =>
      some M1)
    else (
      (zgR 1 M v0 7).bind fun (y2 : Nat) =>
      (zln M y2).bind fun (y3 : Int32) =>
      if v1 < y3 then (
        zjn (fun (s4 : Int32) =>
            fp_X1_extend_L41 (fun w0 w1 w2 w3 w4 w5 Mw => fp_X1_extend n w0 w1 w2 w3 w4 w5 Mw) v0 v1 v2 v3 v4 v5 s4 FU 0 M)
          (fun j36 =>
            if v3 ≠ 0 then (
              j36 (v4 &&& 15))
            else (
              j36 (-1))))
      else (
        (fp_X1_finish v0 v1 v4 v5 M).bind fun (M23 : zM) =>
        some M23))
set_option maxHeartbeats 4000000 in
set_option maxRecDepth 100000 in
theorem w_X1_extend_L41 (E : zEnv) (hE : zEok E) (d : Nat) (hd : 5 ≤ d) (M0 : zM) (x0 : zM) (self : Nat → Int32 → Int32 → Int32 → Int32 → Int64 → zM → Option (zM)) (hself : ∀ (v0 : Nat) (v1 : Int32) (v2 : Int32) (v3 : Int32) (v4 : Int32) (v5 : Int64) (M : zM) (y0 : zM), self v0 v1 v2 v3 v4 v5 M = some y0 → zCt E mu_X1_extend (d - 1) [.ref (E.2.2.2.1 + v0), .int v1, .int v2, .int v3, .int v4, .long v5] M (none, y0)) (v0 : Nat) (v1 : Int32) (v2 : Int32) (v3 : Int32) (v4 : Int32) (v5 : Int64) (v7 : Int32)  : ∀ (n : Nat) (v8 : Int32) (M : zM), zSy E mu_X1_extend d M0 (none, x0) x0 (fp_X1_extend_L41 self v0 v1 v2 v3 v4 v5 v7 n v8 M) 41 [(0, .ref (E.2.2.2.1 + v0)), (1, .int v1), (2, .int v2), (3, .int v3), (4, .int v4), (5, .long v5), (7, .int v7), (8, .int v8)] [] M := by
  intro n
  induction n with
  | zero =>
    intro v8 M
    rw [fp_X1_extend_L41]
    exact zs_none
  | succ n ih =>
    intro v8 M
    rw [fp_X1_extend_L41]
    refine zs_iload dX1_extend_41 7 rfl ?_
    refine zs_aload_n dX1_extend_43 rfl 0 rfl ?_
    refine zs_getI dX1_extend_44 fl_X1_15 rfl (fun y5 => ?_)
    refine zs_icmp_ge dX1_extend_47 rfl ?_ ?_
    · exact zs_vret dX1_extend_210 trivial
    refine zs_aload_n dX1_extend_50 rfl 0 rfl ?_
    refine zs_getI dX1_extend_51 fl_X1_38 rfl (fun y6 => ?_)
    refine zs_aload_n dX1_extend_54 rfl 0 rfl ?_
    refine zs_getI dX1_extend_55 fl_X1_32 rfl (fun y7 => ?_)
    refine zs_icmp_ge dX1_extend_58 rfl ?_ ?_
    · exact zs_vret dX1_extend_210 trivial
    refine zs_iconst (v := 1) dX1_extend_61 ciconst_1 ?_
    refine zs_iload dX1_extend_62 7 rfl ?_
    refine zs_ishl dX1_extend_64 ?_
    refine zs_istoreL (loc' := fun v9_8 => [(0, .ref (E.2.2.2.1 + v0)), (1, .int v1), (2, .int v2), (3, .int v3), (4, .int v4), (5, .long v5), (7, .int v7), (8, .int v8), (9, .int v9_8)]) dX1_extend_65 (Nat.le_of_ble_eq_true rfl) [1, 2, 3, 4, 5, 6, 7, 8, 0] (fun _ => rfl) (fun v9_8 => ?_)
    refine zs_iload dX1_extend_67 7 rfl ?_
    refine zs_iload dX1_extend_69 6 rfl ?_
    refine zs_jn (fun j204 => ∀ (M9 : zM), zSy E mu_X1_extend d M0 (none, x0) x0 (j204 M9) 204 [(0, .ref (E.2.2.2.1 + v0)), (1, .int v1), (2, .int v2), (3, .int v3), (4, .int v4), (5, .long v5), (7, .int v7), (8, .int v8)] [] M9) (fun M9 => ?_) (fun j204 hj204 => ?_)
    · refine zs_iinc (v := (v8 + 1)) (loc' := [(0, .ref (E.2.2.2.1 + v0)), (1, .int v1), (2, .int v2), (3, .int v3), (4, .int v4), (5, .long v5), (7, .int v7), (8, .int (v8 + 1))]) dX1_extend_204 7 rfl (by rfl) (Nat.le_of_ble_eq_true rfl) [1, 2, 3, 4, 5, 6, 7, 0] rfl ?_
      refine zs_goto dX1_extend_207 rfl ?_
      exact ih (v8 + 1) M9
    refine zs_icmp_ne dX1_extend_71 rfl ?_ ?_
    · refine zs_iload_n dX1_extend_131 rfl 2 rfl ?_
      refine zs_iload dX1_extend_132 8 rfl ?_
      refine zs_iand dX1_extend_134 ?_
      refine zs_if_eq dX1_extend_135 rfl ?_ ?_
      · refine zs_sub (loc' := [(0, .ref (E.2.2.2.1 + v0)), (1, .int v1), (2, .int v2), (3, .int v3), (4, .int v4), (5, .long v5), (7, .int v7), (8, .int v8)]) [0, 1, 2, 3, 4, 5, 6, 7] rfl ?_
        exact hj204 M
      refine zs_aload_n dX1_extend_138 rfl 0 rfl ?_
      refine zs_iload_n dX1_extend_139 rfl 1 rfl ?_
      refine zs_iload dX1_extend_140 7 rfl ?_
      refine zs_invVPI (rest := []) [.int v1, .int v8] dX1_extend_142 lk_X1_63 rfl (fun _ h => th_X1_spoils h) (zd1 rfl hd) rfl (Nat.le_of_ble_eq_true rfl) (ct_X1_spoils E hE _ (zdl rfl hd) _ _ _ _) (fun y10 => ?_)
      refine zs_if_ne dX1_extend_145 rfl ?_ ?_
      · refine zs_sub (loc' := [(0, .ref (E.2.2.2.1 + v0)), (1, .int v1), (2, .int v2), (3, .int v3), (4, .int v4), (5, .long v5), (7, .int v7), (8, .int v8)]) [0, 1, 2, 3, 4, 5, 6, 7] rfl ?_
        exact hj204 M
      refine zs_aload_n dX1_extend_148 rfl 0 rfl ?_
      refine zs_getR dX1_extend_149 fl_X1_19 rfl (fun y11 => ?_)
      refine zs_iload dX1_extend_152 7 rfl ?_
      refine zs_ldI dX1_extend_154 (fun y12 => ?_)
      refine zs_iload_n dX1_extend_155 rfl 3 rfl ?_
      refine zs_iload dX1_extend_156 4 rfl ?_
      refine zs_iload dX1_extend_158 7 rfl ?_
      refine zs_invSPI (rest := []) [.int y12, .int v3, .int v4, .int v8] dX1_extend_160 lk_X1_67 rfl (zd1 rfl hd) rfl (Nat.le_of_ble_eq_true rfl) (ct_X1_insert E hE _ (zdl rfl hd) _ _ _ _ _) (fun y13 => ?_)
      refine zs_istore (loc' := [(0, .ref (E.2.2.2.1 + v0)), (1, .int v1), (2, .int v2), (3, .int v3), (4, .int v4), (5, .long v5), (7, .int v7), (8, .int v8), (9, .int v9_8), (10, .int y13)]) dX1_extend_163 (Nat.le_of_ble_eq_true rfl) [1, 2, 3, 4, 5, 6, 7, 8, 9, 0] rfl ?_
      refine zs_iload dX1_extend_165 9 rfl ?_
      refine zs_iconst (v := (-1)) dX1_extend_167 ciconst_m1 ?_
      refine zs_icmp_eq dX1_extend_168 rfl ?_ ?_
      · refine zs_sub (loc' := [(0, .ref (E.2.2.2.1 + v0)), (1, .int v1), (2, .int v2), (3, .int v3), (4, .int v4), (5, .long v5), (7, .int v7), (8, .int v8)]) [0, 1, 2, 3, 4, 5, 6, 7] rfl ?_
        exact hj204 M
      refine zs_aload_n dX1_extend_171 rfl 0 rfl ?_
      refine zs_getR dX1_extend_172 fl_X1_23 rfl (fun y14 => ?_)
      refine zs_iload_n dX1_extend_175 rfl 1 rfl ?_
      refine zs_iload dX1_extend_176 7 rfl ?_
      refine zs_stI dX1_extend_178 (fun M15 => ?_)
      refine zs_aload_n dX1_extend_179 rfl 0 rfl ?_
      refine zs_iload_n dX1_extend_180 rfl 1 rfl ?_
      refine zs_iconst (v := 1) dX1_extend_181 ciconst_1 ?_
      refine zs_iadd dX1_extend_182 ?_
      refine zs_iload_n dX1_extend_183 rfl 2 rfl ?_
      refine zs_iload dX1_extend_184 8 rfl ?_
      refine zs_ixor dX1_extend_186 ?_
      refine zs_iload_n dX1_extend_187 rfl 3 rfl ?_
      refine zs_iload dX1_extend_188 8 rfl ?_
      refine zs_ior dX1_extend_190 ?_
      refine zs_iload dX1_extend_191 9 rfl ?_
      refine zs_lload dX1_extend_193 5 rfl ?_
      refine zs_iconst (v := 4) dX1_extend_195 ciconst_4 ?_
      refine zs_lshl dX1_extend_196 ?_
      refine zs_iload dX1_extend_197 7 rfl ?_
      refine zs_i2l dX1_extend_199 ?_
      refine zs_lor dX1_extend_200 ?_
      refine zs_invSWV (rest := []) [.ref (E.2.2.2.1 + v0), .int (v1 + 1), .int (v2 ^^^ v9_8), .int (v3 ||| v9_8), .int y13, .long ((v5 <<< ((4 : Int32).toInt64 &&& 63)) ||| (v8.toInt64))] dX1_extend_201 lk_X1_55 rfl (zd1 rfl hd) rfl (Nat.le_of_ble_eq_true rfl) (hself _ _ _ _ _ _ _) (fun M16 => ?_)
      refine zs_sub (loc' := [(0, .ref (E.2.2.2.1 + v0)), (1, .int v1), (2, .int v2), (3, .int v3), (4, .int v4), (5, .long v5), (7, .int v7), (8, .int v8)]) [0, 1, 2, 3, 4, 5, 6, 7] rfl ?_
      exact hj204 M16
    refine zs_aload_n dX1_extend_74 rfl 0 rfl ?_
    refine zs_getR dX1_extend_75 fl_X1_19 rfl (fun y17 => ?_)
    refine zs_iload dX1_extend_78 7 rfl ?_
    refine zs_ldI dX1_extend_80 (fun y18 => ?_)
    refine zs_iload_n dX1_extend_81 rfl 2 rfl ?_
    refine zs_iand dX1_extend_82 ?_
    refine zs_if_ne dX1_extend_83 rfl ?_ ?_
    · refine zs_sub (loc' := [(0, .ref (E.2.2.2.1 + v0)), (1, .int v1), (2, .int v2), (3, .int v3), (4, .int v4), (5, .long v5), (7, .int v7), (8, .int v8)]) [0, 1, 2, 3, 4, 5, 6, 7] rfl ?_
      exact hj204 M
    refine zs_aload_n dX1_extend_86 rfl 0 rfl ?_
    refine zs_iload_n dX1_extend_87 rfl 1 rfl ?_
    refine zs_iload dX1_extend_88 7 rfl ?_
    refine zs_invVPI (rest := []) [.int v1, .int v8] dX1_extend_90 lk_X1_63 rfl (fun _ h => th_X1_spoils h) (zd1 rfl hd) rfl (Nat.le_of_ble_eq_true rfl) (ct_X1_spoils E hE _ (zdl rfl hd) _ _ _ _) (fun y19 => ?_)
    refine zs_if_ne dX1_extend_93 rfl ?_ ?_
    · refine zs_sub (loc' := [(0, .ref (E.2.2.2.1 + v0)), (1, .int v1), (2, .int v2), (3, .int v3), (4, .int v4), (5, .long v5), (7, .int v7), (8, .int v8)]) [0, 1, 2, 3, 4, 5, 6, 7] rfl ?_
      exact hj204 M
    refine zs_aload_n dX1_extend_96 rfl 0 rfl ?_
    refine zs_getR dX1_extend_97 fl_X1_23 rfl (fun y20 => ?_)
    refine zs_iload_n dX1_extend_100 rfl 1 rfl ?_
    refine zs_iload dX1_extend_101 7 rfl ?_
    refine zs_stI dX1_extend_103 (fun M21 => ?_)
    refine zs_aload_n dX1_extend_104 rfl 0 rfl ?_
    refine zs_iload_n dX1_extend_105 rfl 1 rfl ?_
    refine zs_iconst (v := 1) dX1_extend_106 ciconst_1 ?_
    refine zs_iadd dX1_extend_107 ?_
    refine zs_iload_n dX1_extend_108 rfl 2 rfl ?_
    refine zs_iload_n dX1_extend_109 rfl 3 rfl ?_
    refine zs_iload dX1_extend_110 8 rfl ?_
    refine zs_ixor dX1_extend_112 ?_
    refine zs_iload dX1_extend_113 4 rfl ?_
    refine zs_iconst (v := 4) dX1_extend_115 ciconst_4 ?_
    refine zs_ishr dX1_extend_116 ?_
    refine zs_lload dX1_extend_117 5 rfl ?_
    refine zs_iconst (v := 4) dX1_extend_119 ciconst_4 ?_
    refine zs_lshl dX1_extend_120 ?_
    refine zs_iload dX1_extend_121 7 rfl ?_
    refine zs_i2l dX1_extend_123 ?_
    refine zs_lor dX1_extend_124 ?_
    refine zs_invSWV (rest := []) [.ref (E.2.2.2.1 + v0), .int (v1 + 1), .int v2, .int (v3 ^^^ v9_8), .int (v4 >>> (4 &&& 31)), .long ((v5 <<< ((4 : Int32).toInt64 &&& 63)) ||| (v8.toInt64))] dX1_extend_125 lk_X1_55 rfl (zd1 rfl hd) rfl (Nat.le_of_ble_eq_true rfl) (hself _ _ _ _ _ _ _) (fun M22 => ?_)
    refine zs_goto dX1_extend_128 rfl ?_
    refine zs_sub (loc' := [(0, .ref (E.2.2.2.1 + v0)), (1, .int v1), (2, .int v2), (3, .int v3), (4, .int v4), (5, .long v5), (7, .int v7), (8, .int v8)]) [0, 1, 2, 3, 4, 5, 6, 7] rfl ?_
    exact hj204 M22
set_option maxHeartbeats 4000000 in
set_option maxRecDepth 100000 in
theorem ct_X1_extend (E : zEnv) (hE : zEok E) : ∀ (n : Nat) (d : Nat) (_ : n + 5 ≤ d) (v0 : Nat) (v1 : Int32) (v2 : Int32) (v3 : Int32) (v4 : Int32) (v5 : Int64) (M : zM) (x0 : zM) (_ : fp_X1_extend n v0 v1 v2 v3 v4 v5 M = some x0), zCt E mu_X1_extend d [.ref (E.2.2.2.1 + v0), .int v1, .int v2, .int v3, .int v4, .long v5] M (none, x0) := by
  intro n
  induction n with
  | zero =>
    intro d hd v0 v1 v2 v3 v4 v5 M x0 hx
    rw [fp_X1_extend] at hx
    cases hx
  | succ n ih0 =>
    intro d hd0 v0 v1 v2 v3 v4 v5 M x0 hx
    have hd : 5 ≤ d := by omega
    have ih := ih0 (d - 1) (by omega)
    refine zCt_of (μ := mu_X1_extend) (t := fp_X1_extend (n + 1) v0 v1 v2 v3 v4 v5 M) rfl rfl (Nat.le_of_ble_eq_true rfl) hx ?_
    change zSy E mu_X1_extend d M (none, x0) x0 (fp_X1_extend (n + 1) v0 v1 v2 v3 v4 v5 M) 0 [(0, .ref (E.2.2.2.1 + v0)), (1, .int v1), (2, .int v2), (3, .int v3), (4, .int v4), (5, .long v5)] [] M
    rw [fp_X1_extend]
    refine zs_iload_n dX1_extend_0 rfl 2 rfl ?_
    refine zs_if_eq dX1_extend_1 rfl ?_ ?_
    · refine zs_aload_n dX1_extend_13 rfl 0 rfl ?_
      refine zs_iload_n dX1_extend_14 rfl 1 rfl ?_
      refine zs_iload dX1_extend_15 4 rfl ?_
      refine zs_lload dX1_extend_17 5 rfl ?_
      refine zs_invVWV (rest := []) [.int v1, .int v4, .long v5] dX1_extend_19 lk_X1_59 rfl (fun _ h => th_X1_finish h) (zd1 rfl hd) rfl (Nat.le_of_ble_eq_true rfl) (ct_X1_finish E hE _ (zdl rfl hd) _ _ _ _ _) (fun M1 => ?_)
      exact zs_vret dX1_extend_22 trivial
    refine zs_iload_n dX1_extend_4 rfl 1 rfl ?_
    refine zs_aload_n dX1_extend_5 rfl 0 rfl ?_
    refine zs_getR dX1_extend_6 fl_X1_23 rfl (fun y2 => ?_)
    refine zs_alen dX1_extend_9 (fun y3 => ?_)
    refine zs_icmp_lt dX1_extend_10 rfl ?_ ?_
    · refine zs_iload_n dX1_extend_23 rfl 3 rfl ?_
      refine zs_jn (fun j36 => ∀ (s4 : Int32), zSy E mu_X1_extend d M (none, x0) x0 (j36 s4) 36 [(0, .ref (E.2.2.2.1 + v0)), (1, .int v1), (2, .int v2), (3, .int v3), (4, .int v4), (5, .long v5)] [.int s4] M) (fun s4 => ?_) (fun j36 hj36 => ?_)
      · refine zs_istore (loc' := [(0, .ref (E.2.2.2.1 + v0)), (1, .int v1), (2, .int v2), (3, .int v3), (4, .int v4), (5, .long v5), (7, .int s4)]) dX1_extend_36 (Nat.le_of_ble_eq_true rfl) [1, 2, 3, 4, 5, 6, 0] rfl ?_
        refine zs_iconst (v := 0) dX1_extend_38 ciconst_0 ?_
        refine zs_istore (loc' := [(0, .ref (E.2.2.2.1 + v0)), (1, .int v1), (2, .int v2), (3, .int v3), (4, .int v4), (5, .long v5), (7, .int s4), (8, .int 0)]) dX1_extend_39 (Nat.le_of_ble_eq_true rfl) [1, 2, 3, 4, 5, 6, 7, 0] rfl ?_
        exact w_X1_extend_L41 E hE d hd _ _ _ ih _ _ _ _ _ _ _ _ _ _
      refine zs_if_ne dX1_extend_24 rfl ?_ ?_
      · refine zs_iload dX1_extend_31 4 rfl ?_
        refine zs_bipush (v := 15) dX1_extend_33 cbipush_15 ?_
        refine zs_iand dX1_extend_35 ?_
        exact hj36 (v4 &&& 15)
      refine zs_iconst (v := (-1)) dX1_extend_27 ciconst_m1 ?_
      refine zs_goto dX1_extend_28 rfl ?_
      exact hj36 (-1)
    refine zs_aload_n dX1_extend_13 rfl 0 rfl ?_
    refine zs_iload_n dX1_extend_14 rfl 1 rfl ?_
    refine zs_iload dX1_extend_15 4 rfl ?_
    refine zs_lload dX1_extend_17 5 rfl ?_
    refine zs_invVWV (rest := []) [.int v1, .int v4, .long v5] dX1_extend_19 lk_X1_59 rfl (fun _ h => th_X1_finish h) (zd1 rfl hd) rfl (Nat.le_of_ble_eq_true rfl) (ct_X1_finish E hE _ (zdl rfl hd) _ _ _ _ _) (fun M23 => ?_)
    exact zs_vret dX1_extend_22 trivial
theorem dX1_gather_0 : decode cX1_gather 0 = .ok (.aload_n 0, 1) := by decide +kernel
theorem dX1_gather_1 : decode cX1_gather 1 = .ok (.getfield 15, 3) := by decide +kernel
theorem dX1_gather_4 : decode cX1_gather 4 = .ok (.iload_n 1, 1) := by decide +kernel
theorem dX1_gather_5 : decode cX1_gather 5 = .ok (.if_icmp .ne 20, 3) := by decide +kernel
theorem dX1_gather_8 : decode cX1_gather 8 = .ok (.aload_n 0, 1) := by decide +kernel
theorem dX1_gather_9 : decode cX1_gather 9 = .ok (.getfield 29, 3) := by decide +kernel
theorem dX1_gather_12 : decode cX1_gather 12 = .ok (.iload_n 2, 1) := by decide +kernel
theorem dX1_gather_13 : decode cX1_gather 13 = .ok (.if_icmp .ne 12, 3) := by decide +kernel
theorem dX1_gather_16 : decode cX1_gather 16 = .ok (.aload_n 0, 1) := by decide +kernel
theorem dX1_gather_17 : decode cX1_gather 17 = .ok (.getfield 32, 3) := by decide +kernel
theorem dX1_gather_20 : decode cX1_gather 20 = .ok (.iload_n 3, 1) := by decide +kernel
theorem dX1_gather_21 : decode cX1_gather 21 = .ok (.if_icmp .ne 4, 3) := by decide +kernel
theorem dX1_gather_24 : decode cX1_gather 24 = .ok (.return_, 1) := by decide +kernel
theorem dX1_gather_25 : decode cX1_gather 25 = .ok (.aload_n 0, 1) := by decide +kernel
theorem dX1_gather_26 : decode cX1_gather 26 = .ok (.iload_n 1, 1) := by decide +kernel
theorem dX1_gather_27 : decode cX1_gather 27 = .ok (.putfield 15, 3) := by decide +kernel
theorem dX1_gather_30 : decode cX1_gather 30 = .ok (.aload_n 0, 1) := by decide +kernel
theorem dX1_gather_31 : decode cX1_gather 31 = .ok (.iload_n 2, 1) := by decide +kernel
theorem dX1_gather_32 : decode cX1_gather 32 = .ok (.putfield 29, 3) := by decide +kernel
theorem dX1_gather_35 : decode cX1_gather 35 = .ok (.aload_n 0, 1) := by decide +kernel
theorem dX1_gather_36 : decode cX1_gather 36 = .ok (.iload_n 3, 1) := by decide +kernel
theorem dX1_gather_37 : decode cX1_gather 37 = .ok (.putfield 32, 3) := by decide +kernel
theorem dX1_gather_40 : decode cX1_gather 40 = .ok (.aload_n 0, 1) := by decide +kernel
theorem dX1_gather_41 : decode cX1_gather 41 = .ok (.iconst 2, 1) := by decide +kernel
theorem dX1_gather_42 : decode cX1_gather 42 = .ok (.aload_n 0, 1) := by decide +kernel
theorem dX1_gather_43 : decode cX1_gather 43 = .ok (.getfield 15, 3) := by decide +kernel
theorem dX1_gather_46 : decode cX1_gather 46 = .ok (.imul, 1) := by decide +kernel
theorem dX1_gather_47 : decode cX1_gather 47 = .ok (.putfield 35, 3) := by decide +kernel
theorem dX1_gather_50 : decode cX1_gather 50 = .ok (.aload_n 0, 1) := by decide +kernel
theorem dX1_gather_51 : decode cX1_gather 51 = .ok (.iconst 0, 1) := by decide +kernel
theorem dX1_gather_52 : decode cX1_gather 52 = .ok (.putfield 38, 3) := by decide +kernel
theorem dX1_gather_55 : decode cX1_gather 55 = .ok (.iconst 0, 1) := by decide +kernel
theorem dX1_gather_56 : decode cX1_gather 56 = .ok (.istore 4, 2) := by decide +kernel
theorem dX1_gather_58 : decode cX1_gather 58 = .ok (.iload 4, 2) := by decide +kernel
theorem dX1_gather_60 : decode cX1_gather 60 = .ok (.aload_n 0, 1) := by decide +kernel
theorem dX1_gather_61 : decode cX1_gather 61 = .ok (.getfield 15, 3) := by decide +kernel
theorem dX1_gather_64 : decode cX1_gather 64 = .ok (.if_icmp .ge 39, 3) := by decide +kernel
theorem dX1_gather_67 : decode cX1_gather 67 = .ok (.iload 4, 2) := by decide +kernel
theorem dX1_gather_69 : decode cX1_gather 69 = .ok (.aload_n 0, 1) := by decide +kernel
theorem dX1_gather_70 : decode cX1_gather 70 = .ok (.getfield 19, 3) := by decide +kernel
theorem dX1_gather_73 : decode cX1_gather 73 = .ok (.arraylength, 1) := by decide +kernel
theorem dX1_gather_74 : decode cX1_gather 74 = .ok (.if_icmp .ge 29, 3) := by decide +kernel
theorem dX1_gather_77 : decode cX1_gather 77 = .ok (.aload_n 0, 1) := by decide +kernel
theorem dX1_gather_78 : decode cX1_gather 78 = .ok (.getfield 19, 3) := by decide +kernel
theorem dX1_gather_81 : decode cX1_gather 81 = .ok (.iload 4, 2) := by decide +kernel
theorem dX1_gather_83 : decode cX1_gather 83 = .ok (.aload_n 0, 1) := by decide +kernel
theorem dX1_gather_84 : decode cX1_gather 84 = .ok (.getfield 15, 3) := by decide +kernel
theorem dX1_gather_87 : decode cX1_gather 87 = .ok (.aload_n 0, 1) := by decide +kernel
theorem dX1_gather_88 : decode cX1_gather 88 = .ok (.getfield 29, 3) := by decide +kernel
theorem dX1_gather_91 : decode cX1_gather 91 = .ok (.iload 4, 2) := by decide +kernel
theorem dX1_gather_93 : decode cX1_gather 93 = .ok (.invokestatic 41, 3) := by decide +kernel
theorem dX1_gather_96 : decode cX1_gather 96 = .ok (.iastore, 1) := by decide +kernel
theorem dX1_gather_97 : decode cX1_gather 97 = .ok (.iinc 4 1, 3) := by decide +kernel
theorem dX1_gather_100 : decode cX1_gather 100 = .ok (.goto (-42), 3) := by decide +kernel
theorem dX1_gather_103 : decode cX1_gather 103 = .ok (.aload_n 0, 1) := by decide +kernel
theorem dX1_gather_104 : decode cX1_gather 104 = .ok (.getfield 15, 3) := by decide +kernel
theorem dX1_gather_107 : decode cX1_gather 107 = .ok (.ifCond .ne 11, 3) := by decide +kernel
theorem dX1_gather_110 : decode cX1_gather 110 = .ok (.aload_n 0, 1) := by decide +kernel
theorem dX1_gather_111 : decode cX1_gather 111 = .ok (.lconst 0, 1) := by decide +kernel
theorem dX1_gather_112 : decode cX1_gather 112 = .ok (.invokevirtual 47, 3) := by decide +kernel
theorem dX1_gather_115 : decode cX1_gather 115 = .ok (.goto 27, 3) := by decide +kernel
theorem dX1_gather_118 : decode cX1_gather 118 = .ok (.aload_n 0, 1) := by decide +kernel
theorem dX1_gather_119 : decode cX1_gather 119 = .ok (.getfield 23, 3) := by decide +kernel
theorem dX1_gather_122 : decode cX1_gather 122 = .ok (.iconst 0, 1) := by decide +kernel
theorem dX1_gather_123 : decode cX1_gather 123 = .ok (.iconst 0, 1) := by decide +kernel
theorem dX1_gather_124 : decode cX1_gather 124 = .ok (.iastore, 1) := by decide +kernel
theorem dX1_gather_125 : decode cX1_gather 125 = .ok (.aload_n 0, 1) := by decide +kernel
theorem dX1_gather_126 : decode cX1_gather 126 = .ok (.iconst 1, 1) := by decide +kernel
theorem dX1_gather_127 : decode cX1_gather 127 = .ok (.aload_n 0, 1) := by decide +kernel
theorem dX1_gather_128 : decode cX1_gather 128 = .ok (.getfield 15, 3) := by decide +kernel
theorem dX1_gather_131 : decode cX1_gather 131 = .ok (.invokestatic 51, 3) := by decide +kernel
theorem dX1_gather_134 : decode cX1_gather 134 = .ok (.iconst 1, 1) := by decide +kernel
theorem dX1_gather_135 : decode cX1_gather 135 = .ok (.ixor, 1) := by decide +kernel
theorem dX1_gather_136 : decode cX1_gather 136 = .ok (.iconst 1, 1) := by decide +kernel
theorem dX1_gather_137 : decode cX1_gather 137 = .ok (.iconst 0, 1) := by decide +kernel
theorem dX1_gather_138 : decode cX1_gather 138 = .ok (.lconst 0, 1) := by decide +kernel
theorem dX1_gather_139 : decode cX1_gather 139 = .ok (.invokestatic 55, 3) := by decide +kernel
theorem dX1_gather_142 : decode cX1_gather 142 = .ok (.return_, 1) := by decide +kernel
def fp_X1_gather_L58 (k103 : zM → Option (zM)) (v0 : Nat) : Nat → Int32 → zM → Option (zM)
  | 0, _, _ => none
  | n + 1, v4, M =>
    (zgI 1 M v0 2).bind fun (y8 : Int32) =>
    if v4 ≥ y8 then (
      k103 M)
    else (
      (zgR 1 M v0 6).bind fun (y9 : Nat) =>
      (zln M y9).bind fun (y10 : Int32) =>
      if v4 ≥ y10 then (
        k103 M)
      else (
        (zgR 1 M v0 6).bind fun (y11 : Nat) =>
        (zgI 1 M v0 2).bind fun (y12 : Int32) =>
        (zgI 1 M v0 3).bind fun (y13 : Int32) =>
        (fp_X2_nearTo y12 y13 v4).bind fun (y14 : Int32) =>
        (ztI M y11 v4 y14).bind fun (M15 : zM) =>
        fp_X1_gather_L58 k103 v0 n (v4 + 1) M15))
def fp_X1_gather (v0 : Nat) (v1 : Int32) (v2 : Int32) (v3 : Int32) (M : zM) : Option (zM) :=
  zthis 1 M v0 (
    (zgI 1 M v0 2).bind fun (y1 : Int32) =>
    zjn (
        (zpI 1 M v0 2 v1).bind fun (M2 : zM) =>
        (zpI 1 M2 v0 3 v2).bind fun (M3 : zM) =>
        (zpI 1 M3 v0 5 v3).bind fun (M4 : zM) =>
        (zgI 1 M4 v0 2).bind fun (y5 : Int32) =>
        (zpI 1 M4 v0 4 (2 * y5)).bind fun (M6 : zM) =>
        (zpI 1 M6 v0 0 0).bind fun (M7 : zM) =>
        fp_X1_gather_L58
          (fun M16 =>
            (zgI 1 M16 v0 2).bind fun (y17 : Int32) =>
            if y17 ≠ 0 then (
              (zgR 1 M16 v0 7).bind fun (y18 : Nat) =>
              (ztI M16 y18 0 0).bind fun (M19 : zM) =>
              (zgI 1 M19 v0 2).bind fun (y20 : Int32) =>
              (fp_X2_everyPoint y20).bind fun (y21 : Int32) =>
              (fp_X1_extend FD v0 1 (y21 ^^^ 1) 1 0 0 M19).bind fun (M22 : zM) =>
              some M22)
            else (
              (fp_X1_keep v0 0 M16).bind fun (M23 : zM) =>
              some M23)) v0 FU 0 M7)
      (fun j25 =>
        if y1 ≠ v1 then (
          j25)
        else (
          (zgI 1 M v0 3).bind fun (y24 : Int32) =>
          if y24 ≠ v2 then (
            j25)
          else (
            (zgI 1 M v0 5).bind fun (y25 : Int32) =>
            if y25 ≠ v3 then (
              j25)
            else (
              some M)))))
set_option maxHeartbeats 4000000 in
set_option maxRecDepth 100000 in
theorem th_X1_gather {v0 : Nat} {v1 : Int32} {v2 : Int32} {v3 : Int32} {M : zM} {x0 : zM} (h : fp_X1_gather v0 v1 v2 v3 M = some x0) : v0 < zS M ∧ kd v0 = 1 := by
  unfold fp_X1_gather at h
  exact zthis_of h
set_option maxHeartbeats 4000000 in
set_option maxRecDepth 100000 in
theorem w_X1_gather_L58 (E : zEnv) (hE : zEok E) (d : Nat) (hd : 26 ≤ d) (M0 : zM) (x0 : zM) (v0 : Nat) (k103 : zM → Option (zM)) (hk103 : ∀ (M : zM), zSy E mu_X1_gather d M0 (none, x0) x0 (k103 M) 103 [(0, .ref (E.2.2.2.1 + v0))] [] M) : ∀ (n : Nat) (v4 : Int32) (M : zM), zSy E mu_X1_gather d M0 (none, x0) x0 (fp_X1_gather_L58 k103 v0 n v4 M) 58 [(0, .ref (E.2.2.2.1 + v0)), (4, .int v4)] [] M := by
  intro n
  induction n with
  | zero =>
    intro v4 M
    rw [fp_X1_gather_L58]
    exact zs_none
  | succ n ih =>
    intro v4 M
    rw [fp_X1_gather_L58]
    refine zs_iload dX1_gather_58 1 rfl ?_
    refine zs_aload_n dX1_gather_60 rfl 0 rfl ?_
    refine zs_getI dX1_gather_61 fl_X1_15 rfl (fun y8 => ?_)
    refine zs_icmp_ge dX1_gather_64 rfl ?_ ?_
    · refine zs_sub (loc' := [(0, .ref (E.2.2.2.1 + v0))]) [0] rfl ?_
      exact hk103 M
    refine zs_iload dX1_gather_67 1 rfl ?_
    refine zs_aload_n dX1_gather_69 rfl 0 rfl ?_
    refine zs_getR dX1_gather_70 fl_X1_19 rfl (fun y9 => ?_)
    refine zs_alen dX1_gather_73 (fun y10 => ?_)
    refine zs_icmp_ge dX1_gather_74 rfl ?_ ?_
    · refine zs_sub (loc' := [(0, .ref (E.2.2.2.1 + v0))]) [0] rfl ?_
      exact hk103 M
    refine zs_aload_n dX1_gather_77 rfl 0 rfl ?_
    refine zs_getR dX1_gather_78 fl_X1_19 rfl (fun y11 => ?_)
    refine zs_iload dX1_gather_81 1 rfl ?_
    refine zs_aload_n dX1_gather_83 rfl 0 rfl ?_
    refine zs_getI dX1_gather_84 fl_X1_15 rfl (fun y12 => ?_)
    refine zs_aload_n dX1_gather_87 rfl 0 rfl ?_
    refine zs_getI dX1_gather_88 fl_X1_29 rfl (fun y13 => ?_)
    refine zs_iload dX1_gather_91 1 rfl ?_
    refine zs_invSPI (rest := [.int v4, .ref (E.2.2.2.1 + y11)]) [.int y12, .int y13, .int v4] dX1_gather_93 lk_X1_41 rfl (zd1 rfl hd) rfl (Nat.le_of_ble_eq_true rfl) (ct_X2_nearTo E hE _ (zdl rfl hd) _ _ _ _) (fun y14 => ?_)
    refine zs_stI dX1_gather_96 (fun M15 => ?_)
    refine zs_iinc (v := (v4 + 1)) (loc' := [(0, .ref (E.2.2.2.1 + v0)), (4, .int (v4 + 1))]) dX1_gather_97 1 rfl (by rfl) (Nat.le_of_ble_eq_true rfl) [1, 0] rfl ?_
    refine zs_goto dX1_gather_100 rfl ?_
    exact ih (v4 + 1) M15
set_option maxHeartbeats 4000000 in
set_option maxRecDepth 100000 in
theorem ct_X1_gather (E : zEnv) (hE : zEok E) (d : Nat) (hd : 26 ≤ d) (v0 : Nat) (v1 : Int32) (v2 : Int32) (v3 : Int32) (M : zM) (x0 : zM) (hx : fp_X1_gather v0 v1 v2 v3 M = some x0) : zCt E mu_X1_gather d [.ref (E.2.2.2.1 + v0), .int v1, .int v2, .int v3] M (none, x0) := by
  refine zCt_of (μ := mu_X1_gather) (t := fp_X1_gather v0 v1 v2 v3 M) rfl rfl (Nat.le_of_ble_eq_true rfl) hx ?_
  change zSy E mu_X1_gather d M (none, x0) x0 (fp_X1_gather v0 v1 v2 v3 M) 0 [(0, .ref (E.2.2.2.1 + v0)), (1, .int v1), (2, .int v2), (3, .int v3)] [] M
  unfold fp_X1_gather
  refine zs_this (fun hth => ?_)
  refine zs_aload_n dX1_gather_0 rfl 0 rfl ?_
  refine zs_getI dX1_gather_1 fl_X1_15 rfl (fun y1 => ?_)
  refine zs_iload_n dX1_gather_4 rfl 1 rfl ?_
  refine zs_jn (fun j25 => zSy E mu_X1_gather d M (none, x0) x0 (j25) 25 [(0, .ref (E.2.2.2.1 + v0)), (1, .int v1), (2, .int v2), (3, .int v3)] [] M) ?_ (fun j25 hj25 => ?_)
  · refine zs_aload_n dX1_gather_25 rfl 0 rfl ?_
    refine zs_iload_n dX1_gather_26 rfl 1 rfl ?_
    refine zs_putI dX1_gather_27 fl_X1_15 ft_X1 rfl rfl rfl rfl rfl (fun M2 => ?_)
    refine zs_aload_n dX1_gather_30 rfl 0 rfl ?_
    refine zs_iload_n dX1_gather_31 rfl 2 rfl ?_
    refine zs_putI dX1_gather_32 fl_X1_29 ft_X1 rfl rfl rfl rfl rfl (fun M3 => ?_)
    refine zs_aload_n dX1_gather_35 rfl 0 rfl ?_
    refine zs_iload_n dX1_gather_36 rfl 3 rfl ?_
    refine zs_putI dX1_gather_37 fl_X1_32 ft_X1 rfl rfl rfl rfl rfl (fun M4 => ?_)
    refine zs_aload_n dX1_gather_40 rfl 0 rfl ?_
    refine zs_iconst (v := 2) dX1_gather_41 ciconst_2 ?_
    refine zs_aload_n dX1_gather_42 rfl 0 rfl ?_
    refine zs_getI dX1_gather_43 fl_X1_15 rfl (fun y5 => ?_)
    refine zs_imul dX1_gather_46 ?_
    refine zs_putI dX1_gather_47 fl_X1_35 ft_X1 rfl rfl rfl rfl rfl (fun M6 => ?_)
    refine zs_aload_n dX1_gather_50 rfl 0 rfl ?_
    refine zs_iconst (v := 0) dX1_gather_51 ciconst_0 ?_
    refine zs_putI dX1_gather_52 fl_X1_38 ft_X1 rfl rfl rfl rfl rfl (fun M7 => ?_)
    refine zs_iconst (v := 0) dX1_gather_55 ciconst_0 ?_
    refine zs_istore (loc' := [(0, .ref (E.2.2.2.1 + v0)), (4, .int 0)]) dX1_gather_56 (Nat.le_of_ble_eq_true rfl) [1, 0] rfl ?_
    refine w_X1_gather_L58 E hE d hd _ _ _ _ (fun M16 => ?_) _ _ _
    refine zs_aload_n dX1_gather_103 rfl 0 rfl ?_
    refine zs_getI dX1_gather_104 fl_X1_15 rfl (fun y17 => ?_)
    refine zs_if_ne dX1_gather_107 rfl ?_ ?_
    · refine zs_aload_n dX1_gather_118 rfl 0 rfl ?_
      refine zs_getR dX1_gather_119 fl_X1_23 rfl (fun y18 => ?_)
      refine zs_iconst (v := 0) dX1_gather_122 ciconst_0 ?_
      refine zs_iconst (v := 0) dX1_gather_123 ciconst_0 ?_
      refine zs_stI dX1_gather_124 (fun M19 => ?_)
      refine zs_aload_n dX1_gather_125 rfl 0 rfl ?_
      refine zs_iconst (v := 1) dX1_gather_126 ciconst_1 ?_
      refine zs_aload_n dX1_gather_127 rfl 0 rfl ?_
      refine zs_getI dX1_gather_128 fl_X1_15 rfl (fun y20 => ?_)
      refine zs_invSPI (rest := [.int 1, .ref (E.2.2.2.1 + v0)]) [.int y20] dX1_gather_131 lk_X1_51 rfl (zd1 rfl hd) rfl (Nat.le_of_ble_eq_true rfl) (ct_X2_everyPoint E hE _ (zdl rfl hd) _ _) (fun y21 => ?_)
      refine zs_iconst (v := 1) dX1_gather_134 ciconst_1 ?_
      refine zs_ixor dX1_gather_135 ?_
      refine zs_iconst (v := 1) dX1_gather_136 ciconst_1 ?_
      refine zs_iconst (v := 0) dX1_gather_137 ciconst_0 ?_
      refine zs_lconst (v := 0) dX1_gather_138 (by rfl) ?_
      refine zs_invSWV (rest := []) [.ref (E.2.2.2.1 + v0), .int 1, .int (y21 ^^^ 1), .int 1, .int 0, .long 0] dX1_gather_139 lk_X1_55 rfl (zd1 rfl hd) rfl (Nat.le_of_ble_eq_true rfl) (ct_X1_extend E hE FD _ (zdl rfl hd) _ _ _ _ _ _ _) (fun M22 => ?_)
      exact zs_vret dX1_gather_142 trivial
    refine zs_aload_n dX1_gather_110 rfl 0 rfl ?_
    refine zs_lconst (v := 0) dX1_gather_111 (by rfl) ?_
    refine zs_invVWV (rest := []) [.long 0] dX1_gather_112 lk_X1_47 rfl (fun _ h => th_X1_keep h) (zd1 rfl hd) rfl (Nat.le_of_ble_eq_true rfl) (ct_X1_keep E hE _ (zdl rfl hd) _ _ _) (fun M23 => ?_)
    refine zs_goto dX1_gather_115 rfl ?_
    exact zs_vret dX1_gather_142 trivial
  refine zs_icmp_ne dX1_gather_5 rfl ?_ ?_
  · exact hj25
  refine zs_aload_n dX1_gather_8 rfl 0 rfl ?_
  refine zs_getI dX1_gather_9 fl_X1_29 rfl (fun y24 => ?_)
  refine zs_iload_n dX1_gather_12 rfl 2 rfl ?_
  refine zs_icmp_ne dX1_gather_13 rfl ?_ ?_
  · exact hj25
  refine zs_aload_n dX1_gather_16 rfl 0 rfl ?_
  refine zs_getI dX1_gather_17 fl_X1_32 rfl (fun y25 => ?_)
  refine zs_iload_n dX1_gather_20 rfl 3 rfl ?_
  refine zs_icmp_ne dX1_gather_21 rfl ?_ ?_
  · exact hj25
  exact zs_vret dX1_gather_24 trivial
theorem dX1_wordAt_0 : decode cX1_wordAt 0 = .ok (.iload_n 1, 1) := by decide +kernel
theorem dX1_wordAt_1 : decode cX1_wordAt 1 = .ok (.ifCond .lt 29, 3) := by decide +kernel
theorem dX1_wordAt_4 : decode cX1_wordAt 4 = .ok (.iload_n 1, 1) := by decide +kernel
theorem dX1_wordAt_5 : decode cX1_wordAt 5 = .ok (.aload_n 0, 1) := by decide +kernel
theorem dX1_wordAt_6 : decode cX1_wordAt 6 = .ok (.getfield 38, 3) := by decide +kernel
theorem dX1_wordAt_9 : decode cX1_wordAt 9 = .ok (.if_icmp .ge 21, 3) := by decide +kernel
theorem dX1_wordAt_12 : decode cX1_wordAt 12 = .ok (.iload_n 1, 1) := by decide +kernel
theorem dX1_wordAt_13 : decode cX1_wordAt 13 = .ok (.aload_n 0, 1) := by decide +kernel
theorem dX1_wordAt_14 : decode cX1_wordAt 14 = .ok (.getfield 11, 3) := by decide +kernel
theorem dX1_wordAt_17 : decode cX1_wordAt 17 = .ok (.arraylength, 1) := by decide +kernel
theorem dX1_wordAt_18 : decode cX1_wordAt 18 = .ok (.if_icmp .ge 12, 3) := by decide +kernel
theorem dX1_wordAt_21 : decode cX1_wordAt 21 = .ok (.aload_n 0, 1) := by decide +kernel
theorem dX1_wordAt_22 : decode cX1_wordAt 22 = .ok (.getfield 11, 3) := by decide +kernel
theorem dX1_wordAt_25 : decode cX1_wordAt 25 = .ok (.iload_n 1, 1) := by decide +kernel
theorem dX1_wordAt_26 : decode cX1_wordAt 26 = .ok (.laload, 1) := by decide +kernel
theorem dX1_wordAt_27 : decode cX1_wordAt 27 = .ok (.goto 4, 3) := by decide +kernel
theorem dX1_wordAt_30 : decode cX1_wordAt 30 = .ok (.lconst 0, 1) := by decide +kernel
theorem dX1_wordAt_31 : decode cX1_wordAt 31 = .ok (.lreturn, 1) := by decide +kernel
def fp_X1_wordAt (v0 : Nat) (v1 : Int32) (M : zM) : Option (Int64) :=
  zthis 1 M v0 (
    if v1 < 0 then (
      some 0)
    else (
      (zgI 1 M v0 0).bind fun (y1 : Int32) =>
      if v1 ≥ y1 then (
        some 0)
      else (
        (zgR 1 M v0 1).bind fun (y2 : Nat) =>
        (zln M y2).bind fun (y3 : Int32) =>
        if v1 ≥ y3 then (
          some 0)
        else (
          (zgR 1 M v0 1).bind fun (y4 : Nat) =>
          (zlJ M y4 v1).bind fun (y5 : Int64) =>
          some y5))))
set_option maxHeartbeats 4000000 in
set_option maxRecDepth 100000 in
theorem th_X1_wordAt {v0 : Nat} {v1 : Int32} {M : zM} {x0 : Int64} (h : fp_X1_wordAt v0 v1 M = some x0) : v0 < zS M ∧ kd v0 = 1 := by
  unfold fp_X1_wordAt at h
  exact zthis_of h
set_option maxHeartbeats 4000000 in
set_option maxRecDepth 100000 in
theorem ct_X1_wordAt (E : zEnv) (hE : zEok E) (d : Nat) (hd : 1 ≤ d) (v0 : Nat) (v1 : Int32) (M : zM) (x0 : Int64) (hx : fp_X1_wordAt v0 v1 M = some x0) : zCt E mu_X1_wordAt d [.ref (E.2.2.2.1 + v0), .int v1] M (some (.long x0), M) := by
  refine zCt_of (μ := mu_X1_wordAt) (t := fp_X1_wordAt v0 v1 M) rfl rfl (Nat.le_of_ble_eq_true rfl) hx ?_
  change zSy E mu_X1_wordAt d M (some (.long x0), M) x0 (fp_X1_wordAt v0 v1 M) 0 [(0, .ref (E.2.2.2.1 + v0)), (1, .int v1)] [] M
  unfold fp_X1_wordAt
  refine zs_this (fun hth => ?_)
  refine zs_iload_n dX1_wordAt_0 rfl 1 rfl ?_
  refine zs_if_lt dX1_wordAt_1 rfl ?_ ?_
  · refine zs_lconst (v := 0) dX1_wordAt_30 (by rfl) ?_
    exact zs_lretP dX1_wordAt_31 trivial
  refine zs_iload_n dX1_wordAt_4 rfl 1 rfl ?_
  refine zs_aload_n dX1_wordAt_5 rfl 0 rfl ?_
  refine zs_getI dX1_wordAt_6 fl_X1_38 rfl (fun y1 => ?_)
  refine zs_icmp_ge dX1_wordAt_9 rfl ?_ ?_
  · refine zs_lconst (v := 0) dX1_wordAt_30 (by rfl) ?_
    exact zs_lretP dX1_wordAt_31 trivial
  refine zs_iload_n dX1_wordAt_12 rfl 1 rfl ?_
  refine zs_aload_n dX1_wordAt_13 rfl 0 rfl ?_
  refine zs_getR dX1_wordAt_14 fl_X1_11 rfl (fun y2 => ?_)
  refine zs_alen dX1_wordAt_17 (fun y3 => ?_)
  refine zs_icmp_ge dX1_wordAt_18 rfl ?_ ?_
  · refine zs_lconst (v := 0) dX1_wordAt_30 (by rfl) ?_
    exact zs_lretP dX1_wordAt_31 trivial
  refine zs_aload_n dX1_wordAt_21 rfl 0 rfl ?_
  refine zs_getR dX1_wordAt_22 fl_X1_11 rfl (fun y4 => ?_)
  refine zs_iload_n dX1_wordAt_25 rfl 1 rfl ?_
  refine zs_ldJ dX1_wordAt_26 (fun y5 => ?_)
  refine zs_goto dX1_wordAt_27 rfl ?_
  exact zs_lretP dX1_wordAt_31 trivial
theorem dX1_spell_0 : decode cX1_spell 0 = .ok (.aload_n 0, 1) := by decide +kernel
theorem dX1_spell_1 : decode cX1_spell 1 = .ok (.iload_n 1, 1) := by decide +kernel
theorem dX1_spell_2 : decode cX1_spell 2 = .ok (.invokevirtual 106, 3) := by decide +kernel
theorem dX1_spell_5 : decode cX1_spell 5 = .ok (.lstore_n 3, 1) := by decide +kernel
theorem dX1_spell_6 : decode cX1_spell 6 = .ok (.aload_n 0, 1) := by decide +kernel
theorem dX1_spell_7 : decode cX1_spell 7 = .ok (.getfield 35, 3) := by decide +kernel
theorem dX1_spell_10 : decode cX1_spell 10 = .ok (.aload_n 2, 1) := by decide +kernel
theorem dX1_spell_11 : decode cX1_spell 11 = .ok (.arraylength, 1) := by decide +kernel
theorem dX1_spell_12 : decode cX1_spell 12 = .ok (.invokestatic 94, 3) := by decide +kernel
theorem dX1_spell_15 : decode cX1_spell 15 = .ok (.iconst 1, 1) := by decide +kernel
theorem dX1_spell_16 : decode cX1_spell 16 = .ok (.isub, 1) := by decide +kernel
theorem dX1_spell_17 : decode cX1_spell 17 = .ok (.istore 5, 2) := by decide +kernel
theorem dX1_spell_19 : decode cX1_spell 19 = .ok (.iload 5, 2) := by decide +kernel
theorem dX1_spell_21 : decode cX1_spell 21 = .ok (.ifCond .lt 23, 3) := by decide +kernel
theorem dX1_spell_24 : decode cX1_spell 24 = .ok (.aload_n 2, 1) := by decide +kernel
theorem dX1_spell_25 : decode cX1_spell 25 = .ok (.iload 5, 2) := by decide +kernel
theorem dX1_spell_27 : decode cX1_spell 27 = .ok (.lload_n 3, 1) := by decide +kernel
theorem dX1_spell_28 : decode cX1_spell 28 = .ok (.ldc2_w 110, 3) := by decide +kernel
theorem dX1_spell_31 : decode cX1_spell 31 = .ok (.land, 1) := by decide +kernel
theorem dX1_spell_32 : decode cX1_spell 32 = .ok (.l2i, 1) := by decide +kernel
theorem dX1_spell_33 : decode cX1_spell 33 = .ok (.iastore, 1) := by decide +kernel
theorem dX1_spell_34 : decode cX1_spell 34 = .ok (.lload_n 3, 1) := by decide +kernel
theorem dX1_spell_35 : decode cX1_spell 35 = .ok (.iconst 4, 1) := by decide +kernel
theorem dX1_spell_36 : decode cX1_spell 36 = .ok (.lshr, 1) := by decide +kernel
theorem dX1_spell_37 : decode cX1_spell 37 = .ok (.lstore_n 3, 1) := by decide +kernel
theorem dX1_spell_38 : decode cX1_spell 38 = .ok (.iinc 5 (-1), 3) := by decide +kernel
theorem dX1_spell_41 : decode cX1_spell 41 = .ok (.goto (-22), 3) := by decide +kernel
theorem dX1_spell_44 : decode cX1_spell 44 = .ok (.return_, 1) := by decide +kernel
def fp_X1_spell_L19 (v2 : Nat) : Nat → Int64 → Int32 → zM → Option (zM)
  | 0, _, _, _ => none
  | n + 1, v3, v5, M =>
    if v5 < 0 then (
      some M)
    else (
      (ztI M v2 v5 ((v3 &&& 15).toInt32)).bind fun (M5 : zM) =>
      lett ((v3 >>> ((4 : Int32).toInt64 &&& 63))) fun (v3_6 : Int64) =>
      fp_X1_spell_L19 v2 n v3_6 (v5 + (-1)) M5)
def fp_X1_spell (v0 : Nat) (v1 : Int32) (v2 : Nat) (M : zM) : Option (zM) :=
  zthis 1 M v0 (
    (fp_X1_wordAt v0 v1 M).bind fun (y1 : Int64) =>
    (zgI 1 M v0 4).bind fun (y2 : Int32) =>
    (zln M v2).bind fun (y3 : Int32) =>
    lett (((kmin y2 y3) - 1)) fun (v5_4 : Int32) =>
    fp_X1_spell_L19 v2 FU y1 v5_4 M)
set_option maxHeartbeats 4000000 in
set_option maxRecDepth 100000 in
theorem th_X1_spell {v0 : Nat} {v1 : Int32} {v2 : Nat} {M : zM} {x0 : zM} (h : fp_X1_spell v0 v1 v2 M = some x0) : v0 < zS M ∧ kd v0 = 1 := by
  unfold fp_X1_spell at h
  exact zthis_of h
set_option maxHeartbeats 4000000 in
set_option maxRecDepth 100000 in
theorem w_X1_spell_L19 (E : zEnv) (hE : zEok E) (d : Nat) (hd : 2 ≤ d) (M0 : zM) (x0 : zM) (v2 : Nat)  : ∀ (n : Nat) (v3 : Int64) (v5 : Int32) (M : zM), zSy E mu_X1_spell d M0 (none, x0) x0 (fp_X1_spell_L19 v2 n v3 v5 M) 19 [(2, .ref (E.2.2.2.1 + v2)), (3, .long v3), (5, .int v5)] [] M := by
  intro n
  induction n with
  | zero =>
    intro v3 v5 M
    rw [fp_X1_spell_L19]
    exact zs_none
  | succ n ih =>
    intro v3 v5 M
    rw [fp_X1_spell_L19]
    refine zs_iload dX1_spell_19 2 rfl ?_
    refine zs_if_lt dX1_spell_21 rfl ?_ ?_
    · exact zs_vret dX1_spell_44 trivial
    refine zs_aload_n dX1_spell_24 rfl 0 rfl ?_
    refine zs_iload dX1_spell_25 2 rfl ?_
    refine zs_lload_n dX1_spell_27 rfl 1 rfl ?_
    refine zs_ldc2 (v := 15) dX1_spell_28 (ti_4 137 rfl rfl) ?_
    refine zs_land dX1_spell_31 ?_
    refine zs_l2i dX1_spell_32 ?_
    refine zs_stI dX1_spell_33 (fun M5 => ?_)
    refine zs_lload_n dX1_spell_34 rfl 1 rfl ?_
    refine zs_iconst (v := 4) dX1_spell_35 ciconst_4 ?_
    refine zs_lshr dX1_spell_36 ?_
    refine zs_lstore_nL (loc' := fun v3_6 => [(2, .ref (E.2.2.2.1 + v2)), (3, .long v3_6), (5, .int v5)]) dX1_spell_37 rfl (Nat.le_of_ble_eq_true rfl) [1, 0, 2] (fun _ => rfl) (fun v3_6 => ?_)
    refine zs_iinc (v := (v5 + (-1))) (loc' := [(2, .ref (E.2.2.2.1 + v2)), (3, .long v3_6), (5, .int (v5 + (-1)))]) dX1_spell_38 2 rfl (by rfl) (Nat.le_of_ble_eq_true rfl) [1, 2, 0] rfl ?_
    refine zs_goto dX1_spell_41 rfl ?_
    exact ih v3_6 (v5 + (-1)) M5
set_option maxHeartbeats 4000000 in
set_option maxRecDepth 100000 in
theorem ct_X1_spell (E : zEnv) (hE : zEok E) (d : Nat) (hd : 2 ≤ d) (v0 : Nat) (v1 : Int32) (v2 : Nat) (M : zM) (x0 : zM) (hx : fp_X1_spell v0 v1 v2 M = some x0) : zCt E mu_X1_spell d [.ref (E.2.2.2.1 + v0), .int v1, .ref (E.2.2.2.1 + v2)] M (none, x0) := by
  refine zCt_of (μ := mu_X1_spell) (t := fp_X1_spell v0 v1 v2 M) rfl rfl (Nat.le_of_ble_eq_true rfl) hx ?_
  change zSy E mu_X1_spell d M (none, x0) x0 (fp_X1_spell v0 v1 v2 M) 0 [(0, .ref (E.2.2.2.1 + v0)), (1, .int v1), (2, .ref (E.2.2.2.1 + v2))] [] M
  unfold fp_X1_spell
  refine zs_this (fun hth => ?_)
  refine zs_aload_n dX1_spell_0 rfl 0 rfl ?_
  refine zs_iload_n dX1_spell_1 rfl 1 rfl ?_
  refine zs_invVPJ (rest := []) [.int v1] dX1_spell_2 lk_X1_106 rfl (fun _ h => th_X1_wordAt h) (zd1 rfl hd) rfl (Nat.le_of_ble_eq_true rfl) (ct_X1_wordAt E hE _ (zdl rfl hd) _ _ _) (fun y1 => ?_)
  refine zs_lstore_n (loc' := [(0, .ref (E.2.2.2.1 + v0)), (2, .ref (E.2.2.2.1 + v2)), (3, .long y1)]) dX1_spell_5 rfl (Nat.le_of_ble_eq_true rfl) [1, 3, 0] rfl ?_
  refine zs_aload_n dX1_spell_6 rfl 0 rfl ?_
  refine zs_getI dX1_spell_7 fl_X1_35 rfl (fun y2 => ?_)
  refine zs_aload_n dX1_spell_10 rfl 1 rfl ?_
  refine zs_alen dX1_spell_11 (fun y3 => ?_)
  refine zs_min dX1_spell_12 (ti_3 97 rfl rfl) ms_min mi_Math mc_min (zd0 rfl hd) (Nat.le_of_ble_eq_true rfl) ?_
  refine zs_iconst (v := 1) dX1_spell_15 ciconst_1 ?_
  refine zs_isub dX1_spell_16 ?_
  refine zs_istoreL (loc' := fun v5_4 => [(2, .ref (E.2.2.2.1 + v2)), (3, .long y1), (5, .int v5_4)]) dX1_spell_17 (Nat.le_of_ble_eq_true rfl) [2, 3, 0] (fun _ => rfl) (fun v5_4 => ?_)
  exact w_X1_spell_L19 E hE d hd _ _ _ _ _ _ _
theorem dX1_indexOf_0 : decode cX1_indexOf 0 = .ok (.iconst 0, 1) := by decide +kernel
theorem dX1_indexOf_1 : decode cX1_indexOf 1 = .ok (.istore_n 3, 1) := by decide +kernel
theorem dX1_indexOf_2 : decode cX1_indexOf 2 = .ok (.aload_n 0, 1) := by decide +kernel
theorem dX1_indexOf_3 : decode cX1_indexOf 3 = .ok (.getfield 38, 3) := by decide +kernel
theorem dX1_indexOf_6 : decode cX1_indexOf 6 = .ok (.iconst 1, 1) := by decide +kernel
theorem dX1_indexOf_7 : decode cX1_indexOf 7 = .ok (.isub, 1) := by decide +kernel
theorem dX1_indexOf_8 : decode cX1_indexOf 8 = .ok (.istore 4, 2) := by decide +kernel
theorem dX1_indexOf_10 : decode cX1_indexOf 10 = .ok (.iconst 0, 1) := by decide +kernel
theorem dX1_indexOf_11 : decode cX1_indexOf 11 = .ok (.istore 5, 2) := by decide +kernel
theorem dX1_indexOf_13 : decode cX1_indexOf 13 = .ok (.iload 5, 2) := by decide +kernel
theorem dX1_indexOf_15 : decode cX1_indexOf 15 = .ok (.bipush 32, 2) := by decide +kernel
theorem dX1_indexOf_17 : decode cX1_indexOf 17 = .ok (.if_icmp .ge 62, 3) := by decide +kernel
theorem dX1_indexOf_20 : decode cX1_indexOf 20 = .ok (.iload_n 3, 1) := by decide +kernel
theorem dX1_indexOf_21 : decode cX1_indexOf 21 = .ok (.iload 4, 2) := by decide +kernel
theorem dX1_indexOf_23 : decode cX1_indexOf 23 = .ok (.if_icmp .gt 56, 3) := by decide +kernel
theorem dX1_indexOf_26 : decode cX1_indexOf 26 = .ok (.iload_n 3, 1) := by decide +kernel
theorem dX1_indexOf_27 : decode cX1_indexOf 27 = .ok (.iload 4, 2) := by decide +kernel
theorem dX1_indexOf_29 : decode cX1_indexOf 29 = .ok (.iadd, 1) := by decide +kernel
theorem dX1_indexOf_30 : decode cX1_indexOf 30 = .ok (.iconst 2, 1) := by decide +kernel
theorem dX1_indexOf_31 : decode cX1_indexOf 31 = .ok (.idiv, 1) := by decide +kernel
theorem dX1_indexOf_32 : decode cX1_indexOf 32 = .ok (.istore 6, 2) := by decide +kernel
theorem dX1_indexOf_34 : decode cX1_indexOf 34 = .ok (.aload_n 0, 1) := by decide +kernel
theorem dX1_indexOf_35 : decode cX1_indexOf 35 = .ok (.iload 6, 2) := by decide +kernel
theorem dX1_indexOf_37 : decode cX1_indexOf 37 = .ok (.invokevirtual 106, 3) := by decide +kernel
theorem dX1_indexOf_40 : decode cX1_indexOf 40 = .ok (.lstore 7, 2) := by decide +kernel
theorem dX1_indexOf_42 : decode cX1_indexOf 42 = .ok (.lload 7, 2) := by decide +kernel
theorem dX1_indexOf_44 : decode cX1_indexOf 44 = .ok (.lload_n 1, 1) := by decide +kernel
theorem dX1_indexOf_45 : decode cX1_indexOf 45 = .ok (.lcmp, 1) := by decide +kernel
theorem dX1_indexOf_46 : decode cX1_indexOf 46 = .ok (.ifCond .ne 6, 3) := by decide +kernel
theorem dX1_indexOf_49 : decode cX1_indexOf 49 = .ok (.iload 6, 2) := by decide +kernel
theorem dX1_indexOf_51 : decode cX1_indexOf 51 = .ok (.ireturn, 1) := by decide +kernel
theorem dX1_indexOf_52 : decode cX1_indexOf 52 = .ok (.lload 7, 2) := by decide +kernel
theorem dX1_indexOf_54 : decode cX1_indexOf 54 = .ok (.lload_n 1, 1) := by decide +kernel
theorem dX1_indexOf_55 : decode cX1_indexOf 55 = .ok (.lcmp, 1) := by decide +kernel
theorem dX1_indexOf_56 : decode cX1_indexOf 56 = .ok (.ifCond .ge 11, 3) := by decide +kernel
theorem dX1_indexOf_59 : decode cX1_indexOf 59 = .ok (.iload 6, 2) := by decide +kernel
theorem dX1_indexOf_61 : decode cX1_indexOf 61 = .ok (.iconst 1, 1) := by decide +kernel
theorem dX1_indexOf_62 : decode cX1_indexOf 62 = .ok (.iadd, 1) := by decide +kernel
theorem dX1_indexOf_63 : decode cX1_indexOf 63 = .ok (.istore_n 3, 1) := by decide +kernel
theorem dX1_indexOf_64 : decode cX1_indexOf 64 = .ok (.goto 9, 3) := by decide +kernel
theorem dX1_indexOf_67 : decode cX1_indexOf 67 = .ok (.iload 6, 2) := by decide +kernel
theorem dX1_indexOf_69 : decode cX1_indexOf 69 = .ok (.iconst 1, 1) := by decide +kernel
theorem dX1_indexOf_70 : decode cX1_indexOf 70 = .ok (.isub, 1) := by decide +kernel
theorem dX1_indexOf_71 : decode cX1_indexOf 71 = .ok (.istore 4, 2) := by decide +kernel
theorem dX1_indexOf_73 : decode cX1_indexOf 73 = .ok (.iinc 5 1, 3) := by decide +kernel
theorem dX1_indexOf_76 : decode cX1_indexOf 76 = .ok (.goto (-63), 3) := by decide +kernel
theorem dX1_indexOf_79 : decode cX1_indexOf 79 = .ok (.iconst (-1), 1) := by decide +kernel
theorem dX1_indexOf_80 : decode cX1_indexOf 80 = .ok (.ireturn, 1) := by decide +kernel
def fp_X1_indexOf_L13 (v0 : Nat) (v1 : Int64) (M : zM) : Nat → Int32 → Int32 → Int32 → Option (Int32)
  | 0, _, _, _ => none
  | n + 1, v3, v4, v5 =>
    if v5 ≥ 32 then (
      some (-1))
    else (
      if v3 > v4 then (
        some (-1))
      else (
        lett (((v3 + v4) / 2)) fun (v6_3 : Int32) =>
        (fp_X1_wordAt v0 v6_3 M).bind fun (y4 : Int64) =>
        if (lg_cmp y4 v1) ≠ 0 then (
          zjn (fun (v3_5 : Int32) (v4_6 : Int32) =>
              fp_X1_indexOf_L13 v0 v1 M n v3_5 v4_6 (v5 + 1))
            (fun j73 =>
              if (lg_cmp y4 v1) ≥ 0 then (
                lett ((v6_3 - 1)) fun (v4_7 : Int32) =>
                j73 v3 v4_7)
              else (
                lett ((v6_3 + 1)) fun (v3_8 : Int32) =>
                j73 v3_8 v4)))
        else (
          some v6_3)))
def fp_X1_indexOf (v0 : Nat) (v1 : Int64) (M : zM) : Option (Int32) :=
  zthis 1 M v0 (
    (zgI 1 M v0 0).bind fun (y1 : Int32) =>
    lett ((y1 - 1)) fun (v4_2 : Int32) =>
    fp_X1_indexOf_L13 v0 v1 M FU 0 v4_2 0)
set_option maxHeartbeats 4000000 in
set_option maxRecDepth 100000 in
theorem th_X1_indexOf {v0 : Nat} {v1 : Int64} {M : zM} {x0 : Int32} (h : fp_X1_indexOf v0 v1 M = some x0) : v0 < zS M ∧ kd v0 = 1 := by
  unfold fp_X1_indexOf at h
  exact zthis_of h
set_option maxHeartbeats 4000000 in
set_option maxRecDepth 100000 in
theorem w_X1_indexOf_L13 (E : zEnv) (hE : zEok E) (d : Nat) (hd : 2 ≤ d) (x0 : Int32) (v0 : Nat) (v1 : Int64) (M : zM)  : ∀ (n : Nat) (v3 : Int32) (v4 : Int32) (v5 : Int32), zSy E mu_X1_indexOf d M (some (.int x0), M) x0 (fp_X1_indexOf_L13 v0 v1 M n v3 v4 v5) 13 [(0, .ref (E.2.2.2.1 + v0)), (1, .long v1), (3, .int v3), (4, .int v4), (5, .int v5)] [] M := by
  intro n
  induction n with
  | zero =>
    intro v3 v4 v5
    rw [fp_X1_indexOf_L13]
    exact zs_none
  | succ n ih =>
    intro v3 v4 v5
    rw [fp_X1_indexOf_L13]
    refine zs_iload dX1_indexOf_13 4 rfl ?_
    refine zs_bipush (v := 32) dX1_indexOf_15 cbipush_32 ?_
    refine zs_icmp_ge dX1_indexOf_17 rfl ?_ ?_
    · refine zs_iconst (v := (-1)) dX1_indexOf_79 ciconst_m1 ?_
      exact zs_iretP dX1_indexOf_80 rfl
    refine zs_iload_n dX1_indexOf_20 rfl 2 rfl ?_
    refine zs_iload dX1_indexOf_21 3 rfl ?_
    refine zs_icmp_gt dX1_indexOf_23 rfl ?_ ?_
    · refine zs_iconst (v := (-1)) dX1_indexOf_79 ciconst_m1 ?_
      exact zs_iretP dX1_indexOf_80 rfl
    refine zs_iload_n dX1_indexOf_26 rfl 2 rfl ?_
    refine zs_iload dX1_indexOf_27 3 rfl ?_
    refine zs_iadd dX1_indexOf_29 ?_
    refine zs_iconst (v := 2) dX1_indexOf_30 ciconst_2 ?_
    refine zs_idivK dX1_indexOf_31 (by decide) ?_
    refine zs_istoreL (loc' := fun v6_3 => [(0, .ref (E.2.2.2.1 + v0)), (1, .long v1), (3, .int v3), (4, .int v4), (5, .int v5), (6, .int v6_3)]) dX1_indexOf_32 (Nat.le_of_ble_eq_true rfl) [1, 2, 3, 4, 5, 0] (fun _ => rfl) (fun v6_3 => ?_)
    refine zs_aload_n dX1_indexOf_34 rfl 0 rfl ?_
    refine zs_iload dX1_indexOf_35 5 rfl ?_
    refine zs_invVPJ (rest := []) [.int v6_3] dX1_indexOf_37 lk_X1_106 rfl (fun _ h => th_X1_wordAt h) (zd1 rfl hd) rfl (Nat.le_of_ble_eq_true rfl) (ct_X1_wordAt E hE _ (zdl rfl hd) _ _ _) (fun y4 => ?_)
    refine zs_lstore (loc' := [(0, .ref (E.2.2.2.1 + v0)), (1, .long v1), (3, .int v3), (4, .int v4), (5, .int v5), (6, .int v6_3), (7, .long y4)]) dX1_indexOf_40 (Nat.le_of_ble_eq_true rfl) [1, 2, 3, 4, 5, 6, 0] rfl ?_
    refine zs_lload dX1_indexOf_42 6 rfl ?_
    refine zs_lload_n dX1_indexOf_44 rfl 1 rfl ?_
    refine zs_lcmp dX1_indexOf_45 ?_
    refine zs_if_ne dX1_indexOf_46 rfl ?_ ?_
    · refine zs_lload dX1_indexOf_52 6 rfl ?_
      refine zs_lload_n dX1_indexOf_54 rfl 1 rfl ?_
      refine zs_lcmp dX1_indexOf_55 ?_
      refine zs_jn (fun j73 => ∀ (v3_5 : Int32) (v4_6 : Int32), zSy E mu_X1_indexOf d M (some (.int x0), M) x0 (j73 v3_5 v4_6) 73 [(0, .ref (E.2.2.2.1 + v0)), (1, .long v1), (3, .int v3_5), (4, .int v4_6), (5, .int v5)] [] M) (fun v3_5 v4_6 => ?_) (fun j73 hj73 => ?_)
      · refine zs_iinc (v := (v5 + 1)) (loc' := [(0, .ref (E.2.2.2.1 + v0)), (1, .long v1), (3, .int v3_5), (4, .int v4_6), (5, .int (v5 + 1))]) dX1_indexOf_73 4 rfl (by rfl) (Nat.le_of_ble_eq_true rfl) [1, 2, 3, 4, 0] rfl ?_
        refine zs_goto dX1_indexOf_76 rfl ?_
        exact ih v3_5 v4_6 (v5 + 1)
      refine zs_if_ge dX1_indexOf_56 rfl ?_ ?_
      · refine zs_iload dX1_indexOf_67 5 rfl ?_
        refine zs_iconst (v := 1) dX1_indexOf_69 ciconst_1 ?_
        refine zs_isub dX1_indexOf_70 ?_
        refine zs_istoreL (loc' := fun v4_7 => [(0, .ref (E.2.2.2.1 + v0)), (1, .long v1), (3, .int v3), (4, .int v4_7), (5, .int v5)]) dX1_indexOf_71 (Nat.le_of_ble_eq_true rfl) [1, 2, 3, 0, 4] (fun _ => rfl) (fun v4_7 => ?_)
        exact hj73 v3 v4_7
      refine zs_iload dX1_indexOf_59 5 rfl ?_
      refine zs_iconst (v := 1) dX1_indexOf_61 ciconst_1 ?_
      refine zs_iadd dX1_indexOf_62 ?_
      refine zs_istore_nL (loc' := fun v3_8 => [(0, .ref (E.2.2.2.1 + v0)), (1, .long v1), (3, .int v3_8), (4, .int v4), (5, .int v5)]) dX1_indexOf_63 rfl (Nat.le_of_ble_eq_true rfl) [1, 2, 0, 3, 4] (fun _ => rfl) (fun v3_8 => ?_)
      refine zs_goto dX1_indexOf_64 rfl ?_
      exact hj73 v3_8 v4
    refine zs_iload dX1_indexOf_49 5 rfl ?_
    exact zs_iretP dX1_indexOf_51 rfl
set_option maxHeartbeats 4000000 in
set_option maxRecDepth 100000 in
theorem ct_X1_indexOf (E : zEnv) (hE : zEok E) (d : Nat) (hd : 2 ≤ d) (v0 : Nat) (v1 : Int64) (M : zM) (x0 : Int32) (hx : fp_X1_indexOf v0 v1 M = some x0) : zCt E mu_X1_indexOf d [.ref (E.2.2.2.1 + v0), .long v1] M (some (.int x0), M) := by
  refine zCt_of (μ := mu_X1_indexOf) (t := fp_X1_indexOf v0 v1 M) rfl rfl (Nat.le_of_ble_eq_true rfl) hx ?_
  change zSy E mu_X1_indexOf d M (some (.int x0), M) x0 (fp_X1_indexOf v0 v1 M) 0 [(0, .ref (E.2.2.2.1 + v0)), (1, .long v1)] [] M
  unfold fp_X1_indexOf
  refine zs_this (fun hth => ?_)
  refine zs_iconst (v := 0) dX1_indexOf_0 ciconst_0 ?_
  refine zs_istore_n (loc' := [(0, .ref (E.2.2.2.1 + v0)), (1, .long v1), (3, .int 0)]) dX1_indexOf_1 rfl (Nat.le_of_ble_eq_true rfl) [1, 2, 0] rfl ?_
  refine zs_aload_n dX1_indexOf_2 rfl 0 rfl ?_
  refine zs_getI dX1_indexOf_3 fl_X1_38 rfl (fun y1 => ?_)
  refine zs_iconst (v := 1) dX1_indexOf_6 ciconst_1 ?_
  refine zs_isub dX1_indexOf_7 ?_
  refine zs_istoreL (loc' := fun v4_2 => [(0, .ref (E.2.2.2.1 + v0)), (1, .long v1), (3, .int 0), (4, .int v4_2)]) dX1_indexOf_8 (Nat.le_of_ble_eq_true rfl) [1, 2, 3, 0] (fun _ => rfl) (fun v4_2 => ?_)
  refine zs_iconst (v := 0) dX1_indexOf_10 ciconst_0 ?_
  refine zs_istore (loc' := [(0, .ref (E.2.2.2.1 + v0)), (1, .long v1), (3, .int 0), (4, .int v4_2), (5, .int 0)]) dX1_indexOf_11 (Nat.le_of_ble_eq_true rfl) [1, 2, 3, 4, 0] rfl ?_
  exact w_X1_indexOf_L13 E hE d hd _ _ _ _ _ _ _ _
theorem dX1_letsIn_0 : decode cX1_letsIn 0 = .ok (.aload_n 0, 1) := by decide +kernel
theorem dX1_letsIn_1 : decode cX1_letsIn 1 = .ok (.iload_n 1, 1) := by decide +kernel
theorem dX1_letsIn_2 : decode cX1_letsIn 2 = .ok (.invokevirtual 106, 3) := by decide +kernel
theorem dX1_letsIn_5 : decode cX1_letsIn 5 = .ok (.lstore_n 3, 1) := by decide +kernel
theorem dX1_letsIn_6 : decode cX1_letsIn 6 = .ok (.iconst 0, 1) := by decide +kernel
theorem dX1_letsIn_7 : decode cX1_letsIn 7 = .ok (.istore 5, 2) := by decide +kernel
theorem dX1_letsIn_9 : decode cX1_letsIn 9 = .ok (.aload_n 0, 1) := by decide +kernel
theorem dX1_letsIn_10 : decode cX1_letsIn 10 = .ok (.dup, 1) := by decide +kernel
theorem dX1_letsIn_11 : decode cX1_letsIn 11 = .ok (.getfield 112, 3) := by decide +kernel
theorem dX1_letsIn_14 : decode cX1_letsIn 14 = .ok (.iconst 1, 1) := by decide +kernel
theorem dX1_letsIn_15 : decode cX1_letsIn 15 = .ok (.iadd, 1) := by decide +kernel
theorem dX1_letsIn_16 : decode cX1_letsIn 16 = .ok (.putfield 112, 3) := by decide +kernel
theorem dX1_letsIn_19 : decode cX1_letsIn 19 = .ok (.iconst 0, 1) := by decide +kernel
theorem dX1_letsIn_20 : decode cX1_letsIn 20 = .ok (.istore 6, 2) := by decide +kernel
theorem dX1_letsIn_22 : decode cX1_letsIn 22 = .ok (.iload 6, 2) := by decide +kernel
theorem dX1_letsIn_24 : decode cX1_letsIn 24 = .ok (.aload_n 0, 1) := by decide +kernel
theorem dX1_letsIn_25 : decode cX1_letsIn 25 = .ok (.getfield 35, 3) := by decide +kernel
theorem dX1_letsIn_28 : decode cX1_letsIn 28 = .ok (.if_icmp .gt 61, 3) := by decide +kernel
theorem dX1_letsIn_31 : decode cX1_letsIn 31 = .ok (.aload_n 0, 1) := by decide +kernel
theorem dX1_letsIn_32 : decode cX1_letsIn 32 = .ok (.getfield 26, 3) := by decide +kernel
theorem dX1_letsIn_35 : decode cX1_letsIn 35 = .ok (.iload 5, 2) := by decide +kernel
theorem dX1_letsIn_37 : decode cX1_letsIn 37 = .ok (.bipush 127, 2) := by decide +kernel
theorem dX1_letsIn_39 : decode cX1_letsIn 39 = .ok (.iand, 1) := by decide +kernel
theorem dX1_letsIn_40 : decode cX1_letsIn 40 = .ok (.aload_n 0, 1) := by decide +kernel
theorem dX1_letsIn_41 : decode cX1_letsIn 41 = .ok (.getfield 112, 3) := by decide +kernel
theorem dX1_letsIn_44 : decode cX1_letsIn 44 = .ok (.iastore, 1) := by decide +kernel
theorem dX1_letsIn_45 : decode cX1_letsIn 45 = .ok (.aload_n 0, 1) := by decide +kernel
theorem dX1_letsIn_46 : decode cX1_letsIn 46 = .ok (.getfield 26, 3) := by decide +kernel
theorem dX1_letsIn_49 : decode cX1_letsIn 49 = .ok (.iload 5, 2) := by decide +kernel
theorem dX1_letsIn_51 : decode cX1_letsIn 51 = .ok (.iload_n 2, 1) := by decide +kernel
theorem dX1_letsIn_52 : decode cX1_letsIn 52 = .ok (.ixor, 1) := by decide +kernel
theorem dX1_letsIn_53 : decode cX1_letsIn 53 = .ok (.bipush 127, 2) := by decide +kernel
theorem dX1_letsIn_55 : decode cX1_letsIn 55 = .ok (.iand, 1) := by decide +kernel
theorem dX1_letsIn_56 : decode cX1_letsIn 56 = .ok (.iaload, 1) := by decide +kernel
theorem dX1_letsIn_57 : decode cX1_letsIn 57 = .ok (.aload_n 0, 1) := by decide +kernel
theorem dX1_letsIn_58 : decode cX1_letsIn 58 = .ok (.getfield 112, 3) := by decide +kernel
theorem dX1_letsIn_61 : decode cX1_letsIn 61 = .ok (.if_icmp .ne 5, 3) := by decide +kernel
theorem dX1_letsIn_64 : decode cX1_letsIn 64 = .ok (.iconst 1, 1) := by decide +kernel
theorem dX1_letsIn_65 : decode cX1_letsIn 65 = .ok (.ireturn, 1) := by decide +kernel
theorem dX1_letsIn_66 : decode cX1_letsIn 66 = .ok (.iload 5, 2) := by decide +kernel
theorem dX1_letsIn_68 : decode cX1_letsIn 68 = .ok (.iconst 1, 1) := by decide +kernel
theorem dX1_letsIn_69 : decode cX1_letsIn 69 = .ok (.lload_n 3, 1) := by decide +kernel
theorem dX1_letsIn_70 : decode cX1_letsIn 70 = .ok (.ldc2_w 110, 3) := by decide +kernel
theorem dX1_letsIn_73 : decode cX1_letsIn 73 = .ok (.land, 1) := by decide +kernel
theorem dX1_letsIn_74 : decode cX1_letsIn 74 = .ok (.l2i, 1) := by decide +kernel
theorem dX1_letsIn_75 : decode cX1_letsIn 75 = .ok (.ishl, 1) := by decide +kernel
theorem dX1_letsIn_76 : decode cX1_letsIn 76 = .ok (.ixor, 1) := by decide +kernel
theorem dX1_letsIn_77 : decode cX1_letsIn 77 = .ok (.istore 5, 2) := by decide +kernel
theorem dX1_letsIn_79 : decode cX1_letsIn 79 = .ok (.lload_n 3, 1) := by decide +kernel
theorem dX1_letsIn_80 : decode cX1_letsIn 80 = .ok (.iconst 4, 1) := by decide +kernel
theorem dX1_letsIn_81 : decode cX1_letsIn 81 = .ok (.lshr, 1) := by decide +kernel
theorem dX1_letsIn_82 : decode cX1_letsIn 82 = .ok (.lstore_n 3, 1) := by decide +kernel
theorem dX1_letsIn_83 : decode cX1_letsIn 83 = .ok (.iinc 6 1, 3) := by decide +kernel
theorem dX1_letsIn_86 : decode cX1_letsIn 86 = .ok (.goto (-64), 3) := by decide +kernel
theorem dX1_letsIn_89 : decode cX1_letsIn 89 = .ok (.iconst 0, 1) := by decide +kernel
theorem dX1_letsIn_90 : decode cX1_letsIn 90 = .ok (.ireturn, 1) := by decide +kernel
def fp_X1_letsIn_L22 (v0 : Nat) (v2 : Int32) : Nat → Int64 → Int32 → Int32 → zM → Option (Int32 × zM)
  | 0, _, _, _, _ => none
  | n + 1, v3, v5, v6, M =>
    (zgI 1 M v0 4).bind fun (y4 : Int32) =>
    if v6 > y4 then (
      some (0, M))
    else (
      (zgR 1 M v0 8).bind fun (y5 : Nat) =>
      (zgI 1 M v0 9).bind fun (y6 : Int32) =>
      (ztI M y5 (v5 &&& 127) y6).bind fun (M7 : zM) =>
      (zgR 1 M7 v0 8).bind fun (y8 : Nat) =>
      (zlI 100 M7 y8 ((v5 ^^^ v2) &&& 127)).bind fun (y9 : Int32) =>
      (zgI 1 M7 v0 9).bind fun (y10 : Int32) =>
      if y9 ≠ y10 then (
        lett ((v5 ^^^ (1 <<< (((v3 &&& 15).toInt32) &&& 31)))) fun (v5_11 : Int32) =>
        lett ((v3 >>> ((4 : Int32).toInt64 &&& 63))) fun (v3_12 : Int64) =>
        fp_X1_letsIn_L22 v0 v2 n v3_12 v5_11 (v6 + 1) M7)
      else (
        some (1, M7)))
def fp_X1_letsIn (v0 : Nat) (v1 : Int32) (v2 : Int32) (M : zM) : Option (Int32 × zM) :=
  zthis 1 M v0 (
    (fp_X1_wordAt v0 v1 M).bind fun (y1 : Int64) =>
    (zgI 1 M v0 9).bind fun (y2 : Int32) =>
    (zpI 1 M v0 9 (y2 + 1)).bind fun (M3 : zM) =>
    fp_X1_letsIn_L22 v0 v2 FU y1 0 0 M3)
set_option maxHeartbeats 4000000 in
set_option maxRecDepth 100000 in
theorem th_X1_letsIn {v0 : Nat} {v1 : Int32} {v2 : Int32} {M : zM} {x0 : Int32 × zM} (h : fp_X1_letsIn v0 v1 v2 M = some x0) : v0 < zS M ∧ kd v0 = 1 := by
  unfold fp_X1_letsIn at h
  exact zthis_of h
set_option maxHeartbeats 4000000 in
set_option maxRecDepth 100000 in
theorem w_X1_letsIn_L22 (E : zEnv) (hE : zEok E) (d : Nat) (hd : 2 ≤ d) (M0 : zM) (x0 : Int32 × zM) (v0 : Nat) (v2 : Int32)  : ∀ (n : Nat) (v3 : Int64) (v5 : Int32) (v6 : Int32) (M : zM), zSy E mu_X1_letsIn d M0 (some (.int x0.1), x0.2) x0 (fp_X1_letsIn_L22 v0 v2 n v3 v5 v6 M) 22 [(0, .ref (E.2.2.2.1 + v0)), (2, .int v2), (3, .long v3), (5, .int v5), (6, .int v6)] [] M := by
  intro n
  induction n with
  | zero =>
    intro v3 v5 v6 M
    rw [fp_X1_letsIn_L22]
    exact zs_none
  | succ n ih =>
    intro v3 v5 v6 M
    rw [fp_X1_letsIn_L22]
    refine zs_iload dX1_letsIn_22 4 rfl ?_
    refine zs_aload_n dX1_letsIn_24 rfl 0 rfl ?_
    refine zs_getI dX1_letsIn_25 fl_X1_35 rfl (fun y4 => ?_)
    refine zs_icmp_gt dX1_letsIn_28 rfl ?_ ?_
    · refine zs_iconst (v := 0) dX1_letsIn_89 ciconst_0 ?_
      exact zs_iretW dX1_letsIn_90 rfl
    refine zs_aload_n dX1_letsIn_31 rfl 0 rfl ?_
    refine zs_getR dX1_letsIn_32 fl_X1_26 rfl (fun y5 => ?_)
    refine zs_iload dX1_letsIn_35 3 rfl ?_
    refine zs_bipush (v := 127) dX1_letsIn_37 cbipush_127 ?_
    refine zs_iand dX1_letsIn_39 ?_
    refine zs_aload_n dX1_letsIn_40 rfl 0 rfl ?_
    refine zs_getI dX1_letsIn_41 fl_X1_112 rfl (fun y6 => ?_)
    refine zs_stI dX1_letsIn_44 (fun M7 => ?_)
    refine zs_aload_n dX1_letsIn_45 rfl 0 rfl ?_
    refine zs_getR dX1_letsIn_46 fl_X1_26 rfl (fun y8 => ?_)
    refine zs_iload dX1_letsIn_49 3 rfl ?_
    refine zs_iload_n dX1_letsIn_51 rfl 1 rfl ?_
    refine zs_ixor dX1_letsIn_52 ?_
    refine zs_bipush (v := 127) dX1_letsIn_53 cbipush_127 ?_
    refine zs_iand dX1_letsIn_55 ?_
    refine zs_ldI dX1_letsIn_56 (fun y9 => ?_)
    refine zs_aload_n dX1_letsIn_57 rfl 0 rfl ?_
    refine zs_getI dX1_letsIn_58 fl_X1_112 rfl (fun y10 => ?_)
    refine zs_icmp_ne dX1_letsIn_61 rfl ?_ ?_
    · refine zs_iload dX1_letsIn_66 3 rfl ?_
      refine zs_iconst (v := 1) dX1_letsIn_68 ciconst_1 ?_
      refine zs_lload_n dX1_letsIn_69 rfl 2 rfl ?_
      refine zs_ldc2 (v := 15) dX1_letsIn_70 (ti_4 137 rfl rfl) ?_
      refine zs_land dX1_letsIn_73 ?_
      refine zs_l2i dX1_letsIn_74 ?_
      refine zs_ishl dX1_letsIn_75 ?_
      refine zs_ixor dX1_letsIn_76 ?_
      refine zs_istoreL (loc' := fun v5_11 => [(0, .ref (E.2.2.2.1 + v0)), (2, .int v2), (3, .long v3), (5, .int v5_11), (6, .int v6)]) dX1_letsIn_77 (Nat.le_of_ble_eq_true rfl) [1, 2, 3, 0, 4] (fun _ => rfl) (fun v5_11 => ?_)
      refine zs_lload_n dX1_letsIn_79 rfl 2 rfl ?_
      refine zs_iconst (v := 4) dX1_letsIn_80 ciconst_4 ?_
      refine zs_lshr dX1_letsIn_81 ?_
      refine zs_lstore_nL (loc' := fun v3_12 => [(0, .ref (E.2.2.2.1 + v0)), (2, .int v2), (3, .long v3_12), (5, .int v5_11), (6, .int v6)]) dX1_letsIn_82 rfl (Nat.le_of_ble_eq_true rfl) [1, 2, 0, 3, 4] (fun _ => rfl) (fun v3_12 => ?_)
      refine zs_iinc (v := (v6 + 1)) (loc' := [(0, .ref (E.2.2.2.1 + v0)), (2, .int v2), (3, .long v3_12), (5, .int v5_11), (6, .int (v6 + 1))]) dX1_letsIn_83 4 rfl (by rfl) (Nat.le_of_ble_eq_true rfl) [1, 2, 3, 4, 0] rfl ?_
      refine zs_goto dX1_letsIn_86 rfl ?_
      exact ih v3_12 v5_11 (v6 + 1) M7
    refine zs_iconst (v := 1) dX1_letsIn_64 ciconst_1 ?_
    exact zs_iretW dX1_letsIn_65 rfl
set_option maxHeartbeats 4000000 in
set_option maxRecDepth 100000 in
theorem ct_X1_letsIn (E : zEnv) (hE : zEok E) (d : Nat) (hd : 2 ≤ d) (v0 : Nat) (v1 : Int32) (v2 : Int32) (M : zM) (x0 : Int32 × zM) (hx : fp_X1_letsIn v0 v1 v2 M = some x0) : zCt E mu_X1_letsIn d [.ref (E.2.2.2.1 + v0), .int v1, .int v2] M (some (.int x0.1), x0.2) := by
  refine zCt_of (μ := mu_X1_letsIn) (t := fp_X1_letsIn v0 v1 v2 M) rfl rfl (Nat.le_of_ble_eq_true rfl) hx ?_
  change zSy E mu_X1_letsIn d M (some (.int x0.1), x0.2) x0 (fp_X1_letsIn v0 v1 v2 M) 0 [(0, .ref (E.2.2.2.1 + v0)), (1, .int v1), (2, .int v2)] [] M
  unfold fp_X1_letsIn
  refine zs_this (fun hth => ?_)
  refine zs_aload_n dX1_letsIn_0 rfl 0 rfl ?_
  refine zs_iload_n dX1_letsIn_1 rfl 1 rfl ?_
  refine zs_invVPJ (rest := []) [.int v1] dX1_letsIn_2 lk_X1_106 rfl (fun _ h => th_X1_wordAt h) (zd1 rfl hd) rfl (Nat.le_of_ble_eq_true rfl) (ct_X1_wordAt E hE _ (zdl rfl hd) _ _ _) (fun y1 => ?_)
  refine zs_lstore_n (loc' := [(0, .ref (E.2.2.2.1 + v0)), (2, .int v2), (3, .long y1)]) dX1_letsIn_5 rfl (Nat.le_of_ble_eq_true rfl) [1, 3, 0] rfl ?_
  refine zs_iconst (v := 0) dX1_letsIn_6 ciconst_0 ?_
  refine zs_istore (loc' := [(0, .ref (E.2.2.2.1 + v0)), (2, .int v2), (3, .long y1), (5, .int 0)]) dX1_letsIn_7 (Nat.le_of_ble_eq_true rfl) [1, 2, 3, 0] rfl ?_
  refine zs_aload_n dX1_letsIn_9 rfl 0 rfl ?_
  refine zs_dup dX1_letsIn_10 rfl ?_
  refine zs_getI dX1_letsIn_11 fl_X1_112 rfl (fun y2 => ?_)
  refine zs_iconst (v := 1) dX1_letsIn_14 ciconst_1 ?_
  refine zs_iadd dX1_letsIn_15 ?_
  refine zs_putI dX1_letsIn_16 fl_X1_112 ft_X1 rfl rfl rfl rfl rfl (fun M3 => ?_)
  refine zs_iconst (v := 0) dX1_letsIn_19 ciconst_0 ?_
  refine zs_istore (loc' := [(0, .ref (E.2.2.2.1 + v0)), (2, .int v2), (3, .long y1), (5, .int 0), (6, .int 0)]) dX1_letsIn_20 (Nat.le_of_ble_eq_true rfl) [1, 2, 3, 4, 0] rfl ?_
  exact w_X1_letsIn_L22 E hE d hd _ _ _ _ _ _ _ _ _
theorem dX1_setsBeside_0 : decode cX1_setsBeside 0 = .ok (.aload_n 0, 1) := by decide +kernel
theorem dX1_setsBeside_1 : decode cX1_setsBeside 1 = .ok (.iload_n 1, 1) := by decide +kernel
theorem dX1_setsBeside_2 : decode cX1_setsBeside 2 = .ok (.invokevirtual 106, 3) := by decide +kernel
theorem dX1_setsBeside_5 : decode cX1_setsBeside 5 = .ok (.lstore 4, 2) := by decide +kernel
theorem dX1_setsBeside_7 : decode cX1_setsBeside 7 = .ok (.iconst 1, 1) := by decide +kernel
theorem dX1_setsBeside_8 : decode cX1_setsBeside 8 = .ok (.iload_n 2, 1) := by decide +kernel
theorem dX1_setsBeside_9 : decode cX1_setsBeside 9 = .ok (.ishl, 1) := by decide +kernel
theorem dX1_setsBeside_10 : decode cX1_setsBeside 10 = .ok (.iconst 1, 1) := by decide +kernel
theorem dX1_setsBeside_11 : decode cX1_setsBeside 11 = .ok (.iload_n 3, 1) := by decide +kernel
theorem dX1_setsBeside_12 : decode cX1_setsBeside 12 = .ok (.ishl, 1) := by decide +kernel
theorem dX1_setsBeside_13 : decode cX1_setsBeside 13 = .ok (.ior, 1) := by decide +kernel
theorem dX1_setsBeside_14 : decode cX1_setsBeside 14 = .ok (.istore 6, 2) := by decide +kernel
theorem dX1_setsBeside_16 : decode cX1_setsBeside 16 = .ok (.iconst 1, 1) := by decide +kernel
theorem dX1_setsBeside_17 : decode cX1_setsBeside 17 = .ok (.lload 4, 2) := by decide +kernel
theorem dX1_setsBeside_19 : decode cX1_setsBeside 19 = .ok (.ldc2_w 110, 3) := by decide +kernel
theorem dX1_setsBeside_22 : decode cX1_setsBeside 22 = .ok (.land, 1) := by decide +kernel
theorem dX1_setsBeside_23 : decode cX1_setsBeside 23 = .ok (.l2i, 1) := by decide +kernel
theorem dX1_setsBeside_24 : decode cX1_setsBeside 24 = .ok (.ishl, 1) := by decide +kernel
theorem dX1_setsBeside_25 : decode cX1_setsBeside 25 = .ok (.istore 7, 2) := by decide +kernel
theorem dX1_setsBeside_27 : decode cX1_setsBeside 27 = .ok (.iload 7, 2) := by decide +kernel
theorem dX1_setsBeside_29 : decode cX1_setsBeside 29 = .ok (.istore 8, 2) := by decide +kernel
theorem dX1_setsBeside_31 : decode cX1_setsBeside 31 = .ok (.iconst 1, 1) := by decide +kernel
theorem dX1_setsBeside_32 : decode cX1_setsBeside 32 = .ok (.istore 9, 2) := by decide +kernel
theorem dX1_setsBeside_34 : decode cX1_setsBeside 34 = .ok (.iload 9, 2) := by decide +kernel
theorem dX1_setsBeside_36 : decode cX1_setsBeside 36 = .ok (.aload_n 0, 1) := by decide +kernel
theorem dX1_setsBeside_37 : decode cX1_setsBeside 37 = .ok (.getfield 35, 3) := by decide +kernel
theorem dX1_setsBeside_40 : decode cX1_setsBeside 40 = .ok (.if_icmp .ge 42, 3) := by decide +kernel
theorem dX1_setsBeside_43 : decode cX1_setsBeside 43 = .ok (.lload 4, 2) := by decide +kernel
theorem dX1_setsBeside_45 : decode cX1_setsBeside 45 = .ok (.iconst 4, 1) := by decide +kernel
theorem dX1_setsBeside_46 : decode cX1_setsBeside 46 = .ok (.lshr, 1) := by decide +kernel
theorem dX1_setsBeside_47 : decode cX1_setsBeside 47 = .ok (.lstore 4, 2) := by decide +kernel
theorem dX1_setsBeside_49 : decode cX1_setsBeside 49 = .ok (.iconst 1, 1) := by decide +kernel
theorem dX1_setsBeside_50 : decode cX1_setsBeside 50 = .ok (.lload 4, 2) := by decide +kernel
theorem dX1_setsBeside_52 : decode cX1_setsBeside 52 = .ok (.ldc2_w 110, 3) := by decide +kernel
theorem dX1_setsBeside_55 : decode cX1_setsBeside 55 = .ok (.land, 1) := by decide +kernel
theorem dX1_setsBeside_56 : decode cX1_setsBeside 56 = .ok (.l2i, 1) := by decide +kernel
theorem dX1_setsBeside_57 : decode cX1_setsBeside 57 = .ok (.ishl, 1) := by decide +kernel
theorem dX1_setsBeside_58 : decode cX1_setsBeside 58 = .ok (.istore 10, 2) := by decide +kernel
theorem dX1_setsBeside_60 : decode cX1_setsBeside 60 = .ok (.iload 8, 2) := by decide +kernel
theorem dX1_setsBeside_62 : decode cX1_setsBeside 62 = .ok (.iload 10, 2) := by decide +kernel
theorem dX1_setsBeside_64 : decode cX1_setsBeside 64 = .ok (.ior, 1) := by decide +kernel
theorem dX1_setsBeside_65 : decode cX1_setsBeside 65 = .ok (.iload 6, 2) := by decide +kernel
theorem dX1_setsBeside_67 : decode cX1_setsBeside 67 = .ok (.if_icmp .ne 5, 3) := by decide +kernel
theorem dX1_setsBeside_70 : decode cX1_setsBeside 70 = .ok (.iconst 1, 1) := by decide +kernel
theorem dX1_setsBeside_71 : decode cX1_setsBeside 71 = .ok (.ireturn, 1) := by decide +kernel
theorem dX1_setsBeside_72 : decode cX1_setsBeside 72 = .ok (.iload 10, 2) := by decide +kernel
theorem dX1_setsBeside_74 : decode cX1_setsBeside 74 = .ok (.istore 8, 2) := by decide +kernel
theorem dX1_setsBeside_76 : decode cX1_setsBeside 76 = .ok (.iinc 9 1, 3) := by decide +kernel
theorem dX1_setsBeside_79 : decode cX1_setsBeside 79 = .ok (.goto (-45), 3) := by decide +kernel
theorem dX1_setsBeside_82 : decode cX1_setsBeside 82 = .ok (.iload 8, 2) := by decide +kernel
theorem dX1_setsBeside_84 : decode cX1_setsBeside 84 = .ok (.iload 7, 2) := by decide +kernel
theorem dX1_setsBeside_86 : decode cX1_setsBeside 86 = .ok (.ior, 1) := by decide +kernel
theorem dX1_setsBeside_87 : decode cX1_setsBeside 87 = .ok (.iload 6, 2) := by decide +kernel
theorem dX1_setsBeside_89 : decode cX1_setsBeside 89 = .ok (.if_icmp .ne 7, 3) := by decide +kernel
theorem dX1_setsBeside_92 : decode cX1_setsBeside 92 = .ok (.iconst 1, 1) := by decide +kernel
theorem dX1_setsBeside_93 : decode cX1_setsBeside 93 = .ok (.goto 4, 3) := by decide +kernel
theorem dX1_setsBeside_96 : decode cX1_setsBeside 96 = .ok (.iconst 0, 1) := by decide +kernel
theorem dX1_setsBeside_97 : decode cX1_setsBeside 97 = .ok (.ireturn, 1) := by decide +kernel
def fp_X1_setsBeside_L34 (k82 : Int32 → Option (Int32)) (v0 : Nat) (v6 : Int32) (v7 : Int32) (M : zM) : Nat → Int64 → Int32 → Int32 → Option (Int32)
  | 0, _, _, _ => none
  | n + 1, v4, v8, v9 =>
    (zgI 1 M v0 4).bind fun (y4 : Int32) =>
    if v9 ≥ y4 then (
      k82 v8)
    else (
      lett ((v4 >>> ((4 : Int32).toInt64 &&& 63))) fun (v4_5 : Int64) =>
      lett ((1 <<< (((v4_5 &&& 15).toInt32) &&& 31))) fun (v10_6 : Int32) =>
      if (v8 ||| v10_6) ≠ v6 then (
        fp_X1_setsBeside_L34 k82 v0 v6 v7 M n v4_5 v10_6 (v9 + 1))
      else (
        some 1))
def fp_X1_setsBeside (v0 : Nat) (v1 : Int32) (v2 : Int32) (v3 : Int32) (M : zM) : Option (Int32) :=
  zthis 1 M v0 (
    (fp_X1_wordAt v0 v1 M).bind fun (y1 : Int64) =>
    lett (((1 <<< (v2 &&& 31)) ||| (1 <<< (v3 &&& 31)))) fun (v6_2 : Int32) =>
    lett ((1 <<< (((y1 &&& 15).toInt32) &&& 31))) fun (v7_3 : Int32) =>
    fp_X1_setsBeside_L34
      (fun v8_7 =>
        if (v8_7 ||| v7_3) ≠ v6_2 then (
          some 0)
        else (
          some 1)) v0 v6_2 v7_3 M FU y1 v7_3 1)
set_option maxHeartbeats 4000000 in
set_option maxRecDepth 100000 in
theorem th_X1_setsBeside {v0 : Nat} {v1 : Int32} {v2 : Int32} {v3 : Int32} {M : zM} {x0 : Int32} (h : fp_X1_setsBeside v0 v1 v2 v3 M = some x0) : v0 < zS M ∧ kd v0 = 1 := by
  unfold fp_X1_setsBeside at h
  exact zthis_of h
set_option maxHeartbeats 4000000 in
set_option maxRecDepth 100000 in
theorem w_X1_setsBeside_L34 (E : zEnv) (hE : zEok E) (d : Nat) (hd : 2 ≤ d) (x0 : Int32) (v0 : Nat) (v6 : Int32) (v7 : Int32) (M : zM) (k82 : Int32 → Option (Int32)) (hk82 : ∀ (v8 : Int32), zSy E mu_X1_setsBeside d M (some (.int x0), M) x0 (k82 v8) 82 [(6, .int v6), (7, .int v7), (8, .int v8)] [] M) : ∀ (n : Nat) (v4 : Int64) (v8 : Int32) (v9 : Int32), zSy E mu_X1_setsBeside d M (some (.int x0), M) x0 (fp_X1_setsBeside_L34 k82 v0 v6 v7 M n v4 v8 v9) 34 [(0, .ref (E.2.2.2.1 + v0)), (4, .long v4), (6, .int v6), (7, .int v7), (8, .int v8), (9, .int v9)] [] M := by
  intro n
  induction n with
  | zero =>
    intro v4 v8 v9
    rw [fp_X1_setsBeside_L34]
    exact zs_none
  | succ n ih =>
    intro v4 v8 v9
    rw [fp_X1_setsBeside_L34]
    refine zs_iload dX1_setsBeside_34 5 rfl ?_
    refine zs_aload_n dX1_setsBeside_36 rfl 0 rfl ?_
    refine zs_getI dX1_setsBeside_37 fl_X1_35 rfl (fun y4 => ?_)
    refine zs_icmp_ge dX1_setsBeside_40 rfl ?_ ?_
    · refine zs_sub (loc' := [(6, .int v6), (7, .int v7), (8, .int v8)]) [2, 3, 4] rfl ?_
      exact hk82 v8
    refine zs_lload dX1_setsBeside_43 1 rfl ?_
    refine zs_iconst (v := 4) dX1_setsBeside_45 ciconst_4 ?_
    refine zs_lshr dX1_setsBeside_46 ?_
    refine zs_lstoreL (loc' := fun v4_5 => [(0, .ref (E.2.2.2.1 + v0)), (4, .long v4_5), (6, .int v6), (7, .int v7), (8, .int v8), (9, .int v9)]) dX1_setsBeside_47 (Nat.le_of_ble_eq_true rfl) [1, 0, 2, 3, 4, 5] (fun _ => rfl) (fun v4_5 => ?_)
    refine zs_iconst (v := 1) dX1_setsBeside_49 ciconst_1 ?_
    refine zs_lload dX1_setsBeside_50 1 rfl ?_
    refine zs_ldc2 (v := 15) dX1_setsBeside_52 (ti_4 137 rfl rfl) ?_
    refine zs_land dX1_setsBeside_55 ?_
    refine zs_l2i dX1_setsBeside_56 ?_
    refine zs_ishl dX1_setsBeside_57 ?_
    refine zs_istoreL (loc' := fun v10_6 => [(0, .ref (E.2.2.2.1 + v0)), (4, .long v4_5), (6, .int v6), (7, .int v7), (8, .int v8), (9, .int v9), (10, .int v10_6)]) dX1_setsBeside_58 (Nat.le_of_ble_eq_true rfl) [1, 2, 3, 4, 5, 6, 0] (fun _ => rfl) (fun v10_6 => ?_)
    refine zs_iload dX1_setsBeside_60 4 rfl ?_
    refine zs_iload dX1_setsBeside_62 6 rfl ?_
    refine zs_ior dX1_setsBeside_64 ?_
    refine zs_iload dX1_setsBeside_65 2 rfl ?_
    refine zs_icmp_ne dX1_setsBeside_67 rfl ?_ ?_
    · refine zs_iload dX1_setsBeside_72 6 rfl ?_
      refine zs_istore (loc' := [(0, .ref (E.2.2.2.1 + v0)), (4, .long v4_5), (6, .int v6), (7, .int v7), (8, .int v10_6), (9, .int v9)]) dX1_setsBeside_74 (Nat.le_of_ble_eq_true rfl) [1, 2, 3, 4, 0, 5] rfl ?_
      refine zs_iinc (v := (v9 + 1)) (loc' := [(0, .ref (E.2.2.2.1 + v0)), (4, .long v4_5), (6, .int v6), (7, .int v7), (8, .int v10_6), (9, .int (v9 + 1))]) dX1_setsBeside_76 5 rfl (by rfl) (Nat.le_of_ble_eq_true rfl) [1, 2, 3, 4, 5, 0] rfl ?_
      refine zs_goto dX1_setsBeside_79 rfl ?_
      exact ih v4_5 v10_6 (v9 + 1)
    refine zs_iconst (v := 1) dX1_setsBeside_70 ciconst_1 ?_
    exact zs_iretP dX1_setsBeside_71 rfl
set_option maxHeartbeats 4000000 in
set_option maxRecDepth 100000 in
theorem ct_X1_setsBeside (E : zEnv) (hE : zEok E) (d : Nat) (hd : 2 ≤ d) (v0 : Nat) (v1 : Int32) (v2 : Int32) (v3 : Int32) (M : zM) (x0 : Int32) (hx : fp_X1_setsBeside v0 v1 v2 v3 M = some x0) : zCt E mu_X1_setsBeside d [.ref (E.2.2.2.1 + v0), .int v1, .int v2, .int v3] M (some (.int x0), M) := by
  refine zCt_of (μ := mu_X1_setsBeside) (t := fp_X1_setsBeside v0 v1 v2 v3 M) rfl rfl (Nat.le_of_ble_eq_true rfl) hx ?_
  change zSy E mu_X1_setsBeside d M (some (.int x0), M) x0 (fp_X1_setsBeside v0 v1 v2 v3 M) 0 [(0, .ref (E.2.2.2.1 + v0)), (1, .int v1), (2, .int v2), (3, .int v3)] [] M
  unfold fp_X1_setsBeside
  refine zs_this (fun hth => ?_)
  refine zs_aload_n dX1_setsBeside_0 rfl 0 rfl ?_
  refine zs_iload_n dX1_setsBeside_1 rfl 1 rfl ?_
  refine zs_invVPJ (rest := []) [.int v1] dX1_setsBeside_2 lk_X1_106 rfl (fun _ h => th_X1_wordAt h) (zd1 rfl hd) rfl (Nat.le_of_ble_eq_true rfl) (ct_X1_wordAt E hE _ (zdl rfl hd) _ _ _) (fun y1 => ?_)
  refine zs_lstore (loc' := [(0, .ref (E.2.2.2.1 + v0)), (2, .int v2), (3, .int v3), (4, .long y1)]) dX1_setsBeside_5 (Nat.le_of_ble_eq_true rfl) [1, 3, 4, 0] rfl ?_
  refine zs_iconst (v := 1) dX1_setsBeside_7 ciconst_1 ?_
  refine zs_iload_n dX1_setsBeside_8 rfl 1 rfl ?_
  refine zs_ishl dX1_setsBeside_9 ?_
  refine zs_iconst (v := 1) dX1_setsBeside_10 ciconst_1 ?_
  refine zs_iload_n dX1_setsBeside_11 rfl 2 rfl ?_
  refine zs_ishl dX1_setsBeside_12 ?_
  refine zs_ior dX1_setsBeside_13 ?_
  refine zs_istoreL (loc' := fun v6_2 => [(0, .ref (E.2.2.2.1 + v0)), (4, .long y1), (6, .int v6_2)]) dX1_setsBeside_14 (Nat.le_of_ble_eq_true rfl) [1, 4, 0] (fun _ => rfl) (fun v6_2 => ?_)
  refine zs_iconst (v := 1) dX1_setsBeside_16 ciconst_1 ?_
  refine zs_lload dX1_setsBeside_17 1 rfl ?_
  refine zs_ldc2 (v := 15) dX1_setsBeside_19 (ti_4 137 rfl rfl) ?_
  refine zs_land dX1_setsBeside_22 ?_
  refine zs_l2i dX1_setsBeside_23 ?_
  refine zs_ishl dX1_setsBeside_24 ?_
  refine zs_istoreL (loc' := fun v7_3 => [(0, .ref (E.2.2.2.1 + v0)), (4, .long y1), (6, .int v6_2), (7, .int v7_3)]) dX1_setsBeside_25 (Nat.le_of_ble_eq_true rfl) [1, 2, 3, 0] (fun _ => rfl) (fun v7_3 => ?_)
  refine zs_iload dX1_setsBeside_27 3 rfl ?_
  refine zs_istore (loc' := [(0, .ref (E.2.2.2.1 + v0)), (4, .long y1), (6, .int v6_2), (7, .int v7_3), (8, .int v7_3)]) dX1_setsBeside_29 (Nat.le_of_ble_eq_true rfl) [1, 2, 3, 4, 0] rfl ?_
  refine zs_iconst (v := 1) dX1_setsBeside_31 ciconst_1 ?_
  refine zs_istore (loc' := [(0, .ref (E.2.2.2.1 + v0)), (4, .long y1), (6, .int v6_2), (7, .int v7_3), (8, .int v7_3), (9, .int 1)]) dX1_setsBeside_32 (Nat.le_of_ble_eq_true rfl) [1, 2, 3, 4, 5, 0] rfl ?_
  refine w_X1_setsBeside_L34 E hE d hd _ _ _ _ _ _ (fun v8_7 => ?_) _ _ _ _
  refine zs_iload dX1_setsBeside_82 2 rfl ?_
  refine zs_iload dX1_setsBeside_84 1 rfl ?_
  refine zs_ior dX1_setsBeside_86 ?_
  refine zs_iload dX1_setsBeside_87 0 rfl ?_
  refine zs_icmp_ne dX1_setsBeside_89 rfl ?_ ?_
  · refine zs_iconst (v := 0) dX1_setsBeside_96 ciconst_0 ?_
    exact zs_iretP dX1_setsBeside_97 rfl
  refine zs_iconst (v := 1) dX1_setsBeside_92 ciconst_1 ?_
  refine zs_goto dX1_setsBeside_93 rfl ?_
  exact zs_iretP dX1_setsBeside_97 rfl

theorem dX11_rename_0 : decode cX11_rename 0 = .ok (.aload_n 0, 1) := by decide +kernel
theorem dX11_rename_1 : decode cX11_rename 1 = .ok (.iload_n 1, 1) := by decide +kernel
theorem dX11_rename_2 : decode cX11_rename 2 = .ok (.iload_n 2, 1) := by decide +kernel
theorem dX11_rename_3 : decode cX11_rename 3 = .ok (.invokevirtual 281, 3) := by decide +kernel
theorem dX11_rename_6 : decode cX11_rename 6 = .ok (.istore_n 3, 1) := by decide +kernel
theorem dX11_rename_7 : decode cX11_rename 7 = .ok (.iload_n 3, 1) := by decide +kernel
theorem dX11_rename_8 : decode cX11_rename 8 = .ok (.ifCond .le 9, 3) := by decide +kernel
theorem dX11_rename_11 : decode cX11_rename 11 = .ok (.aload_n 0, 1) := by decide +kernel
theorem dX11_rename_12 : decode cX11_rename 12 = .ok (.iload_n 3, 1) := by decide +kernel
theorem dX11_rename_13 : decode cX11_rename 13 = .ok (.invokevirtual 284, 3) := by decide +kernel
theorem dX11_rename_16 : decode cX11_rename 16 = .ok (.ireturn, 1) := by decide +kernel
theorem dX11_rename_17 : decode cX11_rename 17 = .ok (.aload_n 0, 1) := by decide +kernel
theorem dX11_rename_18 : decode cX11_rename 18 = .ok (.invokevirtual 275, 3) := by decide +kernel
theorem dX11_rename_21 : decode cX11_rename 21 = .ok (.iconst 0, 1) := by decide +kernel
theorem dX11_rename_22 : decode cX11_rename 22 = .ok (.istore 4, 2) := by decide +kernel
theorem dX11_rename_24 : decode cX11_rename 24 = .ok (.iload 4, 2) := by decide +kernel
theorem dX11_rename_26 : decode cX11_rename 26 = .ok (.aload_n 0, 1) := by decide +kernel
theorem dX11_rename_27 : decode cX11_rename 27 = .ok (.getfield 101, 3) := by decide +kernel
theorem dX11_rename_30 : decode cX11_rename 30 = .ok (.if_icmp .ge 59, 3) := by decide +kernel
theorem dX11_rename_33 : decode cX11_rename 33 = .ok (.aload_n 0, 1) := by decide +kernel
theorem dX11_rename_34 : decode cX11_rename 34 = .ok (.getfield 7, 3) := by decide +kernel
theorem dX11_rename_37 : decode cX11_rename 37 = .ok (.iload 4, 2) := by decide +kernel
theorem dX11_rename_39 : decode cX11_rename 39 = .ok (.iaload, 1) := by decide +kernel
theorem dX11_rename_40 : decode cX11_rename 40 = .ok (.iload_n 1, 1) := by decide +kernel
theorem dX11_rename_41 : decode cX11_rename 41 = .ok (.invokestatic 97, 3) := by decide +kernel
theorem dX11_rename_44 : decode cX11_rename 44 = .ok (.aload_n 0, 1) := by decide +kernel
theorem dX11_rename_45 : decode cX11_rename 45 = .ok (.getfield 7, 3) := by decide +kernel
theorem dX11_rename_48 : decode cX11_rename 48 = .ok (.iload 4, 2) := by decide +kernel
theorem dX11_rename_50 : decode cX11_rename 50 = .ok (.iaload, 1) := by decide +kernel
theorem dX11_rename_51 : decode cX11_rename 51 = .ok (.iload_n 2, 1) := by decide +kernel
theorem dX11_rename_52 : decode cX11_rename 52 = .ok (.invokestatic 97, 3) := by decide +kernel
theorem dX11_rename_55 : decode cX11_rename 55 = .ok (.if_icmp .ne 7, 3) := by decide +kernel
theorem dX11_rename_58 : decode cX11_rename 58 = .ok (.iconst 0, 1) := by decide +kernel
theorem dX11_rename_59 : decode cX11_rename 59 = .ok (.goto 10, 3) := by decide +kernel
theorem dX11_rename_62 : decode cX11_rename 62 = .ok (.iconst 1, 1) := by decide +kernel
theorem dX11_rename_63 : decode cX11_rename 63 = .ok (.iload_n 1, 1) := by decide +kernel
theorem dX11_rename_64 : decode cX11_rename 64 = .ok (.ishl, 1) := by decide +kernel
theorem dX11_rename_65 : decode cX11_rename 65 = .ok (.iconst 1, 1) := by decide +kernel
theorem dX11_rename_66 : decode cX11_rename 66 = .ok (.iload_n 2, 1) := by decide +kernel
theorem dX11_rename_67 : decode cX11_rename 67 = .ok (.ishl, 1) := by decide +kernel
theorem dX11_rename_68 : decode cX11_rename 68 = .ok (.ior, 1) := by decide +kernel
theorem dX11_rename_69 : decode cX11_rename 69 = .ok (.istore 5, 2) := by decide +kernel
theorem dX11_rename_71 : decode cX11_rename 71 = .ok (.aload_n 0, 1) := by decide +kernel
theorem dX11_rename_72 : decode cX11_rename 72 = .ok (.getfield 7, 3) := by decide +kernel
theorem dX11_rename_75 : decode cX11_rename 75 = .ok (.iload 4, 2) := by decide +kernel
theorem dX11_rename_77 : decode cX11_rename 77 = .ok (.dup2, 1) := by decide +kernel
theorem dX11_rename_78 : decode cX11_rename 78 = .ok (.iaload, 1) := by decide +kernel
theorem dX11_rename_79 : decode cX11_rename 79 = .ok (.iload 5, 2) := by decide +kernel
theorem dX11_rename_81 : decode cX11_rename 81 = .ok (.ixor, 1) := by decide +kernel
theorem dX11_rename_82 : decode cX11_rename 82 = .ok (.iastore, 1) := by decide +kernel
theorem dX11_rename_83 : decode cX11_rename 83 = .ok (.iinc 4 1, 3) := by decide +kernel
theorem dX11_rename_86 : decode cX11_rename 86 = .ok (.goto (-62), 3) := by decide +kernel
theorem dX11_rename_89 : decode cX11_rename 89 = .ok (.aload_n 0, 1) := by decide +kernel
theorem dX11_rename_90 : decode cX11_rename 90 = .ok (.getfield 7, 3) := by decide +kernel
theorem dX11_rename_93 : decode cX11_rename 93 = .ok (.iload_n 1, 1) := by decide +kernel
theorem dX11_rename_94 : decode cX11_rename 94 = .ok (.iaload, 1) := by decide +kernel
theorem dX11_rename_95 : decode cX11_rename 95 = .ok (.istore 4, 2) := by decide +kernel
theorem dX11_rename_97 : decode cX11_rename 97 = .ok (.aload_n 0, 1) := by decide +kernel
theorem dX11_rename_98 : decode cX11_rename 98 = .ok (.getfield 7, 3) := by decide +kernel
theorem dX11_rename_101 : decode cX11_rename 101 = .ok (.iload_n 1, 1) := by decide +kernel
theorem dX11_rename_102 : decode cX11_rename 102 = .ok (.aload_n 0, 1) := by decide +kernel
theorem dX11_rename_103 : decode cX11_rename 103 = .ok (.getfield 7, 3) := by decide +kernel
theorem dX11_rename_106 : decode cX11_rename 106 = .ok (.iload_n 2, 1) := by decide +kernel
theorem dX11_rename_107 : decode cX11_rename 107 = .ok (.iaload, 1) := by decide +kernel
theorem dX11_rename_108 : decode cX11_rename 108 = .ok (.iastore, 1) := by decide +kernel
theorem dX11_rename_109 : decode cX11_rename 109 = .ok (.aload_n 0, 1) := by decide +kernel
theorem dX11_rename_110 : decode cX11_rename 110 = .ok (.getfield 7, 3) := by decide +kernel
theorem dX11_rename_113 : decode cX11_rename 113 = .ok (.iload_n 2, 1) := by decide +kernel
theorem dX11_rename_114 : decode cX11_rename 114 = .ok (.iload 4, 2) := by decide +kernel
theorem dX11_rename_116 : decode cX11_rename 116 = .ok (.iastore, 1) := by decide +kernel
theorem dX11_rename_117 : decode cX11_rename 117 = .ok (.aload_n 0, 1) := by decide +kernel
theorem dX11_rename_118 : decode cX11_rename 118 = .ok (.iconst 0, 1) := by decide +kernel
theorem dX11_rename_119 : decode cX11_rename 119 = .ok (.invokevirtual 284, 3) := by decide +kernel
theorem dX11_rename_122 : decode cX11_rename 122 = .ok (.ireturn, 1) := by decide +kernel
def fp_X11_rename_L24 (k89 : zM → Option (Int32 × zM)) (v0 : Nat) (v1 : Int32) (v2 : Int32) : Nat → Int32 → zM → Option (Int32 × zM)
  | 0, _, _ => none
  | n + 1, v4, M =>
    (zgI 9 M v0 0).bind fun (y3 : Int32) =>
    if v4 ≥ y3 then (
      k89 M)
    else (
      (zgR 9 M v0 2).bind fun (y4 : Nat) =>
      (zlI 100 M y4 v4).bind fun (y5 : Int32) =>
      (fp_X11_has y5 v1).bind fun (y6 : Int32) =>
      (zgR 9 M v0 2).bind fun (y7 : Nat) =>
      (zlI 100 M y7 v4).bind fun (y8 : Int32) =>
      (fp_X11_has y8 v2).bind fun (y9 : Int32) =>
      zjn (fun (s10 : Int32) =>
          (zgR 9 M v0 2).bind fun (y11 : Nat) =>
          (zlI 100 M y11 v4).bind fun (y12 : Int32) =>
          (ztI M y11 v4 (y12 ^^^ s10)).bind fun (M13 : zM) =>
          fp_X11_rename_L24 k89 v0 v1 v2 n (v4 + 1) M13)
        (fun j69 =>
          if y6 ≠ y9 then (
            j69 ((1 <<< (v1 &&& 31)) ||| (1 <<< (v2 &&& 31))))
          else (
            j69 0)))
def fp_X11_rename (v0 : Nat) (v1 : Int32) (v2 : Int32) (M : zM) : Option (Int32 × zM) :=
  zthis 9 M v0 (
    (fp_X11_wrongTwo v0 v1 v2 M).bind fun (y1 : Int32) =>
    if y1 ≤ 0 then (
      (fp_X11_begins v0 M).bind fun (M2 : zM) =>
      fp_X11_rename_L24
        (fun M14 =>
          (zgR 9 M14 v0 2).bind fun (y15 : Nat) =>
          (zlI 100 M14 y15 v1).bind fun (y16 : Int32) =>
          (zgR 9 M14 v0 2).bind fun (y17 : Nat) =>
          (zgR 9 M14 v0 2).bind fun (y18 : Nat) =>
          (zlI 100 M14 y18 v2).bind fun (y19 : Int32) =>
          (ztI M14 y17 v1 y19).bind fun (M20 : zM) =>
          (zgR 9 M20 v0 2).bind fun (y21 : Nat) =>
          (ztI M20 y21 v2 y16).bind fun (M22 : zM) =>
          (fp_X11_isSo v0 0 M22).bind fun p25 => zpp p25 fun (y23 : Int32) (M24 : zM) =>
          (zb y23).bind fun (r : Int32) => some (r, M24)) v0 v1 v2 FU 0 M2)
    else (
      (fp_X11_isSo v0 y1 M).bind fun p28 => zpp p28 fun (y26 : Int32) (M27 : zM) =>
      (zb y26).bind fun (r : Int32) => some (r, M27)))
set_option maxHeartbeats 4000000 in
set_option maxRecDepth 100000 in
theorem th_X11_rename {v0 : Nat} {v1 : Int32} {v2 : Int32} {M : zM} {x0 : Int32 × zM} (h : fp_X11_rename v0 v1 v2 M = some x0) : v0 < zS M ∧ kd v0 = 9 := by
  unfold fp_X11_rename at h
  exact zthis_of h
set_option maxHeartbeats 4000000 in
set_option maxRecDepth 100000 in
theorem w_X11_rename_L24 (E : zEnv) (hE : zEok E) (d : Nat) (hd : 3 ≤ d) (M0 : zM) (x0 : Int32 × zM) (v0 : Nat) (v1 : Int32) (v2 : Int32) (k89 : zM → Option (Int32 × zM)) (hk89 : ∀ (M : zM), zSy E mu_X11_rename d M0 (some (.int x0.1), x0.2) x0 (k89 M) 89 [(0, .ref (E.2.2.2.1 + v0)), (1, .int v1), (2, .int v2)] [] M) : ∀ (n : Nat) (v4 : Int32) (M : zM), zSy E mu_X11_rename d M0 (some (.int x0.1), x0.2) x0 (fp_X11_rename_L24 k89 v0 v1 v2 n v4 M) 24 [(0, .ref (E.2.2.2.1 + v0)), (1, .int v1), (2, .int v2), (4, .int v4)] [] M := by
  intro n
  induction n with
  | zero =>
    intro v4 M
    rw [fp_X11_rename_L24]
    exact zs_none
  | succ n ih =>
    intro v4 M
    rw [fp_X11_rename_L24]
    refine zs_iload dX11_rename_24 3 rfl ?_
    refine zs_aload_n dX11_rename_26 rfl 0 rfl ?_
    refine zs_getI dX11_rename_27 fl_X11_101 rfl (fun y3 => ?_)
    refine zs_icmp_ge dX11_rename_30 rfl ?_ ?_
    · refine zs_sub (loc' := [(0, .ref (E.2.2.2.1 + v0)), (1, .int v1), (2, .int v2)]) [0, 1, 2] rfl ?_
      exact hk89 M
    refine zs_aload_n dX11_rename_33 rfl 0 rfl ?_
    refine zs_getR dX11_rename_34 fl_X11_7 rfl (fun y4 => ?_)
    refine zs_iload dX11_rename_37 3 rfl ?_
    refine zs_ldI dX11_rename_39 (fun y5 => ?_)
    refine zs_iload_n dX11_rename_40 rfl 1 rfl ?_
    refine zs_invSPI (rest := []) [.int y5, .int v1] dX11_rename_41 lk_X11_97 rfl (zd1 rfl hd) rfl (Nat.le_of_ble_eq_true rfl) (ct_X11_has E hE _ (zdl rfl hd) _ _ _) (fun y6 => ?_)
    refine zs_aload_n dX11_rename_44 rfl 0 rfl ?_
    refine zs_getR dX11_rename_45 fl_X11_7 rfl (fun y7 => ?_)
    refine zs_iload dX11_rename_48 3 rfl ?_
    refine zs_ldI dX11_rename_50 (fun y8 => ?_)
    refine zs_iload_n dX11_rename_51 rfl 2 rfl ?_
    refine zs_invSPI (rest := [.int y6]) [.int y8, .int v2] dX11_rename_52 lk_X11_97 rfl (zd1 rfl hd) rfl (Nat.le_of_ble_eq_true rfl) (ct_X11_has E hE _ (zdl rfl hd) _ _ _) (fun y9 => ?_)
    refine zs_jn (fun j69 => ∀ (s10 : Int32), zSy E mu_X11_rename d M0 (some (.int x0.1), x0.2) x0 (j69 s10) 69 [(0, .ref (E.2.2.2.1 + v0)), (1, .int v1), (2, .int v2), (4, .int v4)] [.int s10] M) (fun s10 => ?_) (fun j69 hj69 => ?_)
    · refine zs_istore (loc' := [(0, .ref (E.2.2.2.1 + v0)), (1, .int v1), (2, .int v2), (4, .int v4), (5, .int s10)]) dX11_rename_69 (Nat.le_of_ble_eq_true rfl) [1, 2, 3, 4, 0] rfl ?_
      refine zs_aload_n dX11_rename_71 rfl 0 rfl ?_
      refine zs_getR dX11_rename_72 fl_X11_7 rfl (fun y11 => ?_)
      refine zs_iload dX11_rename_75 3 rfl ?_
      refine zs_dup2 dX11_rename_77 rfl rfl ?_
      refine zs_ldI dX11_rename_78 (fun y12 => ?_)
      refine zs_iload dX11_rename_79 4 rfl ?_
      refine zs_ixor dX11_rename_81 ?_
      refine zs_stI dX11_rename_82 (fun M13 => ?_)
      refine zs_iinc (v := (v4 + 1)) (loc' := [(0, .ref (E.2.2.2.1 + v0)), (1, .int v1), (2, .int v2), (4, .int (v4 + 1))]) dX11_rename_83 3 rfl (by rfl) (Nat.le_of_ble_eq_true rfl) [1, 2, 3, 0] rfl ?_
      refine zs_goto dX11_rename_86 rfl ?_
      exact ih (v4 + 1) M13
    refine zs_icmp_ne dX11_rename_55 rfl ?_ ?_
    · refine zs_iconst (v := 1) dX11_rename_62 ciconst_1 ?_
      refine zs_iload_n dX11_rename_63 rfl 1 rfl ?_
      refine zs_ishl dX11_rename_64 ?_
      refine zs_iconst (v := 1) dX11_rename_65 ciconst_1 ?_
      refine zs_iload_n dX11_rename_66 rfl 2 rfl ?_
      refine zs_ishl dX11_rename_67 ?_
      refine zs_ior dX11_rename_68 ?_
      exact hj69 ((1 <<< (v1 &&& 31)) ||| (1 <<< (v2 &&& 31)))
    refine zs_iconst (v := 0) dX11_rename_58 ciconst_0 ?_
    refine zs_goto dX11_rename_59 rfl ?_
    exact hj69 0
set_option maxHeartbeats 4000000 in
set_option maxRecDepth 100000 in
theorem ct_X11_rename (E : zEnv) (hE : zEok E) (d : Nat) (hd : 3 ≤ d) (v0 : Nat) (v1 : Int32) (v2 : Int32) (M : zM) (x0 : Int32 × zM) (hx : fp_X11_rename v0 v1 v2 M = some x0) : zCt E mu_X11_rename d [.ref (E.2.2.2.1 + v0), .int v1, .int v2] M (some (.int x0.1), x0.2) := by
  refine zCt_of (μ := mu_X11_rename) (t := fp_X11_rename v0 v1 v2 M) rfl rfl (Nat.le_of_ble_eq_true rfl) hx ?_
  change zSy E mu_X11_rename d M (some (.int x0.1), x0.2) x0 (fp_X11_rename v0 v1 v2 M) 0 [(0, .ref (E.2.2.2.1 + v0)), (1, .int v1), (2, .int v2)] [] M
  unfold fp_X11_rename
  refine zs_this (fun hth => ?_)
  refine zs_aload_n dX11_rename_0 rfl 0 rfl ?_
  refine zs_iload_n dX11_rename_1 rfl 1 rfl ?_
  refine zs_iload_n dX11_rename_2 rfl 2 rfl ?_
  refine zs_invVPI (rest := []) [.int v1, .int v2] dX11_rename_3 lk_X11_281 rfl (fun _ h => th_X11_wrongTwo h) (zd1 rfl hd) rfl (Nat.le_of_ble_eq_true rfl) (ct_X11_wrongTwo E hE _ (zdl rfl hd) _ _ _ _) (fun y1 => ?_)
  refine zs_istore_n (loc' := [(0, .ref (E.2.2.2.1 + v0)), (1, .int v1), (2, .int v2), (3, .int y1)]) dX11_rename_6 rfl (Nat.le_of_ble_eq_true rfl) [1, 2, 3, 0] rfl ?_
  refine zs_iload_n dX11_rename_7 rfl 3 rfl ?_
  refine zs_if_le dX11_rename_8 rfl ?_ ?_
  · refine zs_aload_n dX11_rename_17 rfl 0 rfl ?_
    refine zs_invVWV (rest := []) [] dX11_rename_18 lk_X11_275 rfl (fun _ h => th_X11_begins h) (zd1 rfl hd) rfl (Nat.le_of_ble_eq_true rfl) (ct_X11_begins E hE _ (zdl rfl hd) _ _) (fun M2 => ?_)
    refine zs_iconst (v := 0) dX11_rename_21 ciconst_0 ?_
    refine zs_istore (loc' := [(0, .ref (E.2.2.2.1 + v0)), (1, .int v1), (2, .int v2), (4, .int 0)]) dX11_rename_22 (Nat.le_of_ble_eq_true rfl) [1, 2, 3, 0] rfl ?_
    refine w_X11_rename_L24 E hE d hd _ _ _ _ _ _ (fun M14 => ?_) _ _ _
    refine zs_aload_n dX11_rename_89 rfl 0 rfl ?_
    refine zs_getR dX11_rename_90 fl_X11_7 rfl (fun y15 => ?_)
    refine zs_iload_n dX11_rename_93 rfl 1 rfl ?_
    refine zs_ldI dX11_rename_94 (fun y16 => ?_)
    refine zs_istore (loc' := [(0, .ref (E.2.2.2.1 + v0)), (1, .int v1), (2, .int v2), (4, .int y16)]) dX11_rename_95 (Nat.le_of_ble_eq_true rfl) [1, 2, 3, 0] rfl ?_
    refine zs_aload_n dX11_rename_97 rfl 0 rfl ?_
    refine zs_getR dX11_rename_98 fl_X11_7 rfl (fun y17 => ?_)
    refine zs_iload_n dX11_rename_101 rfl 1 rfl ?_
    refine zs_aload_n dX11_rename_102 rfl 0 rfl ?_
    refine zs_getR dX11_rename_103 fl_X11_7 rfl (fun y18 => ?_)
    refine zs_iload_n dX11_rename_106 rfl 2 rfl ?_
    refine zs_ldI dX11_rename_107 (fun y19 => ?_)
    refine zs_stI dX11_rename_108 (fun M20 => ?_)
    refine zs_aload_n dX11_rename_109 rfl 0 rfl ?_
    refine zs_getR dX11_rename_110 fl_X11_7 rfl (fun y21 => ?_)
    refine zs_iload_n dX11_rename_113 rfl 2 rfl ?_
    refine zs_iload dX11_rename_114 3 rfl ?_
    refine zs_stI dX11_rename_116 (fun M22 => ?_)
    refine zs_aload_n dX11_rename_117 rfl 0 rfl ?_
    refine zs_iconst (v := 0) dX11_rename_118 ciconst_0 ?_
    refine zs_invVWI (rest := []) [.int 0] dX11_rename_119 lk_X11_284 rfl (fun _ h => th_X11_isSo h) (zd1 rfl hd) rfl (Nat.le_of_ble_eq_true rfl) (ct_X11_isSo E hE _ (zdl rfl hd) _ _ _) (fun y23 M24 => ?_)
    exact zs_zretW dX11_rename_122 rfl
  refine zs_aload_n dX11_rename_11 rfl 0 rfl ?_
  refine zs_iload_n dX11_rename_12 rfl 3 rfl ?_
  refine zs_invVWI (rest := []) [.int y1] dX11_rename_13 lk_X11_284 rfl (fun _ h => th_X11_isSo h) (zd1 rfl hd) rfl (Nat.le_of_ble_eq_true rfl) (ct_X11_isSo E hE _ (zdl rfl hd) _ _ _) (fun y26 M27 => ?_)
  exact zs_zretW dX11_rename_16 rfl
theorem dX11_undo_0 : decode cX11_undo 0 = .ok (.aload_n 0, 1) := by decide +kernel
theorem dX11_undo_1 : decode cX11_undo 1 = .ok (.getfield 245, 3) := by decide +kernel
theorem dX11_undo_4 : decode cX11_undo 4 = .ok (.ifCond .ne 10, 3) := by decide +kernel
theorem dX11_undo_7 : decode cX11_undo 7 = .ok (.aload_n 0, 1) := by decide +kernel
theorem dX11_undo_8 : decode cX11_undo 8 = .ok (.bipush 6, 2) := by decide +kernel
theorem dX11_undo_10 : decode cX11_undo 10 = .ok (.invokevirtual 226, 3) := by decide +kernel
theorem dX11_undo_13 : decode cX11_undo 13 = .ok (.ireturn, 1) := by decide +kernel
theorem dX11_undo_14 : decode cX11_undo 14 = .ok (.aload_n 0, 1) := by decide +kernel
theorem dX11_undo_15 : decode cX11_undo 15 = .ok (.dup, 1) := by decide +kernel
theorem dX11_undo_16 : decode cX11_undo 16 = .ok (.getfield 245, 3) := by decide +kernel
theorem dX11_undo_19 : decode cX11_undo 19 = .ok (.iconst 1, 1) := by decide +kernel
theorem dX11_undo_20 : decode cX11_undo 20 = .ok (.isub, 1) := by decide +kernel
theorem dX11_undo_21 : decode cX11_undo 21 = .ok (.putfield 245, 3) := by decide +kernel
theorem dX11_undo_24 : decode cX11_undo 24 = .ok (.aload_n 0, 1) := by decide +kernel
theorem dX11_undo_25 : decode cX11_undo 25 = .ok (.aload_n 0, 1) := by decide +kernel
theorem dX11_undo_26 : decode cX11_undo 26 = .ok (.getfield 36, 3) := by decide +kernel
theorem dX11_undo_29 : decode cX11_undo 29 = .ok (.bipush 8, 2) := by decide +kernel
theorem dX11_undo_31 : decode cX11_undo 31 = .ok (.aload_n 0, 1) := by decide +kernel
theorem dX11_undo_32 : decode cX11_undo 32 = .ok (.getfield 245, 3) := by decide +kernel
theorem dX11_undo_35 : decode cX11_undo 35 = .ok (.imul, 1) := by decide +kernel
theorem dX11_undo_36 : decode cX11_undo 36 = .ok (.invokevirtual 236, 3) := by decide +kernel
theorem dX11_undo_39 : decode cX11_undo 39 = .ok (.aload_n 0, 1) := by decide +kernel
theorem dX11_undo_40 : decode cX11_undo 40 = .ok (.aload_n 0, 1) := by decide +kernel
theorem dX11_undo_41 : decode cX11_undo 41 = .ok (.getfield 245, 3) := by decide +kernel
theorem dX11_undo_44 : decode cX11_undo 44 = .ok (.invokevirtual 242, 3) := by decide +kernel
theorem dX11_undo_47 : decode cX11_undo 47 = .ok (.ireturn, 1) := by decide +kernel
def fp_X11_undo (v0 : Nat) (M : zM) : Option (Int32 × zM) :=
  zthis 9 M v0 (
    (zgI 9 M v0 20).bind fun (y1 : Int32) =>
    if y1 ≠ 0 then (
      (zgI 9 M v0 20).bind fun (y2 : Int32) =>
      (zpI 9 M v0 20 (y2 - 1)).bind fun (M3 : zM) =>
      (zgR 9 M3 v0 16).bind fun (y4 : Nat) =>
      (zgI 9 M3 v0 20).bind fun (y5 : Int32) =>
      (fp_X11_brings v0 y4 (8 * y5) M3).bind fun (M6 : zM) =>
      (zgI 9 M6 v0 20).bind fun (y7 : Int32) =>
      (fp_X11_gives v0 y7 M6).bind fun p10 => zpp p10 fun (y8 : Int32) (M9 : zM) =>
      some (y8, M9))
    else (
      (fp_X11_refuse v0 6 M).bind fun p13 => zpp p13 fun (y11 : Int32) (M12 : zM) =>
      some (y11, M12)))
set_option maxHeartbeats 4000000 in
set_option maxRecDepth 100000 in
theorem th_X11_undo {v0 : Nat} {M : zM} {x0 : Int32 × zM} (h : fp_X11_undo v0 M = some x0) : v0 < zS M ∧ kd v0 = 9 := by
  unfold fp_X11_undo at h
  exact zthis_of h
set_option maxHeartbeats 4000000 in
set_option maxRecDepth 100000 in
theorem ct_X11_undo (E : zEnv) (hE : zEok E) (d : Nat) (hd : 2 ≤ d) (v0 : Nat) (M : zM) (x0 : Int32 × zM) (hx : fp_X11_undo v0 M = some x0) : zCt E mu_X11_undo d [.ref (E.2.2.2.1 + v0)] M (some (.int x0.1), x0.2) := by
  refine zCt_of (μ := mu_X11_undo) (t := fp_X11_undo v0 M) rfl rfl (Nat.le_of_ble_eq_true rfl) hx ?_
  change zSy E mu_X11_undo d M (some (.int x0.1), x0.2) x0 (fp_X11_undo v0 M) 0 [(0, .ref (E.2.2.2.1 + v0))] [] M
  unfold fp_X11_undo
  refine zs_this (fun hth => ?_)
  refine zs_aload_n dX11_undo_0 rfl 0 rfl ?_
  refine zs_getI dX11_undo_1 fl_X11_245 rfl (fun y1 => ?_)
  refine zs_if_ne dX11_undo_4 rfl ?_ ?_
  · refine zs_aload_n dX11_undo_14 rfl 0 rfl ?_
    refine zs_dup dX11_undo_15 rfl ?_
    refine zs_getI dX11_undo_16 fl_X11_245 rfl (fun y2 => ?_)
    refine zs_iconst (v := 1) dX11_undo_19 ciconst_1 ?_
    refine zs_isub dX11_undo_20 ?_
    refine zs_putI dX11_undo_21 fl_X11_245 ft_X11 rfl rfl rfl rfl rfl (fun M3 => ?_)
    refine zs_aload_n dX11_undo_24 rfl 0 rfl ?_
    refine zs_aload_n dX11_undo_25 rfl 0 rfl ?_
    refine zs_getR dX11_undo_26 fl_X11_36 rfl (fun y4 => ?_)
    refine zs_bipush (v := 8) dX11_undo_29 cbipush_8 ?_
    refine zs_aload_n dX11_undo_31 rfl 0 rfl ?_
    refine zs_getI dX11_undo_32 fl_X11_245 rfl (fun y5 => ?_)
    refine zs_imul dX11_undo_35 ?_
    refine zs_invVWV (rest := []) [.ref (E.2.2.2.1 + y4), .int (8 * y5)] dX11_undo_36 lk_X11_236 rfl (fun _ h => th_X11_brings h) (zd1 rfl hd) rfl (Nat.le_of_ble_eq_true rfl) (ct_X11_brings E hE _ (zdl rfl hd) _ _ _ _) (fun M6 => ?_)
    refine zs_aload_n dX11_undo_39 rfl 0 rfl ?_
    refine zs_aload_n dX11_undo_40 rfl 0 rfl ?_
    refine zs_getI dX11_undo_41 fl_X11_245 rfl (fun y7 => ?_)
    refine zs_invVWI (rest := []) [.int y7] dX11_undo_44 lk_X11_242 rfl (fun _ h => th_X11_gives h) (zd1 rfl hd) rfl (Nat.le_of_ble_eq_true rfl) (ct_X11_gives E hE _ (zdl rfl hd) _ _ _) (fun y8 M9 => ?_)
    exact zs_iretW dX11_undo_47 rfl
  refine zs_aload_n dX11_undo_7 rfl 0 rfl ?_
  refine zs_bipush (v := 6) dX11_undo_8 cbipush_6 ?_
  refine zs_invVWI (rest := []) [.int 6] dX11_undo_10 lk_X11_226 rfl (fun _ h => th_X11_refuse h) (zd1 rfl hd) rfl (Nat.le_of_ble_eq_true rfl) (ct_X11_refuse E hE _ (zdl rfl hd) _ _ _) (fun y11 M12 => ?_)
  exact zs_iretW dX11_undo_13 rfl
theorem dX11_image_0 : decode cX11_image 0 = .ok (.iload_n 1, 1) := by decide +kernel
theorem dX11_image_1 : decode cX11_image 1 = .ok (.iconst 0, 1) := by decide +kernel
theorem dX11_image_2 : decode cX11_image 2 = .ok (.iconst 2, 1) := by decide +kernel
theorem dX11_image_3 : decode cX11_image 3 = .ok (.invokestatic 195, 3) := by decide +kernel
theorem dX11_image_6 : decode cX11_image 6 = .ok (.ifCond .ne 9, 3) := by decide +kernel
theorem dX11_image_9 : decode cX11_image 9 = .ok (.aload_n 0, 1) := by decide +kernel
theorem dX11_image_10 : decode cX11_image 10 = .ok (.iconst 1, 1) := by decide +kernel
theorem dX11_image_11 : decode cX11_image 11 = .ok (.invokevirtual 284, 3) := by decide +kernel
theorem dX11_image_14 : decode cX11_image 14 = .ok (.ireturn, 1) := by decide +kernel
theorem dX11_image_15 : decode cX11_image 15 = .ok (.aload_n 0, 1) := by decide +kernel
theorem dX11_image_16 : decode cX11_image 16 = .ok (.aload_n 0, 1) := by decide +kernel
theorem dX11_image_17 : decode cX11_image 17 = .ok (.getfield 42, 3) := by decide +kernel
theorem dX11_image_20 : decode cX11_image 20 = .ok (.bipush 8, 2) := by decide +kernel
theorem dX11_image_22 : decode cX11_image 22 = .ok (.iload_n 1, 1) := by decide +kernel
theorem dX11_image_23 : decode cX11_image 23 = .ok (.imul, 1) := by decide +kernel
theorem dX11_image_24 : decode cX11_image 24 = .ok (.invokevirtual 229, 3) := by decide +kernel
theorem dX11_image_27 : decode cX11_image 27 = .ok (.aload_n 0, 1) := by decide +kernel
theorem dX11_image_28 : decode cX11_image 28 = .ok (.getfield 45, 3) := by decide +kernel
theorem dX11_image_31 : decode cX11_image 31 = .ok (.iload_n 1, 1) := by decide +kernel
theorem dX11_image_32 : decode cX11_image 32 = .ok (.iconst 1, 1) := by decide +kernel
theorem dX11_image_33 : decode cX11_image 33 = .ok (.bastore, 1) := by decide +kernel
theorem dX11_image_34 : decode cX11_image 34 = .ok (.aload_n 0, 1) := by decide +kernel
theorem dX11_image_35 : decode cX11_image 35 = .ok (.iconst 0, 1) := by decide +kernel
theorem dX11_image_36 : decode cX11_image 36 = .ok (.invokevirtual 284, 3) := by decide +kernel
theorem dX11_image_39 : decode cX11_image 39 = .ok (.ireturn, 1) := by decide +kernel
def fp_X11_image (v0 : Nat) (v1 : Int32) (M : zM) : Option (Int32 × zM) :=
  zthis 9 M v0 (
    (fp_X11_isFrom v1 0 2).bind fun (y1 : Int32) =>
    if y1 ≠ 0 then (
      (zgR 9 M v0 18).bind fun (y2 : Nat) =>
      (fp_X11_puts v0 y2 (8 * v1) M).bind fun (M3 : zM) =>
      (zgR 9 M3 v0 19).bind fun (y4 : Nat) =>
      (ztZ M3 y4 v1 1).bind fun (M5 : zM) =>
      (fp_X11_isSo v0 0 M5).bind fun p8 => zpp p8 fun (y6 : Int32) (M7 : zM) =>
      (zb y6).bind fun (r : Int32) => some (r, M7))
    else (
      (fp_X11_isSo v0 1 M).bind fun p11 => zpp p11 fun (y9 : Int32) (M10 : zM) =>
      (zb y9).bind fun (r : Int32) => some (r, M10)))
set_option maxHeartbeats 4000000 in
set_option maxRecDepth 100000 in
theorem th_X11_image {v0 : Nat} {v1 : Int32} {M : zM} {x0 : Int32 × zM} (h : fp_X11_image v0 v1 M = some x0) : v0 < zS M ∧ kd v0 = 9 := by
  unfold fp_X11_image at h
  exact zthis_of h
set_option maxHeartbeats 4000000 in
set_option maxRecDepth 100000 in
theorem ct_X11_image (E : zEnv) (hE : zEok E) (d : Nat) (hd : 2 ≤ d) (v0 : Nat) (v1 : Int32) (M : zM) (x0 : Int32 × zM) (hx : fp_X11_image v0 v1 M = some x0) : zCt E mu_X11_image d [.ref (E.2.2.2.1 + v0), .int v1] M (some (.int x0.1), x0.2) := by
  refine zCt_of (μ := mu_X11_image) (t := fp_X11_image v0 v1 M) rfl rfl (Nat.le_of_ble_eq_true rfl) hx ?_
  change zSy E mu_X11_image d M (some (.int x0.1), x0.2) x0 (fp_X11_image v0 v1 M) 0 [(0, .ref (E.2.2.2.1 + v0)), (1, .int v1)] [] M
  unfold fp_X11_image
  refine zs_this (fun hth => ?_)
  refine zs_iload_n dX11_image_0 rfl 1 rfl ?_
  refine zs_iconst (v := 0) dX11_image_1 ciconst_0 ?_
  refine zs_iconst (v := 2) dX11_image_2 ciconst_2 ?_
  refine zs_invSPI (rest := []) [.int v1, .int 0, .int 2] dX11_image_3 lk_X11_195 rfl (zd1 rfl hd) rfl (Nat.le_of_ble_eq_true rfl) (ct_X11_isFrom E hE _ (zdl rfl hd) _ _ _ _) (fun y1 => ?_)
  refine zs_if_ne dX11_image_6 rfl ?_ ?_
  · refine zs_aload_n dX11_image_15 rfl 0 rfl ?_
    refine zs_aload_n dX11_image_16 rfl 0 rfl ?_
    refine zs_getR dX11_image_17 fl_X11_42 rfl (fun y2 => ?_)
    refine zs_bipush (v := 8) dX11_image_20 cbipush_8 ?_
    refine zs_iload_n dX11_image_22 rfl 1 rfl ?_
    refine zs_imul dX11_image_23 ?_
    refine zs_invVWV (rest := []) [.ref (E.2.2.2.1 + y2), .int (8 * v1)] dX11_image_24 lk_X11_229 rfl (fun _ h => th_X11_puts h) (zd1 rfl hd) rfl (Nat.le_of_ble_eq_true rfl) (ct_X11_puts E hE _ (zdl rfl hd) _ _ _ _) (fun M3 => ?_)
    refine zs_aload_n dX11_image_27 rfl 0 rfl ?_
    refine zs_getR dX11_image_28 fl_X11_45 rfl (fun y4 => ?_)
    refine zs_iload_n dX11_image_31 rfl 1 rfl ?_
    refine zs_iconst (v := 1) dX11_image_32 ciconst_1 ?_
    refine zs_stZ dX11_image_33 (fun M5 => ?_)
    refine zs_aload_n dX11_image_34 rfl 0 rfl ?_
    refine zs_iconst (v := 0) dX11_image_35 ciconst_0 ?_
    refine zs_invVWI (rest := []) [.int 0] dX11_image_36 lk_X11_284 rfl (fun _ h => th_X11_isSo h) (zd1 rfl hd) rfl (Nat.le_of_ble_eq_true rfl) (ct_X11_isSo E hE _ (zdl rfl hd) _ _ _) (fun y6 M7 => ?_)
    exact zs_zretW dX11_image_39 rfl
  refine zs_aload_n dX11_image_9 rfl 0 rfl ?_
  refine zs_iconst (v := 1) dX11_image_10 ciconst_1 ?_
  refine zs_invVWI (rest := []) [.int 1] dX11_image_11 lk_X11_284 rfl (fun _ h => th_X11_isSo h) (zd1 rfl hd) rfl (Nat.le_of_ble_eq_true rfl) (ct_X11_isSo E hE _ (zdl rfl hd) _ _ _) (fun y9 M10 => ?_)
  exact zs_zretW dX11_image_14 rfl
theorem dX11_wrongImage_0 : decode cX11_wrongImage 0 = .ok (.iload_n 1, 1) := by decide +kernel
theorem dX11_wrongImage_1 : decode cX11_wrongImage 1 = .ok (.iconst 0, 1) := by decide +kernel
theorem dX11_wrongImage_2 : decode cX11_wrongImage 2 = .ok (.iconst 2, 1) := by decide +kernel
theorem dX11_wrongImage_3 : decode cX11_wrongImage 3 = .ok (.invokestatic 195, 3) := by decide +kernel
theorem dX11_wrongImage_6 : decode cX11_wrongImage 6 = .ok (.ifCond .ne 7, 3) := by decide +kernel
theorem dX11_wrongImage_9 : decode cX11_wrongImage 9 = .ok (.iconst 1, 1) := by decide +kernel
theorem dX11_wrongImage_10 : decode cX11_wrongImage 10 = .ok (.goto 18, 3) := by decide +kernel
theorem dX11_wrongImage_13 : decode cX11_wrongImage 13 = .ok (.aload_n 0, 1) := by decide +kernel
theorem dX11_wrongImage_14 : decode cX11_wrongImage 14 = .ok (.getfield 45, 3) := by decide +kernel
theorem dX11_wrongImage_17 : decode cX11_wrongImage 17 = .ok (.iload_n 1, 1) := by decide +kernel
theorem dX11_wrongImage_18 : decode cX11_wrongImage 18 = .ok (.baload, 1) := by decide +kernel
theorem dX11_wrongImage_19 : decode cX11_wrongImage 19 = .ok (.ifCond .eq 7, 3) := by decide +kernel
theorem dX11_wrongImage_22 : decode cX11_wrongImage 22 = .ok (.iconst 0, 1) := by decide +kernel
theorem dX11_wrongImage_23 : decode cX11_wrongImage 23 = .ok (.goto 5, 3) := by decide +kernel
theorem dX11_wrongImage_26 : decode cX11_wrongImage 26 = .ok (.bipush 8, 2) := by decide +kernel
theorem dX11_wrongImage_28 : decode cX11_wrongImage 28 = .ok (.ireturn, 1) := by decide +kernel
def fp_X11_wrongImage (v0 : Nat) (v1 : Int32) (M : zM) : Option (Int32) :=
  zthis 9 M v0 (
    (fp_X11_isFrom v1 0 2).bind fun (y1 : Int32) =>
    if y1 ≠ 0 then (
      (zgR 9 M v0 19).bind fun (y2 : Nat) =>
      (zlI 103 M y2 v1).bind fun (y3 : Int32) =>
      if y3 = 0 then (
        some 8)
      else (
        some 0))
    else (
      some 1))
set_option maxHeartbeats 4000000 in
set_option maxRecDepth 100000 in
theorem th_X11_wrongImage {v0 : Nat} {v1 : Int32} {M : zM} {x0 : Int32} (h : fp_X11_wrongImage v0 v1 M = some x0) : v0 < zS M ∧ kd v0 = 9 := by
  unfold fp_X11_wrongImage at h
  exact zthis_of h
set_option maxHeartbeats 4000000 in
set_option maxRecDepth 100000 in
theorem ct_X11_wrongImage (E : zEnv) (hE : zEok E) (d : Nat) (hd : 2 ≤ d) (v0 : Nat) (v1 : Int32) (M : zM) (x0 : Int32) (hx : fp_X11_wrongImage v0 v1 M = some x0) : zCt E mu_X11_wrongImage d [.ref (E.2.2.2.1 + v0), .int v1] M (some (.int x0), M) := by
  refine zCt_of (μ := mu_X11_wrongImage) (t := fp_X11_wrongImage v0 v1 M) rfl rfl (Nat.le_of_ble_eq_true rfl) hx ?_
  change zSy E mu_X11_wrongImage d M (some (.int x0), M) x0 (fp_X11_wrongImage v0 v1 M) 0 [(0, .ref (E.2.2.2.1 + v0)), (1, .int v1)] [] M
  unfold fp_X11_wrongImage
  refine zs_this (fun hth => ?_)
  refine zs_iload_n dX11_wrongImage_0 rfl 1 rfl ?_
  refine zs_iconst (v := 0) dX11_wrongImage_1 ciconst_0 ?_
  refine zs_iconst (v := 2) dX11_wrongImage_2 ciconst_2 ?_
  refine zs_invSPI (rest := []) [.int v1, .int 0, .int 2] dX11_wrongImage_3 lk_X11_195 rfl (zd1 rfl hd) rfl (Nat.le_of_ble_eq_true rfl) (ct_X11_isFrom E hE _ (zdl rfl hd) _ _ _ _) (fun y1 => ?_)
  refine zs_if_ne dX11_wrongImage_6 rfl ?_ ?_
  · refine zs_aload_n dX11_wrongImage_13 rfl 0 rfl ?_
    refine zs_getR dX11_wrongImage_14 fl_X11_45 rfl (fun y2 => ?_)
    refine zs_iload_n dX11_wrongImage_17 rfl 1 rfl ?_
    refine zs_ldZ dX11_wrongImage_18 (fun y3 => ?_)
    refine zs_if_eq dX11_wrongImage_19 rfl ?_ ?_
    · refine zs_bipush (v := 8) dX11_wrongImage_26 cbipush_8 ?_
      exact zs_iretP dX11_wrongImage_28 rfl
    refine zs_iconst (v := 0) dX11_wrongImage_22 ciconst_0 ?_
    refine zs_goto dX11_wrongImage_23 rfl ?_
    exact zs_iretP dX11_wrongImage_28 rfl
  refine zs_iconst (v := 1) dX11_wrongImage_9 ciconst_1 ?_
  refine zs_goto dX11_wrongImage_10 rfl ?_
  exact zs_iretP dX11_wrongImage_28 rfl
theorem dX11_like_0 : decode cX11_like 0 = .ok (.aload_n 0, 1) := by decide +kernel
theorem dX11_like_1 : decode cX11_like 1 = .ok (.iload_n 1, 1) := by decide +kernel
theorem dX11_like_2 : decode cX11_like 2 = .ok (.invokevirtual 287, 3) := by decide +kernel
theorem dX11_like_5 : decode cX11_like 5 = .ok (.istore_n 2, 1) := by decide +kernel
theorem dX11_like_6 : decode cX11_like 6 = .ok (.iload_n 2, 1) := by decide +kernel
theorem dX11_like_7 : decode cX11_like 7 = .ok (.ifCond .le 9, 3) := by decide +kernel
theorem dX11_like_10 : decode cX11_like 10 = .ok (.aload_n 0, 1) := by decide +kernel
theorem dX11_like_11 : decode cX11_like 11 = .ok (.iload_n 2, 1) := by decide +kernel
theorem dX11_like_12 : decode cX11_like 12 = .ok (.invokevirtual 226, 3) := by decide +kernel
theorem dX11_like_15 : decode cX11_like 15 = .ok (.ireturn, 1) := by decide +kernel
theorem dX11_like_16 : decode cX11_like 16 = .ok (.aload_n 0, 1) := by decide +kernel
theorem dX11_like_17 : decode cX11_like 17 = .ok (.getfield 42, 3) := by decide +kernel
theorem dX11_like_20 : decode cX11_like 20 = .ok (.bipush 8, 2) := by decide +kernel
theorem dX11_like_22 : decode cX11_like 22 = .ok (.iload_n 1, 1) := by decide +kernel
theorem dX11_like_23 : decode cX11_like 23 = .ok (.imul, 1) := by decide +kernel
theorem dX11_like_24 : decode cX11_like 24 = .ok (.iaload, 1) := by decide +kernel
theorem dX11_like_25 : decode cX11_like 25 = .ok (.aload_n 0, 1) := by decide +kernel
theorem dX11_like_26 : decode cX11_like 26 = .ok (.getfield 101, 3) := by decide +kernel
theorem dX11_like_29 : decode cX11_like 29 = .ok (.if_icmp .ne 7, 3) := by decide +kernel
theorem dX11_like_32 : decode cX11_like 32 = .ok (.iconst 1, 1) := by decide +kernel
theorem dX11_like_33 : decode cX11_like 33 = .ok (.goto 4, 3) := by decide +kernel
theorem dX11_like_36 : decode cX11_like 36 = .ok (.iconst 0, 1) := by decide +kernel
theorem dX11_like_37 : decode cX11_like 37 = .ok (.istore_n 3, 1) := by decide +kernel
theorem dX11_like_38 : decode cX11_like 38 = .ok (.iconst 0, 1) := by decide +kernel
theorem dX11_like_39 : decode cX11_like 39 = .ok (.istore 4, 2) := by decide +kernel
theorem dX11_like_41 : decode cX11_like 41 = .ok (.iload 4, 2) := by decide +kernel
theorem dX11_like_43 : decode cX11_like 43 = .ok (.aload_n 0, 1) := by decide +kernel
theorem dX11_like_44 : decode cX11_like 44 = .ok (.getfield 101, 3) := by decide +kernel
theorem dX11_like_47 : decode cX11_like 47 = .ok (.if_icmp .ge 43, 3) := by decide +kernel
theorem dX11_like_50 : decode cX11_like 50 = .ok (.iload_n 3, 1) := by decide +kernel
theorem dX11_like_51 : decode cX11_like 51 = .ok (.ifCond .eq 31, 3) := by decide +kernel
theorem dX11_like_54 : decode cX11_like 54 = .ok (.aload_n 0, 1) := by decide +kernel
theorem dX11_like_55 : decode cX11_like 55 = .ok (.getfield 42, 3) := by decide +kernel
theorem dX11_like_58 : decode cX11_like 58 = .ok (.bipush 8, 2) := by decide +kernel
theorem dX11_like_60 : decode cX11_like 60 = .ok (.iload_n 1, 1) := by decide +kernel
theorem dX11_like_61 : decode cX11_like 61 = .ok (.imul, 1) := by decide +kernel
theorem dX11_like_62 : decode cX11_like 62 = .ok (.iconst 1, 1) := by decide +kernel
theorem dX11_like_63 : decode cX11_like 63 = .ok (.iadd, 1) := by decide +kernel
theorem dX11_like_64 : decode cX11_like 64 = .ok (.iload 4, 2) := by decide +kernel
theorem dX11_like_66 : decode cX11_like 66 = .ok (.iadd, 1) := by decide +kernel
theorem dX11_like_67 : decode cX11_like 67 = .ok (.iaload, 1) := by decide +kernel
theorem dX11_like_68 : decode cX11_like 68 = .ok (.aload_n 0, 1) := by decide +kernel
theorem dX11_like_69 : decode cX11_like 69 = .ok (.getfield 7, 3) := by decide +kernel
theorem dX11_like_72 : decode cX11_like 72 = .ok (.iload 4, 2) := by decide +kernel
theorem dX11_like_74 : decode cX11_like 74 = .ok (.iaload, 1) := by decide +kernel
theorem dX11_like_75 : decode cX11_like 75 = .ok (.if_icmp .ne 7, 3) := by decide +kernel
theorem dX11_like_78 : decode cX11_like 78 = .ok (.iconst 1, 1) := by decide +kernel
theorem dX11_like_79 : decode cX11_like 79 = .ok (.goto 4, 3) := by decide +kernel
theorem dX11_like_82 : decode cX11_like 82 = .ok (.iconst 0, 1) := by decide +kernel
theorem dX11_like_83 : decode cX11_like 83 = .ok (.istore_n 3, 1) := by decide +kernel
theorem dX11_like_84 : decode cX11_like 84 = .ok (.iinc 4 1, 3) := by decide +kernel
theorem dX11_like_87 : decode cX11_like 87 = .ok (.goto (-46), 3) := by decide +kernel
theorem dX11_like_90 : decode cX11_like 90 = .ok (.aload_n 0, 1) := by decide +kernel
theorem dX11_like_91 : decode cX11_like 91 = .ok (.iload_n 3, 1) := by decide +kernel
theorem dX11_like_92 : decode cX11_like 92 = .ok (.ifCond .eq 7, 3) := by decide +kernel
theorem dX11_like_95 : decode cX11_like 95 = .ok (.iconst 1, 1) := by decide +kernel
theorem dX11_like_96 : decode cX11_like 96 = .ok (.goto 4, 3) := by decide +kernel
theorem dX11_like_99 : decode cX11_like 99 = .ok (.iconst 0, 1) := by decide +kernel
theorem dX11_like_100 : decode cX11_like 100 = .ok (.invokevirtual 242, 3) := by decide +kernel
theorem dX11_like_103 : decode cX11_like 103 = .ok (.ireturn, 1) := by decide +kernel
def fp_X11_like_L41 (k90 : Int32 → Option (Int32 × zM)) (v0 : Nat) (v1 : Int32) (M : zM) : Nat → Int32 → Int32 → Option (Int32 × zM)
  | 0, _, _ => none
  | n + 1, v3, v4 =>
    (zgI 9 M v0 0).bind fun (y6 : Int32) =>
    if v4 ≥ y6 then (
      k90 v3)
    else (
      zjn (fun (s7 : Int32) =>
          fp_X11_like_L41 k90 v0 v1 M n s7 (v4 + 1))
        (fun j83 =>
          zjn (
              j83 0)
            (fun j82 =>
              if v3 = 0 then (
                j82)
              else (
                (zgR 9 M v0 18).bind fun (y8 : Nat) =>
                (zlI 100 M y8 (((8 * v1) + 1) + v4)).bind fun (y9 : Int32) =>
                (zgR 9 M v0 2).bind fun (y10 : Nat) =>
                (zlI 100 M y10 v4).bind fun (y11 : Int32) =>
                if y9 ≠ y11 then (
                  j82)
                else (
                  j83 1)))))
def fp_X11_like (v0 : Nat) (v1 : Int32) (M : zM) : Option (Int32 × zM) :=
  zthis 9 M v0 (
    (fp_X11_wrongImage v0 v1 M).bind fun (y1 : Int32) =>
    if y1 ≤ 0 then (
      (zgR 9 M v0 18).bind fun (y2 : Nat) =>
      (zlI 100 M y2 (8 * v1)).bind fun (y3 : Int32) =>
      (zgI 9 M v0 0).bind fun (y4 : Int32) =>
      zjn (fun (s5 : Int32) =>
          fp_X11_like_L41
            (fun v3_12 =>
              if v3_12 = 0 then (
                (fp_X11_gives v0 0 M).bind fun p15 => zpp p15 fun (y13 : Int32) (M14 : zM) =>
                some (y13, M14))
              else (
                (fp_X11_gives v0 1 M).bind fun p18 => zpp p18 fun (y16 : Int32) (M17 : zM) =>
                some (y16, M17))) v0 v1 M FU s5 0)
        (fun j37 =>
          if y3 ≠ y4 then (
            j37 0)
          else (
            j37 1)))
    else (
      (fp_X11_refuse v0 y1 M).bind fun p21 => zpp p21 fun (y19 : Int32) (M20 : zM) =>
      some (y19, M20)))
set_option maxHeartbeats 4000000 in
set_option maxRecDepth 100000 in
theorem th_X11_like {v0 : Nat} {v1 : Int32} {M : zM} {x0 : Int32 × zM} (h : fp_X11_like v0 v1 M = some x0) : v0 < zS M ∧ kd v0 = 9 := by
  unfold fp_X11_like at h
  exact zthis_of h
set_option maxHeartbeats 4000000 in
set_option maxRecDepth 100000 in
theorem w_X11_like_L41 (E : zEnv) (hE : zEok E) (d : Nat) (hd : 3 ≤ d) (M0 : zM) (x0 : Int32 × zM) (v0 : Nat) (v1 : Int32) (M : zM) (k90 : Int32 → Option (Int32 × zM)) (hk90 : ∀ (v3 : Int32), zSy E mu_X11_like d M0 (some (.int x0.1), x0.2) x0 (k90 v3) 90 [(0, .ref (E.2.2.2.1 + v0)), (3, .int v3)] [] M) : ∀ (n : Nat) (v3 : Int32) (v4 : Int32), zSy E mu_X11_like d M0 (some (.int x0.1), x0.2) x0 (fp_X11_like_L41 k90 v0 v1 M n v3 v4) 41 [(0, .ref (E.2.2.2.1 + v0)), (1, .int v1), (3, .int v3), (4, .int v4)] [] M := by
  intro n
  induction n with
  | zero =>
    intro v3 v4
    rw [fp_X11_like_L41]
    exact zs_none
  | succ n ih =>
    intro v3 v4
    rw [fp_X11_like_L41]
    refine zs_iload dX11_like_41 3 rfl ?_
    refine zs_aload_n dX11_like_43 rfl 0 rfl ?_
    refine zs_getI dX11_like_44 fl_X11_101 rfl (fun y6 => ?_)
    refine zs_icmp_ge dX11_like_47 rfl ?_ ?_
    · refine zs_sub (loc' := [(0, .ref (E.2.2.2.1 + v0)), (3, .int v3)]) [0, 2] rfl ?_
      exact hk90 v3
    refine zs_iload_n dX11_like_50 rfl 2 rfl ?_
    refine zs_jn (fun j83 => ∀ (s7 : Int32), zSy E mu_X11_like d M0 (some (.int x0.1), x0.2) x0 (j83 s7) 83 [(0, .ref (E.2.2.2.1 + v0)), (1, .int v1), (4, .int v4)] [.int s7] M) (fun s7 => ?_) (fun j83 hj83 => ?_)
    · refine zs_istore_n (loc' := [(0, .ref (E.2.2.2.1 + v0)), (1, .int v1), (3, .int s7), (4, .int v4)]) dX11_like_83 rfl (Nat.le_of_ble_eq_true rfl) [1, 2, 0, 3] rfl ?_
      refine zs_iinc (v := (v4 + 1)) (loc' := [(0, .ref (E.2.2.2.1 + v0)), (1, .int v1), (3, .int s7), (4, .int (v4 + 1))]) dX11_like_84 3 rfl (by rfl) (Nat.le_of_ble_eq_true rfl) [1, 2, 3, 0] rfl ?_
      refine zs_goto dX11_like_87 rfl ?_
      exact ih s7 (v4 + 1)
    refine zs_jn (fun j82 => zSy E mu_X11_like d M0 (some (.int x0.1), x0.2) x0 (j82) 82 [(0, .ref (E.2.2.2.1 + v0)), (1, .int v1), (4, .int v4)] [] M) ?_ (fun j82 hj82 => ?_)
    · refine zs_iconst (v := 0) dX11_like_82 ciconst_0 ?_
      exact hj83 0
    refine zs_if_eq dX11_like_51 rfl ?_ ?_
    · refine zs_sub (loc' := [(0, .ref (E.2.2.2.1 + v0)), (1, .int v1), (4, .int v4)]) [0, 1, 3] rfl ?_
      exact hj82
    refine zs_aload_n dX11_like_54 rfl 0 rfl ?_
    refine zs_getR dX11_like_55 fl_X11_42 rfl (fun y8 => ?_)
    refine zs_bipush (v := 8) dX11_like_58 cbipush_8 ?_
    refine zs_iload_n dX11_like_60 rfl 1 rfl ?_
    refine zs_imul dX11_like_61 ?_
    refine zs_iconst (v := 1) dX11_like_62 ciconst_1 ?_
    refine zs_iadd dX11_like_63 ?_
    refine zs_iload dX11_like_64 3 rfl ?_
    refine zs_iadd dX11_like_66 ?_
    refine zs_ldI dX11_like_67 (fun y9 => ?_)
    refine zs_aload_n dX11_like_68 rfl 0 rfl ?_
    refine zs_getR dX11_like_69 fl_X11_7 rfl (fun y10 => ?_)
    refine zs_iload dX11_like_72 3 rfl ?_
    refine zs_ldI dX11_like_74 (fun y11 => ?_)
    refine zs_icmp_ne dX11_like_75 rfl ?_ ?_
    · refine zs_sub (loc' := [(0, .ref (E.2.2.2.1 + v0)), (1, .int v1), (4, .int v4)]) [0, 1, 3] rfl ?_
      exact hj82
    refine zs_iconst (v := 1) dX11_like_78 ciconst_1 ?_
    refine zs_goto dX11_like_79 rfl ?_
    refine zs_sub (loc' := [(0, .ref (E.2.2.2.1 + v0)), (1, .int v1), (4, .int v4)]) [0, 1, 3] rfl ?_
    exact hj83 1
set_option maxHeartbeats 4000000 in
set_option maxRecDepth 100000 in
theorem ct_X11_like (E : zEnv) (hE : zEok E) (d : Nat) (hd : 3 ≤ d) (v0 : Nat) (v1 : Int32) (M : zM) (x0 : Int32 × zM) (hx : fp_X11_like v0 v1 M = some x0) : zCt E mu_X11_like d [.ref (E.2.2.2.1 + v0), .int v1] M (some (.int x0.1), x0.2) := by
  refine zCt_of (μ := mu_X11_like) (t := fp_X11_like v0 v1 M) rfl rfl (Nat.le_of_ble_eq_true rfl) hx ?_
  change zSy E mu_X11_like d M (some (.int x0.1), x0.2) x0 (fp_X11_like v0 v1 M) 0 [(0, .ref (E.2.2.2.1 + v0)), (1, .int v1)] [] M
  unfold fp_X11_like
  refine zs_this (fun hth => ?_)
  refine zs_aload_n dX11_like_0 rfl 0 rfl ?_
  refine zs_iload_n dX11_like_1 rfl 1 rfl ?_
  refine zs_invVPI (rest := []) [.int v1] dX11_like_2 lk_X11_287 rfl (fun _ h => th_X11_wrongImage h) (zd1 rfl hd) rfl (Nat.le_of_ble_eq_true rfl) (ct_X11_wrongImage E hE _ (zdl rfl hd) _ _ _) (fun y1 => ?_)
  refine zs_istore_n (loc' := [(0, .ref (E.2.2.2.1 + v0)), (1, .int v1), (2, .int y1)]) dX11_like_5 rfl (Nat.le_of_ble_eq_true rfl) [1, 2, 0] rfl ?_
  refine zs_iload_n dX11_like_6 rfl 2 rfl ?_
  refine zs_if_le dX11_like_7 rfl ?_ ?_
  · refine zs_aload_n dX11_like_16 rfl 0 rfl ?_
    refine zs_getR dX11_like_17 fl_X11_42 rfl (fun y2 => ?_)
    refine zs_bipush (v := 8) dX11_like_20 cbipush_8 ?_
    refine zs_iload_n dX11_like_22 rfl 1 rfl ?_
    refine zs_imul dX11_like_23 ?_
    refine zs_ldI dX11_like_24 (fun y3 => ?_)
    refine zs_aload_n dX11_like_25 rfl 0 rfl ?_
    refine zs_getI dX11_like_26 fl_X11_101 rfl (fun y4 => ?_)
    refine zs_jn (fun j37 => ∀ (s5 : Int32), zSy E mu_X11_like d M (some (.int x0.1), x0.2) x0 (j37 s5) 37 [(0, .ref (E.2.2.2.1 + v0)), (1, .int v1)] [.int s5] M) (fun s5 => ?_) (fun j37 hj37 => ?_)
    · refine zs_istore_n (loc' := [(0, .ref (E.2.2.2.1 + v0)), (1, .int v1), (3, .int s5)]) dX11_like_37 rfl (Nat.le_of_ble_eq_true rfl) [1, 2, 0] rfl ?_
      refine zs_iconst (v := 0) dX11_like_38 ciconst_0 ?_
      refine zs_istore (loc' := [(0, .ref (E.2.2.2.1 + v0)), (1, .int v1), (3, .int s5), (4, .int 0)]) dX11_like_39 (Nat.le_of_ble_eq_true rfl) [1, 2, 3, 0] rfl ?_
      refine w_X11_like_L41 E hE d hd _ _ _ _ _ _ (fun v3_12 => ?_) _ _ _
      refine zs_aload_n dX11_like_90 rfl 0 rfl ?_
      refine zs_iload_n dX11_like_91 rfl 1 rfl ?_
      refine zs_if_eq dX11_like_92 rfl ?_ ?_
      · refine zs_iconst (v := 0) dX11_like_99 ciconst_0 ?_
        refine zs_invVWI (rest := []) [.int 0] dX11_like_100 lk_X11_242 rfl (fun _ h => th_X11_gives h) (zd1 rfl hd) rfl (Nat.le_of_ble_eq_true rfl) (ct_X11_gives E hE _ (zdl rfl hd) _ _ _) (fun y13 M14 => ?_)
        exact zs_iretW dX11_like_103 rfl
      refine zs_iconst (v := 1) dX11_like_95 ciconst_1 ?_
      refine zs_goto dX11_like_96 rfl ?_
      refine zs_invVWI (rest := []) [.int 1] dX11_like_100 lk_X11_242 rfl (fun _ h => th_X11_gives h) (zd1 rfl hd) rfl (Nat.le_of_ble_eq_true rfl) (ct_X11_gives E hE _ (zdl rfl hd) _ _ _) (fun y16 M17 => ?_)
      exact zs_iretW dX11_like_103 rfl
    refine zs_icmp_ne dX11_like_29 rfl ?_ ?_
    · refine zs_iconst (v := 0) dX11_like_36 ciconst_0 ?_
      refine zs_sub (loc' := [(0, .ref (E.2.2.2.1 + v0)), (1, .int v1)]) [0, 1] rfl ?_
      exact hj37 0
    refine zs_iconst (v := 1) dX11_like_32 ciconst_1 ?_
    refine zs_goto dX11_like_33 rfl ?_
    refine zs_sub (loc' := [(0, .ref (E.2.2.2.1 + v0)), (1, .int v1)]) [0, 1] rfl ?_
    exact hj37 1
  refine zs_aload_n dX11_like_10 rfl 0 rfl ?_
  refine zs_iload_n dX11_like_11 rfl 2 rfl ?_
  refine zs_invVWI (rest := []) [.int y1] dX11_like_12 lk_X11_226 rfl (fun _ h => th_X11_refuse h) (zd1 rfl hd) rfl (Nat.le_of_ble_eq_true rfl) (ct_X11_refuse E hE _ (zdl rfl hd) _ _ _) (fun y19 M20 => ?_)
  exact zs_iretW dX11_like_15 rfl
theorem dX11_order_0 : decode cX11_order 0 = .ok (.aload_n 0, 1) := by decide +kernel
theorem dX11_order_1 : decode cX11_order 1 = .ok (.iload_n 1, 1) := by decide +kernel
theorem dX11_order_2 : decode cX11_order 2 = .ok (.invokevirtual 272, 3) := by decide +kernel
theorem dX11_order_5 : decode cX11_order 5 = .ok (.ifCond .eq 24, 3) := by decide +kernel
theorem dX11_order_8 : decode cX11_order 8 = .ok (.aload_n 0, 1) := by decide +kernel
theorem dX11_order_9 : decode cX11_order 9 = .ok (.aload_n 0, 1) := by decide +kernel
theorem dX11_order_10 : decode cX11_order 10 = .ok (.aload_n 0, 1) := by decide +kernel
theorem dX11_order_11 : decode cX11_order 11 = .ok (.getfield 7, 3) := by decide +kernel
theorem dX11_order_14 : decode cX11_order 14 = .ok (.iconst 0, 1) := by decide +kernel
theorem dX11_order_15 : decode cX11_order 15 = .ok (.aload_n 0, 1) := by decide +kernel
theorem dX11_order_16 : decode cX11_order 16 = .ok (.getfield 101, 3) := by decide +kernel
theorem dX11_order_19 : decode cX11_order 19 = .ok (.iload_n 1, 1) := by decide +kernel
theorem dX11_order_20 : decode cX11_order 20 = .ok (.invokevirtual 290, 3) := by decide +kernel
theorem dX11_order_23 : decode cX11_order 23 = .ok (.invokevirtual 242, 3) := by decide +kernel
theorem dX11_order_26 : decode cX11_order 26 = .ok (.goto 8, 3) := by decide +kernel
theorem dX11_order_29 : decode cX11_order 29 = .ok (.aload_n 0, 1) := by decide +kernel
theorem dX11_order_30 : decode cX11_order 30 = .ok (.iconst 1, 1) := by decide +kernel
theorem dX11_order_31 : decode cX11_order 31 = .ok (.invokevirtual 226, 3) := by decide +kernel
theorem dX11_order_34 : decode cX11_order 34 = .ok (.ireturn, 1) := by decide +kernel
def fp_X11_order (v0 : Nat) (v1 : Int32) (M : zM) : Option (Int32 × zM) :=
  zthis 9 M v0 (
    (fp_X11_isSet v0 v1 M).bind fun (y1 : Int32) =>
    if y1 = 0 then (
      (fp_X11_refuse v0 1 M).bind fun p4 => zpp p4 fun (y2 : Int32) (M3 : zM) =>
      some (y2, M3))
    else (
      (zgR 9 M v0 2).bind fun (y5 : Nat) =>
      (zgI 9 M v0 0).bind fun (y6 : Int32) =>
      (fp_X11_rank v0 y5 0 y6 v1 M).bind fun p9 => zpp p9 fun (y7 : Int32) (M8 : zM) =>
      (fp_X11_gives v0 y7 M8).bind fun p12 => zpp p12 fun (y10 : Int32) (M11 : zM) =>
      some (y10, M11)))
set_option maxHeartbeats 4000000 in
set_option maxRecDepth 100000 in
theorem th_X11_order {v0 : Nat} {v1 : Int32} {M : zM} {x0 : Int32 × zM} (h : fp_X11_order v0 v1 M = some x0) : v0 < zS M ∧ kd v0 = 9 := by
  unfold fp_X11_order at h
  exact zthis_of h
set_option maxHeartbeats 4000000 in
set_option maxRecDepth 100000 in
theorem ct_X11_order (E : zEnv) (hE : zEok E) (d : Nat) (hd : 3 ≤ d) (v0 : Nat) (v1 : Int32) (M : zM) (x0 : Int32 × zM) (hx : fp_X11_order v0 v1 M = some x0) : zCt E mu_X11_order d [.ref (E.2.2.2.1 + v0), .int v1] M (some (.int x0.1), x0.2) := by
  refine zCt_of (μ := mu_X11_order) (t := fp_X11_order v0 v1 M) rfl rfl (Nat.le_of_ble_eq_true rfl) hx ?_
  change zSy E mu_X11_order d M (some (.int x0.1), x0.2) x0 (fp_X11_order v0 v1 M) 0 [(0, .ref (E.2.2.2.1 + v0)), (1, .int v1)] [] M
  unfold fp_X11_order
  refine zs_this (fun hth => ?_)
  refine zs_aload_n dX11_order_0 rfl 0 rfl ?_
  refine zs_iload_n dX11_order_1 rfl 1 rfl ?_
  refine zs_invVPI (rest := []) [.int v1] dX11_order_2 lk_X11_272 rfl (fun _ h => th_X11_isSet h) (zd1 rfl hd) rfl (Nat.le_of_ble_eq_true rfl) (ct_X11_isSet E hE _ (zdl rfl hd) _ _ _) (fun y1 => ?_)
  refine zs_if_eq dX11_order_5 rfl ?_ ?_
  · refine zs_aload_n dX11_order_29 rfl 0 rfl ?_
    refine zs_iconst (v := 1) dX11_order_30 ciconst_1 ?_
    refine zs_invVWI (rest := []) [.int 1] dX11_order_31 lk_X11_226 rfl (fun _ h => th_X11_refuse h) (zd1 rfl hd) rfl (Nat.le_of_ble_eq_true rfl) (ct_X11_refuse E hE _ (zdl rfl hd) _ _ _) (fun y2 M3 => ?_)
    exact zs_iretW dX11_order_34 rfl
  refine zs_aload_n dX11_order_8 rfl 0 rfl ?_
  refine zs_aload_n dX11_order_9 rfl 0 rfl ?_
  refine zs_aload_n dX11_order_10 rfl 0 rfl ?_
  refine zs_getR dX11_order_11 fl_X11_7 rfl (fun y5 => ?_)
  refine zs_iconst (v := 0) dX11_order_14 ciconst_0 ?_
  refine zs_aload_n dX11_order_15 rfl 0 rfl ?_
  refine zs_getI dX11_order_16 fl_X11_101 rfl (fun y6 => ?_)
  refine zs_iload_n dX11_order_19 rfl 1 rfl ?_
  refine zs_invVWI (rest := [.ref (E.2.2.2.1 + v0)]) [.ref (E.2.2.2.1 + y5), .int 0, .int y6, .int v1] dX11_order_20 lk_X11_290 rfl (fun _ h => th_X11_rank h) (zd1 rfl hd) rfl (Nat.le_of_ble_eq_true rfl) (ct_X11_rank E hE _ (zdl rfl hd) _ _ _ _ _ _) (fun y7 M8 => ?_)
  refine zs_invVWI (rest := []) [.int y7] dX11_order_23 lk_X11_242 rfl (fun _ h => th_X11_gives h) (zd1 rfl hd) rfl (Nat.le_of_ble_eq_true rfl) (ct_X11_gives E hE _ (zdl rfl hd) _ _ _) (fun y10 M11 => ?_)
  refine zs_goto dX11_order_26 rfl ?_
  exact zs_iretW dX11_order_34 rfl
theorem dX11_wrongSplit_0 : decode cX11_wrongSplit 0 = .ok (.iload_n 1, 1) := by decide +kernel
theorem dX11_wrongSplit_1 : decode cX11_wrongSplit 1 = .ok (.ifCond .ge 7, 3) := by decide +kernel
theorem dX11_wrongSplit_4 : decode cX11_wrongSplit 4 = .ok (.iconst 1, 1) := by decide +kernel
theorem dX11_wrongSplit_5 : decode cX11_wrongSplit 5 = .ok (.goto 30, 3) := by decide +kernel
theorem dX11_wrongSplit_8 : decode cX11_wrongSplit 8 = .ok (.aload_n 0, 1) := by decide +kernel
theorem dX11_wrongSplit_9 : decode cX11_wrongSplit 9 = .ok (.invokevirtual 251, 3) := by decide +kernel
theorem dX11_wrongSplit_12 : decode cX11_wrongSplit 12 = .ok (.ifCond .ne 8, 3) := by decide +kernel
theorem dX11_wrongSplit_15 : decode cX11_wrongSplit 15 = .ok (.bipush 7, 2) := by decide +kernel
theorem dX11_wrongSplit_17 : decode cX11_wrongSplit 17 = .ok (.goto 18, 3) := by decide +kernel
theorem dX11_wrongSplit_20 : decode cX11_wrongSplit 20 = .ok (.iload_n 1, 1) := by decide +kernel
theorem dX11_wrongSplit_21 : decode cX11_wrongSplit 21 = .ok (.aload_n 0, 1) := by decide +kernel
theorem dX11_wrongSplit_22 : decode cX11_wrongSplit 22 = .ok (.iload_n 1, 1) := by decide +kernel
theorem dX11_wrongSplit_23 : decode cX11_wrongSplit 23 = .ok (.invokevirtual 254, 3) := by decide +kernel
theorem dX11_wrongSplit_26 : decode cX11_wrongSplit 26 = .ok (.if_icmp .ge 7, 3) := by decide +kernel
theorem dX11_wrongSplit_29 : decode cX11_wrongSplit 29 = .ok (.iconst 0, 1) := by decide +kernel
theorem dX11_wrongSplit_30 : decode cX11_wrongSplit 30 = .ok (.goto 5, 3) := by decide +kernel
theorem dX11_wrongSplit_33 : decode cX11_wrongSplit 33 = .ok (.bipush 6, 2) := by decide +kernel
theorem dX11_wrongSplit_35 : decode cX11_wrongSplit 35 = .ok (.ireturn, 1) := by decide +kernel
def fp_X11_wrongSplit (v0 : Nat) (v1 : Int32) (M : zM) : Option (Int32 × zM) :=
  zthis 9 M v0 (
    if v1 ≥ 0 then (
      (fp_X11_areJoined v0 M).bind fun (y1 : Int32) =>
      if y1 ≠ 0 then (
        (fp_X11_splits v0 v1 M).bind fun p4 => zpp p4 fun (y2 : Int32) (M3 : zM) =>
        if v1 ≥ y2 then (
          some (6, M3))
        else (
          some (0, M3)))
      else (
        some (7, M)))
    else (
      some (1, M)))
set_option maxHeartbeats 4000000 in
set_option maxRecDepth 100000 in
theorem th_X11_wrongSplit {v0 : Nat} {v1 : Int32} {M : zM} {x0 : Int32 × zM} (h : fp_X11_wrongSplit v0 v1 M = some x0) : v0 < zS M ∧ kd v0 = 9 := by
  unfold fp_X11_wrongSplit at h
  exact zthis_of h
set_option maxHeartbeats 4000000 in
set_option maxRecDepth 100000 in
theorem ct_X11_wrongSplit (E : zEnv) (hE : zEok E) (d : Nat) (hd : 5 ≤ d) (v0 : Nat) (v1 : Int32) (M : zM) (x0 : Int32 × zM) (hx : fp_X11_wrongSplit v0 v1 M = some x0) : zCt E mu_X11_wrongSplit d [.ref (E.2.2.2.1 + v0), .int v1] M (some (.int x0.1), x0.2) := by
  refine zCt_of (μ := mu_X11_wrongSplit) (t := fp_X11_wrongSplit v0 v1 M) rfl rfl (Nat.le_of_ble_eq_true rfl) hx ?_
  change zSy E mu_X11_wrongSplit d M (some (.int x0.1), x0.2) x0 (fp_X11_wrongSplit v0 v1 M) 0 [(0, .ref (E.2.2.2.1 + v0)), (1, .int v1)] [] M
  unfold fp_X11_wrongSplit
  refine zs_this (fun hth => ?_)
  refine zs_iload_n dX11_wrongSplit_0 rfl 1 rfl ?_
  refine zs_if_ge dX11_wrongSplit_1 rfl ?_ ?_
  · refine zs_aload_n dX11_wrongSplit_8 rfl 0 rfl ?_
    refine zs_invVPI (rest := []) [] dX11_wrongSplit_9 lk_X11_251 rfl (fun _ h => th_X11_areJoined h) (zd1 rfl hd) rfl (Nat.le_of_ble_eq_true rfl) (ct_X11_areJoined E hE _ (zdl rfl hd) _ _) (fun y1 => ?_)
    refine zs_if_ne dX11_wrongSplit_12 rfl ?_ ?_
    · refine zs_iload_n dX11_wrongSplit_20 rfl 1 rfl ?_
      refine zs_aload_n dX11_wrongSplit_21 rfl 0 rfl ?_
      refine zs_iload_n dX11_wrongSplit_22 rfl 1 rfl ?_
      refine zs_invVWI (rest := [.int v1]) [.int v1] dX11_wrongSplit_23 lk_X11_254 rfl (fun _ h => th_X11_splits h) (zd1 rfl hd) rfl (Nat.le_of_ble_eq_true rfl) (ct_X11_splits E hE _ (zdl rfl hd) _ _ _) (fun y2 M3 => ?_)
      refine zs_icmp_ge dX11_wrongSplit_26 rfl ?_ ?_
      · refine zs_bipush (v := 6) dX11_wrongSplit_33 cbipush_6 ?_
        exact zs_iretW dX11_wrongSplit_35 rfl
      refine zs_iconst (v := 0) dX11_wrongSplit_29 ciconst_0 ?_
      refine zs_goto dX11_wrongSplit_30 rfl ?_
      exact zs_iretW dX11_wrongSplit_35 rfl
    refine zs_bipush (v := 7) dX11_wrongSplit_15 cbipush_7 ?_
    refine zs_goto dX11_wrongSplit_17 rfl ?_
    exact zs_iretW dX11_wrongSplit_35 rfl
  refine zs_iconst (v := 1) dX11_wrongSplit_4 ciconst_1 ?_
  refine zs_goto dX11_wrongSplit_5 rfl ?_
  exact zs_iretW dX11_wrongSplit_35 rfl
theorem dX11_split_0 : decode cX11_split 0 = .ok (.aload_n 0, 1) := by decide +kernel
theorem dX11_split_1 : decode cX11_split 1 = .ok (.iload_n 1, 1) := by decide +kernel
theorem dX11_split_2 : decode cX11_split 2 = .ok (.invokevirtual 300, 3) := by decide +kernel
theorem dX11_split_5 : decode cX11_split 5 = .ok (.istore_n 2, 1) := by decide +kernel
theorem dX11_split_6 : decode cX11_split 6 = .ok (.iload_n 2, 1) := by decide +kernel
theorem dX11_split_7 : decode cX11_split 7 = .ok (.ifCond .le 11, 3) := by decide +kernel
theorem dX11_split_10 : decode cX11_split 10 = .ok (.aload_n 0, 1) := by decide +kernel
theorem dX11_split_11 : decode cX11_split 11 = .ok (.iload_n 2, 1) := by decide +kernel
theorem dX11_split_12 : decode cX11_split 12 = .ok (.invokevirtual 226, 3) := by decide +kernel
theorem dX11_split_15 : decode cX11_split 15 = .ok (.goto 11, 3) := by decide +kernel
theorem dX11_split_18 : decode cX11_split 18 = .ok (.aload_n 0, 1) := by decide +kernel
theorem dX11_split_19 : decode cX11_split 19 = .ok (.aload_n 0, 1) := by decide +kernel
theorem dX11_split_20 : decode cX11_split 20 = .ok (.getfield 294, 3) := by decide +kernel
theorem dX11_split_23 : decode cX11_split 23 = .ok (.invokevirtual 242, 3) := by decide +kernel
theorem dX11_split_26 : decode cX11_split 26 = .ok (.ireturn, 1) := by decide +kernel
def fp_X11_split (v0 : Nat) (v1 : Int32) (M : zM) : Option (Int32 × zM) :=
  zthis 9 M v0 (
    (fp_X11_wrongSplit v0 v1 M).bind fun p3 => zpp p3 fun (y1 : Int32) (M2 : zM) =>
    if y1 ≤ 0 then (
      (zgI 9 M2 v0 22).bind fun (y4 : Int32) =>
      (fp_X11_gives v0 y4 M2).bind fun p7 => zpp p7 fun (y5 : Int32) (M6 : zM) =>
      some (y5, M6))
    else (
      (fp_X11_refuse v0 y1 M2).bind fun p10 => zpp p10 fun (y8 : Int32) (M9 : zM) =>
      some (y8, M9)))
set_option maxHeartbeats 4000000 in
set_option maxRecDepth 100000 in
theorem th_X11_split {v0 : Nat} {v1 : Int32} {M : zM} {x0 : Int32 × zM} (h : fp_X11_split v0 v1 M = some x0) : v0 < zS M ∧ kd v0 = 9 := by
  unfold fp_X11_split at h
  exact zthis_of h
set_option maxHeartbeats 4000000 in
set_option maxRecDepth 100000 in
theorem ct_X11_split (E : zEnv) (hE : zEok E) (d : Nat) (hd : 6 ≤ d) (v0 : Nat) (v1 : Int32) (M : zM) (x0 : Int32 × zM) (hx : fp_X11_split v0 v1 M = some x0) : zCt E mu_X11_split d [.ref (E.2.2.2.1 + v0), .int v1] M (some (.int x0.1), x0.2) := by
  refine zCt_of (μ := mu_X11_split) (t := fp_X11_split v0 v1 M) rfl rfl (Nat.le_of_ble_eq_true rfl) hx ?_
  change zSy E mu_X11_split d M (some (.int x0.1), x0.2) x0 (fp_X11_split v0 v1 M) 0 [(0, .ref (E.2.2.2.1 + v0)), (1, .int v1)] [] M
  unfold fp_X11_split
  refine zs_this (fun hth => ?_)
  refine zs_aload_n dX11_split_0 rfl 0 rfl ?_
  refine zs_iload_n dX11_split_1 rfl 1 rfl ?_
  refine zs_invVWI (rest := []) [.int v1] dX11_split_2 lk_X11_300 rfl (fun _ h => th_X11_wrongSplit h) (zd1 rfl hd) rfl (Nat.le_of_ble_eq_true rfl) (ct_X11_wrongSplit E hE _ (zdl rfl hd) _ _ _) (fun y1 M2 => ?_)
  refine zs_istore_n (loc' := [(0, .ref (E.2.2.2.1 + v0)), (2, .int y1)]) dX11_split_5 rfl (Nat.le_of_ble_eq_true rfl) [1, 0] rfl ?_
  refine zs_iload_n dX11_split_6 rfl 1 rfl ?_
  refine zs_if_le dX11_split_7 rfl ?_ ?_
  · refine zs_aload_n dX11_split_18 rfl 0 rfl ?_
    refine zs_aload_n dX11_split_19 rfl 0 rfl ?_
    refine zs_getI dX11_split_20 fl_X11_294 rfl (fun y4 => ?_)
    refine zs_invVWI (rest := []) [.int y4] dX11_split_23 lk_X11_242 rfl (fun _ h => th_X11_gives h) (zd1 rfl hd) rfl (Nat.le_of_ble_eq_true rfl) (ct_X11_gives E hE _ (zdl rfl hd) _ _ _) (fun y5 M6 => ?_)
    exact zs_iretW dX11_split_26 rfl
  refine zs_aload_n dX11_split_10 rfl 0 rfl ?_
  refine zs_iload_n dX11_split_11 rfl 1 rfl ?_
  refine zs_invVWI (rest := []) [.int y1] dX11_split_12 lk_X11_226 rfl (fun _ h => th_X11_refuse h) (zd1 rfl hd) rfl (Nat.le_of_ble_eq_true rfl) (ct_X11_refuse E hE _ (zdl rfl hd) _ _ _) (fun y8 M9 => ?_)
  refine zs_goto dX11_split_15 rfl ?_
  exact zs_iretW dX11_split_26 rfl
theorem dX11_isStrong_0 : decode cX11_isStrong 0 = .ok (.aload_n 0, 1) := by decide +kernel
theorem dX11_isStrong_1 : decode cX11_isStrong 1 = .ok (.invokevirtual 104, 3) := by decide +kernel
theorem dX11_isStrong_4 : decode cX11_isStrong 4 = .ok (.iload_n 1, 1) := by decide +kernel
theorem dX11_isStrong_5 : decode cX11_isStrong 5 = .ok (.iconst (-1), 1) := by decide +kernel
theorem dX11_isStrong_6 : decode cX11_isStrong 6 = .ok (.ixor, 1) := by decide +kernel
theorem dX11_isStrong_7 : decode cX11_isStrong 7 = .ok (.iand, 1) := by decide +kernel
theorem dX11_isStrong_8 : decode cX11_isStrong 8 = .ok (.istore_n 2, 1) := by decide +kernel
theorem dX11_isStrong_9 : decode cX11_isStrong 9 = .ok (.iconst 0, 1) := by decide +kernel
theorem dX11_isStrong_10 : decode cX11_isStrong 10 = .ok (.istore_n 3, 1) := by decide +kernel
theorem dX11_isStrong_11 : decode cX11_isStrong 11 = .ok (.iload_n 3, 1) := by decide +kernel
theorem dX11_isStrong_12 : decode cX11_isStrong 12 = .ok (.aload_n 0, 1) := by decide +kernel
theorem dX11_isStrong_13 : decode cX11_isStrong 13 = .ok (.invokevirtual 104, 3) := by decide +kernel
theorem dX11_isStrong_16 : decode cX11_isStrong 16 = .ok (.if_icmp .gt 79, 3) := by decide +kernel
theorem dX11_isStrong_19 : decode cX11_isStrong 19 = .ok (.iload_n 3, 1) := by decide +kernel
theorem dX11_isStrong_20 : decode cX11_isStrong 20 = .ok (.aload_n 0, 1) := by decide +kernel
theorem dX11_isStrong_21 : decode cX11_isStrong 21 = .ok (.getfield 101, 3) := by decide +kernel
theorem dX11_isStrong_24 : decode cX11_isStrong 24 = .ok (.invokestatic 297, 3) := by decide +kernel
theorem dX11_isStrong_27 : decode cX11_isStrong 27 = .ok (.ifCond .eq 62, 3) := by decide +kernel
theorem dX11_isStrong_30 : decode cX11_isStrong 30 = .ok (.aload_n 0, 1) := by decide +kernel
theorem dX11_isStrong_31 : decode cX11_isStrong 31 = .ok (.aload_n 0, 1) := by decide +kernel
theorem dX11_isStrong_32 : decode cX11_isStrong 32 = .ok (.getfield 7, 3) := by decide +kernel
theorem dX11_isStrong_35 : decode cX11_isStrong 35 = .ok (.iconst 0, 1) := by decide +kernel
theorem dX11_isStrong_36 : decode cX11_isStrong 36 = .ok (.aload_n 0, 1) := by decide +kernel
theorem dX11_isStrong_37 : decode cX11_isStrong 37 = .ok (.getfield 101, 3) := by decide +kernel
theorem dX11_isStrong_40 : decode cX11_isStrong 40 = .ok (.iload_n 3, 1) := by decide +kernel
theorem dX11_isStrong_41 : decode cX11_isStrong 41 = .ok (.invokevirtual 290, 3) := by decide +kernel
theorem dX11_isStrong_44 : decode cX11_isStrong 44 = .ok (.iconst 1, 1) := by decide +kernel
theorem dX11_isStrong_45 : decode cX11_isStrong 45 = .ok (.if_icmp .eq 6, 3) := by decide +kernel
theorem dX11_isStrong_48 : decode cX11_isStrong 48 = .ok (.goto 41, 3) := by decide +kernel
theorem dX11_isStrong_51 : decode cX11_isStrong 51 = .ok (.aload_n 0, 1) := by decide +kernel
theorem dX11_isStrong_52 : decode cX11_isStrong 52 = .ok (.invokevirtual 104, 3) := by decide +kernel
theorem dX11_isStrong_55 : decode cX11_isStrong 55 = .ok (.iload_n 3, 1) := by decide +kernel
theorem dX11_isStrong_56 : decode cX11_isStrong 56 = .ok (.iconst (-1), 1) := by decide +kernel
theorem dX11_isStrong_57 : decode cX11_isStrong 57 = .ok (.ixor, 1) := by decide +kernel
theorem dX11_isStrong_58 : decode cX11_isStrong 58 = .ok (.iand, 1) := by decide +kernel
theorem dX11_isStrong_59 : decode cX11_isStrong 59 = .ok (.istore 4, 2) := by decide +kernel
theorem dX11_isStrong_61 : decode cX11_isStrong 61 = .ok (.iload_n 3, 1) := by decide +kernel
theorem dX11_isStrong_62 : decode cX11_isStrong 62 = .ok (.iload_n 1, 1) := by decide +kernel
theorem dX11_isStrong_63 : decode cX11_isStrong 63 = .ok (.iand, 1) := by decide +kernel
theorem dX11_isStrong_64 : decode cX11_isStrong 64 = .ok (.ifCond .eq 25, 3) := by decide +kernel
theorem dX11_isStrong_67 : decode cX11_isStrong 67 = .ok (.iload_n 3, 1) := by decide +kernel
theorem dX11_isStrong_68 : decode cX11_isStrong 68 = .ok (.iload_n 2, 1) := by decide +kernel
theorem dX11_isStrong_69 : decode cX11_isStrong 69 = .ok (.iand, 1) := by decide +kernel
theorem dX11_isStrong_70 : decode cX11_isStrong 70 = .ok (.ifCond .eq 19, 3) := by decide +kernel
theorem dX11_isStrong_73 : decode cX11_isStrong 73 = .ok (.iload 4, 2) := by decide +kernel
theorem dX11_isStrong_75 : decode cX11_isStrong 75 = .ok (.iload_n 1, 1) := by decide +kernel
theorem dX11_isStrong_76 : decode cX11_isStrong 76 = .ok (.iand, 1) := by decide +kernel
theorem dX11_isStrong_77 : decode cX11_isStrong 77 = .ok (.ifCond .eq 12, 3) := by decide +kernel
theorem dX11_isStrong_80 : decode cX11_isStrong 80 = .ok (.iload 4, 2) := by decide +kernel
theorem dX11_isStrong_82 : decode cX11_isStrong 82 = .ok (.iload_n 2, 1) := by decide +kernel
theorem dX11_isStrong_83 : decode cX11_isStrong 83 = .ok (.iand, 1) := by decide +kernel
theorem dX11_isStrong_84 : decode cX11_isStrong 84 = .ok (.ifCond .eq 5, 3) := by decide +kernel
theorem dX11_isStrong_87 : decode cX11_isStrong 87 = .ok (.iconst 0, 1) := by decide +kernel
theorem dX11_isStrong_88 : decode cX11_isStrong 88 = .ok (.ireturn, 1) := by decide +kernel
theorem dX11_isStrong_89 : decode cX11_isStrong 89 = .ok (.iinc 3 1, 3) := by decide +kernel
theorem dX11_isStrong_92 : decode cX11_isStrong 92 = .ok (.goto (-81), 3) := by decide +kernel
theorem dX11_isStrong_95 : decode cX11_isStrong 95 = .ok (.iconst 1, 1) := by decide +kernel
theorem dX11_isStrong_96 : decode cX11_isStrong 96 = .ok (.ireturn, 1) := by decide +kernel
def fp_X11_isStrong_L11 (v0 : Nat) (v1 : Int32) (v2 : Int32) : Nat → Int32 → zM → Option (Int32 × zM)
  | 0, _, _ => none
  | n + 1, v3, M =>
    (fp_X11_all v0 M).bind fun (y3 : Int32) =>
    if v3 > y3 then (
      some (1, M))
    else (
      (zgI 9 M v0 0).bind fun (y4 : Int32) =>
      (fp_X11_canSplit v3 y4).bind fun (y5 : Int32) =>
      zjn (fun (M6 : zM) =>
          fp_X11_isStrong_L11 v0 v1 v2 n (v3 + 1) M6)
        (fun j89 =>
          if y5 = 0 then (
            j89 M)
          else (
            (zgR 9 M v0 2).bind fun (y7 : Nat) =>
            (zgI 9 M v0 0).bind fun (y8 : Int32) =>
            (fp_X11_rank v0 y7 0 y8 v3 M).bind fun p11 => zpp p11 fun (y9 : Int32) (M10 : zM) =>
            if y9 = 1 then (
              (fp_X11_all v0 M10).bind fun (y12 : Int32) =>
              lett ((y12 &&& (v3 ^^^ (-1)))) fun (v4_13 : Int32) =>
              if (v3 &&& v1) = 0 then (
                j89 M10)
              else (
                if (v3 &&& v2) = 0 then (
                  j89 M10)
                else (
                  if (v4_13 &&& v1) = 0 then (
                    j89 M10)
                  else (
                    if (v4_13 &&& v2) = 0 then (
                      j89 M10)
                    else (
                      some (0, M10))))))
            else (
              j89 M10))))
def fp_X11_isStrong (v0 : Nat) (v1 : Int32) (M : zM) : Option (Int32 × zM) :=
  zthis 9 M v0 (
    (fp_X11_all v0 M).bind fun (y1 : Int32) =>
    lett ((y1 &&& (v1 ^^^ (-1)))) fun (v2_2 : Int32) =>
    fp_X11_isStrong_L11 v0 v1 v2_2 FU 0 M)
set_option maxHeartbeats 4000000 in
set_option maxRecDepth 100000 in
theorem th_X11_isStrong {v0 : Nat} {v1 : Int32} {M : zM} {x0 : Int32 × zM} (h : fp_X11_isStrong v0 v1 M = some x0) : v0 < zS M ∧ kd v0 = 9 := by
  unfold fp_X11_isStrong at h
  exact zthis_of h
set_option maxHeartbeats 4000000 in
set_option maxRecDepth 100000 in
theorem w_X11_isStrong_L11 (E : zEnv) (hE : zEok E) (d : Nat) (hd : 3 ≤ d) (M0 : zM) (x0 : Int32 × zM) (v0 : Nat) (v1 : Int32) (v2 : Int32)  : ∀ (n : Nat) (v3 : Int32) (M : zM), zSy E mu_X11_isStrong d M0 (some (.int x0.1), x0.2) x0 (fp_X11_isStrong_L11 v0 v1 v2 n v3 M) 11 [(0, .ref (E.2.2.2.1 + v0)), (1, .int v1), (2, .int v2), (3, .int v3)] [] M := by
  intro n
  induction n with
  | zero =>
    intro v3 M
    rw [fp_X11_isStrong_L11]
    exact zs_none
  | succ n ih =>
    intro v3 M
    rw [fp_X11_isStrong_L11]
    refine zs_iload_n dX11_isStrong_11 rfl 3 rfl ?_
    refine zs_aload_n dX11_isStrong_12 rfl 0 rfl ?_
    refine zs_invVPI (rest := [.int v3]) [] dX11_isStrong_13 lk_X11_104 rfl (fun _ h => th_X11_all h) (zd1 rfl hd) rfl (Nat.le_of_ble_eq_true rfl) (ct_X11_all E hE _ (zdl rfl hd) _ _) (fun y3 => ?_)
    refine zs_icmp_gt dX11_isStrong_16 rfl ?_ ?_
    · refine zs_iconst (v := 1) dX11_isStrong_95 ciconst_1 ?_
      exact zs_iretW dX11_isStrong_96 rfl
    refine zs_iload_n dX11_isStrong_19 rfl 3 rfl ?_
    refine zs_aload_n dX11_isStrong_20 rfl 0 rfl ?_
    refine zs_getI dX11_isStrong_21 fl_X11_101 rfl (fun y4 => ?_)
    refine zs_invSPI (rest := []) [.int v3, .int y4] dX11_isStrong_24 lk_X11_297 rfl (zd1 rfl hd) rfl (Nat.le_of_ble_eq_true rfl) (ct_X11_canSplit E hE _ (zdl rfl hd) _ _ _) (fun y5 => ?_)
    refine zs_jn (fun j89 => ∀ (M6 : zM), zSy E mu_X11_isStrong d M0 (some (.int x0.1), x0.2) x0 (j89 M6) 89 [(0, .ref (E.2.2.2.1 + v0)), (1, .int v1), (2, .int v2), (3, .int v3)] [] M6) (fun M6 => ?_) (fun j89 hj89 => ?_)
    · refine zs_iinc (v := (v3 + 1)) (loc' := [(0, .ref (E.2.2.2.1 + v0)), (1, .int v1), (2, .int v2), (3, .int (v3 + 1))]) dX11_isStrong_89 3 rfl (by rfl) (Nat.le_of_ble_eq_true rfl) [1, 2, 3, 0] rfl ?_
      refine zs_goto dX11_isStrong_92 rfl ?_
      exact ih (v3 + 1) M6
    refine zs_if_eq dX11_isStrong_27 rfl ?_ ?_
    · exact hj89 M
    refine zs_aload_n dX11_isStrong_30 rfl 0 rfl ?_
    refine zs_aload_n dX11_isStrong_31 rfl 0 rfl ?_
    refine zs_getR dX11_isStrong_32 fl_X11_7 rfl (fun y7 => ?_)
    refine zs_iconst (v := 0) dX11_isStrong_35 ciconst_0 ?_
    refine zs_aload_n dX11_isStrong_36 rfl 0 rfl ?_
    refine zs_getI dX11_isStrong_37 fl_X11_101 rfl (fun y8 => ?_)
    refine zs_iload_n dX11_isStrong_40 rfl 3 rfl ?_
    refine zs_invVWI (rest := []) [.ref (E.2.2.2.1 + y7), .int 0, .int y8, .int v3] dX11_isStrong_41 lk_X11_290 rfl (fun _ h => th_X11_rank h) (zd1 rfl hd) rfl (Nat.le_of_ble_eq_true rfl) (ct_X11_rank E hE _ (zdl rfl hd) _ _ _ _ _ _) (fun y9 M10 => ?_)
    refine zs_iconst (v := 1) dX11_isStrong_44 ciconst_1 ?_
    refine zs_icmp_eq dX11_isStrong_45 rfl ?_ ?_
    · refine zs_aload_n dX11_isStrong_51 rfl 0 rfl ?_
      refine zs_invVPI (rest := []) [] dX11_isStrong_52 lk_X11_104 rfl (fun _ h => th_X11_all h) (zd1 rfl hd) rfl (Nat.le_of_ble_eq_true rfl) (ct_X11_all E hE _ (zdl rfl hd) _ _) (fun y12 => ?_)
      refine zs_iload_n dX11_isStrong_55 rfl 3 rfl ?_
      refine zs_iconst (v := (-1)) dX11_isStrong_56 ciconst_m1 ?_
      refine zs_ixor dX11_isStrong_57 ?_
      refine zs_iand dX11_isStrong_58 ?_
      refine zs_istoreL (loc' := fun v4_13 => [(0, .ref (E.2.2.2.1 + v0)), (1, .int v1), (2, .int v2), (3, .int v3), (4, .int v4_13)]) dX11_isStrong_59 (Nat.le_of_ble_eq_true rfl) [1, 2, 3, 4, 0] (fun _ => rfl) (fun v4_13 => ?_)
      refine zs_iload_n dX11_isStrong_61 rfl 3 rfl ?_
      refine zs_iload_n dX11_isStrong_62 rfl 1 rfl ?_
      refine zs_iand dX11_isStrong_63 ?_
      refine zs_if_eq dX11_isStrong_64 rfl ?_ ?_
      · refine zs_sub (loc' := [(0, .ref (E.2.2.2.1 + v0)), (1, .int v1), (2, .int v2), (3, .int v3)]) [0, 1, 2, 3] rfl ?_
        exact hj89 M10
      refine zs_iload_n dX11_isStrong_67 rfl 3 rfl ?_
      refine zs_iload_n dX11_isStrong_68 rfl 2 rfl ?_
      refine zs_iand dX11_isStrong_69 ?_
      refine zs_if_eq dX11_isStrong_70 rfl ?_ ?_
      · refine zs_sub (loc' := [(0, .ref (E.2.2.2.1 + v0)), (1, .int v1), (2, .int v2), (3, .int v3)]) [0, 1, 2, 3] rfl ?_
        exact hj89 M10
      refine zs_iload dX11_isStrong_73 4 rfl ?_
      refine zs_iload_n dX11_isStrong_75 rfl 1 rfl ?_
      refine zs_iand dX11_isStrong_76 ?_
      refine zs_if_eq dX11_isStrong_77 rfl ?_ ?_
      · refine zs_sub (loc' := [(0, .ref (E.2.2.2.1 + v0)), (1, .int v1), (2, .int v2), (3, .int v3)]) [0, 1, 2, 3] rfl ?_
        exact hj89 M10
      refine zs_iload dX11_isStrong_80 4 rfl ?_
      refine zs_iload_n dX11_isStrong_82 rfl 2 rfl ?_
      refine zs_iand dX11_isStrong_83 ?_
      refine zs_if_eq dX11_isStrong_84 rfl ?_ ?_
      · refine zs_sub (loc' := [(0, .ref (E.2.2.2.1 + v0)), (1, .int v1), (2, .int v2), (3, .int v3)]) [0, 1, 2, 3] rfl ?_
        exact hj89 M10
      refine zs_iconst (v := 0) dX11_isStrong_87 ciconst_0 ?_
      exact zs_iretW dX11_isStrong_88 rfl
    refine zs_goto dX11_isStrong_48 rfl ?_
    exact hj89 M10
set_option maxHeartbeats 4000000 in
set_option maxRecDepth 100000 in
theorem ct_X11_isStrong (E : zEnv) (hE : zEok E) (d : Nat) (hd : 3 ≤ d) (v0 : Nat) (v1 : Int32) (M : zM) (x0 : Int32 × zM) (hx : fp_X11_isStrong v0 v1 M = some x0) : zCt E mu_X11_isStrong d [.ref (E.2.2.2.1 + v0), .int v1] M (some (.int x0.1), x0.2) := by
  refine zCt_of (μ := mu_X11_isStrong) (t := fp_X11_isStrong v0 v1 M) rfl rfl (Nat.le_of_ble_eq_true rfl) hx ?_
  change zSy E mu_X11_isStrong d M (some (.int x0.1), x0.2) x0 (fp_X11_isStrong v0 v1 M) 0 [(0, .ref (E.2.2.2.1 + v0)), (1, .int v1)] [] M
  unfold fp_X11_isStrong
  refine zs_this (fun hth => ?_)
  refine zs_aload_n dX11_isStrong_0 rfl 0 rfl ?_
  refine zs_invVPI (rest := []) [] dX11_isStrong_1 lk_X11_104 rfl (fun _ h => th_X11_all h) (zd1 rfl hd) rfl (Nat.le_of_ble_eq_true rfl) (ct_X11_all E hE _ (zdl rfl hd) _ _) (fun y1 => ?_)
  refine zs_iload_n dX11_isStrong_4 rfl 1 rfl ?_
  refine zs_iconst (v := (-1)) dX11_isStrong_5 ciconst_m1 ?_
  refine zs_ixor dX11_isStrong_6 ?_
  refine zs_iand dX11_isStrong_7 ?_
  refine zs_istore_nL (loc' := fun v2_2 => [(0, .ref (E.2.2.2.1 + v0)), (1, .int v1), (2, .int v2_2)]) dX11_isStrong_8 rfl (Nat.le_of_ble_eq_true rfl) [1, 2, 0] (fun _ => rfl) (fun v2_2 => ?_)
  refine zs_iconst (v := 0) dX11_isStrong_9 ciconst_0 ?_
  refine zs_istore_n (loc' := [(0, .ref (E.2.2.2.1 + v0)), (1, .int v1), (2, .int v2_2), (3, .int 0)]) dX11_isStrong_10 rfl (Nat.le_of_ble_eq_true rfl) [1, 2, 3, 0] rfl ?_
  exact w_X11_isStrong_L11 E hE d hd _ _ _ _ _ _ _ _
theorem dX11_strong_0 : decode cX11_strong 0 = .ok (.aload_n 0, 1) := by decide +kernel
theorem dX11_strong_1 : decode cX11_strong 1 = .ok (.iload_n 1, 1) := by decide +kernel
theorem dX11_strong_2 : decode cX11_strong 2 = .ok (.invokevirtual 300, 3) := by decide +kernel
theorem dX11_strong_5 : decode cX11_strong 5 = .ok (.istore_n 2, 1) := by decide +kernel
theorem dX11_strong_6 : decode cX11_strong 6 = .ok (.iload_n 2, 1) := by decide +kernel
theorem dX11_strong_7 : decode cX11_strong 7 = .ok (.ifCond .le 11, 3) := by decide +kernel
theorem dX11_strong_10 : decode cX11_strong 10 = .ok (.aload_n 0, 1) := by decide +kernel
theorem dX11_strong_11 : decode cX11_strong 11 = .ok (.iload_n 2, 1) := by decide +kernel
theorem dX11_strong_12 : decode cX11_strong 12 = .ok (.invokevirtual 226, 3) := by decide +kernel
theorem dX11_strong_15 : decode cX11_strong 15 = .ok (.goto 23, 3) := by decide +kernel
theorem dX11_strong_18 : decode cX11_strong 18 = .ok (.aload_n 0, 1) := by decide +kernel
theorem dX11_strong_19 : decode cX11_strong 19 = .ok (.aload_n 0, 1) := by decide +kernel
theorem dX11_strong_20 : decode cX11_strong 20 = .ok (.aload_n 0, 1) := by decide +kernel
theorem dX11_strong_21 : decode cX11_strong 21 = .ok (.getfield 294, 3) := by decide +kernel
theorem dX11_strong_24 : decode cX11_strong 24 = .ok (.invokevirtual 303, 3) := by decide +kernel
theorem dX11_strong_27 : decode cX11_strong 27 = .ok (.ifCond .eq 7, 3) := by decide +kernel
theorem dX11_strong_30 : decode cX11_strong 30 = .ok (.iconst 1, 1) := by decide +kernel
theorem dX11_strong_31 : decode cX11_strong 31 = .ok (.goto 4, 3) := by decide +kernel
theorem dX11_strong_34 : decode cX11_strong 34 = .ok (.iconst 0, 1) := by decide +kernel
theorem dX11_strong_35 : decode cX11_strong 35 = .ok (.invokevirtual 242, 3) := by decide +kernel
theorem dX11_strong_38 : decode cX11_strong 38 = .ok (.ireturn, 1) := by decide +kernel
def fp_X11_strong (v0 : Nat) (v1 : Int32) (M : zM) : Option (Int32 × zM) :=
  zthis 9 M v0 (
    (fp_X11_wrongSplit v0 v1 M).bind fun p3 => zpp p3 fun (y1 : Int32) (M2 : zM) =>
    if y1 ≤ 0 then (
      (zgI 9 M2 v0 22).bind fun (y4 : Int32) =>
      (fp_X11_isStrong v0 y4 M2).bind fun p7 => zpp p7 fun (y5 : Int32) (M6 : zM) =>
      if y5 = 0 then (
        (fp_X11_gives v0 0 M6).bind fun p10 => zpp p10 fun (y8 : Int32) (M9 : zM) =>
        some (y8, M9))
      else (
        (fp_X11_gives v0 1 M6).bind fun p13 => zpp p13 fun (y11 : Int32) (M12 : zM) =>
        some (y11, M12)))
    else (
      (fp_X11_refuse v0 y1 M2).bind fun p16 => zpp p16 fun (y14 : Int32) (M15 : zM) =>
      some (y14, M15)))
set_option maxHeartbeats 4000000 in
set_option maxRecDepth 100000 in
theorem th_X11_strong {v0 : Nat} {v1 : Int32} {M : zM} {x0 : Int32 × zM} (h : fp_X11_strong v0 v1 M = some x0) : v0 < zS M ∧ kd v0 = 9 := by
  unfold fp_X11_strong at h
  exact zthis_of h
set_option maxHeartbeats 4000000 in
set_option maxRecDepth 100000 in
theorem ct_X11_strong (E : zEnv) (hE : zEok E) (d : Nat) (hd : 6 ≤ d) (v0 : Nat) (v1 : Int32) (M : zM) (x0 : Int32 × zM) (hx : fp_X11_strong v0 v1 M = some x0) : zCt E mu_X11_strong d [.ref (E.2.2.2.1 + v0), .int v1] M (some (.int x0.1), x0.2) := by
  refine zCt_of (μ := mu_X11_strong) (t := fp_X11_strong v0 v1 M) rfl rfl (Nat.le_of_ble_eq_true rfl) hx ?_
  change zSy E mu_X11_strong d M (some (.int x0.1), x0.2) x0 (fp_X11_strong v0 v1 M) 0 [(0, .ref (E.2.2.2.1 + v0)), (1, .int v1)] [] M
  unfold fp_X11_strong
  refine zs_this (fun hth => ?_)
  refine zs_aload_n dX11_strong_0 rfl 0 rfl ?_
  refine zs_iload_n dX11_strong_1 rfl 1 rfl ?_
  refine zs_invVWI (rest := []) [.int v1] dX11_strong_2 lk_X11_300 rfl (fun _ h => th_X11_wrongSplit h) (zd1 rfl hd) rfl (Nat.le_of_ble_eq_true rfl) (ct_X11_wrongSplit E hE _ (zdl rfl hd) _ _ _) (fun y1 M2 => ?_)
  refine zs_istore_n (loc' := [(0, .ref (E.2.2.2.1 + v0)), (2, .int y1)]) dX11_strong_5 rfl (Nat.le_of_ble_eq_true rfl) [1, 0] rfl ?_
  refine zs_iload_n dX11_strong_6 rfl 1 rfl ?_
  refine zs_if_le dX11_strong_7 rfl ?_ ?_
  · refine zs_aload_n dX11_strong_18 rfl 0 rfl ?_
    refine zs_aload_n dX11_strong_19 rfl 0 rfl ?_
    refine zs_aload_n dX11_strong_20 rfl 0 rfl ?_
    refine zs_getI dX11_strong_21 fl_X11_294 rfl (fun y4 => ?_)
    refine zs_invVWI (rest := [.ref (E.2.2.2.1 + v0)]) [.int y4] dX11_strong_24 lk_X11_303 rfl (fun _ h => th_X11_isStrong h) (zd1 rfl hd) rfl (Nat.le_of_ble_eq_true rfl) (ct_X11_isStrong E hE _ (zdl rfl hd) _ _ _) (fun y5 M6 => ?_)
    refine zs_if_eq dX11_strong_27 rfl ?_ ?_
    · refine zs_iconst (v := 0) dX11_strong_34 ciconst_0 ?_
      refine zs_invVWI (rest := []) [.int 0] dX11_strong_35 lk_X11_242 rfl (fun _ h => th_X11_gives h) (zd1 rfl hd) rfl (Nat.le_of_ble_eq_true rfl) (ct_X11_gives E hE _ (zdl rfl hd) _ _ _) (fun y8 M9 => ?_)
      exact zs_iretW dX11_strong_38 rfl
    refine zs_iconst (v := 1) dX11_strong_30 ciconst_1 ?_
    refine zs_goto dX11_strong_31 rfl ?_
    refine zs_invVWI (rest := []) [.int 1] dX11_strong_35 lk_X11_242 rfl (fun _ h => th_X11_gives h) (zd1 rfl hd) rfl (Nat.le_of_ble_eq_true rfl) (ct_X11_gives E hE _ (zdl rfl hd) _ _ _) (fun y11 M12 => ?_)
    exact zs_iretW dX11_strong_38 rfl
  refine zs_aload_n dX11_strong_10 rfl 0 rfl ?_
  refine zs_iload_n dX11_strong_11 rfl 1 rfl ?_
  refine zs_invVWI (rest := []) [.int y1] dX11_strong_12 lk_X11_226 rfl (fun _ h => th_X11_refuse h) (zd1 rfl hd) rfl (Nat.le_of_ble_eq_true rfl) (ct_X11_refuse E hE _ (zdl rfl hd) _ _ _) (fun y14 M15 => ?_)
  refine zs_goto dX11_strong_15 rfl ?_
  exact zs_iretW dX11_strong_38 rfl
theorem dX11_prime_0 : decode cX11_prime 0 = .ok (.aload_n 0, 1) := by decide +kernel
theorem dX11_prime_1 : decode cX11_prime 1 = .ok (.aload_n 0, 1) := by decide +kernel
theorem dX11_prime_2 : decode cX11_prime 2 = .ok (.getfield 101, 3) := by decide +kernel
theorem dX11_prime_5 : decode cX11_prime 5 = .ok (.iconst 4, 1) := by decide +kernel
theorem dX11_prime_6 : decode cX11_prime 6 = .ok (.if_icmp .le 22, 3) := by decide +kernel
theorem dX11_prime_9 : decode cX11_prime 9 = .ok (.aload_n 0, 1) := by decide +kernel
theorem dX11_prime_10 : decode cX11_prime 10 = .ok (.invokevirtual 251, 3) := by decide +kernel
theorem dX11_prime_13 : decode cX11_prime 13 = .ok (.ifCond .eq 15, 3) := by decide +kernel
theorem dX11_prime_16 : decode cX11_prime 16 = .ok (.aload_n 0, 1) := by decide +kernel
theorem dX11_prime_17 : decode cX11_prime 17 = .ok (.iconst (-1), 1) := by decide +kernel
theorem dX11_prime_18 : decode cX11_prime 18 = .ok (.invokevirtual 254, 3) := by decide +kernel
theorem dX11_prime_21 : decode cX11_prime 21 = .ok (.ifCond .ne 7, 3) := by decide +kernel
theorem dX11_prime_24 : decode cX11_prime 24 = .ok (.iconst 1, 1) := by decide +kernel
theorem dX11_prime_25 : decode cX11_prime 25 = .ok (.goto 4, 3) := by decide +kernel
theorem dX11_prime_28 : decode cX11_prime 28 = .ok (.iconst 0, 1) := by decide +kernel
theorem dX11_prime_29 : decode cX11_prime 29 = .ok (.invokevirtual 242, 3) := by decide +kernel
theorem dX11_prime_32 : decode cX11_prime 32 = .ok (.ireturn, 1) := by decide +kernel
def fp_X11_prime (v0 : Nat) (M : zM) : Option (Int32 × zM) :=
  zthis 9 M v0 (
    (zgI 9 M v0 0).bind fun (y1 : Int32) =>
    if y1 ≤ 4 then (
      (fp_X11_gives v0 0 M).bind fun p4 => zpp p4 fun (y2 : Int32) (M3 : zM) =>
      some (y2, M3))
    else (
      (fp_X11_areJoined v0 M).bind fun (y5 : Int32) =>
      if y5 = 0 then (
        (fp_X11_gives v0 0 M).bind fun p8 => zpp p8 fun (y6 : Int32) (M7 : zM) =>
        some (y6, M7))
      else (
        (fp_X11_splits v0 (-1) M).bind fun p11 => zpp p11 fun (y9 : Int32) (M10 : zM) =>
        if y9 ≠ 0 then (
          (fp_X11_gives v0 0 M10).bind fun p14 => zpp p14 fun (y12 : Int32) (M13 : zM) =>
          some (y12, M13))
        else (
          (fp_X11_gives v0 1 M10).bind fun p17 => zpp p17 fun (y15 : Int32) (M16 : zM) =>
          some (y15, M16)))))
set_option maxHeartbeats 4000000 in
set_option maxRecDepth 100000 in
theorem th_X11_prime {v0 : Nat} {M : zM} {x0 : Int32 × zM} (h : fp_X11_prime v0 M = some x0) : v0 < zS M ∧ kd v0 = 9 := by
  unfold fp_X11_prime at h
  exact zthis_of h
set_option maxHeartbeats 4000000 in
set_option maxRecDepth 100000 in
theorem ct_X11_prime (E : zEnv) (hE : zEok E) (d : Nat) (hd : 5 ≤ d) (v0 : Nat) (M : zM) (x0 : Int32 × zM) (hx : fp_X11_prime v0 M = some x0) : zCt E mu_X11_prime d [.ref (E.2.2.2.1 + v0)] M (some (.int x0.1), x0.2) := by
  refine zCt_of (μ := mu_X11_prime) (t := fp_X11_prime v0 M) rfl rfl (Nat.le_of_ble_eq_true rfl) hx ?_
  change zSy E mu_X11_prime d M (some (.int x0.1), x0.2) x0 (fp_X11_prime v0 M) 0 [(0, .ref (E.2.2.2.1 + v0))] [] M
  unfold fp_X11_prime
  refine zs_this (fun hth => ?_)
  refine zs_aload_n dX11_prime_0 rfl 0 rfl ?_
  refine zs_aload_n dX11_prime_1 rfl 0 rfl ?_
  refine zs_getI dX11_prime_2 fl_X11_101 rfl (fun y1 => ?_)
  refine zs_iconst (v := 4) dX11_prime_5 ciconst_4 ?_
  refine zs_icmp_le dX11_prime_6 rfl ?_ ?_
  · refine zs_iconst (v := 0) dX11_prime_28 ciconst_0 ?_
    refine zs_invVWI (rest := []) [.int 0] dX11_prime_29 lk_X11_242 rfl (fun _ h => th_X11_gives h) (zd1 rfl hd) rfl (Nat.le_of_ble_eq_true rfl) (ct_X11_gives E hE _ (zdl rfl hd) _ _ _) (fun y2 M3 => ?_)
    exact zs_iretW dX11_prime_32 rfl
  refine zs_aload_n dX11_prime_9 rfl 0 rfl ?_
  refine zs_invVPI (rest := [.ref (E.2.2.2.1 + v0)]) [] dX11_prime_10 lk_X11_251 rfl (fun _ h => th_X11_areJoined h) (zd1 rfl hd) rfl (Nat.le_of_ble_eq_true rfl) (ct_X11_areJoined E hE _ (zdl rfl hd) _ _) (fun y5 => ?_)
  refine zs_if_eq dX11_prime_13 rfl ?_ ?_
  · refine zs_iconst (v := 0) dX11_prime_28 ciconst_0 ?_
    refine zs_invVWI (rest := []) [.int 0] dX11_prime_29 lk_X11_242 rfl (fun _ h => th_X11_gives h) (zd1 rfl hd) rfl (Nat.le_of_ble_eq_true rfl) (ct_X11_gives E hE _ (zdl rfl hd) _ _ _) (fun y6 M7 => ?_)
    exact zs_iretW dX11_prime_32 rfl
  refine zs_aload_n dX11_prime_16 rfl 0 rfl ?_
  refine zs_iconst (v := (-1)) dX11_prime_17 ciconst_m1 ?_
  refine zs_invVWI (rest := [.ref (E.2.2.2.1 + v0)]) [.int (-1)] dX11_prime_18 lk_X11_254 rfl (fun _ h => th_X11_splits h) (zd1 rfl hd) rfl (Nat.le_of_ble_eq_true rfl) (ct_X11_splits E hE _ (zdl rfl hd) _ _ _) (fun y9 M10 => ?_)
  refine zs_if_ne dX11_prime_21 rfl ?_ ?_
  · refine zs_iconst (v := 0) dX11_prime_28 ciconst_0 ?_
    refine zs_invVWI (rest := []) [.int 0] dX11_prime_29 lk_X11_242 rfl (fun _ h => th_X11_gives h) (zd1 rfl hd) rfl (Nat.le_of_ble_eq_true rfl) (ct_X11_gives E hE _ (zdl rfl hd) _ _ _) (fun y12 M13 => ?_)
    exact zs_iretW dX11_prime_32 rfl
  refine zs_iconst (v := 1) dX11_prime_24 ciconst_1 ?_
  refine zs_goto dX11_prime_25 rfl ?_
  refine zs_invVWI (rest := []) [.int 1] dX11_prime_29 lk_X11_242 rfl (fun _ h => th_X11_gives h) (zd1 rfl hd) rfl (Nat.le_of_ble_eq_true rfl) (ct_X11_gives E hE _ (zdl rfl hd) _ _ _) (fun y15 M16 => ?_)
  exact zs_iretW dX11_prime_32 rfl
theorem dX11_kindOf_0 : decode cX11_kindOf 0 = .ok (.iconst 0, 1) := by decide +kernel
theorem dX11_kindOf_1 : decode cX11_kindOf 1 = .ok (.istore_n 2, 1) := by decide +kernel
theorem dX11_kindOf_2 : decode cX11_kindOf 2 = .ok (.iconst 0, 1) := by decide +kernel
theorem dX11_kindOf_3 : decode cX11_kindOf 3 = .ok (.istore_n 3, 1) := by decide +kernel
theorem dX11_kindOf_4 : decode cX11_kindOf 4 = .ok (.iload_n 3, 1) := by decide +kernel
theorem dX11_kindOf_5 : decode cX11_kindOf 5 = .ok (.aload_n 0, 1) := by decide +kernel
theorem dX11_kindOf_6 : decode cX11_kindOf 6 = .ok (.getfield 52, 3) := by decide +kernel
theorem dX11_kindOf_9 : decode cX11_kindOf 9 = .ok (.iload_n 1, 1) := by decide +kernel
theorem dX11_kindOf_10 : decode cX11_kindOf 10 = .ok (.iaload, 1) := by decide +kernel
theorem dX11_kindOf_11 : decode cX11_kindOf 11 = .ok (.if_icmp .ge 26, 3) := by decide +kernel
theorem dX11_kindOf_14 : decode cX11_kindOf 14 = .ok (.iload_n 2, 1) := by decide +kernel
theorem dX11_kindOf_15 : decode cX11_kindOf 15 = .ok (.aload_n 0, 1) := by decide +kernel
theorem dX11_kindOf_16 : decode cX11_kindOf 16 = .ok (.getfield 58, 3) := by decide +kernel
theorem dX11_kindOf_19 : decode cX11_kindOf 19 = .ok (.bipush 8, 2) := by decide +kernel
theorem dX11_kindOf_21 : decode cX11_kindOf 21 = .ok (.iload_n 1, 1) := by decide +kernel
theorem dX11_kindOf_22 : decode cX11_kindOf 22 = .ok (.imul, 1) := by decide +kernel
theorem dX11_kindOf_23 : decode cX11_kindOf 23 = .ok (.iload_n 3, 1) := by decide +kernel
theorem dX11_kindOf_24 : decode cX11_kindOf 24 = .ok (.iadd, 1) := by decide +kernel
theorem dX11_kindOf_25 : decode cX11_kindOf 25 = .ok (.iaload, 1) := by decide +kernel
theorem dX11_kindOf_26 : decode cX11_kindOf 26 = .ok (.invokestatic 122, 3) := by decide +kernel
theorem dX11_kindOf_29 : decode cX11_kindOf 29 = .ok (.iadd, 1) := by decide +kernel
theorem dX11_kindOf_30 : decode cX11_kindOf 30 = .ok (.istore_n 2, 1) := by decide +kernel
theorem dX11_kindOf_31 : decode cX11_kindOf 31 = .ok (.iinc 3 1, 3) := by decide +kernel
theorem dX11_kindOf_34 : decode cX11_kindOf 34 = .ok (.goto (-30), 3) := by decide +kernel
theorem dX11_kindOf_37 : decode cX11_kindOf 37 = .ok (.aload_n 0, 1) := by decide +kernel
theorem dX11_kindOf_38 : decode cX11_kindOf 38 = .ok (.getfield 52, 3) := by decide +kernel
theorem dX11_kindOf_41 : decode cX11_kindOf 41 = .ok (.iload_n 1, 1) := by decide +kernel
theorem dX11_kindOf_42 : decode cX11_kindOf 42 = .ok (.iaload, 1) := by decide +kernel
theorem dX11_kindOf_43 : decode cX11_kindOf 43 = .ok (.iconst 3, 1) := by decide +kernel
theorem dX11_kindOf_44 : decode cX11_kindOf 44 = .ok (.if_icmp .ge 14, 3) := by decide +kernel
theorem dX11_kindOf_47 : decode cX11_kindOf 47 = .ok (.aload_n 0, 1) := by decide +kernel
theorem dX11_kindOf_48 : decode cX11_kindOf 48 = .ok (.getfield 52, 3) := by decide +kernel
theorem dX11_kindOf_51 : decode cX11_kindOf 51 = .ok (.iload_n 1, 1) := by decide +kernel
theorem dX11_kindOf_52 : decode cX11_kindOf 52 = .ok (.iaload, 1) := by decide +kernel
theorem dX11_kindOf_53 : decode cX11_kindOf 53 = .ok (.iconst 1, 1) := by decide +kernel
theorem dX11_kindOf_54 : decode cX11_kindOf 54 = .ok (.isub, 1) := by decide +kernel
theorem dX11_kindOf_55 : decode cX11_kindOf 55 = .ok (.goto 27, 3) := by decide +kernel
theorem dX11_kindOf_58 : decode cX11_kindOf 58 = .ok (.aload_n 0, 1) := by decide +kernel
theorem dX11_kindOf_59 : decode cX11_kindOf 59 = .ok (.getfield 52, 3) := by decide +kernel
theorem dX11_kindOf_62 : decode cX11_kindOf 62 = .ok (.iload_n 1, 1) := by decide +kernel
theorem dX11_kindOf_63 : decode cX11_kindOf 63 = .ok (.iaload, 1) := by decide +kernel
theorem dX11_kindOf_64 : decode cX11_kindOf 64 = .ok (.iconst 3, 1) := by decide +kernel
theorem dX11_kindOf_65 : decode cX11_kindOf 65 = .ok (.if_icmp .le 7, 3) := by decide +kernel
theorem dX11_kindOf_68 : decode cX11_kindOf 68 = .ok (.iconst 4, 1) := by decide +kernel
theorem dX11_kindOf_69 : decode cX11_kindOf 69 = .ok (.goto 13, 3) := by decide +kernel
theorem dX11_kindOf_72 : decode cX11_kindOf 72 = .ok (.iload_n 2, 1) := by decide +kernel
theorem dX11_kindOf_73 : decode cX11_kindOf 73 = .ok (.iconst 4, 1) := by decide +kernel
theorem dX11_kindOf_74 : decode cX11_kindOf 74 = .ok (.if_icmp .ne 7, 3) := by decide +kernel
theorem dX11_kindOf_77 : decode cX11_kindOf 77 = .ok (.iconst 2, 1) := by decide +kernel
theorem dX11_kindOf_78 : decode cX11_kindOf 78 = .ok (.goto 4, 3) := by decide +kernel
theorem dX11_kindOf_81 : decode cX11_kindOf 81 = .ok (.iconst 3, 1) := by decide +kernel
theorem dX11_kindOf_82 : decode cX11_kindOf 82 = .ok (.ireturn, 1) := by decide +kernel
def fp_X11_kindOf_L4 (k37 : Int32 → Option (Int32)) (v0 : Nat) (v1 : Int32) (M : zM) : Nat → Int32 → Int32 → Option (Int32)
  | 0, _, _ => none
  | n + 1, v2, v3 =>
    (zgR 9 M v0 23).bind fun (y1 : Nat) =>
    (zlI 100 M y1 v1).bind fun (y2 : Int32) =>
    if v3 ≥ y2 then (
      k37 v2)
    else (
      (zgR 9 M v0 25).bind fun (y3 : Nat) =>
      (zlI 100 M y3 ((8 * v1) + v3)).bind fun (y4 : Int32) =>
      (fp_X11_bits y4).bind fun (y5 : Int32) =>
      lett ((v2 + y5)) fun (v2_6 : Int32) =>
      fp_X11_kindOf_L4 k37 v0 v1 M n v2_6 (v3 + 1))
def fp_X11_kindOf (v0 : Nat) (v1 : Int32) (M : zM) : Option (Int32) :=
  zthis 9 M v0 (
    fp_X11_kindOf_L4
      (fun v2_7 =>
        (zgR 9 M v0 23).bind fun (y8 : Nat) =>
        (zlI 100 M y8 v1).bind fun (y9 : Int32) =>
        if y9 ≥ 3 then (
          (zgR 9 M v0 23).bind fun (y10 : Nat) =>
          (zlI 100 M y10 v1).bind fun (y11 : Int32) =>
          if y11 ≤ 3 then (
            if v2_7 ≠ 4 then (
              some 3)
            else (
              some 2))
          else (
            some 4))
        else (
          (zgR 9 M v0 23).bind fun (y12 : Nat) =>
          (zlI 100 M y12 v1).bind fun (y13 : Int32) =>
          some (y13 - 1))) v0 v1 M FU 0 0)
set_option maxHeartbeats 4000000 in
set_option maxRecDepth 100000 in
theorem th_X11_kindOf {v0 : Nat} {v1 : Int32} {M : zM} {x0 : Int32} (h : fp_X11_kindOf v0 v1 M = some x0) : v0 < zS M ∧ kd v0 = 9 := by
  unfold fp_X11_kindOf at h
  exact zthis_of h
set_option maxHeartbeats 4000000 in
set_option maxRecDepth 100000 in
theorem w_X11_kindOf_L4 (E : zEnv) (hE : zEok E) (d : Nat) (hd : 2 ≤ d) (x0 : Int32) (v0 : Nat) (v1 : Int32) (M : zM) (k37 : Int32 → Option (Int32)) (hk37 : ∀ (v2 : Int32), zSy E mu_X11_kindOf d M (some (.int x0), M) x0 (k37 v2) 37 [(0, .ref (E.2.2.2.1 + v0)), (1, .int v1), (2, .int v2)] [] M) : ∀ (n : Nat) (v2 : Int32) (v3 : Int32), zSy E mu_X11_kindOf d M (some (.int x0), M) x0 (fp_X11_kindOf_L4 k37 v0 v1 M n v2 v3) 4 [(0, .ref (E.2.2.2.1 + v0)), (1, .int v1), (2, .int v2), (3, .int v3)] [] M := by
  intro n
  induction n with
  | zero =>
    intro v2 v3
    rw [fp_X11_kindOf_L4]
    exact zs_none
  | succ n ih =>
    intro v2 v3
    rw [fp_X11_kindOf_L4]
    refine zs_iload_n dX11_kindOf_4 rfl 3 rfl ?_
    refine zs_aload_n dX11_kindOf_5 rfl 0 rfl ?_
    refine zs_getR dX11_kindOf_6 fl_X11_52 rfl (fun y1 => ?_)
    refine zs_iload_n dX11_kindOf_9 rfl 1 rfl ?_
    refine zs_ldI dX11_kindOf_10 (fun y2 => ?_)
    refine zs_icmp_ge dX11_kindOf_11 rfl ?_ ?_
    · refine zs_sub (loc' := [(0, .ref (E.2.2.2.1 + v0)), (1, .int v1), (2, .int v2)]) [0, 1, 2] rfl ?_
      exact hk37 v2
    refine zs_iload_n dX11_kindOf_14 rfl 2 rfl ?_
    refine zs_aload_n dX11_kindOf_15 rfl 0 rfl ?_
    refine zs_getR dX11_kindOf_16 fl_X11_58 rfl (fun y3 => ?_)
    refine zs_bipush (v := 8) dX11_kindOf_19 cbipush_8 ?_
    refine zs_iload_n dX11_kindOf_21 rfl 1 rfl ?_
    refine zs_imul dX11_kindOf_22 ?_
    refine zs_iload_n dX11_kindOf_23 rfl 3 rfl ?_
    refine zs_iadd dX11_kindOf_24 ?_
    refine zs_ldI dX11_kindOf_25 (fun y4 => ?_)
    refine zs_invSPI (rest := [.int v2]) [.int y4] dX11_kindOf_26 lk_X11_122 rfl (zd1 rfl hd) rfl (Nat.le_of_ble_eq_true rfl) (ct_X11_bits E hE _ (zdl rfl hd) _ _) (fun y5 => ?_)
    refine zs_iadd dX11_kindOf_29 ?_
    refine zs_istore_nL (loc' := fun v2_6 => [(0, .ref (E.2.2.2.1 + v0)), (1, .int v1), (2, .int v2_6), (3, .int v3)]) dX11_kindOf_30 rfl (Nat.le_of_ble_eq_true rfl) [1, 2, 0, 3] (fun _ => rfl) (fun v2_6 => ?_)
    refine zs_iinc (v := (v3 + 1)) (loc' := [(0, .ref (E.2.2.2.1 + v0)), (1, .int v1), (2, .int v2_6), (3, .int (v3 + 1))]) dX11_kindOf_31 3 rfl (by rfl) (Nat.le_of_ble_eq_true rfl) [1, 2, 3, 0] rfl ?_
    refine zs_goto dX11_kindOf_34 rfl ?_
    exact ih v2_6 (v3 + 1)
set_option maxHeartbeats 4000000 in
set_option maxRecDepth 100000 in
theorem ct_X11_kindOf (E : zEnv) (hE : zEok E) (d : Nat) (hd : 2 ≤ d) (v0 : Nat) (v1 : Int32) (M : zM) (x0 : Int32) (hx : fp_X11_kindOf v0 v1 M = some x0) : zCt E mu_X11_kindOf d [.ref (E.2.2.2.1 + v0), .int v1] M (some (.int x0), M) := by
  refine zCt_of (μ := mu_X11_kindOf) (t := fp_X11_kindOf v0 v1 M) rfl rfl (Nat.le_of_ble_eq_true rfl) hx ?_
  change zSy E mu_X11_kindOf d M (some (.int x0), M) x0 (fp_X11_kindOf v0 v1 M) 0 [(0, .ref (E.2.2.2.1 + v0)), (1, .int v1)] [] M
  unfold fp_X11_kindOf
  refine zs_this (fun hth => ?_)
  refine zs_iconst (v := 0) dX11_kindOf_0 ciconst_0 ?_
  refine zs_istore_n (loc' := [(0, .ref (E.2.2.2.1 + v0)), (1, .int v1), (2, .int 0)]) dX11_kindOf_1 rfl (Nat.le_of_ble_eq_true rfl) [1, 2, 0] rfl ?_
  refine zs_iconst (v := 0) dX11_kindOf_2 ciconst_0 ?_
  refine zs_istore_n (loc' := [(0, .ref (E.2.2.2.1 + v0)), (1, .int v1), (2, .int 0), (3, .int 0)]) dX11_kindOf_3 rfl (Nat.le_of_ble_eq_true rfl) [1, 2, 3, 0] rfl ?_
  refine w_X11_kindOf_L4 E hE d hd _ _ _ _ _ (fun v2_7 => ?_) _ _ _
  refine zs_aload_n dX11_kindOf_37 rfl 0 rfl ?_
  refine zs_getR dX11_kindOf_38 fl_X11_52 rfl (fun y8 => ?_)
  refine zs_iload_n dX11_kindOf_41 rfl 1 rfl ?_
  refine zs_ldI dX11_kindOf_42 (fun y9 => ?_)
  refine zs_iconst (v := 3) dX11_kindOf_43 ciconst_3 ?_
  refine zs_icmp_ge dX11_kindOf_44 rfl ?_ ?_
  · refine zs_aload_n dX11_kindOf_58 rfl 0 rfl ?_
    refine zs_getR dX11_kindOf_59 fl_X11_52 rfl (fun y10 => ?_)
    refine zs_iload_n dX11_kindOf_62 rfl 1 rfl ?_
    refine zs_ldI dX11_kindOf_63 (fun y11 => ?_)
    refine zs_iconst (v := 3) dX11_kindOf_64 ciconst_3 ?_
    refine zs_icmp_le dX11_kindOf_65 rfl ?_ ?_
    · refine zs_iload_n dX11_kindOf_72 rfl 2 rfl ?_
      refine zs_iconst (v := 4) dX11_kindOf_73 ciconst_4 ?_
      refine zs_icmp_ne dX11_kindOf_74 rfl ?_ ?_
      · refine zs_iconst (v := 3) dX11_kindOf_81 ciconst_3 ?_
        exact zs_iretP dX11_kindOf_82 rfl
      refine zs_iconst (v := 2) dX11_kindOf_77 ciconst_2 ?_
      refine zs_goto dX11_kindOf_78 rfl ?_
      exact zs_iretP dX11_kindOf_82 rfl
    refine zs_iconst (v := 4) dX11_kindOf_68 ciconst_4 ?_
    refine zs_goto dX11_kindOf_69 rfl ?_
    exact zs_iretP dX11_kindOf_82 rfl
  refine zs_aload_n dX11_kindOf_47 rfl 0 rfl ?_
  refine zs_getR dX11_kindOf_48 fl_X11_52 rfl (fun y12 => ?_)
  refine zs_iload_n dX11_kindOf_51 rfl 1 rfl ?_
  refine zs_ldI dX11_kindOf_52 (fun y13 => ?_)
  refine zs_iconst (v := 1) dX11_kindOf_53 ciconst_1 ?_
  refine zs_isub dX11_kindOf_54 ?_
  refine zs_goto dX11_kindOf_55 rfl ?_
  exact zs_iretP dX11_kindOf_82 rfl
theorem dX11_piece_0 : decode cX11_piece 0 = .ok (.iload_n 1, 1) := by decide +kernel
theorem dX11_piece_1 : decode cX11_piece 1 = .ok (.ifCond .lt 12, 3) := by decide +kernel
theorem dX11_piece_4 : decode cX11_piece 4 = .ok (.iload_n 2, 1) := by decide +kernel
theorem dX11_piece_5 : decode cX11_piece 5 = .ok (.iconst 0, 1) := by decide +kernel
theorem dX11_piece_6 : decode cX11_piece 6 = .ok (.iconst 2, 1) := by decide +kernel
theorem dX11_piece_7 : decode cX11_piece 7 = .ok (.invokestatic 195, 3) := by decide +kernel
theorem dX11_piece_10 : decode cX11_piece 10 = .ok (.ifCond .ne 9, 3) := by decide +kernel
theorem dX11_piece_13 : decode cX11_piece 13 = .ok (.aload_n 0, 1) := by decide +kernel
theorem dX11_piece_14 : decode cX11_piece 14 = .ok (.iconst 1, 1) := by decide +kernel
theorem dX11_piece_15 : decode cX11_piece 15 = .ok (.invokevirtual 226, 3) := by decide +kernel
theorem dX11_piece_18 : decode cX11_piece 18 = .ok (.ireturn, 1) := by decide +kernel
theorem dX11_piece_19 : decode cX11_piece 19 = .ok (.aload_n 0, 1) := by decide +kernel
theorem dX11_piece_20 : decode cX11_piece 20 = .ok (.invokevirtual 257, 3) := by decide +kernel
theorem dX11_piece_23 : decode cX11_piece 23 = .ok (.iload_n 1, 1) := by decide +kernel
theorem dX11_piece_24 : decode cX11_piece 24 = .ok (.aload_n 0, 1) := by decide +kernel
theorem dX11_piece_25 : decode cX11_piece 25 = .ok (.getfield 260, 3) := by decide +kernel
theorem dX11_piece_28 : decode cX11_piece 28 = .ok (.if_icmp .lt 10, 3) := by decide +kernel
theorem dX11_piece_31 : decode cX11_piece 31 = .ok (.aload_n 0, 1) := by decide +kernel
theorem dX11_piece_32 : decode cX11_piece 32 = .ok (.bipush 6, 2) := by decide +kernel
theorem dX11_piece_34 : decode cX11_piece 34 = .ok (.invokevirtual 226, 3) := by decide +kernel
theorem dX11_piece_37 : decode cX11_piece 37 = .ok (.ireturn, 1) := by decide +kernel
theorem dX11_piece_38 : decode cX11_piece 38 = .ok (.iconst 0, 1) := by decide +kernel
theorem dX11_piece_39 : decode cX11_piece 39 = .ok (.istore_n 3, 1) := by decide +kernel
theorem dX11_piece_40 : decode cX11_piece 40 = .ok (.iconst 0, 1) := by decide +kernel
theorem dX11_piece_41 : decode cX11_piece 41 = .ok (.istore 4, 2) := by decide +kernel
theorem dX11_piece_43 : decode cX11_piece 43 = .ok (.iload 4, 2) := by decide +kernel
theorem dX11_piece_45 : decode cX11_piece 45 = .ok (.aload_n 0, 1) := by decide +kernel
theorem dX11_piece_46 : decode cX11_piece 46 = .ok (.getfield 52, 3) := by decide +kernel
theorem dX11_piece_49 : decode cX11_piece 49 = .ok (.iload_n 1, 1) := by decide +kernel
theorem dX11_piece_50 : decode cX11_piece 50 = .ok (.iaload, 1) := by decide +kernel
theorem dX11_piece_51 : decode cX11_piece 51 = .ok (.if_icmp .ge 34, 3) := by decide +kernel
theorem dX11_piece_54 : decode cX11_piece 54 = .ok (.iload_n 3, 1) := by decide +kernel
theorem dX11_piece_55 : decode cX11_piece 55 = .ok (.aload_n 0, 1) := by decide +kernel
theorem dX11_piece_56 : decode cX11_piece 56 = .ok (.getfield 55, 3) := by decide +kernel
theorem dX11_piece_59 : decode cX11_piece 59 = .ok (.bipush 8, 2) := by decide +kernel
theorem dX11_piece_61 : decode cX11_piece 61 = .ok (.iload_n 1, 1) := by decide +kernel
theorem dX11_piece_62 : decode cX11_piece 62 = .ok (.imul, 1) := by decide +kernel
theorem dX11_piece_63 : decode cX11_piece 63 = .ok (.iload 4, 2) := by decide +kernel
theorem dX11_piece_65 : decode cX11_piece 65 = .ok (.iadd, 1) := by decide +kernel
theorem dX11_piece_66 : decode cX11_piece 66 = .ok (.iaload, 1) := by decide +kernel
theorem dX11_piece_67 : decode cX11_piece 67 = .ok (.bipush 10, 2) := by decide +kernel
theorem dX11_piece_69 : decode cX11_piece 69 = .ok (.if_icmp .lt 7, 3) := by decide +kernel
theorem dX11_piece_72 : decode cX11_piece 72 = .ok (.iconst 1, 1) := by decide +kernel
theorem dX11_piece_73 : decode cX11_piece 73 = .ok (.goto 4, 3) := by decide +kernel
theorem dX11_piece_76 : decode cX11_piece 76 = .ok (.iconst 0, 1) := by decide +kernel
theorem dX11_piece_77 : decode cX11_piece 77 = .ok (.iadd, 1) := by decide +kernel
theorem dX11_piece_78 : decode cX11_piece 78 = .ok (.istore_n 3, 1) := by decide +kernel
theorem dX11_piece_79 : decode cX11_piece 79 = .ok (.iinc 4 1, 3) := by decide +kernel
theorem dX11_piece_82 : decode cX11_piece 82 = .ok (.goto (-39), 3) := by decide +kernel
theorem dX11_piece_85 : decode cX11_piece 85 = .ok (.aload_n 0, 1) := by decide +kernel
theorem dX11_piece_86 : decode cX11_piece 86 = .ok (.iload_n 2, 1) := by decide +kernel
theorem dX11_piece_87 : decode cX11_piece 87 = .ok (.ifCond .ne 11, 3) := by decide +kernel
theorem dX11_piece_90 : decode cX11_piece 90 = .ok (.aload_n 0, 1) := by decide +kernel
theorem dX11_piece_91 : decode cX11_piece 91 = .ok (.iload_n 1, 1) := by decide +kernel
theorem dX11_piece_92 : decode cX11_piece 92 = .ok (.invokevirtual 319, 3) := by decide +kernel
theorem dX11_piece_95 : decode cX11_piece 95 = .ok (.goto 18, 3) := by decide +kernel
theorem dX11_piece_98 : decode cX11_piece 98 = .ok (.iload_n 2, 1) := by decide +kernel
theorem dX11_piece_99 : decode cX11_piece 99 = .ok (.iconst 1, 1) := by decide +kernel
theorem dX11_piece_100 : decode cX11_piece 100 = .ok (.if_icmp .ne 12, 3) := by decide +kernel
theorem dX11_piece_103 : decode cX11_piece 103 = .ok (.aload_n 0, 1) := by decide +kernel
theorem dX11_piece_104 : decode cX11_piece 104 = .ok (.getfield 52, 3) := by decide +kernel
theorem dX11_piece_107 : decode cX11_piece 107 = .ok (.iload_n 1, 1) := by decide +kernel
theorem dX11_piece_108 : decode cX11_piece 108 = .ok (.iaload, 1) := by decide +kernel
theorem dX11_piece_109 : decode cX11_piece 109 = .ok (.goto 4, 3) := by decide +kernel
theorem dX11_piece_112 : decode cX11_piece 112 = .ok (.iload_n 3, 1) := by decide +kernel
theorem dX11_piece_113 : decode cX11_piece 113 = .ok (.invokevirtual 242, 3) := by decide +kernel
theorem dX11_piece_116 : decode cX11_piece 116 = .ok (.ireturn, 1) := by decide +kernel
def fp_X11_piece_L43 (k85 : Int32 → Option (Int32 × zM)) (v0 : Nat) (v1 : Int32) (v2 : Int32) (M : zM) : Nat → Int32 → Int32 → Option (Int32 × zM)
  | 0, _, _ => none
  | n + 1, v3, v4 =>
    (zgR 9 M v0 23).bind fun (y7 : Nat) =>
    (zlI 100 M y7 v1).bind fun (y8 : Int32) =>
    if v4 ≥ y8 then (
      k85 v3)
    else (
      (zgR 9 M v0 24).bind fun (y9 : Nat) =>
      (zlI 100 M y9 ((8 * v1) + v4)).bind fun (y10 : Int32) =>
      zjn (fun (s11 : Int32) (s12 : Int32) =>
          lett ((s12 + s11)) fun (v3_13 : Int32) =>
          fp_X11_piece_L43 k85 v0 v1 v2 M n v3_13 (v4 + 1))
        (fun j77 =>
          if y10 < 10 then (
            j77 0 v3)
          else (
            j77 1 v3)))
def fp_X11_piece (v0 : Nat) (v1 : Int32) (v2 : Int32) (M : zM) : Option (Int32 × zM) :=
  zthis 9 M v0 (
    if v1 < 0 then (
      (fp_X11_refuse v0 1 M).bind fun p3 => zpp p3 fun (y1 : Int32) (M2 : zM) =>
      some (y1, M2))
    else (
      (fp_X11_isFrom v2 0 2).bind fun (y4 : Int32) =>
      if y4 ≠ 0 then (
        (fp_X11_laysPieces v0 M).bind fun (M5 : zM) =>
        (zgI 9 M5 v0 28).bind fun (y6 : Int32) =>
        if v1 < y6 then (
          fp_X11_piece_L43
            (fun v3_14 =>
              if v2 ≠ 0 then (
                if v2 ≠ 1 then (
                  (fp_X11_gives v0 v3_14 M5).bind fun p17 => zpp p17 fun (y15 : Int32) (M16 : zM) =>
                  some (y15, M16))
                else (
                  (zgR 9 M5 v0 23).bind fun (y18 : Nat) =>
                  (zlI 100 M5 y18 v1).bind fun (y19 : Int32) =>
                  (fp_X11_gives v0 y19 M5).bind fun p22 => zpp p22 fun (y20 : Int32) (M21 : zM) =>
                  some (y20, M21)))
              else (
                (fp_X11_kindOf v0 v1 M5).bind fun (y23 : Int32) =>
                (fp_X11_gives v0 y23 M5).bind fun p26 => zpp p26 fun (y24 : Int32) (M25 : zM) =>
                some (y24, M25))) v0 v1 v2 M5 FU 0 0)
        else (
          (fp_X11_refuse v0 6 M5).bind fun p29 => zpp p29 fun (y27 : Int32) (M28 : zM) =>
          some (y27, M28)))
      else (
        (fp_X11_refuse v0 1 M).bind fun p32 => zpp p32 fun (y30 : Int32) (M31 : zM) =>
        some (y30, M31))))
set_option maxHeartbeats 4000000 in
set_option maxRecDepth 100000 in
theorem th_X11_piece {v0 : Nat} {v1 : Int32} {v2 : Int32} {M : zM} {x0 : Int32 × zM} (h : fp_X11_piece v0 v1 v2 M = some x0) : v0 < zS M ∧ kd v0 = 9 := by
  unfold fp_X11_piece at h
  exact zthis_of h
set_option maxHeartbeats 4000000 in
set_option maxRecDepth 100000 in
theorem w_X11_piece_L43 (E : zEnv) (hE : zEok E) (d : Nat) (hd : 6 ≤ d) (M0 : zM) (x0 : Int32 × zM) (v0 : Nat) (v1 : Int32) (v2 : Int32) (M : zM) (k85 : Int32 → Option (Int32 × zM)) (hk85 : ∀ (v3 : Int32), zSy E mu_X11_piece d M0 (some (.int x0.1), x0.2) x0 (k85 v3) 85 [(0, .ref (E.2.2.2.1 + v0)), (1, .int v1), (2, .int v2), (3, .int v3)] [] M) : ∀ (n : Nat) (v3 : Int32) (v4 : Int32), zSy E mu_X11_piece d M0 (some (.int x0.1), x0.2) x0 (fp_X11_piece_L43 k85 v0 v1 v2 M n v3 v4) 43 [(0, .ref (E.2.2.2.1 + v0)), (1, .int v1), (2, .int v2), (3, .int v3), (4, .int v4)] [] M := by
  intro n
  induction n with
  | zero =>
    intro v3 v4
    rw [fp_X11_piece_L43]
    exact zs_none
  | succ n ih =>
    intro v3 v4
    rw [fp_X11_piece_L43]
    refine zs_iload dX11_piece_43 4 rfl ?_
    refine zs_aload_n dX11_piece_45 rfl 0 rfl ?_
    refine zs_getR dX11_piece_46 fl_X11_52 rfl (fun y7 => ?_)
    refine zs_iload_n dX11_piece_49 rfl 1 rfl ?_
    refine zs_ldI dX11_piece_50 (fun y8 => ?_)
    refine zs_icmp_ge dX11_piece_51 rfl ?_ ?_
    · refine zs_sub (loc' := [(0, .ref (E.2.2.2.1 + v0)), (1, .int v1), (2, .int v2), (3, .int v3)]) [0, 1, 2, 3] rfl ?_
      exact hk85 v3
    refine zs_iload_n dX11_piece_54 rfl 3 rfl ?_
    refine zs_aload_n dX11_piece_55 rfl 0 rfl ?_
    refine zs_getR dX11_piece_56 fl_X11_55 rfl (fun y9 => ?_)
    refine zs_bipush (v := 8) dX11_piece_59 cbipush_8 ?_
    refine zs_iload_n dX11_piece_61 rfl 1 rfl ?_
    refine zs_imul dX11_piece_62 ?_
    refine zs_iload dX11_piece_63 4 rfl ?_
    refine zs_iadd dX11_piece_65 ?_
    refine zs_ldI dX11_piece_66 (fun y10 => ?_)
    refine zs_bipush (v := 10) dX11_piece_67 cbipush_10 ?_
    refine zs_jn (fun j77 => ∀ (s11 : Int32) (s12 : Int32), zSy E mu_X11_piece d M0 (some (.int x0.1), x0.2) x0 (j77 s11 s12) 77 [(0, .ref (E.2.2.2.1 + v0)), (1, .int v1), (2, .int v2), (4, .int v4)] [.int s11, .int s12] M) (fun s11 s12 => ?_) (fun j77 hj77 => ?_)
    · refine zs_iadd dX11_piece_77 ?_
      refine zs_istore_nL (loc' := fun v3_13 => [(0, .ref (E.2.2.2.1 + v0)), (1, .int v1), (2, .int v2), (3, .int v3_13), (4, .int v4)]) dX11_piece_78 rfl (Nat.le_of_ble_eq_true rfl) [1, 2, 3, 0, 4] (fun _ => rfl) (fun v3_13 => ?_)
      refine zs_iinc (v := (v4 + 1)) (loc' := [(0, .ref (E.2.2.2.1 + v0)), (1, .int v1), (2, .int v2), (3, .int v3_13), (4, .int (v4 + 1))]) dX11_piece_79 4 rfl (by rfl) (Nat.le_of_ble_eq_true rfl) [1, 2, 3, 4, 0] rfl ?_
      refine zs_goto dX11_piece_82 rfl ?_
      exact ih v3_13 (v4 + 1)
    refine zs_icmp_lt dX11_piece_69 rfl ?_ ?_
    · refine zs_iconst (v := 0) dX11_piece_76 ciconst_0 ?_
      refine zs_sub (loc' := [(0, .ref (E.2.2.2.1 + v0)), (1, .int v1), (2, .int v2), (4, .int v4)]) [0, 1, 2, 4] rfl ?_
      exact hj77 0 v3
    refine zs_iconst (v := 1) dX11_piece_72 ciconst_1 ?_
    refine zs_goto dX11_piece_73 rfl ?_
    refine zs_sub (loc' := [(0, .ref (E.2.2.2.1 + v0)), (1, .int v1), (2, .int v2), (4, .int v4)]) [0, 1, 2, 4] rfl ?_
    exact hj77 1 v3
set_option maxHeartbeats 4000000 in
set_option maxRecDepth 100000 in
theorem ct_X11_piece (E : zEnv) (hE : zEok E) (d : Nat) (hd : 6 ≤ d) (v0 : Nat) (v1 : Int32) (v2 : Int32) (M : zM) (x0 : Int32 × zM) (hx : fp_X11_piece v0 v1 v2 M = some x0) : zCt E mu_X11_piece d [.ref (E.2.2.2.1 + v0), .int v1, .int v2] M (some (.int x0.1), x0.2) := by
  refine zCt_of (μ := mu_X11_piece) (t := fp_X11_piece v0 v1 v2 M) rfl rfl (Nat.le_of_ble_eq_true rfl) hx ?_
  change zSy E mu_X11_piece d M (some (.int x0.1), x0.2) x0 (fp_X11_piece v0 v1 v2 M) 0 [(0, .ref (E.2.2.2.1 + v0)), (1, .int v1), (2, .int v2)] [] M
  unfold fp_X11_piece
  refine zs_this (fun hth => ?_)
  refine zs_iload_n dX11_piece_0 rfl 1 rfl ?_
  refine zs_if_lt dX11_piece_1 rfl ?_ ?_
  · refine zs_aload_n dX11_piece_13 rfl 0 rfl ?_
    refine zs_iconst (v := 1) dX11_piece_14 ciconst_1 ?_
    refine zs_invVWI (rest := []) [.int 1] dX11_piece_15 lk_X11_226 rfl (fun _ h => th_X11_refuse h) (zd1 rfl hd) rfl (Nat.le_of_ble_eq_true rfl) (ct_X11_refuse E hE _ (zdl rfl hd) _ _ _) (fun y1 M2 => ?_)
    exact zs_iretW dX11_piece_18 rfl
  refine zs_iload_n dX11_piece_4 rfl 2 rfl ?_
  refine zs_iconst (v := 0) dX11_piece_5 ciconst_0 ?_
  refine zs_iconst (v := 2) dX11_piece_6 ciconst_2 ?_
  refine zs_invSPI (rest := []) [.int v2, .int 0, .int 2] dX11_piece_7 lk_X11_195 rfl (zd1 rfl hd) rfl (Nat.le_of_ble_eq_true rfl) (ct_X11_isFrom E hE _ (zdl rfl hd) _ _ _ _) (fun y4 => ?_)
  refine zs_if_ne dX11_piece_10 rfl ?_ ?_
  · refine zs_aload_n dX11_piece_19 rfl 0 rfl ?_
    refine zs_invVWV (rest := []) [] dX11_piece_20 lk_X11_257 rfl (fun _ h => th_X11_laysPieces h) (zd1 rfl hd) rfl (Nat.le_of_ble_eq_true rfl) (ct_X11_laysPieces E hE _ (zdl rfl hd) _ _) (fun M5 => ?_)
    refine zs_iload_n dX11_piece_23 rfl 1 rfl ?_
    refine zs_aload_n dX11_piece_24 rfl 0 rfl ?_
    refine zs_getI dX11_piece_25 fl_X11_260 rfl (fun y6 => ?_)
    refine zs_icmp_lt dX11_piece_28 rfl ?_ ?_
    · refine zs_iconst (v := 0) dX11_piece_38 ciconst_0 ?_
      refine zs_istore_n (loc' := [(0, .ref (E.2.2.2.1 + v0)), (1, .int v1), (2, .int v2), (3, .int 0)]) dX11_piece_39 rfl (Nat.le_of_ble_eq_true rfl) [1, 2, 3, 0] rfl ?_
      refine zs_iconst (v := 0) dX11_piece_40 ciconst_0 ?_
      refine zs_istore (loc' := [(0, .ref (E.2.2.2.1 + v0)), (1, .int v1), (2, .int v2), (3, .int 0), (4, .int 0)]) dX11_piece_41 (Nat.le_of_ble_eq_true rfl) [1, 2, 3, 4, 0] rfl ?_
      refine w_X11_piece_L43 E hE d hd _ _ _ _ _ _ _ (fun v3_14 => ?_) _ _ _
      refine zs_aload_n dX11_piece_85 rfl 0 rfl ?_
      refine zs_iload_n dX11_piece_86 rfl 2 rfl ?_
      refine zs_if_ne dX11_piece_87 rfl ?_ ?_
      · refine zs_iload_n dX11_piece_98 rfl 2 rfl ?_
        refine zs_iconst (v := 1) dX11_piece_99 ciconst_1 ?_
        refine zs_icmp_ne dX11_piece_100 rfl ?_ ?_
        · refine zs_iload_n dX11_piece_112 rfl 3 rfl ?_
          refine zs_invVWI (rest := []) [.int v3_14] dX11_piece_113 lk_X11_242 rfl (fun _ h => th_X11_gives h) (zd1 rfl hd) rfl (Nat.le_of_ble_eq_true rfl) (ct_X11_gives E hE _ (zdl rfl hd) _ _ _) (fun y15 M16 => ?_)
          exact zs_iretW dX11_piece_116 rfl
        refine zs_aload_n dX11_piece_103 rfl 0 rfl ?_
        refine zs_getR dX11_piece_104 fl_X11_52 rfl (fun y18 => ?_)
        refine zs_iload_n dX11_piece_107 rfl 1 rfl ?_
        refine zs_ldI dX11_piece_108 (fun y19 => ?_)
        refine zs_goto dX11_piece_109 rfl ?_
        refine zs_invVWI (rest := []) [.int y19] dX11_piece_113 lk_X11_242 rfl (fun _ h => th_X11_gives h) (zd1 rfl hd) rfl (Nat.le_of_ble_eq_true rfl) (ct_X11_gives E hE _ (zdl rfl hd) _ _ _) (fun y20 M21 => ?_)
        exact zs_iretW dX11_piece_116 rfl
      refine zs_aload_n dX11_piece_90 rfl 0 rfl ?_
      refine zs_iload_n dX11_piece_91 rfl 1 rfl ?_
      refine zs_invVPI (rest := [.ref (E.2.2.2.1 + v0)]) [.int v1] dX11_piece_92 lk_X11_319 rfl (fun _ h => th_X11_kindOf h) (zd1 rfl hd) rfl (Nat.le_of_ble_eq_true rfl) (ct_X11_kindOf E hE _ (zdl rfl hd) _ _ _) (fun y23 => ?_)
      refine zs_goto dX11_piece_95 rfl ?_
      refine zs_invVWI (rest := []) [.int y23] dX11_piece_113 lk_X11_242 rfl (fun _ h => th_X11_gives h) (zd1 rfl hd) rfl (Nat.le_of_ble_eq_true rfl) (ct_X11_gives E hE _ (zdl rfl hd) _ _ _) (fun y24 M25 => ?_)
      exact zs_iretW dX11_piece_116 rfl
    refine zs_aload_n dX11_piece_31 rfl 0 rfl ?_
    refine zs_bipush (v := 6) dX11_piece_32 cbipush_6 ?_
    refine zs_invVWI (rest := []) [.int 6] dX11_piece_34 lk_X11_226 rfl (fun _ h => th_X11_refuse h) (zd1 rfl hd) rfl (Nat.le_of_ble_eq_true rfl) (ct_X11_refuse E hE _ (zdl rfl hd) _ _ _) (fun y27 M28 => ?_)
    exact zs_iretW dX11_piece_37 rfl
  refine zs_aload_n dX11_piece_13 rfl 0 rfl ?_
  refine zs_iconst (v := 1) dX11_piece_14 ciconst_1 ?_
  refine zs_invVWI (rest := []) [.int 1] dX11_piece_15 lk_X11_226 rfl (fun _ h => th_X11_refuse h) (zd1 rfl hd) rfl (Nat.le_of_ble_eq_true rfl) (ct_X11_refuse E hE _ (zdl rfl hd) _ _ _) (fun y30 M31 => ?_)
  exact zs_iretW dX11_piece_18 rfl
theorem dX11_wrongKnot_0 : decode cX11_wrongKnot 0 = .ok (.iload_n 1, 1) := by decide +kernel
theorem dX11_wrongKnot_1 : decode cX11_wrongKnot 1 = .ok (.ifCond .lt 7, 3) := by decide +kernel
theorem dX11_wrongKnot_4 : decode cX11_wrongKnot 4 = .ok (.iload_n 2, 1) := by decide +kernel
theorem dX11_wrongKnot_5 : decode cX11_wrongKnot 5 = .ok (.ifCond .ge 5, 3) := by decide +kernel
theorem dX11_wrongKnot_8 : decode cX11_wrongKnot 8 = .ok (.iconst 1, 1) := by decide +kernel
theorem dX11_wrongKnot_9 : decode cX11_wrongKnot 9 = .ok (.ireturn, 1) := by decide +kernel
theorem dX11_wrongKnot_10 : decode cX11_wrongKnot 10 = .ok (.aload_n 0, 1) := by decide +kernel
theorem dX11_wrongKnot_11 : decode cX11_wrongKnot 11 = .ok (.invokevirtual 257, 3) := by decide +kernel
theorem dX11_wrongKnot_14 : decode cX11_wrongKnot 14 = .ok (.iload_n 1, 1) := by decide +kernel
theorem dX11_wrongKnot_15 : decode cX11_wrongKnot 15 = .ok (.aload_n 0, 1) := by decide +kernel
theorem dX11_wrongKnot_16 : decode cX11_wrongKnot 16 = .ok (.getfield 260, 3) := by decide +kernel
theorem dX11_wrongKnot_19 : decode cX11_wrongKnot 19 = .ok (.if_icmp .ge 17, 3) := by decide +kernel
theorem dX11_wrongKnot_22 : decode cX11_wrongKnot 22 = .ok (.iload_n 2, 1) := by decide +kernel
theorem dX11_wrongKnot_23 : decode cX11_wrongKnot 23 = .ok (.aload_n 0, 1) := by decide +kernel
theorem dX11_wrongKnot_24 : decode cX11_wrongKnot 24 = .ok (.getfield 52, 3) := by decide +kernel
theorem dX11_wrongKnot_27 : decode cX11_wrongKnot 27 = .ok (.iload_n 1, 1) := by decide +kernel
theorem dX11_wrongKnot_28 : decode cX11_wrongKnot 28 = .ok (.iaload, 1) := by decide +kernel
theorem dX11_wrongKnot_29 : decode cX11_wrongKnot 29 = .ok (.if_icmp .ge 7, 3) := by decide +kernel
theorem dX11_wrongKnot_32 : decode cX11_wrongKnot 32 = .ok (.iconst 0, 1) := by decide +kernel
theorem dX11_wrongKnot_33 : decode cX11_wrongKnot 33 = .ok (.goto 5, 3) := by decide +kernel
theorem dX11_wrongKnot_36 : decode cX11_wrongKnot 36 = .ok (.bipush 6, 2) := by decide +kernel
theorem dX11_wrongKnot_38 : decode cX11_wrongKnot 38 = .ok (.ireturn, 1) := by decide +kernel
def fp_X11_wrongKnot (v0 : Nat) (v1 : Int32) (v2 : Int32) (M : zM) : Option (Int32 × zM) :=
  zthis 9 M v0 (
    if v1 < 0 then (
      some (1, M))
    else (
      if v2 ≥ 0 then (
        (fp_X11_laysPieces v0 M).bind fun (M1 : zM) =>
        (zgI 9 M1 v0 28).bind fun (y2 : Int32) =>
        if v1 ≥ y2 then (
          some (6, M1))
        else (
          (zgR 9 M1 v0 23).bind fun (y3 : Nat) =>
          (zlI 100 M1 y3 v1).bind fun (y4 : Int32) =>
          if v2 ≥ y4 then (
            some (6, M1))
          else (
            some (0, M1))))
      else (
        some (1, M))))
set_option maxHeartbeats 4000000 in
set_option maxRecDepth 100000 in
theorem th_X11_wrongKnot {v0 : Nat} {v1 : Int32} {v2 : Int32} {M : zM} {x0 : Int32 × zM} (h : fp_X11_wrongKnot v0 v1 v2 M = some x0) : v0 < zS M ∧ kd v0 = 9 := by
  unfold fp_X11_wrongKnot at h
  exact zthis_of h
set_option maxHeartbeats 4000000 in
set_option maxRecDepth 100000 in
theorem ct_X11_wrongKnot (E : zEnv) (hE : zEok E) (d : Nat) (hd : 6 ≤ d) (v0 : Nat) (v1 : Int32) (v2 : Int32) (M : zM) (x0 : Int32 × zM) (hx : fp_X11_wrongKnot v0 v1 v2 M = some x0) : zCt E mu_X11_wrongKnot d [.ref (E.2.2.2.1 + v0), .int v1, .int v2] M (some (.int x0.1), x0.2) := by
  refine zCt_of (μ := mu_X11_wrongKnot) (t := fp_X11_wrongKnot v0 v1 v2 M) rfl rfl (Nat.le_of_ble_eq_true rfl) hx ?_
  change zSy E mu_X11_wrongKnot d M (some (.int x0.1), x0.2) x0 (fp_X11_wrongKnot v0 v1 v2 M) 0 [(0, .ref (E.2.2.2.1 + v0)), (1, .int v1), (2, .int v2)] [] M
  unfold fp_X11_wrongKnot
  refine zs_this (fun hth => ?_)
  refine zs_iload_n dX11_wrongKnot_0 rfl 1 rfl ?_
  refine zs_if_lt dX11_wrongKnot_1 rfl ?_ ?_
  · refine zs_iconst (v := 1) dX11_wrongKnot_8 ciconst_1 ?_
    exact zs_iretW dX11_wrongKnot_9 rfl
  refine zs_iload_n dX11_wrongKnot_4 rfl 2 rfl ?_
  refine zs_if_ge dX11_wrongKnot_5 rfl ?_ ?_
  · refine zs_aload_n dX11_wrongKnot_10 rfl 0 rfl ?_
    refine zs_invVWV (rest := []) [] dX11_wrongKnot_11 lk_X11_257 rfl (fun _ h => th_X11_laysPieces h) (zd1 rfl hd) rfl (Nat.le_of_ble_eq_true rfl) (ct_X11_laysPieces E hE _ (zdl rfl hd) _ _) (fun M1 => ?_)
    refine zs_iload_n dX11_wrongKnot_14 rfl 1 rfl ?_
    refine zs_aload_n dX11_wrongKnot_15 rfl 0 rfl ?_
    refine zs_getI dX11_wrongKnot_16 fl_X11_260 rfl (fun y2 => ?_)
    refine zs_icmp_ge dX11_wrongKnot_19 rfl ?_ ?_
    · refine zs_bipush (v := 6) dX11_wrongKnot_36 cbipush_6 ?_
      exact zs_iretW dX11_wrongKnot_38 rfl
    refine zs_iload_n dX11_wrongKnot_22 rfl 2 rfl ?_
    refine zs_aload_n dX11_wrongKnot_23 rfl 0 rfl ?_
    refine zs_getR dX11_wrongKnot_24 fl_X11_52 rfl (fun y3 => ?_)
    refine zs_iload_n dX11_wrongKnot_27 rfl 1 rfl ?_
    refine zs_ldI dX11_wrongKnot_28 (fun y4 => ?_)
    refine zs_icmp_ge dX11_wrongKnot_29 rfl ?_ ?_
    · refine zs_bipush (v := 6) dX11_wrongKnot_36 cbipush_6 ?_
      exact zs_iretW dX11_wrongKnot_38 rfl
    refine zs_iconst (v := 0) dX11_wrongKnot_32 ciconst_0 ?_
    refine zs_goto dX11_wrongKnot_33 rfl ?_
    exact zs_iretW dX11_wrongKnot_38 rfl
  refine zs_iconst (v := 1) dX11_wrongKnot_8 ciconst_1 ?_
  exact zs_iretW dX11_wrongKnot_9 rfl
theorem dX11_knot_0 : decode cX11_knot 0 = .ok (.aload_n 0, 1) := by decide +kernel
theorem dX11_knot_1 : decode cX11_knot 1 = .ok (.iload_n 1, 1) := by decide +kernel
theorem dX11_knot_2 : decode cX11_knot 2 = .ok (.iload_n 2, 1) := by decide +kernel
theorem dX11_knot_3 : decode cX11_knot 3 = .ok (.invokevirtual 322, 3) := by decide +kernel
theorem dX11_knot_6 : decode cX11_knot 6 = .ok (.istore_n 3, 1) := by decide +kernel
theorem dX11_knot_7 : decode cX11_knot 7 = .ok (.iload_n 3, 1) := by decide +kernel
theorem dX11_knot_8 : decode cX11_knot 8 = .ok (.ifCond .le 11, 3) := by decide +kernel
theorem dX11_knot_11 : decode cX11_knot 11 = .ok (.aload_n 0, 1) := by decide +kernel
theorem dX11_knot_12 : decode cX11_knot 12 = .ok (.iload_n 3, 1) := by decide +kernel
theorem dX11_knot_13 : decode cX11_knot 13 = .ok (.invokevirtual 226, 3) := by decide +kernel
theorem dX11_knot_16 : decode cX11_knot 16 = .ok (.goto 18, 3) := by decide +kernel
theorem dX11_knot_19 : decode cX11_knot 19 = .ok (.aload_n 0, 1) := by decide +kernel
theorem dX11_knot_20 : decode cX11_knot 20 = .ok (.aload_n 0, 1) := by decide +kernel
theorem dX11_knot_21 : decode cX11_knot 21 = .ok (.getfield 55, 3) := by decide +kernel
theorem dX11_knot_24 : decode cX11_knot 24 = .ok (.bipush 8, 2) := by decide +kernel
theorem dX11_knot_26 : decode cX11_knot 26 = .ok (.iload_n 1, 1) := by decide +kernel
theorem dX11_knot_27 : decode cX11_knot 27 = .ok (.imul, 1) := by decide +kernel
theorem dX11_knot_28 : decode cX11_knot 28 = .ok (.iload_n 2, 1) := by decide +kernel
theorem dX11_knot_29 : decode cX11_knot 29 = .ok (.iadd, 1) := by decide +kernel
theorem dX11_knot_30 : decode cX11_knot 30 = .ok (.iaload, 1) := by decide +kernel
theorem dX11_knot_31 : decode cX11_knot 31 = .ok (.invokevirtual 242, 3) := by decide +kernel
theorem dX11_knot_34 : decode cX11_knot 34 = .ok (.ireturn, 1) := by decide +kernel
def fp_X11_knot (v0 : Nat) (v1 : Int32) (v2 : Int32) (M : zM) : Option (Int32 × zM) :=
  zthis 9 M v0 (
    (fp_X11_wrongKnot v0 v1 v2 M).bind fun p3 => zpp p3 fun (y1 : Int32) (M2 : zM) =>
    if y1 ≤ 0 then (
      (zgR 9 M2 v0 24).bind fun (y4 : Nat) =>
      (zlI 100 M2 y4 ((8 * v1) + v2)).bind fun (y5 : Int32) =>
      (fp_X11_gives v0 y5 M2).bind fun p8 => zpp p8 fun (y6 : Int32) (M7 : zM) =>
      some (y6, M7))
    else (
      (fp_X11_refuse v0 y1 M2).bind fun p11 => zpp p11 fun (y9 : Int32) (M10 : zM) =>
      some (y9, M10)))
set_option maxHeartbeats 4000000 in
set_option maxRecDepth 100000 in
theorem th_X11_knot {v0 : Nat} {v1 : Int32} {v2 : Int32} {M : zM} {x0 : Int32 × zM} (h : fp_X11_knot v0 v1 v2 M = some x0) : v0 < zS M ∧ kd v0 = 9 := by
  unfold fp_X11_knot at h
  exact zthis_of h
set_option maxHeartbeats 4000000 in
set_option maxRecDepth 100000 in
theorem ct_X11_knot (E : zEnv) (hE : zEok E) (d : Nat) (hd : 7 ≤ d) (v0 : Nat) (v1 : Int32) (v2 : Int32) (M : zM) (x0 : Int32 × zM) (hx : fp_X11_knot v0 v1 v2 M = some x0) : zCt E mu_X11_knot d [.ref (E.2.2.2.1 + v0), .int v1, .int v2] M (some (.int x0.1), x0.2) := by
  refine zCt_of (μ := mu_X11_knot) (t := fp_X11_knot v0 v1 v2 M) rfl rfl (Nat.le_of_ble_eq_true rfl) hx ?_
  change zSy E mu_X11_knot d M (some (.int x0.1), x0.2) x0 (fp_X11_knot v0 v1 v2 M) 0 [(0, .ref (E.2.2.2.1 + v0)), (1, .int v1), (2, .int v2)] [] M
  unfold fp_X11_knot
  refine zs_this (fun hth => ?_)
  refine zs_aload_n dX11_knot_0 rfl 0 rfl ?_
  refine zs_iload_n dX11_knot_1 rfl 1 rfl ?_
  refine zs_iload_n dX11_knot_2 rfl 2 rfl ?_
  refine zs_invVWI (rest := []) [.int v1, .int v2] dX11_knot_3 lk_X11_322 rfl (fun _ h => th_X11_wrongKnot h) (zd1 rfl hd) rfl (Nat.le_of_ble_eq_true rfl) (ct_X11_wrongKnot E hE _ (zdl rfl hd) _ _ _ _) (fun y1 M2 => ?_)
  refine zs_istore_n (loc' := [(0, .ref (E.2.2.2.1 + v0)), (1, .int v1), (2, .int v2), (3, .int y1)]) dX11_knot_6 rfl (Nat.le_of_ble_eq_true rfl) [1, 2, 3, 0] rfl ?_
  refine zs_iload_n dX11_knot_7 rfl 3 rfl ?_
  refine zs_if_le dX11_knot_8 rfl ?_ ?_
  · refine zs_aload_n dX11_knot_19 rfl 0 rfl ?_
    refine zs_aload_n dX11_knot_20 rfl 0 rfl ?_
    refine zs_getR dX11_knot_21 fl_X11_55 rfl (fun y4 => ?_)
    refine zs_bipush (v := 8) dX11_knot_24 cbipush_8 ?_
    refine zs_iload_n dX11_knot_26 rfl 1 rfl ?_
    refine zs_imul dX11_knot_27 ?_
    refine zs_iload_n dX11_knot_28 rfl 2 rfl ?_
    refine zs_iadd dX11_knot_29 ?_
    refine zs_ldI dX11_knot_30 (fun y5 => ?_)
    refine zs_invVWI (rest := []) [.int y5] dX11_knot_31 lk_X11_242 rfl (fun _ h => th_X11_gives h) (zd1 rfl hd) rfl (Nat.le_of_ble_eq_true rfl) (ct_X11_gives E hE _ (zdl rfl hd) _ _ _) (fun y6 M7 => ?_)
    exact zs_iretW dX11_knot_34 rfl
  refine zs_aload_n dX11_knot_11 rfl 0 rfl ?_
  refine zs_iload_n dX11_knot_12 rfl 3 rfl ?_
  refine zs_invVWI (rest := []) [.int y1] dX11_knot_13 lk_X11_226 rfl (fun _ h => th_X11_refuse h) (zd1 rfl hd) rfl (Nat.le_of_ble_eq_true rfl) (ct_X11_refuse E hE _ (zdl rfl hd) _ _ _) (fun y9 M10 => ?_)
  refine zs_goto dX11_knot_16 rfl ?_
  exact zs_iretW dX11_knot_34 rfl
theorem dX11_ties_0 : decode cX11_ties 0 = .ok (.aload_n 0, 1) := by decide +kernel
theorem dX11_ties_1 : decode cX11_ties 1 = .ok (.iload_n 1, 1) := by decide +kernel
theorem dX11_ties_2 : decode cX11_ties 2 = .ok (.iload_n 2, 1) := by decide +kernel
theorem dX11_ties_3 : decode cX11_ties 3 = .ok (.invokevirtual 322, 3) := by decide +kernel
theorem dX11_ties_6 : decode cX11_ties 6 = .ok (.istore_n 3, 1) := by decide +kernel
theorem dX11_ties_7 : decode cX11_ties 7 = .ok (.iload_n 3, 1) := by decide +kernel
theorem dX11_ties_8 : decode cX11_ties 8 = .ok (.ifCond .le 11, 3) := by decide +kernel
theorem dX11_ties_11 : decode cX11_ties 11 = .ok (.aload_n 0, 1) := by decide +kernel
theorem dX11_ties_12 : decode cX11_ties 12 = .ok (.iload_n 3, 1) := by decide +kernel
theorem dX11_ties_13 : decode cX11_ties 13 = .ok (.invokevirtual 226, 3) := by decide +kernel
theorem dX11_ties_16 : decode cX11_ties 16 = .ok (.goto 18, 3) := by decide +kernel
theorem dX11_ties_19 : decode cX11_ties 19 = .ok (.aload_n 0, 1) := by decide +kernel
theorem dX11_ties_20 : decode cX11_ties 20 = .ok (.aload_n 0, 1) := by decide +kernel
theorem dX11_ties_21 : decode cX11_ties 21 = .ok (.getfield 58, 3) := by decide +kernel
theorem dX11_ties_24 : decode cX11_ties 24 = .ok (.bipush 8, 2) := by decide +kernel
theorem dX11_ties_26 : decode cX11_ties 26 = .ok (.iload_n 1, 1) := by decide +kernel
theorem dX11_ties_27 : decode cX11_ties 27 = .ok (.imul, 1) := by decide +kernel
theorem dX11_ties_28 : decode cX11_ties 28 = .ok (.iload_n 2, 1) := by decide +kernel
theorem dX11_ties_29 : decode cX11_ties 29 = .ok (.iadd, 1) := by decide +kernel
theorem dX11_ties_30 : decode cX11_ties 30 = .ok (.iaload, 1) := by decide +kernel
theorem dX11_ties_31 : decode cX11_ties 31 = .ok (.invokevirtual 242, 3) := by decide +kernel
theorem dX11_ties_34 : decode cX11_ties 34 = .ok (.ireturn, 1) := by decide +kernel
def fp_X11_ties (v0 : Nat) (v1 : Int32) (v2 : Int32) (M : zM) : Option (Int32 × zM) :=
  zthis 9 M v0 (
    (fp_X11_wrongKnot v0 v1 v2 M).bind fun p3 => zpp p3 fun (y1 : Int32) (M2 : zM) =>
    if y1 ≤ 0 then (
      (zgR 9 M2 v0 25).bind fun (y4 : Nat) =>
      (zlI 100 M2 y4 ((8 * v1) + v2)).bind fun (y5 : Int32) =>
      (fp_X11_gives v0 y5 M2).bind fun p8 => zpp p8 fun (y6 : Int32) (M7 : zM) =>
      some (y6, M7))
    else (
      (fp_X11_refuse v0 y1 M2).bind fun p11 => zpp p11 fun (y9 : Int32) (M10 : zM) =>
      some (y9, M10)))
set_option maxHeartbeats 4000000 in
set_option maxRecDepth 100000 in
theorem th_X11_ties {v0 : Nat} {v1 : Int32} {v2 : Int32} {M : zM} {x0 : Int32 × zM} (h : fp_X11_ties v0 v1 v2 M = some x0) : v0 < zS M ∧ kd v0 = 9 := by
  unfold fp_X11_ties at h
  exact zthis_of h
set_option maxHeartbeats 4000000 in
set_option maxRecDepth 100000 in
theorem ct_X11_ties (E : zEnv) (hE : zEok E) (d : Nat) (hd : 7 ≤ d) (v0 : Nat) (v1 : Int32) (v2 : Int32) (M : zM) (x0 : Int32 × zM) (hx : fp_X11_ties v0 v1 v2 M = some x0) : zCt E mu_X11_ties d [.ref (E.2.2.2.1 + v0), .int v1, .int v2] M (some (.int x0.1), x0.2) := by
  refine zCt_of (μ := mu_X11_ties) (t := fp_X11_ties v0 v1 v2 M) rfl rfl (Nat.le_of_ble_eq_true rfl) hx ?_
  change zSy E mu_X11_ties d M (some (.int x0.1), x0.2) x0 (fp_X11_ties v0 v1 v2 M) 0 [(0, .ref (E.2.2.2.1 + v0)), (1, .int v1), (2, .int v2)] [] M
  unfold fp_X11_ties
  refine zs_this (fun hth => ?_)
  refine zs_aload_n dX11_ties_0 rfl 0 rfl ?_
  refine zs_iload_n dX11_ties_1 rfl 1 rfl ?_
  refine zs_iload_n dX11_ties_2 rfl 2 rfl ?_
  refine zs_invVWI (rest := []) [.int v1, .int v2] dX11_ties_3 lk_X11_322 rfl (fun _ h => th_X11_wrongKnot h) (zd1 rfl hd) rfl (Nat.le_of_ble_eq_true rfl) (ct_X11_wrongKnot E hE _ (zdl rfl hd) _ _ _ _) (fun y1 M2 => ?_)
  refine zs_istore_n (loc' := [(0, .ref (E.2.2.2.1 + v0)), (1, .int v1), (2, .int v2), (3, .int y1)]) dX11_ties_6 rfl (Nat.le_of_ble_eq_true rfl) [1, 2, 3, 0] rfl ?_
  refine zs_iload_n dX11_ties_7 rfl 3 rfl ?_
  refine zs_if_le dX11_ties_8 rfl ?_ ?_
  · refine zs_aload_n dX11_ties_19 rfl 0 rfl ?_
    refine zs_aload_n dX11_ties_20 rfl 0 rfl ?_
    refine zs_getR dX11_ties_21 fl_X11_58 rfl (fun y4 => ?_)
    refine zs_bipush (v := 8) dX11_ties_24 cbipush_8 ?_
    refine zs_iload_n dX11_ties_26 rfl 1 rfl ?_
    refine zs_imul dX11_ties_27 ?_
    refine zs_iload_n dX11_ties_28 rfl 2 rfl ?_
    refine zs_iadd dX11_ties_29 ?_
    refine zs_ldI dX11_ties_30 (fun y5 => ?_)
    refine zs_invVWI (rest := []) [.int y5] dX11_ties_31 lk_X11_242 rfl (fun _ h => th_X11_gives h) (zd1 rfl hd) rfl (Nat.le_of_ble_eq_true rfl) (ct_X11_gives E hE _ (zdl rfl hd) _ _ _) (fun y6 M7 => ?_)
    exact zs_iretW dX11_ties_34 rfl
  refine zs_aload_n dX11_ties_11 rfl 0 rfl ?_
  refine zs_iload_n dX11_ties_12 rfl 3 rfl ?_
  refine zs_invVWI (rest := []) [.int y1] dX11_ties_13 lk_X11_226 rfl (fun _ h => th_X11_refuse h) (zd1 rfl hd) rfl (Nat.le_of_ble_eq_true rfl) (ct_X11_refuse E hE _ (zdl rfl hd) _ _ _) (fun y9 M10 => ?_)
  refine zs_goto dX11_ties_16 rfl ?_
  exact zs_iretW dX11_ties_34 rfl
theorem dX11_plain_0 : decode cX11_plain 0 = .ok (.iconst 1, 1) := by decide +kernel
theorem dX11_plain_1 : decode cX11_plain 1 = .ok (.istore_n 1, 1) := by decide +kernel
theorem dX11_plain_2 : decode cX11_plain 2 = .ok (.aload_n 0, 1) := by decide +kernel
theorem dX11_plain_3 : decode cX11_plain 3 = .ok (.invokevirtual 257, 3) := by decide +kernel
theorem dX11_plain_6 : decode cX11_plain 6 = .ok (.iconst 0, 1) := by decide +kernel
theorem dX11_plain_7 : decode cX11_plain 7 = .ok (.istore_n 2, 1) := by decide +kernel
theorem dX11_plain_8 : decode cX11_plain 8 = .ok (.iload_n 2, 1) := by decide +kernel
theorem dX11_plain_9 : decode cX11_plain 9 = .ok (.aload_n 0, 1) := by decide +kernel
theorem dX11_plain_10 : decode cX11_plain 10 = .ok (.getfield 260, 3) := by decide +kernel
theorem dX11_plain_13 : decode cX11_plain 13 = .ok (.if_icmp .ge 28, 3) := by decide +kernel
theorem dX11_plain_16 : decode cX11_plain 16 = .ok (.iload_n 1, 1) := by decide +kernel
theorem dX11_plain_17 : decode cX11_plain 17 = .ok (.ifCond .eq 16, 3) := by decide +kernel
theorem dX11_plain_20 : decode cX11_plain 20 = .ok (.aload_n 0, 1) := by decide +kernel
theorem dX11_plain_21 : decode cX11_plain 21 = .ok (.iload_n 2, 1) := by decide +kernel
theorem dX11_plain_22 : decode cX11_plain 22 = .ok (.invokevirtual 319, 3) := by decide +kernel
theorem dX11_plain_25 : decode cX11_plain 25 = .ok (.iconst 4, 1) := by decide +kernel
theorem dX11_plain_26 : decode cX11_plain 26 = .ok (.if_icmp .ge 7, 3) := by decide +kernel
theorem dX11_plain_29 : decode cX11_plain 29 = .ok (.iconst 1, 1) := by decide +kernel
theorem dX11_plain_30 : decode cX11_plain 30 = .ok (.goto 4, 3) := by decide +kernel
theorem dX11_plain_33 : decode cX11_plain 33 = .ok (.iconst 0, 1) := by decide +kernel
theorem dX11_plain_34 : decode cX11_plain 34 = .ok (.istore_n 1, 1) := by decide +kernel
theorem dX11_plain_35 : decode cX11_plain 35 = .ok (.iinc 2 1, 3) := by decide +kernel
theorem dX11_plain_38 : decode cX11_plain 38 = .ok (.goto (-30), 3) := by decide +kernel
theorem dX11_plain_41 : decode cX11_plain 41 = .ok (.aload_n 0, 1) := by decide +kernel
theorem dX11_plain_42 : decode cX11_plain 42 = .ok (.iload_n 1, 1) := by decide +kernel
theorem dX11_plain_43 : decode cX11_plain 43 = .ok (.ifCond .eq 7, 3) := by decide +kernel
theorem dX11_plain_46 : decode cX11_plain 46 = .ok (.iconst 1, 1) := by decide +kernel
theorem dX11_plain_47 : decode cX11_plain 47 = .ok (.goto 4, 3) := by decide +kernel
theorem dX11_plain_50 : decode cX11_plain 50 = .ok (.iconst 0, 1) := by decide +kernel
theorem dX11_plain_51 : decode cX11_plain 51 = .ok (.invokevirtual 242, 3) := by decide +kernel
theorem dX11_plain_54 : decode cX11_plain 54 = .ok (.ireturn, 1) := by decide +kernel
def fp_X11_plain_L8 (k41 : Int32 → Option (Int32 × zM)) (v0 : Nat) (M : zM) : Nat → Int32 → Int32 → Option (Int32 × zM)
  | 0, _, _ => none
  | n + 1, v1, v2 =>
    (zgI 9 M v0 28).bind fun (y2 : Int32) =>
    if v2 ≥ y2 then (
      k41 v1)
    else (
      zjn (fun (s3 : Int32) =>
          fp_X11_plain_L8 k41 v0 M n s3 (v2 + 1))
        (fun j34 =>
          zjn (
              j34 0)
            (fun j33 =>
              if v1 = 0 then (
                j33)
              else (
                (fp_X11_kindOf v0 v2 M).bind fun (y4 : Int32) =>
                if y4 ≥ 4 then (
                  j33)
                else (
                  j34 1)))))
def fp_X11_plain (v0 : Nat) (M : zM) : Option (Int32 × zM) :=
  zthis 9 M v0 (
    (fp_X11_laysPieces v0 M).bind fun (M1 : zM) =>
    fp_X11_plain_L8
      (fun v1_5 =>
        if v1_5 = 0 then (
          (fp_X11_gives v0 0 M1).bind fun p8 => zpp p8 fun (y6 : Int32) (M7 : zM) =>
          some (y6, M7))
        else (
          (fp_X11_gives v0 1 M1).bind fun p11 => zpp p11 fun (y9 : Int32) (M10 : zM) =>
          some (y9, M10))) v0 M1 FU 1 0)
set_option maxHeartbeats 4000000 in
set_option maxRecDepth 100000 in
theorem th_X11_plain {v0 : Nat} {M : zM} {x0 : Int32 × zM} (h : fp_X11_plain v0 M = some x0) : v0 < zS M ∧ kd v0 = 9 := by
  unfold fp_X11_plain at h
  exact zthis_of h
set_option maxHeartbeats 4000000 in
set_option maxRecDepth 100000 in
theorem w_X11_plain_L8 (E : zEnv) (hE : zEok E) (d : Nat) (hd : 6 ≤ d) (M0 : zM) (x0 : Int32 × zM) (v0 : Nat) (M : zM) (k41 : Int32 → Option (Int32 × zM)) (hk41 : ∀ (v1 : Int32), zSy E mu_X11_plain d M0 (some (.int x0.1), x0.2) x0 (k41 v1) 41 [(0, .ref (E.2.2.2.1 + v0)), (1, .int v1)] [] M) : ∀ (n : Nat) (v1 : Int32) (v2 : Int32), zSy E mu_X11_plain d M0 (some (.int x0.1), x0.2) x0 (fp_X11_plain_L8 k41 v0 M n v1 v2) 8 [(0, .ref (E.2.2.2.1 + v0)), (1, .int v1), (2, .int v2)] [] M := by
  intro n
  induction n with
  | zero =>
    intro v1 v2
    rw [fp_X11_plain_L8]
    exact zs_none
  | succ n ih =>
    intro v1 v2
    rw [fp_X11_plain_L8]
    refine zs_iload_n dX11_plain_8 rfl 2 rfl ?_
    refine zs_aload_n dX11_plain_9 rfl 0 rfl ?_
    refine zs_getI dX11_plain_10 fl_X11_260 rfl (fun y2 => ?_)
    refine zs_icmp_ge dX11_plain_13 rfl ?_ ?_
    · refine zs_sub (loc' := [(0, .ref (E.2.2.2.1 + v0)), (1, .int v1)]) [0, 1] rfl ?_
      exact hk41 v1
    refine zs_iload_n dX11_plain_16 rfl 1 rfl ?_
    refine zs_jn (fun j34 => ∀ (s3 : Int32), zSy E mu_X11_plain d M0 (some (.int x0.1), x0.2) x0 (j34 s3) 34 [(0, .ref (E.2.2.2.1 + v0)), (2, .int v2)] [.int s3] M) (fun s3 => ?_) (fun j34 hj34 => ?_)
    · refine zs_istore_n (loc' := [(0, .ref (E.2.2.2.1 + v0)), (1, .int s3), (2, .int v2)]) dX11_plain_34 rfl (Nat.le_of_ble_eq_true rfl) [1, 0, 2] rfl ?_
      refine zs_iinc (v := (v2 + 1)) (loc' := [(0, .ref (E.2.2.2.1 + v0)), (1, .int s3), (2, .int (v2 + 1))]) dX11_plain_35 2 rfl (by rfl) (Nat.le_of_ble_eq_true rfl) [1, 2, 0] rfl ?_
      refine zs_goto dX11_plain_38 rfl ?_
      exact ih s3 (v2 + 1)
    refine zs_jn (fun j33 => zSy E mu_X11_plain d M0 (some (.int x0.1), x0.2) x0 (j33) 33 [(0, .ref (E.2.2.2.1 + v0)), (2, .int v2)] [] M) ?_ (fun j33 hj33 => ?_)
    · refine zs_iconst (v := 0) dX11_plain_33 ciconst_0 ?_
      exact hj34 0
    refine zs_if_eq dX11_plain_17 rfl ?_ ?_
    · refine zs_sub (loc' := [(0, .ref (E.2.2.2.1 + v0)), (2, .int v2)]) [0, 2] rfl ?_
      exact hj33
    refine zs_aload_n dX11_plain_20 rfl 0 rfl ?_
    refine zs_iload_n dX11_plain_21 rfl 2 rfl ?_
    refine zs_invVPI (rest := []) [.int v2] dX11_plain_22 lk_X11_319 rfl (fun _ h => th_X11_kindOf h) (zd1 rfl hd) rfl (Nat.le_of_ble_eq_true rfl) (ct_X11_kindOf E hE _ (zdl rfl hd) _ _ _) (fun y4 => ?_)
    refine zs_iconst (v := 4) dX11_plain_25 ciconst_4 ?_
    refine zs_icmp_ge dX11_plain_26 rfl ?_ ?_
    · refine zs_sub (loc' := [(0, .ref (E.2.2.2.1 + v0)), (2, .int v2)]) [0, 2] rfl ?_
      exact hj33
    refine zs_iconst (v := 1) dX11_plain_29 ciconst_1 ?_
    refine zs_goto dX11_plain_30 rfl ?_
    refine zs_sub (loc' := [(0, .ref (E.2.2.2.1 + v0)), (2, .int v2)]) [0, 2] rfl ?_
    exact hj34 1
set_option maxHeartbeats 4000000 in
set_option maxRecDepth 100000 in
theorem ct_X11_plain (E : zEnv) (hE : zEok E) (d : Nat) (hd : 6 ≤ d) (v0 : Nat) (M : zM) (x0 : Int32 × zM) (hx : fp_X11_plain v0 M = some x0) : zCt E mu_X11_plain d [.ref (E.2.2.2.1 + v0)] M (some (.int x0.1), x0.2) := by
  refine zCt_of (μ := mu_X11_plain) (t := fp_X11_plain v0 M) rfl rfl (Nat.le_of_ble_eq_true rfl) hx ?_
  change zSy E mu_X11_plain d M (some (.int x0.1), x0.2) x0 (fp_X11_plain v0 M) 0 [(0, .ref (E.2.2.2.1 + v0))] [] M
  unfold fp_X11_plain
  refine zs_this (fun hth => ?_)
  refine zs_iconst (v := 1) dX11_plain_0 ciconst_1 ?_
  refine zs_istore_n (loc' := [(0, .ref (E.2.2.2.1 + v0)), (1, .int 1)]) dX11_plain_1 rfl (Nat.le_of_ble_eq_true rfl) [1, 0] rfl ?_
  refine zs_aload_n dX11_plain_2 rfl 0 rfl ?_
  refine zs_invVWV (rest := []) [] dX11_plain_3 lk_X11_257 rfl (fun _ h => th_X11_laysPieces h) (zd1 rfl hd) rfl (Nat.le_of_ble_eq_true rfl) (ct_X11_laysPieces E hE _ (zdl rfl hd) _ _) (fun M1 => ?_)
  refine zs_iconst (v := 0) dX11_plain_6 ciconst_0 ?_
  refine zs_istore_n (loc' := [(0, .ref (E.2.2.2.1 + v0)), (1, .int 1), (2, .int 0)]) dX11_plain_7 rfl (Nat.le_of_ble_eq_true rfl) [1, 2, 0] rfl ?_
  refine w_X11_plain_L8 E hE d hd _ _ _ _ _ (fun v1_5 => ?_) _ _ _
  refine zs_aload_n dX11_plain_41 rfl 0 rfl ?_
  refine zs_iload_n dX11_plain_42 rfl 1 rfl ?_
  refine zs_if_eq dX11_plain_43 rfl ?_ ?_
  · refine zs_iconst (v := 0) dX11_plain_50 ciconst_0 ?_
    refine zs_invVWI (rest := []) [.int 0] dX11_plain_51 lk_X11_242 rfl (fun _ h => th_X11_gives h) (zd1 rfl hd) rfl (Nat.le_of_ble_eq_true rfl) (ct_X11_gives E hE _ (zdl rfl hd) _ _ _) (fun y6 M7 => ?_)
    exact zs_iretW dX11_plain_54 rfl
  refine zs_iconst (v := 1) dX11_plain_46 ciconst_1 ?_
  refine zs_goto dX11_plain_47 rfl ?_
  refine zs_invVWI (rest := []) [.int 1] dX11_plain_51 lk_X11_242 rfl (fun _ h => th_X11_gives h) (zd1 rfl hd) rfl (Nat.le_of_ble_eq_true rfl) (ct_X11_gives E hE _ (zdl rfl hd) _ _ _) (fun y9 M10 => ?_)
  exact zs_iretW dX11_plain_54 rfl

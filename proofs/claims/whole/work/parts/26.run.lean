theorem dX10_many_0 : decode cX10_many 0 = .ok (.iload_n 1, 1) := by decide +kernel
theorem dX10_many_1 : decode cX10_many 1 = .ok (.ifCond .lt 9, 3) := by decide +kernel
theorem dX10_many_4 : decode cX10_many 4 = .ok (.iload_n 1, 1) := by decide +kernel
theorem dX10_many_5 : decode cX10_many 5 = .ok (.bipush 7, 2) := by decide +kernel
theorem dX10_many_7 : decode cX10_many 7 = .ok (.if_icmp .le 9, 3) := by decide +kernel
theorem dX10_many_10 : decode cX10_many 10 = .ok (.aload_n 0, 1) := by decide +kernel
theorem dX10_many_11 : decode cX10_many 11 = .ok (.iconst 1, 1) := by decide +kernel
theorem dX10_many_12 : decode cX10_many 12 = .ok (.invokevirtual 102, 3) := by decide +kernel
theorem dX10_many_15 : decode cX10_many 15 = .ok (.ireturn, 1) := by decide +kernel
theorem dX10_many_16 : decode cX10_many 16 = .ok (.iload_n 1, 1) := by decide +kernel
theorem dX10_many_17 : decode cX10_many 17 = .ok (.tableswitch 175 0 6 #[43, 52, 64, 80, 92, 119, 146], 43) := by decide +kernel
theorem dX10_many_60 : decode cX10_many 60 = .ok (.aload_n 0, 1) := by decide +kernel
theorem dX10_many_61 : decode cX10_many 61 = .ok (.aload_n 0, 1) := by decide +kernel
theorem dX10_many_62 : decode cX10_many 62 = .ok (.getfield 129, 3) := by decide +kernel
theorem dX10_many_65 : decode cX10_many 65 = .ok (.invokevirtual 130, 3) := by decide +kernel
theorem dX10_many_68 : decode cX10_many 68 = .ok (.ireturn, 1) := by decide +kernel
theorem dX10_many_69 : decode cX10_many 69 = .ok (.aload_n 0, 1) := by decide +kernel
theorem dX10_many_70 : decode cX10_many 70 = .ok (.aload_n 0, 1) := by decide +kernel
theorem dX10_many_71 : decode cX10_many 71 = .ok (.getfield 136, 3) := by decide +kernel
theorem dX10_many_74 : decode cX10_many 74 = .ok (.invokestatic 137, 3) := by decide +kernel
theorem dX10_many_77 : decode cX10_many 77 = .ok (.invokevirtual 130, 3) := by decide +kernel
theorem dX10_many_80 : decode cX10_many 80 = .ok (.ireturn, 1) := by decide +kernel
theorem dX10_many_81 : decode cX10_many 81 = .ok (.aload_n 0, 1) := by decide +kernel
theorem dX10_many_82 : decode cX10_many 82 = .ok (.aload_n 0, 1) := by decide +kernel
theorem dX10_many_83 : decode cX10_many 83 = .ok (.getfield 129, 3) := by decide +kernel
theorem dX10_many_86 : decode cX10_many 86 = .ok (.aload_n 0, 1) := by decide +kernel
theorem dX10_many_87 : decode cX10_many 87 = .ok (.getfield 136, 3) := by decide +kernel
theorem dX10_many_90 : decode cX10_many 90 = .ok (.invokestatic 142, 3) := by decide +kernel
theorem dX10_many_93 : decode cX10_many 93 = .ok (.invokevirtual 130, 3) := by decide +kernel
theorem dX10_many_96 : decode cX10_many 96 = .ok (.ireturn, 1) := by decide +kernel
theorem dX10_many_97 : decode cX10_many 97 = .ok (.aload_n 0, 1) := by decide +kernel
theorem dX10_many_98 : decode cX10_many 98 = .ok (.aload_n 0, 1) := by decide +kernel
theorem dX10_many_99 : decode cX10_many 99 = .ok (.getfield 26, 3) := by decide +kernel
theorem dX10_many_102 : decode cX10_many 102 = .ok (.getfield 148, 3) := by decide +kernel
theorem dX10_many_105 : decode cX10_many 105 = .ok (.invokevirtual 130, 3) := by decide +kernel
theorem dX10_many_108 : decode cX10_many 108 = .ok (.ireturn, 1) := by decide +kernel
theorem dX10_many_109 : decode cX10_many 109 = .ok (.aload_n 0, 1) := by decide +kernel
theorem dX10_many_110 : decode cX10_many 110 = .ok (.getfield 43, 3) := by decide +kernel
theorem dX10_many_113 : decode cX10_many 113 = .ok (.aload_n 0, 1) := by decide +kernel
theorem dX10_many_114 : decode cX10_many 114 = .ok (.getfield 129, 3) := by decide +kernel
theorem dX10_many_117 : decode cX10_many 117 = .ok (.aload_n 0, 1) := by decide +kernel
theorem dX10_many_118 : decode cX10_many 118 = .ok (.getfield 136, 3) := by decide +kernel
theorem dX10_many_121 : decode cX10_many 121 = .ok (.invokevirtual 151, 3) := by decide +kernel
theorem dX10_many_124 : decode cX10_many 124 = .ok (.aload_n 0, 1) := by decide +kernel
theorem dX10_many_125 : decode cX10_many 125 = .ok (.aload_n 0, 1) := by decide +kernel
theorem dX10_many_126 : decode cX10_many 126 = .ok (.getfield 43, 3) := by decide +kernel
theorem dX10_many_129 : decode cX10_many 129 = .ok (.getfield 154, 3) := by decide +kernel
theorem dX10_many_132 : decode cX10_many 132 = .ok (.invokevirtual 130, 3) := by decide +kernel
theorem dX10_many_135 : decode cX10_many 135 = .ok (.ireturn, 1) := by decide +kernel
theorem dX10_many_136 : decode cX10_many 136 = .ok (.aload_n 0, 1) := by decide +kernel
theorem dX10_many_137 : decode cX10_many 137 = .ok (.getfield 50, 3) := by decide +kernel
theorem dX10_many_140 : decode cX10_many 140 = .ok (.aload_n 0, 1) := by decide +kernel
theorem dX10_many_141 : decode cX10_many 141 = .ok (.getfield 129, 3) := by decide +kernel
theorem dX10_many_144 : decode cX10_many 144 = .ok (.aload_n 0, 1) := by decide +kernel
theorem dX10_many_145 : decode cX10_many 145 = .ok (.getfield 136, 3) := by decide +kernel
theorem dX10_many_148 : decode cX10_many 148 = .ok (.invokevirtual 155, 3) := by decide +kernel
theorem dX10_many_151 : decode cX10_many 151 = .ok (.aload_n 0, 1) := by decide +kernel
theorem dX10_many_152 : decode cX10_many 152 = .ok (.aload_n 0, 1) := by decide +kernel
theorem dX10_many_153 : decode cX10_many 153 = .ok (.getfield 50, 3) := by decide +kernel
theorem dX10_many_156 : decode cX10_many 156 = .ok (.getfield 156, 3) := by decide +kernel
theorem dX10_many_159 : decode cX10_many 159 = .ok (.invokevirtual 130, 3) := by decide +kernel
theorem dX10_many_162 : decode cX10_many 162 = .ok (.ireturn, 1) := by decide +kernel
theorem dX10_many_163 : decode cX10_many 163 = .ok (.aload_n 0, 1) := by decide +kernel
theorem dX10_many_164 : decode cX10_many 164 = .ok (.getfield 57, 3) := by decide +kernel
theorem dX10_many_167 : decode cX10_many 167 = .ok (.aload_n 0, 1) := by decide +kernel
theorem dX10_many_168 : decode cX10_many 168 = .ok (.getfield 129, 3) := by decide +kernel
theorem dX10_many_171 : decode cX10_many 171 = .ok (.aload_n 0, 1) := by decide +kernel
theorem dX10_many_172 : decode cX10_many 172 = .ok (.getfield 136, 3) := by decide +kernel
theorem dX10_many_175 : decode cX10_many 175 = .ok (.ldc 157, 2) := by decide +kernel
theorem dX10_many_177 : decode cX10_many 177 = .ok (.invokevirtual 158, 3) := by decide +kernel
theorem dX10_many_180 : decode cX10_many 180 = .ok (.aload_n 0, 1) := by decide +kernel
theorem dX10_many_181 : decode cX10_many 181 = .ok (.aload_n 0, 1) := by decide +kernel
theorem dX10_many_182 : decode cX10_many 182 = .ok (.getfield 57, 3) := by decide +kernel
theorem dX10_many_185 : decode cX10_many 185 = .ok (.getfield 161, 3) := by decide +kernel
theorem dX10_many_188 : decode cX10_many 188 = .ok (.invokevirtual 130, 3) := by decide +kernel
theorem dX10_many_191 : decode cX10_many 191 = .ok (.ireturn, 1) := by decide +kernel
theorem dX10_many_192 : decode cX10_many 192 = .ok (.aload_n 0, 1) := by decide +kernel
theorem dX10_many_193 : decode cX10_many 193 = .ok (.getfield 70, 3) := by decide +kernel
theorem dX10_many_196 : decode cX10_many 196 = .ok (.aload_n 0, 1) := by decide +kernel
theorem dX10_many_197 : decode cX10_many 197 = .ok (.getfield 129, 3) := by decide +kernel
theorem dX10_many_200 : decode cX10_many 200 = .ok (.aload_n 0, 1) := by decide +kernel
theorem dX10_many_201 : decode cX10_many 201 = .ok (.getfield 136, 3) := by decide +kernel
theorem dX10_many_204 : decode cX10_many 204 = .ok (.invokevirtual 162, 3) := by decide +kernel
theorem dX10_many_207 : decode cX10_many 207 = .ok (.aload_n 0, 1) := by decide +kernel
theorem dX10_many_208 : decode cX10_many 208 = .ok (.aload_n 0, 1) := by decide +kernel
theorem dX10_many_209 : decode cX10_many 209 = .ok (.getfield 70, 3) := by decide +kernel
theorem dX10_many_212 : decode cX10_many 212 = .ok (.getfield 163, 3) := by decide +kernel
theorem dX10_many_215 : decode cX10_many 215 = .ok (.invokevirtual 130, 3) := by decide +kernel
theorem dX10_many_218 : decode cX10_many 218 = .ok (.ireturn, 1) := by decide +kernel
def fp_X10_many (v0 : Nat) (v1 : Int32) (M : zM) : Option (Int32 × zM) :=
  zthis 8 M v0 (
    if v1 < 0 then (
      (fp_X10_refuse v0 1 M).bind fun p3 => zpp p3 fun (y1 : Int32) (M2 : zM) =>
      some (y1, M2))
    else (
      if v1 ≤ 7 then (
        if v1 = 0 then (
          (zgI 8 M v0 1).bind fun (y4 : Int32) =>
          (fp_X10_answer v0 y4 M).bind fun p7 => zpp p7 fun (y5 : Int32) (M6 : zM) =>
          some (y5, M6))
        else if v1 = 1 then (
          (zgI 8 M v0 2).bind fun (y9 : Int32) =>
          (fp_J6_bitCount_0f7a4 y9).bind fun (y10 : Int32) =>
          (fp_X10_answer v0 y10 M).bind fun p13 => zpp p13 fun (y11 : Int32) (M12 : zM) =>
          some (y11, M12))
        else if v1 = 2 then (
          (zgI 8 M v0 1).bind fun (y15 : Int32) =>
          (zgI 8 M v0 2).bind fun (y16 : Int32) =>
          (fp_X2_joinedSets y15 y16).bind fun (y17 : Int32) =>
          (fp_X10_answer v0 y17 M).bind fun p20 => zpp p20 fun (y18 : Int32) (M19 : zM) =>
          some (y18, M19))
        else if v1 = 3 then (
          (zgR 8 M v0 6).bind fun (y22 : Nat) =>
          (zgI 7 M y22 1).bind fun (y23 : Int32) =>
          (fp_X10_answer v0 y23 M).bind fun p26 => zpp p26 fun (y24 : Int32) (M25 : zM) =>
          some (y24, M25))
        else if v1 = 4 then (
          (zgR 8 M v0 8).bind fun (y28 : Nat) =>
          (zgI 8 M v0 1).bind fun (y29 : Int32) =>
          (zgI 8 M v0 2).bind fun (y30 : Int32) =>
          (fp_X6_gather y28 y29 y30 M).bind fun (M31 : zM) =>
          (zgR 8 M31 v0 8).bind fun (y32 : Nat) =>
          (zgI 4 M31 y32 1).bind fun (y33 : Int32) =>
          (fp_X10_answer v0 y33 M31).bind fun p36 => zpp p36 fun (y34 : Int32) (M35 : zM) =>
          some (y34, M35))
        else if v1 = 5 then (
          (zgR 8 M v0 9).bind fun (y38 : Nat) =>
          (zgI 8 M v0 1).bind fun (y39 : Int32) =>
          (zgI 8 M v0 2).bind fun (y40 : Int32) =>
          (fp_X3_gather y38 y39 y40 M).bind fun (M41 : zM) =>
          (zgR 8 M41 v0 9).bind fun (y42 : Nat) =>
          (zgI 2 M41 y42 3).bind fun (y43 : Int32) =>
          (fp_X10_answer v0 y43 M41).bind fun p46 => zpp p46 fun (y44 : Int32) (M45 : zM) =>
          some (y44, M45))
        else if v1 = 6 then (
          (zgR 8 M v0 10).bind fun (y48 : Nat) =>
          (zgI 8 M v0 1).bind fun (y49 : Int32) =>
          (zgI 8 M v0 2).bind fun (y50 : Int32) =>
          (fp_X1_gather y48 y49 y50 80000 M).bind fun (M51 : zM) =>
          (zgR 8 M51 v0 10).bind fun (y52 : Nat) =>
          (zgI 1 M51 y52 0).bind fun (y53 : Int32) =>
          (fp_X10_answer v0 y53 M51).bind fun p56 => zpp p56 fun (y54 : Int32) (M55 : zM) =>
          some (y54, M55))
        else (
          (zgR 8 M v0 13).bind fun (y58 : Nat) =>
          (zgI 8 M v0 1).bind fun (y59 : Int32) =>
          (zgI 8 M v0 2).bind fun (y60 : Int32) =>
          (fp_X8_gather y58 y59 y60 M).bind fun (M61 : zM) =>
          (zgR 8 M61 v0 13).bind fun (y62 : Nat) =>
          (zgI 6 M61 y62 0).bind fun (y63 : Int32) =>
          (fp_X10_answer v0 y63 M61).bind fun p66 => zpp p66 fun (y64 : Int32) (M65 : zM) =>
          some (y64, M65)))
      else (
        (fp_X10_refuse v0 1 M).bind fun p69 => zpp p69 fun (y67 : Int32) (M68 : zM) =>
        some (y67, M68))))
set_option maxHeartbeats 4000000 in
set_option maxRecDepth 100000 in
theorem th_X10_many {v0 : Nat} {v1 : Int32} {M : zM} {x0 : Int32 × zM} (h : fp_X10_many v0 v1 M = some x0) : v0 < zS M ∧ kd v0 = 8 := by
  unfold fp_X10_many at h
  exact zthis_of h
set_option maxHeartbeats 4000000 in
set_option maxRecDepth 100000 in
theorem ct_X10_many (E : zEnv) (hE : zEok E) (d : Nat) (hd : 27 ≤ d) (v0 : Nat) (v1 : Int32) (M : zM) (x0 : Int32 × zM) (hx : fp_X10_many v0 v1 M = some x0) : zCt E mu_X10_many d [.ref (E.2.2.2.1 + v0), .int v1] M (some (.int x0.1), x0.2) := by
  refine zCt_of (μ := mu_X10_many) (t := fp_X10_many v0 v1 M) rfl rfl (Nat.le_of_ble_eq_true rfl) hx ?_
  change zSy E mu_X10_many d M (some (.int x0.1), x0.2) x0 (fp_X10_many v0 v1 M) 0 [(0, .ref (E.2.2.2.1 + v0)), (1, .int v1)] [] M
  unfold fp_X10_many
  refine zs_this (fun hth => ?_)
  refine zs_iload_n dX10_many_0 rfl 1 rfl ?_
  refine zs_if_lt dX10_many_1 rfl ?_ ?_
  · refine zs_aload_n dX10_many_10 rfl 0 rfl ?_
    refine zs_iconst (v := 1) dX10_many_11 ciconst_1 ?_
    refine zs_invVWI (rest := []) [.int 1] dX10_many_12 lk_X10_102 rfl (fun _ h => th_X10_refuse h) (zd1 rfl hd) rfl (Nat.le_of_ble_eq_true rfl) (ct_X10_refuse E hE _ (zdl rfl hd) _ _ _) (fun y1 M2 => ?_)
    exact zs_iretW dX10_many_15 rfl
  refine zs_iload_n dX10_many_4 rfl 1 rfl ?_
  refine zs_bipush (v := 7) dX10_many_5 cbipush_7 ?_
  refine zs_icmp_le dX10_many_7 rfl ?_ ?_
  · refine zs_iload_n dX10_many_16 rfl 1 rfl ?_
    refine zs_ite (fun hc8 => ?_) (fun hc8 => ?_)
    · refine zs_tsw dX10_many_17 hc8 (by decide) (by decide) (by rfl) rfl ?_
      refine zs_aload_n dX10_many_60 rfl 0 rfl ?_
      refine zs_aload_n dX10_many_61 rfl 0 rfl ?_
      refine zs_getI dX10_many_62 fl_X10_129 rfl (fun y4 => ?_)
      refine zs_invVWI (rest := []) [.int y4] dX10_many_65 lk_X10_130 rfl (fun _ h => th_X10_answer h) (zd1 rfl hd) rfl (Nat.le_of_ble_eq_true rfl) (ct_X10_answer E hE _ (zdl rfl hd) _ _ _) (fun y5 M6 => ?_)
      exact zs_iretW dX10_many_68 rfl
    refine zs_ite (fun hc14 => ?_) (fun hc14 => ?_)
    · refine zs_tsw dX10_many_17 hc14 (by decide) (by decide) (by rfl) rfl ?_
      refine zs_aload_n dX10_many_69 rfl 0 rfl ?_
      refine zs_aload_n dX10_many_70 rfl 0 rfl ?_
      refine zs_getI dX10_many_71 fl_X10_136 rfl (fun y9 => ?_)
      refine zs_invSPI (rest := [.ref (E.2.2.2.1 + v0)]) [.int y9] dX10_many_74 lk_X10_137 rfl (zd1 rfl hd) rfl (Nat.le_of_ble_eq_true rfl) (ct_J6_bitCount_0f7a4 E hE _ (zdl rfl hd) _ _) (fun y10 => ?_)
      refine zs_invVWI (rest := []) [.int y10] dX10_many_77 lk_X10_130 rfl (fun _ h => th_X10_answer h) (zd1 rfl hd) rfl (Nat.le_of_ble_eq_true rfl) (ct_X10_answer E hE _ (zdl rfl hd) _ _ _) (fun y11 M12 => ?_)
      exact zs_iretW dX10_many_80 rfl
    refine zs_ite (fun hc21 => ?_) (fun hc21 => ?_)
    · refine zs_tsw dX10_many_17 hc21 (by decide) (by decide) (by rfl) rfl ?_
      refine zs_aload_n dX10_many_81 rfl 0 rfl ?_
      refine zs_aload_n dX10_many_82 rfl 0 rfl ?_
      refine zs_getI dX10_many_83 fl_X10_129 rfl (fun y15 => ?_)
      refine zs_aload_n dX10_many_86 rfl 0 rfl ?_
      refine zs_getI dX10_many_87 fl_X10_136 rfl (fun y16 => ?_)
      refine zs_invSPI (rest := [.ref (E.2.2.2.1 + v0)]) [.int y15, .int y16] dX10_many_90 lk_X10_142 rfl (zd1 rfl hd) rfl (Nat.le_of_ble_eq_true rfl) (ct_X2_joinedSets E hE _ (zdl rfl hd) _ _ _) (fun y17 => ?_)
      refine zs_invVWI (rest := []) [.int y17] dX10_many_93 lk_X10_130 rfl (fun _ h => th_X10_answer h) (zd1 rfl hd) rfl (Nat.le_of_ble_eq_true rfl) (ct_X10_answer E hE _ (zdl rfl hd) _ _ _) (fun y18 M19 => ?_)
      exact zs_iretW dX10_many_96 rfl
    refine zs_ite (fun hc27 => ?_) (fun hc27 => ?_)
    · refine zs_tsw dX10_many_17 hc27 (by decide) (by decide) (by rfl) rfl ?_
      refine zs_aload_n dX10_many_97 rfl 0 rfl ?_
      refine zs_aload_n dX10_many_98 rfl 0 rfl ?_
      refine zs_getR dX10_many_99 fl_X10_26 rfl (fun y22 => ?_)
      refine zs_getI dX10_many_102 fl_X10_148 rfl (fun y23 => ?_)
      refine zs_invVWI (rest := []) [.int y23] dX10_many_105 lk_X10_130 rfl (fun _ h => th_X10_answer h) (zd1 rfl hd) rfl (Nat.le_of_ble_eq_true rfl) (ct_X10_answer E hE _ (zdl rfl hd) _ _ _) (fun y24 M25 => ?_)
      exact zs_iretW dX10_many_108 rfl
    refine zs_ite (fun hc37 => ?_) (fun hc37 => ?_)
    · refine zs_tsw dX10_many_17 hc37 (by decide) (by decide) (by rfl) rfl ?_
      refine zs_aload_n dX10_many_109 rfl 0 rfl ?_
      refine zs_getR dX10_many_110 fl_X10_43 rfl (fun y28 => ?_)
      refine zs_aload_n dX10_many_113 rfl 0 rfl ?_
      refine zs_getI dX10_many_114 fl_X10_129 rfl (fun y29 => ?_)
      refine zs_aload_n dX10_many_117 rfl 0 rfl ?_
      refine zs_getI dX10_many_118 fl_X10_136 rfl (fun y30 => ?_)
      refine zs_invVWV (rest := []) [.int y29, .int y30] dX10_many_121 lk_X10_151 rfl (fun _ h => th_X6_gather h) (zd1 rfl hd) rfl (Nat.le_of_ble_eq_true rfl) (ct_X6_gather E hE _ (zdl rfl hd) _ _ _ _) (fun M31 => ?_)
      refine zs_aload_n dX10_many_124 rfl 0 rfl ?_
      refine zs_aload_n dX10_many_125 rfl 0 rfl ?_
      refine zs_getR dX10_many_126 fl_X10_43 rfl (fun y32 => ?_)
      refine zs_getI dX10_many_129 fl_X10_154 rfl (fun y33 => ?_)
      refine zs_invVWI (rest := []) [.int y33] dX10_many_132 lk_X10_130 rfl (fun _ h => th_X10_answer h) (zd1 rfl hd) rfl (Nat.le_of_ble_eq_true rfl) (ct_X10_answer E hE _ (zdl rfl hd) _ _ _) (fun y34 M35 => ?_)
      exact zs_iretW dX10_many_135 rfl
    refine zs_ite (fun hc47 => ?_) (fun hc47 => ?_)
    · refine zs_tsw dX10_many_17 hc47 (by decide) (by decide) (by rfl) rfl ?_
      refine zs_aload_n dX10_many_136 rfl 0 rfl ?_
      refine zs_getR dX10_many_137 fl_X10_50 rfl (fun y38 => ?_)
      refine zs_aload_n dX10_many_140 rfl 0 rfl ?_
      refine zs_getI dX10_many_141 fl_X10_129 rfl (fun y39 => ?_)
      refine zs_aload_n dX10_many_144 rfl 0 rfl ?_
      refine zs_getI dX10_many_145 fl_X10_136 rfl (fun y40 => ?_)
      refine zs_invVWV (rest := []) [.int y39, .int y40] dX10_many_148 lk_X10_155 rfl (fun _ h => th_X3_gather h) (zd1 rfl hd) rfl (Nat.le_of_ble_eq_true rfl) (ct_X3_gather E hE _ (zdl rfl hd) _ _ _ _) (fun M41 => ?_)
      refine zs_aload_n dX10_many_151 rfl 0 rfl ?_
      refine zs_aload_n dX10_many_152 rfl 0 rfl ?_
      refine zs_getR dX10_many_153 fl_X10_50 rfl (fun y42 => ?_)
      refine zs_getI dX10_many_156 fl_X10_156 rfl (fun y43 => ?_)
      refine zs_invVWI (rest := []) [.int y43] dX10_many_159 lk_X10_130 rfl (fun _ h => th_X10_answer h) (zd1 rfl hd) rfl (Nat.le_of_ble_eq_true rfl) (ct_X10_answer E hE _ (zdl rfl hd) _ _ _) (fun y44 M45 => ?_)
      exact zs_iretW dX10_many_162 rfl
    refine zs_ite (fun hc57 => ?_) (fun hc57 => ?_)
    · refine zs_tsw dX10_many_17 hc57 (by decide) (by decide) (by rfl) rfl ?_
      refine zs_aload_n dX10_many_163 rfl 0 rfl ?_
      refine zs_getR dX10_many_164 fl_X10_57 rfl (fun y48 => ?_)
      refine zs_aload_n dX10_many_167 rfl 0 rfl ?_
      refine zs_getI dX10_many_168 fl_X10_129 rfl (fun y49 => ?_)
      refine zs_aload_n dX10_many_171 rfl 0 rfl ?_
      refine zs_getI dX10_many_172 fl_X10_136 rfl (fun y50 => ?_)
      refine zs_ldc (v := 80000) dX10_many_175 (ti_3 86 rfl rfl) ?_
      refine zs_invVWV (rest := []) [.int y49, .int y50, .int 80000] dX10_many_177 lk_X10_158 rfl (fun _ h => th_X1_gather h) (zd1 rfl hd) rfl (Nat.le_of_ble_eq_true rfl) (ct_X1_gather E hE _ (zdl rfl hd) _ _ _ _ _) (fun M51 => ?_)
      refine zs_aload_n dX10_many_180 rfl 0 rfl ?_
      refine zs_aload_n dX10_many_181 rfl 0 rfl ?_
      refine zs_getR dX10_many_182 fl_X10_57 rfl (fun y52 => ?_)
      refine zs_getI dX10_many_185 fl_X10_161 rfl (fun y53 => ?_)
      refine zs_invVWI (rest := []) [.int y53] dX10_many_188 lk_X10_130 rfl (fun _ h => th_X10_answer h) (zd1 rfl hd) rfl (Nat.le_of_ble_eq_true rfl) (ct_X10_answer E hE _ (zdl rfl hd) _ _ _) (fun y54 M55 => ?_)
      exact zs_iretW dX10_many_191 rfl
    refine zs_tswD dX10_many_17 (ztsw_of (n := 6) (by decide) (fun q hq => by
      have hq2 : q = 0 ∨ q = 1 ∨ q = 2 ∨ q = 3 ∨ q = 4 ∨ q = 5 ∨ q = 6 := by omega
      rcases hq2 with rfl | rfl | rfl | rfl | rfl | rfl | rfl
      · exact hc8
      · exact hc14
      · exact hc21
      · exact hc27
      · exact hc37
      · exact hc47
      · exact hc57)) rfl ?_
    refine zs_aload_n dX10_many_192 rfl 0 rfl ?_
    refine zs_getR dX10_many_193 fl_X10_70 rfl (fun y58 => ?_)
    refine zs_aload_n dX10_many_196 rfl 0 rfl ?_
    refine zs_getI dX10_many_197 fl_X10_129 rfl (fun y59 => ?_)
    refine zs_aload_n dX10_many_200 rfl 0 rfl ?_
    refine zs_getI dX10_many_201 fl_X10_136 rfl (fun y60 => ?_)
    refine zs_invVWV (rest := []) [.int y59, .int y60] dX10_many_204 lk_X10_162 rfl (fun _ h => th_X8_gather h) (zd1 rfl hd) rfl (Nat.le_of_ble_eq_true rfl) (ct_X8_gather E hE _ (zdl rfl hd) _ _ _ _) (fun M61 => ?_)
    refine zs_aload_n dX10_many_207 rfl 0 rfl ?_
    refine zs_aload_n dX10_many_208 rfl 0 rfl ?_
    refine zs_getR dX10_many_209 fl_X10_70 rfl (fun y62 => ?_)
    refine zs_getI dX10_many_212 fl_X10_163 rfl (fun y63 => ?_)
    refine zs_invVWI (rest := []) [.int y63] dX10_many_215 lk_X10_130 rfl (fun _ h => th_X10_answer h) (zd1 rfl hd) rfl (Nat.le_of_ble_eq_true rfl) (ct_X10_answer E hE _ (zdl rfl hd) _ _ _) (fun y64 M65 => ?_)
    exact zs_iretW dX10_many_218 rfl
  refine zs_aload_n dX10_many_10 rfl 0 rfl ?_
  refine zs_iconst (v := 1) dX10_many_11 ciconst_1 ?_
  refine zs_invVWI (rest := []) [.int 1] dX10_many_12 lk_X10_102 rfl (fun _ h => th_X10_refuse h) (zd1 rfl hd) rfl (Nat.le_of_ble_eq_true rfl) (ct_X10_refuse E hE _ (zdl rfl hd) _ _ _) (fun y67 M68 => ?_)
  exact zs_iretW dX10_many_15 rfl
theorem dX10_hasPoint_0 : decode cX10_hasPoint 0 = .ok (.iload_n 1, 1) := by decide +kernel
theorem dX10_hasPoint_1 : decode cX10_hasPoint 1 = .ok (.ifCond .lt 15, 3) := by decide +kernel
theorem dX10_hasPoint_4 : decode cX10_hasPoint 4 = .ok (.iload_n 1, 1) := by decide +kernel
theorem dX10_hasPoint_5 : decode cX10_hasPoint 5 = .ok (.aload_n 0, 1) := by decide +kernel
theorem dX10_hasPoint_6 : decode cX10_hasPoint 6 = .ok (.getfield 129, 3) := by decide +kernel
theorem dX10_hasPoint_9 : decode cX10_hasPoint 9 = .ok (.if_icmp .ge 7, 3) := by decide +kernel
theorem dX10_hasPoint_12 : decode cX10_hasPoint 12 = .ok (.iconst 1, 1) := by decide +kernel
theorem dX10_hasPoint_13 : decode cX10_hasPoint 13 = .ok (.goto 4, 3) := by decide +kernel
theorem dX10_hasPoint_16 : decode cX10_hasPoint 16 = .ok (.iconst 0, 1) := by decide +kernel
theorem dX10_hasPoint_17 : decode cX10_hasPoint 17 = .ok (.ireturn, 1) := by decide +kernel
def fp_X10_hasPoint (v0 : Nat) (v1 : Int32) (M : zM) : Option (Int32) :=
  zthis 8 M v0 (
    if v1 < 0 then (
      some 0)
    else (
      (zgI 8 M v0 1).bind fun (y1 : Int32) =>
      if v1 ≥ y1 then (
        some 0)
      else (
        some 1)))
set_option maxHeartbeats 4000000 in
set_option maxRecDepth 100000 in
theorem th_X10_hasPoint {v0 : Nat} {v1 : Int32} {M : zM} {x0 : Int32} (h : fp_X10_hasPoint v0 v1 M = some x0) : v0 < zS M ∧ kd v0 = 8 := by
  unfold fp_X10_hasPoint at h
  exact zthis_of h
set_option maxHeartbeats 4000000 in
set_option maxRecDepth 100000 in
theorem ct_X10_hasPoint (E : zEnv) (hE : zEok E) (d : Nat) (hd : 1 ≤ d) (v0 : Nat) (v1 : Int32) (M : zM) (x0 : Int32) (hx : fp_X10_hasPoint v0 v1 M = some x0) : zCt E mu_X10_hasPoint d [.ref (E.2.2.2.1 + v0), .int v1] M (some (.int x0), M) := by
  refine zCt_of (μ := mu_X10_hasPoint) (t := fp_X10_hasPoint v0 v1 M) rfl rfl (Nat.le_of_ble_eq_true rfl) hx ?_
  change zSy E mu_X10_hasPoint d M (some (.int x0), M) x0 (fp_X10_hasPoint v0 v1 M) 0 [(0, .ref (E.2.2.2.1 + v0)), (1, .int v1)] [] M
  unfold fp_X10_hasPoint
  refine zs_this (fun hth => ?_)
  refine zs_iload_n dX10_hasPoint_0 rfl 1 rfl ?_
  refine zs_if_lt dX10_hasPoint_1 rfl ?_ ?_
  · refine zs_iconst (v := 0) dX10_hasPoint_16 ciconst_0 ?_
    exact zs_iretP dX10_hasPoint_17 rfl
  refine zs_iload_n dX10_hasPoint_4 rfl 1 rfl ?_
  refine zs_aload_n dX10_hasPoint_5 rfl 0 rfl ?_
  refine zs_getI dX10_hasPoint_6 fl_X10_129 rfl (fun y1 => ?_)
  refine zs_icmp_ge dX10_hasPoint_9 rfl ?_ ?_
  · refine zs_iconst (v := 0) dX10_hasPoint_16 ciconst_0 ?_
    exact zs_iretP dX10_hasPoint_17 rfl
  refine zs_iconst (v := 1) dX10_hasPoint_12 ciconst_1 ?_
  refine zs_goto dX10_hasPoint_13 rfl ?_
  exact zs_iretP dX10_hasPoint_17 rfl
theorem dX10_near_0 : decode cX10_near 0 = .ok (.aload_n 0, 1) := by decide +kernel
theorem dX10_near_1 : decode cX10_near 1 = .ok (.iload_n 1, 1) := by decide +kernel
theorem dX10_near_2 : decode cX10_near 2 = .ok (.invokevirtual 164, 3) := by decide +kernel
theorem dX10_near_5 : decode cX10_near 5 = .ok (.ifCond .ne 9, 3) := by decide +kernel
theorem dX10_near_8 : decode cX10_near 8 = .ok (.aload_n 0, 1) := by decide +kernel
theorem dX10_near_9 : decode cX10_near 9 = .ok (.iconst 2, 1) := by decide +kernel
theorem dX10_near_10 : decode cX10_near 10 = .ok (.invokevirtual 102, 3) := by decide +kernel
theorem dX10_near_13 : decode cX10_near 13 = .ok (.ireturn, 1) := by decide +kernel
theorem dX10_near_14 : decode cX10_near 14 = .ok (.aload_n 0, 1) := by decide +kernel
theorem dX10_near_15 : decode cX10_near 15 = .ok (.aload_n 0, 1) := by decide +kernel
theorem dX10_near_16 : decode cX10_near 16 = .ok (.getfield 129, 3) := by decide +kernel
theorem dX10_near_19 : decode cX10_near 19 = .ok (.aload_n 0, 1) := by decide +kernel
theorem dX10_near_20 : decode cX10_near 20 = .ok (.getfield 136, 3) := by decide +kernel
theorem dX10_near_23 : decode cX10_near 23 = .ok (.iload_n 1, 1) := by decide +kernel
theorem dX10_near_24 : decode cX10_near 24 = .ok (.invokestatic 167, 3) := by decide +kernel
theorem dX10_near_27 : decode cX10_near 27 = .ok (.invokevirtual 130, 3) := by decide +kernel
theorem dX10_near_30 : decode cX10_near 30 = .ok (.ireturn, 1) := by decide +kernel
def fp_X10_near (v0 : Nat) (v1 : Int32) (M : zM) : Option (Int32 × zM) :=
  zthis 8 M v0 (
    (fp_X10_hasPoint v0 v1 M).bind fun (y1 : Int32) =>
    if y1 ≠ 0 then (
      (zgI 8 M v0 1).bind fun (y2 : Int32) =>
      (zgI 8 M v0 2).bind fun (y3 : Int32) =>
      (fp_X2_nearTo y2 y3 v1).bind fun (y4 : Int32) =>
      (fp_X10_answer v0 y4 M).bind fun p7 => zpp p7 fun (y5 : Int32) (M6 : zM) =>
      some (y5, M6))
    else (
      (fp_X10_refuse v0 2 M).bind fun p10 => zpp p10 fun (y8 : Int32) (M9 : zM) =>
      some (y8, M9)))
set_option maxHeartbeats 4000000 in
set_option maxRecDepth 100000 in
theorem th_X10_near {v0 : Nat} {v1 : Int32} {M : zM} {x0 : Int32 × zM} (h : fp_X10_near v0 v1 M = some x0) : v0 < zS M ∧ kd v0 = 8 := by
  unfold fp_X10_near at h
  exact zthis_of h
set_option maxHeartbeats 4000000 in
set_option maxRecDepth 100000 in
theorem ct_X10_near (E : zEnv) (hE : zEok E) (d : Nat) (hd : 2 ≤ d) (v0 : Nat) (v1 : Int32) (M : zM) (x0 : Int32 × zM) (hx : fp_X10_near v0 v1 M = some x0) : zCt E mu_X10_near d [.ref (E.2.2.2.1 + v0), .int v1] M (some (.int x0.1), x0.2) := by
  refine zCt_of (μ := mu_X10_near) (t := fp_X10_near v0 v1 M) rfl rfl (Nat.le_of_ble_eq_true rfl) hx ?_
  change zSy E mu_X10_near d M (some (.int x0.1), x0.2) x0 (fp_X10_near v0 v1 M) 0 [(0, .ref (E.2.2.2.1 + v0)), (1, .int v1)] [] M
  unfold fp_X10_near
  refine zs_this (fun hth => ?_)
  refine zs_aload_n dX10_near_0 rfl 0 rfl ?_
  refine zs_iload_n dX10_near_1 rfl 1 rfl ?_
  refine zs_invVPI (rest := []) [.int v1] dX10_near_2 lk_X10_164 rfl (fun _ h => th_X10_hasPoint h) (zd1 rfl hd) rfl (Nat.le_of_ble_eq_true rfl) (ct_X10_hasPoint E hE _ (zdl rfl hd) _ _ _) (fun y1 => ?_)
  refine zs_if_ne dX10_near_5 rfl ?_ ?_
  · refine zs_aload_n dX10_near_14 rfl 0 rfl ?_
    refine zs_aload_n dX10_near_15 rfl 0 rfl ?_
    refine zs_getI dX10_near_16 fl_X10_129 rfl (fun y2 => ?_)
    refine zs_aload_n dX10_near_19 rfl 0 rfl ?_
    refine zs_getI dX10_near_20 fl_X10_136 rfl (fun y3 => ?_)
    refine zs_iload_n dX10_near_23 rfl 1 rfl ?_
    refine zs_invSPI (rest := [.ref (E.2.2.2.1 + v0)]) [.int y2, .int y3, .int v1] dX10_near_24 lk_X10_167 rfl (zd1 rfl hd) rfl (Nat.le_of_ble_eq_true rfl) (ct_X2_nearTo E hE _ (zdl rfl hd) _ _ _ _) (fun y4 => ?_)
    refine zs_invVWI (rest := []) [.int y4] dX10_near_27 lk_X10_130 rfl (fun _ h => th_X10_answer h) (zd1 rfl hd) rfl (Nat.le_of_ble_eq_true rfl) (ct_X10_answer E hE _ (zdl rfl hd) _ _ _) (fun y5 M6 => ?_)
    exact zs_iretW dX10_near_30 rfl
  refine zs_aload_n dX10_near_8 rfl 0 rfl ?_
  refine zs_iconst (v := 2) dX10_near_9 ciconst_2 ?_
  refine zs_invVWI (rest := []) [.int 2] dX10_near_10 lk_X10_102 rfl (fun _ h => th_X10_refuse h) (zd1 rfl hd) rfl (Nat.le_of_ble_eq_true rfl) (ct_X10_refuse E hE _ (zdl rfl hd) _ _ _) (fun y8 M9 => ?_)
  exact zs_iretW dX10_near_13 rfl
theorem dX10_hasSet_0 : decode cX10_hasSet 0 = .ok (.iload_n 1, 1) := by decide +kernel
theorem dX10_hasSet_1 : decode cX10_hasSet 1 = .ok (.ifCond .lt 17, 3) := by decide +kernel
theorem dX10_hasSet_4 : decode cX10_hasSet 4 = .ok (.iload_n 1, 1) := by decide +kernel
theorem dX10_hasSet_5 : decode cX10_hasSet 5 = .ok (.iconst 1, 1) := by decide +kernel
theorem dX10_hasSet_6 : decode cX10_hasSet 6 = .ok (.aload_n 0, 1) := by decide +kernel
theorem dX10_hasSet_7 : decode cX10_hasSet 7 = .ok (.getfield 129, 3) := by decide +kernel
theorem dX10_hasSet_10 : decode cX10_hasSet 10 = .ok (.ishl, 1) := by decide +kernel
theorem dX10_hasSet_11 : decode cX10_hasSet 11 = .ok (.if_icmp .ge 7, 3) := by decide +kernel
theorem dX10_hasSet_14 : decode cX10_hasSet 14 = .ok (.iconst 1, 1) := by decide +kernel
theorem dX10_hasSet_15 : decode cX10_hasSet 15 = .ok (.goto 4, 3) := by decide +kernel
theorem dX10_hasSet_18 : decode cX10_hasSet 18 = .ok (.iconst 0, 1) := by decide +kernel
theorem dX10_hasSet_19 : decode cX10_hasSet 19 = .ok (.ireturn, 1) := by decide +kernel
def fp_X10_hasSet (v0 : Nat) (v1 : Int32) (M : zM) : Option (Int32) :=
  zthis 8 M v0 (
    if v1 < 0 then (
      some 0)
    else (
      (zgI 8 M v0 1).bind fun (y1 : Int32) =>
      if v1 ≥ (1 <<< (y1 &&& 31)) then (
        some 0)
      else (
        some 1)))
set_option maxHeartbeats 4000000 in
set_option maxRecDepth 100000 in
theorem th_X10_hasSet {v0 : Nat} {v1 : Int32} {M : zM} {x0 : Int32} (h : fp_X10_hasSet v0 v1 M = some x0) : v0 < zS M ∧ kd v0 = 8 := by
  unfold fp_X10_hasSet at h
  exact zthis_of h
set_option maxHeartbeats 4000000 in
set_option maxRecDepth 100000 in
theorem ct_X10_hasSet (E : zEnv) (hE : zEok E) (d : Nat) (hd : 1 ≤ d) (v0 : Nat) (v1 : Int32) (M : zM) (x0 : Int32) (hx : fp_X10_hasSet v0 v1 M = some x0) : zCt E mu_X10_hasSet d [.ref (E.2.2.2.1 + v0), .int v1] M (some (.int x0), M) := by
  refine zCt_of (μ := mu_X10_hasSet) (t := fp_X10_hasSet v0 v1 M) rfl rfl (Nat.le_of_ble_eq_true rfl) hx ?_
  change zSy E mu_X10_hasSet d M (some (.int x0), M) x0 (fp_X10_hasSet v0 v1 M) 0 [(0, .ref (E.2.2.2.1 + v0)), (1, .int v1)] [] M
  unfold fp_X10_hasSet
  refine zs_this (fun hth => ?_)
  refine zs_iload_n dX10_hasSet_0 rfl 1 rfl ?_
  refine zs_if_lt dX10_hasSet_1 rfl ?_ ?_
  · refine zs_iconst (v := 0) dX10_hasSet_18 ciconst_0 ?_
    exact zs_iretP dX10_hasSet_19 rfl
  refine zs_iload_n dX10_hasSet_4 rfl 1 rfl ?_
  refine zs_iconst (v := 1) dX10_hasSet_5 ciconst_1 ?_
  refine zs_aload_n dX10_hasSet_6 rfl 0 rfl ?_
  refine zs_getI dX10_hasSet_7 fl_X10_129 rfl (fun y1 => ?_)
  refine zs_ishl dX10_hasSet_10 ?_
  refine zs_icmp_ge dX10_hasSet_11 rfl ?_ ?_
  · refine zs_iconst (v := 0) dX10_hasSet_18 ciconst_0 ?_
    exact zs_iretP dX10_hasSet_19 rfl
  refine zs_iconst (v := 1) dX10_hasSet_14 ciconst_1 ?_
  refine zs_goto dX10_hasSet_15 rfl ?_
  exact zs_iretP dX10_hasSet_19 rfl
theorem dX10_add_0 : decode cX10_add 0 = .ok (.aload_n 0, 1) := by decide +kernel
theorem dX10_add_1 : decode cX10_add 1 = .ok (.iload_n 1, 1) := by decide +kernel
theorem dX10_add_2 : decode cX10_add 2 = .ok (.invokevirtual 171, 3) := by decide +kernel
theorem dX10_add_5 : decode cX10_add 5 = .ok (.ifCond .ne 9, 3) := by decide +kernel
theorem dX10_add_8 : decode cX10_add 8 = .ok (.aload_n 0, 1) := by decide +kernel
theorem dX10_add_9 : decode cX10_add 9 = .ok (.iconst 1, 1) := by decide +kernel
theorem dX10_add_10 : decode cX10_add 10 = .ok (.invokevirtual 102, 3) := by decide +kernel
theorem dX10_add_13 : decode cX10_add 13 = .ok (.ireturn, 1) := by decide +kernel
theorem dX10_add_14 : decode cX10_add 14 = .ok (.aload_n 0, 1) := by decide +kernel
theorem dX10_add_15 : decode cX10_add 15 = .ok (.getfield 129, 3) := by decide +kernel
theorem dX10_add_18 : decode cX10_add 18 = .ok (.bipush 7, 2) := by decide +kernel
theorem dX10_add_20 : decode cX10_add 20 = .ok (.if_icmp .lt 9, 3) := by decide +kernel
theorem dX10_add_23 : decode cX10_add 23 = .ok (.aload_n 0, 1) := by decide +kernel
theorem dX10_add_24 : decode cX10_add 24 = .ok (.iconst 3, 1) := by decide +kernel
theorem dX10_add_25 : decode cX10_add 25 = .ok (.invokevirtual 102, 3) := by decide +kernel
theorem dX10_add_28 : decode cX10_add 28 = .ok (.ireturn, 1) := by decide +kernel
theorem dX10_add_29 : decode cX10_add 29 = .ok (.aload_n 0, 1) := by decide +kernel
theorem dX10_add_30 : decode cX10_add 30 = .ok (.aload_n 0, 1) := by decide +kernel
theorem dX10_add_31 : decode cX10_add 31 = .ok (.getfield 129, 3) := by decide +kernel
theorem dX10_add_34 : decode cX10_add 34 = .ok (.iconst 1, 1) := by decide +kernel
theorem dX10_add_35 : decode cX10_add 35 = .ok (.iadd, 1) := by decide +kernel
theorem dX10_add_36 : decode cX10_add 36 = .ok (.aload_n 0, 1) := by decide +kernel
theorem dX10_add_37 : decode cX10_add 37 = .ok (.getfield 136, 3) := by decide +kernel
theorem dX10_add_40 : decode cX10_add 40 = .ok (.iload_n 1, 1) := by decide +kernel
theorem dX10_add_41 : decode cX10_add 41 = .ok (.iconst 0, 1) := by decide +kernel
theorem dX10_add_42 : decode cX10_add 42 = .ok (.aload_n 0, 1) := by decide +kernel
theorem dX10_add_43 : decode cX10_add 43 = .ok (.getfield 129, 3) := by decide +kernel
theorem dX10_add_46 : decode cX10_add 46 = .ok (.invokestatic 174, 3) := by decide +kernel
theorem dX10_add_49 : decode cX10_add 49 = .ok (.ishl, 1) := by decide +kernel
theorem dX10_add_50 : decode cX10_add 50 = .ok (.ior, 1) := by decide +kernel
theorem dX10_add_51 : decode cX10_add 51 = .ok (.invokevirtual 125, 3) := by decide +kernel
theorem dX10_add_54 : decode cX10_add 54 = .ok (.aload_n 0, 1) := by decide +kernel
theorem dX10_add_55 : decode cX10_add 55 = .ok (.aload_n 0, 1) := by decide +kernel
theorem dX10_add_56 : decode cX10_add 56 = .ok (.getfield 129, 3) := by decide +kernel
theorem dX10_add_59 : decode cX10_add 59 = .ok (.iconst 1, 1) := by decide +kernel
theorem dX10_add_60 : decode cX10_add 60 = .ok (.isub, 1) := by decide +kernel
theorem dX10_add_61 : decode cX10_add 61 = .ok (.invokevirtual 130, 3) := by decide +kernel
theorem dX10_add_64 : decode cX10_add 64 = .ok (.ireturn, 1) := by decide +kernel
def fp_X10_add (v0 : Nat) (v1 : Int32) (M : zM) : Option (Int32 × zM) :=
  zthis 8 M v0 (
    (fp_X10_hasSet v0 v1 M).bind fun (y1 : Int32) =>
    if y1 ≠ 0 then (
      (zgI 8 M v0 1).bind fun (y2 : Int32) =>
      if y2 < 7 then (
        (zgI 8 M v0 1).bind fun (y3 : Int32) =>
        (zgI 8 M v0 2).bind fun (y4 : Int32) =>
        (zgI 8 M v0 1).bind fun (y5 : Int32) =>
        (fp_X2_pair 0 y5).bind fun (y6 : Int32) =>
        (fp_X10_become v0 (y3 + 1) (y4 ||| (v1 <<< (y6 &&& 31))) M).bind fun (M7 : zM) =>
        (zgI 8 M7 v0 1).bind fun (y8 : Int32) =>
        (fp_X10_answer v0 (y8 - 1) M7).bind fun p11 => zpp p11 fun (y9 : Int32) (M10 : zM) =>
        some (y9, M10))
      else (
        (fp_X10_refuse v0 3 M).bind fun p14 => zpp p14 fun (y12 : Int32) (M13 : zM) =>
        some (y12, M13)))
    else (
      (fp_X10_refuse v0 1 M).bind fun p17 => zpp p17 fun (y15 : Int32) (M16 : zM) =>
      some (y15, M16)))
set_option maxHeartbeats 4000000 in
set_option maxRecDepth 100000 in
theorem th_X10_add {v0 : Nat} {v1 : Int32} {M : zM} {x0 : Int32 × zM} (h : fp_X10_add v0 v1 M = some x0) : v0 < zS M ∧ kd v0 = 8 := by
  unfold fp_X10_add at h
  exact zthis_of h
set_option maxHeartbeats 4000000 in
set_option maxRecDepth 100000 in
theorem ct_X10_add (E : zEnv) (hE : zEok E) (d : Nat) (hd : 4 ≤ d) (v0 : Nat) (v1 : Int32) (M : zM) (x0 : Int32 × zM) (hx : fp_X10_add v0 v1 M = some x0) : zCt E mu_X10_add d [.ref (E.2.2.2.1 + v0), .int v1] M (some (.int x0.1), x0.2) := by
  refine zCt_of (μ := mu_X10_add) (t := fp_X10_add v0 v1 M) rfl rfl (Nat.le_of_ble_eq_true rfl) hx ?_
  change zSy E mu_X10_add d M (some (.int x0.1), x0.2) x0 (fp_X10_add v0 v1 M) 0 [(0, .ref (E.2.2.2.1 + v0)), (1, .int v1)] [] M
  unfold fp_X10_add
  refine zs_this (fun hth => ?_)
  refine zs_aload_n dX10_add_0 rfl 0 rfl ?_
  refine zs_iload_n dX10_add_1 rfl 1 rfl ?_
  refine zs_invVPI (rest := []) [.int v1] dX10_add_2 lk_X10_171 rfl (fun _ h => th_X10_hasSet h) (zd1 rfl hd) rfl (Nat.le_of_ble_eq_true rfl) (ct_X10_hasSet E hE _ (zdl rfl hd) _ _ _) (fun y1 => ?_)
  refine zs_if_ne dX10_add_5 rfl ?_ ?_
  · refine zs_aload_n dX10_add_14 rfl 0 rfl ?_
    refine zs_getI dX10_add_15 fl_X10_129 rfl (fun y2 => ?_)
    refine zs_bipush (v := 7) dX10_add_18 cbipush_7 ?_
    refine zs_icmp_lt dX10_add_20 rfl ?_ ?_
    · refine zs_aload_n dX10_add_29 rfl 0 rfl ?_
      refine zs_aload_n dX10_add_30 rfl 0 rfl ?_
      refine zs_getI dX10_add_31 fl_X10_129 rfl (fun y3 => ?_)
      refine zs_iconst (v := 1) dX10_add_34 ciconst_1 ?_
      refine zs_iadd dX10_add_35 ?_
      refine zs_aload_n dX10_add_36 rfl 0 rfl ?_
      refine zs_getI dX10_add_37 fl_X10_136 rfl (fun y4 => ?_)
      refine zs_iload_n dX10_add_40 rfl 1 rfl ?_
      refine zs_iconst (v := 0) dX10_add_41 ciconst_0 ?_
      refine zs_aload_n dX10_add_42 rfl 0 rfl ?_
      refine zs_getI dX10_add_43 fl_X10_129 rfl (fun y5 => ?_)
      refine zs_invSPI (rest := [.int v1, .int y4, .int (y3 + 1), .ref (E.2.2.2.1 + v0)]) [.int 0, .int y5] dX10_add_46 lk_X10_174 rfl (zd1 rfl hd) rfl (Nat.le_of_ble_eq_true rfl) (ct_X2_pair E hE _ (zdl rfl hd) _ _ _) (fun y6 => ?_)
      refine zs_ishl dX10_add_49 ?_
      refine zs_ior dX10_add_50 ?_
      refine zs_invVWV (rest := []) [.int (y3 + 1), .int (y4 ||| (v1 <<< (y6 &&& 31)))] dX10_add_51 lk_X10_125 rfl (fun _ h => th_X10_become h) (zd1 rfl hd) rfl (Nat.le_of_ble_eq_true rfl) (ct_X10_become E hE _ (zdl rfl hd) _ _ _ _) (fun M7 => ?_)
      refine zs_aload_n dX10_add_54 rfl 0 rfl ?_
      refine zs_aload_n dX10_add_55 rfl 0 rfl ?_
      refine zs_getI dX10_add_56 fl_X10_129 rfl (fun y8 => ?_)
      refine zs_iconst (v := 1) dX10_add_59 ciconst_1 ?_
      refine zs_isub dX10_add_60 ?_
      refine zs_invVWI (rest := []) [.int (y8 - 1)] dX10_add_61 lk_X10_130 rfl (fun _ h => th_X10_answer h) (zd1 rfl hd) rfl (Nat.le_of_ble_eq_true rfl) (ct_X10_answer E hE _ (zdl rfl hd) _ _ _) (fun y9 M10 => ?_)
      exact zs_iretW dX10_add_64 rfl
    refine zs_aload_n dX10_add_23 rfl 0 rfl ?_
    refine zs_iconst (v := 3) dX10_add_24 ciconst_3 ?_
    refine zs_invVWI (rest := []) [.int 3] dX10_add_25 lk_X10_102 rfl (fun _ h => th_X10_refuse h) (zd1 rfl hd) rfl (Nat.le_of_ble_eq_true rfl) (ct_X10_refuse E hE _ (zdl rfl hd) _ _ _) (fun y12 M13 => ?_)
    exact zs_iretW dX10_add_28 rfl
  refine zs_aload_n dX10_add_8 rfl 0 rfl ?_
  refine zs_iconst (v := 1) dX10_add_9 ciconst_1 ?_
  refine zs_invVWI (rest := []) [.int 1] dX10_add_10 lk_X10_102 rfl (fun _ h => th_X10_refuse h) (zd1 rfl hd) rfl (Nat.le_of_ble_eq_true rfl) (ct_X10_refuse E hE _ (zdl rfl hd) _ _ _) (fun y15 M16 => ?_)
  exact zs_iretW dX10_add_13 rfl
theorem dX10_drop_0 : decode cX10_drop 0 = .ok (.aload_n 0, 1) := by decide +kernel
theorem dX10_drop_1 : decode cX10_drop 1 = .ok (.iload_n 1, 1) := by decide +kernel
theorem dX10_drop_2 : decode cX10_drop 2 = .ok (.invokevirtual 164, 3) := by decide +kernel
theorem dX10_drop_5 : decode cX10_drop 5 = .ok (.ifCond .ne 9, 3) := by decide +kernel
theorem dX10_drop_8 : decode cX10_drop 8 = .ok (.aload_n 0, 1) := by decide +kernel
theorem dX10_drop_9 : decode cX10_drop 9 = .ok (.iconst 2, 1) := by decide +kernel
theorem dX10_drop_10 : decode cX10_drop 10 = .ok (.invokevirtual 102, 3) := by decide +kernel
theorem dX10_drop_13 : decode cX10_drop 13 = .ok (.ireturn, 1) := by decide +kernel
theorem dX10_drop_14 : decode cX10_drop 14 = .ok (.aload_n 0, 1) := by decide +kernel
theorem dX10_drop_15 : decode cX10_drop 15 = .ok (.getfield 129, 3) := by decide +kernel
theorem dX10_drop_18 : decode cX10_drop 18 = .ok (.invokestatic 177, 3) := by decide +kernel
theorem dX10_drop_21 : decode cX10_drop 21 = .ok (.iconst 1, 1) := by decide +kernel
theorem dX10_drop_22 : decode cX10_drop 22 = .ok (.iload_n 1, 1) := by decide +kernel
theorem dX10_drop_23 : decode cX10_drop 23 = .ok (.ishl, 1) := by decide +kernel
theorem dX10_drop_24 : decode cX10_drop 24 = .ok (.ixor, 1) := by decide +kernel
theorem dX10_drop_25 : decode cX10_drop 25 = .ok (.istore_n 2, 1) := by decide +kernel
theorem dX10_drop_26 : decode cX10_drop 26 = .ok (.aload_n 0, 1) := by decide +kernel
theorem dX10_drop_27 : decode cX10_drop 27 = .ok (.aload_n 0, 1) := by decide +kernel
theorem dX10_drop_28 : decode cX10_drop 28 = .ok (.getfield 129, 3) := by decide +kernel
theorem dX10_drop_31 : decode cX10_drop 31 = .ok (.iconst 1, 1) := by decide +kernel
theorem dX10_drop_32 : decode cX10_drop 32 = .ok (.isub, 1) := by decide +kernel
theorem dX10_drop_33 : decode cX10_drop 33 = .ok (.aload_n 0, 1) := by decide +kernel
theorem dX10_drop_34 : decode cX10_drop 34 = .ok (.getfield 129, 3) := by decide +kernel
theorem dX10_drop_37 : decode cX10_drop 37 = .ok (.aload_n 0, 1) := by decide +kernel
theorem dX10_drop_38 : decode cX10_drop 38 = .ok (.getfield 136, 3) := by decide +kernel
theorem dX10_drop_41 : decode cX10_drop 41 = .ok (.iload_n 2, 1) := by decide +kernel
theorem dX10_drop_42 : decode cX10_drop 42 = .ok (.invokestatic 180, 3) := by decide +kernel
theorem dX10_drop_45 : decode cX10_drop 45 = .ok (.invokevirtual 125, 3) := by decide +kernel
theorem dX10_drop_48 : decode cX10_drop 48 = .ok (.aload_n 0, 1) := by decide +kernel
theorem dX10_drop_49 : decode cX10_drop 49 = .ok (.aload_n 0, 1) := by decide +kernel
theorem dX10_drop_50 : decode cX10_drop 50 = .ok (.getfield 129, 3) := by decide +kernel
theorem dX10_drop_53 : decode cX10_drop 53 = .ok (.invokevirtual 130, 3) := by decide +kernel
theorem dX10_drop_56 : decode cX10_drop 56 = .ok (.ireturn, 1) := by decide +kernel
def fp_X10_drop (v0 : Nat) (v1 : Int32) (M : zM) : Option (Int32 × zM) :=
  zthis 8 M v0 (
    (fp_X10_hasPoint v0 v1 M).bind fun (y1 : Int32) =>
    if y1 ≠ 0 then (
      (zgI 8 M v0 1).bind fun (y2 : Int32) =>
      (fp_X2_everyPoint y2).bind fun (y3 : Int32) =>
      lett ((y3 ^^^ (1 <<< (v1 &&& 31)))) fun (v2_4 : Int32) =>
      (zgI 8 M v0 1).bind fun (y5 : Int32) =>
      (zgI 8 M v0 1).bind fun (y6 : Int32) =>
      (zgI 8 M v0 2).bind fun (y7 : Int32) =>
      (fp_X2_part y6 y7 v2_4).bind fun (y8 : Int32) =>
      (fp_X10_become v0 (y5 - 1) y8 M).bind fun (M9 : zM) =>
      (zgI 8 M9 v0 1).bind fun (y10 : Int32) =>
      (fp_X10_answer v0 y10 M9).bind fun p13 => zpp p13 fun (y11 : Int32) (M12 : zM) =>
      some (y11, M12))
    else (
      (fp_X10_refuse v0 2 M).bind fun p16 => zpp p16 fun (y14 : Int32) (M15 : zM) =>
      some (y14, M15)))
set_option maxHeartbeats 4000000 in
set_option maxRecDepth 100000 in
theorem th_X10_drop {v0 : Nat} {v1 : Int32} {M : zM} {x0 : Int32 × zM} (h : fp_X10_drop v0 v1 M = some x0) : v0 < zS M ∧ kd v0 = 8 := by
  unfold fp_X10_drop at h
  exact zthis_of h
set_option maxHeartbeats 4000000 in
set_option maxRecDepth 100000 in
theorem ct_X10_drop (E : zEnv) (hE : zEok E) (d : Nat) (hd : 4 ≤ d) (v0 : Nat) (v1 : Int32) (M : zM) (x0 : Int32 × zM) (hx : fp_X10_drop v0 v1 M = some x0) : zCt E mu_X10_drop d [.ref (E.2.2.2.1 + v0), .int v1] M (some (.int x0.1), x0.2) := by
  refine zCt_of (μ := mu_X10_drop) (t := fp_X10_drop v0 v1 M) rfl rfl (Nat.le_of_ble_eq_true rfl) hx ?_
  change zSy E mu_X10_drop d M (some (.int x0.1), x0.2) x0 (fp_X10_drop v0 v1 M) 0 [(0, .ref (E.2.2.2.1 + v0)), (1, .int v1)] [] M
  unfold fp_X10_drop
  refine zs_this (fun hth => ?_)
  refine zs_aload_n dX10_drop_0 rfl 0 rfl ?_
  refine zs_iload_n dX10_drop_1 rfl 1 rfl ?_
  refine zs_invVPI (rest := []) [.int v1] dX10_drop_2 lk_X10_164 rfl (fun _ h => th_X10_hasPoint h) (zd1 rfl hd) rfl (Nat.le_of_ble_eq_true rfl) (ct_X10_hasPoint E hE _ (zdl rfl hd) _ _ _) (fun y1 => ?_)
  refine zs_if_ne dX10_drop_5 rfl ?_ ?_
  · refine zs_aload_n dX10_drop_14 rfl 0 rfl ?_
    refine zs_getI dX10_drop_15 fl_X10_129 rfl (fun y2 => ?_)
    refine zs_invSPI (rest := []) [.int y2] dX10_drop_18 lk_X10_177 rfl (zd1 rfl hd) rfl (Nat.le_of_ble_eq_true rfl) (ct_X2_everyPoint E hE _ (zdl rfl hd) _ _) (fun y3 => ?_)
    refine zs_iconst (v := 1) dX10_drop_21 ciconst_1 ?_
    refine zs_iload_n dX10_drop_22 rfl 1 rfl ?_
    refine zs_ishl dX10_drop_23 ?_
    refine zs_ixor dX10_drop_24 ?_
    refine zs_istore_nL (loc' := fun v2_4 => [(0, .ref (E.2.2.2.1 + v0)), (2, .int v2_4)]) dX10_drop_25 rfl (Nat.le_of_ble_eq_true rfl) [1, 0] (fun _ => rfl) (fun v2_4 => ?_)
    refine zs_aload_n dX10_drop_26 rfl 0 rfl ?_
    refine zs_aload_n dX10_drop_27 rfl 0 rfl ?_
    refine zs_getI dX10_drop_28 fl_X10_129 rfl (fun y5 => ?_)
    refine zs_iconst (v := 1) dX10_drop_31 ciconst_1 ?_
    refine zs_isub dX10_drop_32 ?_
    refine zs_aload_n dX10_drop_33 rfl 0 rfl ?_
    refine zs_getI dX10_drop_34 fl_X10_129 rfl (fun y6 => ?_)
    refine zs_aload_n dX10_drop_37 rfl 0 rfl ?_
    refine zs_getI dX10_drop_38 fl_X10_136 rfl (fun y7 => ?_)
    refine zs_iload_n dX10_drop_41 rfl 1 rfl ?_
    refine zs_invSPI (rest := [.int (y5 - 1), .ref (E.2.2.2.1 + v0)]) [.int y6, .int y7, .int v2_4] dX10_drop_42 lk_X10_180 rfl (zd1 rfl hd) rfl (Nat.le_of_ble_eq_true rfl) (ct_X2_part E hE _ (zdl rfl hd) _ _ _ _) (fun y8 => ?_)
    refine zs_invVWV (rest := []) [.int (y5 - 1), .int y8] dX10_drop_45 lk_X10_125 rfl (fun _ h => th_X10_become h) (zd1 rfl hd) rfl (Nat.le_of_ble_eq_true rfl) (ct_X10_become E hE _ (zdl rfl hd) _ _ _ _) (fun M9 => ?_)
    refine zs_aload_n dX10_drop_48 rfl 0 rfl ?_
    refine zs_aload_n dX10_drop_49 rfl 0 rfl ?_
    refine zs_getI dX10_drop_50 fl_X10_129 rfl (fun y10 => ?_)
    refine zs_invVWI (rest := []) [.int y10] dX10_drop_53 lk_X10_130 rfl (fun _ h => th_X10_answer h) (zd1 rfl hd) rfl (Nat.le_of_ble_eq_true rfl) (ct_X10_answer E hE _ (zdl rfl hd) _ _ _) (fun y11 M12 => ?_)
    exact zs_iretW dX10_drop_56 rfl
  refine zs_aload_n dX10_drop_8 rfl 0 rfl ?_
  refine zs_iconst (v := 2) dX10_drop_9 ciconst_2 ?_
  refine zs_invVWI (rest := []) [.int 2] dX10_drop_10 lk_X10_102 rfl (fun _ h => th_X10_refuse h) (zd1 rfl hd) rfl (Nat.le_of_ble_eq_true rfl) (ct_X10_refuse E hE _ (zdl rfl hd) _ _ _) (fun y14 M15 => ?_)
  exact zs_iretW dX10_drop_13 rfl
theorem dX10_badCouple_0 : decode cX10_badCouple 0 = .ok (.aload_n 0, 1) := by decide +kernel
theorem dX10_badCouple_1 : decode cX10_badCouple 1 = .ok (.iload_n 1, 1) := by decide +kernel
theorem dX10_badCouple_2 : decode cX10_badCouple 2 = .ok (.invokevirtual 164, 3) := by decide +kernel
theorem dX10_badCouple_5 : decode cX10_badCouple 5 = .ok (.ifCond .eq 11, 3) := by decide +kernel
theorem dX10_badCouple_8 : decode cX10_badCouple 8 = .ok (.aload_n 0, 1) := by decide +kernel
theorem dX10_badCouple_9 : decode cX10_badCouple 9 = .ok (.iload_n 2, 1) := by decide +kernel
theorem dX10_badCouple_10 : decode cX10_badCouple 10 = .ok (.invokevirtual 164, 3) := by decide +kernel
theorem dX10_badCouple_13 : decode cX10_badCouple 13 = .ok (.ifCond .ne 5, 3) := by decide +kernel
theorem dX10_badCouple_16 : decode cX10_badCouple 16 = .ok (.iconst 2, 1) := by decide +kernel
theorem dX10_badCouple_17 : decode cX10_badCouple 17 = .ok (.ireturn, 1) := by decide +kernel
theorem dX10_badCouple_18 : decode cX10_badCouple 18 = .ok (.iload_n 1, 1) := by decide +kernel
theorem dX10_badCouple_19 : decode cX10_badCouple 19 = .ok (.iload_n 2, 1) := by decide +kernel
theorem dX10_badCouple_20 : decode cX10_badCouple 20 = .ok (.if_icmp .ne 7, 3) := by decide +kernel
theorem dX10_badCouple_23 : decode cX10_badCouple 23 = .ok (.iconst 4, 1) := by decide +kernel
theorem dX10_badCouple_24 : decode cX10_badCouple 24 = .ok (.goto 4, 3) := by decide +kernel
theorem dX10_badCouple_27 : decode cX10_badCouple 27 = .ok (.iconst 0, 1) := by decide +kernel
theorem dX10_badCouple_28 : decode cX10_badCouple 28 = .ok (.ireturn, 1) := by decide +kernel
def fp_X10_badCouple (v0 : Nat) (v1 : Int32) (v2 : Int32) (M : zM) : Option (Int32) :=
  zthis 8 M v0 (
    (fp_X10_hasPoint v0 v1 M).bind fun (y1 : Int32) =>
    if y1 = 0 then (
      some 2)
    else (
      (fp_X10_hasPoint v0 v2 M).bind fun (y2 : Int32) =>
      if y2 ≠ 0 then (
        if v1 ≠ v2 then (
          some 0)
        else (
          some 4))
      else (
        some 2)))
set_option maxHeartbeats 4000000 in
set_option maxRecDepth 100000 in
theorem th_X10_badCouple {v0 : Nat} {v1 : Int32} {v2 : Int32} {M : zM} {x0 : Int32} (h : fp_X10_badCouple v0 v1 v2 M = some x0) : v0 < zS M ∧ kd v0 = 8 := by
  unfold fp_X10_badCouple at h
  exact zthis_of h
set_option maxHeartbeats 4000000 in
set_option maxRecDepth 100000 in
theorem ct_X10_badCouple (E : zEnv) (hE : zEok E) (d : Nat) (hd : 2 ≤ d) (v0 : Nat) (v1 : Int32) (v2 : Int32) (M : zM) (x0 : Int32) (hx : fp_X10_badCouple v0 v1 v2 M = some x0) : zCt E mu_X10_badCouple d [.ref (E.2.2.2.1 + v0), .int v1, .int v2] M (some (.int x0), M) := by
  refine zCt_of (μ := mu_X10_badCouple) (t := fp_X10_badCouple v0 v1 v2 M) rfl rfl (Nat.le_of_ble_eq_true rfl) hx ?_
  change zSy E mu_X10_badCouple d M (some (.int x0), M) x0 (fp_X10_badCouple v0 v1 v2 M) 0 [(0, .ref (E.2.2.2.1 + v0)), (1, .int v1), (2, .int v2)] [] M
  unfold fp_X10_badCouple
  refine zs_this (fun hth => ?_)
  refine zs_aload_n dX10_badCouple_0 rfl 0 rfl ?_
  refine zs_iload_n dX10_badCouple_1 rfl 1 rfl ?_
  refine zs_invVPI (rest := []) [.int v1] dX10_badCouple_2 lk_X10_164 rfl (fun _ h => th_X10_hasPoint h) (zd1 rfl hd) rfl (Nat.le_of_ble_eq_true rfl) (ct_X10_hasPoint E hE _ (zdl rfl hd) _ _ _) (fun y1 => ?_)
  refine zs_if_eq dX10_badCouple_5 rfl ?_ ?_
  · refine zs_iconst (v := 2) dX10_badCouple_16 ciconst_2 ?_
    exact zs_iretP dX10_badCouple_17 rfl
  refine zs_aload_n dX10_badCouple_8 rfl 0 rfl ?_
  refine zs_iload_n dX10_badCouple_9 rfl 2 rfl ?_
  refine zs_invVPI (rest := []) [.int v2] dX10_badCouple_10 lk_X10_164 rfl (fun _ h => th_X10_hasPoint h) (zd1 rfl hd) rfl (Nat.le_of_ble_eq_true rfl) (ct_X10_hasPoint E hE _ (zdl rfl hd) _ _ _) (fun y2 => ?_)
  refine zs_if_ne dX10_badCouple_13 rfl ?_ ?_
  · refine zs_iload_n dX10_badCouple_18 rfl 1 rfl ?_
    refine zs_iload_n dX10_badCouple_19 rfl 2 rfl ?_
    refine zs_icmp_ne dX10_badCouple_20 rfl ?_ ?_
    · refine zs_iconst (v := 0) dX10_badCouple_27 ciconst_0 ?_
      exact zs_iretP dX10_badCouple_28 rfl
    refine zs_iconst (v := 4) dX10_badCouple_23 ciconst_4 ?_
    refine zs_goto dX10_badCouple_24 rfl ?_
    exact zs_iretP dX10_badCouple_28 rfl
  refine zs_iconst (v := 2) dX10_badCouple_16 ciconst_2 ?_
  exact zs_iretP dX10_badCouple_17 rfl
theorem dX10_flip_0 : decode cX10_flip 0 = .ok (.aload_n 0, 1) := by decide +kernel
theorem dX10_flip_1 : decode cX10_flip 1 = .ok (.iload_n 1, 1) := by decide +kernel
theorem dX10_flip_2 : decode cX10_flip 2 = .ok (.iload_n 2, 1) := by decide +kernel
theorem dX10_flip_3 : decode cX10_flip 3 = .ok (.invokevirtual 183, 3) := by decide +kernel
theorem dX10_flip_6 : decode cX10_flip 6 = .ok (.istore_n 3, 1) := by decide +kernel
theorem dX10_flip_7 : decode cX10_flip 7 = .ok (.iload_n 3, 1) := by decide +kernel
theorem dX10_flip_8 : decode cX10_flip 8 = .ok (.ifCond .eq 9, 3) := by decide +kernel
theorem dX10_flip_11 : decode cX10_flip 11 = .ok (.aload_n 0, 1) := by decide +kernel
theorem dX10_flip_12 : decode cX10_flip 12 = .ok (.iload_n 3, 1) := by decide +kernel
theorem dX10_flip_13 : decode cX10_flip 13 = .ok (.invokevirtual 102, 3) := by decide +kernel
theorem dX10_flip_16 : decode cX10_flip 16 = .ok (.ireturn, 1) := by decide +kernel
theorem dX10_flip_17 : decode cX10_flip 17 = .ok (.aload_n 0, 1) := by decide +kernel
theorem dX10_flip_18 : decode cX10_flip 18 = .ok (.aload_n 0, 1) := by decide +kernel
theorem dX10_flip_19 : decode cX10_flip 19 = .ok (.getfield 129, 3) := by decide +kernel
theorem dX10_flip_22 : decode cX10_flip 22 = .ok (.aload_n 0, 1) := by decide +kernel
theorem dX10_flip_23 : decode cX10_flip 23 = .ok (.getfield 136, 3) := by decide +kernel
theorem dX10_flip_26 : decode cX10_flip 26 = .ok (.iconst 1, 1) := by decide +kernel
theorem dX10_flip_27 : decode cX10_flip 27 = .ok (.iload_n 1, 1) := by decide +kernel
theorem dX10_flip_28 : decode cX10_flip 28 = .ok (.iload_n 2, 1) := by decide +kernel
theorem dX10_flip_29 : decode cX10_flip 29 = .ok (.invokestatic 174, 3) := by decide +kernel
theorem dX10_flip_32 : decode cX10_flip 32 = .ok (.ishl, 1) := by decide +kernel
theorem dX10_flip_33 : decode cX10_flip 33 = .ok (.ixor, 1) := by decide +kernel
theorem dX10_flip_34 : decode cX10_flip 34 = .ok (.invokevirtual 125, 3) := by decide +kernel
theorem dX10_flip_37 : decode cX10_flip 37 = .ok (.aload_n 0, 1) := by decide +kernel
theorem dX10_flip_38 : decode cX10_flip 38 = .ok (.aload_n 0, 1) := by decide +kernel
theorem dX10_flip_39 : decode cX10_flip 39 = .ok (.getfield 136, 3) := by decide +kernel
theorem dX10_flip_42 : decode cX10_flip 42 = .ok (.iload_n 1, 1) := by decide +kernel
theorem dX10_flip_43 : decode cX10_flip 43 = .ok (.iload_n 2, 1) := by decide +kernel
theorem dX10_flip_44 : decode cX10_flip 44 = .ok (.invokestatic 186, 3) := by decide +kernel
theorem dX10_flip_47 : decode cX10_flip 47 = .ok (.ifCond .eq 7, 3) := by decide +kernel
theorem dX10_flip_50 : decode cX10_flip 50 = .ok (.iconst 1, 1) := by decide +kernel
theorem dX10_flip_51 : decode cX10_flip 51 = .ok (.goto 4, 3) := by decide +kernel
theorem dX10_flip_54 : decode cX10_flip 54 = .ok (.iconst 0, 1) := by decide +kernel
theorem dX10_flip_55 : decode cX10_flip 55 = .ok (.invokevirtual 130, 3) := by decide +kernel
theorem dX10_flip_58 : decode cX10_flip 58 = .ok (.ireturn, 1) := by decide +kernel
def fp_X10_flip (v0 : Nat) (v1 : Int32) (v2 : Int32) (M : zM) : Option (Int32 × zM) :=
  zthis 8 M v0 (
    (fp_X10_badCouple v0 v1 v2 M).bind fun (y1 : Int32) =>
    if y1 = 0 then (
      (zgI 8 M v0 1).bind fun (y2 : Int32) =>
      (zgI 8 M v0 2).bind fun (y3 : Int32) =>
      (fp_X2_pair v1 v2).bind fun (y4 : Int32) =>
      (fp_X10_become v0 y2 (y3 ^^^ (1 <<< (y4 &&& 31))) M).bind fun (M5 : zM) =>
      (zgI 8 M5 v0 2).bind fun (y6 : Int32) =>
      (fp_X2_tied y6 v1 v2).bind fun (y7 : Int32) =>
      if y7 = 0 then (
        (fp_X10_answer v0 0 M5).bind fun p10 => zpp p10 fun (y8 : Int32) (M9 : zM) =>
        some (y8, M9))
      else (
        (fp_X10_answer v0 1 M5).bind fun p13 => zpp p13 fun (y11 : Int32) (M12 : zM) =>
        some (y11, M12)))
    else (
      (fp_X10_refuse v0 y1 M).bind fun p16 => zpp p16 fun (y14 : Int32) (M15 : zM) =>
      some (y14, M15)))
set_option maxHeartbeats 4000000 in
set_option maxRecDepth 100000 in
theorem th_X10_flip {v0 : Nat} {v1 : Int32} {v2 : Int32} {M : zM} {x0 : Int32 × zM} (h : fp_X10_flip v0 v1 v2 M = some x0) : v0 < zS M ∧ kd v0 = 8 := by
  unfold fp_X10_flip at h
  exact zthis_of h
set_option maxHeartbeats 4000000 in
set_option maxRecDepth 100000 in
theorem ct_X10_flip (E : zEnv) (hE : zEok E) (d : Nat) (hd : 4 ≤ d) (v0 : Nat) (v1 : Int32) (v2 : Int32) (M : zM) (x0 : Int32 × zM) (hx : fp_X10_flip v0 v1 v2 M = some x0) : zCt E mu_X10_flip d [.ref (E.2.2.2.1 + v0), .int v1, .int v2] M (some (.int x0.1), x0.2) := by
  refine zCt_of (μ := mu_X10_flip) (t := fp_X10_flip v0 v1 v2 M) rfl rfl (Nat.le_of_ble_eq_true rfl) hx ?_
  change zSy E mu_X10_flip d M (some (.int x0.1), x0.2) x0 (fp_X10_flip v0 v1 v2 M) 0 [(0, .ref (E.2.2.2.1 + v0)), (1, .int v1), (2, .int v2)] [] M
  unfold fp_X10_flip
  refine zs_this (fun hth => ?_)
  refine zs_aload_n dX10_flip_0 rfl 0 rfl ?_
  refine zs_iload_n dX10_flip_1 rfl 1 rfl ?_
  refine zs_iload_n dX10_flip_2 rfl 2 rfl ?_
  refine zs_invVPI (rest := []) [.int v1, .int v2] dX10_flip_3 lk_X10_183 rfl (fun _ h => th_X10_badCouple h) (zd1 rfl hd) rfl (Nat.le_of_ble_eq_true rfl) (ct_X10_badCouple E hE _ (zdl rfl hd) _ _ _ _) (fun y1 => ?_)
  refine zs_istore_n (loc' := [(0, .ref (E.2.2.2.1 + v0)), (1, .int v1), (2, .int v2), (3, .int y1)]) dX10_flip_6 rfl (Nat.le_of_ble_eq_true rfl) [1, 2, 3, 0] rfl ?_
  refine zs_iload_n dX10_flip_7 rfl 3 rfl ?_
  refine zs_if_eq dX10_flip_8 rfl ?_ ?_
  · refine zs_aload_n dX10_flip_17 rfl 0 rfl ?_
    refine zs_aload_n dX10_flip_18 rfl 0 rfl ?_
    refine zs_getI dX10_flip_19 fl_X10_129 rfl (fun y2 => ?_)
    refine zs_aload_n dX10_flip_22 rfl 0 rfl ?_
    refine zs_getI dX10_flip_23 fl_X10_136 rfl (fun y3 => ?_)
    refine zs_iconst (v := 1) dX10_flip_26 ciconst_1 ?_
    refine zs_iload_n dX10_flip_27 rfl 1 rfl ?_
    refine zs_iload_n dX10_flip_28 rfl 2 rfl ?_
    refine zs_invSPI (rest := [.int 1, .int y3, .int y2, .ref (E.2.2.2.1 + v0)]) [.int v1, .int v2] dX10_flip_29 lk_X10_174 rfl (zd1 rfl hd) rfl (Nat.le_of_ble_eq_true rfl) (ct_X2_pair E hE _ (zdl rfl hd) _ _ _) (fun y4 => ?_)
    refine zs_ishl dX10_flip_32 ?_
    refine zs_ixor dX10_flip_33 ?_
    refine zs_invVWV (rest := []) [.int y2, .int (y3 ^^^ (1 <<< (y4 &&& 31)))] dX10_flip_34 lk_X10_125 rfl (fun _ h => th_X10_become h) (zd1 rfl hd) rfl (Nat.le_of_ble_eq_true rfl) (ct_X10_become E hE _ (zdl rfl hd) _ _ _ _) (fun M5 => ?_)
    refine zs_aload_n dX10_flip_37 rfl 0 rfl ?_
    refine zs_aload_n dX10_flip_38 rfl 0 rfl ?_
    refine zs_getI dX10_flip_39 fl_X10_136 rfl (fun y6 => ?_)
    refine zs_iload_n dX10_flip_42 rfl 1 rfl ?_
    refine zs_iload_n dX10_flip_43 rfl 2 rfl ?_
    refine zs_invSPI (rest := [.ref (E.2.2.2.1 + v0)]) [.int y6, .int v1, .int v2] dX10_flip_44 lk_X10_186 rfl (zd1 rfl hd) rfl (Nat.le_of_ble_eq_true rfl) (ct_X2_tied E hE _ (zdl rfl hd) _ _ _ _) (fun y7 => ?_)
    refine zs_if_eq dX10_flip_47 rfl ?_ ?_
    · refine zs_iconst (v := 0) dX10_flip_54 ciconst_0 ?_
      refine zs_invVWI (rest := []) [.int 0] dX10_flip_55 lk_X10_130 rfl (fun _ h => th_X10_answer h) (zd1 rfl hd) rfl (Nat.le_of_ble_eq_true rfl) (ct_X10_answer E hE _ (zdl rfl hd) _ _ _) (fun y8 M9 => ?_)
      exact zs_iretW dX10_flip_58 rfl
    refine zs_iconst (v := 1) dX10_flip_50 ciconst_1 ?_
    refine zs_goto dX10_flip_51 rfl ?_
    refine zs_invVWI (rest := []) [.int 1] dX10_flip_55 lk_X10_130 rfl (fun _ h => th_X10_answer h) (zd1 rfl hd) rfl (Nat.le_of_ble_eq_true rfl) (ct_X10_answer E hE _ (zdl rfl hd) _ _ _) (fun y11 M12 => ?_)
    exact zs_iretW dX10_flip_58 rfl
  refine zs_aload_n dX10_flip_11 rfl 0 rfl ?_
  refine zs_iload_n dX10_flip_12 rfl 3 rfl ?_
  refine zs_invVWI (rest := []) [.int y1] dX10_flip_13 lk_X10_102 rfl (fun _ h => th_X10_refuse h) (zd1 rfl hd) rfl (Nat.le_of_ble_eq_true rfl) (ct_X10_refuse E hE _ (zdl rfl hd) _ _ _) (fun y14 M15 => ?_)
  exact zs_iretW dX10_flip_16 rfl
theorem dX10_turn_0 : decode cX10_turn 0 = .ok (.aload_n 0, 1) := by decide +kernel
theorem dX10_turn_1 : decode cX10_turn 1 = .ok (.iload_n 1, 1) := by decide +kernel
theorem dX10_turn_2 : decode cX10_turn 2 = .ok (.invokevirtual 164, 3) := by decide +kernel
theorem dX10_turn_5 : decode cX10_turn 5 = .ok (.ifCond .ne 9, 3) := by decide +kernel
theorem dX10_turn_8 : decode cX10_turn 8 = .ok (.aload_n 0, 1) := by decide +kernel
theorem dX10_turn_9 : decode cX10_turn 9 = .ok (.iconst 2, 1) := by decide +kernel
theorem dX10_turn_10 : decode cX10_turn 10 = .ok (.invokevirtual 102, 3) := by decide +kernel
theorem dX10_turn_13 : decode cX10_turn 13 = .ok (.ireturn, 1) := by decide +kernel
theorem dX10_turn_14 : decode cX10_turn 14 = .ok (.aload_n 0, 1) := by decide +kernel
theorem dX10_turn_15 : decode cX10_turn 15 = .ok (.aload_n 0, 1) := by decide +kernel
theorem dX10_turn_16 : decode cX10_turn 16 = .ok (.getfield 129, 3) := by decide +kernel
theorem dX10_turn_19 : decode cX10_turn 19 = .ok (.aload_n 0, 1) := by decide +kernel
theorem dX10_turn_20 : decode cX10_turn 20 = .ok (.getfield 129, 3) := by decide +kernel
theorem dX10_turn_23 : decode cX10_turn 23 = .ok (.aload_n 0, 1) := by decide +kernel
theorem dX10_turn_24 : decode cX10_turn 24 = .ok (.getfield 136, 3) := by decide +kernel
theorem dX10_turn_27 : decode cX10_turn 27 = .ok (.iload_n 1, 1) := by decide +kernel
theorem dX10_turn_28 : decode cX10_turn 28 = .ok (.invokestatic 190, 3) := by decide +kernel
theorem dX10_turn_31 : decode cX10_turn 31 = .ok (.invokevirtual 125, 3) := by decide +kernel
theorem dX10_turn_34 : decode cX10_turn 34 = .ok (.aload_n 0, 1) := by decide +kernel
theorem dX10_turn_35 : decode cX10_turn 35 = .ok (.aload_n 0, 1) := by decide +kernel
theorem dX10_turn_36 : decode cX10_turn 36 = .ok (.getfield 136, 3) := by decide +kernel
theorem dX10_turn_39 : decode cX10_turn 39 = .ok (.invokestatic 137, 3) := by decide +kernel
theorem dX10_turn_42 : decode cX10_turn 42 = .ok (.invokevirtual 130, 3) := by decide +kernel
theorem dX10_turn_45 : decode cX10_turn 45 = .ok (.ireturn, 1) := by decide +kernel
def fp_X10_turn (v0 : Nat) (v1 : Int32) (M : zM) : Option (Int32 × zM) :=
  zthis 8 M v0 (
    (fp_X10_hasPoint v0 v1 M).bind fun (y1 : Int32) =>
    if y1 ≠ 0 then (
      (zgI 8 M v0 1).bind fun (y2 : Int32) =>
      (zgI 8 M v0 1).bind fun (y3 : Int32) =>
      (zgI 8 M v0 2).bind fun (y4 : Int32) =>
      (fp_X2_turnedAt y3 y4 v1).bind fun (y5 : Int32) =>
      (fp_X10_become v0 y2 y5 M).bind fun (M6 : zM) =>
      (zgI 8 M6 v0 2).bind fun (y7 : Int32) =>
      (fp_J6_bitCount_0f7a4 y7).bind fun (y8 : Int32) =>
      (fp_X10_answer v0 y8 M6).bind fun p11 => zpp p11 fun (y9 : Int32) (M10 : zM) =>
      some (y9, M10))
    else (
      (fp_X10_refuse v0 2 M).bind fun p14 => zpp p14 fun (y12 : Int32) (M13 : zM) =>
      some (y12, M13)))
set_option maxHeartbeats 4000000 in
set_option maxRecDepth 100000 in
theorem th_X10_turn {v0 : Nat} {v1 : Int32} {M : zM} {x0 : Int32 × zM} (h : fp_X10_turn v0 v1 M = some x0) : v0 < zS M ∧ kd v0 = 8 := by
  unfold fp_X10_turn at h
  exact zthis_of h
set_option maxHeartbeats 4000000 in
set_option maxRecDepth 100000 in
theorem ct_X10_turn (E : zEnv) (hE : zEok E) (d : Nat) (hd : 4 ≤ d) (v0 : Nat) (v1 : Int32) (M : zM) (x0 : Int32 × zM) (hx : fp_X10_turn v0 v1 M = some x0) : zCt E mu_X10_turn d [.ref (E.2.2.2.1 + v0), .int v1] M (some (.int x0.1), x0.2) := by
  refine zCt_of (μ := mu_X10_turn) (t := fp_X10_turn v0 v1 M) rfl rfl (Nat.le_of_ble_eq_true rfl) hx ?_
  change zSy E mu_X10_turn d M (some (.int x0.1), x0.2) x0 (fp_X10_turn v0 v1 M) 0 [(0, .ref (E.2.2.2.1 + v0)), (1, .int v1)] [] M
  unfold fp_X10_turn
  refine zs_this (fun hth => ?_)
  refine zs_aload_n dX10_turn_0 rfl 0 rfl ?_
  refine zs_iload_n dX10_turn_1 rfl 1 rfl ?_
  refine zs_invVPI (rest := []) [.int v1] dX10_turn_2 lk_X10_164 rfl (fun _ h => th_X10_hasPoint h) (zd1 rfl hd) rfl (Nat.le_of_ble_eq_true rfl) (ct_X10_hasPoint E hE _ (zdl rfl hd) _ _ _) (fun y1 => ?_)
  refine zs_if_ne dX10_turn_5 rfl ?_ ?_
  · refine zs_aload_n dX10_turn_14 rfl 0 rfl ?_
    refine zs_aload_n dX10_turn_15 rfl 0 rfl ?_
    refine zs_getI dX10_turn_16 fl_X10_129 rfl (fun y2 => ?_)
    refine zs_aload_n dX10_turn_19 rfl 0 rfl ?_
    refine zs_getI dX10_turn_20 fl_X10_129 rfl (fun y3 => ?_)
    refine zs_aload_n dX10_turn_23 rfl 0 rfl ?_
    refine zs_getI dX10_turn_24 fl_X10_136 rfl (fun y4 => ?_)
    refine zs_iload_n dX10_turn_27 rfl 1 rfl ?_
    refine zs_invSPI (rest := [.int y2, .ref (E.2.2.2.1 + v0)]) [.int y3, .int y4, .int v1] dX10_turn_28 lk_X10_190 rfl (zd1 rfl hd) rfl (Nat.le_of_ble_eq_true rfl) (ct_X2_turnedAt E hE _ (zdl rfl hd) _ _ _ _) (fun y5 => ?_)
    refine zs_invVWV (rest := []) [.int y2, .int y5] dX10_turn_31 lk_X10_125 rfl (fun _ h => th_X10_become h) (zd1 rfl hd) rfl (Nat.le_of_ble_eq_true rfl) (ct_X10_become E hE _ (zdl rfl hd) _ _ _ _) (fun M6 => ?_)
    refine zs_aload_n dX10_turn_34 rfl 0 rfl ?_
    refine zs_aload_n dX10_turn_35 rfl 0 rfl ?_
    refine zs_getI dX10_turn_36 fl_X10_136 rfl (fun y7 => ?_)
    refine zs_invSPI (rest := [.ref (E.2.2.2.1 + v0)]) [.int y7] dX10_turn_39 lk_X10_137 rfl (zd1 rfl hd) rfl (Nat.le_of_ble_eq_true rfl) (ct_J6_bitCount_0f7a4 E hE _ (zdl rfl hd) _ _) (fun y8 => ?_)
    refine zs_invVWI (rest := []) [.int y8] dX10_turn_42 lk_X10_130 rfl (fun _ h => th_X10_answer h) (zd1 rfl hd) rfl (Nat.le_of_ble_eq_true rfl) (ct_X10_answer E hE _ (zdl rfl hd) _ _ _) (fun y9 M10 => ?_)
    exact zs_iretW dX10_turn_45 rfl
  refine zs_aload_n dX10_turn_8 rfl 0 rfl ?_
  refine zs_iconst (v := 2) dX10_turn_9 ciconst_2 ?_
  refine zs_invVWI (rest := []) [.int 2] dX10_turn_10 lk_X10_102 rfl (fun _ h => th_X10_refuse h) (zd1 rfl hd) rfl (Nat.le_of_ble_eq_true rfl) (ct_X10_refuse E hE _ (zdl rfl hd) _ _ _) (fun y12 M13 => ?_)
  exact zs_iretW dX10_turn_13 rfl
theorem dX10_swing_0 : decode cX10_swing 0 = .ok (.aload_n 0, 1) := by decide +kernel
theorem dX10_swing_1 : decode cX10_swing 1 = .ok (.iload_n 1, 1) := by decide +kernel
theorem dX10_swing_2 : decode cX10_swing 2 = .ok (.iload_n 2, 1) := by decide +kernel
theorem dX10_swing_3 : decode cX10_swing 3 = .ok (.invokevirtual 183, 3) := by decide +kernel
theorem dX10_swing_6 : decode cX10_swing 6 = .ok (.istore_n 3, 1) := by decide +kernel
theorem dX10_swing_7 : decode cX10_swing 7 = .ok (.iload_n 3, 1) := by decide +kernel
theorem dX10_swing_8 : decode cX10_swing 8 = .ok (.ifCond .eq 9, 3) := by decide +kernel
theorem dX10_swing_11 : decode cX10_swing 11 = .ok (.aload_n 0, 1) := by decide +kernel
theorem dX10_swing_12 : decode cX10_swing 12 = .ok (.iload_n 3, 1) := by decide +kernel
theorem dX10_swing_13 : decode cX10_swing 13 = .ok (.invokevirtual 102, 3) := by decide +kernel
theorem dX10_swing_16 : decode cX10_swing 16 = .ok (.ireturn, 1) := by decide +kernel
theorem dX10_swing_17 : decode cX10_swing 17 = .ok (.aload_n 0, 1) := by decide +kernel
theorem dX10_swing_18 : decode cX10_swing 18 = .ok (.getfield 136, 3) := by decide +kernel
theorem dX10_swing_21 : decode cX10_swing 21 = .ok (.iload_n 1, 1) := by decide +kernel
theorem dX10_swing_22 : decode cX10_swing 22 = .ok (.iload_n 2, 1) := by decide +kernel
theorem dX10_swing_23 : decode cX10_swing 23 = .ok (.invokestatic 186, 3) := by decide +kernel
theorem dX10_swing_26 : decode cX10_swing 26 = .ok (.ifCond .ne 9, 3) := by decide +kernel
theorem dX10_swing_29 : decode cX10_swing 29 = .ok (.aload_n 0, 1) := by decide +kernel
theorem dX10_swing_30 : decode cX10_swing 30 = .ok (.iconst 5, 1) := by decide +kernel
theorem dX10_swing_31 : decode cX10_swing 31 = .ok (.invokevirtual 102, 3) := by decide +kernel
theorem dX10_swing_34 : decode cX10_swing 34 = .ok (.ireturn, 1) := by decide +kernel
theorem dX10_swing_35 : decode cX10_swing 35 = .ok (.aload_n 0, 1) := by decide +kernel
theorem dX10_swing_36 : decode cX10_swing 36 = .ok (.aload_n 0, 1) := by decide +kernel
theorem dX10_swing_37 : decode cX10_swing 37 = .ok (.getfield 129, 3) := by decide +kernel
theorem dX10_swing_40 : decode cX10_swing 40 = .ok (.aload_n 0, 1) := by decide +kernel
theorem dX10_swing_41 : decode cX10_swing 41 = .ok (.getfield 129, 3) := by decide +kernel
theorem dX10_swing_44 : decode cX10_swing 44 = .ok (.aload_n 0, 1) := by decide +kernel
theorem dX10_swing_45 : decode cX10_swing 45 = .ok (.getfield 136, 3) := by decide +kernel
theorem dX10_swing_48 : decode cX10_swing 48 = .ok (.iload_n 1, 1) := by decide +kernel
theorem dX10_swing_49 : decode cX10_swing 49 = .ok (.iload_n 2, 1) := by decide +kernel
theorem dX10_swing_50 : decode cX10_swing 50 = .ok (.invokestatic 193, 3) := by decide +kernel
theorem dX10_swing_53 : decode cX10_swing 53 = .ok (.invokevirtual 125, 3) := by decide +kernel
theorem dX10_swing_56 : decode cX10_swing 56 = .ok (.aload_n 0, 1) := by decide +kernel
theorem dX10_swing_57 : decode cX10_swing 57 = .ok (.aload_n 0, 1) := by decide +kernel
theorem dX10_swing_58 : decode cX10_swing 58 = .ok (.getfield 136, 3) := by decide +kernel
theorem dX10_swing_61 : decode cX10_swing 61 = .ok (.invokestatic 137, 3) := by decide +kernel
theorem dX10_swing_64 : decode cX10_swing 64 = .ok (.invokevirtual 130, 3) := by decide +kernel
theorem dX10_swing_67 : decode cX10_swing 67 = .ok (.ireturn, 1) := by decide +kernel
def fp_X10_swing (v0 : Nat) (v1 : Int32) (v2 : Int32) (M : zM) : Option (Int32 × zM) :=
  zthis 8 M v0 (
    (fp_X10_badCouple v0 v1 v2 M).bind fun (y1 : Int32) =>
    if y1 = 0 then (
      (zgI 8 M v0 2).bind fun (y2 : Int32) =>
      (fp_X2_tied y2 v1 v2).bind fun (y3 : Int32) =>
      if y3 ≠ 0 then (
        (zgI 8 M v0 1).bind fun (y4 : Int32) =>
        (zgI 8 M v0 1).bind fun (y5 : Int32) =>
        (zgI 8 M v0 2).bind fun (y6 : Int32) =>
        (fp_X2_swungOver y5 y6 v1 v2).bind fun (y7 : Int32) =>
        (fp_X10_become v0 y4 y7 M).bind fun (M8 : zM) =>
        (zgI 8 M8 v0 2).bind fun (y9 : Int32) =>
        (fp_J6_bitCount_0f7a4 y9).bind fun (y10 : Int32) =>
        (fp_X10_answer v0 y10 M8).bind fun p13 => zpp p13 fun (y11 : Int32) (M12 : zM) =>
        some (y11, M12))
      else (
        (fp_X10_refuse v0 5 M).bind fun p16 => zpp p16 fun (y14 : Int32) (M15 : zM) =>
        some (y14, M15)))
    else (
      (fp_X10_refuse v0 y1 M).bind fun p19 => zpp p19 fun (y17 : Int32) (M18 : zM) =>
      some (y17, M18)))
set_option maxHeartbeats 4000000 in
set_option maxRecDepth 100000 in
theorem th_X10_swing {v0 : Nat} {v1 : Int32} {v2 : Int32} {M : zM} {x0 : Int32 × zM} (h : fp_X10_swing v0 v1 v2 M = some x0) : v0 < zS M ∧ kd v0 = 8 := by
  unfold fp_X10_swing at h
  exact zthis_of h
set_option maxHeartbeats 4000000 in
set_option maxRecDepth 100000 in
theorem ct_X10_swing (E : zEnv) (hE : zEok E) (d : Nat) (hd : 4 ≤ d) (v0 : Nat) (v1 : Int32) (v2 : Int32) (M : zM) (x0 : Int32 × zM) (hx : fp_X10_swing v0 v1 v2 M = some x0) : zCt E mu_X10_swing d [.ref (E.2.2.2.1 + v0), .int v1, .int v2] M (some (.int x0.1), x0.2) := by
  refine zCt_of (μ := mu_X10_swing) (t := fp_X10_swing v0 v1 v2 M) rfl rfl (Nat.le_of_ble_eq_true rfl) hx ?_
  change zSy E mu_X10_swing d M (some (.int x0.1), x0.2) x0 (fp_X10_swing v0 v1 v2 M) 0 [(0, .ref (E.2.2.2.1 + v0)), (1, .int v1), (2, .int v2)] [] M
  unfold fp_X10_swing
  refine zs_this (fun hth => ?_)
  refine zs_aload_n dX10_swing_0 rfl 0 rfl ?_
  refine zs_iload_n dX10_swing_1 rfl 1 rfl ?_
  refine zs_iload_n dX10_swing_2 rfl 2 rfl ?_
  refine zs_invVPI (rest := []) [.int v1, .int v2] dX10_swing_3 lk_X10_183 rfl (fun _ h => th_X10_badCouple h) (zd1 rfl hd) rfl (Nat.le_of_ble_eq_true rfl) (ct_X10_badCouple E hE _ (zdl rfl hd) _ _ _ _) (fun y1 => ?_)
  refine zs_istore_n (loc' := [(0, .ref (E.2.2.2.1 + v0)), (1, .int v1), (2, .int v2), (3, .int y1)]) dX10_swing_6 rfl (Nat.le_of_ble_eq_true rfl) [1, 2, 3, 0] rfl ?_
  refine zs_iload_n dX10_swing_7 rfl 3 rfl ?_
  refine zs_if_eq dX10_swing_8 rfl ?_ ?_
  · refine zs_aload_n dX10_swing_17 rfl 0 rfl ?_
    refine zs_getI dX10_swing_18 fl_X10_136 rfl (fun y2 => ?_)
    refine zs_iload_n dX10_swing_21 rfl 1 rfl ?_
    refine zs_iload_n dX10_swing_22 rfl 2 rfl ?_
    refine zs_invSPI (rest := []) [.int y2, .int v1, .int v2] dX10_swing_23 lk_X10_186 rfl (zd1 rfl hd) rfl (Nat.le_of_ble_eq_true rfl) (ct_X2_tied E hE _ (zdl rfl hd) _ _ _ _) (fun y3 => ?_)
    refine zs_if_ne dX10_swing_26 rfl ?_ ?_
    · refine zs_aload_n dX10_swing_35 rfl 0 rfl ?_
      refine zs_aload_n dX10_swing_36 rfl 0 rfl ?_
      refine zs_getI dX10_swing_37 fl_X10_129 rfl (fun y4 => ?_)
      refine zs_aload_n dX10_swing_40 rfl 0 rfl ?_
      refine zs_getI dX10_swing_41 fl_X10_129 rfl (fun y5 => ?_)
      refine zs_aload_n dX10_swing_44 rfl 0 rfl ?_
      refine zs_getI dX10_swing_45 fl_X10_136 rfl (fun y6 => ?_)
      refine zs_iload_n dX10_swing_48 rfl 1 rfl ?_
      refine zs_iload_n dX10_swing_49 rfl 2 rfl ?_
      refine zs_invSPI (rest := [.int y4, .ref (E.2.2.2.1 + v0)]) [.int y5, .int y6, .int v1, .int v2] dX10_swing_50 lk_X10_193 rfl (zd1 rfl hd) rfl (Nat.le_of_ble_eq_true rfl) (ct_X2_swungOver E hE _ (zdl rfl hd) _ _ _ _ _) (fun y7 => ?_)
      refine zs_invVWV (rest := []) [.int y4, .int y7] dX10_swing_53 lk_X10_125 rfl (fun _ h => th_X10_become h) (zd1 rfl hd) rfl (Nat.le_of_ble_eq_true rfl) (ct_X10_become E hE _ (zdl rfl hd) _ _ _ _) (fun M8 => ?_)
      refine zs_aload_n dX10_swing_56 rfl 0 rfl ?_
      refine zs_aload_n dX10_swing_57 rfl 0 rfl ?_
      refine zs_getI dX10_swing_58 fl_X10_136 rfl (fun y9 => ?_)
      refine zs_invSPI (rest := [.ref (E.2.2.2.1 + v0)]) [.int y9] dX10_swing_61 lk_X10_137 rfl (zd1 rfl hd) rfl (Nat.le_of_ble_eq_true rfl) (ct_J6_bitCount_0f7a4 E hE _ (zdl rfl hd) _ _) (fun y10 => ?_)
      refine zs_invVWI (rest := []) [.int y10] dX10_swing_64 lk_X10_130 rfl (fun _ h => th_X10_answer h) (zd1 rfl hd) rfl (Nat.le_of_ble_eq_true rfl) (ct_X10_answer E hE _ (zdl rfl hd) _ _ _) (fun y11 M12 => ?_)
      exact zs_iretW dX10_swing_67 rfl
    refine zs_aload_n dX10_swing_29 rfl 0 rfl ?_
    refine zs_iconst (v := 5) dX10_swing_30 ciconst_5 ?_
    refine zs_invVWI (rest := []) [.int 5] dX10_swing_31 lk_X10_102 rfl (fun _ h => th_X10_refuse h) (zd1 rfl hd) rfl (Nat.le_of_ble_eq_true rfl) (ct_X10_refuse E hE _ (zdl rfl hd) _ _ _) (fun y14 M15 => ?_)
    exact zs_iretW dX10_swing_34 rfl
  refine zs_aload_n dX10_swing_11 rfl 0 rfl ?_
  refine zs_iload_n dX10_swing_12 rfl 3 rfl ?_
  refine zs_invVWI (rest := []) [.int y1] dX10_swing_13 lk_X10_102 rfl (fun _ h => th_X10_refuse h) (zd1 rfl hd) rfl (Nat.le_of_ble_eq_true rfl) (ct_X10_refuse E hE _ (zdl rfl hd) _ _ _) (fun y17 M18 => ?_)
  exact zs_iretW dX10_swing_16 rfl
theorem dX10_rename_0 : decode cX10_rename 0 = .ok (.aload_n 0, 1) := by decide +kernel
theorem dX10_rename_1 : decode cX10_rename 1 = .ok (.aload_n 0, 1) := by decide +kernel
theorem dX10_rename_2 : decode cX10_rename 2 = .ok (.iload_n 1, 1) := by decide +kernel
theorem dX10_rename_3 : decode cX10_rename 3 = .ok (.iload_n 2, 1) := by decide +kernel
theorem dX10_rename_4 : decode cX10_rename 4 = .ok (.invokevirtual 183, 3) := by decide +kernel
theorem dX10_rename_7 : decode cX10_rename 7 = .ok (.putfield 87, 3) := by decide +kernel
theorem dX10_rename_10 : decode cX10_rename 10 = .ok (.aload_n 0, 1) := by decide +kernel
theorem dX10_rename_11 : decode cX10_rename 11 = .ok (.getfield 87, 3) := by decide +kernel
theorem dX10_rename_14 : decode cX10_rename 14 = .ok (.ifCond .eq 5, 3) := by decide +kernel
theorem dX10_rename_17 : decode cX10_rename 17 = .ok (.iconst 0, 1) := by decide +kernel
theorem dX10_rename_18 : decode cX10_rename 18 = .ok (.ireturn, 1) := by decide +kernel
theorem dX10_rename_19 : decode cX10_rename 19 = .ok (.aload_n 0, 1) := by decide +kernel
theorem dX10_rename_20 : decode cX10_rename 20 = .ok (.aload_n 0, 1) := by decide +kernel
theorem dX10_rename_21 : decode cX10_rename 21 = .ok (.getfield 129, 3) := by decide +kernel
theorem dX10_rename_24 : decode cX10_rename 24 = .ok (.aload_n 0, 1) := by decide +kernel
theorem dX10_rename_25 : decode cX10_rename 25 = .ok (.getfield 129, 3) := by decide +kernel
theorem dX10_rename_28 : decode cX10_rename 28 = .ok (.aload_n 0, 1) := by decide +kernel
theorem dX10_rename_29 : decode cX10_rename 29 = .ok (.getfield 136, 3) := by decide +kernel
theorem dX10_rename_32 : decode cX10_rename 32 = .ok (.iload_n 1, 1) := by decide +kernel
theorem dX10_rename_33 : decode cX10_rename 33 = .ok (.iload_n 2, 1) := by decide +kernel
theorem dX10_rename_34 : decode cX10_rename 34 = .ok (.invokestatic 197, 3) := by decide +kernel
theorem dX10_rename_37 : decode cX10_rename 37 = .ok (.invokevirtual 125, 3) := by decide +kernel
theorem dX10_rename_40 : decode cX10_rename 40 = .ok (.iconst 1, 1) := by decide +kernel
theorem dX10_rename_41 : decode cX10_rename 41 = .ok (.ireturn, 1) := by decide +kernel
def fp_X10_rename (v0 : Nat) (v1 : Int32) (v2 : Int32) (M : zM) : Option (Int32 × zM) :=
  zthis 8 M v0 (
    (fp_X10_badCouple v0 v1 v2 M).bind fun (y1 : Int32) =>
    (zpI 8 M v0 0 y1).bind fun (M2 : zM) =>
    (zgI 8 M2 v0 0).bind fun (y3 : Int32) =>
    if y3 = 0 then (
      (zgI 8 M2 v0 1).bind fun (y4 : Int32) =>
      (zgI 8 M2 v0 1).bind fun (y5 : Int32) =>
      (zgI 8 M2 v0 2).bind fun (y6 : Int32) =>
      (fp_X2_exchanged y5 y6 v1 v2).bind fun (y7 : Int32) =>
      (fp_X10_become v0 y4 y7 M2).bind fun (M8 : zM) =>
      some (1, M8))
    else (
      some (0, M2)))
set_option maxHeartbeats 4000000 in
set_option maxRecDepth 100000 in
theorem th_X10_rename {v0 : Nat} {v1 : Int32} {v2 : Int32} {M : zM} {x0 : Int32 × zM} (h : fp_X10_rename v0 v1 v2 M = some x0) : v0 < zS M ∧ kd v0 = 8 := by
  unfold fp_X10_rename at h
  exact zthis_of h
set_option maxHeartbeats 4000000 in
set_option maxRecDepth 100000 in
theorem ct_X10_rename (E : zEnv) (hE : zEok E) (d : Nat) (hd : 4 ≤ d) (v0 : Nat) (v1 : Int32) (v2 : Int32) (M : zM) (x0 : Int32 × zM) (hx : fp_X10_rename v0 v1 v2 M = some x0) : zCt E mu_X10_rename d [.ref (E.2.2.2.1 + v0), .int v1, .int v2] M (some (.int x0.1), x0.2) := by
  refine zCt_of (μ := mu_X10_rename) (t := fp_X10_rename v0 v1 v2 M) rfl rfl (Nat.le_of_ble_eq_true rfl) hx ?_
  change zSy E mu_X10_rename d M (some (.int x0.1), x0.2) x0 (fp_X10_rename v0 v1 v2 M) 0 [(0, .ref (E.2.2.2.1 + v0)), (1, .int v1), (2, .int v2)] [] M
  unfold fp_X10_rename
  refine zs_this (fun hth => ?_)
  refine zs_aload_n dX10_rename_0 rfl 0 rfl ?_
  refine zs_aload_n dX10_rename_1 rfl 0 rfl ?_
  refine zs_iload_n dX10_rename_2 rfl 1 rfl ?_
  refine zs_iload_n dX10_rename_3 rfl 2 rfl ?_
  refine zs_invVPI (rest := [.ref (E.2.2.2.1 + v0)]) [.int v1, .int v2] dX10_rename_4 lk_X10_183 rfl (fun _ h => th_X10_badCouple h) (zd1 rfl hd) rfl (Nat.le_of_ble_eq_true rfl) (ct_X10_badCouple E hE _ (zdl rfl hd) _ _ _ _) (fun y1 => ?_)
  refine zs_putI dX10_rename_7 fl_X10_87 ft_X10 rfl rfl rfl rfl rfl (fun M2 => ?_)
  refine zs_aload_n dX10_rename_10 rfl 0 rfl ?_
  refine zs_getI dX10_rename_11 fl_X10_87 rfl (fun y3 => ?_)
  refine zs_if_eq dX10_rename_14 rfl ?_ ?_
  · refine zs_aload_n dX10_rename_19 rfl 0 rfl ?_
    refine zs_aload_n dX10_rename_20 rfl 0 rfl ?_
    refine zs_getI dX10_rename_21 fl_X10_129 rfl (fun y4 => ?_)
    refine zs_aload_n dX10_rename_24 rfl 0 rfl ?_
    refine zs_getI dX10_rename_25 fl_X10_129 rfl (fun y5 => ?_)
    refine zs_aload_n dX10_rename_28 rfl 0 rfl ?_
    refine zs_getI dX10_rename_29 fl_X10_136 rfl (fun y6 => ?_)
    refine zs_iload_n dX10_rename_32 rfl 1 rfl ?_
    refine zs_iload_n dX10_rename_33 rfl 2 rfl ?_
    refine zs_invSPI (rest := [.int y4, .ref (E.2.2.2.1 + v0)]) [.int y5, .int y6, .int v1, .int v2] dX10_rename_34 lk_X10_197 rfl (zd1 rfl hd) rfl (Nat.le_of_ble_eq_true rfl) (ct_X2_exchanged E hE _ (zdl rfl hd) _ _ _ _ _) (fun y7 => ?_)
    refine zs_invVWV (rest := []) [.int y4, .int y7] dX10_rename_37 lk_X10_125 rfl (fun _ h => th_X10_become h) (zd1 rfl hd) rfl (Nat.le_of_ble_eq_true rfl) (ct_X10_become E hE _ (zdl rfl hd) _ _ _ _) (fun M8 => ?_)
    refine zs_iconst (v := 1) dX10_rename_40 ciconst_1 ?_
    exact zs_iretW dX10_rename_41 rfl
  refine zs_iconst (v := 0) dX10_rename_17 ciconst_0 ?_
  exact zs_iretW dX10_rename_18 rfl
theorem dX10_undo_0 : decode cX10_undo 0 = .ok (.aload_n 0, 1) := by decide +kernel
theorem dX10_undo_1 : decode cX10_undo 1 = .ok (.getfield 26, 3) := by decide +kernel
theorem dX10_undo_4 : decode cX10_undo 4 = .ok (.getfield 148, 3) := by decide +kernel
theorem dX10_undo_7 : decode cX10_undo 7 = .ok (.ifCond .ne 10, 3) := by decide +kernel
theorem dX10_undo_10 : decode cX10_undo 10 = .ok (.aload_n 0, 1) := by decide +kernel
theorem dX10_undo_11 : decode cX10_undo 11 = .ok (.bipush 6, 2) := by decide +kernel
theorem dX10_undo_13 : decode cX10_undo 13 = .ok (.invokevirtual 102, 3) := by decide +kernel
theorem dX10_undo_16 : decode cX10_undo 16 = .ok (.ireturn, 1) := by decide +kernel
theorem dX10_undo_17 : decode cX10_undo 17 = .ok (.aload_n 0, 1) := by decide +kernel
theorem dX10_undo_18 : decode cX10_undo 18 = .ok (.getfield 26, 3) := by decide +kernel
theorem dX10_undo_21 : decode cX10_undo 21 = .ok (.invokevirtual 200, 3) := by decide +kernel
theorem dX10_undo_24 : decode cX10_undo 24 = .ok (.istore_n 1, 1) := by decide +kernel
theorem dX10_undo_25 : decode cX10_undo 25 = .ok (.aload_n 0, 1) := by decide +kernel
theorem dX10_undo_26 : decode cX10_undo 26 = .ok (.iload_n 1, 1) := by decide +kernel
theorem dX10_undo_27 : decode cX10_undo 27 = .ok (.invokestatic 204, 3) := by decide +kernel
theorem dX10_undo_30 : decode cX10_undo 30 = .ok (.putfield 129, 3) := by decide +kernel
theorem dX10_undo_33 : decode cX10_undo 33 = .ok (.aload_n 0, 1) := by decide +kernel
theorem dX10_undo_34 : decode cX10_undo 34 = .ok (.iload_n 1, 1) := by decide +kernel
theorem dX10_undo_35 : decode cX10_undo 35 = .ok (.invokestatic 207, 3) := by decide +kernel
theorem dX10_undo_38 : decode cX10_undo 38 = .ok (.putfield 136, 3) := by decide +kernel
theorem dX10_undo_41 : decode cX10_undo 41 = .ok (.aload_n 0, 1) := by decide +kernel
theorem dX10_undo_42 : decode cX10_undo 42 = .ok (.aload_n 0, 1) := by decide +kernel
theorem dX10_undo_43 : decode cX10_undo 43 = .ok (.getfield 26, 3) := by decide +kernel
theorem dX10_undo_46 : decode cX10_undo 46 = .ok (.getfield 148, 3) := by decide +kernel
theorem dX10_undo_49 : decode cX10_undo 49 = .ok (.invokevirtual 130, 3) := by decide +kernel
theorem dX10_undo_52 : decode cX10_undo 52 = .ok (.ireturn, 1) := by decide +kernel
def fp_X10_undo (v0 : Nat) (M : zM) : Option (Int32 × zM) :=
  zthis 8 M v0 (
    (zgR 8 M v0 6).bind fun (y1 : Nat) =>
    (zgI 7 M y1 1).bind fun (y2 : Int32) =>
    if y2 ≠ 0 then (
      (zgR 8 M v0 6).bind fun (y3 : Nat) =>
      (fp_X9_takeBack y3 M).bind fun p6 => zpp p6 fun (y4 : Int32) (M5 : zM) =>
      (fp_X2_pointsOf y4).bind fun (y7 : Int32) =>
      (zpI 8 M5 v0 1 y7).bind fun (M8 : zM) =>
      (fp_X2_linesOf y4).bind fun (y9 : Int32) =>
      (zpI 8 M8 v0 2 y9).bind fun (M10 : zM) =>
      (zgR 8 M10 v0 6).bind fun (y11 : Nat) =>
      (zgI 7 M10 y11 1).bind fun (y12 : Int32) =>
      (fp_X10_answer v0 y12 M10).bind fun p15 => zpp p15 fun (y13 : Int32) (M14 : zM) =>
      some (y13, M14))
    else (
      (fp_X10_refuse v0 6 M).bind fun p18 => zpp p18 fun (y16 : Int32) (M17 : zM) =>
      some (y16, M17)))
set_option maxHeartbeats 4000000 in
set_option maxRecDepth 100000 in
theorem th_X10_undo {v0 : Nat} {M : zM} {x0 : Int32 × zM} (h : fp_X10_undo v0 M = some x0) : v0 < zS M ∧ kd v0 = 8 := by
  unfold fp_X10_undo at h
  exact zthis_of h
set_option maxHeartbeats 4000000 in
set_option maxRecDepth 100000 in
theorem ct_X10_undo (E : zEnv) (hE : zEok E) (d : Nat) (hd : 2 ≤ d) (v0 : Nat) (M : zM) (x0 : Int32 × zM) (hx : fp_X10_undo v0 M = some x0) : zCt E mu_X10_undo d [.ref (E.2.2.2.1 + v0)] M (some (.int x0.1), x0.2) := by
  refine zCt_of (μ := mu_X10_undo) (t := fp_X10_undo v0 M) rfl rfl (Nat.le_of_ble_eq_true rfl) hx ?_
  change zSy E mu_X10_undo d M (some (.int x0.1), x0.2) x0 (fp_X10_undo v0 M) 0 [(0, .ref (E.2.2.2.1 + v0))] [] M
  unfold fp_X10_undo
  refine zs_this (fun hth => ?_)
  refine zs_aload_n dX10_undo_0 rfl 0 rfl ?_
  refine zs_getR dX10_undo_1 fl_X10_26 rfl (fun y1 => ?_)
  refine zs_getI dX10_undo_4 fl_X10_148 rfl (fun y2 => ?_)
  refine zs_if_ne dX10_undo_7 rfl ?_ ?_
  · refine zs_aload_n dX10_undo_17 rfl 0 rfl ?_
    refine zs_getR dX10_undo_18 fl_X10_26 rfl (fun y3 => ?_)
    refine zs_invVWI (rest := []) [] dX10_undo_21 lk_X10_200 rfl (fun _ h => th_X9_takeBack h) (zd1 rfl hd) rfl (Nat.le_of_ble_eq_true rfl) (ct_X9_takeBack E hE _ (zdl rfl hd) _ _) (fun y4 M5 => ?_)
    refine zs_istore_n (loc' := [(0, .ref (E.2.2.2.1 + v0)), (1, .int y4)]) dX10_undo_24 rfl (Nat.le_of_ble_eq_true rfl) [1, 0] rfl ?_
    refine zs_aload_n dX10_undo_25 rfl 0 rfl ?_
    refine zs_iload_n dX10_undo_26 rfl 1 rfl ?_
    refine zs_invSPI (rest := [.ref (E.2.2.2.1 + v0)]) [.int y4] dX10_undo_27 lk_X10_204 rfl (zd1 rfl hd) rfl (Nat.le_of_ble_eq_true rfl) (ct_X2_pointsOf E hE _ (zdl rfl hd) _ _) (fun y7 => ?_)
    refine zs_putI dX10_undo_30 fl_X10_129 ft_X10 rfl rfl rfl rfl rfl (fun M8 => ?_)
    refine zs_aload_n dX10_undo_33 rfl 0 rfl ?_
    refine zs_iload_n dX10_undo_34 rfl 1 rfl ?_
    refine zs_invSPI (rest := [.ref (E.2.2.2.1 + v0)]) [.int y4] dX10_undo_35 lk_X10_207 rfl (zd1 rfl hd) rfl (Nat.le_of_ble_eq_true rfl) (ct_X2_linesOf E hE _ (zdl rfl hd) _ _) (fun y9 => ?_)
    refine zs_putI dX10_undo_38 fl_X10_136 ft_X10 rfl rfl rfl rfl rfl (fun M10 => ?_)
    refine zs_aload_n dX10_undo_41 rfl 0 rfl ?_
    refine zs_aload_n dX10_undo_42 rfl 0 rfl ?_
    refine zs_getR dX10_undo_43 fl_X10_26 rfl (fun y11 => ?_)
    refine zs_getI dX10_undo_46 fl_X10_148 rfl (fun y12 => ?_)
    refine zs_invVWI (rest := []) [.int y12] dX10_undo_49 lk_X10_130 rfl (fun _ h => th_X10_answer h) (zd1 rfl hd) rfl (Nat.le_of_ble_eq_true rfl) (ct_X10_answer E hE _ (zdl rfl hd) _ _ _) (fun y13 M14 => ?_)
    exact zs_iretW dX10_undo_52 rfl
  refine zs_aload_n dX10_undo_10 rfl 0 rfl ?_
  refine zs_bipush (v := 6) dX10_undo_11 cbipush_6 ?_
  refine zs_invVWI (rest := []) [.int 6] dX10_undo_13 lk_X10_102 rfl (fun _ h => th_X10_refuse h) (zd1 rfl hd) rfl (Nat.le_of_ble_eq_true rfl) (ct_X10_refuse E hE _ (zdl rfl hd) _ _ _) (fun y16 M17 => ?_)
  exact zs_iretW dX10_undo_16 rfl
theorem dX10_image_0 : decode cX10_image 0 = .ok (.iload_n 1, 1) := by decide +kernel
theorem dX10_image_1 : decode cX10_image 1 = .ok (.ifCond .lt 12, 3) := by decide +kernel
theorem dX10_image_4 : decode cX10_image 4 = .ok (.iload_n 1, 1) := by decide +kernel
theorem dX10_image_5 : decode cX10_image 5 = .ok (.aload_n 0, 1) := by decide +kernel
theorem dX10_image_6 : decode cX10_image 6 = .ok (.getfield 30, 3) := by decide +kernel
theorem dX10_image_9 : decode cX10_image 9 = .ok (.arraylength, 1) := by decide +kernel
theorem dX10_image_10 : decode cX10_image 10 = .ok (.if_icmp .lt 10, 3) := by decide +kernel
theorem dX10_image_13 : decode cX10_image 13 = .ok (.aload_n 0, 1) := by decide +kernel
theorem dX10_image_14 : decode cX10_image 14 = .ok (.iconst 1, 1) := by decide +kernel
theorem dX10_image_15 : decode cX10_image 15 = .ok (.putfield 87, 3) := by decide +kernel
theorem dX10_image_18 : decode cX10_image 18 = .ok (.iconst 0, 1) := by decide +kernel
theorem dX10_image_19 : decode cX10_image 19 = .ok (.ireturn, 1) := by decide +kernel
theorem dX10_image_20 : decode cX10_image 20 = .ok (.aload_n 0, 1) := by decide +kernel
theorem dX10_image_21 : decode cX10_image 21 = .ok (.iconst 0, 1) := by decide +kernel
theorem dX10_image_22 : decode cX10_image 22 = .ok (.putfield 87, 3) := by decide +kernel
theorem dX10_image_25 : decode cX10_image 25 = .ok (.aload_n 0, 1) := by decide +kernel
theorem dX10_image_26 : decode cX10_image 26 = .ok (.getfield 30, 3) := by decide +kernel
theorem dX10_image_29 : decode cX10_image 29 = .ok (.iload_n 1, 1) := by decide +kernel
theorem dX10_image_30 : decode cX10_image 30 = .ok (.aload_n 0, 1) := by decide +kernel
theorem dX10_image_31 : decode cX10_image 31 = .ok (.getfield 129, 3) := by decide +kernel
theorem dX10_image_34 : decode cX10_image 34 = .ok (.aload_n 0, 1) := by decide +kernel
theorem dX10_image_35 : decode cX10_image 35 = .ok (.getfield 136, 3) := by decide +kernel
theorem dX10_image_38 : decode cX10_image 38 = .ok (.invokestatic 210, 3) := by decide +kernel
theorem dX10_image_41 : decode cX10_image 41 = .ok (.iastore, 1) := by decide +kernel
theorem dX10_image_42 : decode cX10_image 42 = .ok (.iconst 1, 1) := by decide +kernel
theorem dX10_image_43 : decode cX10_image 43 = .ok (.ireturn, 1) := by decide +kernel
def fp_X10_image (v0 : Nat) (v1 : Int32) (M : zM) : Option (Int32 × zM) :=
  zthis 8 M v0 (
    if v1 < 0 then (
      (zpI 8 M v0 0 1).bind fun (M1 : zM) =>
      some (0, M1))
    else (
      (zgR 8 M v0 7).bind fun (y2 : Nat) =>
      (zln M y2).bind fun (y3 : Int32) =>
      if v1 < y3 then (
        (zpI 8 M v0 0 0).bind fun (M4 : zM) =>
        (zgR 8 M4 v0 7).bind fun (y5 : Nat) =>
        (zgI 8 M4 v0 1).bind fun (y6 : Int32) =>
        (zgI 8 M4 v0 2).bind fun (y7 : Int32) =>
        (fp_X2_code y6 y7).bind fun (y8 : Int32) =>
        (ztI M4 y5 v1 y8).bind fun (M9 : zM) =>
        some (1, M9))
      else (
        (zpI 8 M v0 0 1).bind fun (M10 : zM) =>
        some (0, M10))))
set_option maxHeartbeats 4000000 in
set_option maxRecDepth 100000 in
theorem th_X10_image {v0 : Nat} {v1 : Int32} {M : zM} {x0 : Int32 × zM} (h : fp_X10_image v0 v1 M = some x0) : v0 < zS M ∧ kd v0 = 8 := by
  unfold fp_X10_image at h
  exact zthis_of h
set_option maxHeartbeats 4000000 in
set_option maxRecDepth 100000 in
theorem ct_X10_image (E : zEnv) (hE : zEok E) (d : Nat) (hd : 2 ≤ d) (v0 : Nat) (v1 : Int32) (M : zM) (x0 : Int32 × zM) (hx : fp_X10_image v0 v1 M = some x0) : zCt E mu_X10_image d [.ref (E.2.2.2.1 + v0), .int v1] M (some (.int x0.1), x0.2) := by
  refine zCt_of (μ := mu_X10_image) (t := fp_X10_image v0 v1 M) rfl rfl (Nat.le_of_ble_eq_true rfl) hx ?_
  change zSy E mu_X10_image d M (some (.int x0.1), x0.2) x0 (fp_X10_image v0 v1 M) 0 [(0, .ref (E.2.2.2.1 + v0)), (1, .int v1)] [] M
  unfold fp_X10_image
  refine zs_this (fun hth => ?_)
  refine zs_iload_n dX10_image_0 rfl 1 rfl ?_
  refine zs_if_lt dX10_image_1 rfl ?_ ?_
  · refine zs_aload_n dX10_image_13 rfl 0 rfl ?_
    refine zs_iconst (v := 1) dX10_image_14 ciconst_1 ?_
    refine zs_putI dX10_image_15 fl_X10_87 ft_X10 rfl rfl rfl rfl rfl (fun M1 => ?_)
    refine zs_iconst (v := 0) dX10_image_18 ciconst_0 ?_
    exact zs_iretW dX10_image_19 rfl
  refine zs_iload_n dX10_image_4 rfl 1 rfl ?_
  refine zs_aload_n dX10_image_5 rfl 0 rfl ?_
  refine zs_getR dX10_image_6 fl_X10_30 rfl (fun y2 => ?_)
  refine zs_alen dX10_image_9 (fun y3 => ?_)
  refine zs_icmp_lt dX10_image_10 rfl ?_ ?_
  · refine zs_aload_n dX10_image_20 rfl 0 rfl ?_
    refine zs_iconst (v := 0) dX10_image_21 ciconst_0 ?_
    refine zs_putI dX10_image_22 fl_X10_87 ft_X10 rfl rfl rfl rfl rfl (fun M4 => ?_)
    refine zs_aload_n dX10_image_25 rfl 0 rfl ?_
    refine zs_getR dX10_image_26 fl_X10_30 rfl (fun y5 => ?_)
    refine zs_iload_n dX10_image_29 rfl 1 rfl ?_
    refine zs_aload_n dX10_image_30 rfl 0 rfl ?_
    refine zs_getI dX10_image_31 fl_X10_129 rfl (fun y6 => ?_)
    refine zs_aload_n dX10_image_34 rfl 0 rfl ?_
    refine zs_getI dX10_image_35 fl_X10_136 rfl (fun y7 => ?_)
    refine zs_invSPI (rest := [.int v1, .ref (E.2.2.2.1 + y5)]) [.int y6, .int y7] dX10_image_38 lk_X10_210 rfl (zd1 rfl hd) rfl (Nat.le_of_ble_eq_true rfl) (ct_X2_code E hE _ (zdl rfl hd) _ _ _) (fun y8 => ?_)
    refine zs_stI dX10_image_41 (fun M9 => ?_)
    refine zs_iconst (v := 1) dX10_image_42 ciconst_1 ?_
    exact zs_iretW dX10_image_43 rfl
  refine zs_aload_n dX10_image_13 rfl 0 rfl ?_
  refine zs_iconst (v := 1) dX10_image_14 ciconst_1 ?_
  refine zs_putI dX10_image_15 fl_X10_87 ft_X10 rfl rfl rfl rfl rfl (fun M10 => ?_)
  refine zs_iconst (v := 0) dX10_image_18 ciconst_0 ?_
  exact zs_iretW dX10_image_19 rfl
theorem dX10_badImage_0 : decode cX10_badImage 0 = .ok (.iload_n 1, 1) := by decide +kernel
theorem dX10_badImage_1 : decode cX10_badImage 1 = .ok (.ifCond .lt 12, 3) := by decide +kernel
theorem dX10_badImage_4 : decode cX10_badImage 4 = .ok (.iload_n 1, 1) := by decide +kernel
theorem dX10_badImage_5 : decode cX10_badImage 5 = .ok (.aload_n 0, 1) := by decide +kernel
theorem dX10_badImage_6 : decode cX10_badImage 6 = .ok (.getfield 30, 3) := by decide +kernel
theorem dX10_badImage_9 : decode cX10_badImage 9 = .ok (.arraylength, 1) := by decide +kernel
theorem dX10_badImage_10 : decode cX10_badImage 10 = .ok (.if_icmp .lt 5, 3) := by decide +kernel
theorem dX10_badImage_13 : decode cX10_badImage 13 = .ok (.iconst 1, 1) := by decide +kernel
theorem dX10_badImage_14 : decode cX10_badImage 14 = .ok (.ireturn, 1) := by decide +kernel
theorem dX10_badImage_15 : decode cX10_badImage 15 = .ok (.aload_n 0, 1) := by decide +kernel
theorem dX10_badImage_16 : decode cX10_badImage 16 = .ok (.getfield 30, 3) := by decide +kernel
theorem dX10_badImage_19 : decode cX10_badImage 19 = .ok (.iload_n 1, 1) := by decide +kernel
theorem dX10_badImage_20 : decode cX10_badImage 20 = .ok (.iaload, 1) := by decide +kernel
theorem dX10_badImage_21 : decode cX10_badImage 21 = .ok (.ifCond .ge 8, 3) := by decide +kernel
theorem dX10_badImage_24 : decode cX10_badImage 24 = .ok (.bipush 8, 2) := by decide +kernel
theorem dX10_badImage_26 : decode cX10_badImage 26 = .ok (.goto 4, 3) := by decide +kernel
theorem dX10_badImage_29 : decode cX10_badImage 29 = .ok (.iconst 0, 1) := by decide +kernel
theorem dX10_badImage_30 : decode cX10_badImage 30 = .ok (.ireturn, 1) := by decide +kernel
def fp_X10_badImage (v0 : Nat) (v1 : Int32) (M : zM) : Option (Int32) :=
  zthis 8 M v0 (
    if v1 < 0 then (
      some 1)
    else (
      (zgR 8 M v0 7).bind fun (y1 : Nat) =>
      (zln M y1).bind fun (y2 : Int32) =>
      if v1 < y2 then (
        (zgR 8 M v0 7).bind fun (y3 : Nat) =>
        (zlI 100 M y3 v1).bind fun (y4 : Int32) =>
        if y4 ≥ 0 then (
          some 0)
        else (
          some 8))
      else (
        some 1)))
set_option maxHeartbeats 4000000 in
set_option maxRecDepth 100000 in
theorem th_X10_badImage {v0 : Nat} {v1 : Int32} {M : zM} {x0 : Int32} (h : fp_X10_badImage v0 v1 M = some x0) : v0 < zS M ∧ kd v0 = 8 := by
  unfold fp_X10_badImage at h
  exact zthis_of h
set_option maxHeartbeats 4000000 in
set_option maxRecDepth 100000 in
theorem ct_X10_badImage (E : zEnv) (hE : zEok E) (d : Nat) (hd : 1 ≤ d) (v0 : Nat) (v1 : Int32) (M : zM) (x0 : Int32) (hx : fp_X10_badImage v0 v1 M = some x0) : zCt E mu_X10_badImage d [.ref (E.2.2.2.1 + v0), .int v1] M (some (.int x0), M) := by
  refine zCt_of (μ := mu_X10_badImage) (t := fp_X10_badImage v0 v1 M) rfl rfl (Nat.le_of_ble_eq_true rfl) hx ?_
  change zSy E mu_X10_badImage d M (some (.int x0), M) x0 (fp_X10_badImage v0 v1 M) 0 [(0, .ref (E.2.2.2.1 + v0)), (1, .int v1)] [] M
  unfold fp_X10_badImage
  refine zs_this (fun hth => ?_)
  refine zs_iload_n dX10_badImage_0 rfl 1 rfl ?_
  refine zs_if_lt dX10_badImage_1 rfl ?_ ?_
  · refine zs_iconst (v := 1) dX10_badImage_13 ciconst_1 ?_
    exact zs_iretP dX10_badImage_14 rfl
  refine zs_iload_n dX10_badImage_4 rfl 1 rfl ?_
  refine zs_aload_n dX10_badImage_5 rfl 0 rfl ?_
  refine zs_getR dX10_badImage_6 fl_X10_30 rfl (fun y1 => ?_)
  refine zs_alen dX10_badImage_9 (fun y2 => ?_)
  refine zs_icmp_lt dX10_badImage_10 rfl ?_ ?_
  · refine zs_aload_n dX10_badImage_15 rfl 0 rfl ?_
    refine zs_getR dX10_badImage_16 fl_X10_30 rfl (fun y3 => ?_)
    refine zs_iload_n dX10_badImage_19 rfl 1 rfl ?_
    refine zs_ldI dX10_badImage_20 (fun y4 => ?_)
    refine zs_if_ge dX10_badImage_21 rfl ?_ ?_
    · refine zs_iconst (v := 0) dX10_badImage_29 ciconst_0 ?_
      exact zs_iretP dX10_badImage_30 rfl
    refine zs_bipush (v := 8) dX10_badImage_24 cbipush_8 ?_
    refine zs_goto dX10_badImage_26 rfl ?_
    exact zs_iretP dX10_badImage_30 rfl
  refine zs_iconst (v := 1) dX10_badImage_13 ciconst_1 ?_
  exact zs_iretP dX10_badImage_14 rfl
theorem dX10_imageAt_0 : decode cX10_imageAt 0 = .ok (.iload_n 1, 1) := by decide +kernel
theorem dX10_imageAt_1 : decode cX10_imageAt 1 = .ok (.ifCond .lt 21, 3) := by decide +kernel
theorem dX10_imageAt_4 : decode cX10_imageAt 4 = .ok (.iload_n 1, 1) := by decide +kernel
theorem dX10_imageAt_5 : decode cX10_imageAt 5 = .ok (.aload_n 0, 1) := by decide +kernel
theorem dX10_imageAt_6 : decode cX10_imageAt 6 = .ok (.getfield 30, 3) := by decide +kernel
theorem dX10_imageAt_9 : decode cX10_imageAt 9 = .ok (.arraylength, 1) := by decide +kernel
theorem dX10_imageAt_10 : decode cX10_imageAt 10 = .ok (.if_icmp .ge 12, 3) := by decide +kernel
theorem dX10_imageAt_13 : decode cX10_imageAt 13 = .ok (.aload_n 0, 1) := by decide +kernel
theorem dX10_imageAt_14 : decode cX10_imageAt 14 = .ok (.getfield 30, 3) := by decide +kernel
theorem dX10_imageAt_17 : decode cX10_imageAt 17 = .ok (.iload_n 1, 1) := by decide +kernel
theorem dX10_imageAt_18 : decode cX10_imageAt 18 = .ok (.iaload, 1) := by decide +kernel
theorem dX10_imageAt_19 : decode cX10_imageAt 19 = .ok (.goto 4, 3) := by decide +kernel
theorem dX10_imageAt_22 : decode cX10_imageAt 22 = .ok (.iconst (-1), 1) := by decide +kernel
theorem dX10_imageAt_23 : decode cX10_imageAt 23 = .ok (.ireturn, 1) := by decide +kernel
def fp_X10_imageAt (v0 : Nat) (v1 : Int32) (M : zM) : Option (Int32) :=
  zthis 8 M v0 (
    if v1 < 0 then (
      some (-1))
    else (
      (zgR 8 M v0 7).bind fun (y1 : Nat) =>
      (zln M y1).bind fun (y2 : Int32) =>
      if v1 ≥ y2 then (
        some (-1))
      else (
        (zgR 8 M v0 7).bind fun (y3 : Nat) =>
        (zlI 100 M y3 v1).bind fun (y4 : Int32) =>
        some y4)))
set_option maxHeartbeats 4000000 in
set_option maxRecDepth 100000 in
theorem th_X10_imageAt {v0 : Nat} {v1 : Int32} {M : zM} {x0 : Int32} (h : fp_X10_imageAt v0 v1 M = some x0) : v0 < zS M ∧ kd v0 = 8 := by
  unfold fp_X10_imageAt at h
  exact zthis_of h
set_option maxHeartbeats 4000000 in
set_option maxRecDepth 100000 in
theorem ct_X10_imageAt (E : zEnv) (hE : zEok E) (d : Nat) (hd : 1 ≤ d) (v0 : Nat) (v1 : Int32) (M : zM) (x0 : Int32) (hx : fp_X10_imageAt v0 v1 M = some x0) : zCt E mu_X10_imageAt d [.ref (E.2.2.2.1 + v0), .int v1] M (some (.int x0), M) := by
  refine zCt_of (μ := mu_X10_imageAt) (t := fp_X10_imageAt v0 v1 M) rfl rfl (Nat.le_of_ble_eq_true rfl) hx ?_
  change zSy E mu_X10_imageAt d M (some (.int x0), M) x0 (fp_X10_imageAt v0 v1 M) 0 [(0, .ref (E.2.2.2.1 + v0)), (1, .int v1)] [] M
  unfold fp_X10_imageAt
  refine zs_this (fun hth => ?_)
  refine zs_iload_n dX10_imageAt_0 rfl 1 rfl ?_
  refine zs_if_lt dX10_imageAt_1 rfl ?_ ?_
  · refine zs_iconst (v := (-1)) dX10_imageAt_22 ciconst_m1 ?_
    exact zs_iretP dX10_imageAt_23 rfl
  refine zs_iload_n dX10_imageAt_4 rfl 1 rfl ?_
  refine zs_aload_n dX10_imageAt_5 rfl 0 rfl ?_
  refine zs_getR dX10_imageAt_6 fl_X10_30 rfl (fun y1 => ?_)
  refine zs_alen dX10_imageAt_9 (fun y2 => ?_)
  refine zs_icmp_ge dX10_imageAt_10 rfl ?_ ?_
  · refine zs_iconst (v := (-1)) dX10_imageAt_22 ciconst_m1 ?_
    exact zs_iretP dX10_imageAt_23 rfl
  refine zs_aload_n dX10_imageAt_13 rfl 0 rfl ?_
  refine zs_getR dX10_imageAt_14 fl_X10_30 rfl (fun y3 => ?_)
  refine zs_iload_n dX10_imageAt_17 rfl 1 rfl ?_
  refine zs_ldI dX10_imageAt_18 (fun y4 => ?_)
  refine zs_goto dX10_imageAt_19 rfl ?_
  exact zs_iretP dX10_imageAt_23 rfl
theorem dX10_like_0 : decode cX10_like 0 = .ok (.aload_n 0, 1) := by decide +kernel
theorem dX10_like_1 : decode cX10_like 1 = .ok (.iload_n 1, 1) := by decide +kernel
theorem dX10_like_2 : decode cX10_like 2 = .ok (.invokevirtual 213, 3) := by decide +kernel
theorem dX10_like_5 : decode cX10_like 5 = .ok (.istore_n 2, 1) := by decide +kernel
theorem dX10_like_6 : decode cX10_like 6 = .ok (.iload_n 2, 1) := by decide +kernel
theorem dX10_like_7 : decode cX10_like 7 = .ok (.ifCond .eq 9, 3) := by decide +kernel
theorem dX10_like_10 : decode cX10_like 10 = .ok (.aload_n 0, 1) := by decide +kernel
theorem dX10_like_11 : decode cX10_like 11 = .ok (.iload_n 2, 1) := by decide +kernel
theorem dX10_like_12 : decode cX10_like 12 = .ok (.invokevirtual 102, 3) := by decide +kernel
theorem dX10_like_15 : decode cX10_like 15 = .ok (.ireturn, 1) := by decide +kernel
theorem dX10_like_16 : decode cX10_like 16 = .ok (.aload_n 0, 1) := by decide +kernel
theorem dX10_like_17 : decode cX10_like 17 = .ok (.aload_n 0, 1) := by decide +kernel
theorem dX10_like_18 : decode cX10_like 18 = .ok (.iload_n 1, 1) := by decide +kernel
theorem dX10_like_19 : decode cX10_like 19 = .ok (.invokevirtual 216, 3) := by decide +kernel
theorem dX10_like_22 : decode cX10_like 22 = .ok (.aload_n 0, 1) := by decide +kernel
theorem dX10_like_23 : decode cX10_like 23 = .ok (.getfield 129, 3) := by decide +kernel
theorem dX10_like_26 : decode cX10_like 26 = .ok (.aload_n 0, 1) := by decide +kernel
theorem dX10_like_27 : decode cX10_like 27 = .ok (.getfield 136, 3) := by decide +kernel
theorem dX10_like_30 : decode cX10_like 30 = .ok (.invokestatic 210, 3) := by decide +kernel
theorem dX10_like_33 : decode cX10_like 33 = .ok (.if_icmp .ne 7, 3) := by decide +kernel
theorem dX10_like_36 : decode cX10_like 36 = .ok (.iconst 1, 1) := by decide +kernel
theorem dX10_like_37 : decode cX10_like 37 = .ok (.goto 4, 3) := by decide +kernel
theorem dX10_like_40 : decode cX10_like 40 = .ok (.iconst 0, 1) := by decide +kernel
theorem dX10_like_41 : decode cX10_like 41 = .ok (.invokevirtual 130, 3) := by decide +kernel
theorem dX10_like_44 : decode cX10_like 44 = .ok (.ireturn, 1) := by decide +kernel
def fp_X10_like (v0 : Nat) (v1 : Int32) (M : zM) : Option (Int32 × zM) :=
  zthis 8 M v0 (
    (fp_X10_badImage v0 v1 M).bind fun (y1 : Int32) =>
    if y1 = 0 then (
      (fp_X10_imageAt v0 v1 M).bind fun (y2 : Int32) =>
      (zgI 8 M v0 1).bind fun (y3 : Int32) =>
      (zgI 8 M v0 2).bind fun (y4 : Int32) =>
      (fp_X2_code y3 y4).bind fun (y5 : Int32) =>
      if y2 ≠ y5 then (
        (fp_X10_answer v0 0 M).bind fun p8 => zpp p8 fun (y6 : Int32) (M7 : zM) =>
        some (y6, M7))
      else (
        (fp_X10_answer v0 1 M).bind fun p11 => zpp p11 fun (y9 : Int32) (M10 : zM) =>
        some (y9, M10)))
    else (
      (fp_X10_refuse v0 y1 M).bind fun p14 => zpp p14 fun (y12 : Int32) (M13 : zM) =>
      some (y12, M13)))
set_option maxHeartbeats 4000000 in
set_option maxRecDepth 100000 in
theorem th_X10_like {v0 : Nat} {v1 : Int32} {M : zM} {x0 : Int32 × zM} (h : fp_X10_like v0 v1 M = some x0) : v0 < zS M ∧ kd v0 = 8 := by
  unfold fp_X10_like at h
  exact zthis_of h
set_option maxHeartbeats 4000000 in
set_option maxRecDepth 100000 in
theorem ct_X10_like (E : zEnv) (hE : zEok E) (d : Nat) (hd : 2 ≤ d) (v0 : Nat) (v1 : Int32) (M : zM) (x0 : Int32 × zM) (hx : fp_X10_like v0 v1 M = some x0) : zCt E mu_X10_like d [.ref (E.2.2.2.1 + v0), .int v1] M (some (.int x0.1), x0.2) := by
  refine zCt_of (μ := mu_X10_like) (t := fp_X10_like v0 v1 M) rfl rfl (Nat.le_of_ble_eq_true rfl) hx ?_
  change zSy E mu_X10_like d M (some (.int x0.1), x0.2) x0 (fp_X10_like v0 v1 M) 0 [(0, .ref (E.2.2.2.1 + v0)), (1, .int v1)] [] M
  unfold fp_X10_like
  refine zs_this (fun hth => ?_)
  refine zs_aload_n dX10_like_0 rfl 0 rfl ?_
  refine zs_iload_n dX10_like_1 rfl 1 rfl ?_
  refine zs_invVPI (rest := []) [.int v1] dX10_like_2 lk_X10_213 rfl (fun _ h => th_X10_badImage h) (zd1 rfl hd) rfl (Nat.le_of_ble_eq_true rfl) (ct_X10_badImage E hE _ (zdl rfl hd) _ _ _) (fun y1 => ?_)
  refine zs_istore_n (loc' := [(0, .ref (E.2.2.2.1 + v0)), (1, .int v1), (2, .int y1)]) dX10_like_5 rfl (Nat.le_of_ble_eq_true rfl) [1, 2, 0] rfl ?_
  refine zs_iload_n dX10_like_6 rfl 2 rfl ?_
  refine zs_if_eq dX10_like_7 rfl ?_ ?_
  · refine zs_aload_n dX10_like_16 rfl 0 rfl ?_
    refine zs_aload_n dX10_like_17 rfl 0 rfl ?_
    refine zs_iload_n dX10_like_18 rfl 1 rfl ?_
    refine zs_invVPI (rest := [.ref (E.2.2.2.1 + v0)]) [.int v1] dX10_like_19 lk_X10_216 rfl (fun _ h => th_X10_imageAt h) (zd1 rfl hd) rfl (Nat.le_of_ble_eq_true rfl) (ct_X10_imageAt E hE _ (zdl rfl hd) _ _ _) (fun y2 => ?_)
    refine zs_aload_n dX10_like_22 rfl 0 rfl ?_
    refine zs_getI dX10_like_23 fl_X10_129 rfl (fun y3 => ?_)
    refine zs_aload_n dX10_like_26 rfl 0 rfl ?_
    refine zs_getI dX10_like_27 fl_X10_136 rfl (fun y4 => ?_)
    refine zs_invSPI (rest := [.int y2, .ref (E.2.2.2.1 + v0)]) [.int y3, .int y4] dX10_like_30 lk_X10_210 rfl (zd1 rfl hd) rfl (Nat.le_of_ble_eq_true rfl) (ct_X2_code E hE _ (zdl rfl hd) _ _ _) (fun y5 => ?_)
    refine zs_icmp_ne dX10_like_33 rfl ?_ ?_
    · refine zs_iconst (v := 0) dX10_like_40 ciconst_0 ?_
      refine zs_invVWI (rest := []) [.int 0] dX10_like_41 lk_X10_130 rfl (fun _ h => th_X10_answer h) (zd1 rfl hd) rfl (Nat.le_of_ble_eq_true rfl) (ct_X10_answer E hE _ (zdl rfl hd) _ _ _) (fun y6 M7 => ?_)
      exact zs_iretW dX10_like_44 rfl
    refine zs_iconst (v := 1) dX10_like_36 ciconst_1 ?_
    refine zs_goto dX10_like_37 rfl ?_
    refine zs_invVWI (rest := []) [.int 1] dX10_like_41 lk_X10_130 rfl (fun _ h => th_X10_answer h) (zd1 rfl hd) rfl (Nat.le_of_ble_eq_true rfl) (ct_X10_answer E hE _ (zdl rfl hd) _ _ _) (fun y9 M10 => ?_)
    exact zs_iretW dX10_like_44 rfl
  refine zs_aload_n dX10_like_10 rfl 0 rfl ?_
  refine zs_iload_n dX10_like_11 rfl 2 rfl ?_
  refine zs_invVWI (rest := []) [.int y1] dX10_like_12 lk_X10_102 rfl (fun _ h => th_X10_refuse h) (zd1 rfl hd) rfl (Nat.le_of_ble_eq_true rfl) (ct_X10_refuse E hE _ (zdl rfl hd) _ _ _) (fun y12 M13 => ?_)
  exact zs_iretW dX10_like_15 rfl
theorem dX10_order_0 : decode cX10_order 0 = .ok (.aload_n 0, 1) := by decide +kernel
theorem dX10_order_1 : decode cX10_order 1 = .ok (.iload_n 1, 1) := by decide +kernel
theorem dX10_order_2 : decode cX10_order 2 = .ok (.invokevirtual 171, 3) := by decide +kernel
theorem dX10_order_5 : decode cX10_order 5 = .ok (.ifCond .ne 9, 3) := by decide +kernel
theorem dX10_order_8 : decode cX10_order 8 = .ok (.aload_n 0, 1) := by decide +kernel
theorem dX10_order_9 : decode cX10_order 9 = .ok (.iconst 1, 1) := by decide +kernel
theorem dX10_order_10 : decode cX10_order 10 = .ok (.invokevirtual 102, 3) := by decide +kernel
theorem dX10_order_13 : decode cX10_order 13 = .ok (.ireturn, 1) := by decide +kernel
theorem dX10_order_14 : decode cX10_order 14 = .ok (.aload_n 0, 1) := by decide +kernel
theorem dX10_order_15 : decode cX10_order 15 = .ok (.aload_n 0, 1) := by decide +kernel
theorem dX10_order_16 : decode cX10_order 16 = .ok (.getfield 129, 3) := by decide +kernel
theorem dX10_order_19 : decode cX10_order 19 = .ok (.aload_n 0, 1) := by decide +kernel
theorem dX10_order_20 : decode cX10_order 20 = .ok (.getfield 136, 3) := by decide +kernel
theorem dX10_order_23 : decode cX10_order 23 = .ok (.iload_n 1, 1) := by decide +kernel
theorem dX10_order_24 : decode cX10_order 24 = .ok (.invokestatic 219, 3) := by decide +kernel
theorem dX10_order_27 : decode cX10_order 27 = .ok (.invokevirtual 130, 3) := by decide +kernel
theorem dX10_order_30 : decode cX10_order 30 = .ok (.ireturn, 1) := by decide +kernel
def fp_X10_order (v0 : Nat) (v1 : Int32) (M : zM) : Option (Int32 × zM) :=
  zthis 8 M v0 (
    (fp_X10_hasSet v0 v1 M).bind fun (y1 : Int32) =>
    if y1 ≠ 0 then (
      (zgI 8 M v0 1).bind fun (y2 : Int32) =>
      (zgI 8 M v0 2).bind fun (y3 : Int32) =>
      (fp_X2_rank y2 y3 v1).bind fun (y4 : Int32) =>
      (fp_X10_answer v0 y4 M).bind fun p7 => zpp p7 fun (y5 : Int32) (M6 : zM) =>
      some (y5, M6))
    else (
      (fp_X10_refuse v0 1 M).bind fun p10 => zpp p10 fun (y8 : Int32) (M9 : zM) =>
      some (y8, M9)))
set_option maxHeartbeats 4000000 in
set_option maxRecDepth 100000 in
theorem th_X10_order {v0 : Nat} {v1 : Int32} {M : zM} {x0 : Int32 × zM} (h : fp_X10_order v0 v1 M = some x0) : v0 < zS M ∧ kd v0 = 8 := by
  unfold fp_X10_order at h
  exact zthis_of h
set_option maxHeartbeats 4000000 in
set_option maxRecDepth 100000 in
theorem ct_X10_order (E : zEnv) (hE : zEok E) (d : Nat) (hd : 3 ≤ d) (v0 : Nat) (v1 : Int32) (M : zM) (x0 : Int32 × zM) (hx : fp_X10_order v0 v1 M = some x0) : zCt E mu_X10_order d [.ref (E.2.2.2.1 + v0), .int v1] M (some (.int x0.1), x0.2) := by
  refine zCt_of (μ := mu_X10_order) (t := fp_X10_order v0 v1 M) rfl rfl (Nat.le_of_ble_eq_true rfl) hx ?_
  change zSy E mu_X10_order d M (some (.int x0.1), x0.2) x0 (fp_X10_order v0 v1 M) 0 [(0, .ref (E.2.2.2.1 + v0)), (1, .int v1)] [] M
  unfold fp_X10_order
  refine zs_this (fun hth => ?_)
  refine zs_aload_n dX10_order_0 rfl 0 rfl ?_
  refine zs_iload_n dX10_order_1 rfl 1 rfl ?_
  refine zs_invVPI (rest := []) [.int v1] dX10_order_2 lk_X10_171 rfl (fun _ h => th_X10_hasSet h) (zd1 rfl hd) rfl (Nat.le_of_ble_eq_true rfl) (ct_X10_hasSet E hE _ (zdl rfl hd) _ _ _) (fun y1 => ?_)
  refine zs_if_ne dX10_order_5 rfl ?_ ?_
  · refine zs_aload_n dX10_order_14 rfl 0 rfl ?_
    refine zs_aload_n dX10_order_15 rfl 0 rfl ?_
    refine zs_getI dX10_order_16 fl_X10_129 rfl (fun y2 => ?_)
    refine zs_aload_n dX10_order_19 rfl 0 rfl ?_
    refine zs_getI dX10_order_20 fl_X10_136 rfl (fun y3 => ?_)
    refine zs_iload_n dX10_order_23 rfl 1 rfl ?_
    refine zs_invSPI (rest := [.ref (E.2.2.2.1 + v0)]) [.int y2, .int y3, .int v1] dX10_order_24 lk_X10_219 rfl (zd1 rfl hd) rfl (Nat.le_of_ble_eq_true rfl) (ct_X2_rank E hE _ (zdl rfl hd) _ _ _ _) (fun y4 => ?_)
    refine zs_invVWI (rest := []) [.int y4] dX10_order_27 lk_X10_130 rfl (fun _ h => th_X10_answer h) (zd1 rfl hd) rfl (Nat.le_of_ble_eq_true rfl) (ct_X10_answer E hE _ (zdl rfl hd) _ _ _) (fun y5 M6 => ?_)
    exact zs_iretW dX10_order_30 rfl
  refine zs_aload_n dX10_order_8 rfl 0 rfl ?_
  refine zs_iconst (v := 1) dX10_order_9 ciconst_1 ?_
  refine zs_invVWI (rest := []) [.int 1] dX10_order_10 lk_X10_102 rfl (fun _ h => th_X10_refuse h) (zd1 rfl hd) rfl (Nat.le_of_ble_eq_true rfl) (ct_X10_refuse E hE _ (zdl rfl hd) _ _ _) (fun y8 M9 => ?_)
  exact zs_iretW dX10_order_13 rfl
theorem dX10_badSplit_0 : decode cX10_badSplit 0 = .ok (.iload_n 1, 1) := by decide +kernel
theorem dX10_badSplit_1 : decode cX10_badSplit 1 = .ok (.ifCond .ge 5, 3) := by decide +kernel
theorem dX10_badSplit_4 : decode cX10_badSplit 4 = .ok (.iconst 1, 1) := by decide +kernel
theorem dX10_badSplit_5 : decode cX10_badSplit 5 = .ok (.ireturn, 1) := by decide +kernel
theorem dX10_badSplit_6 : decode cX10_badSplit 6 = .ok (.aload_n 0, 1) := by decide +kernel
theorem dX10_badSplit_7 : decode cX10_badSplit 7 = .ok (.getfield 129, 3) := by decide +kernel
theorem dX10_badSplit_10 : decode cX10_badSplit 10 = .ok (.aload_n 0, 1) := by decide +kernel
theorem dX10_badSplit_11 : decode cX10_badSplit 11 = .ok (.getfield 136, 3) := by decide +kernel
theorem dX10_badSplit_14 : decode cX10_badSplit 14 = .ok (.invokestatic 388, 3) := by decide +kernel
theorem dX10_badSplit_17 : decode cX10_badSplit 17 = .ok (.ifCond .ne 6, 3) := by decide +kernel
theorem dX10_badSplit_20 : decode cX10_badSplit 20 = .ok (.bipush 7, 2) := by decide +kernel
theorem dX10_badSplit_22 : decode cX10_badSplit 22 = .ok (.ireturn, 1) := by decide +kernel
theorem dX10_badSplit_23 : decode cX10_badSplit 23 = .ok (.aload_n 0, 1) := by decide +kernel
theorem dX10_badSplit_24 : decode cX10_badSplit 24 = .ok (.getfield 43, 3) := by decide +kernel
theorem dX10_badSplit_27 : decode cX10_badSplit 27 = .ok (.aload_n 0, 1) := by decide +kernel
theorem dX10_badSplit_28 : decode cX10_badSplit 28 = .ok (.getfield 129, 3) := by decide +kernel
theorem dX10_badSplit_31 : decode cX10_badSplit 31 = .ok (.aload_n 0, 1) := by decide +kernel
theorem dX10_badSplit_32 : decode cX10_badSplit 32 = .ok (.getfield 136, 3) := by decide +kernel
theorem dX10_badSplit_35 : decode cX10_badSplit 35 = .ok (.invokevirtual 151, 3) := by decide +kernel
theorem dX10_badSplit_38 : decode cX10_badSplit 38 = .ok (.iload_n 1, 1) := by decide +kernel
theorem dX10_badSplit_39 : decode cX10_badSplit 39 = .ok (.aload_n 0, 1) := by decide +kernel
theorem dX10_badSplit_40 : decode cX10_badSplit 40 = .ok (.getfield 43, 3) := by decide +kernel
theorem dX10_badSplit_43 : decode cX10_badSplit 43 = .ok (.getfield 154, 3) := by decide +kernel
theorem dX10_badSplit_46 : decode cX10_badSplit 46 = .ok (.if_icmp .lt 8, 3) := by decide +kernel
theorem dX10_badSplit_49 : decode cX10_badSplit 49 = .ok (.bipush 6, 2) := by decide +kernel
theorem dX10_badSplit_51 : decode cX10_badSplit 51 = .ok (.goto 4, 3) := by decide +kernel
theorem dX10_badSplit_54 : decode cX10_badSplit 54 = .ok (.iconst 0, 1) := by decide +kernel
theorem dX10_badSplit_55 : decode cX10_badSplit 55 = .ok (.ireturn, 1) := by decide +kernel
def fp_X10_badSplit (v0 : Nat) (v1 : Int32) (M : zM) : Option (Int32 × zM) :=
  zthis 8 M v0 (
    if v1 ≥ 0 then (
      (zgI 8 M v0 1).bind fun (y1 : Int32) =>
      (zgI 8 M v0 2).bind fun (y2 : Int32) =>
      (fp_X2_joined y1 y2).bind fun (y3 : Int32) =>
      if y3 ≠ 0 then (
        (zgR 8 M v0 8).bind fun (y4 : Nat) =>
        (zgI 8 M v0 1).bind fun (y5 : Int32) =>
        (zgI 8 M v0 2).bind fun (y6 : Int32) =>
        (fp_X6_gather y4 y5 y6 M).bind fun (M7 : zM) =>
        (zgR 8 M7 v0 8).bind fun (y8 : Nat) =>
        (zgI 4 M7 y8 1).bind fun (y9 : Int32) =>
        if v1 < y9 then (
          some (0, M7))
        else (
          some (6, M7)))
      else (
        some (7, M)))
    else (
      some (1, M)))
set_option maxHeartbeats 4000000 in
set_option maxRecDepth 100000 in
theorem th_X10_badSplit {v0 : Nat} {v1 : Int32} {M : zM} {x0 : Int32 × zM} (h : fp_X10_badSplit v0 v1 M = some x0) : v0 < zS M ∧ kd v0 = 8 := by
  unfold fp_X10_badSplit at h
  exact zthis_of h
set_option maxHeartbeats 4000000 in
set_option maxRecDepth 100000 in
theorem ct_X10_badSplit (E : zEnv) (hE : zEok E) (d : Nat) (hd : 5 ≤ d) (v0 : Nat) (v1 : Int32) (M : zM) (x0 : Int32 × zM) (hx : fp_X10_badSplit v0 v1 M = some x0) : zCt E mu_X10_badSplit d [.ref (E.2.2.2.1 + v0), .int v1] M (some (.int x0.1), x0.2) := by
  refine zCt_of (μ := mu_X10_badSplit) (t := fp_X10_badSplit v0 v1 M) rfl rfl (Nat.le_of_ble_eq_true rfl) hx ?_
  change zSy E mu_X10_badSplit d M (some (.int x0.1), x0.2) x0 (fp_X10_badSplit v0 v1 M) 0 [(0, .ref (E.2.2.2.1 + v0)), (1, .int v1)] [] M
  unfold fp_X10_badSplit
  refine zs_this (fun hth => ?_)
  refine zs_iload_n dX10_badSplit_0 rfl 1 rfl ?_
  refine zs_if_ge dX10_badSplit_1 rfl ?_ ?_
  · refine zs_aload_n dX10_badSplit_6 rfl 0 rfl ?_
    refine zs_getI dX10_badSplit_7 fl_X10_129 rfl (fun y1 => ?_)
    refine zs_aload_n dX10_badSplit_10 rfl 0 rfl ?_
    refine zs_getI dX10_badSplit_11 fl_X10_136 rfl (fun y2 => ?_)
    refine zs_invSPI (rest := []) [.int y1, .int y2] dX10_badSplit_14 lk_X10_388 rfl (zd1 rfl hd) rfl (Nat.le_of_ble_eq_true rfl) (ct_X2_joined E hE _ (zdl rfl hd) _ _ _) (fun y3 => ?_)
    refine zs_if_ne dX10_badSplit_17 rfl ?_ ?_
    · refine zs_aload_n dX10_badSplit_23 rfl 0 rfl ?_
      refine zs_getR dX10_badSplit_24 fl_X10_43 rfl (fun y4 => ?_)
      refine zs_aload_n dX10_badSplit_27 rfl 0 rfl ?_
      refine zs_getI dX10_badSplit_28 fl_X10_129 rfl (fun y5 => ?_)
      refine zs_aload_n dX10_badSplit_31 rfl 0 rfl ?_
      refine zs_getI dX10_badSplit_32 fl_X10_136 rfl (fun y6 => ?_)
      refine zs_invVWV (rest := []) [.int y5, .int y6] dX10_badSplit_35 lk_X10_151 rfl (fun _ h => th_X6_gather h) (zd1 rfl hd) rfl (Nat.le_of_ble_eq_true rfl) (ct_X6_gather E hE _ (zdl rfl hd) _ _ _ _) (fun M7 => ?_)
      refine zs_iload_n dX10_badSplit_38 rfl 1 rfl ?_
      refine zs_aload_n dX10_badSplit_39 rfl 0 rfl ?_
      refine zs_getR dX10_badSplit_40 fl_X10_43 rfl (fun y8 => ?_)
      refine zs_getI dX10_badSplit_43 fl_X10_154 rfl (fun y9 => ?_)
      refine zs_icmp_lt dX10_badSplit_46 rfl ?_ ?_
      · refine zs_iconst (v := 0) dX10_badSplit_54 ciconst_0 ?_
        exact zs_iretW dX10_badSplit_55 rfl
      refine zs_bipush (v := 6) dX10_badSplit_49 cbipush_6 ?_
      refine zs_goto dX10_badSplit_51 rfl ?_
      exact zs_iretW dX10_badSplit_55 rfl
    refine zs_bipush (v := 7) dX10_badSplit_20 cbipush_7 ?_
    exact zs_iretW dX10_badSplit_22 rfl
  refine zs_iconst (v := 1) dX10_badSplit_4 ciconst_1 ?_
  exact zs_iretW dX10_badSplit_5 rfl
theorem dX10_split_0 : decode cX10_split 0 = .ok (.aload_n 0, 1) := by decide +kernel
theorem dX10_split_1 : decode cX10_split 1 = .ok (.iload_n 1, 1) := by decide +kernel
theorem dX10_split_2 : decode cX10_split 2 = .ok (.invokevirtual 222, 3) := by decide +kernel
theorem dX10_split_5 : decode cX10_split 5 = .ok (.istore_n 2, 1) := by decide +kernel
theorem dX10_split_6 : decode cX10_split 6 = .ok (.iload_n 2, 1) := by decide +kernel
theorem dX10_split_7 : decode cX10_split 7 = .ok (.ifCond .eq 9, 3) := by decide +kernel
theorem dX10_split_10 : decode cX10_split 10 = .ok (.aload_n 0, 1) := by decide +kernel
theorem dX10_split_11 : decode cX10_split 11 = .ok (.iload_n 2, 1) := by decide +kernel
theorem dX10_split_12 : decode cX10_split 12 = .ok (.invokevirtual 102, 3) := by decide +kernel
theorem dX10_split_15 : decode cX10_split 15 = .ok (.ireturn, 1) := by decide +kernel
theorem dX10_split_16 : decode cX10_split 16 = .ok (.aload_n 0, 1) := by decide +kernel
theorem dX10_split_17 : decode cX10_split 17 = .ok (.aload_n 0, 1) := by decide +kernel
theorem dX10_split_18 : decode cX10_split 18 = .ok (.getfield 43, 3) := by decide +kernel
theorem dX10_split_21 : decode cX10_split 21 = .ok (.iload_n 1, 1) := by decide +kernel
theorem dX10_split_22 : decode cX10_split 22 = .ok (.invokevirtual 225, 3) := by decide +kernel
theorem dX10_split_25 : decode cX10_split 25 = .ok (.invokevirtual 130, 3) := by decide +kernel
theorem dX10_split_28 : decode cX10_split 28 = .ok (.ireturn, 1) := by decide +kernel
def fp_X10_split (v0 : Nat) (v1 : Int32) (M : zM) : Option (Int32 × zM) :=
  zthis 8 M v0 (
    (fp_X10_badSplit v0 v1 M).bind fun p3 => zpp p3 fun (y1 : Int32) (M2 : zM) =>
    if y1 = 0 then (
      (zgR 8 M2 v0 8).bind fun (y4 : Nat) =>
      (fp_X6_setAt y4 v1 M2).bind fun (y5 : Int32) =>
      (fp_X10_answer v0 y5 M2).bind fun p8 => zpp p8 fun (y6 : Int32) (M7 : zM) =>
      some (y6, M7))
    else (
      (fp_X10_refuse v0 y1 M2).bind fun p11 => zpp p11 fun (y9 : Int32) (M10 : zM) =>
      some (y9, M10)))
set_option maxHeartbeats 4000000 in
set_option maxRecDepth 100000 in
theorem th_X10_split {v0 : Nat} {v1 : Int32} {M : zM} {x0 : Int32 × zM} (h : fp_X10_split v0 v1 M = some x0) : v0 < zS M ∧ kd v0 = 8 := by
  unfold fp_X10_split at h
  exact zthis_of h
set_option maxHeartbeats 4000000 in
set_option maxRecDepth 100000 in
theorem ct_X10_split (E : zEnv) (hE : zEok E) (d : Nat) (hd : 6 ≤ d) (v0 : Nat) (v1 : Int32) (M : zM) (x0 : Int32 × zM) (hx : fp_X10_split v0 v1 M = some x0) : zCt E mu_X10_split d [.ref (E.2.2.2.1 + v0), .int v1] M (some (.int x0.1), x0.2) := by
  refine zCt_of (μ := mu_X10_split) (t := fp_X10_split v0 v1 M) rfl rfl (Nat.le_of_ble_eq_true rfl) hx ?_
  change zSy E mu_X10_split d M (some (.int x0.1), x0.2) x0 (fp_X10_split v0 v1 M) 0 [(0, .ref (E.2.2.2.1 + v0)), (1, .int v1)] [] M
  unfold fp_X10_split
  refine zs_this (fun hth => ?_)
  refine zs_aload_n dX10_split_0 rfl 0 rfl ?_
  refine zs_iload_n dX10_split_1 rfl 1 rfl ?_
  refine zs_invVWI (rest := []) [.int v1] dX10_split_2 lk_X10_222 rfl (fun _ h => th_X10_badSplit h) (zd1 rfl hd) rfl (Nat.le_of_ble_eq_true rfl) (ct_X10_badSplit E hE _ (zdl rfl hd) _ _ _) (fun y1 M2 => ?_)
  refine zs_istore_n (loc' := [(0, .ref (E.2.2.2.1 + v0)), (1, .int v1), (2, .int y1)]) dX10_split_5 rfl (Nat.le_of_ble_eq_true rfl) [1, 2, 0] rfl ?_
  refine zs_iload_n dX10_split_6 rfl 2 rfl ?_
  refine zs_if_eq dX10_split_7 rfl ?_ ?_
  · refine zs_aload_n dX10_split_16 rfl 0 rfl ?_
    refine zs_aload_n dX10_split_17 rfl 0 rfl ?_
    refine zs_getR dX10_split_18 fl_X10_43 rfl (fun y4 => ?_)
    refine zs_iload_n dX10_split_21 rfl 1 rfl ?_
    refine zs_invVPI (rest := [.ref (E.2.2.2.1 + v0)]) [.int v1] dX10_split_22 lk_X10_225 rfl (fun _ h => th_X6_setAt h) (zd1 rfl hd) rfl (Nat.le_of_ble_eq_true rfl) (ct_X6_setAt E hE _ (zdl rfl hd) _ _ _) (fun y5 => ?_)
    refine zs_invVWI (rest := []) [.int y5] dX10_split_25 lk_X10_130 rfl (fun _ h => th_X10_answer h) (zd1 rfl hd) rfl (Nat.le_of_ble_eq_true rfl) (ct_X10_answer E hE _ (zdl rfl hd) _ _ _) (fun y6 M7 => ?_)
    exact zs_iretW dX10_split_28 rfl
  refine zs_aload_n dX10_split_10 rfl 0 rfl ?_
  refine zs_iload_n dX10_split_11 rfl 2 rfl ?_
  refine zs_invVWI (rest := []) [.int y1] dX10_split_12 lk_X10_102 rfl (fun _ h => th_X10_refuse h) (zd1 rfl hd) rfl (Nat.le_of_ble_eq_true rfl) (ct_X10_refuse E hE _ (zdl rfl hd) _ _ _) (fun y9 M10 => ?_)
  exact zs_iretW dX10_split_15 rfl
theorem dX10_strong_0 : decode cX10_strong 0 = .ok (.aload_n 0, 1) := by decide +kernel
theorem dX10_strong_1 : decode cX10_strong 1 = .ok (.iload_n 1, 1) := by decide +kernel
theorem dX10_strong_2 : decode cX10_strong 2 = .ok (.invokevirtual 222, 3) := by decide +kernel
theorem dX10_strong_5 : decode cX10_strong 5 = .ok (.istore_n 2, 1) := by decide +kernel
theorem dX10_strong_6 : decode cX10_strong 6 = .ok (.iload_n 2, 1) := by decide +kernel
theorem dX10_strong_7 : decode cX10_strong 7 = .ok (.ifCond .eq 9, 3) := by decide +kernel
theorem dX10_strong_10 : decode cX10_strong 10 = .ok (.aload_n 0, 1) := by decide +kernel
theorem dX10_strong_11 : decode cX10_strong 11 = .ok (.iload_n 2, 1) := by decide +kernel
theorem dX10_strong_12 : decode cX10_strong 12 = .ok (.invokevirtual 102, 3) := by decide +kernel
theorem dX10_strong_15 : decode cX10_strong 15 = .ok (.ireturn, 1) := by decide +kernel
theorem dX10_strong_16 : decode cX10_strong 16 = .ok (.aload_n 0, 1) := by decide +kernel
theorem dX10_strong_17 : decode cX10_strong 17 = .ok (.aload_n 0, 1) := by decide +kernel
theorem dX10_strong_18 : decode cX10_strong 18 = .ok (.getfield 43, 3) := by decide +kernel
theorem dX10_strong_21 : decode cX10_strong 21 = .ok (.aload_n 0, 1) := by decide +kernel
theorem dX10_strong_22 : decode cX10_strong 22 = .ok (.getfield 129, 3) := by decide +kernel
theorem dX10_strong_25 : decode cX10_strong 25 = .ok (.iload_n 1, 1) := by decide +kernel
theorem dX10_strong_26 : decode cX10_strong 26 = .ok (.invokevirtual 228, 3) := by decide +kernel
theorem dX10_strong_29 : decode cX10_strong 29 = .ok (.ifCond .eq 7, 3) := by decide +kernel
theorem dX10_strong_32 : decode cX10_strong 32 = .ok (.iconst 1, 1) := by decide +kernel
theorem dX10_strong_33 : decode cX10_strong 33 = .ok (.goto 4, 3) := by decide +kernel
theorem dX10_strong_36 : decode cX10_strong 36 = .ok (.iconst 0, 1) := by decide +kernel
theorem dX10_strong_37 : decode cX10_strong 37 = .ok (.invokevirtual 130, 3) := by decide +kernel
theorem dX10_strong_40 : decode cX10_strong 40 = .ok (.ireturn, 1) := by decide +kernel
def fp_X10_strong (v0 : Nat) (v1 : Int32) (M : zM) : Option (Int32 × zM) :=
  zthis 8 M v0 (
    (fp_X10_badSplit v0 v1 M).bind fun p3 => zpp p3 fun (y1 : Int32) (M2 : zM) =>
    if y1 = 0 then (
      (zgR 8 M2 v0 8).bind fun (y4 : Nat) =>
      (zgI 8 M2 v0 1).bind fun (y5 : Int32) =>
      (fp_X6_isStrong y4 y5 v1 M2).bind fun (y6 : Int32) =>
      if y6 = 0 then (
        (fp_X10_answer v0 0 M2).bind fun p9 => zpp p9 fun (y7 : Int32) (M8 : zM) =>
        some (y7, M8))
      else (
        (fp_X10_answer v0 1 M2).bind fun p12 => zpp p12 fun (y10 : Int32) (M11 : zM) =>
        some (y10, M11)))
    else (
      (fp_X10_refuse v0 y1 M2).bind fun p15 => zpp p15 fun (y13 : Int32) (M14 : zM) =>
      some (y13, M14)))
set_option maxHeartbeats 4000000 in
set_option maxRecDepth 100000 in
theorem th_X10_strong {v0 : Nat} {v1 : Int32} {M : zM} {x0 : Int32 × zM} (h : fp_X10_strong v0 v1 M = some x0) : v0 < zS M ∧ kd v0 = 8 := by
  unfold fp_X10_strong at h
  exact zthis_of h
set_option maxHeartbeats 4000000 in
set_option maxRecDepth 100000 in
theorem ct_X10_strong (E : zEnv) (hE : zEok E) (d : Nat) (hd : 6 ≤ d) (v0 : Nat) (v1 : Int32) (M : zM) (x0 : Int32 × zM) (hx : fp_X10_strong v0 v1 M = some x0) : zCt E mu_X10_strong d [.ref (E.2.2.2.1 + v0), .int v1] M (some (.int x0.1), x0.2) := by
  refine zCt_of (μ := mu_X10_strong) (t := fp_X10_strong v0 v1 M) rfl rfl (Nat.le_of_ble_eq_true rfl) hx ?_
  change zSy E mu_X10_strong d M (some (.int x0.1), x0.2) x0 (fp_X10_strong v0 v1 M) 0 [(0, .ref (E.2.2.2.1 + v0)), (1, .int v1)] [] M
  unfold fp_X10_strong
  refine zs_this (fun hth => ?_)
  refine zs_aload_n dX10_strong_0 rfl 0 rfl ?_
  refine zs_iload_n dX10_strong_1 rfl 1 rfl ?_
  refine zs_invVWI (rest := []) [.int v1] dX10_strong_2 lk_X10_222 rfl (fun _ h => th_X10_badSplit h) (zd1 rfl hd) rfl (Nat.le_of_ble_eq_true rfl) (ct_X10_badSplit E hE _ (zdl rfl hd) _ _ _) (fun y1 M2 => ?_)
  refine zs_istore_n (loc' := [(0, .ref (E.2.2.2.1 + v0)), (1, .int v1), (2, .int y1)]) dX10_strong_5 rfl (Nat.le_of_ble_eq_true rfl) [1, 2, 0] rfl ?_
  refine zs_iload_n dX10_strong_6 rfl 2 rfl ?_
  refine zs_if_eq dX10_strong_7 rfl ?_ ?_
  · refine zs_aload_n dX10_strong_16 rfl 0 rfl ?_
    refine zs_aload_n dX10_strong_17 rfl 0 rfl ?_
    refine zs_getR dX10_strong_18 fl_X10_43 rfl (fun y4 => ?_)
    refine zs_aload_n dX10_strong_21 rfl 0 rfl ?_
    refine zs_getI dX10_strong_22 fl_X10_129 rfl (fun y5 => ?_)
    refine zs_iload_n dX10_strong_25 rfl 1 rfl ?_
    refine zs_invVPI (rest := [.ref (E.2.2.2.1 + v0)]) [.int y5, .int v1] dX10_strong_26 lk_X10_228 rfl (fun _ h => th_X6_isStrong h) (zd1 rfl hd) rfl (Nat.le_of_ble_eq_true rfl) (ct_X6_isStrong E hE _ (zdl rfl hd) _ _ _ _) (fun y6 => ?_)
    refine zs_if_eq dX10_strong_29 rfl ?_ ?_
    · refine zs_iconst (v := 0) dX10_strong_36 ciconst_0 ?_
      refine zs_invVWI (rest := []) [.int 0] dX10_strong_37 lk_X10_130 rfl (fun _ h => th_X10_answer h) (zd1 rfl hd) rfl (Nat.le_of_ble_eq_true rfl) (ct_X10_answer E hE _ (zdl rfl hd) _ _ _) (fun y7 M8 => ?_)
      exact zs_iretW dX10_strong_40 rfl
    refine zs_iconst (v := 1) dX10_strong_32 ciconst_1 ?_
    refine zs_goto dX10_strong_33 rfl ?_
    refine zs_invVWI (rest := []) [.int 1] dX10_strong_37 lk_X10_130 rfl (fun _ h => th_X10_answer h) (zd1 rfl hd) rfl (Nat.le_of_ble_eq_true rfl) (ct_X10_answer E hE _ (zdl rfl hd) _ _ _) (fun y10 M11 => ?_)
    exact zs_iretW dX10_strong_40 rfl
  refine zs_aload_n dX10_strong_10 rfl 0 rfl ?_
  refine zs_iload_n dX10_strong_11 rfl 2 rfl ?_
  refine zs_invVWI (rest := []) [.int y1] dX10_strong_12 lk_X10_102 rfl (fun _ h => th_X10_refuse h) (zd1 rfl hd) rfl (Nat.le_of_ble_eq_true rfl) (ct_X10_refuse E hE _ (zdl rfl hd) _ _ _) (fun y13 M14 => ?_)
  exact zs_iretW dX10_strong_15 rfl
theorem dX10_prime_0 : decode cX10_prime 0 = .ok (.aload_n 0, 1) := by decide +kernel
theorem dX10_prime_1 : decode cX10_prime 1 = .ok (.aload_n 0, 1) := by decide +kernel
theorem dX10_prime_2 : decode cX10_prime 2 = .ok (.getfield 129, 3) := by decide +kernel
theorem dX10_prime_5 : decode cX10_prime 5 = .ok (.aload_n 0, 1) := by decide +kernel
theorem dX10_prime_6 : decode cX10_prime 6 = .ok (.getfield 136, 3) := by decide +kernel
theorem dX10_prime_9 : decode cX10_prime 9 = .ok (.invokestatic 232, 3) := by decide +kernel
theorem dX10_prime_12 : decode cX10_prime 12 = .ok (.ifCond .eq 7, 3) := by decide +kernel
theorem dX10_prime_15 : decode cX10_prime 15 = .ok (.iconst 1, 1) := by decide +kernel
theorem dX10_prime_16 : decode cX10_prime 16 = .ok (.goto 4, 3) := by decide +kernel
theorem dX10_prime_19 : decode cX10_prime 19 = .ok (.iconst 0, 1) := by decide +kernel
theorem dX10_prime_20 : decode cX10_prime 20 = .ok (.invokevirtual 130, 3) := by decide +kernel
theorem dX10_prime_23 : decode cX10_prime 23 = .ok (.ireturn, 1) := by decide +kernel
def fp_X10_prime (v0 : Nat) (M : zM) : Option (Int32 × zM) :=
  zthis 8 M v0 (
    (zgI 8 M v0 1).bind fun (y1 : Int32) =>
    (zgI 8 M v0 2).bind fun (y2 : Int32) =>
    (fp_X6_isPrime y1 y2).bind fun (y3 : Int32) =>
    if y3 = 0 then (
      (fp_X10_answer v0 0 M).bind fun p6 => zpp p6 fun (y4 : Int32) (M5 : zM) =>
      some (y4, M5))
    else (
      (fp_X10_answer v0 1 M).bind fun p9 => zpp p9 fun (y7 : Int32) (M8 : zM) =>
      some (y7, M8)))
set_option maxHeartbeats 4000000 in
set_option maxRecDepth 100000 in
theorem th_X10_prime {v0 : Nat} {M : zM} {x0 : Int32 × zM} (h : fp_X10_prime v0 M = some x0) : v0 < zS M ∧ kd v0 = 8 := by
  unfold fp_X10_prime at h
  exact zthis_of h
set_option maxHeartbeats 4000000 in
set_option maxRecDepth 100000 in
theorem ct_X10_prime (E : zEnv) (hE : zEok E) (d : Nat) (hd : 6 ≤ d) (v0 : Nat) (M : zM) (x0 : Int32 × zM) (hx : fp_X10_prime v0 M = some x0) : zCt E mu_X10_prime d [.ref (E.2.2.2.1 + v0)] M (some (.int x0.1), x0.2) := by
  refine zCt_of (μ := mu_X10_prime) (t := fp_X10_prime v0 M) rfl rfl (Nat.le_of_ble_eq_true rfl) hx ?_
  change zSy E mu_X10_prime d M (some (.int x0.1), x0.2) x0 (fp_X10_prime v0 M) 0 [(0, .ref (E.2.2.2.1 + v0))] [] M
  unfold fp_X10_prime
  refine zs_this (fun hth => ?_)
  refine zs_aload_n dX10_prime_0 rfl 0 rfl ?_
  refine zs_aload_n dX10_prime_1 rfl 0 rfl ?_
  refine zs_getI dX10_prime_2 fl_X10_129 rfl (fun y1 => ?_)
  refine zs_aload_n dX10_prime_5 rfl 0 rfl ?_
  refine zs_getI dX10_prime_6 fl_X10_136 rfl (fun y2 => ?_)
  refine zs_invSPI (rest := [.ref (E.2.2.2.1 + v0)]) [.int y1, .int y2] dX10_prime_9 lk_X10_232 rfl (zd1 rfl hd) rfl (Nat.le_of_ble_eq_true rfl) (ct_X6_isPrime E hE _ (zdl rfl hd) _ _ _) (fun y3 => ?_)
  refine zs_if_eq dX10_prime_12 rfl ?_ ?_
  · refine zs_iconst (v := 0) dX10_prime_19 ciconst_0 ?_
    refine zs_invVWI (rest := []) [.int 0] dX10_prime_20 lk_X10_130 rfl (fun _ h => th_X10_answer h) (zd1 rfl hd) rfl (Nat.le_of_ble_eq_true rfl) (ct_X10_answer E hE _ (zdl rfl hd) _ _ _) (fun y4 M5 => ?_)
    exact zs_iretW dX10_prime_23 rfl
  refine zs_iconst (v := 1) dX10_prime_15 ciconst_1 ?_
  refine zs_goto dX10_prime_16 rfl ?_
  refine zs_invVWI (rest := []) [.int 1] dX10_prime_20 lk_X10_130 rfl (fun _ h => th_X10_answer h) (zd1 rfl hd) rfl (Nat.le_of_ble_eq_true rfl) (ct_X10_answer E hE _ (zdl rfl hd) _ _ _) (fun y7 M8 => ?_)
  exact zs_iretW dX10_prime_23 rfl
theorem dX10_piece_0 : decode cX10_piece 0 = .ok (.iload_n 1, 1) := by decide +kernel
theorem dX10_piece_1 : decode cX10_piece 1 = .ok (.ifCond .lt 12, 3) := by decide +kernel
theorem dX10_piece_4 : decode cX10_piece 4 = .ok (.iload_n 2, 1) := by decide +kernel
theorem dX10_piece_5 : decode cX10_piece 5 = .ok (.ifCond .lt 8, 3) := by decide +kernel
theorem dX10_piece_8 : decode cX10_piece 8 = .ok (.iload_n 2, 1) := by decide +kernel
theorem dX10_piece_9 : decode cX10_piece 9 = .ok (.iconst 2, 1) := by decide +kernel
theorem dX10_piece_10 : decode cX10_piece 10 = .ok (.if_icmp .le 9, 3) := by decide +kernel
theorem dX10_piece_13 : decode cX10_piece 13 = .ok (.aload_n 0, 1) := by decide +kernel
theorem dX10_piece_14 : decode cX10_piece 14 = .ok (.iconst 1, 1) := by decide +kernel
theorem dX10_piece_15 : decode cX10_piece 15 = .ok (.invokevirtual 102, 3) := by decide +kernel
theorem dX10_piece_18 : decode cX10_piece 18 = .ok (.ireturn, 1) := by decide +kernel
theorem dX10_piece_19 : decode cX10_piece 19 = .ok (.aload_n 0, 1) := by decide +kernel
theorem dX10_piece_20 : decode cX10_piece 20 = .ok (.getfield 50, 3) := by decide +kernel
theorem dX10_piece_23 : decode cX10_piece 23 = .ok (.aload_n 0, 1) := by decide +kernel
theorem dX10_piece_24 : decode cX10_piece 24 = .ok (.getfield 129, 3) := by decide +kernel
theorem dX10_piece_27 : decode cX10_piece 27 = .ok (.aload_n 0, 1) := by decide +kernel
theorem dX10_piece_28 : decode cX10_piece 28 = .ok (.getfield 136, 3) := by decide +kernel
theorem dX10_piece_31 : decode cX10_piece 31 = .ok (.invokevirtual 155, 3) := by decide +kernel
theorem dX10_piece_34 : decode cX10_piece 34 = .ok (.iload_n 1, 1) := by decide +kernel
theorem dX10_piece_35 : decode cX10_piece 35 = .ok (.aload_n 0, 1) := by decide +kernel
theorem dX10_piece_36 : decode cX10_piece 36 = .ok (.getfield 50, 3) := by decide +kernel
theorem dX10_piece_39 : decode cX10_piece 39 = .ok (.getfield 156, 3) := by decide +kernel
theorem dX10_piece_42 : decode cX10_piece 42 = .ok (.if_icmp .lt 10, 3) := by decide +kernel
theorem dX10_piece_45 : decode cX10_piece 45 = .ok (.aload_n 0, 1) := by decide +kernel
theorem dX10_piece_46 : decode cX10_piece 46 = .ok (.bipush 6, 2) := by decide +kernel
theorem dX10_piece_48 : decode cX10_piece 48 = .ok (.invokevirtual 102, 3) := by decide +kernel
theorem dX10_piece_51 : decode cX10_piece 51 = .ok (.ireturn, 1) := by decide +kernel
theorem dX10_piece_52 : decode cX10_piece 52 = .ok (.iload_n 2, 1) := by decide +kernel
theorem dX10_piece_53 : decode cX10_piece 53 = .ok (.ifCond .ne 16, 3) := by decide +kernel
theorem dX10_piece_56 : decode cX10_piece 56 = .ok (.aload_n 0, 1) := by decide +kernel
theorem dX10_piece_57 : decode cX10_piece 57 = .ok (.aload_n 0, 1) := by decide +kernel
theorem dX10_piece_58 : decode cX10_piece 58 = .ok (.getfield 50, 3) := by decide +kernel
theorem dX10_piece_61 : decode cX10_piece 61 = .ok (.iload_n 1, 1) := by decide +kernel
theorem dX10_piece_62 : decode cX10_piece 62 = .ok (.invokevirtual 235, 3) := by decide +kernel
theorem dX10_piece_65 : decode cX10_piece 65 = .ok (.invokevirtual 130, 3) := by decide +kernel
theorem dX10_piece_68 : decode cX10_piece 68 = .ok (.ireturn, 1) := by decide +kernel
theorem dX10_piece_69 : decode cX10_piece 69 = .ok (.aload_n 0, 1) := by decide +kernel
theorem dX10_piece_70 : decode cX10_piece 70 = .ok (.iload_n 2, 1) := by decide +kernel
theorem dX10_piece_71 : decode cX10_piece 71 = .ok (.iconst 1, 1) := by decide +kernel
theorem dX10_piece_72 : decode cX10_piece 72 = .ok (.if_icmp .ne 14, 3) := by decide +kernel
theorem dX10_piece_75 : decode cX10_piece 75 = .ok (.aload_n 0, 1) := by decide +kernel
theorem dX10_piece_76 : decode cX10_piece 76 = .ok (.getfield 50, 3) := by decide +kernel
theorem dX10_piece_79 : decode cX10_piece 79 = .ok (.iload_n 1, 1) := by decide +kernel
theorem dX10_piece_80 : decode cX10_piece 80 = .ok (.invokevirtual 238, 3) := by decide +kernel
theorem dX10_piece_83 : decode cX10_piece 83 = .ok (.goto 11, 3) := by decide +kernel
theorem dX10_piece_86 : decode cX10_piece 86 = .ok (.aload_n 0, 1) := by decide +kernel
theorem dX10_piece_87 : decode cX10_piece 87 = .ok (.getfield 50, 3) := by decide +kernel
theorem dX10_piece_90 : decode cX10_piece 90 = .ok (.iload_n 1, 1) := by decide +kernel
theorem dX10_piece_91 : decode cX10_piece 91 = .ok (.invokevirtual 241, 3) := by decide +kernel
theorem dX10_piece_94 : decode cX10_piece 94 = .ok (.invokevirtual 130, 3) := by decide +kernel
theorem dX10_piece_97 : decode cX10_piece 97 = .ok (.ireturn, 1) := by decide +kernel
def fp_X10_piece (v0 : Nat) (v1 : Int32) (v2 : Int32) (M : zM) : Option (Int32 × zM) :=
  zthis 8 M v0 (
    if v1 < 0 then (
      (fp_X10_refuse v0 1 M).bind fun p3 => zpp p3 fun (y1 : Int32) (M2 : zM) =>
      some (y1, M2))
    else (
      if v2 < 0 then (
        (fp_X10_refuse v0 1 M).bind fun p6 => zpp p6 fun (y4 : Int32) (M5 : zM) =>
        some (y4, M5))
      else (
        if v2 ≤ 2 then (
          (zgR 8 M v0 9).bind fun (y7 : Nat) =>
          (zgI 8 M v0 1).bind fun (y8 : Int32) =>
          (zgI 8 M v0 2).bind fun (y9 : Int32) =>
          (fp_X3_gather y7 y8 y9 M).bind fun (M10 : zM) =>
          (zgR 8 M10 v0 9).bind fun (y11 : Nat) =>
          (zgI 2 M10 y11 3).bind fun (y12 : Int32) =>
          if v1 < y12 then (
            if v2 ≠ 0 then (
              if v2 ≠ 1 then (
                (zgR 8 M10 v0 9).bind fun (y13 : Nat) =>
                (fp_X3_marksIn y13 v1 M10).bind fun (y14 : Int32) =>
                (fp_X10_answer v0 y14 M10).bind fun p17 => zpp p17 fun (y15 : Int32) (M16 : zM) =>
                some (y15, M16))
              else (
                (zgR 8 M10 v0 9).bind fun (y18 : Nat) =>
                (fp_X3_sizeOf y18 v1 M10).bind fun (y19 : Int32) =>
                (fp_X10_answer v0 y19 M10).bind fun p22 => zpp p22 fun (y20 : Int32) (M21 : zM) =>
                some (y20, M21)))
            else (
              (zgR 8 M10 v0 9).bind fun (y23 : Nat) =>
              (fp_X3_kindOf y23 v1 M10).bind fun (y24 : Int32) =>
              (fp_X10_answer v0 y24 M10).bind fun p27 => zpp p27 fun (y25 : Int32) (M26 : zM) =>
              some (y25, M26)))
          else (
            (fp_X10_refuse v0 6 M10).bind fun p30 => zpp p30 fun (y28 : Int32) (M29 : zM) =>
            some (y28, M29)))
        else (
          (fp_X10_refuse v0 1 M).bind fun p33 => zpp p33 fun (y31 : Int32) (M32 : zM) =>
          some (y31, M32)))))
set_option maxHeartbeats 4000000 in
set_option maxRecDepth 100000 in
theorem th_X10_piece {v0 : Nat} {v1 : Int32} {v2 : Int32} {M : zM} {x0 : Int32 × zM} (h : fp_X10_piece v0 v1 v2 M = some x0) : v0 < zS M ∧ kd v0 = 8 := by
  unfold fp_X10_piece at h
  exact zthis_of h
set_option maxHeartbeats 4000000 in
set_option maxRecDepth 100000 in
theorem ct_X10_piece (E : zEnv) (hE : zEok E) (d : Nat) (hd : 7 ≤ d) (v0 : Nat) (v1 : Int32) (v2 : Int32) (M : zM) (x0 : Int32 × zM) (hx : fp_X10_piece v0 v1 v2 M = some x0) : zCt E mu_X10_piece d [.ref (E.2.2.2.1 + v0), .int v1, .int v2] M (some (.int x0.1), x0.2) := by
  refine zCt_of (μ := mu_X10_piece) (t := fp_X10_piece v0 v1 v2 M) rfl rfl (Nat.le_of_ble_eq_true rfl) hx ?_
  change zSy E mu_X10_piece d M (some (.int x0.1), x0.2) x0 (fp_X10_piece v0 v1 v2 M) 0 [(0, .ref (E.2.2.2.1 + v0)), (1, .int v1), (2, .int v2)] [] M
  unfold fp_X10_piece
  refine zs_this (fun hth => ?_)
  refine zs_iload_n dX10_piece_0 rfl 1 rfl ?_
  refine zs_if_lt dX10_piece_1 rfl ?_ ?_
  · refine zs_aload_n dX10_piece_13 rfl 0 rfl ?_
    refine zs_iconst (v := 1) dX10_piece_14 ciconst_1 ?_
    refine zs_invVWI (rest := []) [.int 1] dX10_piece_15 lk_X10_102 rfl (fun _ h => th_X10_refuse h) (zd1 rfl hd) rfl (Nat.le_of_ble_eq_true rfl) (ct_X10_refuse E hE _ (zdl rfl hd) _ _ _) (fun y1 M2 => ?_)
    exact zs_iretW dX10_piece_18 rfl
  refine zs_iload_n dX10_piece_4 rfl 2 rfl ?_
  refine zs_if_lt dX10_piece_5 rfl ?_ ?_
  · refine zs_aload_n dX10_piece_13 rfl 0 rfl ?_
    refine zs_iconst (v := 1) dX10_piece_14 ciconst_1 ?_
    refine zs_invVWI (rest := []) [.int 1] dX10_piece_15 lk_X10_102 rfl (fun _ h => th_X10_refuse h) (zd1 rfl hd) rfl (Nat.le_of_ble_eq_true rfl) (ct_X10_refuse E hE _ (zdl rfl hd) _ _ _) (fun y4 M5 => ?_)
    exact zs_iretW dX10_piece_18 rfl
  refine zs_iload_n dX10_piece_8 rfl 2 rfl ?_
  refine zs_iconst (v := 2) dX10_piece_9 ciconst_2 ?_
  refine zs_icmp_le dX10_piece_10 rfl ?_ ?_
  · refine zs_aload_n dX10_piece_19 rfl 0 rfl ?_
    refine zs_getR dX10_piece_20 fl_X10_50 rfl (fun y7 => ?_)
    refine zs_aload_n dX10_piece_23 rfl 0 rfl ?_
    refine zs_getI dX10_piece_24 fl_X10_129 rfl (fun y8 => ?_)
    refine zs_aload_n dX10_piece_27 rfl 0 rfl ?_
    refine zs_getI dX10_piece_28 fl_X10_136 rfl (fun y9 => ?_)
    refine zs_invVWV (rest := []) [.int y8, .int y9] dX10_piece_31 lk_X10_155 rfl (fun _ h => th_X3_gather h) (zd1 rfl hd) rfl (Nat.le_of_ble_eq_true rfl) (ct_X3_gather E hE _ (zdl rfl hd) _ _ _ _) (fun M10 => ?_)
    refine zs_iload_n dX10_piece_34 rfl 1 rfl ?_
    refine zs_aload_n dX10_piece_35 rfl 0 rfl ?_
    refine zs_getR dX10_piece_36 fl_X10_50 rfl (fun y11 => ?_)
    refine zs_getI dX10_piece_39 fl_X10_156 rfl (fun y12 => ?_)
    refine zs_icmp_lt dX10_piece_42 rfl ?_ ?_
    · refine zs_iload_n dX10_piece_52 rfl 2 rfl ?_
      refine zs_if_ne dX10_piece_53 rfl ?_ ?_
      · refine zs_aload_n dX10_piece_69 rfl 0 rfl ?_
        refine zs_iload_n dX10_piece_70 rfl 2 rfl ?_
        refine zs_iconst (v := 1) dX10_piece_71 ciconst_1 ?_
        refine zs_icmp_ne dX10_piece_72 rfl ?_ ?_
        · refine zs_aload_n dX10_piece_86 rfl 0 rfl ?_
          refine zs_getR dX10_piece_87 fl_X10_50 rfl (fun y13 => ?_)
          refine zs_iload_n dX10_piece_90 rfl 1 rfl ?_
          refine zs_invVPI (rest := [.ref (E.2.2.2.1 + v0)]) [.int v1] dX10_piece_91 lk_X10_241 rfl (fun _ h => th_X3_marksIn h) (zd1 rfl hd) rfl (Nat.le_of_ble_eq_true rfl) (ct_X3_marksIn E hE _ (zdl rfl hd) _ _ _) (fun y14 => ?_)
          refine zs_invVWI (rest := []) [.int y14] dX10_piece_94 lk_X10_130 rfl (fun _ h => th_X10_answer h) (zd1 rfl hd) rfl (Nat.le_of_ble_eq_true rfl) (ct_X10_answer E hE _ (zdl rfl hd) _ _ _) (fun y15 M16 => ?_)
          exact zs_iretW dX10_piece_97 rfl
        refine zs_aload_n dX10_piece_75 rfl 0 rfl ?_
        refine zs_getR dX10_piece_76 fl_X10_50 rfl (fun y18 => ?_)
        refine zs_iload_n dX10_piece_79 rfl 1 rfl ?_
        refine zs_invVPI (rest := [.ref (E.2.2.2.1 + v0)]) [.int v1] dX10_piece_80 lk_X10_238 rfl (fun _ h => th_X3_sizeOf h) (zd1 rfl hd) rfl (Nat.le_of_ble_eq_true rfl) (ct_X3_sizeOf E hE _ (zdl rfl hd) _ _ _) (fun y19 => ?_)
        refine zs_goto dX10_piece_83 rfl ?_
        refine zs_invVWI (rest := []) [.int y19] dX10_piece_94 lk_X10_130 rfl (fun _ h => th_X10_answer h) (zd1 rfl hd) rfl (Nat.le_of_ble_eq_true rfl) (ct_X10_answer E hE _ (zdl rfl hd) _ _ _) (fun y20 M21 => ?_)
        exact zs_iretW dX10_piece_97 rfl
      refine zs_aload_n dX10_piece_56 rfl 0 rfl ?_
      refine zs_aload_n dX10_piece_57 rfl 0 rfl ?_
      refine zs_getR dX10_piece_58 fl_X10_50 rfl (fun y23 => ?_)
      refine zs_iload_n dX10_piece_61 rfl 1 rfl ?_
      refine zs_invVPI (rest := [.ref (E.2.2.2.1 + v0)]) [.int v1] dX10_piece_62 lk_X10_235 rfl (fun _ h => th_X3_kindOf h) (zd1 rfl hd) rfl (Nat.le_of_ble_eq_true rfl) (ct_X3_kindOf E hE _ (zdl rfl hd) _ _ _) (fun y24 => ?_)
      refine zs_invVWI (rest := []) [.int y24] dX10_piece_65 lk_X10_130 rfl (fun _ h => th_X10_answer h) (zd1 rfl hd) rfl (Nat.le_of_ble_eq_true rfl) (ct_X10_answer E hE _ (zdl rfl hd) _ _ _) (fun y25 M26 => ?_)
      exact zs_iretW dX10_piece_68 rfl
    refine zs_aload_n dX10_piece_45 rfl 0 rfl ?_
    refine zs_bipush (v := 6) dX10_piece_46 cbipush_6 ?_
    refine zs_invVWI (rest := []) [.int 6] dX10_piece_48 lk_X10_102 rfl (fun _ h => th_X10_refuse h) (zd1 rfl hd) rfl (Nat.le_of_ble_eq_true rfl) (ct_X10_refuse E hE _ (zdl rfl hd) _ _ _) (fun y28 M29 => ?_)
    exact zs_iretW dX10_piece_51 rfl
  refine zs_aload_n dX10_piece_13 rfl 0 rfl ?_
  refine zs_iconst (v := 1) dX10_piece_14 ciconst_1 ?_
  refine zs_invVWI (rest := []) [.int 1] dX10_piece_15 lk_X10_102 rfl (fun _ h => th_X10_refuse h) (zd1 rfl hd) rfl (Nat.le_of_ble_eq_true rfl) (ct_X10_refuse E hE _ (zdl rfl hd) _ _ _) (fun y31 M32 => ?_)
  exact zs_iretW dX10_piece_18 rfl
theorem dX10_badKnot_0 : decode cX10_badKnot 0 = .ok (.iload_n 1, 1) := by decide +kernel
theorem dX10_badKnot_1 : decode cX10_badKnot 1 = .ok (.ifCond .lt 7, 3) := by decide +kernel
theorem dX10_badKnot_4 : decode cX10_badKnot 4 = .ok (.iload_n 2, 1) := by decide +kernel
theorem dX10_badKnot_5 : decode cX10_badKnot 5 = .ok (.ifCond .ge 5, 3) := by decide +kernel
theorem dX10_badKnot_8 : decode cX10_badKnot 8 = .ok (.iconst 1, 1) := by decide +kernel
theorem dX10_badKnot_9 : decode cX10_badKnot 9 = .ok (.ireturn, 1) := by decide +kernel
theorem dX10_badKnot_10 : decode cX10_badKnot 10 = .ok (.aload_n 0, 1) := by decide +kernel
theorem dX10_badKnot_11 : decode cX10_badKnot 11 = .ok (.getfield 50, 3) := by decide +kernel
theorem dX10_badKnot_14 : decode cX10_badKnot 14 = .ok (.aload_n 0, 1) := by decide +kernel
theorem dX10_badKnot_15 : decode cX10_badKnot 15 = .ok (.getfield 129, 3) := by decide +kernel
theorem dX10_badKnot_18 : decode cX10_badKnot 18 = .ok (.aload_n 0, 1) := by decide +kernel
theorem dX10_badKnot_19 : decode cX10_badKnot 19 = .ok (.getfield 136, 3) := by decide +kernel
theorem dX10_badKnot_22 : decode cX10_badKnot 22 = .ok (.invokevirtual 155, 3) := by decide +kernel
theorem dX10_badKnot_25 : decode cX10_badKnot 25 = .ok (.iload_n 1, 1) := by decide +kernel
theorem dX10_badKnot_26 : decode cX10_badKnot 26 = .ok (.aload_n 0, 1) := by decide +kernel
theorem dX10_badKnot_27 : decode cX10_badKnot 27 = .ok (.getfield 50, 3) := by decide +kernel
theorem dX10_badKnot_30 : decode cX10_badKnot 30 = .ok (.getfield 156, 3) := by decide +kernel
theorem dX10_badKnot_33 : decode cX10_badKnot 33 = .ok (.if_icmp .ge 15, 3) := by decide +kernel
theorem dX10_badKnot_36 : decode cX10_badKnot 36 = .ok (.iload_n 2, 1) := by decide +kernel
theorem dX10_badKnot_37 : decode cX10_badKnot 37 = .ok (.aload_n 0, 1) := by decide +kernel
theorem dX10_badKnot_38 : decode cX10_badKnot 38 = .ok (.getfield 50, 3) := by decide +kernel
theorem dX10_badKnot_41 : decode cX10_badKnot 41 = .ok (.iload_n 1, 1) := by decide +kernel
theorem dX10_badKnot_42 : decode cX10_badKnot 42 = .ok (.invokevirtual 238, 3) := by decide +kernel
theorem dX10_badKnot_45 : decode cX10_badKnot 45 = .ok (.if_icmp .lt 8, 3) := by decide +kernel
theorem dX10_badKnot_48 : decode cX10_badKnot 48 = .ok (.bipush 6, 2) := by decide +kernel
theorem dX10_badKnot_50 : decode cX10_badKnot 50 = .ok (.goto 4, 3) := by decide +kernel
theorem dX10_badKnot_53 : decode cX10_badKnot 53 = .ok (.iconst 0, 1) := by decide +kernel
theorem dX10_badKnot_54 : decode cX10_badKnot 54 = .ok (.ireturn, 1) := by decide +kernel
def fp_X10_badKnot (v0 : Nat) (v1 : Int32) (v2 : Int32) (M : zM) : Option (Int32 × zM) :=
  zthis 8 M v0 (
    if v1 < 0 then (
      some (1, M))
    else (
      if v2 ≥ 0 then (
        (zgR 8 M v0 9).bind fun (y1 : Nat) =>
        (zgI 8 M v0 1).bind fun (y2 : Int32) =>
        (zgI 8 M v0 2).bind fun (y3 : Int32) =>
        (fp_X3_gather y1 y2 y3 M).bind fun (M4 : zM) =>
        (zgR 8 M4 v0 9).bind fun (y5 : Nat) =>
        (zgI 2 M4 y5 3).bind fun (y6 : Int32) =>
        zjn (
            some (6, M4))
          (fun j48 =>
            if v1 ≥ y6 then (
              j48)
            else (
              (zgR 8 M4 v0 9).bind fun (y7 : Nat) =>
              (fp_X3_sizeOf y7 v1 M4).bind fun (y8 : Int32) =>
              if v2 < y8 then (
                some (0, M4))
              else (
                j48))))
      else (
        some (1, M))))
set_option maxHeartbeats 4000000 in
set_option maxRecDepth 100000 in
theorem th_X10_badKnot {v0 : Nat} {v1 : Int32} {v2 : Int32} {M : zM} {x0 : Int32 × zM} (h : fp_X10_badKnot v0 v1 v2 M = some x0) : v0 < zS M ∧ kd v0 = 8 := by
  unfold fp_X10_badKnot at h
  exact zthis_of h
set_option maxHeartbeats 4000000 in
set_option maxRecDepth 100000 in
theorem ct_X10_badKnot (E : zEnv) (hE : zEok E) (d : Nat) (hd : 7 ≤ d) (v0 : Nat) (v1 : Int32) (v2 : Int32) (M : zM) (x0 : Int32 × zM) (hx : fp_X10_badKnot v0 v1 v2 M = some x0) : zCt E mu_X10_badKnot d [.ref (E.2.2.2.1 + v0), .int v1, .int v2] M (some (.int x0.1), x0.2) := by
  refine zCt_of (μ := mu_X10_badKnot) (t := fp_X10_badKnot v0 v1 v2 M) rfl rfl (Nat.le_of_ble_eq_true rfl) hx ?_
  change zSy E mu_X10_badKnot d M (some (.int x0.1), x0.2) x0 (fp_X10_badKnot v0 v1 v2 M) 0 [(0, .ref (E.2.2.2.1 + v0)), (1, .int v1), (2, .int v2)] [] M
  unfold fp_X10_badKnot
  refine zs_this (fun hth => ?_)
  refine zs_iload_n dX10_badKnot_0 rfl 1 rfl ?_
  refine zs_if_lt dX10_badKnot_1 rfl ?_ ?_
  · refine zs_iconst (v := 1) dX10_badKnot_8 ciconst_1 ?_
    exact zs_iretW dX10_badKnot_9 rfl
  refine zs_iload_n dX10_badKnot_4 rfl 2 rfl ?_
  refine zs_if_ge dX10_badKnot_5 rfl ?_ ?_
  · refine zs_aload_n dX10_badKnot_10 rfl 0 rfl ?_
    refine zs_getR dX10_badKnot_11 fl_X10_50 rfl (fun y1 => ?_)
    refine zs_aload_n dX10_badKnot_14 rfl 0 rfl ?_
    refine zs_getI dX10_badKnot_15 fl_X10_129 rfl (fun y2 => ?_)
    refine zs_aload_n dX10_badKnot_18 rfl 0 rfl ?_
    refine zs_getI dX10_badKnot_19 fl_X10_136 rfl (fun y3 => ?_)
    refine zs_invVWV (rest := []) [.int y2, .int y3] dX10_badKnot_22 lk_X10_155 rfl (fun _ h => th_X3_gather h) (zd1 rfl hd) rfl (Nat.le_of_ble_eq_true rfl) (ct_X3_gather E hE _ (zdl rfl hd) _ _ _ _) (fun M4 => ?_)
    refine zs_iload_n dX10_badKnot_25 rfl 1 rfl ?_
    refine zs_aload_n dX10_badKnot_26 rfl 0 rfl ?_
    refine zs_getR dX10_badKnot_27 fl_X10_50 rfl (fun y5 => ?_)
    refine zs_getI dX10_badKnot_30 fl_X10_156 rfl (fun y6 => ?_)
    refine zs_jn (fun j48 => zSy E mu_X10_badKnot d M (some (.int x0.1), x0.2) x0 (j48) 48 [] [] M4) ?_ (fun j48 hj48 => ?_)
    · refine zs_bipush (v := 6) dX10_badKnot_48 cbipush_6 ?_
      refine zs_goto dX10_badKnot_50 rfl ?_
      exact zs_iretW dX10_badKnot_54 rfl
    refine zs_icmp_ge dX10_badKnot_33 rfl ?_ ?_
    · refine zs_sub (loc' := []) [] rfl ?_
      exact hj48
    refine zs_iload_n dX10_badKnot_36 rfl 2 rfl ?_
    refine zs_aload_n dX10_badKnot_37 rfl 0 rfl ?_
    refine zs_getR dX10_badKnot_38 fl_X10_50 rfl (fun y7 => ?_)
    refine zs_iload_n dX10_badKnot_41 rfl 1 rfl ?_
    refine zs_invVPI (rest := [.int v2]) [.int v1] dX10_badKnot_42 lk_X10_238 rfl (fun _ h => th_X3_sizeOf h) (zd1 rfl hd) rfl (Nat.le_of_ble_eq_true rfl) (ct_X3_sizeOf E hE _ (zdl rfl hd) _ _ _) (fun y8 => ?_)
    refine zs_icmp_lt dX10_badKnot_45 rfl ?_ ?_
    · refine zs_iconst (v := 0) dX10_badKnot_53 ciconst_0 ?_
      exact zs_iretW dX10_badKnot_54 rfl
    refine zs_sub (loc' := []) [] rfl ?_
    exact hj48
  refine zs_iconst (v := 1) dX10_badKnot_8 ciconst_1 ?_
  exact zs_iretW dX10_badKnot_9 rfl
theorem dX10_knot_0 : decode cX10_knot 0 = .ok (.aload_n 0, 1) := by decide +kernel
theorem dX10_knot_1 : decode cX10_knot 1 = .ok (.iload_n 1, 1) := by decide +kernel
theorem dX10_knot_2 : decode cX10_knot 2 = .ok (.iload_n 2, 1) := by decide +kernel
theorem dX10_knot_3 : decode cX10_knot 3 = .ok (.invokevirtual 244, 3) := by decide +kernel
theorem dX10_knot_6 : decode cX10_knot 6 = .ok (.istore_n 3, 1) := by decide +kernel
theorem dX10_knot_7 : decode cX10_knot 7 = .ok (.iload_n 3, 1) := by decide +kernel
theorem dX10_knot_8 : decode cX10_knot 8 = .ok (.ifCond .eq 9, 3) := by decide +kernel
theorem dX10_knot_11 : decode cX10_knot 11 = .ok (.aload_n 0, 1) := by decide +kernel
theorem dX10_knot_12 : decode cX10_knot 12 = .ok (.iload_n 3, 1) := by decide +kernel
theorem dX10_knot_13 : decode cX10_knot 13 = .ok (.invokevirtual 102, 3) := by decide +kernel
theorem dX10_knot_16 : decode cX10_knot 16 = .ok (.ireturn, 1) := by decide +kernel
theorem dX10_knot_17 : decode cX10_knot 17 = .ok (.aload_n 0, 1) := by decide +kernel
theorem dX10_knot_18 : decode cX10_knot 18 = .ok (.aload_n 0, 1) := by decide +kernel
theorem dX10_knot_19 : decode cX10_knot 19 = .ok (.getfield 50, 3) := by decide +kernel
theorem dX10_knot_22 : decode cX10_knot 22 = .ok (.iload_n 1, 1) := by decide +kernel
theorem dX10_knot_23 : decode cX10_knot 23 = .ok (.iload_n 2, 1) := by decide +kernel
theorem dX10_knot_24 : decode cX10_knot 24 = .ok (.invokevirtual 247, 3) := by decide +kernel
theorem dX10_knot_27 : decode cX10_knot 27 = .ok (.invokevirtual 130, 3) := by decide +kernel
theorem dX10_knot_30 : decode cX10_knot 30 = .ok (.ireturn, 1) := by decide +kernel
def fp_X10_knot (v0 : Nat) (v1 : Int32) (v2 : Int32) (M : zM) : Option (Int32 × zM) :=
  zthis 8 M v0 (
    (fp_X10_badKnot v0 v1 v2 M).bind fun p3 => zpp p3 fun (y1 : Int32) (M2 : zM) =>
    if y1 = 0 then (
      (zgR 8 M2 v0 9).bind fun (y4 : Nat) =>
      (fp_X3_knotAt y4 v1 v2 M2).bind fun (y5 : Int32) =>
      (fp_X10_answer v0 y5 M2).bind fun p8 => zpp p8 fun (y6 : Int32) (M7 : zM) =>
      some (y6, M7))
    else (
      (fp_X10_refuse v0 y1 M2).bind fun p11 => zpp p11 fun (y9 : Int32) (M10 : zM) =>
      some (y9, M10)))
set_option maxHeartbeats 4000000 in
set_option maxRecDepth 100000 in
theorem th_X10_knot {v0 : Nat} {v1 : Int32} {v2 : Int32} {M : zM} {x0 : Int32 × zM} (h : fp_X10_knot v0 v1 v2 M = some x0) : v0 < zS M ∧ kd v0 = 8 := by
  unfold fp_X10_knot at h
  exact zthis_of h
set_option maxHeartbeats 4000000 in
set_option maxRecDepth 100000 in
theorem ct_X10_knot (E : zEnv) (hE : zEok E) (d : Nat) (hd : 8 ≤ d) (v0 : Nat) (v1 : Int32) (v2 : Int32) (M : zM) (x0 : Int32 × zM) (hx : fp_X10_knot v0 v1 v2 M = some x0) : zCt E mu_X10_knot d [.ref (E.2.2.2.1 + v0), .int v1, .int v2] M (some (.int x0.1), x0.2) := by
  refine zCt_of (μ := mu_X10_knot) (t := fp_X10_knot v0 v1 v2 M) rfl rfl (Nat.le_of_ble_eq_true rfl) hx ?_
  change zSy E mu_X10_knot d M (some (.int x0.1), x0.2) x0 (fp_X10_knot v0 v1 v2 M) 0 [(0, .ref (E.2.2.2.1 + v0)), (1, .int v1), (2, .int v2)] [] M
  unfold fp_X10_knot
  refine zs_this (fun hth => ?_)
  refine zs_aload_n dX10_knot_0 rfl 0 rfl ?_
  refine zs_iload_n dX10_knot_1 rfl 1 rfl ?_
  refine zs_iload_n dX10_knot_2 rfl 2 rfl ?_
  refine zs_invVWI (rest := []) [.int v1, .int v2] dX10_knot_3 lk_X10_244 rfl (fun _ h => th_X10_badKnot h) (zd1 rfl hd) rfl (Nat.le_of_ble_eq_true rfl) (ct_X10_badKnot E hE _ (zdl rfl hd) _ _ _ _) (fun y1 M2 => ?_)
  refine zs_istore_n (loc' := [(0, .ref (E.2.2.2.1 + v0)), (1, .int v1), (2, .int v2), (3, .int y1)]) dX10_knot_6 rfl (Nat.le_of_ble_eq_true rfl) [1, 2, 3, 0] rfl ?_
  refine zs_iload_n dX10_knot_7 rfl 3 rfl ?_
  refine zs_if_eq dX10_knot_8 rfl ?_ ?_
  · refine zs_aload_n dX10_knot_17 rfl 0 rfl ?_
    refine zs_aload_n dX10_knot_18 rfl 0 rfl ?_
    refine zs_getR dX10_knot_19 fl_X10_50 rfl (fun y4 => ?_)
    refine zs_iload_n dX10_knot_22 rfl 1 rfl ?_
    refine zs_iload_n dX10_knot_23 rfl 2 rfl ?_
    refine zs_invVPI (rest := [.ref (E.2.2.2.1 + v0)]) [.int v1, .int v2] dX10_knot_24 lk_X10_247 rfl (fun _ h => th_X3_knotAt h) (zd1 rfl hd) rfl (Nat.le_of_ble_eq_true rfl) (ct_X3_knotAt E hE _ (zdl rfl hd) _ _ _ _) (fun y5 => ?_)
    refine zs_invVWI (rest := []) [.int y5] dX10_knot_27 lk_X10_130 rfl (fun _ h => th_X10_answer h) (zd1 rfl hd) rfl (Nat.le_of_ble_eq_true rfl) (ct_X10_answer E hE _ (zdl rfl hd) _ _ _) (fun y6 M7 => ?_)
    exact zs_iretW dX10_knot_30 rfl
  refine zs_aload_n dX10_knot_11 rfl 0 rfl ?_
  refine zs_iload_n dX10_knot_12 rfl 3 rfl ?_
  refine zs_invVWI (rest := []) [.int y1] dX10_knot_13 lk_X10_102 rfl (fun _ h => th_X10_refuse h) (zd1 rfl hd) rfl (Nat.le_of_ble_eq_true rfl) (ct_X10_refuse E hE _ (zdl rfl hd) _ _ _) (fun y9 M10 => ?_)
  exact zs_iretW dX10_knot_16 rfl

theorem dX11_twins_0 : decode cX11_twins 0 = .ok (.iload_n 1, 1) := by decide +kernel
theorem dX11_twins_1 : decode cX11_twins 1 = .ok (.iconst 0, 1) := by decide +kernel
theorem dX11_twins_2 : decode cX11_twins 2 = .ok (.iconst 3, 1) := by decide +kernel
theorem dX11_twins_3 : decode cX11_twins 3 = .ok (.invokestatic 195, 3) := by decide +kernel
theorem dX11_twins_6 : decode cX11_twins 6 = .ok (.ifCond .ne 9, 3) := by decide +kernel
theorem dX11_twins_9 : decode cX11_twins 9 = .ok (.aload_n 0, 1) := by decide +kernel
theorem dX11_twins_10 : decode cX11_twins 10 = .ok (.iconst 1, 1) := by decide +kernel
theorem dX11_twins_11 : decode cX11_twins 11 = .ok (.invokevirtual 226, 3) := by decide +kernel
theorem dX11_twins_14 : decode cX11_twins 14 = .ok (.ireturn, 1) := by decide +kernel
theorem dX11_twins_15 : decode cX11_twins 15 = .ok (.iconst 0, 1) := by decide +kernel
theorem dX11_twins_16 : decode cX11_twins 16 = .ok (.istore_n 2, 1) := by decide +kernel
theorem dX11_twins_17 : decode cX11_twins 17 = .ok (.iconst 0, 1) := by decide +kernel
theorem dX11_twins_18 : decode cX11_twins 18 = .ok (.istore_n 3, 1) := by decide +kernel
theorem dX11_twins_19 : decode cX11_twins 19 = .ok (.iload_n 3, 1) := by decide +kernel
theorem dX11_twins_20 : decode cX11_twins 20 = .ok (.aload_n 0, 1) := by decide +kernel
theorem dX11_twins_21 : decode cX11_twins 21 = .ok (.getfield 101, 3) := by decide +kernel
theorem dX11_twins_24 : decode cX11_twins 24 = .ok (.if_icmp .ge 128, 3) := by decide +kernel
theorem dX11_twins_27 : decode cX11_twins 27 = .ok (.iload_n 2, 1) := by decide +kernel
theorem dX11_twins_28 : decode cX11_twins 28 = .ok (.iload_n 1, 1) := by decide +kernel
theorem dX11_twins_29 : decode cX11_twins 29 = .ok (.iconst 2, 1) := by decide +kernel
theorem dX11_twins_30 : decode cX11_twins 30 = .ok (.if_icmp .ne 20, 3) := by decide +kernel
theorem dX11_twins_33 : decode cX11_twins 33 = .ok (.aload_n 0, 1) := by decide +kernel
theorem dX11_twins_34 : decode cX11_twins 34 = .ok (.getfield 7, 3) := by decide +kernel
theorem dX11_twins_37 : decode cX11_twins 37 = .ok (.iload_n 3, 1) := by decide +kernel
theorem dX11_twins_38 : decode cX11_twins 38 = .ok (.iaload, 1) := by decide +kernel
theorem dX11_twins_39 : decode cX11_twins 39 = .ok (.invokestatic 122, 3) := by decide +kernel
theorem dX11_twins_42 : decode cX11_twins 42 = .ok (.iconst 1, 1) := by decide +kernel
theorem dX11_twins_43 : decode cX11_twins 43 = .ok (.if_icmp .ne 7, 3) := by decide +kernel
theorem dX11_twins_46 : decode cX11_twins 46 = .ok (.iconst 1, 1) := by decide +kernel
theorem dX11_twins_47 : decode cX11_twins 47 = .ok (.goto 4, 3) := by decide +kernel
theorem dX11_twins_50 : decode cX11_twins 50 = .ok (.iconst 0, 1) := by decide +kernel
theorem dX11_twins_51 : decode cX11_twins 51 = .ok (.iadd, 1) := by decide +kernel
theorem dX11_twins_52 : decode cX11_twins 52 = .ok (.istore_n 2, 1) := by decide +kernel
theorem dX11_twins_53 : decode cX11_twins 53 = .ok (.iload_n 3, 1) := by decide +kernel
theorem dX11_twins_54 : decode cX11_twins 54 = .ok (.iconst 1, 1) := by decide +kernel
theorem dX11_twins_55 : decode cX11_twins 55 = .ok (.iadd, 1) := by decide +kernel
theorem dX11_twins_56 : decode cX11_twins 56 = .ok (.istore 4, 2) := by decide +kernel
theorem dX11_twins_58 : decode cX11_twins 58 = .ok (.iload 4, 2) := by decide +kernel
theorem dX11_twins_60 : decode cX11_twins 60 = .ok (.aload_n 0, 1) := by decide +kernel
theorem dX11_twins_61 : decode cX11_twins 61 = .ok (.getfield 101, 3) := by decide +kernel
theorem dX11_twins_64 : decode cX11_twins 64 = .ok (.if_icmp .ge 82, 3) := by decide +kernel
theorem dX11_twins_67 : decode cX11_twins 67 = .ok (.iload_n 1, 1) := by decide +kernel
theorem dX11_twins_68 : decode cX11_twins 68 = .ok (.iconst 2, 1) := by decide +kernel
theorem dX11_twins_69 : decode cX11_twins 69 = .ok (.if_icmp .ge 77, 3) := by decide +kernel
theorem dX11_twins_72 : decode cX11_twins 72 = .ok (.iconst 1, 1) := by decide +kernel
theorem dX11_twins_73 : decode cX11_twins 73 = .ok (.iload_n 3, 1) := by decide +kernel
theorem dX11_twins_74 : decode cX11_twins 74 = .ok (.ishl, 1) := by decide +kernel
theorem dX11_twins_75 : decode cX11_twins 75 = .ok (.iconst 1, 1) := by decide +kernel
theorem dX11_twins_76 : decode cX11_twins 76 = .ok (.iload 4, 2) := by decide +kernel
theorem dX11_twins_78 : decode cX11_twins 78 = .ok (.ishl, 1) := by decide +kernel
theorem dX11_twins_79 : decode cX11_twins 79 = .ok (.ior, 1) := by decide +kernel
theorem dX11_twins_80 : decode cX11_twins 80 = .ok (.istore 5, 2) := by decide +kernel
theorem dX11_twins_82 : decode cX11_twins 82 = .ok (.iload_n 2, 1) := by decide +kernel
theorem dX11_twins_83 : decode cX11_twins 83 = .ok (.aload_n 0, 1) := by decide +kernel
theorem dX11_twins_84 : decode cX11_twins 84 = .ok (.getfield 7, 3) := by decide +kernel
theorem dX11_twins_87 : decode cX11_twins 87 = .ok (.iload_n 3, 1) := by decide +kernel
theorem dX11_twins_88 : decode cX11_twins 88 = .ok (.iaload, 1) := by decide +kernel
theorem dX11_twins_89 : decode cX11_twins 89 = .ok (.iload 5, 2) := by decide +kernel
theorem dX11_twins_91 : decode cX11_twins 91 = .ok (.iconst (-1), 1) := by decide +kernel
theorem dX11_twins_92 : decode cX11_twins 92 = .ok (.ixor, 1) := by decide +kernel
theorem dX11_twins_93 : decode cX11_twins 93 = .ok (.iand, 1) := by decide +kernel
theorem dX11_twins_94 : decode cX11_twins 94 = .ok (.aload_n 0, 1) := by decide +kernel
theorem dX11_twins_95 : decode cX11_twins 95 = .ok (.getfield 7, 3) := by decide +kernel
theorem dX11_twins_98 : decode cX11_twins 98 = .ok (.iload 4, 2) := by decide +kernel
theorem dX11_twins_100 : decode cX11_twins 100 = .ok (.iaload, 1) := by decide +kernel
theorem dX11_twins_101 : decode cX11_twins 101 = .ok (.iload 5, 2) := by decide +kernel
theorem dX11_twins_103 : decode cX11_twins 103 = .ok (.iconst (-1), 1) := by decide +kernel
theorem dX11_twins_104 : decode cX11_twins 104 = .ok (.ixor, 1) := by decide +kernel
theorem dX11_twins_105 : decode cX11_twins 105 = .ok (.iand, 1) := by decide +kernel
theorem dX11_twins_106 : decode cX11_twins 106 = .ok (.if_icmp .ne 31, 3) := by decide +kernel
theorem dX11_twins_109 : decode cX11_twins 109 = .ok (.aload_n 0, 1) := by decide +kernel
theorem dX11_twins_110 : decode cX11_twins 110 = .ok (.getfield 7, 3) := by decide +kernel
theorem dX11_twins_113 : decode cX11_twins 113 = .ok (.iload_n 3, 1) := by decide +kernel
theorem dX11_twins_114 : decode cX11_twins 114 = .ok (.iaload, 1) := by decide +kernel
theorem dX11_twins_115 : decode cX11_twins 115 = .ok (.iload 4, 2) := by decide +kernel
theorem dX11_twins_117 : decode cX11_twins 117 = .ok (.invokestatic 97, 3) := by decide +kernel
theorem dX11_twins_120 : decode cX11_twins 120 = .ok (.iload_n 1, 1) := by decide +kernel
theorem dX11_twins_121 : decode cX11_twins 121 = .ok (.iconst 1, 1) := by decide +kernel
theorem dX11_twins_122 : decode cX11_twins 122 = .ok (.if_icmp .ne 7, 3) := by decide +kernel
theorem dX11_twins_125 : decode cX11_twins 125 = .ok (.iconst 1, 1) := by decide +kernel
theorem dX11_twins_126 : decode cX11_twins 126 = .ok (.goto 4, 3) := by decide +kernel
theorem dX11_twins_129 : decode cX11_twins 129 = .ok (.iconst 0, 1) := by decide +kernel
theorem dX11_twins_130 : decode cX11_twins 130 = .ok (.if_icmp .ne 7, 3) := by decide +kernel
theorem dX11_twins_133 : decode cX11_twins 133 = .ok (.iconst 1, 1) := by decide +kernel
theorem dX11_twins_134 : decode cX11_twins 134 = .ok (.goto 4, 3) := by decide +kernel
theorem dX11_twins_137 : decode cX11_twins 137 = .ok (.iconst 0, 1) := by decide +kernel
theorem dX11_twins_138 : decode cX11_twins 138 = .ok (.iadd, 1) := by decide +kernel
theorem dX11_twins_139 : decode cX11_twins 139 = .ok (.istore_n 2, 1) := by decide +kernel
theorem dX11_twins_140 : decode cX11_twins 140 = .ok (.iinc 4 1, 3) := by decide +kernel
theorem dX11_twins_143 : decode cX11_twins 143 = .ok (.goto (-85), 3) := by decide +kernel
theorem dX11_twins_146 : decode cX11_twins 146 = .ok (.iinc 3 1, 3) := by decide +kernel
theorem dX11_twins_149 : decode cX11_twins 149 = .ok (.goto (-130), 3) := by decide +kernel
theorem dX11_twins_152 : decode cX11_twins 152 = .ok (.iload_n 1, 1) := by decide +kernel
theorem dX11_twins_153 : decode cX11_twins 153 = .ok (.iconst 3, 1) := by decide +kernel
theorem dX11_twins_154 : decode cX11_twins 154 = .ok (.if_icmp .ne 18, 3) := by decide +kernel
theorem dX11_twins_157 : decode cX11_twins 157 = .ok (.aload_n 0, 1) := by decide +kernel
theorem dX11_twins_158 : decode cX11_twins 158 = .ok (.invokevirtual 251, 3) := by decide +kernel
theorem dX11_twins_161 : decode cX11_twins 161 = .ok (.ifCond .eq 11, 3) := by decide +kernel
theorem dX11_twins_164 : decode cX11_twins 164 = .ok (.aload_n 0, 1) := by decide +kernel
theorem dX11_twins_165 : decode cX11_twins 165 = .ok (.iconst (-1), 1) := by decide +kernel
theorem dX11_twins_166 : decode cX11_twins 166 = .ok (.invokevirtual 254, 3) := by decide +kernel
theorem dX11_twins_169 : decode cX11_twins 169 = .ok (.goto 4, 3) := by decide +kernel
theorem dX11_twins_172 : decode cX11_twins 172 = .ok (.iconst 0, 1) := by decide +kernel
theorem dX11_twins_173 : decode cX11_twins 173 = .ok (.istore_n 3, 1) := by decide +kernel
theorem dX11_twins_174 : decode cX11_twins 174 = .ok (.iconst 0, 1) := by decide +kernel
theorem dX11_twins_175 : decode cX11_twins 175 = .ok (.istore 4, 2) := by decide +kernel
theorem dX11_twins_177 : decode cX11_twins 177 = .ok (.iload 4, 2) := by decide +kernel
theorem dX11_twins_179 : decode cX11_twins 179 = .ok (.iload_n 3, 1) := by decide +kernel
theorem dX11_twins_180 : decode cX11_twins 180 = .ok (.if_icmp .ge 35, 3) := by decide +kernel
theorem dX11_twins_183 : decode cX11_twins 183 = .ok (.aload_n 0, 1) := by decide +kernel
theorem dX11_twins_184 : decode cX11_twins 184 = .ok (.iload 4, 2) := by decide +kernel
theorem dX11_twins_186 : decode cX11_twins 186 = .ok (.invokevirtual 254, 3) := by decide +kernel
theorem dX11_twins_189 : decode cX11_twins 189 = .ok (.pop, 1) := by decide +kernel
theorem dX11_twins_190 : decode cX11_twins 190 = .ok (.iload_n 2, 1) := by decide +kernel
theorem dX11_twins_191 : decode cX11_twins 191 = .ok (.aload_n 0, 1) := by decide +kernel
theorem dX11_twins_192 : decode cX11_twins 192 = .ok (.aload_n 0, 1) := by decide +kernel
theorem dX11_twins_193 : decode cX11_twins 193 = .ok (.getfield 294, 3) := by decide +kernel
theorem dX11_twins_196 : decode cX11_twins 196 = .ok (.invokevirtual 303, 3) := by decide +kernel
theorem dX11_twins_199 : decode cX11_twins 199 = .ok (.ifCond .eq 7, 3) := by decide +kernel
theorem dX11_twins_202 : decode cX11_twins 202 = .ok (.iconst 1, 1) := by decide +kernel
theorem dX11_twins_203 : decode cX11_twins 203 = .ok (.goto 4, 3) := by decide +kernel
theorem dX11_twins_206 : decode cX11_twins 206 = .ok (.iconst 0, 1) := by decide +kernel
theorem dX11_twins_207 : decode cX11_twins 207 = .ok (.iadd, 1) := by decide +kernel
theorem dX11_twins_208 : decode cX11_twins 208 = .ok (.istore_n 2, 1) := by decide +kernel
theorem dX11_twins_209 : decode cX11_twins 209 = .ok (.iinc 4 1, 3) := by decide +kernel
theorem dX11_twins_212 : decode cX11_twins 212 = .ok (.goto (-35), 3) := by decide +kernel
theorem dX11_twins_215 : decode cX11_twins 215 = .ok (.aload_n 0, 1) := by decide +kernel
theorem dX11_twins_216 : decode cX11_twins 216 = .ok (.iload_n 2, 1) := by decide +kernel
theorem dX11_twins_217 : decode cX11_twins 217 = .ok (.invokevirtual 242, 3) := by decide +kernel
theorem dX11_twins_220 : decode cX11_twins 220 = .ok (.ireturn, 1) := by decide +kernel
def fp_X11_twins_L58 (k146 : Int32 → Option (Int32 × zM)) (v0 : Nat) (v1 : Int32) (v3 : Int32) (M : zM) : Nat → Int32 → Int32 → Option (Int32 × zM)
  | 0, _, _ => none
  | n + 1, v2, v4 =>
    (zgI 9 M v0 0).bind fun (y7 : Int32) =>
    if v4 ≥ y7 then (
      k146 v2)
    else (
      if v1 ≥ 2 then (
        k146 v2)
      else (
        lett (((1 <<< (v3 &&& 31)) ||| (1 <<< (v4 &&& 31)))) fun (v5_8 : Int32) =>
        (zgR 9 M v0 2).bind fun (y9 : Nat) =>
        (zlI 100 M y9 v3).bind fun (y10 : Int32) =>
        (zgR 9 M v0 2).bind fun (y11 : Nat) =>
        (zlI 100 M y11 v4).bind fun (y12 : Int32) =>
        zjn (fun (s13 : Int32) (s14 : Int32) =>
            lett ((s14 + s13)) fun (v2_15 : Int32) =>
            fp_X11_twins_L58 k146 v0 v1 v3 M n v2_15 (v4 + 1))
          (fun j138 =>
            zjn (fun (s16 : Int32) =>
                j138 0 s16)
              (fun j137 =>
                if (y10 &&& (v5_8 ^^^ (-1))) ≠ (y12 &&& (v5_8 ^^^ (-1))) then (
                  j137 v2)
                else (
                  (zgR 9 M v0 2).bind fun (y17 : Nat) =>
                  (zlI 100 M y17 v3).bind fun (y18 : Int32) =>
                  (fp_X11_has y18 v4).bind fun (y19 : Int32) =>
                  zjn (fun (s20 : Int32) (s21 : Int32) (s22 : Int32) =>
                      if s21 ≠ s20 then (
                        j137 s22)
                      else (
                        j138 1 s22))
                    (fun j130 =>
                      if v1 ≠ 1 then (
                        j130 0 y19 v2)
                      else (
                        j130 1 y19 v2)))))))
def fp_X11_twins_L19 (k152 : Int32 → Option (Int32 × zM)) (v0 : Nat) (v1 : Int32) (M : zM) : Nat → Int32 → Int32 → Option (Int32 × zM)
  | 0, _, _ => none
  | n + 1, v2, v3 =>
    (zgI 9 M v0 0).bind fun (y2 : Int32) =>
    if v3 ≥ y2 then (
      k152 v2)
    else (
      zjn (fun (s3 : Int32) (s4 : Int32) =>
          lett ((s4 + s3)) fun (v2_5 : Int32) =>
          lett ((v3 + 1)) fun (v4_6 : Int32) =>
          fp_X11_twins_L58
            (fun v2_23 =>
              fp_X11_twins_L19 k152 v0 v1 M n v2_23 (v3 + 1)) v0 v1 v3 M FU v2_5 v4_6)
        (fun j51 =>
          zjn (fun (s24 : Int32) =>
              j51 0 s24)
            (fun j50 =>
              if v1 ≠ 2 then (
                j50 v2)
              else (
                (zgR 9 M v0 2).bind fun (y25 : Nat) =>
                (zlI 100 M y25 v3).bind fun (y26 : Int32) =>
                (fp_X11_bits y26).bind fun (y27 : Int32) =>
                if y27 ≠ 1 then (
                  j50 v2)
                else (
                  j51 1 v2)))))
def fp_X11_twins_L177 (v0 : Nat) (v3 : Int32) : Nat → Int32 → Int32 → zM → Option (Int32 × zM)
  | 0, _, _, _ => none
  | n + 1, v2, v4, M =>
    if v4 ≥ v3 then (
      (fp_X11_gives v0 v2 M).bind fun p33 => zpp p33 fun (y31 : Int32) (M32 : zM) =>
      some (y31, M32))
    else (
      (fp_X11_splits v0 v4 M).bind fun p36 => zpp p36 fun (y34 : Int32) (M35 : zM) =>
      (zgI 9 M35 v0 22).bind fun (y37 : Int32) =>
      (fp_X11_isStrong v0 y37 M35).bind fun p40 => zpp p40 fun (y38 : Int32) (M39 : zM) =>
      zjn (fun (s41 : Int32) (s42 : Int32) =>
          lett ((s42 + s41)) fun (v2_43 : Int32) =>
          fp_X11_twins_L177 v0 v3 n v2_43 (v4 + 1) M39)
        (fun j207 =>
          if y38 = 0 then (
            j207 0 v2)
          else (
            j207 1 v2)))
def fp_X11_twins (v0 : Nat) (v1 : Int32) (M : zM) : Option (Int32 × zM) :=
  zthis 9 M v0 (
    (fp_X11_isFrom v1 0 3).bind fun (y1 : Int32) =>
    if y1 ≠ 0 then (
      fp_X11_twins_L19
        (fun v2_28 =>
          zjn (fun (s29 : Int32) (M30 : zM) =>
              fp_X11_twins_L177 v0 s29 FU v2_28 0 M30)
            (fun j173 =>
              zjn (
                  j173 0 M)
                (fun j172 =>
                  if v1 ≠ 3 then (
                    j172)
                  else (
                    (fp_X11_areJoined v0 M).bind fun (y44 : Int32) =>
                    if y44 = 0 then (
                      j172)
                    else (
                      (fp_X11_splits v0 (-1) M).bind fun p47 => zpp p47 fun (y45 : Int32) (M46 : zM) =>
                      j173 y45 M46))))) v0 v1 M FU 0 0)
    else (
      (fp_X11_refuse v0 1 M).bind fun p50 => zpp p50 fun (y48 : Int32) (M49 : zM) =>
      some (y48, M49)))
set_option maxHeartbeats 4000000 in
set_option maxRecDepth 100000 in
theorem th_X11_twins {v0 : Nat} {v1 : Int32} {M : zM} {x0 : Int32 × zM} (h : fp_X11_twins v0 v1 M = some x0) : v0 < zS M ∧ kd v0 = 9 := by
  unfold fp_X11_twins at h
  exact zthis_of h
set_option maxHeartbeats 4000000 in
set_option maxRecDepth 100000 in
theorem w_X11_twins_L58 (E : zEnv) (hE : zEok E) (d : Nat) (hd : 5 ≤ d) (M0 : zM) (x0 : Int32 × zM) (v0 : Nat) (v1 : Int32) (v3 : Int32) (M : zM) (k146 : Int32 → Option (Int32 × zM)) (hk146 : ∀ (v2 : Int32), zSy E mu_X11_twins d M0 (some (.int x0.1), x0.2) x0 (k146 v2) 146 [(0, .ref (E.2.2.2.1 + v0)), (1, .int v1), (2, .int v2), (3, .int v3)] [] M) : ∀ (n : Nat) (v2 : Int32) (v4 : Int32), zSy E mu_X11_twins d M0 (some (.int x0.1), x0.2) x0 (fp_X11_twins_L58 k146 v0 v1 v3 M n v2 v4) 58 [(0, .ref (E.2.2.2.1 + v0)), (1, .int v1), (2, .int v2), (3, .int v3), (4, .int v4)] [] M := by
  intro n
  induction n with
  | zero =>
    intro v2 v4
    rw [fp_X11_twins_L58]
    exact zs_none
  | succ n ih =>
    intro v2 v4
    rw [fp_X11_twins_L58]
    refine zs_iload dX11_twins_58 4 rfl ?_
    refine zs_aload_n dX11_twins_60 rfl 0 rfl ?_
    refine zs_getI dX11_twins_61 fl_X11_101 rfl (fun y7 => ?_)
    refine zs_icmp_ge dX11_twins_64 rfl ?_ ?_
    · refine zs_sub (loc' := [(0, .ref (E.2.2.2.1 + v0)), (1, .int v1), (2, .int v2), (3, .int v3)]) [0, 1, 2, 3] rfl ?_
      exact hk146 v2
    refine zs_iload_n dX11_twins_67 rfl 1 rfl ?_
    refine zs_iconst (v := 2) dX11_twins_68 ciconst_2 ?_
    refine zs_icmp_ge dX11_twins_69 rfl ?_ ?_
    · refine zs_sub (loc' := [(0, .ref (E.2.2.2.1 + v0)), (1, .int v1), (2, .int v2), (3, .int v3)]) [0, 1, 2, 3] rfl ?_
      exact hk146 v2
    refine zs_iconst (v := 1) dX11_twins_72 ciconst_1 ?_
    refine zs_iload_n dX11_twins_73 rfl 3 rfl ?_
    refine zs_ishl dX11_twins_74 ?_
    refine zs_iconst (v := 1) dX11_twins_75 ciconst_1 ?_
    refine zs_iload dX11_twins_76 4 rfl ?_
    refine zs_ishl dX11_twins_78 ?_
    refine zs_ior dX11_twins_79 ?_
    refine zs_istoreL (loc' := fun v5_8 => [(0, .ref (E.2.2.2.1 + v0)), (1, .int v1), (2, .int v2), (3, .int v3), (4, .int v4), (5, .int v5_8)]) dX11_twins_80 (Nat.le_of_ble_eq_true rfl) [1, 2, 3, 4, 5, 0] (fun _ => rfl) (fun v5_8 => ?_)
    refine zs_iload_n dX11_twins_82 rfl 2 rfl ?_
    refine zs_aload_n dX11_twins_83 rfl 0 rfl ?_
    refine zs_getR dX11_twins_84 fl_X11_7 rfl (fun y9 => ?_)
    refine zs_iload_n dX11_twins_87 rfl 3 rfl ?_
    refine zs_ldI dX11_twins_88 (fun y10 => ?_)
    refine zs_iload dX11_twins_89 5 rfl ?_
    refine zs_iconst (v := (-1)) dX11_twins_91 ciconst_m1 ?_
    refine zs_ixor dX11_twins_92 ?_
    refine zs_iand dX11_twins_93 ?_
    refine zs_aload_n dX11_twins_94 rfl 0 rfl ?_
    refine zs_getR dX11_twins_95 fl_X11_7 rfl (fun y11 => ?_)
    refine zs_iload dX11_twins_98 4 rfl ?_
    refine zs_ldI dX11_twins_100 (fun y12 => ?_)
    refine zs_iload dX11_twins_101 5 rfl ?_
    refine zs_iconst (v := (-1)) dX11_twins_103 ciconst_m1 ?_
    refine zs_ixor dX11_twins_104 ?_
    refine zs_iand dX11_twins_105 ?_
    refine zs_jn (fun j138 => ∀ (s13 : Int32) (s14 : Int32), zSy E mu_X11_twins d M0 (some (.int x0.1), x0.2) x0 (j138 s13 s14) 138 [(0, .ref (E.2.2.2.1 + v0)), (1, .int v1), (3, .int v3), (4, .int v4)] [.int s13, .int s14] M) (fun s13 s14 => ?_) (fun j138 hj138 => ?_)
    · refine zs_iadd dX11_twins_138 ?_
      refine zs_istore_nL (loc' := fun v2_15 => [(0, .ref (E.2.2.2.1 + v0)), (1, .int v1), (2, .int v2_15), (3, .int v3), (4, .int v4)]) dX11_twins_139 rfl (Nat.le_of_ble_eq_true rfl) [1, 2, 0, 3, 4] (fun _ => rfl) (fun v2_15 => ?_)
      refine zs_iinc (v := (v4 + 1)) (loc' := [(0, .ref (E.2.2.2.1 + v0)), (1, .int v1), (2, .int v2_15), (3, .int v3), (4, .int (v4 + 1))]) dX11_twins_140 4 rfl (by rfl) (Nat.le_of_ble_eq_true rfl) [1, 2, 3, 4, 0] rfl ?_
      refine zs_goto dX11_twins_143 rfl ?_
      exact ih v2_15 (v4 + 1)
    refine zs_jn (fun j137 => ∀ (s16 : Int32), zSy E mu_X11_twins d M0 (some (.int x0.1), x0.2) x0 (j137 s16) 137 [(0, .ref (E.2.2.2.1 + v0)), (1, .int v1), (3, .int v3), (4, .int v4)] [.int s16] M) (fun s16 => ?_) (fun j137 hj137 => ?_)
    · refine zs_iconst (v := 0) dX11_twins_137 ciconst_0 ?_
      exact hj138 0 s16
    refine zs_icmp_ne dX11_twins_106 rfl ?_ ?_
    · refine zs_sub (loc' := [(0, .ref (E.2.2.2.1 + v0)), (1, .int v1), (3, .int v3), (4, .int v4)]) [0, 1, 3, 4] rfl ?_
      exact hj137 v2
    refine zs_aload_n dX11_twins_109 rfl 0 rfl ?_
    refine zs_getR dX11_twins_110 fl_X11_7 rfl (fun y17 => ?_)
    refine zs_iload_n dX11_twins_113 rfl 3 rfl ?_
    refine zs_ldI dX11_twins_114 (fun y18 => ?_)
    refine zs_iload dX11_twins_115 4 rfl ?_
    refine zs_invSPI (rest := [.int v2]) [.int y18, .int v4] dX11_twins_117 lk_X11_97 rfl (zd1 rfl hd) rfl (Nat.le_of_ble_eq_true rfl) (ct_X11_has E hE _ (zdl rfl hd) _ _ _) (fun y19 => ?_)
    refine zs_iload_n dX11_twins_120 rfl 1 rfl ?_
    refine zs_iconst (v := 1) dX11_twins_121 ciconst_1 ?_
    refine zs_jn (fun j130 => ∀ (s20 : Int32) (s21 : Int32) (s22 : Int32), zSy E mu_X11_twins d M0 (some (.int x0.1), x0.2) x0 (j130 s20 s21 s22) 130 [(0, .ref (E.2.2.2.1 + v0)), (1, .int v1), (3, .int v3), (4, .int v4)] [.int s20, .int s21, .int s22] M) (fun s20 s21 s22 => ?_) (fun j130 hj130 => ?_)
    · refine zs_icmp_ne dX11_twins_130 rfl ?_ ?_
      · exact hj137 s22
      refine zs_iconst (v := 1) dX11_twins_133 ciconst_1 ?_
      refine zs_goto dX11_twins_134 rfl ?_
      exact hj138 1 s22
    refine zs_icmp_ne dX11_twins_122 rfl ?_ ?_
    · refine zs_iconst (v := 0) dX11_twins_129 ciconst_0 ?_
      refine zs_sub (loc' := [(0, .ref (E.2.2.2.1 + v0)), (1, .int v1), (3, .int v3), (4, .int v4)]) [0, 1, 3, 4] rfl ?_
      exact hj130 0 y19 v2
    refine zs_iconst (v := 1) dX11_twins_125 ciconst_1 ?_
    refine zs_goto dX11_twins_126 rfl ?_
    refine zs_sub (loc' := [(0, .ref (E.2.2.2.1 + v0)), (1, .int v1), (3, .int v3), (4, .int v4)]) [0, 1, 3, 4] rfl ?_
    exact hj130 1 y19 v2
set_option maxHeartbeats 4000000 in
set_option maxRecDepth 100000 in
theorem w_X11_twins_L19 (E : zEnv) (hE : zEok E) (d : Nat) (hd : 5 ≤ d) (M0 : zM) (x0 : Int32 × zM) (v0 : Nat) (v1 : Int32) (M : zM) (k152 : Int32 → Option (Int32 × zM)) (hk152 : ∀ (v2 : Int32), zSy E mu_X11_twins d M0 (some (.int x0.1), x0.2) x0 (k152 v2) 152 [(0, .ref (E.2.2.2.1 + v0)), (1, .int v1), (2, .int v2)] [] M) : ∀ (n : Nat) (v2 : Int32) (v3 : Int32), zSy E mu_X11_twins d M0 (some (.int x0.1), x0.2) x0 (fp_X11_twins_L19 k152 v0 v1 M n v2 v3) 19 [(0, .ref (E.2.2.2.1 + v0)), (1, .int v1), (2, .int v2), (3, .int v3)] [] M := by
  intro n
  induction n with
  | zero =>
    intro v2 v3
    rw [fp_X11_twins_L19]
    exact zs_none
  | succ n ih =>
    intro v2 v3
    rw [fp_X11_twins_L19]
    refine zs_iload_n dX11_twins_19 rfl 3 rfl ?_
    refine zs_aload_n dX11_twins_20 rfl 0 rfl ?_
    refine zs_getI dX11_twins_21 fl_X11_101 rfl (fun y2 => ?_)
    refine zs_icmp_ge dX11_twins_24 rfl ?_ ?_
    · refine zs_sub (loc' := [(0, .ref (E.2.2.2.1 + v0)), (1, .int v1), (2, .int v2)]) [0, 1, 2] rfl ?_
      exact hk152 v2
    refine zs_iload_n dX11_twins_27 rfl 2 rfl ?_
    refine zs_iload_n dX11_twins_28 rfl 1 rfl ?_
    refine zs_iconst (v := 2) dX11_twins_29 ciconst_2 ?_
    refine zs_jn (fun j51 => ∀ (s3 : Int32) (s4 : Int32), zSy E mu_X11_twins d M0 (some (.int x0.1), x0.2) x0 (j51 s3 s4) 51 [(0, .ref (E.2.2.2.1 + v0)), (1, .int v1), (3, .int v3)] [.int s3, .int s4] M) (fun s3 s4 => ?_) (fun j51 hj51 => ?_)
    · refine zs_iadd dX11_twins_51 ?_
      refine zs_istore_nL (loc' := fun v2_5 => [(0, .ref (E.2.2.2.1 + v0)), (1, .int v1), (2, .int v2_5), (3, .int v3)]) dX11_twins_52 rfl (Nat.le_of_ble_eq_true rfl) [1, 2, 0, 3] (fun _ => rfl) (fun v2_5 => ?_)
      refine zs_iload_n dX11_twins_53 rfl 3 rfl ?_
      refine zs_iconst (v := 1) dX11_twins_54 ciconst_1 ?_
      refine zs_iadd dX11_twins_55 ?_
      refine zs_istoreL (loc' := fun v4_6 => [(0, .ref (E.2.2.2.1 + v0)), (1, .int v1), (2, .int v2_5), (3, .int v3), (4, .int v4_6)]) dX11_twins_56 (Nat.le_of_ble_eq_true rfl) [1, 2, 3, 4, 0] (fun _ => rfl) (fun v4_6 => ?_)
      refine w_X11_twins_L58 E hE d hd _ _ _ _ _ _ _ (fun v2_23 => ?_) _ _ _
      refine zs_iinc (v := (v3 + 1)) (loc' := [(0, .ref (E.2.2.2.1 + v0)), (1, .int v1), (2, .int v2_23), (3, .int (v3 + 1))]) dX11_twins_146 3 rfl (by rfl) (Nat.le_of_ble_eq_true rfl) [1, 2, 3, 0] rfl ?_
      refine zs_goto dX11_twins_149 rfl ?_
      exact ih v2_23 (v3 + 1)
    refine zs_jn (fun j50 => ∀ (s24 : Int32), zSy E mu_X11_twins d M0 (some (.int x0.1), x0.2) x0 (j50 s24) 50 [(0, .ref (E.2.2.2.1 + v0)), (1, .int v1), (3, .int v3)] [.int s24] M) (fun s24 => ?_) (fun j50 hj50 => ?_)
    · refine zs_iconst (v := 0) dX11_twins_50 ciconst_0 ?_
      exact hj51 0 s24
    refine zs_icmp_ne dX11_twins_30 rfl ?_ ?_
    · refine zs_sub (loc' := [(0, .ref (E.2.2.2.1 + v0)), (1, .int v1), (3, .int v3)]) [0, 1, 3] rfl ?_
      exact hj50 v2
    refine zs_aload_n dX11_twins_33 rfl 0 rfl ?_
    refine zs_getR dX11_twins_34 fl_X11_7 rfl (fun y25 => ?_)
    refine zs_iload_n dX11_twins_37 rfl 3 rfl ?_
    refine zs_ldI dX11_twins_38 (fun y26 => ?_)
    refine zs_invSPI (rest := [.int v2]) [.int y26] dX11_twins_39 lk_X11_122 rfl (zd1 rfl hd) rfl (Nat.le_of_ble_eq_true rfl) (ct_X11_bits E hE _ (zdl rfl hd) _ _) (fun y27 => ?_)
    refine zs_iconst (v := 1) dX11_twins_42 ciconst_1 ?_
    refine zs_icmp_ne dX11_twins_43 rfl ?_ ?_
    · refine zs_sub (loc' := [(0, .ref (E.2.2.2.1 + v0)), (1, .int v1), (3, .int v3)]) [0, 1, 3] rfl ?_
      exact hj50 v2
    refine zs_iconst (v := 1) dX11_twins_46 ciconst_1 ?_
    refine zs_goto dX11_twins_47 rfl ?_
    refine zs_sub (loc' := [(0, .ref (E.2.2.2.1 + v0)), (1, .int v1), (3, .int v3)]) [0, 1, 3] rfl ?_
    exact hj51 1 v2
set_option maxHeartbeats 4000000 in
set_option maxRecDepth 100000 in
theorem w_X11_twins_L177 (E : zEnv) (hE : zEok E) (d : Nat) (hd : 5 ≤ d) (M0 : zM) (x0 : Int32 × zM) (v0 : Nat) (v3 : Int32)  : ∀ (n : Nat) (v2 : Int32) (v4 : Int32) (M : zM), zSy E mu_X11_twins d M0 (some (.int x0.1), x0.2) x0 (fp_X11_twins_L177 v0 v3 n v2 v4 M) 177 [(0, .ref (E.2.2.2.1 + v0)), (2, .int v2), (3, .int v3), (4, .int v4)] [] M := by
  intro n
  induction n with
  | zero =>
    intro v2 v4 M
    rw [fp_X11_twins_L177]
    exact zs_none
  | succ n ih =>
    intro v2 v4 M
    rw [fp_X11_twins_L177]
    refine zs_iload dX11_twins_177 3 rfl ?_
    refine zs_iload_n dX11_twins_179 rfl 2 rfl ?_
    refine zs_icmp_ge dX11_twins_180 rfl ?_ ?_
    · refine zs_aload_n dX11_twins_215 rfl 0 rfl ?_
      refine zs_iload_n dX11_twins_216 rfl 1 rfl ?_
      refine zs_invVWI (rest := []) [.int v2] dX11_twins_217 lk_X11_242 rfl (fun _ h => th_X11_gives h) (zd1 rfl hd) rfl (Nat.le_of_ble_eq_true rfl) (ct_X11_gives E hE _ (zdl rfl hd) _ _ _) (fun y31 M32 => ?_)
      exact zs_iretW dX11_twins_220 rfl
    refine zs_aload_n dX11_twins_183 rfl 0 rfl ?_
    refine zs_iload dX11_twins_184 3 rfl ?_
    refine zs_invVWI (rest := []) [.int v4] dX11_twins_186 lk_X11_254 rfl (fun _ h => th_X11_splits h) (zd1 rfl hd) rfl (Nat.le_of_ble_eq_true rfl) (ct_X11_splits E hE _ (zdl rfl hd) _ _ _) (fun y34 M35 => ?_)
    refine zs_pop dX11_twins_189 rfl ?_
    refine zs_iload_n dX11_twins_190 rfl 1 rfl ?_
    refine zs_aload_n dX11_twins_191 rfl 0 rfl ?_
    refine zs_aload_n dX11_twins_192 rfl 0 rfl ?_
    refine zs_getI dX11_twins_193 fl_X11_294 rfl (fun y37 => ?_)
    refine zs_invVWI (rest := [.int v2]) [.int y37] dX11_twins_196 lk_X11_303 rfl (fun _ h => th_X11_isStrong h) (zd1 rfl hd) rfl (Nat.le_of_ble_eq_true rfl) (ct_X11_isStrong E hE _ (zdl rfl hd) _ _ _) (fun y38 M39 => ?_)
    refine zs_jn (fun j207 => ∀ (s41 : Int32) (s42 : Int32), zSy E mu_X11_twins d M0 (some (.int x0.1), x0.2) x0 (j207 s41 s42) 207 [(0, .ref (E.2.2.2.1 + v0)), (3, .int v3), (4, .int v4)] [.int s41, .int s42] M39) (fun s41 s42 => ?_) (fun j207 hj207 => ?_)
    · refine zs_iadd dX11_twins_207 ?_
      refine zs_istore_nL (loc' := fun v2_43 => [(0, .ref (E.2.2.2.1 + v0)), (2, .int v2_43), (3, .int v3), (4, .int v4)]) dX11_twins_208 rfl (Nat.le_of_ble_eq_true rfl) [1, 0, 2, 3] (fun _ => rfl) (fun v2_43 => ?_)
      refine zs_iinc (v := (v4 + 1)) (loc' := [(0, .ref (E.2.2.2.1 + v0)), (2, .int v2_43), (3, .int v3), (4, .int (v4 + 1))]) dX11_twins_209 3 rfl (by rfl) (Nat.le_of_ble_eq_true rfl) [1, 2, 3, 0] rfl ?_
      refine zs_goto dX11_twins_212 rfl ?_
      exact ih v2_43 (v4 + 1) M39
    refine zs_if_eq dX11_twins_199 rfl ?_ ?_
    · refine zs_iconst (v := 0) dX11_twins_206 ciconst_0 ?_
      refine zs_sub (loc' := [(0, .ref (E.2.2.2.1 + v0)), (3, .int v3), (4, .int v4)]) [0, 2, 3] rfl ?_
      exact hj207 0 v2
    refine zs_iconst (v := 1) dX11_twins_202 ciconst_1 ?_
    refine zs_goto dX11_twins_203 rfl ?_
    refine zs_sub (loc' := [(0, .ref (E.2.2.2.1 + v0)), (3, .int v3), (4, .int v4)]) [0, 2, 3] rfl ?_
    exact hj207 1 v2
set_option maxHeartbeats 4000000 in
set_option maxRecDepth 100000 in
theorem ct_X11_twins (E : zEnv) (hE : zEok E) (d : Nat) (hd : 5 ≤ d) (v0 : Nat) (v1 : Int32) (M : zM) (x0 : Int32 × zM) (hx : fp_X11_twins v0 v1 M = some x0) : zCt E mu_X11_twins d [.ref (E.2.2.2.1 + v0), .int v1] M (some (.int x0.1), x0.2) := by
  refine zCt_of (μ := mu_X11_twins) (t := fp_X11_twins v0 v1 M) rfl rfl (Nat.le_of_ble_eq_true rfl) hx ?_
  change zSy E mu_X11_twins d M (some (.int x0.1), x0.2) x0 (fp_X11_twins v0 v1 M) 0 [(0, .ref (E.2.2.2.1 + v0)), (1, .int v1)] [] M
  unfold fp_X11_twins
  refine zs_this (fun hth => ?_)
  refine zs_iload_n dX11_twins_0 rfl 1 rfl ?_
  refine zs_iconst (v := 0) dX11_twins_1 ciconst_0 ?_
  refine zs_iconst (v := 3) dX11_twins_2 ciconst_3 ?_
  refine zs_invSPI (rest := []) [.int v1, .int 0, .int 3] dX11_twins_3 lk_X11_195 rfl (zd1 rfl hd) rfl (Nat.le_of_ble_eq_true rfl) (ct_X11_isFrom E hE _ (zdl rfl hd) _ _ _ _) (fun y1 => ?_)
  refine zs_if_ne dX11_twins_6 rfl ?_ ?_
  · refine zs_iconst (v := 0) dX11_twins_15 ciconst_0 ?_
    refine zs_istore_n (loc' := [(0, .ref (E.2.2.2.1 + v0)), (1, .int v1), (2, .int 0)]) dX11_twins_16 rfl (Nat.le_of_ble_eq_true rfl) [1, 2, 0] rfl ?_
    refine zs_iconst (v := 0) dX11_twins_17 ciconst_0 ?_
    refine zs_istore_n (loc' := [(0, .ref (E.2.2.2.1 + v0)), (1, .int v1), (2, .int 0), (3, .int 0)]) dX11_twins_18 rfl (Nat.le_of_ble_eq_true rfl) [1, 2, 3, 0] rfl ?_
    refine w_X11_twins_L19 E hE d hd _ _ _ _ _ _ (fun v2_28 => ?_) _ _ _
    refine zs_iload_n dX11_twins_152 rfl 1 rfl ?_
    refine zs_iconst (v := 3) dX11_twins_153 ciconst_3 ?_
    refine zs_jn (fun j173 => ∀ (s29 : Int32) (M30 : zM), zSy E mu_X11_twins d M (some (.int x0.1), x0.2) x0 (j173 s29 M30) 173 [(0, .ref (E.2.2.2.1 + v0)), (2, .int v2_28)] [.int s29] M30) (fun s29 M30 => ?_) (fun j173 hj173 => ?_)
    · refine zs_istore_n (loc' := [(0, .ref (E.2.2.2.1 + v0)), (2, .int v2_28), (3, .int s29)]) dX11_twins_173 rfl (Nat.le_of_ble_eq_true rfl) [1, 2, 0] rfl ?_
      refine zs_iconst (v := 0) dX11_twins_174 ciconst_0 ?_
      refine zs_istore (loc' := [(0, .ref (E.2.2.2.1 + v0)), (2, .int v2_28), (3, .int s29), (4, .int 0)]) dX11_twins_175 (Nat.le_of_ble_eq_true rfl) [1, 2, 3, 0] rfl ?_
      exact w_X11_twins_L177 E hE d hd _ _ _ _ _ _ _ _
    refine zs_jn (fun j172 => zSy E mu_X11_twins d M (some (.int x0.1), x0.2) x0 (j172) 172 [(0, .ref (E.2.2.2.1 + v0)), (2, .int v2_28)] [] M) ?_ (fun j172 hj172 => ?_)
    · refine zs_iconst (v := 0) dX11_twins_172 ciconst_0 ?_
      exact hj173 0 M
    refine zs_icmp_ne dX11_twins_154 rfl ?_ ?_
    · refine zs_sub (loc' := [(0, .ref (E.2.2.2.1 + v0)), (2, .int v2_28)]) [0, 2] rfl ?_
      exact hj172
    refine zs_aload_n dX11_twins_157 rfl 0 rfl ?_
    refine zs_invVPI (rest := []) [] dX11_twins_158 lk_X11_251 rfl (fun _ h => th_X11_areJoined h) (zd1 rfl hd) rfl (Nat.le_of_ble_eq_true rfl) (ct_X11_areJoined E hE _ (zdl rfl hd) _ _) (fun y44 => ?_)
    refine zs_if_eq dX11_twins_161 rfl ?_ ?_
    · refine zs_sub (loc' := [(0, .ref (E.2.2.2.1 + v0)), (2, .int v2_28)]) [0, 2] rfl ?_
      exact hj172
    refine zs_aload_n dX11_twins_164 rfl 0 rfl ?_
    refine zs_iconst (v := (-1)) dX11_twins_165 ciconst_m1 ?_
    refine zs_invVWI (rest := []) [.int (-1)] dX11_twins_166 lk_X11_254 rfl (fun _ h => th_X11_splits h) (zd1 rfl hd) rfl (Nat.le_of_ble_eq_true rfl) (ct_X11_splits E hE _ (zdl rfl hd) _ _ _) (fun y45 M46 => ?_)
    refine zs_goto dX11_twins_169 rfl ?_
    refine zs_sub (loc' := [(0, .ref (E.2.2.2.1 + v0)), (2, .int v2_28)]) [0, 2] rfl ?_
    exact hj173 y45 M46
  refine zs_aload_n dX11_twins_9 rfl 0 rfl ?_
  refine zs_iconst (v := 1) dX11_twins_10 ciconst_1 ?_
  refine zs_invVWI (rest := []) [.int 1] dX11_twins_11 lk_X11_226 rfl (fun _ h => th_X11_refuse h) (zd1 rfl hd) rfl (Nat.le_of_ble_eq_true rfl) (ct_X11_refuse E hE _ (zdl rfl hd) _ _ _) (fun y48 M49 => ?_)
  exact zs_iretW dX11_twins_14 rfl
theorem dX11_areAllNear_0 : decode cX11_areAllNear 0 = .ok (.iconst 0, 1) := by decide +kernel
theorem dX11_areAllNear_1 : decode cX11_areAllNear 1 = .ok (.istore_n 3, 1) := by decide +kernel
theorem dX11_areAllNear_2 : decode cX11_areAllNear 2 = .ok (.iload_n 3, 1) := by decide +kernel
theorem dX11_areAllNear_3 : decode cX11_areAllNear 3 = .ok (.aload_n 0, 1) := by decide +kernel
theorem dX11_areAllNear_4 : decode cX11_areAllNear 4 = .ok (.getfield 101, 3) := by decide +kernel
theorem dX11_areAllNear_7 : decode cX11_areAllNear 7 = .ok (.if_icmp .ge 45, 3) := by decide +kernel
theorem dX11_areAllNear_10 : decode cX11_areAllNear 10 = .ok (.iload_n 1, 1) := by decide +kernel
theorem dX11_areAllNear_11 : decode cX11_areAllNear 11 = .ok (.iload_n 3, 1) := by decide +kernel
theorem dX11_areAllNear_12 : decode cX11_areAllNear 12 = .ok (.invokestatic 97, 3) := by decide +kernel
theorem dX11_areAllNear_15 : decode cX11_areAllNear 15 = .ok (.ifCond .eq 31, 3) := by decide +kernel
theorem dX11_areAllNear_18 : decode cX11_areAllNear 18 = .ok (.aload_n 0, 1) := by decide +kernel
theorem dX11_areAllNear_19 : decode cX11_areAllNear 19 = .ok (.getfield 7, 3) := by decide +kernel
theorem dX11_areAllNear_22 : decode cX11_areAllNear 22 = .ok (.iload_n 3, 1) := by decide +kernel
theorem dX11_areAllNear_23 : decode cX11_areAllNear 23 = .ok (.iaload, 1) := by decide +kernel
theorem dX11_areAllNear_24 : decode cX11_areAllNear 24 = .ok (.iload_n 1, 1) := by decide +kernel
theorem dX11_areAllNear_25 : decode cX11_areAllNear 25 = .ok (.iand, 1) := by decide +kernel
theorem dX11_areAllNear_26 : decode cX11_areAllNear 26 = .ok (.iload_n 2, 1) := by decide +kernel
theorem dX11_areAllNear_27 : decode cX11_areAllNear 27 = .ok (.ifCond .eq 13, 3) := by decide +kernel
theorem dX11_areAllNear_30 : decode cX11_areAllNear 30 = .ok (.iload_n 1, 1) := by decide +kernel
theorem dX11_areAllNear_31 : decode cX11_areAllNear 31 = .ok (.iconst 1, 1) := by decide +kernel
theorem dX11_areAllNear_32 : decode cX11_areAllNear 32 = .ok (.iload_n 3, 1) := by decide +kernel
theorem dX11_areAllNear_33 : decode cX11_areAllNear 33 = .ok (.ishl, 1) := by decide +kernel
theorem dX11_areAllNear_34 : decode cX11_areAllNear 34 = .ok (.iconst (-1), 1) := by decide +kernel
theorem dX11_areAllNear_35 : decode cX11_areAllNear 35 = .ok (.ixor, 1) := by decide +kernel
theorem dX11_areAllNear_36 : decode cX11_areAllNear 36 = .ok (.iand, 1) := by decide +kernel
theorem dX11_areAllNear_37 : decode cX11_areAllNear 37 = .ok (.goto 4, 3) := by decide +kernel
theorem dX11_areAllNear_40 : decode cX11_areAllNear 40 = .ok (.iconst 0, 1) := by decide +kernel
theorem dX11_areAllNear_41 : decode cX11_areAllNear 41 = .ok (.if_icmp .eq 5, 3) := by decide +kernel
theorem dX11_areAllNear_44 : decode cX11_areAllNear 44 = .ok (.iconst 0, 1) := by decide +kernel
theorem dX11_areAllNear_45 : decode cX11_areAllNear 45 = .ok (.ireturn, 1) := by decide +kernel
theorem dX11_areAllNear_46 : decode cX11_areAllNear 46 = .ok (.iinc 3 1, 3) := by decide +kernel
theorem dX11_areAllNear_49 : decode cX11_areAllNear 49 = .ok (.goto (-47), 3) := by decide +kernel
theorem dX11_areAllNear_52 : decode cX11_areAllNear 52 = .ok (.iconst 1, 1) := by decide +kernel
theorem dX11_areAllNear_53 : decode cX11_areAllNear 53 = .ok (.ireturn, 1) := by decide +kernel
def fp_X11_areAllNear_L2 (v0 : Nat) (v1 : Int32) (v2 : Int32) (M : zM) : Nat → Int32 → Option (Int32)
  | 0, _ => none
  | n + 1, v3 =>
    (zgI 9 M v0 0).bind fun (y1 : Int32) =>
    if v3 ≥ y1 then (
      some 1)
    else (
      (fp_X11_has v1 v3).bind fun (y2 : Int32) =>
      zjn (
          fp_X11_areAllNear_L2 v0 v1 v2 M n (v3 + 1))
        (fun j46 =>
          if y2 = 0 then (
            j46)
          else (
            (zgR 9 M v0 2).bind fun (y3 : Nat) =>
            (zlI 100 M y3 v3).bind fun (y4 : Int32) =>
            zjn (fun (s5 : Int32) (s6 : Int32) =>
                if s6 = s5 then (
                  j46)
                else (
                  some 0))
              (fun j41 =>
                if v2 = 0 then (
                  j41 0 (y4 &&& v1))
                else (
                  j41 (v1 &&& ((1 <<< (v3 &&& 31)) ^^^ (-1))) (y4 &&& v1))))))
def fp_X11_areAllNear (v0 : Nat) (v1 : Int32) (v2 : Int32) (M : zM) : Option (Int32) :=
  zthis 9 M v0 (
    fp_X11_areAllNear_L2 v0 v1 v2 M FU 0)
set_option maxHeartbeats 4000000 in
set_option maxRecDepth 100000 in
theorem th_X11_areAllNear {v0 : Nat} {v1 : Int32} {v2 : Int32} {M : zM} {x0 : Int32} (h : fp_X11_areAllNear v0 v1 v2 M = some x0) : v0 < zS M ∧ kd v0 = 9 := by
  unfold fp_X11_areAllNear at h
  exact zthis_of h
set_option maxHeartbeats 4000000 in
set_option maxRecDepth 100000 in
theorem w_X11_areAllNear_L2 (E : zEnv) (hE : zEok E) (d : Nat) (hd : 2 ≤ d) (x0 : Int32) (v0 : Nat) (v1 : Int32) (v2 : Int32) (M : zM)  : ∀ (n : Nat) (v3 : Int32), zSy E mu_X11_areAllNear d M (some (.int x0), M) x0 (fp_X11_areAllNear_L2 v0 v1 v2 M n v3) 2 [(0, .ref (E.2.2.2.1 + v0)), (1, .int v1), (2, .int v2), (3, .int v3)] [] M := by
  intro n
  induction n with
  | zero =>
    intro v3
    rw [fp_X11_areAllNear_L2]
    exact zs_none
  | succ n ih =>
    intro v3
    rw [fp_X11_areAllNear_L2]
    refine zs_iload_n dX11_areAllNear_2 rfl 3 rfl ?_
    refine zs_aload_n dX11_areAllNear_3 rfl 0 rfl ?_
    refine zs_getI dX11_areAllNear_4 fl_X11_101 rfl (fun y1 => ?_)
    refine zs_icmp_ge dX11_areAllNear_7 rfl ?_ ?_
    · refine zs_iconst (v := 1) dX11_areAllNear_52 ciconst_1 ?_
      exact zs_iretP dX11_areAllNear_53 rfl
    refine zs_iload_n dX11_areAllNear_10 rfl 1 rfl ?_
    refine zs_iload_n dX11_areAllNear_11 rfl 3 rfl ?_
    refine zs_invSPI (rest := []) [.int v1, .int v3] dX11_areAllNear_12 lk_X11_97 rfl (zd1 rfl hd) rfl (Nat.le_of_ble_eq_true rfl) (ct_X11_has E hE _ (zdl rfl hd) _ _ _) (fun y2 => ?_)
    refine zs_jn (fun j46 => zSy E mu_X11_areAllNear d M (some (.int x0), M) x0 (j46) 46 [(0, .ref (E.2.2.2.1 + v0)), (1, .int v1), (2, .int v2), (3, .int v3)] [] M) ?_ (fun j46 hj46 => ?_)
    · refine zs_iinc (v := (v3 + 1)) (loc' := [(0, .ref (E.2.2.2.1 + v0)), (1, .int v1), (2, .int v2), (3, .int (v3 + 1))]) dX11_areAllNear_46 3 rfl (by rfl) (Nat.le_of_ble_eq_true rfl) [1, 2, 3, 0] rfl ?_
      refine zs_goto dX11_areAllNear_49 rfl ?_
      exact ih (v3 + 1)
    refine zs_if_eq dX11_areAllNear_15 rfl ?_ ?_
    · exact hj46
    refine zs_aload_n dX11_areAllNear_18 rfl 0 rfl ?_
    refine zs_getR dX11_areAllNear_19 fl_X11_7 rfl (fun y3 => ?_)
    refine zs_iload_n dX11_areAllNear_22 rfl 3 rfl ?_
    refine zs_ldI dX11_areAllNear_23 (fun y4 => ?_)
    refine zs_iload_n dX11_areAllNear_24 rfl 1 rfl ?_
    refine zs_iand dX11_areAllNear_25 ?_
    refine zs_iload_n dX11_areAllNear_26 rfl 2 rfl ?_
    refine zs_jn (fun j41 => ∀ (s5 : Int32) (s6 : Int32), zSy E mu_X11_areAllNear d M (some (.int x0), M) x0 (j41 s5 s6) 41 [(0, .ref (E.2.2.2.1 + v0)), (1, .int v1), (2, .int v2), (3, .int v3)] [.int s5, .int s6] M) (fun s5 s6 => ?_) (fun j41 hj41 => ?_)
    · refine zs_icmp_eq dX11_areAllNear_41 rfl ?_ ?_
      · exact hj46
      refine zs_iconst (v := 0) dX11_areAllNear_44 ciconst_0 ?_
      exact zs_iretP dX11_areAllNear_45 rfl
    refine zs_if_eq dX11_areAllNear_27 rfl ?_ ?_
    · refine zs_iconst (v := 0) dX11_areAllNear_40 ciconst_0 ?_
      exact hj41 0 (y4 &&& v1)
    refine zs_iload_n dX11_areAllNear_30 rfl 1 rfl ?_
    refine zs_iconst (v := 1) dX11_areAllNear_31 ciconst_1 ?_
    refine zs_iload_n dX11_areAllNear_32 rfl 3 rfl ?_
    refine zs_ishl dX11_areAllNear_33 ?_
    refine zs_iconst (v := (-1)) dX11_areAllNear_34 ciconst_m1 ?_
    refine zs_ixor dX11_areAllNear_35 ?_
    refine zs_iand dX11_areAllNear_36 ?_
    refine zs_goto dX11_areAllNear_37 rfl ?_
    exact hj41 (v1 &&& ((1 <<< (v3 &&& 31)) ^^^ (-1))) (y4 &&& v1)
set_option maxHeartbeats 4000000 in
set_option maxRecDepth 100000 in
theorem ct_X11_areAllNear (E : zEnv) (hE : zEok E) (d : Nat) (hd : 2 ≤ d) (v0 : Nat) (v1 : Int32) (v2 : Int32) (M : zM) (x0 : Int32) (hx : fp_X11_areAllNear v0 v1 v2 M = some x0) : zCt E mu_X11_areAllNear d [.ref (E.2.2.2.1 + v0), .int v1, .int v2] M (some (.int x0), M) := by
  refine zCt_of (μ := mu_X11_areAllNear) (t := fp_X11_areAllNear v0 v1 v2 M) rfl rfl (Nat.le_of_ble_eq_true rfl) hx ?_
  change zSy E mu_X11_areAllNear d M (some (.int x0), M) x0 (fp_X11_areAllNear v0 v1 v2 M) 0 [(0, .ref (E.2.2.2.1 + v0)), (1, .int v1), (2, .int v2)] [] M
  unfold fp_X11_areAllNear
  refine zs_this (fun hth => ?_)
  refine zs_iconst (v := 0) dX11_areAllNear_0 ciconst_0 ?_
  refine zs_istore_n (loc' := [(0, .ref (E.2.2.2.1 + v0)), (1, .int v1), (2, .int v2), (3, .int 0)]) dX11_areAllNear_1 rfl (Nat.le_of_ble_eq_true rfl) [1, 2, 3, 0] rfl ?_
  exact w_X11_areAllNear_L2 E hE d hd _ _ _ _ _ _ _
theorem dX11_most_0 : decode cX11_most 0 = .ok (.iload_n 1, 1) := by decide +kernel
theorem dX11_most_1 : decode cX11_most 1 = .ok (.iconst 0, 1) := by decide +kernel
theorem dX11_most_2 : decode cX11_most 2 = .ok (.iconst 1, 1) := by decide +kernel
theorem dX11_most_3 : decode cX11_most 3 = .ok (.invokestatic 195, 3) := by decide +kernel
theorem dX11_most_6 : decode cX11_most 6 = .ok (.ifCond .ne 9, 3) := by decide +kernel
theorem dX11_most_9 : decode cX11_most 9 = .ok (.aload_n 0, 1) := by decide +kernel
theorem dX11_most_10 : decode cX11_most 10 = .ok (.iconst 1, 1) := by decide +kernel
theorem dX11_most_11 : decode cX11_most 11 = .ok (.invokevirtual 226, 3) := by decide +kernel
theorem dX11_most_14 : decode cX11_most 14 = .ok (.ireturn, 1) := by decide +kernel
theorem dX11_most_15 : decode cX11_most 15 = .ok (.iconst 0, 1) := by decide +kernel
theorem dX11_most_16 : decode cX11_most 16 = .ok (.istore_n 2, 1) := by decide +kernel
theorem dX11_most_17 : decode cX11_most 17 = .ok (.iconst 0, 1) := by decide +kernel
theorem dX11_most_18 : decode cX11_most 18 = .ok (.istore_n 3, 1) := by decide +kernel
theorem dX11_most_19 : decode cX11_most 19 = .ok (.iload_n 3, 1) := by decide +kernel
theorem dX11_most_20 : decode cX11_most 20 = .ok (.aload_n 0, 1) := by decide +kernel
theorem dX11_most_21 : decode cX11_most 21 = .ok (.invokevirtual 104, 3) := by decide +kernel
theorem dX11_most_24 : decode cX11_most 24 = .ok (.if_icmp .gt 39, 3) := by decide +kernel
theorem dX11_most_27 : decode cX11_most 27 = .ok (.iload_n 3, 1) := by decide +kernel
theorem dX11_most_28 : decode cX11_most 28 = .ok (.invokestatic 122, 3) := by decide +kernel
theorem dX11_most_31 : decode cX11_most 31 = .ok (.iload_n 2, 1) := by decide +kernel
theorem dX11_most_32 : decode cX11_most 32 = .ok (.invokestatic 122, 3) := by decide +kernel
theorem dX11_most_35 : decode cX11_most 35 = .ok (.if_icmp .le 22, 3) := by decide +kernel
theorem dX11_most_38 : decode cX11_most 38 = .ok (.aload_n 0, 1) := by decide +kernel
theorem dX11_most_39 : decode cX11_most 39 = .ok (.iload_n 3, 1) := by decide +kernel
theorem dX11_most_40 : decode cX11_most 40 = .ok (.iload_n 1, 1) := by decide +kernel
theorem dX11_most_41 : decode cX11_most 41 = .ok (.ifCond .ne 7, 3) := by decide +kernel
theorem dX11_most_44 : decode cX11_most 44 = .ok (.iconst 1, 1) := by decide +kernel
theorem dX11_most_45 : decode cX11_most 45 = .ok (.goto 4, 3) := by decide +kernel
theorem dX11_most_48 : decode cX11_most 48 = .ok (.iconst 0, 1) := by decide +kernel
theorem dX11_most_49 : decode cX11_most 49 = .ok (.invokevirtual 325, 3) := by decide +kernel
theorem dX11_most_52 : decode cX11_most 52 = .ok (.ifCond .eq 5, 3) := by decide +kernel
theorem dX11_most_55 : decode cX11_most 55 = .ok (.iload_n 3, 1) := by decide +kernel
theorem dX11_most_56 : decode cX11_most 56 = .ok (.istore_n 2, 1) := by decide +kernel
theorem dX11_most_57 : decode cX11_most 57 = .ok (.iinc 3 1, 3) := by decide +kernel
theorem dX11_most_60 : decode cX11_most 60 = .ok (.goto (-41), 3) := by decide +kernel
theorem dX11_most_63 : decode cX11_most 63 = .ok (.aload_n 0, 1) := by decide +kernel
theorem dX11_most_64 : decode cX11_most 64 = .ok (.iload_n 2, 1) := by decide +kernel
theorem dX11_most_65 : decode cX11_most 65 = .ok (.invokevirtual 242, 3) := by decide +kernel
theorem dX11_most_68 : decode cX11_most 68 = .ok (.ireturn, 1) := by decide +kernel
def fp_X11_most_L19 (v0 : Nat) (v1 : Int32) (M : zM) : Nat → Int32 → Int32 → Option (Int32 × zM)
  | 0, _, _ => none
  | n + 1, v2, v3 =>
    (fp_X11_all v0 M).bind fun (y2 : Int32) =>
    if v3 > y2 then (
      (fp_X11_gives v0 v2 M).bind fun p5 => zpp p5 fun (y3 : Int32) (M4 : zM) =>
      some (y3, M4))
    else (
      (fp_X11_bits v3).bind fun (y6 : Int32) =>
      (fp_X11_bits v2).bind fun (y7 : Int32) =>
      zjn (fun (v2_8 : Int32) =>
          fp_X11_most_L19 v0 v1 M n v2_8 (v3 + 1))
        (fun j57 =>
          if y6 ≤ y7 then (
            j57 v2)
          else (
            zjn (fun (s9 : Int32) (s10 : Int32) (s11 : Nat) =>
                (fp_X11_areAllNear s11 s10 s9 M).bind fun (y12 : Int32) =>
                if y12 = 0 then (
                  j57 v2)
                else (
                  j57 v3))
              (fun j49 =>
                if v1 ≠ 0 then (
                  j49 0 v3 v0)
                else (
                  j49 1 v3 v0)))))
def fp_X11_most (v0 : Nat) (v1 : Int32) (M : zM) : Option (Int32 × zM) :=
  zthis 9 M v0 (
    (fp_X11_isFrom v1 0 1).bind fun (y1 : Int32) =>
    if y1 ≠ 0 then (
      fp_X11_most_L19 v0 v1 M FU 0 0)
    else (
      (fp_X11_refuse v0 1 M).bind fun p15 => zpp p15 fun (y13 : Int32) (M14 : zM) =>
      some (y13, M14)))
set_option maxHeartbeats 4000000 in
set_option maxRecDepth 100000 in
theorem th_X11_most {v0 : Nat} {v1 : Int32} {M : zM} {x0 : Int32 × zM} (h : fp_X11_most v0 v1 M = some x0) : v0 < zS M ∧ kd v0 = 9 := by
  unfold fp_X11_most at h
  exact zthis_of h
set_option maxHeartbeats 4000000 in
set_option maxRecDepth 100000 in
theorem w_X11_most_L19 (E : zEnv) (hE : zEok E) (d : Nat) (hd : 3 ≤ d) (M0 : zM) (x0 : Int32 × zM) (v0 : Nat) (v1 : Int32) (M : zM)  : ∀ (n : Nat) (v2 : Int32) (v3 : Int32), zSy E mu_X11_most d M0 (some (.int x0.1), x0.2) x0 (fp_X11_most_L19 v0 v1 M n v2 v3) 19 [(0, .ref (E.2.2.2.1 + v0)), (1, .int v1), (2, .int v2), (3, .int v3)] [] M := by
  intro n
  induction n with
  | zero =>
    intro v2 v3
    rw [fp_X11_most_L19]
    exact zs_none
  | succ n ih =>
    intro v2 v3
    rw [fp_X11_most_L19]
    refine zs_iload_n dX11_most_19 rfl 3 rfl ?_
    refine zs_aload_n dX11_most_20 rfl 0 rfl ?_
    refine zs_invVPI (rest := [.int v3]) [] dX11_most_21 lk_X11_104 rfl (fun _ h => th_X11_all h) (zd1 rfl hd) rfl (Nat.le_of_ble_eq_true rfl) (ct_X11_all E hE _ (zdl rfl hd) _ _) (fun y2 => ?_)
    refine zs_icmp_gt dX11_most_24 rfl ?_ ?_
    · refine zs_aload_n dX11_most_63 rfl 0 rfl ?_
      refine zs_iload_n dX11_most_64 rfl 2 rfl ?_
      refine zs_invVWI (rest := []) [.int v2] dX11_most_65 lk_X11_242 rfl (fun _ h => th_X11_gives h) (zd1 rfl hd) rfl (Nat.le_of_ble_eq_true rfl) (ct_X11_gives E hE _ (zdl rfl hd) _ _ _) (fun y3 M4 => ?_)
      exact zs_iretW dX11_most_68 rfl
    refine zs_iload_n dX11_most_27 rfl 3 rfl ?_
    refine zs_invSPI (rest := []) [.int v3] dX11_most_28 lk_X11_122 rfl (zd1 rfl hd) rfl (Nat.le_of_ble_eq_true rfl) (ct_X11_bits E hE _ (zdl rfl hd) _ _) (fun y6 => ?_)
    refine zs_iload_n dX11_most_31 rfl 2 rfl ?_
    refine zs_invSPI (rest := [.int y6]) [.int v2] dX11_most_32 lk_X11_122 rfl (zd1 rfl hd) rfl (Nat.le_of_ble_eq_true rfl) (ct_X11_bits E hE _ (zdl rfl hd) _ _) (fun y7 => ?_)
    refine zs_jn (fun j57 => ∀ (v2_8 : Int32), zSy E mu_X11_most d M0 (some (.int x0.1), x0.2) x0 (j57 v2_8) 57 [(0, .ref (E.2.2.2.1 + v0)), (1, .int v1), (2, .int v2_8), (3, .int v3)] [] M) (fun v2_8 => ?_) (fun j57 hj57 => ?_)
    · refine zs_iinc (v := (v3 + 1)) (loc' := [(0, .ref (E.2.2.2.1 + v0)), (1, .int v1), (2, .int v2_8), (3, .int (v3 + 1))]) dX11_most_57 3 rfl (by rfl) (Nat.le_of_ble_eq_true rfl) [1, 2, 3, 0] rfl ?_
      refine zs_goto dX11_most_60 rfl ?_
      exact ih v2_8 (v3 + 1)
    refine zs_icmp_le dX11_most_35 rfl ?_ ?_
    · exact hj57 v2
    refine zs_aload_n dX11_most_38 rfl 0 rfl ?_
    refine zs_iload_n dX11_most_39 rfl 3 rfl ?_
    refine zs_iload_n dX11_most_40 rfl 1 rfl ?_
    refine zs_jn (fun j49 => ∀ (s9 : Int32) (s10 : Int32) (s11 : Nat), zSy E mu_X11_most d M0 (some (.int x0.1), x0.2) x0 (j49 s9 s10 s11) 49 [(0, .ref (E.2.2.2.1 + v0)), (1, .int v1), (2, .int v2), (3, .int v3)] [.int s9, .int s10, .ref (E.2.2.2.1 + s11)] M) (fun s9 s10 s11 => ?_) (fun j49 hj49 => ?_)
    · refine zs_invVPI (rest := []) [.int s10, .int s9] dX11_most_49 lk_X11_325 rfl (fun _ h => th_X11_areAllNear h) (zd1 rfl hd) rfl (Nat.le_of_ble_eq_true rfl) (ct_X11_areAllNear E hE _ (zdl rfl hd) _ _ _ _) (fun y12 => ?_)
      refine zs_if_eq dX11_most_52 rfl ?_ ?_
      · exact hj57 v2
      refine zs_iload_n dX11_most_55 rfl 3 rfl ?_
      refine zs_istore_n (loc' := [(0, .ref (E.2.2.2.1 + v0)), (1, .int v1), (2, .int v3), (3, .int v3)]) dX11_most_56 rfl (Nat.le_of_ble_eq_true rfl) [1, 2, 0, 3] rfl ?_
      exact hj57 v3
    refine zs_if_ne dX11_most_41 rfl ?_ ?_
    · refine zs_iconst (v := 0) dX11_most_48 ciconst_0 ?_
      exact hj49 0 v3 v0
    refine zs_iconst (v := 1) dX11_most_44 ciconst_1 ?_
    refine zs_goto dX11_most_45 rfl ?_
    exact hj49 1 v3 v0
set_option maxHeartbeats 4000000 in
set_option maxRecDepth 100000 in
theorem ct_X11_most (E : zEnv) (hE : zEok E) (d : Nat) (hd : 3 ≤ d) (v0 : Nat) (v1 : Int32) (M : zM) (x0 : Int32 × zM) (hx : fp_X11_most v0 v1 M = some x0) : zCt E mu_X11_most d [.ref (E.2.2.2.1 + v0), .int v1] M (some (.int x0.1), x0.2) := by
  refine zCt_of (μ := mu_X11_most) (t := fp_X11_most v0 v1 M) rfl rfl (Nat.le_of_ble_eq_true rfl) hx ?_
  change zSy E mu_X11_most d M (some (.int x0.1), x0.2) x0 (fp_X11_most v0 v1 M) 0 [(0, .ref (E.2.2.2.1 + v0)), (1, .int v1)] [] M
  unfold fp_X11_most
  refine zs_this (fun hth => ?_)
  refine zs_iload_n dX11_most_0 rfl 1 rfl ?_
  refine zs_iconst (v := 0) dX11_most_1 ciconst_0 ?_
  refine zs_iconst (v := 1) dX11_most_2 ciconst_1 ?_
  refine zs_invSPI (rest := []) [.int v1, .int 0, .int 1] dX11_most_3 lk_X11_195 rfl (zd1 rfl hd) rfl (Nat.le_of_ble_eq_true rfl) (ct_X11_isFrom E hE _ (zdl rfl hd) _ _ _ _) (fun y1 => ?_)
  refine zs_if_ne dX11_most_6 rfl ?_ ?_
  · refine zs_iconst (v := 0) dX11_most_15 ciconst_0 ?_
    refine zs_istore_n (loc' := [(0, .ref (E.2.2.2.1 + v0)), (1, .int v1), (2, .int 0)]) dX11_most_16 rfl (Nat.le_of_ble_eq_true rfl) [1, 2, 0] rfl ?_
    refine zs_iconst (v := 0) dX11_most_17 ciconst_0 ?_
    refine zs_istore_n (loc' := [(0, .ref (E.2.2.2.1 + v0)), (1, .int v1), (2, .int 0), (3, .int 0)]) dX11_most_18 rfl (Nat.le_of_ble_eq_true rfl) [1, 2, 3, 0] rfl ?_
    exact w_X11_most_L19 E hE d hd _ _ _ _ _ _ _ _
  refine zs_aload_n dX11_most_9 rfl 0 rfl ?_
  refine zs_iconst (v := 1) dX11_most_10 ciconst_1 ?_
  refine zs_invVWI (rest := []) [.int 1] dX11_most_11 lk_X11_226 rfl (fun _ h => th_X11_refuse h) (zd1 rfl hd) rfl (Nat.le_of_ble_eq_true rfl) (ct_X11_refuse E hE _ (zdl rfl hd) _ _ _) (fun y13 M14 => ?_)
  exact zs_iretW dX11_most_14 rfl
theorem dX11_ways_0 : decode cX11_ways 0 = .ok (.iload_n 1, 1) := by decide +kernel
theorem dX11_ways_1 : decode cX11_ways 1 = .ok (.aload_n 0, 1) := by decide +kernel
theorem dX11_ways_2 : decode cX11_ways 2 = .ok (.getfield 101, 3) := by decide +kernel
theorem dX11_ways_5 : decode cX11_ways 5 = .ok (.if_icmp .ne 5, 3) := by decide +kernel
theorem dX11_ways_8 : decode cX11_ways 8 = .ok (.lconst 1, 1) := by decide +kernel
theorem dX11_ways_9 : decode cX11_ways 9 = .ok (.lreturn, 1) := by decide +kernel
theorem dX11_ways_10 : decode cX11_ways 10 = .ok (.lconst 0, 1) := by decide +kernel
theorem dX11_ways_11 : decode cX11_ways 11 = .ok (.lstore 4, 2) := by decide +kernel
theorem dX11_ways_13 : decode cX11_ways 13 = .ok (.iconst 0, 1) := by decide +kernel
theorem dX11_ways_14 : decode cX11_ways 14 = .ok (.istore 6, 2) := by decide +kernel
theorem dX11_ways_16 : decode cX11_ways 16 = .ok (.iload 6, 2) := by decide +kernel
theorem dX11_ways_18 : decode cX11_ways 18 = .ok (.iload_n 2, 1) := by decide +kernel
theorem dX11_ways_19 : decode cX11_ways 19 = .ok (.if_icmp .gt 126, 3) := by decide +kernel
theorem dX11_ways_22 : decode cX11_ways 22 = .ok (.iload 6, 2) := by decide +kernel
theorem dX11_ways_24 : decode cX11_ways 24 = .ok (.iload_n 3, 1) := by decide +kernel
theorem dX11_ways_25 : decode cX11_ways 25 = .ok (.if_icmp .ge 120, 3) := by decide +kernel
theorem dX11_ways_28 : decode cX11_ways 28 = .ok (.iconst 1, 1) := by decide +kernel
theorem dX11_ways_29 : decode cX11_ways 29 = .ok (.istore 7, 2) := by decide +kernel
theorem dX11_ways_31 : decode cX11_ways 31 = .ok (.iconst 0, 1) := by decide +kernel
theorem dX11_ways_32 : decode cX11_ways 32 = .ok (.istore 8, 2) := by decide +kernel
theorem dX11_ways_34 : decode cX11_ways 34 = .ok (.iload 8, 2) := by decide +kernel
theorem dX11_ways_36 : decode cX11_ways 36 = .ok (.iload_n 1, 1) := by decide +kernel
theorem dX11_ways_37 : decode cX11_ways 37 = .ok (.if_icmp .ge 47, 3) := by decide +kernel
theorem dX11_ways_40 : decode cX11_ways 40 = .ok (.iload 7, 2) := by decide +kernel
theorem dX11_ways_42 : decode cX11_ways 42 = .ok (.ifCond .eq 33, 3) := by decide +kernel
theorem dX11_ways_45 : decode cX11_ways 45 = .ok (.aload_n 0, 1) := by decide +kernel
theorem dX11_ways_46 : decode cX11_ways 46 = .ok (.getfield 7, 3) := by decide +kernel
theorem dX11_ways_49 : decode cX11_ways 49 = .ok (.iload_n 1, 1) := by decide +kernel
theorem dX11_ways_50 : decode cX11_ways 50 = .ok (.iaload, 1) := by decide +kernel
theorem dX11_ways_51 : decode cX11_ways 51 = .ok (.iload 8, 2) := by decide +kernel
theorem dX11_ways_53 : decode cX11_ways 53 = .ok (.invokestatic 97, 3) := by decide +kernel
theorem dX11_ways_56 : decode cX11_ways 56 = .ok (.ifCond .eq 15, 3) := by decide +kernel
theorem dX11_ways_59 : decode cX11_ways 59 = .ok (.aload_n 0, 1) := by decide +kernel
theorem dX11_ways_60 : decode cX11_ways 60 = .ok (.getfield 67, 3) := by decide +kernel
theorem dX11_ways_63 : decode cX11_ways 63 = .ok (.iload 8, 2) := by decide +kernel
theorem dX11_ways_65 : decode cX11_ways 65 = .ok (.iaload, 1) := by decide +kernel
theorem dX11_ways_66 : decode cX11_ways 66 = .ok (.iload 6, 2) := by decide +kernel
theorem dX11_ways_68 : decode cX11_ways 68 = .ok (.if_icmp .eq 7, 3) := by decide +kernel
theorem dX11_ways_71 : decode cX11_ways 71 = .ok (.iconst 1, 1) := by decide +kernel
theorem dX11_ways_72 : decode cX11_ways 72 = .ok (.goto 4, 3) := by decide +kernel
theorem dX11_ways_75 : decode cX11_ways 75 = .ok (.iconst 0, 1) := by decide +kernel
theorem dX11_ways_76 : decode cX11_ways 76 = .ok (.istore 7, 2) := by decide +kernel
theorem dX11_ways_78 : decode cX11_ways 78 = .ok (.iinc 8 1, 3) := by decide +kernel
theorem dX11_ways_81 : decode cX11_ways 81 = .ok (.goto (-47), 3) := by decide +kernel
theorem dX11_ways_84 : decode cX11_ways 84 = .ok (.iload 7, 2) := by decide +kernel
theorem dX11_ways_86 : decode cX11_ways 86 = .ok (.ifCond .ne 6, 3) := by decide +kernel
theorem dX11_ways_89 : decode cX11_ways 89 = .ok (.goto 50, 3) := by decide +kernel
theorem dX11_ways_92 : decode cX11_ways 92 = .ok (.aload_n 0, 1) := by decide +kernel
theorem dX11_ways_93 : decode cX11_ways 93 = .ok (.getfield 67, 3) := by decide +kernel
theorem dX11_ways_96 : decode cX11_ways 96 = .ok (.iload_n 1, 1) := by decide +kernel
theorem dX11_ways_97 : decode cX11_ways 97 = .ok (.iload 6, 2) := by decide +kernel
theorem dX11_ways_99 : decode cX11_ways 99 = .ok (.iastore, 1) := by decide +kernel
theorem dX11_ways_100 : decode cX11_ways 100 = .ok (.lload 4, 2) := by decide +kernel
theorem dX11_ways_102 : decode cX11_ways 102 = .ok (.iload 6, 2) := by decide +kernel
theorem dX11_ways_104 : decode cX11_ways 104 = .ok (.iload_n 2, 1) := by decide +kernel
theorem dX11_ways_105 : decode cX11_ways 105 = .ok (.if_icmp .ge 15, 3) := by decide +kernel
theorem dX11_ways_108 : decode cX11_ways 108 = .ok (.aload_n 0, 1) := by decide +kernel
theorem dX11_ways_109 : decode cX11_ways 109 = .ok (.iload_n 1, 1) := by decide +kernel
theorem dX11_ways_110 : decode cX11_ways 110 = .ok (.iconst 1, 1) := by decide +kernel
theorem dX11_ways_111 : decode cX11_ways 111 = .ok (.iadd, 1) := by decide +kernel
theorem dX11_ways_112 : decode cX11_ways 112 = .ok (.iload_n 2, 1) := by decide +kernel
theorem dX11_ways_113 : decode cX11_ways 113 = .ok (.iload_n 3, 1) := by decide +kernel
theorem dX11_ways_114 : decode cX11_ways 114 = .ok (.invokevirtual 329, 3) := by decide +kernel
theorem dX11_ways_117 : decode cX11_ways 117 = .ok (.goto 19, 3) := by decide +kernel
theorem dX11_ways_120 : decode cX11_ways 120 = .ok (.iload_n 3, 1) := by decide +kernel
theorem dX11_ways_121 : decode cX11_ways 121 = .ok (.iload_n 2, 1) := by decide +kernel
theorem dX11_ways_122 : decode cX11_ways 122 = .ok (.isub, 1) := by decide +kernel
theorem dX11_ways_123 : decode cX11_ways 123 = .ok (.i2l, 1) := by decide +kernel
theorem dX11_ways_124 : decode cX11_ways 124 = .ok (.aload_n 0, 1) := by decide +kernel
theorem dX11_ways_125 : decode cX11_ways 125 = .ok (.iload_n 1, 1) := by decide +kernel
theorem dX11_ways_126 : decode cX11_ways 126 = .ok (.iconst 1, 1) := by decide +kernel
theorem dX11_ways_127 : decode cX11_ways 127 = .ok (.iadd, 1) := by decide +kernel
theorem dX11_ways_128 : decode cX11_ways 128 = .ok (.iload_n 2, 1) := by decide +kernel
theorem dX11_ways_129 : decode cX11_ways 129 = .ok (.iconst 1, 1) := by decide +kernel
theorem dX11_ways_130 : decode cX11_ways 130 = .ok (.iadd, 1) := by decide +kernel
theorem dX11_ways_131 : decode cX11_ways 131 = .ok (.iload_n 3, 1) := by decide +kernel
theorem dX11_ways_132 : decode cX11_ways 132 = .ok (.invokevirtual 329, 3) := by decide +kernel
theorem dX11_ways_135 : decode cX11_ways 135 = .ok (.lmul, 1) := by decide +kernel
theorem dX11_ways_136 : decode cX11_ways 136 = .ok (.ladd, 1) := by decide +kernel
theorem dX11_ways_137 : decode cX11_ways 137 = .ok (.lstore 4, 2) := by decide +kernel
theorem dX11_ways_139 : decode cX11_ways 139 = .ok (.iinc 6 1, 3) := by decide +kernel
theorem dX11_ways_142 : decode cX11_ways 142 = .ok (.goto (-126), 3) := by decide +kernel
theorem dX11_ways_145 : decode cX11_ways 145 = .ok (.lload 4, 2) := by decide +kernel
theorem dX11_ways_147 : decode cX11_ways 147 = .ok (.lreturn, 1) := by decide +kernel
def fp_X11_ways_L34 (k84 : Int32 → Option (Int64 × zM)) (v0 : Nat) (v1 : Int32) (v2 : Int32) (v3 : Int32) (v4 : Int64) (v6 : Int32) (M : zM) : Nat → Int32 → Int32 → Option (Int64 × zM)
  | 0, _, _ => none
  | n + 1, v7, v8 =>
    if v8 ≥ v1 then (
      k84 v7)
    else (
      zjn (fun (s2 : Int32) =>
          fp_X11_ways_L34 k84 v0 v1 v2 v3 v4 v6 M n s2 (v8 + 1))
        (fun j76 =>
          zjn (
              j76 0)
            (fun j75 =>
              if v7 = 0 then (
                j75)
              else (
                (zgR 9 M v0 2).bind fun (y3 : Nat) =>
                (zlI 100 M y3 v1).bind fun (y4 : Int32) =>
                (fp_X11_has y4 v8).bind fun (y5 : Int32) =>
                zjn (
                    j76 1)
                  (fun j71 =>
                    if y5 = 0 then (
                      j71)
                    else (
                      (zgR 9 M v0 30).bind fun (y6 : Nat) =>
                      (zlI 100 M y6 v8).bind fun (y7 : Int32) =>
                      if y7 = v6 then (
                        j75)
                      else (
                        j71)))))))
def fp_X11_ways_L16 (self : Nat → Int32 → Int32 → Int32 → zM → Option (Int64 × zM)) (v0 : Nat) (v1 : Int32) (v2 : Int32) (v3 : Int32) : Nat → Int64 → Int32 → zM → Option (Int64 × zM)
  | 0, _, _, _ => none
  | n + 1, v4, v6, M =>
    if v6 > v2 then (
      some (v4, M))
    else (
      if v6 ≥ v3 then (
        some (v4, M))
      else (
        fp_X11_ways_L34
          (fun v7_8 =>
            zjn (fun (v4_9 : Int64) (M10 : zM) =>
                fp_X11_ways_L16 self v0 v1 v2 v3 n v4_9 (v6 + 1) M10)
              (fun j139 =>
                if v7_8 ≠ 0 then (
                  (zgR 9 M v0 30).bind fun (y11 : Nat) =>
                  (ztI M y11 v1 v6).bind fun (M12 : zM) =>
                  zjn (fun (s13 : Int64) (s14 : Int64) (M15 : zM) =>
                      lett ((s14 + s13)) fun (v4_16 : Int64) =>
                      j139 v4_16 M15)
                    (fun j136 =>
                      if v6 ≥ v2 then (
                        (self v0 (v1 + 1) (v2 + 1) v3 M12).bind fun p19 => zpp p19 fun (y17 : Int64) (M18 : zM) =>
                        j136 (((v3 - v2).toInt64) * y17) v4 M18)
                      else (
                        (self v0 (v1 + 1) v2 v3 M12).bind fun p22 => zpp p22 fun (y20 : Int64) (M21 : zM) =>
                        j136 y20 v4 M21)))
                else (
                  j139 v4 M))) v0 v1 v2 v3 v4 v6 M FU 1 0))
def fp_X11_ways : Nat → Nat → Int32 → Int32 → Int32 → zM → Option (Int64 × zM)
  | 0, _, _, _, _, _ => none
  | n + 1, v0, v1, v2, v3, M =>
    zthis 9 M v0 (
      (zgI 9 M v0 0).bind fun (y1 : Int32) =>
      if v1 ≠ y1 then (
        fp_X11_ways_L16 (fun w0 w1 w2 w3 Mw => fp_X11_ways n w0 w1 w2 w3 Mw) v0 v1 v2 v3 FU 0 0 M)
      else (
        some (1, M)))
set_option maxHeartbeats 4000000 in
set_option maxRecDepth 100000 in
theorem th_X11_ways : ∀ {n : Nat} {v0 : Nat} {v1 : Int32} {v2 : Int32} {v3 : Int32} {M : zM} {x0 : Int64 × zM} (_ : fp_X11_ways n v0 v1 v2 v3 M = some x0), v0 < zS M ∧ kd v0 = 9 := by
  intro n v0 v1 v2 v3 M x0 h
  cases n with
  | zero => rw [fp_X11_ways] at h; cases h
  | succ n => rw [fp_X11_ways] at h; exact zthis_of h
set_option maxHeartbeats 4000000 in
set_option maxRecDepth 100000 in
theorem w_X11_ways_L34 (E : zEnv) (hE : zEok E) (d : Nat) (hd : 2 ≤ d) (M0 : zM) (x0 : Int64 × zM) (v0 : Nat) (v1 : Int32) (v2 : Int32) (v3 : Int32) (v4 : Int64) (v6 : Int32) (M : zM) (k84 : Int32 → Option (Int64 × zM)) (hk84 : ∀ (v7 : Int32), zSy E mu_X11_ways d M0 (some (.long x0.1), x0.2) x0 (k84 v7) 84 [(0, .ref (E.2.2.2.1 + v0)), (1, .int v1), (2, .int v2), (3, .int v3), (4, .long v4), (6, .int v6), (7, .int v7)] [] M) : ∀ (n : Nat) (v7 : Int32) (v8 : Int32), zSy E mu_X11_ways d M0 (some (.long x0.1), x0.2) x0 (fp_X11_ways_L34 k84 v0 v1 v2 v3 v4 v6 M n v7 v8) 34 [(0, .ref (E.2.2.2.1 + v0)), (1, .int v1), (2, .int v2), (3, .int v3), (4, .long v4), (6, .int v6), (7, .int v7), (8, .int v8)] [] M := by
  intro n
  induction n with
  | zero =>
    intro v7 v8
    rw [fp_X11_ways_L34]
    exact zs_none
  | succ n ih =>
    intro v7 v8
    rw [fp_X11_ways_L34]
    refine zs_iload dX11_ways_34 7 rfl ?_
    refine zs_iload_n dX11_ways_36 rfl 1 rfl ?_
    refine zs_icmp_ge dX11_ways_37 rfl ?_ ?_
    · refine zs_sub (loc' := [(0, .ref (E.2.2.2.1 + v0)), (1, .int v1), (2, .int v2), (3, .int v3), (4, .long v4), (6, .int v6), (7, .int v7)]) [0, 1, 2, 3, 4, 5, 6] rfl ?_
      exact hk84 v7
    refine zs_iload dX11_ways_40 6 rfl ?_
    refine zs_jn (fun j76 => ∀ (s2 : Int32), zSy E mu_X11_ways d M0 (some (.long x0.1), x0.2) x0 (j76 s2) 76 [(0, .ref (E.2.2.2.1 + v0)), (1, .int v1), (2, .int v2), (3, .int v3), (4, .long v4), (6, .int v6), (8, .int v8)] [.int s2] M) (fun s2 => ?_) (fun j76 hj76 => ?_)
    · refine zs_istore (loc' := [(0, .ref (E.2.2.2.1 + v0)), (1, .int v1), (2, .int v2), (3, .int v3), (4, .long v4), (6, .int v6), (7, .int s2), (8, .int v8)]) dX11_ways_76 (Nat.le_of_ble_eq_true rfl) [1, 2, 3, 4, 5, 6, 0, 7] rfl ?_
      refine zs_iinc (v := (v8 + 1)) (loc' := [(0, .ref (E.2.2.2.1 + v0)), (1, .int v1), (2, .int v2), (3, .int v3), (4, .long v4), (6, .int v6), (7, .int s2), (8, .int (v8 + 1))]) dX11_ways_78 7 rfl (by rfl) (Nat.le_of_ble_eq_true rfl) [1, 2, 3, 4, 5, 6, 7, 0] rfl ?_
      refine zs_goto dX11_ways_81 rfl ?_
      exact ih s2 (v8 + 1)
    refine zs_jn (fun j75 => zSy E mu_X11_ways d M0 (some (.long x0.1), x0.2) x0 (j75) 75 [(0, .ref (E.2.2.2.1 + v0)), (1, .int v1), (2, .int v2), (3, .int v3), (4, .long v4), (6, .int v6), (8, .int v8)] [] M) ?_ (fun j75 hj75 => ?_)
    · refine zs_iconst (v := 0) dX11_ways_75 ciconst_0 ?_
      exact hj76 0
    refine zs_if_eq dX11_ways_42 rfl ?_ ?_
    · refine zs_sub (loc' := [(0, .ref (E.2.2.2.1 + v0)), (1, .int v1), (2, .int v2), (3, .int v3), (4, .long v4), (6, .int v6), (8, .int v8)]) [0, 1, 2, 3, 4, 5, 7] rfl ?_
      exact hj75
    refine zs_aload_n dX11_ways_45 rfl 0 rfl ?_
    refine zs_getR dX11_ways_46 fl_X11_7 rfl (fun y3 => ?_)
    refine zs_iload_n dX11_ways_49 rfl 1 rfl ?_
    refine zs_ldI dX11_ways_50 (fun y4 => ?_)
    refine zs_iload dX11_ways_51 7 rfl ?_
    refine zs_invSPI (rest := []) [.int y4, .int v8] dX11_ways_53 lk_X11_97 rfl (zd1 rfl hd) rfl (Nat.le_of_ble_eq_true rfl) (ct_X11_has E hE _ (zdl rfl hd) _ _ _) (fun y5 => ?_)
    refine zs_jn (fun j71 => zSy E mu_X11_ways d M0 (some (.long x0.1), x0.2) x0 (j71) 71 [(0, .ref (E.2.2.2.1 + v0)), (1, .int v1), (2, .int v2), (3, .int v3), (4, .long v4), (6, .int v6), (8, .int v8)] [] M) ?_ (fun j71 hj71 => ?_)
    · refine zs_iconst (v := 1) dX11_ways_71 ciconst_1 ?_
      refine zs_goto dX11_ways_72 rfl ?_
      exact hj76 1
    refine zs_if_eq dX11_ways_56 rfl ?_ ?_
    · refine zs_sub (loc' := [(0, .ref (E.2.2.2.1 + v0)), (1, .int v1), (2, .int v2), (3, .int v3), (4, .long v4), (6, .int v6), (8, .int v8)]) [0, 1, 2, 3, 4, 5, 7] rfl ?_
      exact hj71
    refine zs_aload_n dX11_ways_59 rfl 0 rfl ?_
    refine zs_getR dX11_ways_60 fl_X11_67 rfl (fun y6 => ?_)
    refine zs_iload dX11_ways_63 7 rfl ?_
    refine zs_ldI dX11_ways_65 (fun y7 => ?_)
    refine zs_iload dX11_ways_66 5 rfl ?_
    refine zs_icmp_eq dX11_ways_68 rfl ?_ ?_
    · refine zs_sub (loc' := [(0, .ref (E.2.2.2.1 + v0)), (1, .int v1), (2, .int v2), (3, .int v3), (4, .long v4), (6, .int v6), (8, .int v8)]) [0, 1, 2, 3, 4, 5, 7] rfl ?_
      exact hj75
    refine zs_sub (loc' := [(0, .ref (E.2.2.2.1 + v0)), (1, .int v1), (2, .int v2), (3, .int v3), (4, .long v4), (6, .int v6), (8, .int v8)]) [0, 1, 2, 3, 4, 5, 7] rfl ?_
    exact hj71
set_option maxHeartbeats 4000000 in
set_option maxRecDepth 100000 in
theorem w_X11_ways_L16 (E : zEnv) (hE : zEok E) (d : Nat) (hd : 2 ≤ d) (M0 : zM) (x0 : Int64 × zM) (self : Nat → Int32 → Int32 → Int32 → zM → Option (Int64 × zM)) (hself : ∀ (v0 : Nat) (v1 : Int32) (v2 : Int32) (v3 : Int32) (M : zM) (y0 : Int64 × zM), self v0 v1 v2 v3 M = some y0 → zCt E mu_X11_ways (d - 1) [.ref (E.2.2.2.1 + v0), .int v1, .int v2, .int v3] M (some (.long y0.1), y0.2)) (hthis : ∀ (v0 : Nat) (v1 : Int32) (v2 : Int32) (v3 : Int32) (M : zM) (y0 : Int64 × zM), self v0 v1 v2 v3 M = some y0 → v0 < zS M ∧ kd v0 = 9) (v0 : Nat) (v1 : Int32) (v2 : Int32) (v3 : Int32)  : ∀ (n : Nat) (v4 : Int64) (v6 : Int32) (M : zM), zSy E mu_X11_ways d M0 (some (.long x0.1), x0.2) x0 (fp_X11_ways_L16 self v0 v1 v2 v3 n v4 v6 M) 16 [(0, .ref (E.2.2.2.1 + v0)), (1, .int v1), (2, .int v2), (3, .int v3), (4, .long v4), (6, .int v6)] [] M := by
  intro n
  induction n with
  | zero =>
    intro v4 v6 M
    rw [fp_X11_ways_L16]
    exact zs_none
  | succ n ih =>
    intro v4 v6 M
    rw [fp_X11_ways_L16]
    refine zs_iload dX11_ways_16 5 rfl ?_
    refine zs_iload_n dX11_ways_18 rfl 2 rfl ?_
    refine zs_icmp_gt dX11_ways_19 rfl ?_ ?_
    · refine zs_lload dX11_ways_145 4 rfl ?_
      exact zs_lretW dX11_ways_147 trivial
    refine zs_iload dX11_ways_22 5 rfl ?_
    refine zs_iload_n dX11_ways_24 rfl 3 rfl ?_
    refine zs_icmp_ge dX11_ways_25 rfl ?_ ?_
    · refine zs_lload dX11_ways_145 4 rfl ?_
      exact zs_lretW dX11_ways_147 trivial
    refine zs_iconst (v := 1) dX11_ways_28 ciconst_1 ?_
    refine zs_istore (loc' := [(0, .ref (E.2.2.2.1 + v0)), (1, .int v1), (2, .int v2), (3, .int v3), (4, .long v4), (6, .int v6), (7, .int 1)]) dX11_ways_29 (Nat.le_of_ble_eq_true rfl) [1, 2, 3, 4, 5, 6, 0] rfl ?_
    refine zs_iconst (v := 0) dX11_ways_31 ciconst_0 ?_
    refine zs_istore (loc' := [(0, .ref (E.2.2.2.1 + v0)), (1, .int v1), (2, .int v2), (3, .int v3), (4, .long v4), (6, .int v6), (7, .int 1), (8, .int 0)]) dX11_ways_32 (Nat.le_of_ble_eq_true rfl) [1, 2, 3, 4, 5, 6, 7, 0] rfl ?_
    refine w_X11_ways_L34 E hE d hd _ _ _ _ _ _ _ _ _ _ (fun v7_8 => ?_) _ _ _
    refine zs_iload dX11_ways_84 6 rfl ?_
    refine zs_jn (fun j139 => ∀ (v4_9 : Int64) (M10 : zM), zSy E mu_X11_ways d M0 (some (.long x0.1), x0.2) x0 (j139 v4_9 M10) 139 [(0, .ref (E.2.2.2.1 + v0)), (1, .int v1), (2, .int v2), (3, .int v3), (4, .long v4_9), (6, .int v6)] [] M10) (fun v4_9 M10 => ?_) (fun j139 hj139 => ?_)
    · refine zs_iinc (v := (v6 + 1)) (loc' := [(0, .ref (E.2.2.2.1 + v0)), (1, .int v1), (2, .int v2), (3, .int v3), (4, .long v4_9), (6, .int (v6 + 1))]) dX11_ways_139 5 rfl (by rfl) (Nat.le_of_ble_eq_true rfl) [1, 2, 3, 4, 5, 0] rfl ?_
      refine zs_goto dX11_ways_142 rfl ?_
      exact ih v4_9 (v6 + 1) M10
    refine zs_if_ne dX11_ways_86 rfl ?_ ?_
    · refine zs_aload_n dX11_ways_92 rfl 0 rfl ?_
      refine zs_getR dX11_ways_93 fl_X11_67 rfl (fun y11 => ?_)
      refine zs_iload_n dX11_ways_96 rfl 1 rfl ?_
      refine zs_iload dX11_ways_97 5 rfl ?_
      refine zs_stI dX11_ways_99 (fun M12 => ?_)
      refine zs_lload dX11_ways_100 4 rfl ?_
      refine zs_iload dX11_ways_102 5 rfl ?_
      refine zs_iload_n dX11_ways_104 rfl 2 rfl ?_
      refine zs_jn (fun j136 => ∀ (s13 : Int64) (s14 : Int64) (M15 : zM), zSy E mu_X11_ways d M0 (some (.long x0.1), x0.2) x0 (j136 s13 s14 M15) 136 [(0, .ref (E.2.2.2.1 + v0)), (1, .int v1), (2, .int v2), (3, .int v3), (6, .int v6)] [.long s13, .long s14] M15) (fun s13 s14 M15 => ?_) (fun j136 hj136 => ?_)
      · refine zs_ladd dX11_ways_136 ?_
        refine zs_lstoreL (loc' := fun v4_16 => [(0, .ref (E.2.2.2.1 + v0)), (1, .int v1), (2, .int v2), (3, .int v3), (4, .long v4_16), (6, .int v6)]) dX11_ways_137 (Nat.le_of_ble_eq_true rfl) [1, 2, 3, 4, 0, 5] (fun _ => rfl) (fun v4_16 => ?_)
        exact hj139 v4_16 M15
      refine zs_icmp_ge dX11_ways_105 rfl ?_ ?_
      · refine zs_iload_n dX11_ways_120 rfl 3 rfl ?_
        refine zs_iload_n dX11_ways_121 rfl 2 rfl ?_
        refine zs_isub dX11_ways_122 ?_
        refine zs_i2l dX11_ways_123 ?_
        refine zs_aload_n dX11_ways_124 rfl 0 rfl ?_
        refine zs_iload_n dX11_ways_125 rfl 1 rfl ?_
        refine zs_iconst (v := 1) dX11_ways_126 ciconst_1 ?_
        refine zs_iadd dX11_ways_127 ?_
        refine zs_iload_n dX11_ways_128 rfl 2 rfl ?_
        refine zs_iconst (v := 1) dX11_ways_129 ciconst_1 ?_
        refine zs_iadd dX11_ways_130 ?_
        refine zs_iload_n dX11_ways_131 rfl 3 rfl ?_
        refine zs_invVWJ (rest := [.long ((v3 - v2).toInt64), .long v4]) [.int (v1 + 1), .int (v2 + 1), .int v3] dX11_ways_132 lk_X11_329 rfl (fun _ h => hthis _ _ _ _ _ _ h) (zd1 rfl hd) rfl (Nat.le_of_ble_eq_true rfl) (hself _ _ _ _ _) (fun y17 M18 => ?_)
        refine zs_lmul dX11_ways_135 ?_
        refine zs_sub (loc' := [(0, .ref (E.2.2.2.1 + v0)), (1, .int v1), (2, .int v2), (3, .int v3), (6, .int v6)]) [0, 1, 2, 3, 5] rfl ?_
        exact hj136 (((v3 - v2).toInt64) * y17) v4 M18
      refine zs_aload_n dX11_ways_108 rfl 0 rfl ?_
      refine zs_iload_n dX11_ways_109 rfl 1 rfl ?_
      refine zs_iconst (v := 1) dX11_ways_110 ciconst_1 ?_
      refine zs_iadd dX11_ways_111 ?_
      refine zs_iload_n dX11_ways_112 rfl 2 rfl ?_
      refine zs_iload_n dX11_ways_113 rfl 3 rfl ?_
      refine zs_invVWJ (rest := [.long v4]) [.int (v1 + 1), .int v2, .int v3] dX11_ways_114 lk_X11_329 rfl (fun _ h => hthis _ _ _ _ _ _ h) (zd1 rfl hd) rfl (Nat.le_of_ble_eq_true rfl) (hself _ _ _ _ _) (fun y20 M21 => ?_)
      refine zs_goto dX11_ways_117 rfl ?_
      refine zs_sub (loc' := [(0, .ref (E.2.2.2.1 + v0)), (1, .int v1), (2, .int v2), (3, .int v3), (6, .int v6)]) [0, 1, 2, 3, 5] rfl ?_
      exact hj136 y20 v4 M21
    refine zs_goto dX11_ways_89 rfl ?_
    refine zs_sub (loc' := [(0, .ref (E.2.2.2.1 + v0)), (1, .int v1), (2, .int v2), (3, .int v3), (4, .long v4), (6, .int v6)]) [0, 1, 2, 3, 4, 5] rfl ?_
    exact hj139 v4 M
set_option maxHeartbeats 4000000 in
set_option maxRecDepth 100000 in
theorem ct_X11_ways (E : zEnv) (hE : zEok E) : ∀ (n : Nat) (d : Nat) (_ : n + 2 ≤ d) (v0 : Nat) (v1 : Int32) (v2 : Int32) (v3 : Int32) (M : zM) (x0 : Int64 × zM) (_ : fp_X11_ways n v0 v1 v2 v3 M = some x0), zCt E mu_X11_ways d [.ref (E.2.2.2.1 + v0), .int v1, .int v2, .int v3] M (some (.long x0.1), x0.2) := by
  intro n
  induction n with
  | zero =>
    intro d hd v0 v1 v2 v3 M x0 hx
    rw [fp_X11_ways] at hx
    cases hx
  | succ n ih0 =>
    intro d hd0 v0 v1 v2 v3 M x0 hx
    have hd : 2 ≤ d := by omega
    have ih := ih0 (d - 1) (by omega)
    refine zCt_of (μ := mu_X11_ways) (t := fp_X11_ways (n + 1) v0 v1 v2 v3 M) rfl rfl (Nat.le_of_ble_eq_true rfl) hx ?_
    change zSy E mu_X11_ways d M (some (.long x0.1), x0.2) x0 (fp_X11_ways (n + 1) v0 v1 v2 v3 M) 0 [(0, .ref (E.2.2.2.1 + v0)), (1, .int v1), (2, .int v2), (3, .int v3)] [] M
    rw [fp_X11_ways]
    refine zs_this (fun hth => ?_)
    refine zs_iload_n dX11_ways_0 rfl 1 rfl ?_
    refine zs_aload_n dX11_ways_1 rfl 0 rfl ?_
    refine zs_getI dX11_ways_2 fl_X11_101 rfl (fun y1 => ?_)
    refine zs_icmp_ne dX11_ways_5 rfl ?_ ?_
    · refine zs_lconst (v := 0) dX11_ways_10 (by rfl) ?_
      refine zs_lstore (loc' := [(0, .ref (E.2.2.2.1 + v0)), (1, .int v1), (2, .int v2), (3, .int v3), (4, .long 0)]) dX11_ways_11 (Nat.le_of_ble_eq_true rfl) [1, 2, 3, 4, 0] rfl ?_
      refine zs_iconst (v := 0) dX11_ways_13 ciconst_0 ?_
      refine zs_istore (loc' := [(0, .ref (E.2.2.2.1 + v0)), (1, .int v1), (2, .int v2), (3, .int v3), (4, .long 0), (6, .int 0)]) dX11_ways_14 (Nat.le_of_ble_eq_true rfl) [1, 2, 3, 4, 5, 0] rfl ?_
      exact w_X11_ways_L16 E hE d hd _ _ _ ih (fun _ _ _ _ _ _ h => th_X11_ways h) _ _ _ _ _ _ _ _
    refine zs_lconst (v := 1) dX11_ways_8 (by rfl) ?_
    exact zs_lretW dX11_ways_9 trivial
theorem dX11_colours_0 : decode cX11_colours 0 = .ok (.iconst 0, 1) := by decide +kernel
theorem dX11_colours_1 : decode cX11_colours 1 = .ok (.istore_n 1, 1) := by decide +kernel
theorem dX11_colours_2 : decode cX11_colours 2 = .ok (.aload_n 0, 1) := by decide +kernel
theorem dX11_colours_3 : decode cX11_colours 3 = .ok (.iconst 0, 1) := by decide +kernel
theorem dX11_colours_4 : decode cX11_colours 4 = .ok (.iconst 0, 1) := by decide +kernel
theorem dX11_colours_5 : decode cX11_colours 5 = .ok (.iload_n 1, 1) := by decide +kernel
theorem dX11_colours_6 : decode cX11_colours 6 = .ok (.invokevirtual 329, 3) := by decide +kernel
theorem dX11_colours_9 : decode cX11_colours 9 = .ok (.lconst 0, 1) := by decide +kernel
theorem dX11_colours_10 : decode cX11_colours 10 = .ok (.lcmp, 1) := by decide +kernel
theorem dX11_colours_11 : decode cX11_colours 11 = .ok (.ifCond .ne 9, 3) := by decide +kernel
theorem dX11_colours_14 : decode cX11_colours 14 = .ok (.iinc 1 1, 3) := by decide +kernel
theorem dX11_colours_17 : decode cX11_colours 17 = .ok (.goto (-15), 3) := by decide +kernel
theorem dX11_colours_20 : decode cX11_colours 20 = .ok (.aload_n 0, 1) := by decide +kernel
theorem dX11_colours_21 : decode cX11_colours 21 = .ok (.iload_n 1, 1) := by decide +kernel
theorem dX11_colours_22 : decode cX11_colours 22 = .ok (.invokevirtual 242, 3) := by decide +kernel
theorem dX11_colours_25 : decode cX11_colours 25 = .ok (.ireturn, 1) := by decide +kernel
def fp_X11_colours_L2 (v0 : Nat) : Nat → Int32 → zM → Option (Int32 × zM)
  | 0, _, _ => none
  | n + 1, v1, M =>
    (fp_X11_ways FD v0 0 0 v1 M).bind fun p3 => zpp p3 fun (y1 : Int64) (M2 : zM) =>
    if (lg_cmp y1 0) ≠ 0 then (
      (fp_X11_gives v0 v1 M2).bind fun p6 => zpp p6 fun (y4 : Int32) (M5 : zM) =>
      some (y4, M5))
    else (
      fp_X11_colours_L2 v0 n (v1 + 1) M2)
def fp_X11_colours (v0 : Nat) (M : zM) : Option (Int32 × zM) :=
  zthis 9 M v0 (
    fp_X11_colours_L2 v0 FU 0 M)
set_option maxHeartbeats 4000000 in
set_option maxRecDepth 100000 in
theorem th_X11_colours {v0 : Nat} {M : zM} {x0 : Int32 × zM} (h : fp_X11_colours v0 M = some x0) : v0 < zS M ∧ kd v0 = 9 := by
  unfold fp_X11_colours at h
  exact zthis_of h
set_option maxHeartbeats 4000000 in
set_option maxRecDepth 100000 in
theorem w_X11_colours_L2 (E : zEnv) (hE : zEok E) (d : Nat) (hd : 23 ≤ d) (M0 : zM) (x0 : Int32 × zM) (v0 : Nat)  : ∀ (n : Nat) (v1 : Int32) (M : zM), zSy E mu_X11_colours d M0 (some (.int x0.1), x0.2) x0 (fp_X11_colours_L2 v0 n v1 M) 2 [(0, .ref (E.2.2.2.1 + v0)), (1, .int v1)] [] M := by
  intro n
  induction n with
  | zero =>
    intro v1 M
    rw [fp_X11_colours_L2]
    exact zs_none
  | succ n ih =>
    intro v1 M
    rw [fp_X11_colours_L2]
    refine zs_aload_n dX11_colours_2 rfl 0 rfl ?_
    refine zs_iconst (v := 0) dX11_colours_3 ciconst_0 ?_
    refine zs_iconst (v := 0) dX11_colours_4 ciconst_0 ?_
    refine zs_iload_n dX11_colours_5 rfl 1 rfl ?_
    refine zs_invVWJ (rest := []) [.int 0, .int 0, .int v1] dX11_colours_6 lk_X11_329 rfl (fun _ h => th_X11_ways h) (zd1 rfl hd) rfl (Nat.le_of_ble_eq_true rfl) (ct_X11_ways E hE FD _ (zdl rfl hd) _ _ _ _ _) (fun y1 M2 => ?_)
    refine zs_lconst (v := 0) dX11_colours_9 (by rfl) ?_
    refine zs_lcmp dX11_colours_10 ?_
    refine zs_if_ne dX11_colours_11 rfl ?_ ?_
    · refine zs_aload_n dX11_colours_20 rfl 0 rfl ?_
      refine zs_iload_n dX11_colours_21 rfl 1 rfl ?_
      refine zs_invVWI (rest := []) [.int v1] dX11_colours_22 lk_X11_242 rfl (fun _ h => th_X11_gives h) (zd1 rfl hd) rfl (Nat.le_of_ble_eq_true rfl) (ct_X11_gives E hE _ (zdl rfl hd) _ _ _) (fun y4 M5 => ?_)
      exact zs_iretW dX11_colours_25 rfl
    refine zs_iinc (v := (v1 + 1)) (loc' := [(0, .ref (E.2.2.2.1 + v0)), (1, .int (v1 + 1))]) dX11_colours_14 1 rfl (by rfl) (Nat.le_of_ble_eq_true rfl) [1, 0] rfl ?_
    refine zs_goto dX11_colours_17 rfl ?_
    exact ih (v1 + 1) M2
set_option maxHeartbeats 4000000 in
set_option maxRecDepth 100000 in
theorem ct_X11_colours (E : zEnv) (hE : zEok E) (d : Nat) (hd : 23 ≤ d) (v0 : Nat) (M : zM) (x0 : Int32 × zM) (hx : fp_X11_colours v0 M = some x0) : zCt E mu_X11_colours d [.ref (E.2.2.2.1 + v0)] M (some (.int x0.1), x0.2) := by
  refine zCt_of (μ := mu_X11_colours) (t := fp_X11_colours v0 M) rfl rfl (Nat.le_of_ble_eq_true rfl) hx ?_
  change zSy E mu_X11_colours d M (some (.int x0.1), x0.2) x0 (fp_X11_colours v0 M) 0 [(0, .ref (E.2.2.2.1 + v0))] [] M
  unfold fp_X11_colours
  refine zs_this (fun hth => ?_)
  refine zs_iconst (v := 0) dX11_colours_0 ciconst_0 ?_
  refine zs_istore_n (loc' := [(0, .ref (E.2.2.2.1 + v0)), (1, .int 0)]) dX11_colours_1 rfl (Nat.le_of_ble_eq_true rfl) [1, 0] rfl ?_
  exact w_X11_colours_L2 E hE d hd _ _ _ _ _ _
theorem dX11_paintings_0 : decode cX11_paintings 0 = .ok (.iload_n 1, 1) := by decide +kernel
theorem dX11_paintings_1 : decode cX11_paintings 1 = .ok (.iconst 0, 1) := by decide +kernel
theorem dX11_paintings_2 : decode cX11_paintings 2 = .ok (.bipush 9, 2) := by decide +kernel
theorem dX11_paintings_4 : decode cX11_paintings 4 = .ok (.invokestatic 195, 3) := by decide +kernel
theorem dX11_paintings_7 : decode cX11_paintings 7 = .ok (.ifCond .ne 10, 3) := by decide +kernel
theorem dX11_paintings_10 : decode cX11_paintings 10 = .ok (.aload_n 0, 1) := by decide +kernel
theorem dX11_paintings_11 : decode cX11_paintings 11 = .ok (.iconst 1, 1) := by decide +kernel
theorem dX11_paintings_12 : decode cX11_paintings 12 = .ok (.invokevirtual 226, 3) := by decide +kernel
theorem dX11_paintings_15 : decode cX11_paintings 15 = .ok (.i2l, 1) := by decide +kernel
theorem dX11_paintings_16 : decode cX11_paintings 16 = .ok (.lreturn, 1) := by decide +kernel
theorem dX11_paintings_17 : decode cX11_paintings 17 = .ok (.aload_n 0, 1) := by decide +kernel
theorem dX11_paintings_18 : decode cX11_paintings 18 = .ok (.iconst 0, 1) := by decide +kernel
theorem dX11_paintings_19 : decode cX11_paintings 19 = .ok (.putfield 94, 3) := by decide +kernel
theorem dX11_paintings_22 : decode cX11_paintings 22 = .ok (.aload_n 0, 1) := by decide +kernel
theorem dX11_paintings_23 : decode cX11_paintings 23 = .ok (.iconst 0, 1) := by decide +kernel
theorem dX11_paintings_24 : decode cX11_paintings 24 = .ok (.iconst 0, 1) := by decide +kernel
theorem dX11_paintings_25 : decode cX11_paintings 25 = .ok (.iload_n 1, 1) := by decide +kernel
theorem dX11_paintings_26 : decode cX11_paintings 26 = .ok (.invokevirtual 329, 3) := by decide +kernel
theorem dX11_paintings_29 : decode cX11_paintings 29 = .ok (.lreturn, 1) := by decide +kernel
def fp_X11_paintings (v0 : Nat) (v1 : Int32) (M : zM) : Option (Int64 × zM) :=
  zthis 9 M v0 (
    (fp_X11_isFrom v1 0 9).bind fun (y1 : Int32) =>
    if y1 ≠ 0 then (
      (zpI 9 M v0 1 0).bind fun (M2 : zM) =>
      (fp_X11_ways FD v0 0 0 v1 M2).bind fun p5 => zpp p5 fun (y3 : Int64) (M4 : zM) =>
      some (y3, M4))
    else (
      (fp_X11_refuse v0 1 M).bind fun p8 => zpp p8 fun (y6 : Int32) (M7 : zM) =>
      some ((y6.toInt64), M7)))
set_option maxHeartbeats 4000000 in
set_option maxRecDepth 100000 in
theorem th_X11_paintings {v0 : Nat} {v1 : Int32} {M : zM} {x0 : Int64 × zM} (h : fp_X11_paintings v0 v1 M = some x0) : v0 < zS M ∧ kd v0 = 9 := by
  unfold fp_X11_paintings at h
  exact zthis_of h
set_option maxHeartbeats 4000000 in
set_option maxRecDepth 100000 in
theorem ct_X11_paintings (E : zEnv) (hE : zEok E) (d : Nat) (hd : 23 ≤ d) (v0 : Nat) (v1 : Int32) (M : zM) (x0 : Int64 × zM) (hx : fp_X11_paintings v0 v1 M = some x0) : zCt E mu_X11_paintings d [.ref (E.2.2.2.1 + v0), .int v1] M (some (.long x0.1), x0.2) := by
  refine zCt_of (μ := mu_X11_paintings) (t := fp_X11_paintings v0 v1 M) rfl rfl (Nat.le_of_ble_eq_true rfl) hx ?_
  change zSy E mu_X11_paintings d M (some (.long x0.1), x0.2) x0 (fp_X11_paintings v0 v1 M) 0 [(0, .ref (E.2.2.2.1 + v0)), (1, .int v1)] [] M
  unfold fp_X11_paintings
  refine zs_this (fun hth => ?_)
  refine zs_iload_n dX11_paintings_0 rfl 1 rfl ?_
  refine zs_iconst (v := 0) dX11_paintings_1 ciconst_0 ?_
  refine zs_bipush (v := 9) dX11_paintings_2 cbipush_9 ?_
  refine zs_invSPI (rest := []) [.int v1, .int 0, .int 9] dX11_paintings_4 lk_X11_195 rfl (zd1 rfl hd) rfl (Nat.le_of_ble_eq_true rfl) (ct_X11_isFrom E hE _ (zdl rfl hd) _ _ _ _) (fun y1 => ?_)
  refine zs_if_ne dX11_paintings_7 rfl ?_ ?_
  · refine zs_aload_n dX11_paintings_17 rfl 0 rfl ?_
    refine zs_iconst (v := 0) dX11_paintings_18 ciconst_0 ?_
    refine zs_putI dX11_paintings_19 fl_X11_94 ft_X11 rfl rfl rfl rfl rfl (fun M2 => ?_)
    refine zs_aload_n dX11_paintings_22 rfl 0 rfl ?_
    refine zs_iconst (v := 0) dX11_paintings_23 ciconst_0 ?_
    refine zs_iconst (v := 0) dX11_paintings_24 ciconst_0 ?_
    refine zs_iload_n dX11_paintings_25 rfl 1 rfl ?_
    refine zs_invVWJ (rest := []) [.int 0, .int 0, .int v1] dX11_paintings_26 lk_X11_329 rfl (fun _ h => th_X11_ways h) (zd1 rfl hd) rfl (Nat.le_of_ble_eq_true rfl) (ct_X11_ways E hE FD _ (zdl rfl hd) _ _ _ _ _) (fun y3 M4 => ?_)
    exact zs_lretW dX11_paintings_29 trivial
  refine zs_aload_n dX11_paintings_10 rfl 0 rfl ?_
  refine zs_iconst (v := 1) dX11_paintings_11 ciconst_1 ?_
  refine zs_invVWI (rest := []) [.int 1] dX11_paintings_12 lk_X11_226 rfl (fun _ h => th_X11_refuse h) (zd1 rfl hd) rfl (Nat.le_of_ble_eq_true rfl) (ct_X11_refuse E hE _ (zdl rfl hd) _ _ _) (fun y6 M7 => ?_)
  refine zs_i2l dX11_paintings_15 ?_
  exact zs_lretW dX11_paintings_16 trivial
theorem dX11_wrongModel_0 : decode cX11_wrongModel 0 = .ok (.aload_n 0, 1) := by decide +kernel
theorem dX11_wrongModel_1 : decode cX11_wrongModel 1 = .ok (.iload_n 1, 1) := by decide +kernel
theorem dX11_wrongModel_2 : decode cX11_wrongModel 2 = .ok (.invokevirtual 263, 3) := by decide +kernel
theorem dX11_wrongModel_5 : decode cX11_wrongModel 5 = .ok (.iload_n 1, 1) := by decide +kernel
theorem dX11_wrongModel_6 : decode cX11_wrongModel 6 = .ok (.if_icmp .le 7, 3) := by decide +kernel
theorem dX11_wrongModel_9 : decode cX11_wrongModel 9 = .ok (.iconst 0, 1) := by decide +kernel
theorem dX11_wrongModel_10 : decode cX11_wrongModel 10 = .ok (.goto 5, 3) := by decide +kernel
theorem dX11_wrongModel_13 : decode cX11_wrongModel 13 = .ok (.bipush 6, 2) := by decide +kernel
theorem dX11_wrongModel_15 : decode cX11_wrongModel 15 = .ok (.ireturn, 1) := by decide +kernel
def fp_X11_wrongModel (v0 : Nat) (v1 : Int32) (M : zM) : Option (Int32 × zM) :=
  zthis 9 M v0 (
    (fp_X11_models v0 v1 M).bind fun p3 => zpp p3 fun (y1 : Int32) (M2 : zM) =>
    if y1 ≤ v1 then (
      some (6, M2))
    else (
      some (0, M2)))
set_option maxHeartbeats 4000000 in
set_option maxRecDepth 100000 in
theorem th_X11_wrongModel {v0 : Nat} {v1 : Int32} {M : zM} {x0 : Int32 × zM} (h : fp_X11_wrongModel v0 v1 M = some x0) : v0 < zS M ∧ kd v0 = 9 := by
  unfold fp_X11_wrongModel at h
  exact zthis_of h
set_option maxHeartbeats 4000000 in
set_option maxRecDepth 100000 in
theorem ct_X11_wrongModel (E : zEnv) (hE : zEok E) (d : Nat) (hd : 28 ≤ d) (v0 : Nat) (v1 : Int32) (M : zM) (x0 : Int32 × zM) (hx : fp_X11_wrongModel v0 v1 M = some x0) : zCt E mu_X11_wrongModel d [.ref (E.2.2.2.1 + v0), .int v1] M (some (.int x0.1), x0.2) := by
  refine zCt_of (μ := mu_X11_wrongModel) (t := fp_X11_wrongModel v0 v1 M) rfl rfl (Nat.le_of_ble_eq_true rfl) hx ?_
  change zSy E mu_X11_wrongModel d M (some (.int x0.1), x0.2) x0 (fp_X11_wrongModel v0 v1 M) 0 [(0, .ref (E.2.2.2.1 + v0)), (1, .int v1)] [] M
  unfold fp_X11_wrongModel
  refine zs_this (fun hth => ?_)
  refine zs_aload_n dX11_wrongModel_0 rfl 0 rfl ?_
  refine zs_iload_n dX11_wrongModel_1 rfl 1 rfl ?_
  refine zs_invVWI (rest := []) [.int v1] dX11_wrongModel_2 lk_X11_263 rfl (fun _ h => th_X11_models h) (zd1 rfl hd) rfl (Nat.le_of_ble_eq_true rfl) (ct_X11_models E hE _ (zdl rfl hd) _ _ _) (fun y1 M2 => ?_)
  refine zs_iload_n dX11_wrongModel_5 rfl 1 rfl ?_
  refine zs_icmp_le dX11_wrongModel_6 rfl ?_ ?_
  · refine zs_bipush (v := 6) dX11_wrongModel_13 cbipush_6 ?_
    exact zs_iretW dX11_wrongModel_15 rfl
  refine zs_iconst (v := 0) dX11_wrongModel_9 ciconst_0 ?_
  refine zs_goto dX11_wrongModel_10 rfl ?_
  exact zs_iretW dX11_wrongModel_15 rfl
theorem dX11_letter_0 : decode cX11_letter 0 = .ok (.iload_n 1, 1) := by decide +kernel
theorem dX11_letter_1 : decode cX11_letter 1 = .ok (.ifCond .lt 7, 3) := by decide +kernel
theorem dX11_letter_4 : decode cX11_letter 4 = .ok (.iload_n 2, 1) := by decide +kernel
theorem dX11_letter_5 : decode cX11_letter 5 = .ok (.ifCond .ge 9, 3) := by decide +kernel
theorem dX11_letter_8 : decode cX11_letter 8 = .ok (.aload_n 0, 1) := by decide +kernel
theorem dX11_letter_9 : decode cX11_letter 9 = .ok (.iconst 1, 1) := by decide +kernel
theorem dX11_letter_10 : decode cX11_letter 10 = .ok (.invokevirtual 226, 3) := by decide +kernel
theorem dX11_letter_13 : decode cX11_letter 13 = .ok (.ireturn, 1) := by decide +kernel
theorem dX11_letter_14 : decode cX11_letter 14 = .ok (.aload_n 0, 1) := by decide +kernel
theorem dX11_letter_15 : decode cX11_letter 15 = .ok (.iload_n 1, 1) := by decide +kernel
theorem dX11_letter_16 : decode cX11_letter 16 = .ok (.invokevirtual 391, 3) := by decide +kernel
theorem dX11_letter_19 : decode cX11_letter 19 = .ok (.istore_n 3, 1) := by decide +kernel
theorem dX11_letter_20 : decode cX11_letter 20 = .ok (.iload_n 3, 1) := by decide +kernel
theorem dX11_letter_21 : decode cX11_letter 21 = .ok (.ifCond .ne 14, 3) := by decide +kernel
theorem dX11_letter_24 : decode cX11_letter 24 = .ok (.iload_n 2, 1) := by decide +kernel
theorem dX11_letter_25 : decode cX11_letter 25 = .ok (.aload_n 0, 1) := by decide +kernel
theorem dX11_letter_26 : decode cX11_letter 26 = .ok (.invokevirtual 340, 3) := by decide +kernel
theorem dX11_letter_29 : decode cX11_letter 29 = .ok (.if_icmp .lt 6, 3) := by decide +kernel
theorem dX11_letter_32 : decode cX11_letter 32 = .ok (.bipush 6, 2) := by decide +kernel
theorem dX11_letter_34 : decode cX11_letter 34 = .ok (.istore_n 3, 1) := by decide +kernel
theorem dX11_letter_35 : decode cX11_letter 35 = .ok (.iload_n 3, 1) := by decide +kernel
theorem dX11_letter_36 : decode cX11_letter 36 = .ok (.ifCond .le 11, 3) := by decide +kernel
theorem dX11_letter_39 : decode cX11_letter 39 = .ok (.aload_n 0, 1) := by decide +kernel
theorem dX11_letter_40 : decode cX11_letter 40 = .ok (.iload_n 3, 1) := by decide +kernel
theorem dX11_letter_41 : decode cX11_letter 41 = .ok (.invokevirtual 226, 3) := by decide +kernel
theorem dX11_letter_44 : decode cX11_letter 44 = .ok (.goto 13, 3) := by decide +kernel
theorem dX11_letter_47 : decode cX11_letter 47 = .ok (.aload_n 0, 1) := by decide +kernel
theorem dX11_letter_48 : decode cX11_letter 48 = .ok (.aload_n 0, 1) := by decide +kernel
theorem dX11_letter_49 : decode cX11_letter 49 = .ok (.getfield 79, 3) := by decide +kernel
theorem dX11_letter_52 : decode cX11_letter 52 = .ok (.iload_n 2, 1) := by decide +kernel
theorem dX11_letter_53 : decode cX11_letter 53 = .ok (.iaload, 1) := by decide +kernel
theorem dX11_letter_54 : decode cX11_letter 54 = .ok (.invokevirtual 242, 3) := by decide +kernel
theorem dX11_letter_57 : decode cX11_letter 57 = .ok (.ireturn, 1) := by decide +kernel
def fp_X11_letter (v0 : Nat) (v1 : Int32) (v2 : Int32) (M : zM) : Option (Int32 × zM) :=
  zthis 9 M v0 (
    if v1 < 0 then (
      (fp_X11_refuse v0 1 M).bind fun p3 => zpp p3 fun (y1 : Int32) (M2 : zM) =>
      some (y1, M2))
    else (
      if v2 ≥ 0 then (
        (fp_X11_wrongModel v0 v1 M).bind fun p6 => zpp p6 fun (y4 : Int32) (M5 : zM) =>
        zjn (fun (v3_7 : Int32) =>
            if v3_7 ≤ 0 then (
              (zgR 9 M5 v0 34).bind fun (y8 : Nat) =>
              (zlI 100 M5 y8 v2).bind fun (y9 : Int32) =>
              (fp_X11_gives v0 y9 M5).bind fun p12 => zpp p12 fun (y10 : Int32) (M11 : zM) =>
              some (y10, M11))
            else (
              (fp_X11_refuse v0 v3_7 M5).bind fun p15 => zpp p15 fun (y13 : Int32) (M14 : zM) =>
              some (y13, M14)))
          (fun j35 =>
            if y4 ≠ 0 then (
              j35 y4)
            else (
              (fp_X11_length v0 M5).bind fun (y16 : Int32) =>
              if v2 < y16 then (
                j35 y4)
              else (
                j35 6))))
      else (
        (fp_X11_refuse v0 1 M).bind fun p19 => zpp p19 fun (y17 : Int32) (M18 : zM) =>
        some (y17, M18))))
set_option maxHeartbeats 4000000 in
set_option maxRecDepth 100000 in
theorem th_X11_letter {v0 : Nat} {v1 : Int32} {v2 : Int32} {M : zM} {x0 : Int32 × zM} (h : fp_X11_letter v0 v1 v2 M = some x0) : v0 < zS M ∧ kd v0 = 9 := by
  unfold fp_X11_letter at h
  exact zthis_of h
set_option maxHeartbeats 4000000 in
set_option maxRecDepth 100000 in
theorem ct_X11_letter (E : zEnv) (hE : zEok E) (d : Nat) (hd : 29 ≤ d) (v0 : Nat) (v1 : Int32) (v2 : Int32) (M : zM) (x0 : Int32 × zM) (hx : fp_X11_letter v0 v1 v2 M = some x0) : zCt E mu_X11_letter d [.ref (E.2.2.2.1 + v0), .int v1, .int v2] M (some (.int x0.1), x0.2) := by
  refine zCt_of (μ := mu_X11_letter) (t := fp_X11_letter v0 v1 v2 M) rfl rfl (Nat.le_of_ble_eq_true rfl) hx ?_
  change zSy E mu_X11_letter d M (some (.int x0.1), x0.2) x0 (fp_X11_letter v0 v1 v2 M) 0 [(0, .ref (E.2.2.2.1 + v0)), (1, .int v1), (2, .int v2)] [] M
  unfold fp_X11_letter
  refine zs_this (fun hth => ?_)
  refine zs_iload_n dX11_letter_0 rfl 1 rfl ?_
  refine zs_if_lt dX11_letter_1 rfl ?_ ?_
  · refine zs_aload_n dX11_letter_8 rfl 0 rfl ?_
    refine zs_iconst (v := 1) dX11_letter_9 ciconst_1 ?_
    refine zs_invVWI (rest := []) [.int 1] dX11_letter_10 lk_X11_226 rfl (fun _ h => th_X11_refuse h) (zd1 rfl hd) rfl (Nat.le_of_ble_eq_true rfl) (ct_X11_refuse E hE _ (zdl rfl hd) _ _ _) (fun y1 M2 => ?_)
    exact zs_iretW dX11_letter_13 rfl
  refine zs_iload_n dX11_letter_4 rfl 2 rfl ?_
  refine zs_if_ge dX11_letter_5 rfl ?_ ?_
  · refine zs_aload_n dX11_letter_14 rfl 0 rfl ?_
    refine zs_iload_n dX11_letter_15 rfl 1 rfl ?_
    refine zs_invVWI (rest := []) [.int v1] dX11_letter_16 lk_X11_391 rfl (fun _ h => th_X11_wrongModel h) (zd1 rfl hd) rfl (Nat.le_of_ble_eq_true rfl) (ct_X11_wrongModel E hE _ (zdl rfl hd) _ _ _) (fun y4 M5 => ?_)
    refine zs_istore_n (loc' := [(0, .ref (E.2.2.2.1 + v0)), (2, .int v2), (3, .int y4)]) dX11_letter_19 rfl (Nat.le_of_ble_eq_true rfl) [1, 3, 0] rfl ?_
    refine zs_iload_n dX11_letter_20 rfl 2 rfl ?_
    refine zs_jn (fun j35 => ∀ (v3_7 : Int32), zSy E mu_X11_letter d M (some (.int x0.1), x0.2) x0 (j35 v3_7) 35 [(0, .ref (E.2.2.2.1 + v0)), (2, .int v2), (3, .int v3_7)] [] M5) (fun v3_7 => ?_) (fun j35 hj35 => ?_)
    · refine zs_iload_n dX11_letter_35 rfl 2 rfl ?_
      refine zs_if_le dX11_letter_36 rfl ?_ ?_
      · refine zs_aload_n dX11_letter_47 rfl 0 rfl ?_
        refine zs_aload_n dX11_letter_48 rfl 0 rfl ?_
        refine zs_getR dX11_letter_49 fl_X11_79 rfl (fun y8 => ?_)
        refine zs_iload_n dX11_letter_52 rfl 1 rfl ?_
        refine zs_ldI dX11_letter_53 (fun y9 => ?_)
        refine zs_invVWI (rest := []) [.int y9] dX11_letter_54 lk_X11_242 rfl (fun _ h => th_X11_gives h) (zd1 rfl hd) rfl (Nat.le_of_ble_eq_true rfl) (ct_X11_gives E hE _ (zdl rfl hd) _ _ _) (fun y10 M11 => ?_)
        exact zs_iretW dX11_letter_57 rfl
      refine zs_aload_n dX11_letter_39 rfl 0 rfl ?_
      refine zs_iload_n dX11_letter_40 rfl 2 rfl ?_
      refine zs_invVWI (rest := []) [.int v3_7] dX11_letter_41 lk_X11_226 rfl (fun _ h => th_X11_refuse h) (zd1 rfl hd) rfl (Nat.le_of_ble_eq_true rfl) (ct_X11_refuse E hE _ (zdl rfl hd) _ _ _) (fun y13 M14 => ?_)
      refine zs_goto dX11_letter_44 rfl ?_
      exact zs_iretW dX11_letter_57 rfl
    refine zs_if_ne dX11_letter_21 rfl ?_ ?_
    · exact hj35 y4
    refine zs_iload_n dX11_letter_24 rfl 1 rfl ?_
    refine zs_aload_n dX11_letter_25 rfl 0 rfl ?_
    refine zs_invVPI (rest := [.int v2]) [] dX11_letter_26 lk_X11_340 rfl (fun _ h => th_X11_length h) (zd1 rfl hd) rfl (Nat.le_of_ble_eq_true rfl) (ct_X11_length E hE _ (zdl rfl hd) _ _) (fun y16 => ?_)
    refine zs_icmp_lt dX11_letter_29 rfl ?_ ?_
    · exact hj35 y4
    refine zs_bipush (v := 6) dX11_letter_32 cbipush_6 ?_
    refine zs_istore_n (loc' := [(0, .ref (E.2.2.2.1 + v0)), (2, .int v2), (3, .int 6)]) dX11_letter_34 rfl (Nat.le_of_ble_eq_true rfl) [1, 2, 0] rfl ?_
    exact hj35 6
  refine zs_aload_n dX11_letter_8 rfl 0 rfl ?_
  refine zs_iconst (v := 1) dX11_letter_9 ciconst_1 ?_
  refine zs_invVWI (rest := []) [.int 1] dX11_letter_10 lk_X11_226 rfl (fun _ h => th_X11_refuse h) (zd1 rfl hd) rfl (Nat.le_of_ble_eq_true rfl) (ct_X11_refuse E hE _ (zdl rfl hd) _ _ _) (fun y17 M18 => ?_)
  exact zs_iretW dX11_letter_13 rfl
theorem dX11_spanOf_0 : decode cX11_spanOf 0 = .ok (.iconst (-1), 1) := by decide +kernel
theorem dX11_spanOf_1 : decode cX11_spanOf 1 = .ok (.istore_n 2, 1) := by decide +kernel
theorem dX11_spanOf_2 : decode cX11_spanOf 2 = .ok (.iconst (-1), 1) := by decide +kernel
theorem dX11_spanOf_3 : decode cX11_spanOf 3 = .ok (.istore_n 3, 1) := by decide +kernel
theorem dX11_spanOf_4 : decode cX11_spanOf 4 = .ok (.iconst 0, 1) := by decide +kernel
theorem dX11_spanOf_5 : decode cX11_spanOf 5 = .ok (.istore 4, 2) := by decide +kernel
theorem dX11_spanOf_7 : decode cX11_spanOf 7 = .ok (.iload 4, 2) := by decide +kernel
theorem dX11_spanOf_9 : decode cX11_spanOf 9 = .ok (.aload_n 0, 1) := by decide +kernel
theorem dX11_spanOf_10 : decode cX11_spanOf 10 = .ok (.invokevirtual 340, 3) := by decide +kernel
theorem dX11_spanOf_13 : decode cX11_spanOf 13 = .ok (.if_icmp .ge 38, 3) := by decide +kernel
theorem dX11_spanOf_16 : decode cX11_spanOf 16 = .ok (.aload_n 0, 1) := by decide +kernel
theorem dX11_spanOf_17 : decode cX11_spanOf 17 = .ok (.getfield 79, 3) := by decide +kernel
theorem dX11_spanOf_20 : decode cX11_spanOf 20 = .ok (.iload 4, 2) := by decide +kernel
theorem dX11_spanOf_22 : decode cX11_spanOf 22 = .ok (.iaload, 1) := by decide +kernel
theorem dX11_spanOf_23 : decode cX11_spanOf 23 = .ok (.iload_n 1, 1) := by decide +kernel
theorem dX11_spanOf_24 : decode cX11_spanOf 24 = .ok (.if_icmp .eq 6, 3) := by decide +kernel
theorem dX11_spanOf_27 : decode cX11_spanOf 27 = .ok (.goto 18, 3) := by decide +kernel
theorem dX11_spanOf_30 : decode cX11_spanOf 30 = .ok (.iload_n 2, 1) := by decide +kernel
theorem dX11_spanOf_31 : decode cX11_spanOf 31 = .ok (.iconst (-1), 1) := by decide +kernel
theorem dX11_spanOf_32 : decode cX11_spanOf 32 = .ok (.if_icmp .ne 8, 3) := by decide +kernel
theorem dX11_spanOf_35 : decode cX11_spanOf 35 = .ok (.iload 4, 2) := by decide +kernel
theorem dX11_spanOf_37 : decode cX11_spanOf 37 = .ok (.goto 4, 3) := by decide +kernel
theorem dX11_spanOf_40 : decode cX11_spanOf 40 = .ok (.iload_n 2, 1) := by decide +kernel
theorem dX11_spanOf_41 : decode cX11_spanOf 41 = .ok (.istore_n 2, 1) := by decide +kernel
theorem dX11_spanOf_42 : decode cX11_spanOf 42 = .ok (.iload 4, 2) := by decide +kernel
theorem dX11_spanOf_44 : decode cX11_spanOf 44 = .ok (.istore_n 3, 1) := by decide +kernel
theorem dX11_spanOf_45 : decode cX11_spanOf 45 = .ok (.iinc 4 1, 3) := by decide +kernel
theorem dX11_spanOf_48 : decode cX11_spanOf 48 = .ok (.goto (-41), 3) := by decide +kernel
theorem dX11_spanOf_51 : decode cX11_spanOf 51 = .ok (.iload_n 3, 1) := by decide +kernel
theorem dX11_spanOf_52 : decode cX11_spanOf 52 = .ok (.iload_n 2, 1) := by decide +kernel
theorem dX11_spanOf_53 : decode cX11_spanOf 53 = .ok (.isub, 1) := by decide +kernel
theorem dX11_spanOf_54 : decode cX11_spanOf 54 = .ok (.aload_n 0, 1) := by decide +kernel
theorem dX11_spanOf_55 : decode cX11_spanOf 55 = .ok (.invokevirtual 340, 3) := by decide +kernel
theorem dX11_spanOf_58 : decode cX11_spanOf 58 = .ok (.iload_n 3, 1) := by decide +kernel
theorem dX11_spanOf_59 : decode cX11_spanOf 59 = .ok (.isub, 1) := by decide +kernel
theorem dX11_spanOf_60 : decode cX11_spanOf 60 = .ok (.iload_n 2, 1) := by decide +kernel
theorem dX11_spanOf_61 : decode cX11_spanOf 61 = .ok (.iadd, 1) := by decide +kernel
theorem dX11_spanOf_62 : decode cX11_spanOf 62 = .ok (.invokestatic 112, 3) := by decide +kernel
theorem dX11_spanOf_65 : decode cX11_spanOf 65 = .ok (.ireturn, 1) := by decide +kernel
def fp_X11_spanOf_L7 (k51 : Int32 → Int32 → Option (Int32)) (v0 : Nat) (v1 : Int32) (M : zM) : Nat → Int32 → Int32 → Int32 → Option (Int32)
  | 0, _, _, _ => none
  | n + 1, v2, v3, v4 =>
    (fp_X11_length v0 M).bind fun (y1 : Int32) =>
    if v4 ≥ y1 then (
      k51 v2 v3)
    else (
      (zgR 9 M v0 34).bind fun (y2 : Nat) =>
      (zlI 100 M y2 v4).bind fun (y3 : Int32) =>
      zjn (fun (v2_4 : Int32) (v3_5 : Int32) =>
          fp_X11_spanOf_L7 k51 v0 v1 M n v2_4 v3_5 (v4 + 1))
        (fun j45 =>
          if y3 = v1 then (
            zjn (fun (s6 : Int32) =>
                j45 s6 v4)
              (fun j41 =>
                if v2 ≠ (-1) then (
                  j41 v2)
                else (
                  j41 v4)))
          else (
            j45 v2 v3)))
def fp_X11_spanOf (v0 : Nat) (v1 : Int32) (M : zM) : Option (Int32) :=
  zthis 9 M v0 (
    fp_X11_spanOf_L7
      (fun v2_7 v3_8 =>
        (fp_X11_length v0 M).bind fun (y9 : Int32) =>
        some (kmin (v3_8 - v2_7) ((y9 - v3_8) + v2_7))) v0 v1 M FU (-1) (-1) 0)
set_option maxHeartbeats 4000000 in
set_option maxRecDepth 100000 in
theorem th_X11_spanOf {v0 : Nat} {v1 : Int32} {M : zM} {x0 : Int32} (h : fp_X11_spanOf v0 v1 M = some x0) : v0 < zS M ∧ kd v0 = 9 := by
  unfold fp_X11_spanOf at h
  exact zthis_of h
set_option maxHeartbeats 4000000 in
set_option maxRecDepth 100000 in
theorem w_X11_spanOf_L7 (E : zEnv) (hE : zEok E) (d : Nat) (hd : 2 ≤ d) (x0 : Int32) (v0 : Nat) (v1 : Int32) (M : zM) (k51 : Int32 → Int32 → Option (Int32)) (hk51 : ∀ (v2 : Int32) (v3 : Int32), zSy E mu_X11_spanOf d M (some (.int x0), M) x0 (k51 v2 v3) 51 [(0, .ref (E.2.2.2.1 + v0)), (2, .int v2), (3, .int v3)] [] M) : ∀ (n : Nat) (v2 : Int32) (v3 : Int32) (v4 : Int32), zSy E mu_X11_spanOf d M (some (.int x0), M) x0 (fp_X11_spanOf_L7 k51 v0 v1 M n v2 v3 v4) 7 [(0, .ref (E.2.2.2.1 + v0)), (1, .int v1), (2, .int v2), (3, .int v3), (4, .int v4)] [] M := by
  intro n
  induction n with
  | zero =>
    intro v2 v3 v4
    rw [fp_X11_spanOf_L7]
    exact zs_none
  | succ n ih =>
    intro v2 v3 v4
    rw [fp_X11_spanOf_L7]
    refine zs_iload dX11_spanOf_7 4 rfl ?_
    refine zs_aload_n dX11_spanOf_9 rfl 0 rfl ?_
    refine zs_invVPI (rest := [.int v4]) [] dX11_spanOf_10 lk_X11_340 rfl (fun _ h => th_X11_length h) (zd1 rfl hd) rfl (Nat.le_of_ble_eq_true rfl) (ct_X11_length E hE _ (zdl rfl hd) _ _) (fun y1 => ?_)
    refine zs_icmp_ge dX11_spanOf_13 rfl ?_ ?_
    · refine zs_sub (loc' := [(0, .ref (E.2.2.2.1 + v0)), (2, .int v2), (3, .int v3)]) [0, 2, 3] rfl ?_
      exact hk51 v2 v3
    refine zs_aload_n dX11_spanOf_16 rfl 0 rfl ?_
    refine zs_getR dX11_spanOf_17 fl_X11_79 rfl (fun y2 => ?_)
    refine zs_iload dX11_spanOf_20 4 rfl ?_
    refine zs_ldI dX11_spanOf_22 (fun y3 => ?_)
    refine zs_iload_n dX11_spanOf_23 rfl 1 rfl ?_
    refine zs_jn (fun j45 => ∀ (v2_4 : Int32) (v3_5 : Int32), zSy E mu_X11_spanOf d M (some (.int x0), M) x0 (j45 v2_4 v3_5) 45 [(0, .ref (E.2.2.2.1 + v0)), (1, .int v1), (2, .int v2_4), (3, .int v3_5), (4, .int v4)] [] M) (fun v2_4 v3_5 => ?_) (fun j45 hj45 => ?_)
    · refine zs_iinc (v := (v4 + 1)) (loc' := [(0, .ref (E.2.2.2.1 + v0)), (1, .int v1), (2, .int v2_4), (3, .int v3_5), (4, .int (v4 + 1))]) dX11_spanOf_45 4 rfl (by rfl) (Nat.le_of_ble_eq_true rfl) [1, 2, 3, 4, 0] rfl ?_
      refine zs_goto dX11_spanOf_48 rfl ?_
      exact ih v2_4 v3_5 (v4 + 1)
    refine zs_icmp_eq dX11_spanOf_24 rfl ?_ ?_
    · refine zs_iload_n dX11_spanOf_30 rfl 2 rfl ?_
      refine zs_iconst (v := (-1)) dX11_spanOf_31 ciconst_m1 ?_
      refine zs_jn (fun j41 => ∀ (s6 : Int32), zSy E mu_X11_spanOf d M (some (.int x0), M) x0 (j41 s6) 41 [(0, .ref (E.2.2.2.1 + v0)), (1, .int v1), (4, .int v4)] [.int s6] M) (fun s6 => ?_) (fun j41 hj41 => ?_)
      · refine zs_istore_n (loc' := [(0, .ref (E.2.2.2.1 + v0)), (1, .int v1), (2, .int s6), (4, .int v4)]) dX11_spanOf_41 rfl (Nat.le_of_ble_eq_true rfl) [1, 2, 0, 3] rfl ?_
        refine zs_iload dX11_spanOf_42 3 rfl ?_
        refine zs_istore_n (loc' := [(0, .ref (E.2.2.2.1 + v0)), (1, .int v1), (2, .int s6), (3, .int v4), (4, .int v4)]) dX11_spanOf_44 rfl (Nat.le_of_ble_eq_true rfl) [1, 2, 3, 0, 4] rfl ?_
        exact hj45 s6 v4
      refine zs_icmp_ne dX11_spanOf_32 rfl ?_ ?_
      · refine zs_iload_n dX11_spanOf_40 rfl 2 rfl ?_
        refine zs_sub (loc' := [(0, .ref (E.2.2.2.1 + v0)), (1, .int v1), (4, .int v4)]) [0, 1, 4] rfl ?_
        exact hj41 v2
      refine zs_iload dX11_spanOf_35 4 rfl ?_
      refine zs_goto dX11_spanOf_37 rfl ?_
      refine zs_sub (loc' := [(0, .ref (E.2.2.2.1 + v0)), (1, .int v1), (4, .int v4)]) [0, 1, 4] rfl ?_
      exact hj41 v4
    refine zs_goto dX11_spanOf_27 rfl ?_
    exact hj45 v2 v3
set_option maxHeartbeats 4000000 in
set_option maxRecDepth 100000 in
theorem ct_X11_spanOf (E : zEnv) (hE : zEok E) (d : Nat) (hd : 2 ≤ d) (v0 : Nat) (v1 : Int32) (M : zM) (x0 : Int32) (hx : fp_X11_spanOf v0 v1 M = some x0) : zCt E mu_X11_spanOf d [.ref (E.2.2.2.1 + v0), .int v1] M (some (.int x0), M) := by
  refine zCt_of (μ := mu_X11_spanOf) (t := fp_X11_spanOf v0 v1 M) rfl rfl (Nat.le_of_ble_eq_true rfl) hx ?_
  change zSy E mu_X11_spanOf d M (some (.int x0), M) x0 (fp_X11_spanOf v0 v1 M) 0 [(0, .ref (E.2.2.2.1 + v0)), (1, .int v1)] [] M
  unfold fp_X11_spanOf
  refine zs_this (fun hth => ?_)
  refine zs_iconst (v := (-1)) dX11_spanOf_0 ciconst_m1 ?_
  refine zs_istore_n (loc' := [(0, .ref (E.2.2.2.1 + v0)), (1, .int v1), (2, .int (-1))]) dX11_spanOf_1 rfl (Nat.le_of_ble_eq_true rfl) [1, 2, 0] rfl ?_
  refine zs_iconst (v := (-1)) dX11_spanOf_2 ciconst_m1 ?_
  refine zs_istore_n (loc' := [(0, .ref (E.2.2.2.1 + v0)), (1, .int v1), (2, .int (-1)), (3, .int (-1))]) dX11_spanOf_3 rfl (Nat.le_of_ble_eq_true rfl) [1, 2, 3, 0] rfl ?_
  refine zs_iconst (v := 0) dX11_spanOf_4 ciconst_0 ?_
  refine zs_istore (loc' := [(0, .ref (E.2.2.2.1 + v0)), (1, .int v1), (2, .int (-1)), (3, .int (-1)), (4, .int 0)]) dX11_spanOf_5 (Nat.le_of_ble_eq_true rfl) [1, 2, 3, 4, 0] rfl ?_
  refine w_X11_spanOf_L7 E hE d hd _ _ _ _ _ (fun v2_7 v3_8 => ?_) _ _ _ _
  refine zs_iload_n dX11_spanOf_51 rfl 2 rfl ?_
  refine zs_iload_n dX11_spanOf_52 rfl 1 rfl ?_
  refine zs_isub dX11_spanOf_53 ?_
  refine zs_aload_n dX11_spanOf_54 rfl 0 rfl ?_
  refine zs_invVPI (rest := [.int (v3_8 - v2_7)]) [] dX11_spanOf_55 lk_X11_340 rfl (fun _ h => th_X11_length h) (zd1 rfl hd) rfl (Nat.le_of_ble_eq_true rfl) (ct_X11_length E hE _ (zdl rfl hd) _ _) (fun y9 => ?_)
  refine zs_iload_n dX11_spanOf_58 rfl 2 rfl ?_
  refine zs_isub dX11_spanOf_59 ?_
  refine zs_iload_n dX11_spanOf_60 rfl 1 rfl ?_
  refine zs_iadd dX11_spanOf_61 ?_
  refine zs_min dX11_spanOf_62 (ti_6 103 rfl rfl) ms_min mi_Math mc_min (zd0 rfl hd) (Nat.le_of_ble_eq_true rfl) ?_
  exact zs_iretP dX11_spanOf_65 rfl
theorem dX11_span_0 : decode cX11_span 0 = .ok (.iload_n 1, 1) := by decide +kernel
theorem dX11_span_1 : decode cX11_span 1 = .ok (.ifCond .ge 9, 3) := by decide +kernel
theorem dX11_span_4 : decode cX11_span 4 = .ok (.aload_n 0, 1) := by decide +kernel
theorem dX11_span_5 : decode cX11_span 5 = .ok (.iconst 1, 1) := by decide +kernel
theorem dX11_span_6 : decode cX11_span 6 = .ok (.invokevirtual 226, 3) := by decide +kernel
theorem dX11_span_9 : decode cX11_span 9 = .ok (.ireturn, 1) := by decide +kernel
theorem dX11_span_10 : decode cX11_span 10 = .ok (.aload_n 0, 1) := by decide +kernel
theorem dX11_span_11 : decode cX11_span 11 = .ok (.iload_n 2, 1) := by decide +kernel
theorem dX11_span_12 : decode cX11_span 12 = .ok (.invokevirtual 269, 3) := by decide +kernel
theorem dX11_span_15 : decode cX11_span 15 = .ok (.ifCond .ne 9, 3) := by decide +kernel
theorem dX11_span_18 : decode cX11_span 18 = .ok (.aload_n 0, 1) := by decide +kernel
theorem dX11_span_19 : decode cX11_span 19 = .ok (.iconst 2, 1) := by decide +kernel
theorem dX11_span_20 : decode cX11_span 20 = .ok (.invokevirtual 226, 3) := by decide +kernel
theorem dX11_span_23 : decode cX11_span 23 = .ok (.ireturn, 1) := by decide +kernel
theorem dX11_span_24 : decode cX11_span 24 = .ok (.aload_n 0, 1) := by decide +kernel
theorem dX11_span_25 : decode cX11_span 25 = .ok (.iload_n 1, 1) := by decide +kernel
theorem dX11_span_26 : decode cX11_span 26 = .ok (.invokevirtual 391, 3) := by decide +kernel
theorem dX11_span_29 : decode cX11_span 29 = .ok (.ifCond .le 12, 3) := by decide +kernel
theorem dX11_span_32 : decode cX11_span 32 = .ok (.aload_n 0, 1) := by decide +kernel
theorem dX11_span_33 : decode cX11_span 33 = .ok (.bipush 6, 2) := by decide +kernel
theorem dX11_span_35 : decode cX11_span 35 = .ok (.invokevirtual 226, 3) := by decide +kernel
theorem dX11_span_38 : decode cX11_span 38 = .ok (.goto 12, 3) := by decide +kernel
theorem dX11_span_41 : decode cX11_span 41 = .ok (.aload_n 0, 1) := by decide +kernel
theorem dX11_span_42 : decode cX11_span 42 = .ok (.aload_n 0, 1) := by decide +kernel
theorem dX11_span_43 : decode cX11_span 43 = .ok (.iload_n 2, 1) := by decide +kernel
theorem dX11_span_44 : decode cX11_span 44 = .ok (.invokevirtual 394, 3) := by decide +kernel
theorem dX11_span_47 : decode cX11_span 47 = .ok (.invokevirtual 242, 3) := by decide +kernel
theorem dX11_span_50 : decode cX11_span 50 = .ok (.ireturn, 1) := by decide +kernel
def fp_X11_span (v0 : Nat) (v1 : Int32) (v2 : Int32) (M : zM) : Option (Int32 × zM) :=
  zthis 9 M v0 (
    if v1 ≥ 0 then (
      (fp_X11_isPoint v0 v2 M).bind fun (y1 : Int32) =>
      if y1 ≠ 0 then (
        (fp_X11_wrongModel v0 v1 M).bind fun p4 => zpp p4 fun (y2 : Int32) (M3 : zM) =>
        if y2 ≤ 0 then (
          (fp_X11_spanOf v0 v2 M3).bind fun (y5 : Int32) =>
          (fp_X11_gives v0 y5 M3).bind fun p8 => zpp p8 fun (y6 : Int32) (M7 : zM) =>
          some (y6, M7))
        else (
          (fp_X11_refuse v0 6 M3).bind fun p11 => zpp p11 fun (y9 : Int32) (M10 : zM) =>
          some (y9, M10)))
      else (
        (fp_X11_refuse v0 2 M).bind fun p14 => zpp p14 fun (y12 : Int32) (M13 : zM) =>
        some (y12, M13)))
    else (
      (fp_X11_refuse v0 1 M).bind fun p17 => zpp p17 fun (y15 : Int32) (M16 : zM) =>
      some (y15, M16)))
set_option maxHeartbeats 4000000 in
set_option maxRecDepth 100000 in
theorem th_X11_span {v0 : Nat} {v1 : Int32} {v2 : Int32} {M : zM} {x0 : Int32 × zM} (h : fp_X11_span v0 v1 v2 M = some x0) : v0 < zS M ∧ kd v0 = 9 := by
  unfold fp_X11_span at h
  exact zthis_of h
set_option maxHeartbeats 4000000 in
set_option maxRecDepth 100000 in
theorem ct_X11_span (E : zEnv) (hE : zEok E) (d : Nat) (hd : 29 ≤ d) (v0 : Nat) (v1 : Int32) (v2 : Int32) (M : zM) (x0 : Int32 × zM) (hx : fp_X11_span v0 v1 v2 M = some x0) : zCt E mu_X11_span d [.ref (E.2.2.2.1 + v0), .int v1, .int v2] M (some (.int x0.1), x0.2) := by
  refine zCt_of (μ := mu_X11_span) (t := fp_X11_span v0 v1 v2 M) rfl rfl (Nat.le_of_ble_eq_true rfl) hx ?_
  change zSy E mu_X11_span d M (some (.int x0.1), x0.2) x0 (fp_X11_span v0 v1 v2 M) 0 [(0, .ref (E.2.2.2.1 + v0)), (1, .int v1), (2, .int v2)] [] M
  unfold fp_X11_span
  refine zs_this (fun hth => ?_)
  refine zs_iload_n dX11_span_0 rfl 1 rfl ?_
  refine zs_if_ge dX11_span_1 rfl ?_ ?_
  · refine zs_aload_n dX11_span_10 rfl 0 rfl ?_
    refine zs_iload_n dX11_span_11 rfl 2 rfl ?_
    refine zs_invVPI (rest := []) [.int v2] dX11_span_12 lk_X11_269 rfl (fun _ h => th_X11_isPoint h) (zd1 rfl hd) rfl (Nat.le_of_ble_eq_true rfl) (ct_X11_isPoint E hE _ (zdl rfl hd) _ _ _) (fun y1 => ?_)
    refine zs_if_ne dX11_span_15 rfl ?_ ?_
    · refine zs_aload_n dX11_span_24 rfl 0 rfl ?_
      refine zs_iload_n dX11_span_25 rfl 1 rfl ?_
      refine zs_invVWI (rest := []) [.int v1] dX11_span_26 lk_X11_391 rfl (fun _ h => th_X11_wrongModel h) (zd1 rfl hd) rfl (Nat.le_of_ble_eq_true rfl) (ct_X11_wrongModel E hE _ (zdl rfl hd) _ _ _) (fun y2 M3 => ?_)
      refine zs_if_le dX11_span_29 rfl ?_ ?_
      · refine zs_aload_n dX11_span_41 rfl 0 rfl ?_
        refine zs_aload_n dX11_span_42 rfl 0 rfl ?_
        refine zs_iload_n dX11_span_43 rfl 2 rfl ?_
        refine zs_invVPI (rest := [.ref (E.2.2.2.1 + v0)]) [.int v2] dX11_span_44 lk_X11_394 rfl (fun _ h => th_X11_spanOf h) (zd1 rfl hd) rfl (Nat.le_of_ble_eq_true rfl) (ct_X11_spanOf E hE _ (zdl rfl hd) _ _ _) (fun y5 => ?_)
        refine zs_invVWI (rest := []) [.int y5] dX11_span_47 lk_X11_242 rfl (fun _ h => th_X11_gives h) (zd1 rfl hd) rfl (Nat.le_of_ble_eq_true rfl) (ct_X11_gives E hE _ (zdl rfl hd) _ _ _) (fun y6 M7 => ?_)
        exact zs_iretW dX11_span_50 rfl
      refine zs_aload_n dX11_span_32 rfl 0 rfl ?_
      refine zs_bipush (v := 6) dX11_span_33 cbipush_6 ?_
      refine zs_invVWI (rest := []) [.int 6] dX11_span_35 lk_X11_226 rfl (fun _ h => th_X11_refuse h) (zd1 rfl hd) rfl (Nat.le_of_ble_eq_true rfl) (ct_X11_refuse E hE _ (zdl rfl hd) _ _ _) (fun y9 M10 => ?_)
      refine zs_goto dX11_span_38 rfl ?_
      exact zs_iretW dX11_span_50 rfl
    refine zs_aload_n dX11_span_18 rfl 0 rfl ?_
    refine zs_iconst (v := 2) dX11_span_19 ciconst_2 ?_
    refine zs_invVWI (rest := []) [.int 2] dX11_span_20 lk_X11_226 rfl (fun _ h => th_X11_refuse h) (zd1 rfl hd) rfl (Nat.le_of_ble_eq_true rfl) (ct_X11_refuse E hE _ (zdl rfl hd) _ _ _) (fun y12 M13 => ?_)
    exact zs_iretW dX11_span_23 rfl
  refine zs_aload_n dX11_span_4 rfl 0 rfl ?_
  refine zs_iconst (v := 1) dX11_span_5 ciconst_1 ?_
  refine zs_invVWI (rest := []) [.int 1] dX11_span_6 lk_X11_226 rfl (fun _ h => th_X11_refuse h) (zd1 rfl hd) rfl (Nat.le_of_ble_eq_true rfl) (ct_X11_refuse E hE _ (zdl rfl hd) _ _ _) (fun y15 M16 => ?_)
  exact zs_iretW dX11_span_9 rfl
theorem dX11_quotient_0 : decode cX11_quotient 0 = .ok (.lload_n 0, 1) := by decide +kernel
theorem dX11_quotient_1 : decode cX11_quotient 1 = .ok (.lstore 4, 2) := by decide +kernel
theorem dX11_quotient_3 : decode cX11_quotient 3 = .ok (.lload_n 2, 1) := by decide +kernel
theorem dX11_quotient_4 : decode cX11_quotient 4 = .ok (.lstore 6, 2) := by decide +kernel
theorem dX11_quotient_6 : decode cX11_quotient 6 = .ok (.iconst 0, 1) := by decide +kernel
theorem dX11_quotient_7 : decode cX11_quotient 7 = .ok (.istore 8, 2) := by decide +kernel
theorem dX11_quotient_9 : decode cX11_quotient 9 = .ok (.lload 4, 2) := by decide +kernel
theorem dX11_quotient_11 : decode cX11_quotient 11 = .ok (.lconst 0, 1) := by decide +kernel
theorem dX11_quotient_12 : decode cX11_quotient 12 = .ok (.lcmp, 1) := by decide +kernel
theorem dX11_quotient_13 : decode cX11_quotient 13 = .ok (.ifCond .ne 5, 3) := by decide +kernel
theorem dX11_quotient_16 : decode cX11_quotient 16 = .ok (.iconst 0, 1) := by decide +kernel
theorem dX11_quotient_17 : decode cX11_quotient 17 = .ok (.ireturn, 1) := by decide +kernel
theorem dX11_quotient_18 : decode cX11_quotient 18 = .ok (.lload 4, 2) := by decide +kernel
theorem dX11_quotient_20 : decode cX11_quotient 20 = .ok (.ldc2_w 397, 3) := by decide +kernel
theorem dX11_quotient_23 : decode cX11_quotient 23 = .ok (.lload 6, 2) := by decide +kernel
theorem dX11_quotient_25 : decode cX11_quotient 25 = .ok (.lmul, 1) := by decide +kernel
theorem dX11_quotient_26 : decode cX11_quotient 26 = .ok (.lcmp, 1) := by decide +kernel
theorem dX11_quotient_27 : decode cX11_quotient 27 = .ok (.ifCond .lt 17, 3) := by decide +kernel
theorem dX11_quotient_30 : decode cX11_quotient 30 = .ok (.lload 6, 2) := by decide +kernel
theorem dX11_quotient_32 : decode cX11_quotient 32 = .ok (.ldc2_w 397, 3) := by decide +kernel
theorem dX11_quotient_35 : decode cX11_quotient 35 = .ok (.lmul, 1) := by decide +kernel
theorem dX11_quotient_36 : decode cX11_quotient 36 = .ok (.lstore 6, 2) := by decide +kernel
theorem dX11_quotient_38 : decode cX11_quotient 38 = .ok (.iinc 8 1, 3) := by decide +kernel
theorem dX11_quotient_41 : decode cX11_quotient 41 = .ok (.goto (-23), 3) := by decide +kernel
theorem dX11_quotient_44 : decode cX11_quotient 44 = .ok (.lload 4, 2) := by decide +kernel
theorem dX11_quotient_46 : decode cX11_quotient 46 = .ok (.lload 6, 2) := by decide +kernel
theorem dX11_quotient_48 : decode cX11_quotient 48 = .ok (.lcmp, 1) := by decide +kernel
theorem dX11_quotient_49 : decode cX11_quotient 49 = .ok (.ifCond .ge 17, 3) := by decide +kernel
theorem dX11_quotient_52 : decode cX11_quotient 52 = .ok (.lload 4, 2) := by decide +kernel
theorem dX11_quotient_54 : decode cX11_quotient 54 = .ok (.ldc2_w 397, 3) := by decide +kernel
theorem dX11_quotient_57 : decode cX11_quotient 57 = .ok (.lmul, 1) := by decide +kernel
theorem dX11_quotient_58 : decode cX11_quotient 58 = .ok (.lstore 4, 2) := by decide +kernel
theorem dX11_quotient_60 : decode cX11_quotient 60 = .ok (.iinc 8 (-1), 3) := by decide +kernel
theorem dX11_quotient_63 : decode cX11_quotient 63 = .ok (.goto (-19), 3) := by decide +kernel
theorem dX11_quotient_66 : decode cX11_quotient 66 = .ok (.lload 4, 2) := by decide +kernel
theorem dX11_quotient_68 : decode cX11_quotient 68 = .ok (.bipush 23, 2) := by decide +kernel
theorem dX11_quotient_70 : decode cX11_quotient 70 = .ok (.lshl, 1) := by decide +kernel
theorem dX11_quotient_71 : decode cX11_quotient 71 = .ok (.lload 6, 2) := by decide +kernel
theorem dX11_quotient_73 : decode cX11_quotient 73 = .ok (.ldiv, 1) := by decide +kernel
theorem dX11_quotient_74 : decode cX11_quotient 74 = .ok (.lstore 9, 2) := by decide +kernel
theorem dX11_quotient_76 : decode cX11_quotient 76 = .ok (.lload 4, 2) := by decide +kernel
theorem dX11_quotient_78 : decode cX11_quotient 78 = .ok (.bipush 23, 2) := by decide +kernel
theorem dX11_quotient_80 : decode cX11_quotient 80 = .ok (.lshl, 1) := by decide +kernel
theorem dX11_quotient_81 : decode cX11_quotient 81 = .ok (.lload 6, 2) := by decide +kernel
theorem dX11_quotient_83 : decode cX11_quotient 83 = .ok (.lrem, 1) := by decide +kernel
theorem dX11_quotient_84 : decode cX11_quotient 84 = .ok (.lstore 11, 2) := by decide +kernel
theorem dX11_quotient_86 : decode cX11_quotient 86 = .ok (.ldc2_w 397, 3) := by decide +kernel
theorem dX11_quotient_89 : decode cX11_quotient 89 = .ok (.lload 11, 2) := by decide +kernel
theorem dX11_quotient_91 : decode cX11_quotient 91 = .ok (.lmul, 1) := by decide +kernel
theorem dX11_quotient_92 : decode cX11_quotient 92 = .ok (.lload 6, 2) := by decide +kernel
theorem dX11_quotient_94 : decode cX11_quotient 94 = .ok (.lcmp, 1) := by decide +kernel
theorem dX11_quotient_95 : decode cX11_quotient 95 = .ok (.ifCond .gt 24, 3) := by decide +kernel
theorem dX11_quotient_98 : decode cX11_quotient 98 = .ok (.ldc2_w 397, 3) := by decide +kernel
theorem dX11_quotient_101 : decode cX11_quotient 101 = .ok (.lload 11, 2) := by decide +kernel
theorem dX11_quotient_103 : decode cX11_quotient 103 = .ok (.lmul, 1) := by decide +kernel
theorem dX11_quotient_104 : decode cX11_quotient 104 = .ok (.lload 6, 2) := by decide +kernel
theorem dX11_quotient_106 : decode cX11_quotient 106 = .ok (.lcmp, 1) := by decide +kernel
theorem dX11_quotient_107 : decode cX11_quotient 107 = .ok (.ifCond .ne 18, 3) := by decide +kernel
theorem dX11_quotient_110 : decode cX11_quotient 110 = .ok (.lload 9, 2) := by decide +kernel
theorem dX11_quotient_112 : decode cX11_quotient 112 = .ok (.lconst 1, 1) := by decide +kernel
theorem dX11_quotient_113 : decode cX11_quotient 113 = .ok (.land, 1) := by decide +kernel
theorem dX11_quotient_114 : decode cX11_quotient 114 = .ok (.lconst 1, 1) := by decide +kernel
theorem dX11_quotient_115 : decode cX11_quotient 115 = .ok (.lcmp, 1) := by decide +kernel
theorem dX11_quotient_116 : decode cX11_quotient 116 = .ok (.ifCond .ne 9, 3) := by decide +kernel
theorem dX11_quotient_119 : decode cX11_quotient 119 = .ok (.lload 9, 2) := by decide +kernel
theorem dX11_quotient_121 : decode cX11_quotient 121 = .ok (.lconst 1, 1) := by decide +kernel
theorem dX11_quotient_122 : decode cX11_quotient 122 = .ok (.ladd, 1) := by decide +kernel
theorem dX11_quotient_123 : decode cX11_quotient 123 = .ok (.lstore 9, 2) := by decide +kernel
theorem dX11_quotient_125 : decode cX11_quotient 125 = .ok (.iload 8, 2) := by decide +kernel
theorem dX11_quotient_127 : decode cX11_quotient 127 = .ok (.i2l, 1) := by decide +kernel
theorem dX11_quotient_128 : decode cX11_quotient 128 = .ok (.ldc2_w 399, 3) := by decide +kernel
theorem dX11_quotient_131 : decode cX11_quotient 131 = .ok (.ladd, 1) := by decide +kernel
theorem dX11_quotient_132 : decode cX11_quotient 132 = .ok (.bipush 23, 2) := by decide +kernel
theorem dX11_quotient_134 : decode cX11_quotient 134 = .ok (.lshl, 1) := by decide +kernel
theorem dX11_quotient_135 : decode cX11_quotient 135 = .ok (.lload 9, 2) := by decide +kernel
theorem dX11_quotient_137 : decode cX11_quotient 137 = .ok (.ldc2_w 401, 3) := by decide +kernel
theorem dX11_quotient_140 : decode cX11_quotient 140 = .ok (.lsub, 1) := by decide +kernel
theorem dX11_quotient_141 : decode cX11_quotient 141 = .ok (.ladd, 1) := by decide +kernel
theorem dX11_quotient_142 : decode cX11_quotient 142 = .ok (.l2i, 1) := by decide +kernel
theorem dX11_quotient_143 : decode cX11_quotient 143 = .ok (.ireturn, 1) := by decide +kernel
def fp_X11_quotient_L18 (k44 : Int64 → Int32 → Option (Int32)) (v4 : Int64) : Nat → Int64 → Int32 → Option (Int32)
  | 0, _, _ => none
  | n + 1, v6, v8 =>
    if (lg_cmp v4 (2 * v6)) < 0 then (
      k44 v6 v8)
    else (
      lett ((v6 * 2)) fun (v6_1 : Int64) =>
      fp_X11_quotient_L18 k44 v4 n v6_1 (v8 + 1))
def fp_X11_quotient_L44 (k66 : Int64 → Int32 → Option (Int32)) (v6 : Int64) : Nat → Int64 → Int32 → Option (Int32)
  | 0, _, _ => none
  | n + 1, v4, v8 =>
    if (lg_cmp v4 v6) ≥ 0 then (
      k66 v4 v8)
    else (
      lett ((v4 * 2)) fun (v4_4 : Int64) =>
      fp_X11_quotient_L44 k66 v6 n v4_4 (v8 + (-1)))
def fp_X11_quotient (v0 : Int64) (v2 : Int64) : Option (Int32) :=
  if (lg_cmp v0 0) ≠ 0 then (
    fp_X11_quotient_L18
      (fun v6_2 v8_3 =>
        fp_X11_quotient_L44
          (fun v4_5 v8_6 =>
            (zdvL (v4_5 <<< ((23 : Int32).toInt64 &&& 63)) v6_2).bind fun (y7 : Int64) =>
            (zrmL (v4_5 <<< ((23 : Int32).toInt64 &&& 63)) v6_2).bind fun (y8 : Int64) =>
            zjn (fun (v9_9 : Int64) =>
                some (((((v8_6.toInt64) + 127) <<< ((23 : Int32).toInt64 &&& 63)) + (v9_9 - 8388608)).toInt32))
              (fun j125 =>
                zjn (
                    lett ((y7 + 1)) fun (v9_10 : Int64) =>
                    j125 v9_10)
                  (fun j119 =>
                    if (lg_cmp (2 * y8) v6_2) > 0 then (
                      j119)
                    else (
                      if (lg_cmp (2 * y8) v6_2) ≠ 0 then (
                        j125 y7)
                      else (
                        if (lg_cmp (y7 &&& 1) 1) ≠ 0 then (
                          j125 y7)
                        else (
                          j119)))))) v6_2 FU v0 v8_3) v0 FU v2 0)
  else (
    some 0)
set_option maxHeartbeats 4000000 in
set_option maxRecDepth 100000 in
theorem w_X11_quotient_L18 (E : zEnv) (hE : zEok E) (d : Nat) (hd : 1 ≤ d) (x0 : Int32) (v4 : Int64) (M : zM) (k44 : Int64 → Int32 → Option (Int32)) (hk44 : ∀ (v6 : Int64) (v8 : Int32), zSy E mu_X11_quotient d M (some (.int x0), M) x0 (k44 v6 v8) 44 [(4, .long v4), (6, .long v6), (8, .int v8)] [] M) : ∀ (n : Nat) (v6 : Int64) (v8 : Int32), zSy E mu_X11_quotient d M (some (.int x0), M) x0 (fp_X11_quotient_L18 k44 v4 n v6 v8) 18 [(4, .long v4), (6, .long v6), (8, .int v8)] [] M := by
  intro n
  induction n with
  | zero =>
    intro v6 v8
    rw [fp_X11_quotient_L18]
    exact zs_none
  | succ n ih =>
    intro v6 v8
    rw [fp_X11_quotient_L18]
    refine zs_lload dX11_quotient_18 0 rfl ?_
    refine zs_ldc2 (v := 2) dX11_quotient_20 (ti_7 190 rfl rfl) ?_
    refine zs_lload dX11_quotient_23 1 rfl ?_
    refine zs_lmul dX11_quotient_25 ?_
    refine zs_lcmp dX11_quotient_26 ?_
    refine zs_if_lt dX11_quotient_27 rfl ?_ ?_
    · exact hk44 v6 v8
    refine zs_lload dX11_quotient_30 1 rfl ?_
    refine zs_ldc2 (v := 2) dX11_quotient_32 (ti_7 190 rfl rfl) ?_
    refine zs_lmul dX11_quotient_35 ?_
    refine zs_lstoreL (loc' := fun v6_1 => [(4, .long v4), (6, .long v6_1), (8, .int v8)]) dX11_quotient_36 (Nat.le_of_ble_eq_true rfl) [1, 0, 2] (fun _ => rfl) (fun v6_1 => ?_)
    refine zs_iinc (v := (v8 + 1)) (loc' := [(4, .long v4), (6, .long v6_1), (8, .int (v8 + 1))]) dX11_quotient_38 2 rfl (by rfl) (Nat.le_of_ble_eq_true rfl) [1, 2, 0] rfl ?_
    refine zs_goto dX11_quotient_41 rfl ?_
    exact ih v6_1 (v8 + 1)
set_option maxHeartbeats 4000000 in
set_option maxRecDepth 100000 in
theorem w_X11_quotient_L44 (E : zEnv) (hE : zEok E) (d : Nat) (hd : 1 ≤ d) (x0 : Int32) (v6 : Int64) (M : zM) (k66 : Int64 → Int32 → Option (Int32)) (hk66 : ∀ (v4 : Int64) (v8 : Int32), zSy E mu_X11_quotient d M (some (.int x0), M) x0 (k66 v4 v8) 66 [(4, .long v4), (6, .long v6), (8, .int v8)] [] M) : ∀ (n : Nat) (v4 : Int64) (v8 : Int32), zSy E mu_X11_quotient d M (some (.int x0), M) x0 (fp_X11_quotient_L44 k66 v6 n v4 v8) 44 [(4, .long v4), (6, .long v6), (8, .int v8)] [] M := by
  intro n
  induction n with
  | zero =>
    intro v4 v8
    rw [fp_X11_quotient_L44]
    exact zs_none
  | succ n ih =>
    intro v4 v8
    rw [fp_X11_quotient_L44]
    refine zs_lload dX11_quotient_44 0 rfl ?_
    refine zs_lload dX11_quotient_46 1 rfl ?_
    refine zs_lcmp dX11_quotient_48 ?_
    refine zs_if_ge dX11_quotient_49 rfl ?_ ?_
    · exact hk66 v4 v8
    refine zs_lload dX11_quotient_52 0 rfl ?_
    refine zs_ldc2 (v := 2) dX11_quotient_54 (ti_7 190 rfl rfl) ?_
    refine zs_lmul dX11_quotient_57 ?_
    refine zs_lstoreL (loc' := fun v4_4 => [(4, .long v4_4), (6, .long v6), (8, .int v8)]) dX11_quotient_58 (Nat.le_of_ble_eq_true rfl) [0, 1, 2] (fun _ => rfl) (fun v4_4 => ?_)
    refine zs_iinc (v := (v8 + (-1))) (loc' := [(4, .long v4_4), (6, .long v6), (8, .int (v8 + (-1)))]) dX11_quotient_60 2 rfl (by rfl) (Nat.le_of_ble_eq_true rfl) [1, 2, 0] rfl ?_
    refine zs_goto dX11_quotient_63 rfl ?_
    exact ih v4_4 (v8 + (-1))
set_option maxHeartbeats 4000000 in
set_option maxRecDepth 100000 in
theorem ct_X11_quotient (E : zEnv) (hE : zEok E) (d : Nat) (hd : 1 ≤ d) (v0 : Int64) (v2 : Int64) (M : zM) (x0 : Int32) (hx : fp_X11_quotient v0 v2 = some x0) : zCt E mu_X11_quotient d [.long v0, .long v2] M (some (.int x0), M) := by
  refine zCt_of (μ := mu_X11_quotient) (t := fp_X11_quotient v0 v2) rfl rfl (Nat.le_of_ble_eq_true rfl) hx ?_
  change zSy E mu_X11_quotient d M (some (.int x0), M) x0 (fp_X11_quotient v0 v2) 0 [(0, .long v0), (2, .long v2)] [] M
  unfold fp_X11_quotient
  refine zs_lload_n dX11_quotient_0 rfl 0 rfl ?_
  refine zs_lstore (loc' := [(2, .long v2), (4, .long v0)]) dX11_quotient_1 (Nat.le_of_ble_eq_true rfl) [2, 0] rfl ?_
  refine zs_lload_n dX11_quotient_3 rfl 0 rfl ?_
  refine zs_lstore (loc' := [(4, .long v0), (6, .long v2)]) dX11_quotient_4 (Nat.le_of_ble_eq_true rfl) [2, 0] rfl ?_
  refine zs_iconst (v := 0) dX11_quotient_6 ciconst_0 ?_
  refine zs_istore (loc' := [(4, .long v0), (6, .long v2), (8, .int 0)]) dX11_quotient_7 (Nat.le_of_ble_eq_true rfl) [1, 2, 0] rfl ?_
  refine zs_lload dX11_quotient_9 0 rfl ?_
  refine zs_lconst (v := 0) dX11_quotient_11 (by rfl) ?_
  refine zs_lcmp dX11_quotient_12 ?_
  refine zs_if_ne dX11_quotient_13 rfl ?_ ?_
  · refine w_X11_quotient_L18 E hE d hd _ _ _ _ (fun v6_2 v8_3 => ?_) _ _ _
    refine w_X11_quotient_L44 E hE d hd _ _ _ _ (fun v4_5 v8_6 => ?_) _ _ _
    refine zs_lload dX11_quotient_66 0 rfl ?_
    refine zs_bipush (v := 23) dX11_quotient_68 cbipush_23 ?_
    refine zs_lshl dX11_quotient_70 ?_
    refine zs_lload dX11_quotient_71 1 rfl ?_
    refine zs_ldiv dX11_quotient_73 (fun y7 => ?_)
    refine zs_lstore (loc' := [(4, .long v4_5), (6, .long v6_2), (8, .int v8_6), (9, .long y7)]) dX11_quotient_74 (Nat.le_of_ble_eq_true rfl) [1, 2, 3, 0] rfl ?_
    refine zs_lload dX11_quotient_76 0 rfl ?_
    refine zs_bipush (v := 23) dX11_quotient_78 cbipush_23 ?_
    refine zs_lshl dX11_quotient_80 ?_
    refine zs_lload dX11_quotient_81 1 rfl ?_
    refine zs_lrem dX11_quotient_83 (fun y8 => ?_)
    refine zs_lstore (loc' := [(6, .long v6_2), (8, .int v8_6), (9, .long y7), (11, .long y8)]) dX11_quotient_84 (Nat.le_of_ble_eq_true rfl) [2, 3, 4, 0] rfl ?_
    refine zs_ldc2 (v := 2) dX11_quotient_86 (ti_7 190 rfl rfl) ?_
    refine zs_lload dX11_quotient_89 3 rfl ?_
    refine zs_lmul dX11_quotient_91 ?_
    refine zs_lload dX11_quotient_92 0 rfl ?_
    refine zs_lcmp dX11_quotient_94 ?_
    refine zs_jn (fun j125 => ∀ (v9_9 : Int64), zSy E mu_X11_quotient d M (some (.int x0), M) x0 (j125 v9_9) 125 [(8, .int v8_6), (9, .long v9_9)] [] M) (fun v9_9 => ?_) (fun j125 hj125 => ?_)
    · refine zs_iload dX11_quotient_125 0 rfl ?_
      refine zs_i2l dX11_quotient_127 ?_
      refine zs_ldc2 (v := 127) dX11_quotient_128 (ti_7 191 rfl rfl) ?_
      refine zs_ladd dX11_quotient_131 ?_
      refine zs_bipush (v := 23) dX11_quotient_132 cbipush_23 ?_
      refine zs_lshl dX11_quotient_134 ?_
      refine zs_lload dX11_quotient_135 1 rfl ?_
      refine zs_ldc2 (v := 8388608) dX11_quotient_137 (ti_7 192 rfl rfl) ?_
      refine zs_lsub dX11_quotient_140 ?_
      refine zs_ladd dX11_quotient_141 ?_
      refine zs_l2i dX11_quotient_142 ?_
      exact zs_iretP dX11_quotient_143 rfl
    refine zs_jn (fun j119 => zSy E mu_X11_quotient d M (some (.int x0), M) x0 (j119) 119 [(8, .int v8_6), (9, .long y7)] [] M) ?_ (fun j119 hj119 => ?_)
    · refine zs_lload dX11_quotient_119 1 rfl ?_
      refine zs_lconst (v := 1) dX11_quotient_121 (by rfl) ?_
      refine zs_ladd dX11_quotient_122 ?_
      refine zs_lstoreL (loc' := fun v9_10 => [(8, .int v8_6), (9, .long v9_10)]) dX11_quotient_123 (Nat.le_of_ble_eq_true rfl) [1, 0] (fun _ => rfl) (fun v9_10 => ?_)
      exact hj125 v9_10
    refine zs_if_gt dX11_quotient_95 rfl ?_ ?_
    · refine zs_sub (loc' := [(8, .int v8_6), (9, .long y7)]) [1, 2] rfl ?_
      exact hj119
    refine zs_ldc2 (v := 2) dX11_quotient_98 (ti_7 190 rfl rfl) ?_
    refine zs_lload dX11_quotient_101 3 rfl ?_
    refine zs_lmul dX11_quotient_103 ?_
    refine zs_lload dX11_quotient_104 0 rfl ?_
    refine zs_lcmp dX11_quotient_106 ?_
    refine zs_if_ne dX11_quotient_107 rfl ?_ ?_
    · refine zs_sub (loc' := [(8, .int v8_6), (9, .long y7)]) [1, 2] rfl ?_
      exact hj125 y7
    refine zs_lload dX11_quotient_110 2 rfl ?_
    refine zs_lconst (v := 1) dX11_quotient_112 (by rfl) ?_
    refine zs_land dX11_quotient_113 ?_
    refine zs_lconst (v := 1) dX11_quotient_114 (by rfl) ?_
    refine zs_lcmp dX11_quotient_115 ?_
    refine zs_if_ne dX11_quotient_116 rfl ?_ ?_
    · refine zs_sub (loc' := [(8, .int v8_6), (9, .long y7)]) [1, 2] rfl ?_
      exact hj125 y7
    refine zs_sub (loc' := [(8, .int v8_6), (9, .long y7)]) [1, 2] rfl ?_
    exact hj119
  refine zs_iconst (v := 0) dX11_quotient_16 ciconst_0 ?_
  exact zs_iretP dX11_quotient_17 rfl
theorem dX11_mean_0 : decode cX11_mean 0 = .ok (.iload_n 1, 1) := by decide +kernel
theorem dX11_mean_1 : decode cX11_mean 1 = .ok (.ifCond .lt 12, 3) := by decide +kernel
theorem dX11_mean_4 : decode cX11_mean 4 = .ok (.iload_n 2, 1) := by decide +kernel
theorem dX11_mean_5 : decode cX11_mean 5 = .ok (.iconst 0, 1) := by decide +kernel
theorem dX11_mean_6 : decode cX11_mean 6 = .ok (.iconst 1, 1) := by decide +kernel
theorem dX11_mean_7 : decode cX11_mean 7 = .ok (.invokestatic 195, 3) := by decide +kernel
theorem dX11_mean_10 : decode cX11_mean 10 = .ok (.ifCond .ne 9, 3) := by decide +kernel
theorem dX11_mean_13 : decode cX11_mean 13 = .ok (.aload_n 0, 1) := by decide +kernel
theorem dX11_mean_14 : decode cX11_mean 14 = .ok (.iconst 1, 1) := by decide +kernel
theorem dX11_mean_15 : decode cX11_mean 15 = .ok (.invokevirtual 226, 3) := by decide +kernel
theorem dX11_mean_18 : decode cX11_mean 18 = .ok (.ireturn, 1) := by decide +kernel
theorem dX11_mean_19 : decode cX11_mean 19 = .ok (.aload_n 0, 1) := by decide +kernel
theorem dX11_mean_20 : decode cX11_mean 20 = .ok (.iload_n 1, 1) := by decide +kernel
theorem dX11_mean_21 : decode cX11_mean 21 = .ok (.invokevirtual 391, 3) := by decide +kernel
theorem dX11_mean_24 : decode cX11_mean 24 = .ok (.ifCond .le 10, 3) := by decide +kernel
theorem dX11_mean_27 : decode cX11_mean 27 = .ok (.aload_n 0, 1) := by decide +kernel
theorem dX11_mean_28 : decode cX11_mean 28 = .ok (.bipush 6, 2) := by decide +kernel
theorem dX11_mean_30 : decode cX11_mean 30 = .ok (.invokevirtual 226, 3) := by decide +kernel
theorem dX11_mean_33 : decode cX11_mean 33 = .ok (.ireturn, 1) := by decide +kernel
theorem dX11_mean_34 : decode cX11_mean 34 = .ok (.iconst 0, 1) := by decide +kernel
theorem dX11_mean_35 : decode cX11_mean 35 = .ok (.istore_n 3, 1) := by decide +kernel
theorem dX11_mean_36 : decode cX11_mean 36 = .ok (.bipush 14, 2) := by decide +kernel
theorem dX11_mean_38 : decode cX11_mean 38 = .ok (.istore 4, 2) := by decide +kernel
theorem dX11_mean_40 : decode cX11_mean 40 = .ok (.iconst 0, 1) := by decide +kernel
theorem dX11_mean_41 : decode cX11_mean 41 = .ok (.istore 5, 2) := by decide +kernel
theorem dX11_mean_43 : decode cX11_mean 43 = .ok (.iconst 0, 1) := by decide +kernel
theorem dX11_mean_44 : decode cX11_mean 44 = .ok (.istore 6, 2) := by decide +kernel
theorem dX11_mean_46 : decode cX11_mean 46 = .ok (.iload 6, 2) := by decide +kernel
theorem dX11_mean_48 : decode cX11_mean 48 = .ok (.aload_n 0, 1) := by decide +kernel
theorem dX11_mean_49 : decode cX11_mean 49 = .ok (.getfield 101, 3) := by decide +kernel
theorem dX11_mean_52 : decode cX11_mean 52 = .ok (.if_icmp .ge 44, 3) := by decide +kernel
theorem dX11_mean_55 : decode cX11_mean 55 = .ok (.iload_n 3, 1) := by decide +kernel
theorem dX11_mean_56 : decode cX11_mean 56 = .ok (.aload_n 0, 1) := by decide +kernel
theorem dX11_mean_57 : decode cX11_mean 57 = .ok (.iload 6, 2) := by decide +kernel
theorem dX11_mean_59 : decode cX11_mean 59 = .ok (.invokevirtual 394, 3) := by decide +kernel
theorem dX11_mean_62 : decode cX11_mean 62 = .ok (.iadd, 1) := by decide +kernel
theorem dX11_mean_63 : decode cX11_mean 63 = .ok (.istore_n 3, 1) := by decide +kernel
theorem dX11_mean_64 : decode cX11_mean 64 = .ok (.iload 4, 2) := by decide +kernel
theorem dX11_mean_66 : decode cX11_mean 66 = .ok (.aload_n 0, 1) := by decide +kernel
theorem dX11_mean_67 : decode cX11_mean 67 = .ok (.iload 6, 2) := by decide +kernel
theorem dX11_mean_69 : decode cX11_mean 69 = .ok (.invokevirtual 394, 3) := by decide +kernel
theorem dX11_mean_72 : decode cX11_mean 72 = .ok (.invokestatic 112, 3) := by decide +kernel
theorem dX11_mean_75 : decode cX11_mean 75 = .ok (.istore 4, 2) := by decide +kernel
theorem dX11_mean_77 : decode cX11_mean 77 = .ok (.iload 5, 2) := by decide +kernel
theorem dX11_mean_79 : decode cX11_mean 79 = .ok (.aload_n 0, 1) := by decide +kernel
theorem dX11_mean_80 : decode cX11_mean 80 = .ok (.iload 6, 2) := by decide +kernel
theorem dX11_mean_82 : decode cX11_mean 82 = .ok (.invokevirtual 394, 3) := by decide +kernel
theorem dX11_mean_85 : decode cX11_mean 85 = .ok (.invokestatic 403, 3) := by decide +kernel
theorem dX11_mean_88 : decode cX11_mean 88 = .ok (.istore 5, 2) := by decide +kernel
theorem dX11_mean_90 : decode cX11_mean 90 = .ok (.iinc 6 1, 3) := by decide +kernel
theorem dX11_mean_93 : decode cX11_mean 93 = .ok (.goto (-47), 3) := by decide +kernel
theorem dX11_mean_96 : decode cX11_mean 96 = .ok (.aload_n 0, 1) := by decide +kernel
theorem dX11_mean_97 : decode cX11_mean 97 = .ok (.iload_n 2, 1) := by decide +kernel
theorem dX11_mean_98 : decode cX11_mean 98 = .ok (.ifCond .ne 20, 3) := by decide +kernel
theorem dX11_mean_101 : decode cX11_mean 101 = .ok (.iload_n 3, 1) := by decide +kernel
theorem dX11_mean_102 : decode cX11_mean 102 = .ok (.i2l, 1) := by decide +kernel
theorem dX11_mean_103 : decode cX11_mean 103 = .ok (.iconst 1, 1) := by decide +kernel
theorem dX11_mean_104 : decode cX11_mean 104 = .ok (.aload_n 0, 1) := by decide +kernel
theorem dX11_mean_105 : decode cX11_mean 105 = .ok (.getfield 101, 3) := by decide +kernel
theorem dX11_mean_108 : decode cX11_mean 108 = .ok (.invokestatic 403, 3) := by decide +kernel
theorem dX11_mean_111 : decode cX11_mean 111 = .ok (.i2l, 1) := by decide +kernel
theorem dX11_mean_112 : decode cX11_mean 112 = .ok (.invokestatic 406, 3) := by decide +kernel
theorem dX11_mean_115 : decode cX11_mean 115 = .ok (.goto 27, 3) := by decide +kernel
theorem dX11_mean_118 : decode cX11_mean 118 = .ok (.aload_n 0, 1) := by decide +kernel
theorem dX11_mean_119 : decode cX11_mean 119 = .ok (.getfield 101, 3) := by decide +kernel
theorem dX11_mean_122 : decode cX11_mean 122 = .ok (.ifCond .ne 11, 3) := by decide +kernel
theorem dX11_mean_125 : decode cX11_mean 125 = .ok (.lconst 1, 1) := by decide +kernel
theorem dX11_mean_126 : decode cX11_mean 126 = .ok (.lconst 1, 1) := by decide +kernel
theorem dX11_mean_127 : decode cX11_mean 127 = .ok (.invokestatic 406, 3) := by decide +kernel
theorem dX11_mean_130 : decode cX11_mean 130 = .ok (.goto 12, 3) := by decide +kernel
theorem dX11_mean_133 : decode cX11_mean 133 = .ok (.iload 4, 2) := by decide +kernel
theorem dX11_mean_135 : decode cX11_mean 135 = .ok (.i2l, 1) := by decide +kernel
theorem dX11_mean_136 : decode cX11_mean 136 = .ok (.iload 5, 2) := by decide +kernel
theorem dX11_mean_138 : decode cX11_mean 138 = .ok (.i2l, 1) := by decide +kernel
theorem dX11_mean_139 : decode cX11_mean 139 = .ok (.invokestatic 406, 3) := by decide +kernel
theorem dX11_mean_142 : decode cX11_mean 142 = .ok (.invokevirtual 242, 3) := by decide +kernel
theorem dX11_mean_145 : decode cX11_mean 145 = .ok (.ireturn, 1) := by decide +kernel
def fp_X11_mean_L46 (k96 : Int32 → Int32 → Int32 → Option (Int32 × zM)) (v0 : Nat) (v2 : Int32) (M : zM) : Nat → Int32 → Int32 → Int32 → Int32 → Option (Int32 × zM)
  | 0, _, _, _, _ => none
  | n + 1, v3, v4, v5, v6 =>
    (zgI 9 M v0 0).bind fun (y8 : Int32) =>
    if v6 ≥ y8 then (
      k96 v3 v4 v5)
    else (
      (fp_X11_spanOf v0 v6 M).bind fun (y9 : Int32) =>
      lett ((v3 + y9)) fun (v3_10 : Int32) =>
      (fp_X11_spanOf v0 v6 M).bind fun (y11 : Int32) =>
      lett ((kmin v4 y11)) fun (v4_12 : Int32) =>
      (fp_X11_spanOf v0 v6 M).bind fun (y13 : Int32) =>
      lett ((kmax v5 y13)) fun (v5_14 : Int32) =>
      fp_X11_mean_L46 k96 v0 v2 M n v3_10 v4_12 v5_14 (v6 + 1))
def fp_X11_mean (v0 : Nat) (v1 : Int32) (v2 : Int32) (M : zM) : Option (Int32 × zM) :=
  zthis 9 M v0 (
    if v1 < 0 then (
      (fp_X11_refuse v0 1 M).bind fun p3 => zpp p3 fun (y1 : Int32) (M2 : zM) =>
      some (y1, M2))
    else (
      (fp_X11_isFrom v2 0 1).bind fun (y4 : Int32) =>
      if y4 ≠ 0 then (
        (fp_X11_wrongModel v0 v1 M).bind fun p7 => zpp p7 fun (y5 : Int32) (M6 : zM) =>
        if y5 ≤ 0 then (
          fp_X11_mean_L46
            (fun v3_15 v4_16 v5_17 =>
              if v2 ≠ 0 then (
                (zgI 9 M6 v0 0).bind fun (y18 : Int32) =>
                if y18 ≠ 0 then (
                  (fp_X11_quotient (v4_16.toInt64) (v5_17.toInt64)).bind fun (y19 : Int32) =>
                  (fp_X11_gives v0 y19 M6).bind fun p22 => zpp p22 fun (y20 : Int32) (M21 : zM) =>
                  some (y20, M21))
                else (
                  (fp_X11_quotient 1 1).bind fun (y23 : Int32) =>
                  (fp_X11_gives v0 y23 M6).bind fun p26 => zpp p26 fun (y24 : Int32) (M25 : zM) =>
                  some (y24, M25)))
              else (
                (zgI 9 M6 v0 0).bind fun (y27 : Int32) =>
                (fp_X11_quotient (v3_15.toInt64) ((kmax 1 y27).toInt64)).bind fun (y28 : Int32) =>
                (fp_X11_gives v0 y28 M6).bind fun p31 => zpp p31 fun (y29 : Int32) (M30 : zM) =>
                some (y29, M30))) v0 v2 M6 FU 0 14 0 0)
        else (
          (fp_X11_refuse v0 6 M6).bind fun p34 => zpp p34 fun (y32 : Int32) (M33 : zM) =>
          some (y32, M33)))
      else (
        (fp_X11_refuse v0 1 M).bind fun p37 => zpp p37 fun (y35 : Int32) (M36 : zM) =>
        some (y35, M36))))
set_option maxHeartbeats 4000000 in
set_option maxRecDepth 100000 in
theorem th_X11_mean {v0 : Nat} {v1 : Int32} {v2 : Int32} {M : zM} {x0 : Int32 × zM} (h : fp_X11_mean v0 v1 v2 M = some x0) : v0 < zS M ∧ kd v0 = 9 := by
  unfold fp_X11_mean at h
  exact zthis_of h
set_option maxHeartbeats 4000000 in
set_option maxRecDepth 100000 in
theorem w_X11_mean_L46 (E : zEnv) (hE : zEok E) (d : Nat) (hd : 29 ≤ d) (M0 : zM) (x0 : Int32 × zM) (v0 : Nat) (v2 : Int32) (M : zM) (k96 : Int32 → Int32 → Int32 → Option (Int32 × zM)) (hk96 : ∀ (v3 : Int32) (v4 : Int32) (v5 : Int32), zSy E mu_X11_mean d M0 (some (.int x0.1), x0.2) x0 (k96 v3 v4 v5) 96 [(0, .ref (E.2.2.2.1 + v0)), (2, .int v2), (3, .int v3), (4, .int v4), (5, .int v5)] [] M) : ∀ (n : Nat) (v3 : Int32) (v4 : Int32) (v5 : Int32) (v6 : Int32), zSy E mu_X11_mean d M0 (some (.int x0.1), x0.2) x0 (fp_X11_mean_L46 k96 v0 v2 M n v3 v4 v5 v6) 46 [(0, .ref (E.2.2.2.1 + v0)), (2, .int v2), (3, .int v3), (4, .int v4), (5, .int v5), (6, .int v6)] [] M := by
  intro n
  induction n with
  | zero =>
    intro v3 v4 v5 v6
    rw [fp_X11_mean_L46]
    exact zs_none
  | succ n ih =>
    intro v3 v4 v5 v6
    rw [fp_X11_mean_L46]
    refine zs_iload dX11_mean_46 5 rfl ?_
    refine zs_aload_n dX11_mean_48 rfl 0 rfl ?_
    refine zs_getI dX11_mean_49 fl_X11_101 rfl (fun y8 => ?_)
    refine zs_icmp_ge dX11_mean_52 rfl ?_ ?_
    · refine zs_sub (loc' := [(0, .ref (E.2.2.2.1 + v0)), (2, .int v2), (3, .int v3), (4, .int v4), (5, .int v5)]) [0, 1, 2, 3, 4] rfl ?_
      exact hk96 v3 v4 v5
    refine zs_iload_n dX11_mean_55 rfl 2 rfl ?_
    refine zs_aload_n dX11_mean_56 rfl 0 rfl ?_
    refine zs_iload dX11_mean_57 5 rfl ?_
    refine zs_invVPI (rest := [.int v3]) [.int v6] dX11_mean_59 lk_X11_394 rfl (fun _ h => th_X11_spanOf h) (zd1 rfl hd) rfl (Nat.le_of_ble_eq_true rfl) (ct_X11_spanOf E hE _ (zdl rfl hd) _ _ _) (fun y9 => ?_)
    refine zs_iadd dX11_mean_62 ?_
    refine zs_istore_nL (loc' := fun v3_10 => [(0, .ref (E.2.2.2.1 + v0)), (2, .int v2), (3, .int v3_10), (4, .int v4), (5, .int v5), (6, .int v6)]) dX11_mean_63 rfl (Nat.le_of_ble_eq_true rfl) [1, 2, 0, 3, 4, 5] (fun _ => rfl) (fun v3_10 => ?_)
    refine zs_iload dX11_mean_64 3 rfl ?_
    refine zs_aload_n dX11_mean_66 rfl 0 rfl ?_
    refine zs_iload dX11_mean_67 5 rfl ?_
    refine zs_invVPI (rest := [.int v4]) [.int v6] dX11_mean_69 lk_X11_394 rfl (fun _ h => th_X11_spanOf h) (zd1 rfl hd) rfl (Nat.le_of_ble_eq_true rfl) (ct_X11_spanOf E hE _ (zdl rfl hd) _ _ _) (fun y11 => ?_)
    refine zs_min dX11_mean_72 (ti_6 103 rfl rfl) ms_min mi_Math mc_min (zd0 rfl hd) (Nat.le_of_ble_eq_true rfl) ?_
    refine zs_istoreL (loc' := fun v4_12 => [(0, .ref (E.2.2.2.1 + v0)), (2, .int v2), (3, .int v3_10), (4, .int v4_12), (5, .int v5), (6, .int v6)]) dX11_mean_75 (Nat.le_of_ble_eq_true rfl) [1, 2, 3, 0, 4, 5] (fun _ => rfl) (fun v4_12 => ?_)
    refine zs_iload dX11_mean_77 4 rfl ?_
    refine zs_aload_n dX11_mean_79 rfl 0 rfl ?_
    refine zs_iload dX11_mean_80 5 rfl ?_
    refine zs_invVPI (rest := [.int v5]) [.int v6] dX11_mean_82 lk_X11_394 rfl (fun _ h => th_X11_spanOf h) (zd1 rfl hd) rfl (Nat.le_of_ble_eq_true rfl) (ct_X11_spanOf E hE _ (zdl rfl hd) _ _ _) (fun y13 => ?_)
    refine zs_max dX11_mean_85 (ti_7 186 rfl rfl) ms_max mi_Math mc_max (zd0 rfl hd) (Nat.le_of_ble_eq_true rfl) ?_
    refine zs_istoreL (loc' := fun v5_14 => [(0, .ref (E.2.2.2.1 + v0)), (2, .int v2), (3, .int v3_10), (4, .int v4_12), (5, .int v5_14), (6, .int v6)]) dX11_mean_88 (Nat.le_of_ble_eq_true rfl) [1, 2, 3, 4, 0, 5] (fun _ => rfl) (fun v5_14 => ?_)
    refine zs_iinc (v := (v6 + 1)) (loc' := [(0, .ref (E.2.2.2.1 + v0)), (2, .int v2), (3, .int v3_10), (4, .int v4_12), (5, .int v5_14), (6, .int (v6 + 1))]) dX11_mean_90 5 rfl (by rfl) (Nat.le_of_ble_eq_true rfl) [1, 2, 3, 4, 5, 0] rfl ?_
    refine zs_goto dX11_mean_93 rfl ?_
    exact ih v3_10 v4_12 v5_14 (v6 + 1)
set_option maxHeartbeats 4000000 in
set_option maxRecDepth 100000 in
theorem ct_X11_mean (E : zEnv) (hE : zEok E) (d : Nat) (hd : 29 ≤ d) (v0 : Nat) (v1 : Int32) (v2 : Int32) (M : zM) (x0 : Int32 × zM) (hx : fp_X11_mean v0 v1 v2 M = some x0) : zCt E mu_X11_mean d [.ref (E.2.2.2.1 + v0), .int v1, .int v2] M (some (.int x0.1), x0.2) := by
  refine zCt_of (μ := mu_X11_mean) (t := fp_X11_mean v0 v1 v2 M) rfl rfl (Nat.le_of_ble_eq_true rfl) hx ?_
  change zSy E mu_X11_mean d M (some (.int x0.1), x0.2) x0 (fp_X11_mean v0 v1 v2 M) 0 [(0, .ref (E.2.2.2.1 + v0)), (1, .int v1), (2, .int v2)] [] M
  unfold fp_X11_mean
  refine zs_this (fun hth => ?_)
  refine zs_iload_n dX11_mean_0 rfl 1 rfl ?_
  refine zs_if_lt dX11_mean_1 rfl ?_ ?_
  · refine zs_aload_n dX11_mean_13 rfl 0 rfl ?_
    refine zs_iconst (v := 1) dX11_mean_14 ciconst_1 ?_
    refine zs_invVWI (rest := []) [.int 1] dX11_mean_15 lk_X11_226 rfl (fun _ h => th_X11_refuse h) (zd1 rfl hd) rfl (Nat.le_of_ble_eq_true rfl) (ct_X11_refuse E hE _ (zdl rfl hd) _ _ _) (fun y1 M2 => ?_)
    exact zs_iretW dX11_mean_18 rfl
  refine zs_iload_n dX11_mean_4 rfl 2 rfl ?_
  refine zs_iconst (v := 0) dX11_mean_5 ciconst_0 ?_
  refine zs_iconst (v := 1) dX11_mean_6 ciconst_1 ?_
  refine zs_invSPI (rest := []) [.int v2, .int 0, .int 1] dX11_mean_7 lk_X11_195 rfl (zd1 rfl hd) rfl (Nat.le_of_ble_eq_true rfl) (ct_X11_isFrom E hE _ (zdl rfl hd) _ _ _ _) (fun y4 => ?_)
  refine zs_if_ne dX11_mean_10 rfl ?_ ?_
  · refine zs_aload_n dX11_mean_19 rfl 0 rfl ?_
    refine zs_iload_n dX11_mean_20 rfl 1 rfl ?_
    refine zs_invVWI (rest := []) [.int v1] dX11_mean_21 lk_X11_391 rfl (fun _ h => th_X11_wrongModel h) (zd1 rfl hd) rfl (Nat.le_of_ble_eq_true rfl) (ct_X11_wrongModel E hE _ (zdl rfl hd) _ _ _) (fun y5 M6 => ?_)
    refine zs_if_le dX11_mean_24 rfl ?_ ?_
    · refine zs_iconst (v := 0) dX11_mean_34 ciconst_0 ?_
      refine zs_istore_n (loc' := [(0, .ref (E.2.2.2.1 + v0)), (2, .int v2), (3, .int 0)]) dX11_mean_35 rfl (Nat.le_of_ble_eq_true rfl) [1, 3, 0] rfl ?_
      refine zs_bipush (v := 14) dX11_mean_36 cbipush_14 ?_
      refine zs_istore (loc' := [(0, .ref (E.2.2.2.1 + v0)), (2, .int v2), (3, .int 0), (4, .int 14)]) dX11_mean_38 (Nat.le_of_ble_eq_true rfl) [1, 2, 3, 0] rfl ?_
      refine zs_iconst (v := 0) dX11_mean_40 ciconst_0 ?_
      refine zs_istore (loc' := [(0, .ref (E.2.2.2.1 + v0)), (2, .int v2), (3, .int 0), (4, .int 14), (5, .int 0)]) dX11_mean_41 (Nat.le_of_ble_eq_true rfl) [1, 2, 3, 4, 0] rfl ?_
      refine zs_iconst (v := 0) dX11_mean_43 ciconst_0 ?_
      refine zs_istore (loc' := [(0, .ref (E.2.2.2.1 + v0)), (2, .int v2), (3, .int 0), (4, .int 14), (5, .int 0), (6, .int 0)]) dX11_mean_44 (Nat.le_of_ble_eq_true rfl) [1, 2, 3, 4, 5, 0] rfl ?_
      refine w_X11_mean_L46 E hE d hd _ _ _ _ _ _ (fun v3_15 v4_16 v5_17 => ?_) _ _ _ _ _
      refine zs_aload_n dX11_mean_96 rfl 0 rfl ?_
      refine zs_iload_n dX11_mean_97 rfl 1 rfl ?_
      refine zs_if_ne dX11_mean_98 rfl ?_ ?_
      · refine zs_aload_n dX11_mean_118 rfl 0 rfl ?_
        refine zs_getI dX11_mean_119 fl_X11_101 rfl (fun y18 => ?_)
        refine zs_if_ne dX11_mean_122 rfl ?_ ?_
        · refine zs_iload dX11_mean_133 3 rfl ?_
          refine zs_i2l dX11_mean_135 ?_
          refine zs_iload dX11_mean_136 4 rfl ?_
          refine zs_i2l dX11_mean_138 ?_
          refine zs_invSPI (rest := [.ref (E.2.2.2.1 + v0)]) [.long (v4_16.toInt64), .long (v5_17.toInt64)] dX11_mean_139 lk_X11_406 rfl (zd1 rfl hd) rfl (Nat.le_of_ble_eq_true rfl) (ct_X11_quotient E hE _ (zdl rfl hd) _ _ _) (fun y19 => ?_)
          refine zs_invVWI (rest := []) [.int y19] dX11_mean_142 lk_X11_242 rfl (fun _ h => th_X11_gives h) (zd1 rfl hd) rfl (Nat.le_of_ble_eq_true rfl) (ct_X11_gives E hE _ (zdl rfl hd) _ _ _) (fun y20 M21 => ?_)
          exact zs_iretW dX11_mean_145 rfl
        refine zs_lconst (v := 1) dX11_mean_125 (by rfl) ?_
        refine zs_lconst (v := 1) dX11_mean_126 (by rfl) ?_
        refine zs_invSPI (rest := [.ref (E.2.2.2.1 + v0)]) [.long 1, .long 1] dX11_mean_127 lk_X11_406 rfl (zd1 rfl hd) rfl (Nat.le_of_ble_eq_true rfl) (ct_X11_quotient E hE _ (zdl rfl hd) _ _ _) (fun y23 => ?_)
        refine zs_goto dX11_mean_130 rfl ?_
        refine zs_invVWI (rest := []) [.int y23] dX11_mean_142 lk_X11_242 rfl (fun _ h => th_X11_gives h) (zd1 rfl hd) rfl (Nat.le_of_ble_eq_true rfl) (ct_X11_gives E hE _ (zdl rfl hd) _ _ _) (fun y24 M25 => ?_)
        exact zs_iretW dX11_mean_145 rfl
      refine zs_iload_n dX11_mean_101 rfl 2 rfl ?_
      refine zs_i2l dX11_mean_102 ?_
      refine zs_iconst (v := 1) dX11_mean_103 ciconst_1 ?_
      refine zs_aload_n dX11_mean_104 rfl 0 rfl ?_
      refine zs_getI dX11_mean_105 fl_X11_101 rfl (fun y27 => ?_)
      refine zs_max dX11_mean_108 (ti_7 186 rfl rfl) ms_max mi_Math mc_max (zd0 rfl hd) (Nat.le_of_ble_eq_true rfl) ?_
      refine zs_i2l dX11_mean_111 ?_
      refine zs_invSPI (rest := [.ref (E.2.2.2.1 + v0)]) [.long (v3_15.toInt64), .long ((kmax 1 y27).toInt64)] dX11_mean_112 lk_X11_406 rfl (zd1 rfl hd) rfl (Nat.le_of_ble_eq_true rfl) (ct_X11_quotient E hE _ (zdl rfl hd) _ _ _) (fun y28 => ?_)
      refine zs_goto dX11_mean_115 rfl ?_
      refine zs_invVWI (rest := []) [.int y28] dX11_mean_142 lk_X11_242 rfl (fun _ h => th_X11_gives h) (zd1 rfl hd) rfl (Nat.le_of_ble_eq_true rfl) (ct_X11_gives E hE _ (zdl rfl hd) _ _ _) (fun y29 M30 => ?_)
      exact zs_iretW dX11_mean_145 rfl
    refine zs_aload_n dX11_mean_27 rfl 0 rfl ?_
    refine zs_bipush (v := 6) dX11_mean_28 cbipush_6 ?_
    refine zs_invVWI (rest := []) [.int 6] dX11_mean_30 lk_X11_226 rfl (fun _ h => th_X11_refuse h) (zd1 rfl hd) rfl (Nat.le_of_ble_eq_true rfl) (ct_X11_refuse E hE _ (zdl rfl hd) _ _ _) (fun y32 M33 => ?_)
    exact zs_iretW dX11_mean_33 rfl
  refine zs_aload_n dX11_mean_13 rfl 0 rfl ?_
  refine zs_iconst (v := 1) dX11_mean_14 ciconst_1 ?_
  refine zs_invVWI (rest := []) [.int 1] dX11_mean_15 lk_X11_226 rfl (fun _ h => th_X11_refuse h) (zd1 rfl hd) rfl (Nat.le_of_ble_eq_true rfl) (ct_X11_refuse E hE _ (zdl rfl hd) _ _ _) (fun y35 M36 => ?_)
  exact zs_iretW dX11_mean_18 rfl

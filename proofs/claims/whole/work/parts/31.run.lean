theorem dX11_laysPiece_0 : decode cX11_laysPiece 0 = .ok (.iconst 0, 1) := by decide +kernel
theorem dX11_laysPiece_1 : decode cX11_laysPiece 1 = .ok (.istore 4, 2) := by decide +kernel
theorem dX11_laysPiece_3 : decode cX11_laysPiece 3 = .ok (.iload_n 2, 1) := by decide +kernel
theorem dX11_laysPiece_4 : decode cX11_laysPiece 4 = .ok (.invokestatic 122, 3) := by decide +kernel
theorem dX11_laysPiece_7 : decode cX11_laysPiece 7 = .ok (.istore 5, 2) := by decide +kernel
theorem dX11_laysPiece_9 : decode cX11_laysPiece 9 = .ok (.aload_n 0, 1) := by decide +kernel
theorem dX11_laysPiece_10 : decode cX11_laysPiece 10 = .ok (.getfield 58, 3) := by decide +kernel
theorem dX11_laysPiece_13 : decode cX11_laysPiece 13 = .ok (.bipush 8, 2) := by decide +kernel
theorem dX11_laysPiece_15 : decode cX11_laysPiece 15 = .ok (.iload_n 1, 1) := by decide +kernel
theorem dX11_laysPiece_16 : decode cX11_laysPiece 16 = .ok (.imul, 1) := by decide +kernel
theorem dX11_laysPiece_17 : decode cX11_laysPiece 17 = .ok (.iload 5, 2) := by decide +kernel
theorem dX11_laysPiece_19 : decode cX11_laysPiece 19 = .ok (.iadd, 1) := by decide +kernel
theorem dX11_laysPiece_20 : decode cX11_laysPiece 20 = .ok (.iconst 0, 1) := by decide +kernel
theorem dX11_laysPiece_21 : decode cX11_laysPiece 21 = .ok (.iastore, 1) := by decide +kernel
theorem dX11_laysPiece_22 : decode cX11_laysPiece 22 = .ok (.iconst 0, 1) := by decide +kernel
theorem dX11_laysPiece_23 : decode cX11_laysPiece 23 = .ok (.istore 6, 2) := by decide +kernel
theorem dX11_laysPiece_25 : decode cX11_laysPiece 25 = .ok (.iload 6, 2) := by decide +kernel
theorem dX11_laysPiece_27 : decode cX11_laysPiece 27 = .ok (.bipush 8, 2) := by decide +kernel
theorem dX11_laysPiece_29 : decode cX11_laysPiece 29 = .ok (.if_icmp .ge 169, 3) := by decide +kernel
theorem dX11_laysPiece_32 : decode cX11_laysPiece 32 = .ok (.iload_n 2, 1) := by decide +kernel
theorem dX11_laysPiece_33 : decode cX11_laysPiece 33 = .ok (.iload 6, 2) := by decide +kernel
theorem dX11_laysPiece_35 : decode cX11_laysPiece 35 = .ok (.invokestatic 97, 3) := by decide +kernel
theorem dX11_laysPiece_38 : decode cX11_laysPiece 38 = .ok (.ifCond .ne 6, 3) := by decide +kernel
theorem dX11_laysPiece_41 : decode cX11_laysPiece 41 = .ok (.goto 151, 3) := by decide +kernel
theorem dX11_laysPiece_44 : decode cX11_laysPiece 44 = .ok (.iconst 0, 1) := by decide +kernel
theorem dX11_laysPiece_45 : decode cX11_laysPiece 45 = .ok (.istore 7, 2) := by decide +kernel
theorem dX11_laysPiece_47 : decode cX11_laysPiece 47 = .ok (.iconst 0, 1) := by decide +kernel
theorem dX11_laysPiece_48 : decode cX11_laysPiece 48 = .ok (.istore 8, 2) := by decide +kernel
theorem dX11_laysPiece_50 : decode cX11_laysPiece 50 = .ok (.iconst 0, 1) := by decide +kernel
theorem dX11_laysPiece_51 : decode cX11_laysPiece 51 = .ok (.istore 9, 2) := by decide +kernel
theorem dX11_laysPiece_53 : decode cX11_laysPiece 53 = .ok (.iload 9, 2) := by decide +kernel
theorem dX11_laysPiece_55 : decode cX11_laysPiece 55 = .ok (.bipush 8, 2) := by decide +kernel
theorem dX11_laysPiece_57 : decode cX11_laysPiece 57 = .ok (.if_icmp .ge 52, 3) := by decide +kernel
theorem dX11_laysPiece_60 : decode cX11_laysPiece 60 = .ok (.iload_n 2, 1) := by decide +kernel
theorem dX11_laysPiece_61 : decode cX11_laysPiece 61 = .ok (.iload 9, 2) := by decide +kernel
theorem dX11_laysPiece_63 : decode cX11_laysPiece 63 = .ok (.invokestatic 97, 3) := by decide +kernel
theorem dX11_laysPiece_66 : decode cX11_laysPiece 66 = .ok (.ifCond .ne 6, 3) := by decide +kernel
theorem dX11_laysPiece_69 : decode cX11_laysPiece 69 = .ok (.goto 34, 3) := by decide +kernel
theorem dX11_laysPiece_72 : decode cX11_laysPiece 72 = .ok (.iload 7, 2) := by decide +kernel
theorem dX11_laysPiece_74 : decode cX11_laysPiece 74 = .ok (.aload_n 0, 1) := by decide +kernel
theorem dX11_laysPiece_75 : decode cX11_laysPiece 75 = .ok (.getfield 64, 3) := by decide +kernel
theorem dX11_laysPiece_78 : decode cX11_laysPiece 78 = .ok (.iload 6, 2) := by decide +kernel
theorem dX11_laysPiece_80 : decode cX11_laysPiece 80 = .ok (.iaload, 1) := by decide +kernel
theorem dX11_laysPiece_81 : decode cX11_laysPiece 81 = .ok (.iload 9, 2) := by decide +kernel
theorem dX11_laysPiece_83 : decode cX11_laysPiece 83 = .ok (.invokestatic 97, 3) := by decide +kernel
theorem dX11_laysPiece_86 : decode cX11_laysPiece 86 = .ok (.ifCond .eq 10, 3) := by decide +kernel
theorem dX11_laysPiece_89 : decode cX11_laysPiece 89 = .ok (.iconst 1, 1) := by decide +kernel
theorem dX11_laysPiece_90 : decode cX11_laysPiece 90 = .ok (.iload 8, 2) := by decide +kernel
theorem dX11_laysPiece_92 : decode cX11_laysPiece 92 = .ok (.ishl, 1) := by decide +kernel
theorem dX11_laysPiece_93 : decode cX11_laysPiece 93 = .ok (.goto 4, 3) := by decide +kernel
theorem dX11_laysPiece_96 : decode cX11_laysPiece 96 = .ok (.iconst 0, 1) := by decide +kernel
theorem dX11_laysPiece_97 : decode cX11_laysPiece 97 = .ok (.ior, 1) := by decide +kernel
theorem dX11_laysPiece_98 : decode cX11_laysPiece 98 = .ok (.istore 7, 2) := by decide +kernel
theorem dX11_laysPiece_100 : decode cX11_laysPiece 100 = .ok (.iinc 8 1, 3) := by decide +kernel
theorem dX11_laysPiece_103 : decode cX11_laysPiece 103 = .ok (.iinc 9 1, 3) := by decide +kernel
theorem dX11_laysPiece_106 : decode cX11_laysPiece 106 = .ok (.goto (-53), 3) := by decide +kernel
theorem dX11_laysPiece_109 : decode cX11_laysPiece 109 = .ok (.iload_n 3, 1) := by decide +kernel
theorem dX11_laysPiece_110 : decode cX11_laysPiece 110 = .ok (.iconst (-1), 1) := by decide +kernel
theorem dX11_laysPiece_111 : decode cX11_laysPiece 111 = .ok (.if_icmp .eq 45, 3) := by decide +kernel
theorem dX11_laysPiece_114 : decode cX11_laysPiece 114 = .ok (.aload_n 0, 1) := by decide +kernel
theorem dX11_laysPiece_115 : decode cX11_laysPiece 115 = .ok (.getfield 64, 3) := by decide +kernel
theorem dX11_laysPiece_118 : decode cX11_laysPiece 118 = .ok (.iload 6, 2) := by decide +kernel
theorem dX11_laysPiece_120 : decode cX11_laysPiece 120 = .ok (.iaload, 1) := by decide +kernel
theorem dX11_laysPiece_121 : decode cX11_laysPiece 121 = .ok (.iload_n 2, 1) := by decide +kernel
theorem dX11_laysPiece_122 : decode cX11_laysPiece 122 = .ok (.iconst (-1), 1) := by decide +kernel
theorem dX11_laysPiece_123 : decode cX11_laysPiece 123 = .ok (.ixor, 1) := by decide +kernel
theorem dX11_laysPiece_124 : decode cX11_laysPiece 124 = .ok (.iand, 1) := by decide +kernel
theorem dX11_laysPiece_125 : decode cX11_laysPiece 125 = .ok (.ifCond .eq 31, 3) := by decide +kernel
theorem dX11_laysPiece_128 : decode cX11_laysPiece 128 = .ok (.iload 7, 2) := by decide +kernel
theorem dX11_laysPiece_130 : decode cX11_laysPiece 130 = .ok (.iconst 1, 1) := by decide +kernel
theorem dX11_laysPiece_131 : decode cX11_laysPiece 131 = .ok (.iload 5, 2) := by decide +kernel
theorem dX11_laysPiece_133 : decode cX11_laysPiece 133 = .ok (.ishl, 1) := by decide +kernel
theorem dX11_laysPiece_134 : decode cX11_laysPiece 134 = .ok (.ior, 1) := by decide +kernel
theorem dX11_laysPiece_135 : decode cX11_laysPiece 135 = .ok (.istore 7, 2) := by decide +kernel
theorem dX11_laysPiece_137 : decode cX11_laysPiece 137 = .ok (.aload_n 0, 1) := by decide +kernel
theorem dX11_laysPiece_138 : decode cX11_laysPiece 138 = .ok (.getfield 58, 3) := by decide +kernel
theorem dX11_laysPiece_141 : decode cX11_laysPiece 141 = .ok (.bipush 8, 2) := by decide +kernel
theorem dX11_laysPiece_143 : decode cX11_laysPiece 143 = .ok (.iload_n 1, 1) := by decide +kernel
theorem dX11_laysPiece_144 : decode cX11_laysPiece 144 = .ok (.imul, 1) := by decide +kernel
theorem dX11_laysPiece_145 : decode cX11_laysPiece 145 = .ok (.iload 5, 2) := by decide +kernel
theorem dX11_laysPiece_147 : decode cX11_laysPiece 147 = .ok (.iadd, 1) := by decide +kernel
theorem dX11_laysPiece_148 : decode cX11_laysPiece 148 = .ok (.dup2, 1) := by decide +kernel
theorem dX11_laysPiece_149 : decode cX11_laysPiece 149 = .ok (.iaload, 1) := by decide +kernel
theorem dX11_laysPiece_150 : decode cX11_laysPiece 150 = .ok (.iconst 1, 1) := by decide +kernel
theorem dX11_laysPiece_151 : decode cX11_laysPiece 151 = .ok (.iload 4, 2) := by decide +kernel
theorem dX11_laysPiece_153 : decode cX11_laysPiece 153 = .ok (.ishl, 1) := by decide +kernel
theorem dX11_laysPiece_154 : decode cX11_laysPiece 154 = .ok (.ior, 1) := by decide +kernel
theorem dX11_laysPiece_155 : decode cX11_laysPiece 155 = .ok (.iastore, 1) := by decide +kernel
theorem dX11_laysPiece_156 : decode cX11_laysPiece 156 = .ok (.aload_n 0, 1) := by decide +kernel
theorem dX11_laysPiece_157 : decode cX11_laysPiece 157 = .ok (.getfield 55, 3) := by decide +kernel
theorem dX11_laysPiece_160 : decode cX11_laysPiece 160 = .ok (.bipush 8, 2) := by decide +kernel
theorem dX11_laysPiece_162 : decode cX11_laysPiece 162 = .ok (.iload_n 1, 1) := by decide +kernel
theorem dX11_laysPiece_163 : decode cX11_laysPiece 163 = .ok (.imul, 1) := by decide +kernel
theorem dX11_laysPiece_164 : decode cX11_laysPiece 164 = .ok (.iload 4, 2) := by decide +kernel
theorem dX11_laysPiece_166 : decode cX11_laysPiece 166 = .ok (.iadd, 1) := by decide +kernel
theorem dX11_laysPiece_167 : decode cX11_laysPiece 167 = .ok (.aload_n 0, 1) := by decide +kernel
theorem dX11_laysPiece_168 : decode cX11_laysPiece 168 = .ok (.getfield 61, 3) := by decide +kernel
theorem dX11_laysPiece_171 : decode cX11_laysPiece 171 = .ok (.iload 6, 2) := by decide +kernel
theorem dX11_laysPiece_173 : decode cX11_laysPiece 173 = .ok (.iaload, 1) := by decide +kernel
theorem dX11_laysPiece_174 : decode cX11_laysPiece 174 = .ok (.iastore, 1) := by decide +kernel
theorem dX11_laysPiece_175 : decode cX11_laysPiece 175 = .ok (.aload_n 0, 1) := by decide +kernel
theorem dX11_laysPiece_176 : decode cX11_laysPiece 176 = .ok (.getfield 58, 3) := by decide +kernel
theorem dX11_laysPiece_179 : decode cX11_laysPiece 179 = .ok (.bipush 8, 2) := by decide +kernel
theorem dX11_laysPiece_181 : decode cX11_laysPiece 181 = .ok (.iload_n 1, 1) := by decide +kernel
theorem dX11_laysPiece_182 : decode cX11_laysPiece 182 = .ok (.imul, 1) := by decide +kernel
theorem dX11_laysPiece_183 : decode cX11_laysPiece 183 = .ok (.iload 4, 2) := by decide +kernel
theorem dX11_laysPiece_185 : decode cX11_laysPiece 185 = .ok (.iadd, 1) := by decide +kernel
theorem dX11_laysPiece_186 : decode cX11_laysPiece 186 = .ok (.iload 7, 2) := by decide +kernel
theorem dX11_laysPiece_188 : decode cX11_laysPiece 188 = .ok (.iastore, 1) := by decide +kernel
theorem dX11_laysPiece_189 : decode cX11_laysPiece 189 = .ok (.iinc 4 1, 3) := by decide +kernel
theorem dX11_laysPiece_192 : decode cX11_laysPiece 192 = .ok (.iinc 6 1, 3) := by decide +kernel
theorem dX11_laysPiece_195 : decode cX11_laysPiece 195 = .ok (.goto (-170), 3) := by decide +kernel
theorem dX11_laysPiece_198 : decode cX11_laysPiece 198 = .ok (.iload_n 3, 1) := by decide +kernel
theorem dX11_laysPiece_199 : decode cX11_laysPiece 199 = .ok (.iconst (-1), 1) := by decide +kernel
theorem dX11_laysPiece_200 : decode cX11_laysPiece 200 = .ok (.if_icmp .eq 16, 3) := by decide +kernel
theorem dX11_laysPiece_203 : decode cX11_laysPiece 203 = .ok (.aload_n 0, 1) := by decide +kernel
theorem dX11_laysPiece_204 : decode cX11_laysPiece 204 = .ok (.getfield 55, 3) := by decide +kernel
theorem dX11_laysPiece_207 : decode cX11_laysPiece 207 = .ok (.bipush 8, 2) := by decide +kernel
theorem dX11_laysPiece_209 : decode cX11_laysPiece 209 = .ok (.iload_n 1, 1) := by decide +kernel
theorem dX11_laysPiece_210 : decode cX11_laysPiece 210 = .ok (.imul, 1) := by decide +kernel
theorem dX11_laysPiece_211 : decode cX11_laysPiece 211 = .ok (.iload 5, 2) := by decide +kernel
theorem dX11_laysPiece_213 : decode cX11_laysPiece 213 = .ok (.iadd, 1) := by decide +kernel
theorem dX11_laysPiece_214 : decode cX11_laysPiece 214 = .ok (.iload_n 3, 1) := by decide +kernel
theorem dX11_laysPiece_215 : decode cX11_laysPiece 215 = .ok (.iastore, 1) := by decide +kernel
theorem dX11_laysPiece_216 : decode cX11_laysPiece 216 = .ok (.aload_n 0, 1) := by decide +kernel
theorem dX11_laysPiece_217 : decode cX11_laysPiece 217 = .ok (.getfield 52, 3) := by decide +kernel
theorem dX11_laysPiece_220 : decode cX11_laysPiece 220 = .ok (.iload_n 1, 1) := by decide +kernel
theorem dX11_laysPiece_221 : decode cX11_laysPiece 221 = .ok (.iload_n 3, 1) := by decide +kernel
theorem dX11_laysPiece_222 : decode cX11_laysPiece 222 = .ok (.iconst (-1), 1) := by decide +kernel
theorem dX11_laysPiece_223 : decode cX11_laysPiece 223 = .ok (.if_icmp .ne 8, 3) := by decide +kernel
theorem dX11_laysPiece_226 : decode cX11_laysPiece 226 = .ok (.iload 5, 2) := by decide +kernel
theorem dX11_laysPiece_228 : decode cX11_laysPiece 228 = .ok (.goto 7, 3) := by decide +kernel
theorem dX11_laysPiece_231 : decode cX11_laysPiece 231 = .ok (.iload 5, 2) := by decide +kernel
theorem dX11_laysPiece_233 : decode cX11_laysPiece 233 = .ok (.iconst 1, 1) := by decide +kernel
theorem dX11_laysPiece_234 : decode cX11_laysPiece 234 = .ok (.iadd, 1) := by decide +kernel
theorem dX11_laysPiece_235 : decode cX11_laysPiece 235 = .ok (.iastore, 1) := by decide +kernel
theorem dX11_laysPiece_236 : decode cX11_laysPiece 236 = .ok (.return_, 1) := by decide +kernel
def fp_X11_laysPiece_L53 (k109 : Int32 → Option (zM)) (v0 : Nat) (v1 : Int32) (v2 : Int32) (v3 : Int32) (v4 : Int32) (v5 : Int32) (v6 : Int32) (M : zM) : Nat → Int32 → Int32 → Int32 → Option (zM)
  | 0, _, _, _ => none
  | n + 1, v7, v8, v9 =>
    if v9 ≥ 8 then (
      k109 v7)
    else (
      (fp_X11_has v2 v9).bind fun (y7 : Int32) =>
      zjn (fun (v7_8 : Int32) (v8_9 : Int32) =>
          fp_X11_laysPiece_L53 k109 v0 v1 v2 v3 v4 v5 v6 M n v7_8 v8_9 (v9 + 1))
        (fun j103 =>
          if y7 ≠ 0 then (
            (zgR 9 M v0 27).bind fun (y10 : Nat) =>
            (zlI 100 M y10 v6).bind fun (y11 : Int32) =>
            (fp_X11_has y11 v9).bind fun (y12 : Int32) =>
            zjn (fun (s13 : Int32) (s14 : Int32) =>
                lett ((s14 ||| s13)) fun (v7_15 : Int32) =>
                j103 v7_15 (v8 + 1))
              (fun j97 =>
                if y12 = 0 then (
                  j97 0 v7)
                else (
                  j97 (1 <<< (v8 &&& 31)) v7)))
          else (
            j103 v7 v8)))
def fp_X11_laysPiece_L25 (k198 : zM → Option (zM)) (v0 : Nat) (v1 : Int32) (v2 : Int32) (v3 : Int32) (v5 : Int32) : Nat → Int32 → Int32 → zM → Option (zM)
  | 0, _, _, _ => none
  | n + 1, v4, v6, M =>
    if v6 ≥ 8 then (
      k198 M)
    else (
      (fp_X11_has v2 v6).bind fun (y4 : Int32) =>
      zjn (fun (v4_5 : Int32) (M6 : zM) =>
          fp_X11_laysPiece_L25 k198 v0 v1 v2 v3 v5 n v4_5 (v6 + 1) M6)
        (fun j192 =>
          if y4 ≠ 0 then (
            fp_X11_laysPiece_L53
              (fun v7_16 =>
                zjn (fun (v7_17 : Int32) (M18 : zM) =>
                    (zgR 9 M18 v0 24).bind fun (y19 : Nat) =>
                    (zgR 9 M18 v0 26).bind fun (y20 : Nat) =>
                    (zlI 100 M18 y20 v6).bind fun (y21 : Int32) =>
                    (ztI M18 y19 ((8 * v1) + v4) y21).bind fun (M22 : zM) =>
                    (zgR 9 M22 v0 25).bind fun (y23 : Nat) =>
                    (ztI M22 y23 ((8 * v1) + v4) v7_17).bind fun (M24 : zM) =>
                    j192 (v4 + 1) M24)
                  (fun j156 =>
                    if v3 = (-1) then (
                      j156 v7_16 M)
                    else (
                      (zgR 9 M v0 27).bind fun (y25 : Nat) =>
                      (zlI 100 M y25 v6).bind fun (y26 : Int32) =>
                      if (y26 &&& (v2 ^^^ (-1))) = 0 then (
                        j156 v7_16 M)
                      else (
                        lett ((v7_16 ||| (1 <<< (v5 &&& 31)))) fun (v7_27 : Int32) =>
                        (zgR 9 M v0 25).bind fun (y28 : Nat) =>
                        (zlI 100 M y28 ((8 * v1) + v5)).bind fun (y29 : Int32) =>
                        (ztI M y28 ((8 * v1) + v5) (y29 ||| (1 <<< (v4 &&& 31)))).bind fun (M30 : zM) =>
                        j156 v7_27 M30)))) v0 v1 v2 v3 v4 v5 v6 M FU 0 0 0)
          else (
            j192 v4 M)))
def fp_X11_laysPiece (v0 : Nat) (v1 : Int32) (v2 : Int32) (v3 : Int32) (M : zM) : Option (zM) :=
  zthis 9 M v0 (
    (fp_X11_bits v2).bind fun (y1 : Int32) =>
    (zgR 9 M v0 25).bind fun (y2 : Nat) =>
    (ztI M y2 ((8 * v1) + y1) 0).bind fun (M3 : zM) =>
    fp_X11_laysPiece_L25
      (fun M31 =>
        zjn (fun (M32 : zM) =>
            (zgR 9 M32 v0 23).bind fun (y33 : Nat) =>
            if v3 ≠ (-1) then (
              (ztI M32 y33 v1 (y1 + 1)).bind fun (M34 : zM) =>
              some M34)
            else (
              (ztI M32 y33 v1 y1).bind fun (M35 : zM) =>
              some M35))
          (fun j216 =>
            if v3 = (-1) then (
              j216 M31)
            else (
              (zgR 9 M31 v0 24).bind fun (y36 : Nat) =>
              (ztI M31 y36 ((8 * v1) + y1) v3).bind fun (M37 : zM) =>
              j216 M37))) v0 v1 v2 v3 y1 FU 0 0 M3)
set_option maxHeartbeats 4000000 in
set_option maxRecDepth 100000 in
theorem th_X11_laysPiece {v0 : Nat} {v1 : Int32} {v2 : Int32} {v3 : Int32} {M : zM} {x0 : zM} (h : fp_X11_laysPiece v0 v1 v2 v3 M = some x0) : v0 < zS M ∧ kd v0 = 9 := by
  unfold fp_X11_laysPiece at h
  exact zthis_of h
set_option maxHeartbeats 4000000 in
set_option maxRecDepth 100000 in
theorem w_X11_laysPiece_L53 (E : zEnv) (hE : zEok E) (d : Nat) (hd : 2 ≤ d) (M0 : zM) (x0 : zM) (v0 : Nat) (v1 : Int32) (v2 : Int32) (v3 : Int32) (v4 : Int32) (v5 : Int32) (v6 : Int32) (M : zM) (k109 : Int32 → Option (zM)) (hk109 : ∀ (v7 : Int32), zSy E mu_X11_laysPiece d M0 (none, x0) x0 (k109 v7) 109 [(0, .ref (E.2.2.2.1 + v0)), (1, .int v1), (2, .int v2), (3, .int v3), (4, .int v4), (5, .int v5), (6, .int v6), (7, .int v7)] [] M) : ∀ (n : Nat) (v7 : Int32) (v8 : Int32) (v9 : Int32), zSy E mu_X11_laysPiece d M0 (none, x0) x0 (fp_X11_laysPiece_L53 k109 v0 v1 v2 v3 v4 v5 v6 M n v7 v8 v9) 53 [(0, .ref (E.2.2.2.1 + v0)), (1, .int v1), (2, .int v2), (3, .int v3), (4, .int v4), (5, .int v5), (6, .int v6), (7, .int v7), (8, .int v8), (9, .int v9)] [] M := by
  intro n
  induction n with
  | zero =>
    intro v7 v8 v9
    rw [fp_X11_laysPiece_L53]
    exact zs_none
  | succ n ih =>
    intro v7 v8 v9
    rw [fp_X11_laysPiece_L53]
    refine zs_iload dX11_laysPiece_53 9 rfl ?_
    refine zs_bipush (v := 8) dX11_laysPiece_55 cbipush_8 ?_
    refine zs_icmp_ge dX11_laysPiece_57 rfl ?_ ?_
    · refine zs_sub (loc' := [(0, .ref (E.2.2.2.1 + v0)), (1, .int v1), (2, .int v2), (3, .int v3), (4, .int v4), (5, .int v5), (6, .int v6), (7, .int v7)]) [0, 1, 2, 3, 4, 5, 6, 7] rfl ?_
      exact hk109 v7
    refine zs_iload_n dX11_laysPiece_60 rfl 2 rfl ?_
    refine zs_iload dX11_laysPiece_61 9 rfl ?_
    refine zs_invSPI (rest := []) [.int v2, .int v9] dX11_laysPiece_63 lk_X11_97 rfl (zd1 rfl hd) rfl (Nat.le_of_ble_eq_true rfl) (ct_X11_has E hE _ (zdl rfl hd) _ _ _) (fun y7 => ?_)
    refine zs_jn (fun j103 => ∀ (v7_8 : Int32) (v8_9 : Int32), zSy E mu_X11_laysPiece d M0 (none, x0) x0 (j103 v7_8 v8_9) 103 [(0, .ref (E.2.2.2.1 + v0)), (1, .int v1), (2, .int v2), (3, .int v3), (4, .int v4), (5, .int v5), (6, .int v6), (7, .int v7_8), (8, .int v8_9), (9, .int v9)] [] M) (fun v7_8 v8_9 => ?_) (fun j103 hj103 => ?_)
    · refine zs_iinc (v := (v9 + 1)) (loc' := [(0, .ref (E.2.2.2.1 + v0)), (1, .int v1), (2, .int v2), (3, .int v3), (4, .int v4), (5, .int v5), (6, .int v6), (7, .int v7_8), (8, .int v8_9), (9, .int (v9 + 1))]) dX11_laysPiece_103 9 rfl (by rfl) (Nat.le_of_ble_eq_true rfl) [1, 2, 3, 4, 5, 6, 7, 8, 9, 0] rfl ?_
      refine zs_goto dX11_laysPiece_106 rfl ?_
      exact ih v7_8 v8_9 (v9 + 1)
    refine zs_if_ne dX11_laysPiece_66 rfl ?_ ?_
    · refine zs_iload dX11_laysPiece_72 7 rfl ?_
      refine zs_aload_n dX11_laysPiece_74 rfl 0 rfl ?_
      refine zs_getR dX11_laysPiece_75 fl_X11_64 rfl (fun y10 => ?_)
      refine zs_iload dX11_laysPiece_78 6 rfl ?_
      refine zs_ldI dX11_laysPiece_80 (fun y11 => ?_)
      refine zs_iload dX11_laysPiece_81 9 rfl ?_
      refine zs_invSPI (rest := [.int v7]) [.int y11, .int v9] dX11_laysPiece_83 lk_X11_97 rfl (zd1 rfl hd) rfl (Nat.le_of_ble_eq_true rfl) (ct_X11_has E hE _ (zdl rfl hd) _ _ _) (fun y12 => ?_)
      refine zs_jn (fun j97 => ∀ (s13 : Int32) (s14 : Int32), zSy E mu_X11_laysPiece d M0 (none, x0) x0 (j97 s13 s14) 97 [(0, .ref (E.2.2.2.1 + v0)), (1, .int v1), (2, .int v2), (3, .int v3), (4, .int v4), (5, .int v5), (6, .int v6), (8, .int v8), (9, .int v9)] [.int s13, .int s14] M) (fun s13 s14 => ?_) (fun j97 hj97 => ?_)
      · refine zs_ior dX11_laysPiece_97 ?_
        refine zs_istoreL (loc' := fun v7_15 => [(0, .ref (E.2.2.2.1 + v0)), (1, .int v1), (2, .int v2), (3, .int v3), (4, .int v4), (5, .int v5), (6, .int v6), (7, .int v7_15), (8, .int v8), (9, .int v9)]) dX11_laysPiece_98 (Nat.le_of_ble_eq_true rfl) [1, 2, 3, 4, 5, 6, 7, 0, 8, 9] (fun _ => rfl) (fun v7_15 => ?_)
        refine zs_iinc (v := (v8 + 1)) (loc' := [(0, .ref (E.2.2.2.1 + v0)), (1, .int v1), (2, .int v2), (3, .int v3), (4, .int v4), (5, .int v5), (6, .int v6), (7, .int v7_15), (8, .int (v8 + 1)), (9, .int v9)]) dX11_laysPiece_100 8 rfl (by rfl) (Nat.le_of_ble_eq_true rfl) [1, 2, 3, 4, 5, 6, 7, 8, 0, 9] rfl ?_
        exact hj103 v7_15 (v8 + 1)
      refine zs_if_eq dX11_laysPiece_86 rfl ?_ ?_
      · refine zs_iconst (v := 0) dX11_laysPiece_96 ciconst_0 ?_
        refine zs_sub (loc' := [(0, .ref (E.2.2.2.1 + v0)), (1, .int v1), (2, .int v2), (3, .int v3), (4, .int v4), (5, .int v5), (6, .int v6), (8, .int v8), (9, .int v9)]) [0, 1, 2, 3, 4, 5, 6, 8, 9] rfl ?_
        exact hj97 0 v7
      refine zs_iconst (v := 1) dX11_laysPiece_89 ciconst_1 ?_
      refine zs_iload dX11_laysPiece_90 8 rfl ?_
      refine zs_ishl dX11_laysPiece_92 ?_
      refine zs_goto dX11_laysPiece_93 rfl ?_
      refine zs_sub (loc' := [(0, .ref (E.2.2.2.1 + v0)), (1, .int v1), (2, .int v2), (3, .int v3), (4, .int v4), (5, .int v5), (6, .int v6), (8, .int v8), (9, .int v9)]) [0, 1, 2, 3, 4, 5, 6, 8, 9] rfl ?_
      exact hj97 (1 <<< (v8 &&& 31)) v7
    refine zs_goto dX11_laysPiece_69 rfl ?_
    exact hj103 v7 v8
set_option maxHeartbeats 4000000 in
set_option maxRecDepth 100000 in
theorem w_X11_laysPiece_L25 (E : zEnv) (hE : zEok E) (d : Nat) (hd : 2 ≤ d) (M0 : zM) (x0 : zM) (v0 : Nat) (v1 : Int32) (v2 : Int32) (v3 : Int32) (v5 : Int32) (k198 : zM → Option (zM)) (hk198 : ∀ (M : zM), zSy E mu_X11_laysPiece d M0 (none, x0) x0 (k198 M) 198 [(0, .ref (E.2.2.2.1 + v0)), (1, .int v1), (3, .int v3), (5, .int v5)] [] M) : ∀ (n : Nat) (v4 : Int32) (v6 : Int32) (M : zM), zSy E mu_X11_laysPiece d M0 (none, x0) x0 (fp_X11_laysPiece_L25 k198 v0 v1 v2 v3 v5 n v4 v6 M) 25 [(0, .ref (E.2.2.2.1 + v0)), (1, .int v1), (2, .int v2), (3, .int v3), (4, .int v4), (5, .int v5), (6, .int v6)] [] M := by
  intro n
  induction n with
  | zero =>
    intro v4 v6 M
    rw [fp_X11_laysPiece_L25]
    exact zs_none
  | succ n ih =>
    intro v4 v6 M
    rw [fp_X11_laysPiece_L25]
    refine zs_iload dX11_laysPiece_25 6 rfl ?_
    refine zs_bipush (v := 8) dX11_laysPiece_27 cbipush_8 ?_
    refine zs_icmp_ge dX11_laysPiece_29 rfl ?_ ?_
    · refine zs_sub (loc' := [(0, .ref (E.2.2.2.1 + v0)), (1, .int v1), (3, .int v3), (5, .int v5)]) [0, 1, 3, 5] rfl ?_
      exact hk198 M
    refine zs_iload_n dX11_laysPiece_32 rfl 2 rfl ?_
    refine zs_iload dX11_laysPiece_33 6 rfl ?_
    refine zs_invSPI (rest := []) [.int v2, .int v6] dX11_laysPiece_35 lk_X11_97 rfl (zd1 rfl hd) rfl (Nat.le_of_ble_eq_true rfl) (ct_X11_has E hE _ (zdl rfl hd) _ _ _) (fun y4 => ?_)
    refine zs_jn (fun j192 => ∀ (v4_5 : Int32) (M6 : zM), zSy E mu_X11_laysPiece d M0 (none, x0) x0 (j192 v4_5 M6) 192 [(0, .ref (E.2.2.2.1 + v0)), (1, .int v1), (2, .int v2), (3, .int v3), (4, .int v4_5), (5, .int v5), (6, .int v6)] [] M6) (fun v4_5 M6 => ?_) (fun j192 hj192 => ?_)
    · refine zs_iinc (v := (v6 + 1)) (loc' := [(0, .ref (E.2.2.2.1 + v0)), (1, .int v1), (2, .int v2), (3, .int v3), (4, .int v4_5), (5, .int v5), (6, .int (v6 + 1))]) dX11_laysPiece_192 6 rfl (by rfl) (Nat.le_of_ble_eq_true rfl) [1, 2, 3, 4, 5, 6, 0] rfl ?_
      refine zs_goto dX11_laysPiece_195 rfl ?_
      exact ih v4_5 (v6 + 1) M6
    refine zs_if_ne dX11_laysPiece_38 rfl ?_ ?_
    · refine zs_iconst (v := 0) dX11_laysPiece_44 ciconst_0 ?_
      refine zs_istore (loc' := [(0, .ref (E.2.2.2.1 + v0)), (1, .int v1), (2, .int v2), (3, .int v3), (4, .int v4), (5, .int v5), (6, .int v6), (7, .int 0)]) dX11_laysPiece_45 (Nat.le_of_ble_eq_true rfl) [1, 2, 3, 4, 5, 6, 7, 0] rfl ?_
      refine zs_iconst (v := 0) dX11_laysPiece_47 ciconst_0 ?_
      refine zs_istore (loc' := [(0, .ref (E.2.2.2.1 + v0)), (1, .int v1), (2, .int v2), (3, .int v3), (4, .int v4), (5, .int v5), (6, .int v6), (7, .int 0), (8, .int 0)]) dX11_laysPiece_48 (Nat.le_of_ble_eq_true rfl) [1, 2, 3, 4, 5, 6, 7, 8, 0] rfl ?_
      refine zs_iconst (v := 0) dX11_laysPiece_50 ciconst_0 ?_
      refine zs_istore (loc' := [(0, .ref (E.2.2.2.1 + v0)), (1, .int v1), (2, .int v2), (3, .int v3), (4, .int v4), (5, .int v5), (6, .int v6), (7, .int 0), (8, .int 0), (9, .int 0)]) dX11_laysPiece_51 (Nat.le_of_ble_eq_true rfl) [1, 2, 3, 4, 5, 6, 7, 8, 9, 0] rfl ?_
      refine w_X11_laysPiece_L53 E hE d hd _ _ _ _ _ _ _ _ _ _ _ (fun v7_16 => ?_) _ _ _ _
      refine zs_iload_n dX11_laysPiece_109 rfl 3 rfl ?_
      refine zs_iconst (v := (-1)) dX11_laysPiece_110 ciconst_m1 ?_
      refine zs_jn (fun j156 => ∀ (v7_17 : Int32) (M18 : zM), zSy E mu_X11_laysPiece d M0 (none, x0) x0 (j156 v7_17 M18) 156 [(0, .ref (E.2.2.2.1 + v0)), (1, .int v1), (2, .int v2), (3, .int v3), (4, .int v4), (5, .int v5), (6, .int v6), (7, .int v7_17)] [] M18) (fun v7_17 M18 => ?_) (fun j156 hj156 => ?_)
      · refine zs_aload_n dX11_laysPiece_156 rfl 0 rfl ?_
        refine zs_getR dX11_laysPiece_157 fl_X11_55 rfl (fun y19 => ?_)
        refine zs_bipush (v := 8) dX11_laysPiece_160 cbipush_8 ?_
        refine zs_iload_n dX11_laysPiece_162 rfl 1 rfl ?_
        refine zs_imul dX11_laysPiece_163 ?_
        refine zs_iload dX11_laysPiece_164 4 rfl ?_
        refine zs_iadd dX11_laysPiece_166 ?_
        refine zs_aload_n dX11_laysPiece_167 rfl 0 rfl ?_
        refine zs_getR dX11_laysPiece_168 fl_X11_61 rfl (fun y20 => ?_)
        refine zs_iload dX11_laysPiece_171 6 rfl ?_
        refine zs_ldI dX11_laysPiece_173 (fun y21 => ?_)
        refine zs_stI dX11_laysPiece_174 (fun M22 => ?_)
        refine zs_aload_n dX11_laysPiece_175 rfl 0 rfl ?_
        refine zs_getR dX11_laysPiece_176 fl_X11_58 rfl (fun y23 => ?_)
        refine zs_bipush (v := 8) dX11_laysPiece_179 cbipush_8 ?_
        refine zs_iload_n dX11_laysPiece_181 rfl 1 rfl ?_
        refine zs_imul dX11_laysPiece_182 ?_
        refine zs_iload dX11_laysPiece_183 4 rfl ?_
        refine zs_iadd dX11_laysPiece_185 ?_
        refine zs_iload dX11_laysPiece_186 7 rfl ?_
        refine zs_stI dX11_laysPiece_188 (fun M24 => ?_)
        refine zs_iinc (v := (v4 + 1)) (loc' := [(0, .ref (E.2.2.2.1 + v0)), (1, .int v1), (2, .int v2), (3, .int v3), (4, .int (v4 + 1)), (5, .int v5), (6, .int v6)]) dX11_laysPiece_189 4 rfl (by rfl) (Nat.le_of_ble_eq_true rfl) [1, 2, 3, 4, 0, 5, 6] rfl ?_
        exact hj192 (v4 + 1) M24
      refine zs_icmp_eq dX11_laysPiece_111 rfl ?_ ?_
      · exact hj156 v7_16 M
      refine zs_aload_n dX11_laysPiece_114 rfl 0 rfl ?_
      refine zs_getR dX11_laysPiece_115 fl_X11_64 rfl (fun y25 => ?_)
      refine zs_iload dX11_laysPiece_118 6 rfl ?_
      refine zs_ldI dX11_laysPiece_120 (fun y26 => ?_)
      refine zs_iload_n dX11_laysPiece_121 rfl 2 rfl ?_
      refine zs_iconst (v := (-1)) dX11_laysPiece_122 ciconst_m1 ?_
      refine zs_ixor dX11_laysPiece_123 ?_
      refine zs_iand dX11_laysPiece_124 ?_
      refine zs_if_eq dX11_laysPiece_125 rfl ?_ ?_
      · exact hj156 v7_16 M
      refine zs_iload dX11_laysPiece_128 7 rfl ?_
      refine zs_iconst (v := 1) dX11_laysPiece_130 ciconst_1 ?_
      refine zs_iload dX11_laysPiece_131 5 rfl ?_
      refine zs_ishl dX11_laysPiece_133 ?_
      refine zs_ior dX11_laysPiece_134 ?_
      refine zs_istoreL (loc' := fun v7_27 => [(0, .ref (E.2.2.2.1 + v0)), (1, .int v1), (2, .int v2), (3, .int v3), (4, .int v4), (5, .int v5), (6, .int v6), (7, .int v7_27)]) dX11_laysPiece_135 (Nat.le_of_ble_eq_true rfl) [1, 2, 3, 4, 5, 6, 7, 0] (fun _ => rfl) (fun v7_27 => ?_)
      refine zs_aload_n dX11_laysPiece_137 rfl 0 rfl ?_
      refine zs_getR dX11_laysPiece_138 fl_X11_58 rfl (fun y28 => ?_)
      refine zs_bipush (v := 8) dX11_laysPiece_141 cbipush_8 ?_
      refine zs_iload_n dX11_laysPiece_143 rfl 1 rfl ?_
      refine zs_imul dX11_laysPiece_144 ?_
      refine zs_iload dX11_laysPiece_145 5 rfl ?_
      refine zs_iadd dX11_laysPiece_147 ?_
      refine zs_dup2 dX11_laysPiece_148 rfl rfl ?_
      refine zs_ldI dX11_laysPiece_149 (fun y29 => ?_)
      refine zs_iconst (v := 1) dX11_laysPiece_150 ciconst_1 ?_
      refine zs_iload dX11_laysPiece_151 4 rfl ?_
      refine zs_ishl dX11_laysPiece_153 ?_
      refine zs_ior dX11_laysPiece_154 ?_
      refine zs_stI dX11_laysPiece_155 (fun M30 => ?_)
      exact hj156 v7_27 M30
    refine zs_goto dX11_laysPiece_41 rfl ?_
    exact hj192 v4 M
set_option maxHeartbeats 4000000 in
set_option maxRecDepth 100000 in
theorem ct_X11_laysPiece (E : zEnv) (hE : zEok E) (d : Nat) (hd : 2 ≤ d) (v0 : Nat) (v1 : Int32) (v2 : Int32) (v3 : Int32) (M : zM) (x0 : zM) (hx : fp_X11_laysPiece v0 v1 v2 v3 M = some x0) : zCt E mu_X11_laysPiece d [.ref (E.2.2.2.1 + v0), .int v1, .int v2, .int v3] M (none, x0) := by
  refine zCt_of (μ := mu_X11_laysPiece) (t := fp_X11_laysPiece v0 v1 v2 v3 M) rfl rfl (Nat.le_of_ble_eq_true rfl) hx ?_
  change zSy E mu_X11_laysPiece d M (none, x0) x0 (fp_X11_laysPiece v0 v1 v2 v3 M) 0 [(0, .ref (E.2.2.2.1 + v0)), (1, .int v1), (2, .int v2), (3, .int v3)] [] M
  unfold fp_X11_laysPiece
  refine zs_this (fun hth => ?_)
  refine zs_iconst (v := 0) dX11_laysPiece_0 ciconst_0 ?_
  refine zs_istore (loc' := [(0, .ref (E.2.2.2.1 + v0)), (1, .int v1), (2, .int v2), (3, .int v3), (4, .int 0)]) dX11_laysPiece_1 (Nat.le_of_ble_eq_true rfl) [1, 2, 3, 4, 0] rfl ?_
  refine zs_iload_n dX11_laysPiece_3 rfl 2 rfl ?_
  refine zs_invSPI (rest := []) [.int v2] dX11_laysPiece_4 lk_X11_122 rfl (zd1 rfl hd) rfl (Nat.le_of_ble_eq_true rfl) (ct_X11_bits E hE _ (zdl rfl hd) _ _) (fun y1 => ?_)
  refine zs_istore (loc' := [(0, .ref (E.2.2.2.1 + v0)), (1, .int v1), (2, .int v2), (3, .int v3), (4, .int 0), (5, .int y1)]) dX11_laysPiece_7 (Nat.le_of_ble_eq_true rfl) [1, 2, 3, 4, 5, 0] rfl ?_
  refine zs_aload_n dX11_laysPiece_9 rfl 0 rfl ?_
  refine zs_getR dX11_laysPiece_10 fl_X11_58 rfl (fun y2 => ?_)
  refine zs_bipush (v := 8) dX11_laysPiece_13 cbipush_8 ?_
  refine zs_iload_n dX11_laysPiece_15 rfl 1 rfl ?_
  refine zs_imul dX11_laysPiece_16 ?_
  refine zs_iload dX11_laysPiece_17 5 rfl ?_
  refine zs_iadd dX11_laysPiece_19 ?_
  refine zs_iconst (v := 0) dX11_laysPiece_20 ciconst_0 ?_
  refine zs_stI dX11_laysPiece_21 (fun M3 => ?_)
  refine zs_iconst (v := 0) dX11_laysPiece_22 ciconst_0 ?_
  refine zs_istore (loc' := [(0, .ref (E.2.2.2.1 + v0)), (1, .int v1), (2, .int v2), (3, .int v3), (4, .int 0), (5, .int y1), (6, .int 0)]) dX11_laysPiece_23 (Nat.le_of_ble_eq_true rfl) [1, 2, 3, 4, 5, 6, 0] rfl ?_
  refine w_X11_laysPiece_L25 E hE d hd _ _ _ _ _ _ _ _ (fun M31 => ?_) _ _ _ _
  refine zs_iload_n dX11_laysPiece_198 rfl 2 rfl ?_
  refine zs_iconst (v := (-1)) dX11_laysPiece_199 ciconst_m1 ?_
  refine zs_jn (fun j216 => ∀ (M32 : zM), zSy E mu_X11_laysPiece d M (none, x0) x0 (j216 M32) 216 [(0, .ref (E.2.2.2.1 + v0)), (1, .int v1), (3, .int v3), (5, .int y1)] [] M32) (fun M32 => ?_) (fun j216 hj216 => ?_)
  · refine zs_aload_n dX11_laysPiece_216 rfl 0 rfl ?_
    refine zs_getR dX11_laysPiece_217 fl_X11_52 rfl (fun y33 => ?_)
    refine zs_iload_n dX11_laysPiece_220 rfl 1 rfl ?_
    refine zs_iload_n dX11_laysPiece_221 rfl 2 rfl ?_
    refine zs_iconst (v := (-1)) dX11_laysPiece_222 ciconst_m1 ?_
    refine zs_icmp_ne dX11_laysPiece_223 rfl ?_ ?_
    · refine zs_iload dX11_laysPiece_231 3 rfl ?_
      refine zs_iconst (v := 1) dX11_laysPiece_233 ciconst_1 ?_
      refine zs_iadd dX11_laysPiece_234 ?_
      refine zs_stI dX11_laysPiece_235 (fun M34 => ?_)
      exact zs_vret dX11_laysPiece_236 trivial
    refine zs_iload dX11_laysPiece_226 3 rfl ?_
    refine zs_goto dX11_laysPiece_228 rfl ?_
    refine zs_stI dX11_laysPiece_235 (fun M35 => ?_)
    exact zs_vret dX11_laysPiece_236 trivial
  refine zs_icmp_eq dX11_laysPiece_200 rfl ?_ ?_
  · exact hj216 M31
  refine zs_aload_n dX11_laysPiece_203 rfl 0 rfl ?_
  refine zs_getR dX11_laysPiece_204 fl_X11_55 rfl (fun y36 => ?_)
  refine zs_bipush (v := 8) dX11_laysPiece_207 cbipush_8 ?_
  refine zs_iload_n dX11_laysPiece_209 rfl 1 rfl ?_
  refine zs_imul dX11_laysPiece_210 ?_
  refine zs_iload dX11_laysPiece_211 3 rfl ?_
  refine zs_iadd dX11_laysPiece_213 ?_
  refine zs_iload_n dX11_laysPiece_214 rfl 2 rfl ?_
  refine zs_stI dX11_laysPiece_215 (fun M37 => ?_)
  exact hj216 M37
theorem dX11_firstSplit_0 : decode cX11_firstSplit 0 = .ok (.aload_n 0, 1) := by decide +kernel
theorem dX11_firstSplit_1 : decode cX11_firstSplit 1 = .ok (.getfield 52, 3) := by decide +kernel
theorem dX11_firstSplit_4 : decode cX11_firstSplit 4 = .ok (.iload_n 1, 1) := by decide +kernel
theorem dX11_firstSplit_5 : decode cX11_firstSplit 5 = .ok (.iaload, 1) := by decide +kernel
theorem dX11_firstSplit_6 : decode cX11_firstSplit 6 = .ok (.istore_n 2, 1) := by decide +kernel
theorem dX11_firstSplit_7 : decode cX11_firstSplit 7 = .ok (.iconst 1, 1) := by decide +kernel
theorem dX11_firstSplit_8 : decode cX11_firstSplit 8 = .ok (.istore_n 3, 1) := by decide +kernel
theorem dX11_firstSplit_9 : decode cX11_firstSplit 9 = .ok (.iload_n 3, 1) := by decide +kernel
theorem dX11_firstSplit_10 : decode cX11_firstSplit 10 = .ok (.iconst 1, 1) := by decide +kernel
theorem dX11_firstSplit_11 : decode cX11_firstSplit 11 = .ok (.iload_n 2, 1) := by decide +kernel
theorem dX11_firstSplit_12 : decode cX11_firstSplit 12 = .ok (.ishl, 1) := by decide +kernel
theorem dX11_firstSplit_13 : decode cX11_firstSplit 13 = .ok (.if_icmp .ge 37, 3) := by decide +kernel
theorem dX11_firstSplit_16 : decode cX11_firstSplit 16 = .ok (.iload_n 3, 1) := by decide +kernel
theorem dX11_firstSplit_17 : decode cX11_firstSplit 17 = .ok (.iload_n 2, 1) := by decide +kernel
theorem dX11_firstSplit_18 : decode cX11_firstSplit 18 = .ok (.invokestatic 297, 3) := by decide +kernel
theorem dX11_firstSplit_21 : decode cX11_firstSplit 21 = .ok (.ifCond .eq 23, 3) := by decide +kernel
theorem dX11_firstSplit_24 : decode cX11_firstSplit 24 = .ok (.aload_n 0, 1) := by decide +kernel
theorem dX11_firstSplit_25 : decode cX11_firstSplit 25 = .ok (.aload_n 0, 1) := by decide +kernel
theorem dX11_firstSplit_26 : decode cX11_firstSplit 26 = .ok (.getfield 58, 3) := by decide +kernel
theorem dX11_firstSplit_29 : decode cX11_firstSplit 29 = .ok (.bipush 8, 2) := by decide +kernel
theorem dX11_firstSplit_31 : decode cX11_firstSplit 31 = .ok (.iload_n 1, 1) := by decide +kernel
theorem dX11_firstSplit_32 : decode cX11_firstSplit 32 = .ok (.imul, 1) := by decide +kernel
theorem dX11_firstSplit_33 : decode cX11_firstSplit 33 = .ok (.iload_n 2, 1) := by decide +kernel
theorem dX11_firstSplit_34 : decode cX11_firstSplit 34 = .ok (.iload_n 3, 1) := by decide +kernel
theorem dX11_firstSplit_35 : decode cX11_firstSplit 35 = .ok (.invokevirtual 290, 3) := by decide +kernel
theorem dX11_firstSplit_38 : decode cX11_firstSplit 38 = .ok (.iconst 1, 1) := by decide +kernel
theorem dX11_firstSplit_39 : decode cX11_firstSplit 39 = .ok (.if_icmp .ne 5, 3) := by decide +kernel
theorem dX11_firstSplit_42 : decode cX11_firstSplit 42 = .ok (.iload_n 3, 1) := by decide +kernel
theorem dX11_firstSplit_43 : decode cX11_firstSplit 43 = .ok (.ireturn, 1) := by decide +kernel
theorem dX11_firstSplit_44 : decode cX11_firstSplit 44 = .ok (.iinc 3 2, 3) := by decide +kernel
theorem dX11_firstSplit_47 : decode cX11_firstSplit 47 = .ok (.goto (-38), 3) := by decide +kernel
theorem dX11_firstSplit_50 : decode cX11_firstSplit 50 = .ok (.iconst (-1), 1) := by decide +kernel
theorem dX11_firstSplit_51 : decode cX11_firstSplit 51 = .ok (.ireturn, 1) := by decide +kernel
def fp_X11_firstSplit_L9 (v0 : Nat) (v1 : Int32) (v2 : Int32) : Nat → Int32 → zM → Option (Int32 × zM)
  | 0, _, _ => none
  | n + 1, v3, M =>
    if v3 ≥ (1 <<< (v2 &&& 31)) then (
      some ((-1), M))
    else (
      (fp_X11_canSplit v3 v2).bind fun (y3 : Int32) =>
      zjn (fun (M4 : zM) =>
          fp_X11_firstSplit_L9 v0 v1 v2 n (v3 + 2) M4)
        (fun j44 =>
          if y3 = 0 then (
            j44 M)
          else (
            (zgR 9 M v0 25).bind fun (y5 : Nat) =>
            (fp_X11_rank v0 y5 (8 * v1) v2 v3 M).bind fun p8 => zpp p8 fun (y6 : Int32) (M7 : zM) =>
            if y6 ≠ 1 then (
              j44 M7)
            else (
              some (v3, M7)))))
def fp_X11_firstSplit (v0 : Nat) (v1 : Int32) (M : zM) : Option (Int32 × zM) :=
  zthis 9 M v0 (
    (zgR 9 M v0 23).bind fun (y1 : Nat) =>
    (zlI 100 M y1 v1).bind fun (y2 : Int32) =>
    fp_X11_firstSplit_L9 v0 v1 y2 FU 1 M)
set_option maxHeartbeats 4000000 in
set_option maxRecDepth 100000 in
theorem th_X11_firstSplit {v0 : Nat} {v1 : Int32} {M : zM} {x0 : Int32 × zM} (h : fp_X11_firstSplit v0 v1 M = some x0) : v0 < zS M ∧ kd v0 = 9 := by
  unfold fp_X11_firstSplit at h
  exact zthis_of h
set_option maxHeartbeats 4000000 in
set_option maxRecDepth 100000 in
theorem w_X11_firstSplit_L9 (E : zEnv) (hE : zEok E) (d : Nat) (hd : 3 ≤ d) (M0 : zM) (x0 : Int32 × zM) (v0 : Nat) (v1 : Int32) (v2 : Int32)  : ∀ (n : Nat) (v3 : Int32) (M : zM), zSy E mu_X11_firstSplit d M0 (some (.int x0.1), x0.2) x0 (fp_X11_firstSplit_L9 v0 v1 v2 n v3 M) 9 [(0, .ref (E.2.2.2.1 + v0)), (1, .int v1), (2, .int v2), (3, .int v3)] [] M := by
  intro n
  induction n with
  | zero =>
    intro v3 M
    rw [fp_X11_firstSplit_L9]
    exact zs_none
  | succ n ih =>
    intro v3 M
    rw [fp_X11_firstSplit_L9]
    refine zs_iload_n dX11_firstSplit_9 rfl 3 rfl ?_
    refine zs_iconst (v := 1) dX11_firstSplit_10 ciconst_1 ?_
    refine zs_iload_n dX11_firstSplit_11 rfl 2 rfl ?_
    refine zs_ishl dX11_firstSplit_12 ?_
    refine zs_icmp_ge dX11_firstSplit_13 rfl ?_ ?_
    · refine zs_iconst (v := (-1)) dX11_firstSplit_50 ciconst_m1 ?_
      exact zs_iretW dX11_firstSplit_51 rfl
    refine zs_iload_n dX11_firstSplit_16 rfl 3 rfl ?_
    refine zs_iload_n dX11_firstSplit_17 rfl 2 rfl ?_
    refine zs_invSPI (rest := []) [.int v3, .int v2] dX11_firstSplit_18 lk_X11_297 rfl (zd1 rfl hd) rfl (Nat.le_of_ble_eq_true rfl) (ct_X11_canSplit E hE _ (zdl rfl hd) _ _ _) (fun y3 => ?_)
    refine zs_jn (fun j44 => ∀ (M4 : zM), zSy E mu_X11_firstSplit d M0 (some (.int x0.1), x0.2) x0 (j44 M4) 44 [(0, .ref (E.2.2.2.1 + v0)), (1, .int v1), (2, .int v2), (3, .int v3)] [] M4) (fun M4 => ?_) (fun j44 hj44 => ?_)
    · refine zs_iinc (v := (v3 + 2)) (loc' := [(0, .ref (E.2.2.2.1 + v0)), (1, .int v1), (2, .int v2), (3, .int (v3 + 2))]) dX11_firstSplit_44 3 rfl (by rfl) (Nat.le_of_ble_eq_true rfl) [1, 2, 3, 0] rfl ?_
      refine zs_goto dX11_firstSplit_47 rfl ?_
      exact ih (v3 + 2) M4
    refine zs_if_eq dX11_firstSplit_21 rfl ?_ ?_
    · exact hj44 M
    refine zs_aload_n dX11_firstSplit_24 rfl 0 rfl ?_
    refine zs_aload_n dX11_firstSplit_25 rfl 0 rfl ?_
    refine zs_getR dX11_firstSplit_26 fl_X11_58 rfl (fun y5 => ?_)
    refine zs_bipush (v := 8) dX11_firstSplit_29 cbipush_8 ?_
    refine zs_iload_n dX11_firstSplit_31 rfl 1 rfl ?_
    refine zs_imul dX11_firstSplit_32 ?_
    refine zs_iload_n dX11_firstSplit_33 rfl 2 rfl ?_
    refine zs_iload_n dX11_firstSplit_34 rfl 3 rfl ?_
    refine zs_invVWI (rest := []) [.ref (E.2.2.2.1 + y5), .int (8 * v1), .int v2, .int v3] dX11_firstSplit_35 lk_X11_290 rfl (fun _ h => th_X11_rank h) (zd1 rfl hd) rfl (Nat.le_of_ble_eq_true rfl) (ct_X11_rank E hE _ (zdl rfl hd) _ _ _ _ _ _) (fun y6 M7 => ?_)
    refine zs_iconst (v := 1) dX11_firstSplit_38 ciconst_1 ?_
    refine zs_icmp_ne dX11_firstSplit_39 rfl ?_ ?_
    · exact hj44 M7
    refine zs_iload_n dX11_firstSplit_42 rfl 3 rfl ?_
    exact zs_iretW dX11_firstSplit_43 rfl
set_option maxHeartbeats 4000000 in
set_option maxRecDepth 100000 in
theorem ct_X11_firstSplit (E : zEnv) (hE : zEok E) (d : Nat) (hd : 3 ≤ d) (v0 : Nat) (v1 : Int32) (M : zM) (x0 : Int32 × zM) (hx : fp_X11_firstSplit v0 v1 M = some x0) : zCt E mu_X11_firstSplit d [.ref (E.2.2.2.1 + v0), .int v1] M (some (.int x0.1), x0.2) := by
  refine zCt_of (μ := mu_X11_firstSplit) (t := fp_X11_firstSplit v0 v1 M) rfl rfl (Nat.le_of_ble_eq_true rfl) hx ?_
  change zSy E mu_X11_firstSplit d M (some (.int x0.1), x0.2) x0 (fp_X11_firstSplit v0 v1 M) 0 [(0, .ref (E.2.2.2.1 + v0)), (1, .int v1)] [] M
  unfold fp_X11_firstSplit
  refine zs_this (fun hth => ?_)
  refine zs_aload_n dX11_firstSplit_0 rfl 0 rfl ?_
  refine zs_getR dX11_firstSplit_1 fl_X11_52 rfl (fun y1 => ?_)
  refine zs_iload_n dX11_firstSplit_4 rfl 1 rfl ?_
  refine zs_ldI dX11_firstSplit_5 (fun y2 => ?_)
  refine zs_istore_n (loc' := [(0, .ref (E.2.2.2.1 + v0)), (1, .int v1), (2, .int y2)]) dX11_firstSplit_6 rfl (Nat.le_of_ble_eq_true rfl) [1, 2, 0] rfl ?_
  refine zs_iconst (v := 1) dX11_firstSplit_7 ciconst_1 ?_
  refine zs_istore_n (loc' := [(0, .ref (E.2.2.2.1 + v0)), (1, .int v1), (2, .int y2), (3, .int 1)]) dX11_firstSplit_8 rfl (Nat.le_of_ble_eq_true rfl) [1, 2, 3, 0] rfl ?_
  exact w_X11_firstSplit_L9 E hE d hd _ _ _ _ _ _ _ _
theorem dX11_takesApart_0 : decode cX11_takesApart 0 = .ok (.iconst 0, 1) := by decide +kernel
theorem dX11_takesApart_1 : decode cX11_takesApart 1 = .ok (.istore_n 1, 1) := by decide +kernel
theorem dX11_takesApart_2 : decode cX11_takesApart 2 = .ok (.iload_n 1, 1) := by decide +kernel
theorem dX11_takesApart_3 : decode cX11_takesApart 3 = .ok (.aload_n 0, 1) := by decide +kernel
theorem dX11_takesApart_4 : decode cX11_takesApart 4 = .ok (.getfield 260, 3) := by decide +kernel
theorem dX11_takesApart_7 : decode cX11_takesApart 7 = .ok (.if_icmp .ge 142, 3) := by decide +kernel
theorem dX11_takesApart_10 : decode cX11_takesApart 10 = .ok (.aload_n 0, 1) := by decide +kernel
theorem dX11_takesApart_11 : decode cX11_takesApart 11 = .ok (.iload_n 1, 1) := by decide +kernel
theorem dX11_takesApart_12 : decode cX11_takesApart 12 = .ok (.invokevirtual 306, 3) := by decide +kernel
theorem dX11_takesApart_15 : decode cX11_takesApart 15 = .ok (.istore_n 2, 1) := by decide +kernel
theorem dX11_takesApart_16 : decode cX11_takesApart 16 = .ok (.iload_n 2, 1) := by decide +kernel
theorem dX11_takesApart_17 : decode cX11_takesApart 17 = .ok (.iconst (-1), 1) := by decide +kernel
theorem dX11_takesApart_18 : decode cX11_takesApart 18 = .ok (.if_icmp .ne 6, 3) := by decide +kernel
theorem dX11_takesApart_21 : decode cX11_takesApart 21 = .ok (.goto 122, 3) := by decide +kernel
theorem dX11_takesApart_24 : decode cX11_takesApart 24 = .ok (.aload_n 0, 1) := by decide +kernel
theorem dX11_takesApart_25 : decode cX11_takesApart 25 = .ok (.getfield 52, 3) := by decide +kernel
theorem dX11_takesApart_28 : decode cX11_takesApart 28 = .ok (.iload_n 1, 1) := by decide +kernel
theorem dX11_takesApart_29 : decode cX11_takesApart 29 = .ok (.iaload, 1) := by decide +kernel
theorem dX11_takesApart_30 : decode cX11_takesApart 30 = .ok (.istore_n 3, 1) := by decide +kernel
theorem dX11_takesApart_31 : decode cX11_takesApart 31 = .ok (.iconst 0, 1) := by decide +kernel
theorem dX11_takesApart_32 : decode cX11_takesApart 32 = .ok (.istore 4, 2) := by decide +kernel
theorem dX11_takesApart_34 : decode cX11_takesApart 34 = .ok (.iload 4, 2) := by decide +kernel
theorem dX11_takesApart_36 : decode cX11_takesApart 36 = .ok (.iload_n 3, 1) := by decide +kernel
theorem dX11_takesApart_37 : decode cX11_takesApart 37 = .ok (.if_icmp .ge 47, 3) := by decide +kernel
theorem dX11_takesApart_40 : decode cX11_takesApart 40 = .ok (.aload_n 0, 1) := by decide +kernel
theorem dX11_takesApart_41 : decode cX11_takesApart 41 = .ok (.getfield 61, 3) := by decide +kernel
theorem dX11_takesApart_44 : decode cX11_takesApart 44 = .ok (.iload 4, 2) := by decide +kernel
theorem dX11_takesApart_46 : decode cX11_takesApart 46 = .ok (.aload_n 0, 1) := by decide +kernel
theorem dX11_takesApart_47 : decode cX11_takesApart 47 = .ok (.getfield 55, 3) := by decide +kernel
theorem dX11_takesApart_50 : decode cX11_takesApart 50 = .ok (.bipush 8, 2) := by decide +kernel
theorem dX11_takesApart_52 : decode cX11_takesApart 52 = .ok (.iload_n 1, 1) := by decide +kernel
theorem dX11_takesApart_53 : decode cX11_takesApart 53 = .ok (.imul, 1) := by decide +kernel
theorem dX11_takesApart_54 : decode cX11_takesApart 54 = .ok (.iload 4, 2) := by decide +kernel
theorem dX11_takesApart_56 : decode cX11_takesApart 56 = .ok (.iadd, 1) := by decide +kernel
theorem dX11_takesApart_57 : decode cX11_takesApart 57 = .ok (.iaload, 1) := by decide +kernel
theorem dX11_takesApart_58 : decode cX11_takesApart 58 = .ok (.iastore, 1) := by decide +kernel
theorem dX11_takesApart_59 : decode cX11_takesApart 59 = .ok (.aload_n 0, 1) := by decide +kernel
theorem dX11_takesApart_60 : decode cX11_takesApart 60 = .ok (.getfield 64, 3) := by decide +kernel
theorem dX11_takesApart_63 : decode cX11_takesApart 63 = .ok (.iload 4, 2) := by decide +kernel
theorem dX11_takesApart_65 : decode cX11_takesApart 65 = .ok (.aload_n 0, 1) := by decide +kernel
theorem dX11_takesApart_66 : decode cX11_takesApart 66 = .ok (.getfield 58, 3) := by decide +kernel
theorem dX11_takesApart_69 : decode cX11_takesApart 69 = .ok (.bipush 8, 2) := by decide +kernel
theorem dX11_takesApart_71 : decode cX11_takesApart 71 = .ok (.iload_n 1, 1) := by decide +kernel
theorem dX11_takesApart_72 : decode cX11_takesApart 72 = .ok (.imul, 1) := by decide +kernel
theorem dX11_takesApart_73 : decode cX11_takesApart 73 = .ok (.iload 4, 2) := by decide +kernel
theorem dX11_takesApart_75 : decode cX11_takesApart 75 = .ok (.iadd, 1) := by decide +kernel
theorem dX11_takesApart_76 : decode cX11_takesApart 76 = .ok (.iaload, 1) := by decide +kernel
theorem dX11_takesApart_77 : decode cX11_takesApart 77 = .ok (.iastore, 1) := by decide +kernel
theorem dX11_takesApart_78 : decode cX11_takesApart 78 = .ok (.iinc 4 1, 3) := by decide +kernel
theorem dX11_takesApart_81 : decode cX11_takesApart 81 = .ok (.goto (-47), 3) := by decide +kernel
theorem dX11_takesApart_84 : decode cX11_takesApart 84 = .ok (.aload_n 0, 1) := by decide +kernel
theorem dX11_takesApart_85 : decode cX11_takesApart 85 = .ok (.iload_n 1, 1) := by decide +kernel
theorem dX11_takesApart_86 : decode cX11_takesApart 86 = .ok (.iload_n 2, 1) := by decide +kernel
theorem dX11_takesApart_87 : decode cX11_takesApart 87 = .ok (.bipush 10, 2) := by decide +kernel
theorem dX11_takesApart_89 : decode cX11_takesApart 89 = .ok (.aload_n 0, 1) := by decide +kernel
theorem dX11_takesApart_90 : decode cX11_takesApart 90 = .ok (.getfield 309, 3) := by decide +kernel
theorem dX11_takesApart_93 : decode cX11_takesApart 93 = .ok (.iadd, 1) := by decide +kernel
theorem dX11_takesApart_94 : decode cX11_takesApart 94 = .ok (.invokevirtual 312, 3) := by decide +kernel
theorem dX11_takesApart_97 : decode cX11_takesApart 97 = .ok (.aload_n 0, 1) := by decide +kernel
theorem dX11_takesApart_98 : decode cX11_takesApart 98 = .ok (.aload_n 0, 1) := by decide +kernel
theorem dX11_takesApart_99 : decode cX11_takesApart 99 = .ok (.getfield 260, 3) := by decide +kernel
theorem dX11_takesApart_102 : decode cX11_takesApart 102 = .ok (.iconst 1, 1) := by decide +kernel
theorem dX11_takesApart_103 : decode cX11_takesApart 103 = .ok (.iload_n 3, 1) := by decide +kernel
theorem dX11_takesApart_104 : decode cX11_takesApart 104 = .ok (.ishl, 1) := by decide +kernel
theorem dX11_takesApart_105 : decode cX11_takesApart 105 = .ok (.iconst 1, 1) := by decide +kernel
theorem dX11_takesApart_106 : decode cX11_takesApart 106 = .ok (.isub, 1) := by decide +kernel
theorem dX11_takesApart_107 : decode cX11_takesApart 107 = .ok (.iload_n 2, 1) := by decide +kernel
theorem dX11_takesApart_108 : decode cX11_takesApart 108 = .ok (.iconst (-1), 1) := by decide +kernel
theorem dX11_takesApart_109 : decode cX11_takesApart 109 = .ok (.ixor, 1) := by decide +kernel
theorem dX11_takesApart_110 : decode cX11_takesApart 110 = .ok (.iand, 1) := by decide +kernel
theorem dX11_takesApart_111 : decode cX11_takesApart 111 = .ok (.bipush 10, 2) := by decide +kernel
theorem dX11_takesApart_113 : decode cX11_takesApart 113 = .ok (.aload_n 0, 1) := by decide +kernel
theorem dX11_takesApart_114 : decode cX11_takesApart 114 = .ok (.getfield 309, 3) := by decide +kernel
theorem dX11_takesApart_117 : decode cX11_takesApart 117 = .ok (.iadd, 1) := by decide +kernel
theorem dX11_takesApart_118 : decode cX11_takesApart 118 = .ok (.invokevirtual 312, 3) := by decide +kernel
theorem dX11_takesApart_121 : decode cX11_takesApart 121 = .ok (.aload_n 0, 1) := by decide +kernel
theorem dX11_takesApart_122 : decode cX11_takesApart 122 = .ok (.dup, 1) := by decide +kernel
theorem dX11_takesApart_123 : decode cX11_takesApart 123 = .ok (.getfield 260, 3) := by decide +kernel
theorem dX11_takesApart_126 : decode cX11_takesApart 126 = .ok (.iconst 1, 1) := by decide +kernel
theorem dX11_takesApart_127 : decode cX11_takesApart 127 = .ok (.iadd, 1) := by decide +kernel
theorem dX11_takesApart_128 : decode cX11_takesApart 128 = .ok (.putfield 260, 3) := by decide +kernel
theorem dX11_takesApart_131 : decode cX11_takesApart 131 = .ok (.aload_n 0, 1) := by decide +kernel
theorem dX11_takesApart_132 : decode cX11_takesApart 132 = .ok (.dup, 1) := by decide +kernel
theorem dX11_takesApart_133 : decode cX11_takesApart 133 = .ok (.getfield 309, 3) := by decide +kernel
theorem dX11_takesApart_136 : decode cX11_takesApart 136 = .ok (.iconst 1, 1) := by decide +kernel
theorem dX11_takesApart_137 : decode cX11_takesApart 137 = .ok (.iadd, 1) := by decide +kernel
theorem dX11_takesApart_138 : decode cX11_takesApart 138 = .ok (.putfield 309, 3) := by decide +kernel
theorem dX11_takesApart_141 : decode cX11_takesApart 141 = .ok (.iconst 1, 1) := by decide +kernel
theorem dX11_takesApart_142 : decode cX11_takesApart 142 = .ok (.ireturn, 1) := by decide +kernel
theorem dX11_takesApart_143 : decode cX11_takesApart 143 = .ok (.iinc 1 1, 3) := by decide +kernel
theorem dX11_takesApart_146 : decode cX11_takesApart 146 = .ok (.goto (-144), 3) := by decide +kernel
theorem dX11_takesApart_149 : decode cX11_takesApart 149 = .ok (.iconst 0, 1) := by decide +kernel
theorem dX11_takesApart_150 : decode cX11_takesApart 150 = .ok (.ireturn, 1) := by decide +kernel
def fp_X11_takesApart_L2 (k24 : Int32 → Int32 → zM → Option (Int32 × zM)) (v0 : Nat) : Nat → Int32 → zM → Option (Int32 × zM)
  | 0, _, _ => none
  | n + 1, v1, M =>
    (zgI 9 M v0 28).bind fun (y1 : Int32) =>
    if v1 ≥ y1 then (
      some (0, M))
    else (
      (fp_X11_firstSplit v0 v1 M).bind fun p4 => zpp p4 fun (y2 : Int32) (M3 : zM) =>
      if y2 ≠ (-1) then (
        k24 v1 y2 M3)
      else (
        fp_X11_takesApart_L2 k24 v0 n (v1 + 1) M3))
def fp_X11_takesApart_L34 (k84 : zM → Option (Int32 × zM)) (v0 : Nat) (v1 : Int32) (v2 : Int32) (v3 : Int32) : Nat → Int32 → zM → Option (Int32 × zM)
  | 0, _, _ => none
  | n + 1, v4, M =>
    if v4 ≥ v3 then (
      k84 M)
    else (
      (zgR 9 M v0 26).bind fun (y10 : Nat) =>
      (zgR 9 M v0 24).bind fun (y11 : Nat) =>
      (zlI 100 M y11 ((8 * v1) + v4)).bind fun (y12 : Int32) =>
      (ztI M y10 v4 y12).bind fun (M13 : zM) =>
      (zgR 9 M13 v0 27).bind fun (y14 : Nat) =>
      (zgR 9 M13 v0 25).bind fun (y15 : Nat) =>
      (zlI 100 M13 y15 ((8 * v1) + v4)).bind fun (y16 : Int32) =>
      (ztI M13 y14 v4 y16).bind fun (M17 : zM) =>
      fp_X11_takesApart_L34 k84 v0 v1 v2 v3 n (v4 + 1) M17)
def fp_X11_takesApart (v0 : Nat) (M : zM) : Option (Int32 × zM) :=
  zthis 9 M v0 (
    fp_X11_takesApart_L2
      (fun v1_5 v2_6 M7 =>
        (zgR 9 M7 v0 23).bind fun (y8 : Nat) =>
        (zlI 100 M7 y8 v1_5).bind fun (y9 : Int32) =>
        fp_X11_takesApart_L34
          (fun M18 =>
            (zgI 9 M18 v0 29).bind fun (y19 : Int32) =>
            (fp_X11_laysPiece v0 v1_5 v2_6 (10 + y19) M18).bind fun (M20 : zM) =>
            (zgI 9 M20 v0 28).bind fun (y21 : Int32) =>
            (zgI 9 M20 v0 29).bind fun (y22 : Int32) =>
            (fp_X11_laysPiece v0 y21 (((1 <<< (y9 &&& 31)) - 1) &&& (v2_6 ^^^ (-1))) (10 + y22) M20).bind fun (M23 : zM) =>
            (zgI 9 M23 v0 28).bind fun (y24 : Int32) =>
            (zpI 9 M23 v0 28 (y24 + 1)).bind fun (M25 : zM) =>
            (zgI 9 M25 v0 29).bind fun (y26 : Int32) =>
            (zpI 9 M25 v0 29 (y26 + 1)).bind fun (M27 : zM) =>
            some (1, M27)) v0 v1_5 v2_6 y9 FU 0 M7) v0 FU 0 M)
set_option maxHeartbeats 4000000 in
set_option maxRecDepth 100000 in
theorem th_X11_takesApart {v0 : Nat} {M : zM} {x0 : Int32 × zM} (h : fp_X11_takesApart v0 M = some x0) : v0 < zS M ∧ kd v0 = 9 := by
  unfold fp_X11_takesApart at h
  exact zthis_of h
set_option maxHeartbeats 4000000 in
set_option maxRecDepth 100000 in
theorem w_X11_takesApart_L2 (E : zEnv) (hE : zEok E) (d : Nat) (hd : 4 ≤ d) (M0 : zM) (x0 : Int32 × zM) (v0 : Nat) (k24 : Int32 → Int32 → zM → Option (Int32 × zM)) (hk24 : ∀ (v1 : Int32) (v2 : Int32) (M : zM), zSy E mu_X11_takesApart d M0 (some (.int x0.1), x0.2) x0 (k24 v1 v2 M) 24 [(0, .ref (E.2.2.2.1 + v0)), (1, .int v1), (2, .int v2)] [] M) : ∀ (n : Nat) (v1 : Int32) (M : zM), zSy E mu_X11_takesApart d M0 (some (.int x0.1), x0.2) x0 (fp_X11_takesApart_L2 k24 v0 n v1 M) 2 [(0, .ref (E.2.2.2.1 + v0)), (1, .int v1)] [] M := by
  intro n
  induction n with
  | zero =>
    intro v1 M
    rw [fp_X11_takesApart_L2]
    exact zs_none
  | succ n ih =>
    intro v1 M
    rw [fp_X11_takesApart_L2]
    refine zs_iload_n dX11_takesApart_2 rfl 1 rfl ?_
    refine zs_aload_n dX11_takesApart_3 rfl 0 rfl ?_
    refine zs_getI dX11_takesApart_4 fl_X11_260 rfl (fun y1 => ?_)
    refine zs_icmp_ge dX11_takesApart_7 rfl ?_ ?_
    · refine zs_iconst (v := 0) dX11_takesApart_149 ciconst_0 ?_
      exact zs_iretW dX11_takesApart_150 rfl
    refine zs_aload_n dX11_takesApart_10 rfl 0 rfl ?_
    refine zs_iload_n dX11_takesApart_11 rfl 1 rfl ?_
    refine zs_invVWI (rest := []) [.int v1] dX11_takesApart_12 lk_X11_306 rfl (fun _ h => th_X11_firstSplit h) (zd1 rfl hd) rfl (Nat.le_of_ble_eq_true rfl) (ct_X11_firstSplit E hE _ (zdl rfl hd) _ _ _) (fun y2 M3 => ?_)
    refine zs_istore_n (loc' := [(0, .ref (E.2.2.2.1 + v0)), (1, .int v1), (2, .int y2)]) dX11_takesApart_15 rfl (Nat.le_of_ble_eq_true rfl) [1, 2, 0] rfl ?_
    refine zs_iload_n dX11_takesApart_16 rfl 2 rfl ?_
    refine zs_iconst (v := (-1)) dX11_takesApart_17 ciconst_m1 ?_
    refine zs_icmp_ne dX11_takesApart_18 rfl ?_ ?_
    · exact hk24 v1 y2 M3
    refine zs_goto dX11_takesApart_21 rfl ?_
    refine zs_iinc (v := (v1 + 1)) (loc' := [(0, .ref (E.2.2.2.1 + v0)), (1, .int (v1 + 1))]) dX11_takesApart_143 1 rfl (by rfl) (Nat.le_of_ble_eq_true rfl) [1, 0] rfl ?_
    refine zs_goto dX11_takesApart_146 rfl ?_
    exact ih (v1 + 1) M3
set_option maxHeartbeats 4000000 in
set_option maxRecDepth 100000 in
theorem w_X11_takesApart_L34 (E : zEnv) (hE : zEok E) (d : Nat) (hd : 4 ≤ d) (M0 : zM) (x0 : Int32 × zM) (v0 : Nat) (v1 : Int32) (v2 : Int32) (v3 : Int32) (k84 : zM → Option (Int32 × zM)) (hk84 : ∀ (M : zM), zSy E mu_X11_takesApart d M0 (some (.int x0.1), x0.2) x0 (k84 M) 84 [(0, .ref (E.2.2.2.1 + v0)), (1, .int v1), (2, .int v2), (3, .int v3)] [] M) : ∀ (n : Nat) (v4 : Int32) (M : zM), zSy E mu_X11_takesApart d M0 (some (.int x0.1), x0.2) x0 (fp_X11_takesApart_L34 k84 v0 v1 v2 v3 n v4 M) 34 [(0, .ref (E.2.2.2.1 + v0)), (1, .int v1), (2, .int v2), (3, .int v3), (4, .int v4)] [] M := by
  intro n
  induction n with
  | zero =>
    intro v4 M
    rw [fp_X11_takesApart_L34]
    exact zs_none
  | succ n ih =>
    intro v4 M
    rw [fp_X11_takesApart_L34]
    refine zs_iload dX11_takesApart_34 4 rfl ?_
    refine zs_iload_n dX11_takesApart_36 rfl 3 rfl ?_
    refine zs_icmp_ge dX11_takesApart_37 rfl ?_ ?_
    · refine zs_sub (loc' := [(0, .ref (E.2.2.2.1 + v0)), (1, .int v1), (2, .int v2), (3, .int v3)]) [0, 1, 2, 3] rfl ?_
      exact hk84 M
    refine zs_aload_n dX11_takesApart_40 rfl 0 rfl ?_
    refine zs_getR dX11_takesApart_41 fl_X11_61 rfl (fun y10 => ?_)
    refine zs_iload dX11_takesApart_44 4 rfl ?_
    refine zs_aload_n dX11_takesApart_46 rfl 0 rfl ?_
    refine zs_getR dX11_takesApart_47 fl_X11_55 rfl (fun y11 => ?_)
    refine zs_bipush (v := 8) dX11_takesApart_50 cbipush_8 ?_
    refine zs_iload_n dX11_takesApart_52 rfl 1 rfl ?_
    refine zs_imul dX11_takesApart_53 ?_
    refine zs_iload dX11_takesApart_54 4 rfl ?_
    refine zs_iadd dX11_takesApart_56 ?_
    refine zs_ldI dX11_takesApart_57 (fun y12 => ?_)
    refine zs_stI dX11_takesApart_58 (fun M13 => ?_)
    refine zs_aload_n dX11_takesApart_59 rfl 0 rfl ?_
    refine zs_getR dX11_takesApart_60 fl_X11_64 rfl (fun y14 => ?_)
    refine zs_iload dX11_takesApart_63 4 rfl ?_
    refine zs_aload_n dX11_takesApart_65 rfl 0 rfl ?_
    refine zs_getR dX11_takesApart_66 fl_X11_58 rfl (fun y15 => ?_)
    refine zs_bipush (v := 8) dX11_takesApart_69 cbipush_8 ?_
    refine zs_iload_n dX11_takesApart_71 rfl 1 rfl ?_
    refine zs_imul dX11_takesApart_72 ?_
    refine zs_iload dX11_takesApart_73 4 rfl ?_
    refine zs_iadd dX11_takesApart_75 ?_
    refine zs_ldI dX11_takesApart_76 (fun y16 => ?_)
    refine zs_stI dX11_takesApart_77 (fun M17 => ?_)
    refine zs_iinc (v := (v4 + 1)) (loc' := [(0, .ref (E.2.2.2.1 + v0)), (1, .int v1), (2, .int v2), (3, .int v3), (4, .int (v4 + 1))]) dX11_takesApart_78 4 rfl (by rfl) (Nat.le_of_ble_eq_true rfl) [1, 2, 3, 4, 0] rfl ?_
    refine zs_goto dX11_takesApart_81 rfl ?_
    exact ih (v4 + 1) M17
set_option maxHeartbeats 4000000 in
set_option maxRecDepth 100000 in
theorem ct_X11_takesApart (E : zEnv) (hE : zEok E) (d : Nat) (hd : 4 ≤ d) (v0 : Nat) (M : zM) (x0 : Int32 × zM) (hx : fp_X11_takesApart v0 M = some x0) : zCt E mu_X11_takesApart d [.ref (E.2.2.2.1 + v0)] M (some (.int x0.1), x0.2) := by
  refine zCt_of (μ := mu_X11_takesApart) (t := fp_X11_takesApart v0 M) rfl rfl (Nat.le_of_ble_eq_true rfl) hx ?_
  change zSy E mu_X11_takesApart d M (some (.int x0.1), x0.2) x0 (fp_X11_takesApart v0 M) 0 [(0, .ref (E.2.2.2.1 + v0))] [] M
  unfold fp_X11_takesApart
  refine zs_this (fun hth => ?_)
  refine zs_iconst (v := 0) dX11_takesApart_0 ciconst_0 ?_
  refine zs_istore_n (loc' := [(0, .ref (E.2.2.2.1 + v0)), (1, .int 0)]) dX11_takesApart_1 rfl (Nat.le_of_ble_eq_true rfl) [1, 0] rfl ?_
  refine w_X11_takesApart_L2 E hE d hd _ _ _ _ (fun v1_5 v2_6 M7 => ?_) _ _ _
  refine zs_aload_n dX11_takesApart_24 rfl 0 rfl ?_
  refine zs_getR dX11_takesApart_25 fl_X11_52 rfl (fun y8 => ?_)
  refine zs_iload_n dX11_takesApart_28 rfl 1 rfl ?_
  refine zs_ldI dX11_takesApart_29 (fun y9 => ?_)
  refine zs_istore_n (loc' := [(0, .ref (E.2.2.2.1 + v0)), (1, .int v1_5), (2, .int v2_6), (3, .int y9)]) dX11_takesApart_30 rfl (Nat.le_of_ble_eq_true rfl) [1, 2, 3, 0] rfl ?_
  refine zs_iconst (v := 0) dX11_takesApart_31 ciconst_0 ?_
  refine zs_istore (loc' := [(0, .ref (E.2.2.2.1 + v0)), (1, .int v1_5), (2, .int v2_6), (3, .int y9), (4, .int 0)]) dX11_takesApart_32 (Nat.le_of_ble_eq_true rfl) [1, 2, 3, 4, 0] rfl ?_
  refine w_X11_takesApart_L34 E hE d hd _ _ _ _ _ _ _ (fun M18 => ?_) _ _ _
  refine zs_aload_n dX11_takesApart_84 rfl 0 rfl ?_
  refine zs_iload_n dX11_takesApart_85 rfl 1 rfl ?_
  refine zs_iload_n dX11_takesApart_86 rfl 2 rfl ?_
  refine zs_bipush (v := 10) dX11_takesApart_87 cbipush_10 ?_
  refine zs_aload_n dX11_takesApart_89 rfl 0 rfl ?_
  refine zs_getI dX11_takesApart_90 fl_X11_309 rfl (fun y19 => ?_)
  refine zs_iadd dX11_takesApart_93 ?_
  refine zs_invVWV (rest := []) [.int v1_5, .int v2_6, .int (10 + y19)] dX11_takesApart_94 lk_X11_312 rfl (fun _ h => th_X11_laysPiece h) (zd1 rfl hd) rfl (Nat.le_of_ble_eq_true rfl) (ct_X11_laysPiece E hE _ (zdl rfl hd) _ _ _ _ _) (fun M20 => ?_)
  refine zs_aload_n dX11_takesApart_97 rfl 0 rfl ?_
  refine zs_aload_n dX11_takesApart_98 rfl 0 rfl ?_
  refine zs_getI dX11_takesApart_99 fl_X11_260 rfl (fun y21 => ?_)
  refine zs_iconst (v := 1) dX11_takesApart_102 ciconst_1 ?_
  refine zs_iload_n dX11_takesApart_103 rfl 3 rfl ?_
  refine zs_ishl dX11_takesApart_104 ?_
  refine zs_iconst (v := 1) dX11_takesApart_105 ciconst_1 ?_
  refine zs_isub dX11_takesApart_106 ?_
  refine zs_iload_n dX11_takesApart_107 rfl 2 rfl ?_
  refine zs_iconst (v := (-1)) dX11_takesApart_108 ciconst_m1 ?_
  refine zs_ixor dX11_takesApart_109 ?_
  refine zs_iand dX11_takesApart_110 ?_
  refine zs_bipush (v := 10) dX11_takesApart_111 cbipush_10 ?_
  refine zs_aload_n dX11_takesApart_113 rfl 0 rfl ?_
  refine zs_getI dX11_takesApart_114 fl_X11_309 rfl (fun y22 => ?_)
  refine zs_iadd dX11_takesApart_117 ?_
  refine zs_invVWV (rest := []) [.int y21, .int (((1 <<< (y9 &&& 31)) - 1) &&& (v2_6 ^^^ (-1))), .int (10 + y22)] dX11_takesApart_118 lk_X11_312 rfl (fun _ h => th_X11_laysPiece h) (zd1 rfl hd) rfl (Nat.le_of_ble_eq_true rfl) (ct_X11_laysPiece E hE _ (zdl rfl hd) _ _ _ _ _) (fun M23 => ?_)
  refine zs_aload_n dX11_takesApart_121 rfl 0 rfl ?_
  refine zs_dup dX11_takesApart_122 rfl ?_
  refine zs_getI dX11_takesApart_123 fl_X11_260 rfl (fun y24 => ?_)
  refine zs_iconst (v := 1) dX11_takesApart_126 ciconst_1 ?_
  refine zs_iadd dX11_takesApart_127 ?_
  refine zs_putI dX11_takesApart_128 fl_X11_260 ft_X11 rfl rfl rfl rfl rfl (fun M25 => ?_)
  refine zs_aload_n dX11_takesApart_131 rfl 0 rfl ?_
  refine zs_dup dX11_takesApart_132 rfl ?_
  refine zs_getI dX11_takesApart_133 fl_X11_309 rfl (fun y26 => ?_)
  refine zs_iconst (v := 1) dX11_takesApart_136 ciconst_1 ?_
  refine zs_iadd dX11_takesApart_137 ?_
  refine zs_putI dX11_takesApart_138 fl_X11_309 ft_X11 rfl rfl rfl rfl rfl (fun M27 => ?_)
  refine zs_iconst (v := 1) dX11_takesApart_141 ciconst_1 ?_
  exact zs_iretW dX11_takesApart_142 rfl
theorem dX11_laysPieces_0 : decode cX11_laysPieces 0 = .ok (.aload_n 0, 1) := by decide +kernel
theorem dX11_laysPieces_1 : decode cX11_laysPieces 1 = .ok (.iconst 0, 1) := by decide +kernel
theorem dX11_laysPieces_2 : decode cX11_laysPieces 2 = .ok (.putfield 260, 3) := by decide +kernel
theorem dX11_laysPieces_5 : decode cX11_laysPieces 5 = .ok (.aload_n 0, 1) := by decide +kernel
theorem dX11_laysPieces_6 : decode cX11_laysPieces 6 = .ok (.iconst 0, 1) := by decide +kernel
theorem dX11_laysPieces_7 : decode cX11_laysPieces 7 = .ok (.putfield 309, 3) := by decide +kernel
theorem dX11_laysPieces_10 : decode cX11_laysPieces 10 = .ok (.iconst 0, 1) := by decide +kernel
theorem dX11_laysPieces_11 : decode cX11_laysPieces 11 = .ok (.istore_n 1, 1) := by decide +kernel
theorem dX11_laysPieces_12 : decode cX11_laysPieces 12 = .ok (.iload_n 1, 1) := by decide +kernel
theorem dX11_laysPieces_13 : decode cX11_laysPieces 13 = .ok (.aload_n 0, 1) := by decide +kernel
theorem dX11_laysPieces_14 : decode cX11_laysPieces 14 = .ok (.getfield 101, 3) := by decide +kernel
theorem dX11_laysPieces_17 : decode cX11_laysPieces 17 = .ok (.if_icmp .ge 83, 3) := by decide +kernel
theorem dX11_laysPieces_20 : decode cX11_laysPieces 20 = .ok (.aload_n 0, 1) := by decide +kernel
theorem dX11_laysPieces_21 : decode cX11_laysPieces 21 = .ok (.iload_n 1, 1) := by decide +kernel
theorem dX11_laysPieces_22 : decode cX11_laysPieces 22 = .ok (.invokevirtual 126, 3) := by decide +kernel
theorem dX11_laysPieces_25 : decode cX11_laysPieces 25 = .ok (.invokestatic 129, 3) := by decide +kernel
theorem dX11_laysPieces_28 : decode cX11_laysPieces 28 = .ok (.iload_n 1, 1) := by decide +kernel
theorem dX11_laysPieces_29 : decode cX11_laysPieces 29 = .ok (.if_icmp .eq 6, 3) := by decide +kernel
theorem dX11_laysPieces_32 : decode cX11_laysPieces 32 = .ok (.goto 62, 3) := by decide +kernel
theorem dX11_laysPieces_35 : decode cX11_laysPieces 35 = .ok (.iconst 0, 1) := by decide +kernel
theorem dX11_laysPieces_36 : decode cX11_laysPieces 36 = .ok (.istore_n 2, 1) := by decide +kernel
theorem dX11_laysPieces_37 : decode cX11_laysPieces 37 = .ok (.iload_n 2, 1) := by decide +kernel
theorem dX11_laysPieces_38 : decode cX11_laysPieces 38 = .ok (.aload_n 0, 1) := by decide +kernel
theorem dX11_laysPieces_39 : decode cX11_laysPieces 39 = .ok (.getfield 101, 3) := by decide +kernel
theorem dX11_laysPieces_42 : decode cX11_laysPieces 42 = .ok (.if_icmp .ge 28, 3) := by decide +kernel
theorem dX11_laysPieces_45 : decode cX11_laysPieces 45 = .ok (.aload_n 0, 1) := by decide +kernel
theorem dX11_laysPieces_46 : decode cX11_laysPieces 46 = .ok (.getfield 61, 3) := by decide +kernel
theorem dX11_laysPieces_49 : decode cX11_laysPieces 49 = .ok (.iload_n 2, 1) := by decide +kernel
theorem dX11_laysPieces_50 : decode cX11_laysPieces 50 = .ok (.iload_n 2, 1) := by decide +kernel
theorem dX11_laysPieces_51 : decode cX11_laysPieces 51 = .ok (.iastore, 1) := by decide +kernel
theorem dX11_laysPieces_52 : decode cX11_laysPieces 52 = .ok (.aload_n 0, 1) := by decide +kernel
theorem dX11_laysPieces_53 : decode cX11_laysPieces 53 = .ok (.getfield 64, 3) := by decide +kernel
theorem dX11_laysPieces_56 : decode cX11_laysPieces 56 = .ok (.iload_n 2, 1) := by decide +kernel
theorem dX11_laysPieces_57 : decode cX11_laysPieces 57 = .ok (.aload_n 0, 1) := by decide +kernel
theorem dX11_laysPieces_58 : decode cX11_laysPieces 58 = .ok (.getfield 7, 3) := by decide +kernel
theorem dX11_laysPieces_61 : decode cX11_laysPieces 61 = .ok (.iload_n 2, 1) := by decide +kernel
theorem dX11_laysPieces_62 : decode cX11_laysPieces 62 = .ok (.iaload, 1) := by decide +kernel
theorem dX11_laysPieces_63 : decode cX11_laysPieces 63 = .ok (.iastore, 1) := by decide +kernel
theorem dX11_laysPieces_64 : decode cX11_laysPieces 64 = .ok (.iinc 2 1, 3) := by decide +kernel
theorem dX11_laysPieces_67 : decode cX11_laysPieces 67 = .ok (.goto (-30), 3) := by decide +kernel
theorem dX11_laysPieces_70 : decode cX11_laysPieces 70 = .ok (.aload_n 0, 1) := by decide +kernel
theorem dX11_laysPieces_71 : decode cX11_laysPieces 71 = .ok (.aload_n 0, 1) := by decide +kernel
theorem dX11_laysPieces_72 : decode cX11_laysPieces 72 = .ok (.getfield 260, 3) := by decide +kernel
theorem dX11_laysPieces_75 : decode cX11_laysPieces 75 = .ok (.aload_n 0, 1) := by decide +kernel
theorem dX11_laysPieces_76 : decode cX11_laysPieces 76 = .ok (.iload_n 1, 1) := by decide +kernel
theorem dX11_laysPieces_77 : decode cX11_laysPieces 77 = .ok (.invokevirtual 126, 3) := by decide +kernel
theorem dX11_laysPieces_80 : decode cX11_laysPieces 80 = .ok (.iconst (-1), 1) := by decide +kernel
theorem dX11_laysPieces_81 : decode cX11_laysPieces 81 = .ok (.invokevirtual 312, 3) := by decide +kernel
theorem dX11_laysPieces_84 : decode cX11_laysPieces 84 = .ok (.aload_n 0, 1) := by decide +kernel
theorem dX11_laysPieces_85 : decode cX11_laysPieces 85 = .ok (.dup, 1) := by decide +kernel
theorem dX11_laysPieces_86 : decode cX11_laysPieces 86 = .ok (.getfield 260, 3) := by decide +kernel
theorem dX11_laysPieces_89 : decode cX11_laysPieces 89 = .ok (.iconst 1, 1) := by decide +kernel
theorem dX11_laysPieces_90 : decode cX11_laysPieces 90 = .ok (.iadd, 1) := by decide +kernel
theorem dX11_laysPieces_91 : decode cX11_laysPieces 91 = .ok (.putfield 260, 3) := by decide +kernel
theorem dX11_laysPieces_94 : decode cX11_laysPieces 94 = .ok (.iinc 1 1, 3) := by decide +kernel
theorem dX11_laysPieces_97 : decode cX11_laysPieces 97 = .ok (.goto (-85), 3) := by decide +kernel
theorem dX11_laysPieces_100 : decode cX11_laysPieces 100 = .ok (.iconst 1, 1) := by decide +kernel
theorem dX11_laysPieces_101 : decode cX11_laysPieces 101 = .ok (.istore_n 1, 1) := by decide +kernel
theorem dX11_laysPieces_102 : decode cX11_laysPieces 102 = .ok (.iload_n 1, 1) := by decide +kernel
theorem dX11_laysPieces_103 : decode cX11_laysPieces 103 = .ok (.ifCond .eq 11, 3) := by decide +kernel
theorem dX11_laysPieces_106 : decode cX11_laysPieces 106 = .ok (.aload_n 0, 1) := by decide +kernel
theorem dX11_laysPieces_107 : decode cX11_laysPieces 107 = .ok (.invokevirtual 316, 3) := by decide +kernel
theorem dX11_laysPieces_110 : decode cX11_laysPieces 110 = .ok (.istore_n 1, 1) := by decide +kernel
theorem dX11_laysPieces_111 : decode cX11_laysPieces 111 = .ok (.goto (-9), 3) := by decide +kernel
theorem dX11_laysPieces_114 : decode cX11_laysPieces 114 = .ok (.return_, 1) := by decide +kernel
def fp_X11_laysPieces_L37 (k70 : zM → Option (zM)) (v0 : Nat) (v1 : Int32) : Nat → Int32 → zM → Option (zM)
  | 0, _, _ => none
  | n + 1, v2, M =>
    (zgI 9 M v0 0).bind fun (y7 : Int32) =>
    if v2 ≥ y7 then (
      k70 M)
    else (
      (zgR 9 M v0 26).bind fun (y8 : Nat) =>
      (ztI M y8 v2 v2).bind fun (M9 : zM) =>
      (zgR 9 M9 v0 27).bind fun (y10 : Nat) =>
      (zgR 9 M9 v0 2).bind fun (y11 : Nat) =>
      (zlI 100 M9 y11 v2).bind fun (y12 : Int32) =>
      (ztI M9 y10 v2 y12).bind fun (M13 : zM) =>
      fp_X11_laysPieces_L37 k70 v0 v1 n (v2 + 1) M13)
def fp_X11_laysPieces_L12 (k100 : zM → Option (zM)) (v0 : Nat) : Nat → Int32 → zM → Option (zM)
  | 0, _, _ => none
  | n + 1, v1, M =>
    (zgI 9 M v0 0).bind fun (y3 : Int32) =>
    if v1 ≥ y3 then (
      k100 M)
    else (
      (fp_X11_joined v0 v1 M).bind fun (y4 : Int32) =>
      (fp_X11_lowest y4).bind fun (y5 : Int32) =>
      zjn (fun (M6 : zM) =>
          fp_X11_laysPieces_L12 k100 v0 n (v1 + 1) M6)
        (fun j94 =>
          if y5 = v1 then (
            fp_X11_laysPieces_L37
              (fun M14 =>
                (zgI 9 M14 v0 28).bind fun (y15 : Int32) =>
                (fp_X11_joined v0 v1 M14).bind fun (y16 : Int32) =>
                (fp_X11_laysPiece v0 y15 y16 (-1) M14).bind fun (M17 : zM) =>
                (zgI 9 M17 v0 28).bind fun (y18 : Int32) =>
                (zpI 9 M17 v0 28 (y18 + 1)).bind fun (M19 : zM) =>
                j94 M19) v0 v1 FU 0 M)
          else (
            j94 M)))
def fp_X11_laysPieces_L102 (v0 : Nat) : Nat → Int32 → zM → Option (zM)
  | 0, _, _ => none
  | n + 1, v1, M =>
    if v1 = 0 then (
      some M)
    else (
      (fp_X11_takesApart v0 M).bind fun p23 => zpp p23 fun (y21 : Int32) (M22 : zM) =>
      fp_X11_laysPieces_L102 v0 n y21 M22)
def fp_X11_laysPieces (v0 : Nat) (M : zM) : Option (zM) :=
  zthis 9 M v0 (
    (zpI 9 M v0 28 0).bind fun (M1 : zM) =>
    (zpI 9 M1 v0 29 0).bind fun (M2 : zM) =>
    fp_X11_laysPieces_L12
      (fun M20 =>
        fp_X11_laysPieces_L102 v0 FU 1 M20) v0 FU 0 M2)
set_option maxHeartbeats 4000000 in
set_option maxRecDepth 100000 in
theorem th_X11_laysPieces {v0 : Nat} {M : zM} {x0 : zM} (h : fp_X11_laysPieces v0 M = some x0) : v0 < zS M ∧ kd v0 = 9 := by
  unfold fp_X11_laysPieces at h
  exact zthis_of h
set_option maxHeartbeats 4000000 in
set_option maxRecDepth 100000 in
theorem w_X11_laysPieces_L37 (E : zEnv) (hE : zEok E) (d : Nat) (hd : 5 ≤ d) (M0 : zM) (x0 : zM) (v0 : Nat) (v1 : Int32) (k70 : zM → Option (zM)) (hk70 : ∀ (M : zM), zSy E mu_X11_laysPieces d M0 (none, x0) x0 (k70 M) 70 [(0, .ref (E.2.2.2.1 + v0)), (1, .int v1)] [] M) : ∀ (n : Nat) (v2 : Int32) (M : zM), zSy E mu_X11_laysPieces d M0 (none, x0) x0 (fp_X11_laysPieces_L37 k70 v0 v1 n v2 M) 37 [(0, .ref (E.2.2.2.1 + v0)), (1, .int v1), (2, .int v2)] [] M := by
  intro n
  induction n with
  | zero =>
    intro v2 M
    rw [fp_X11_laysPieces_L37]
    exact zs_none
  | succ n ih =>
    intro v2 M
    rw [fp_X11_laysPieces_L37]
    refine zs_iload_n dX11_laysPieces_37 rfl 2 rfl ?_
    refine zs_aload_n dX11_laysPieces_38 rfl 0 rfl ?_
    refine zs_getI dX11_laysPieces_39 fl_X11_101 rfl (fun y7 => ?_)
    refine zs_icmp_ge dX11_laysPieces_42 rfl ?_ ?_
    · refine zs_sub (loc' := [(0, .ref (E.2.2.2.1 + v0)), (1, .int v1)]) [0, 1] rfl ?_
      exact hk70 M
    refine zs_aload_n dX11_laysPieces_45 rfl 0 rfl ?_
    refine zs_getR dX11_laysPieces_46 fl_X11_61 rfl (fun y8 => ?_)
    refine zs_iload_n dX11_laysPieces_49 rfl 2 rfl ?_
    refine zs_iload_n dX11_laysPieces_50 rfl 2 rfl ?_
    refine zs_stI dX11_laysPieces_51 (fun M9 => ?_)
    refine zs_aload_n dX11_laysPieces_52 rfl 0 rfl ?_
    refine zs_getR dX11_laysPieces_53 fl_X11_64 rfl (fun y10 => ?_)
    refine zs_iload_n dX11_laysPieces_56 rfl 2 rfl ?_
    refine zs_aload_n dX11_laysPieces_57 rfl 0 rfl ?_
    refine zs_getR dX11_laysPieces_58 fl_X11_7 rfl (fun y11 => ?_)
    refine zs_iload_n dX11_laysPieces_61 rfl 2 rfl ?_
    refine zs_ldI dX11_laysPieces_62 (fun y12 => ?_)
    refine zs_stI dX11_laysPieces_63 (fun M13 => ?_)
    refine zs_iinc (v := (v2 + 1)) (loc' := [(0, .ref (E.2.2.2.1 + v0)), (1, .int v1), (2, .int (v2 + 1))]) dX11_laysPieces_64 2 rfl (by rfl) (Nat.le_of_ble_eq_true rfl) [1, 2, 0] rfl ?_
    refine zs_goto dX11_laysPieces_67 rfl ?_
    exact ih (v2 + 1) M13
set_option maxHeartbeats 4000000 in
set_option maxRecDepth 100000 in
theorem w_X11_laysPieces_L12 (E : zEnv) (hE : zEok E) (d : Nat) (hd : 5 ≤ d) (M0 : zM) (x0 : zM) (v0 : Nat) (k100 : zM → Option (zM)) (hk100 : ∀ (M : zM), zSy E mu_X11_laysPieces d M0 (none, x0) x0 (k100 M) 100 [(0, .ref (E.2.2.2.1 + v0))] [] M) : ∀ (n : Nat) (v1 : Int32) (M : zM), zSy E mu_X11_laysPieces d M0 (none, x0) x0 (fp_X11_laysPieces_L12 k100 v0 n v1 M) 12 [(0, .ref (E.2.2.2.1 + v0)), (1, .int v1)] [] M := by
  intro n
  induction n with
  | zero =>
    intro v1 M
    rw [fp_X11_laysPieces_L12]
    exact zs_none
  | succ n ih =>
    intro v1 M
    rw [fp_X11_laysPieces_L12]
    refine zs_iload_n dX11_laysPieces_12 rfl 1 rfl ?_
    refine zs_aload_n dX11_laysPieces_13 rfl 0 rfl ?_
    refine zs_getI dX11_laysPieces_14 fl_X11_101 rfl (fun y3 => ?_)
    refine zs_icmp_ge dX11_laysPieces_17 rfl ?_ ?_
    · refine zs_sub (loc' := [(0, .ref (E.2.2.2.1 + v0))]) [0] rfl ?_
      exact hk100 M
    refine zs_aload_n dX11_laysPieces_20 rfl 0 rfl ?_
    refine zs_iload_n dX11_laysPieces_21 rfl 1 rfl ?_
    refine zs_invVPI (rest := []) [.int v1] dX11_laysPieces_22 lk_X11_126 rfl (fun _ h => th_X11_joined h) (zd1 rfl hd) rfl (Nat.le_of_ble_eq_true rfl) (ct_X11_joined E hE _ (zdl rfl hd) _ _ _) (fun y4 => ?_)
    refine zs_invSPI (rest := []) [.int y4] dX11_laysPieces_25 lk_X11_129 rfl (zd1 rfl hd) rfl (Nat.le_of_ble_eq_true rfl) (ct_X11_lowest E hE _ (zdl rfl hd) _ _) (fun y5 => ?_)
    refine zs_iload_n dX11_laysPieces_28 rfl 1 rfl ?_
    refine zs_jn (fun j94 => ∀ (M6 : zM), zSy E mu_X11_laysPieces d M0 (none, x0) x0 (j94 M6) 94 [(0, .ref (E.2.2.2.1 + v0)), (1, .int v1)] [] M6) (fun M6 => ?_) (fun j94 hj94 => ?_)
    · refine zs_iinc (v := (v1 + 1)) (loc' := [(0, .ref (E.2.2.2.1 + v0)), (1, .int (v1 + 1))]) dX11_laysPieces_94 1 rfl (by rfl) (Nat.le_of_ble_eq_true rfl) [1, 0] rfl ?_
      refine zs_goto dX11_laysPieces_97 rfl ?_
      exact ih (v1 + 1) M6
    refine zs_icmp_eq dX11_laysPieces_29 rfl ?_ ?_
    · refine zs_iconst (v := 0) dX11_laysPieces_35 ciconst_0 ?_
      refine zs_istore_n (loc' := [(0, .ref (E.2.2.2.1 + v0)), (1, .int v1), (2, .int 0)]) dX11_laysPieces_36 rfl (Nat.le_of_ble_eq_true rfl) [1, 2, 0] rfl ?_
      refine w_X11_laysPieces_L37 E hE d hd _ _ _ _ _ (fun M14 => ?_) _ _ _
      refine zs_aload_n dX11_laysPieces_70 rfl 0 rfl ?_
      refine zs_aload_n dX11_laysPieces_71 rfl 0 rfl ?_
      refine zs_getI dX11_laysPieces_72 fl_X11_260 rfl (fun y15 => ?_)
      refine zs_aload_n dX11_laysPieces_75 rfl 0 rfl ?_
      refine zs_iload_n dX11_laysPieces_76 rfl 1 rfl ?_
      refine zs_invVPI (rest := [.int y15, .ref (E.2.2.2.1 + v0)]) [.int v1] dX11_laysPieces_77 lk_X11_126 rfl (fun _ h => th_X11_joined h) (zd1 rfl hd) rfl (Nat.le_of_ble_eq_true rfl) (ct_X11_joined E hE _ (zdl rfl hd) _ _ _) (fun y16 => ?_)
      refine zs_iconst (v := (-1)) dX11_laysPieces_80 ciconst_m1 ?_
      refine zs_invVWV (rest := []) [.int y15, .int y16, .int (-1)] dX11_laysPieces_81 lk_X11_312 rfl (fun _ h => th_X11_laysPiece h) (zd1 rfl hd) rfl (Nat.le_of_ble_eq_true rfl) (ct_X11_laysPiece E hE _ (zdl rfl hd) _ _ _ _ _) (fun M17 => ?_)
      refine zs_aload_n dX11_laysPieces_84 rfl 0 rfl ?_
      refine zs_dup dX11_laysPieces_85 rfl ?_
      refine zs_getI dX11_laysPieces_86 fl_X11_260 rfl (fun y18 => ?_)
      refine zs_iconst (v := 1) dX11_laysPieces_89 ciconst_1 ?_
      refine zs_iadd dX11_laysPieces_90 ?_
      refine zs_putI dX11_laysPieces_91 fl_X11_260 ft_X11 rfl rfl rfl rfl rfl (fun M19 => ?_)
      exact hj94 M19
    refine zs_goto dX11_laysPieces_32 rfl ?_
    exact hj94 M
set_option maxHeartbeats 4000000 in
set_option maxRecDepth 100000 in
theorem w_X11_laysPieces_L102 (E : zEnv) (hE : zEok E) (d : Nat) (hd : 5 ≤ d) (M0 : zM) (x0 : zM) (v0 : Nat)  : ∀ (n : Nat) (v1 : Int32) (M : zM), zSy E mu_X11_laysPieces d M0 (none, x0) x0 (fp_X11_laysPieces_L102 v0 n v1 M) 102 [(0, .ref (E.2.2.2.1 + v0)), (1, .int v1)] [] M := by
  intro n
  induction n with
  | zero =>
    intro v1 M
    rw [fp_X11_laysPieces_L102]
    exact zs_none
  | succ n ih =>
    intro v1 M
    rw [fp_X11_laysPieces_L102]
    refine zs_iload_n dX11_laysPieces_102 rfl 1 rfl ?_
    refine zs_if_eq dX11_laysPieces_103 rfl ?_ ?_
    · exact zs_vret dX11_laysPieces_114 trivial
    refine zs_aload_n dX11_laysPieces_106 rfl 0 rfl ?_
    refine zs_invVWI (rest := []) [] dX11_laysPieces_107 lk_X11_316 rfl (fun _ h => th_X11_takesApart h) (zd1 rfl hd) rfl (Nat.le_of_ble_eq_true rfl) (ct_X11_takesApart E hE _ (zdl rfl hd) _ _) (fun y21 M22 => ?_)
    refine zs_istore_n (loc' := [(0, .ref (E.2.2.2.1 + v0)), (1, .int y21)]) dX11_laysPieces_110 rfl (Nat.le_of_ble_eq_true rfl) [1, 0] rfl ?_
    refine zs_goto dX11_laysPieces_111 rfl ?_
    exact ih y21 M22
set_option maxHeartbeats 4000000 in
set_option maxRecDepth 100000 in
theorem ct_X11_laysPieces (E : zEnv) (hE : zEok E) (d : Nat) (hd : 5 ≤ d) (v0 : Nat) (M : zM) (x0 : zM) (hx : fp_X11_laysPieces v0 M = some x0) : zCt E mu_X11_laysPieces d [.ref (E.2.2.2.1 + v0)] M (none, x0) := by
  refine zCt_of (μ := mu_X11_laysPieces) (t := fp_X11_laysPieces v0 M) rfl rfl (Nat.le_of_ble_eq_true rfl) hx ?_
  change zSy E mu_X11_laysPieces d M (none, x0) x0 (fp_X11_laysPieces v0 M) 0 [(0, .ref (E.2.2.2.1 + v0))] [] M
  unfold fp_X11_laysPieces
  refine zs_this (fun hth => ?_)
  refine zs_aload_n dX11_laysPieces_0 rfl 0 rfl ?_
  refine zs_iconst (v := 0) dX11_laysPieces_1 ciconst_0 ?_
  refine zs_putI dX11_laysPieces_2 fl_X11_260 ft_X11 rfl rfl rfl rfl rfl (fun M1 => ?_)
  refine zs_aload_n dX11_laysPieces_5 rfl 0 rfl ?_
  refine zs_iconst (v := 0) dX11_laysPieces_6 ciconst_0 ?_
  refine zs_putI dX11_laysPieces_7 fl_X11_309 ft_X11 rfl rfl rfl rfl rfl (fun M2 => ?_)
  refine zs_iconst (v := 0) dX11_laysPieces_10 ciconst_0 ?_
  refine zs_istore_n (loc' := [(0, .ref (E.2.2.2.1 + v0)), (1, .int 0)]) dX11_laysPieces_11 rfl (Nat.le_of_ble_eq_true rfl) [1, 0] rfl ?_
  refine w_X11_laysPieces_L12 E hE d hd _ _ _ _ (fun M20 => ?_) _ _ _
  refine zs_iconst (v := 1) dX11_laysPieces_100 ciconst_1 ?_
  refine zs_istore_n (loc' := [(0, .ref (E.2.2.2.1 + v0)), (1, .int 1)]) dX11_laysPieces_101 rfl (Nat.le_of_ble_eq_true rfl) [1, 0] rfl ?_
  exact w_X11_laysPieces_L102 E hE d hd _ _ _ _ _ _
theorem dX11_length_0 : decode cX11_length 0 = .ok (.iconst 2, 1) := by decide +kernel
theorem dX11_length_1 : decode cX11_length 1 = .ok (.aload_n 0, 1) := by decide +kernel
theorem dX11_length_2 : decode cX11_length 2 = .ok (.getfield 101, 3) := by decide +kernel
theorem dX11_length_5 : decode cX11_length 5 = .ok (.imul, 1) := by decide +kernel
theorem dX11_length_6 : decode cX11_length 6 = .ok (.ireturn, 1) := by decide +kernel
def fp_X11_length (v0 : Nat) (M : zM) : Option (Int32) :=
  zthis 9 M v0 (
    (zgI 9 M v0 0).bind fun (y1 : Int32) =>
    some (2 * y1))
set_option maxHeartbeats 4000000 in
set_option maxRecDepth 100000 in
theorem th_X11_length {v0 : Nat} {M : zM} {x0 : Int32} (h : fp_X11_length v0 M = some x0) : v0 < zS M ∧ kd v0 = 9 := by
  unfold fp_X11_length at h
  exact zthis_of h
set_option maxHeartbeats 4000000 in
set_option maxRecDepth 100000 in
theorem ct_X11_length (E : zEnv) (hE : zEok E) (d : Nat) (hd : 1 ≤ d) (v0 : Nat) (M : zM) (x0 : Int32) (hx : fp_X11_length v0 M = some x0) : zCt E mu_X11_length d [.ref (E.2.2.2.1 + v0)] M (some (.int x0), M) := by
  refine zCt_of (μ := mu_X11_length) (t := fp_X11_length v0 M) rfl rfl (Nat.le_of_ble_eq_true rfl) hx ?_
  change zSy E mu_X11_length d M (some (.int x0), M) x0 (fp_X11_length v0 M) 0 [(0, .ref (E.2.2.2.1 + v0))] [] M
  unfold fp_X11_length
  refine zs_this (fun hth => ?_)
  refine zs_iconst (v := 2) dX11_length_0 ciconst_2 ?_
  refine zs_aload_n dX11_length_1 rfl 0 rfl ?_
  refine zs_getI dX11_length_2 fl_X11_101 rfl (fun y1 => ?_)
  refine zs_imul dX11_length_5 ?_
  exact zs_iretP dX11_length_6 rfl
theorem dX11_read_0 : decode cX11_read 0 = .ok (.aload_n 0, 1) := by decide +kernel
theorem dX11_read_1 : decode cX11_read 1 = .ok (.iload_n 2, 1) := by decide +kernel
theorem dX11_read_2 : decode cX11_read 2 = .ok (.iload_n 3, 1) := by decide +kernel
theorem dX11_read_3 : decode cX11_read 3 = .ok (.iload 4, 2) := by decide +kernel
theorem dX11_read_5 : decode cX11_read 5 = .ok (.imul, 1) := by decide +kernel
theorem dX11_read_6 : decode cX11_read 6 = .ok (.iadd, 1) := by decide +kernel
theorem dX11_read_7 : decode cX11_read 7 = .ok (.iload_n 1, 1) := by decide +kernel
theorem dX11_read_8 : decode cX11_read 8 = .ok (.iload_n 1, 1) := by decide +kernel
theorem dX11_read_9 : decode cX11_read 9 = .ok (.imul, 1) := by decide +kernel
theorem dX11_read_10 : decode cX11_read 10 = .ok (.iadd, 1) := by decide +kernel
theorem dX11_read_11 : decode cX11_read 11 = .ok (.iload_n 1, 1) := by decide +kernel
theorem dX11_read_12 : decode cX11_read 12 = .ok (.irem, 1) := by decide +kernel
theorem dX11_read_13 : decode cX11_read 13 = .ok (.iaload, 1) := by decide +kernel
theorem dX11_read_14 : decode cX11_read 14 = .ok (.ireturn, 1) := by decide +kernel
def fp_X11_read (v0 : Nat) (v1 : Int32) (v2 : Int32) (v3 : Int32) (v4 : Int32) (M : zM) : Option (Int32) :=
  (zrm ((v2 + (v3 * v4)) + (v1 * v1)) v1).bind fun (y1 : Int32) =>
  (zlI 100 M v0 y1).bind fun (y2 : Int32) =>
  some y2
set_option maxHeartbeats 4000000 in
set_option maxRecDepth 100000 in
theorem ct_X11_read (E : zEnv) (hE : zEok E) (d : Nat) (hd : 1 ≤ d) (v0 : Nat) (v1 : Int32) (v2 : Int32) (v3 : Int32) (v4 : Int32) (M : zM) (x0 : Int32) (hx : fp_X11_read v0 v1 v2 v3 v4 M = some x0) : zCt E mu_X11_read d [.ref (E.2.2.2.1 + v0), .int v1, .int v2, .int v3, .int v4] M (some (.int x0), M) := by
  refine zCt_of (μ := mu_X11_read) (t := fp_X11_read v0 v1 v2 v3 v4 M) rfl rfl (Nat.le_of_ble_eq_true rfl) hx ?_
  change zSy E mu_X11_read d M (some (.int x0), M) x0 (fp_X11_read v0 v1 v2 v3 v4 M) 0 [(0, .ref (E.2.2.2.1 + v0)), (1, .int v1), (2, .int v2), (3, .int v3), (4, .int v4)] [] M
  unfold fp_X11_read
  refine zs_aload_n dX11_read_0 rfl 0 rfl ?_
  refine zs_iload_n dX11_read_1 rfl 2 rfl ?_
  refine zs_iload_n dX11_read_2 rfl 3 rfl ?_
  refine zs_iload dX11_read_3 4 rfl ?_
  refine zs_imul dX11_read_5 ?_
  refine zs_iadd dX11_read_6 ?_
  refine zs_iload_n dX11_read_7 rfl 1 rfl ?_
  refine zs_iload_n dX11_read_8 rfl 1 rfl ?_
  refine zs_imul dX11_read_9 ?_
  refine zs_iadd dX11_read_10 ?_
  refine zs_iload_n dX11_read_11 rfl 1 rfl ?_
  refine zs_irem dX11_read_12 (fun y1 => ?_)
  refine zs_ldI dX11_read_13 (fun y2 => ?_)
  exact zs_iretP dX11_read_14 rfl
theorem dX11_isLessRead_0 : decode cX11_isLessRead 0 = .ok (.iconst 0, 1) := by decide +kernel
theorem dX11_isLessRead_1 : decode cX11_isLessRead 1 = .ok (.istore 6, 2) := by decide +kernel
theorem dX11_isLessRead_3 : decode cX11_isLessRead 3 = .ok (.iload 6, 2) := by decide +kernel
theorem dX11_isLessRead_5 : decode cX11_isLessRead 5 = .ok (.iload_n 1, 1) := by decide +kernel
theorem dX11_isLessRead_6 : decode cX11_isLessRead 6 = .ok (.if_icmp .ge 53, 3) := by decide +kernel
theorem dX11_isLessRead_9 : decode cX11_isLessRead 9 = .ok (.aload_n 0, 1) := by decide +kernel
theorem dX11_isLessRead_10 : decode cX11_isLessRead 10 = .ok (.iload_n 1, 1) := by decide +kernel
theorem dX11_isLessRead_11 : decode cX11_isLessRead 11 = .ok (.iload_n 2, 1) := by decide +kernel
theorem dX11_isLessRead_12 : decode cX11_isLessRead 12 = .ok (.iload_n 3, 1) := by decide +kernel
theorem dX11_isLessRead_13 : decode cX11_isLessRead 13 = .ok (.iload 6, 2) := by decide +kernel
theorem dX11_isLessRead_15 : decode cX11_isLessRead 15 = .ok (.invokestatic 336, 3) := by decide +kernel
theorem dX11_isLessRead_18 : decode cX11_isLessRead 18 = .ok (.istore 7, 2) := by decide +kernel
theorem dX11_isLessRead_20 : decode cX11_isLessRead 20 = .ok (.aload_n 0, 1) := by decide +kernel
theorem dX11_isLessRead_21 : decode cX11_isLessRead 21 = .ok (.iload_n 1, 1) := by decide +kernel
theorem dX11_isLessRead_22 : decode cX11_isLessRead 22 = .ok (.iload 4, 2) := by decide +kernel
theorem dX11_isLessRead_24 : decode cX11_isLessRead 24 = .ok (.iload 5, 2) := by decide +kernel
theorem dX11_isLessRead_26 : decode cX11_isLessRead 26 = .ok (.iload 6, 2) := by decide +kernel
theorem dX11_isLessRead_28 : decode cX11_isLessRead 28 = .ok (.invokestatic 336, 3) := by decide +kernel
theorem dX11_isLessRead_31 : decode cX11_isLessRead 31 = .ok (.istore 8, 2) := by decide +kernel
theorem dX11_isLessRead_33 : decode cX11_isLessRead 33 = .ok (.iload 7, 2) := by decide +kernel
theorem dX11_isLessRead_35 : decode cX11_isLessRead 35 = .ok (.iload 8, 2) := by decide +kernel
theorem dX11_isLessRead_37 : decode cX11_isLessRead 37 = .ok (.if_icmp .eq 16, 3) := by decide +kernel
theorem dX11_isLessRead_40 : decode cX11_isLessRead 40 = .ok (.iload 7, 2) := by decide +kernel
theorem dX11_isLessRead_42 : decode cX11_isLessRead 42 = .ok (.iload 8, 2) := by decide +kernel
theorem dX11_isLessRead_44 : decode cX11_isLessRead 44 = .ok (.if_icmp .ge 7, 3) := by decide +kernel
theorem dX11_isLessRead_47 : decode cX11_isLessRead 47 = .ok (.iconst 1, 1) := by decide +kernel
theorem dX11_isLessRead_48 : decode cX11_isLessRead 48 = .ok (.goto 4, 3) := by decide +kernel
theorem dX11_isLessRead_51 : decode cX11_isLessRead 51 = .ok (.iconst 0, 1) := by decide +kernel
theorem dX11_isLessRead_52 : decode cX11_isLessRead 52 = .ok (.ireturn, 1) := by decide +kernel
theorem dX11_isLessRead_53 : decode cX11_isLessRead 53 = .ok (.iinc 6 1, 3) := by decide +kernel
theorem dX11_isLessRead_56 : decode cX11_isLessRead 56 = .ok (.goto (-53), 3) := by decide +kernel
theorem dX11_isLessRead_59 : decode cX11_isLessRead 59 = .ok (.iconst 0, 1) := by decide +kernel
theorem dX11_isLessRead_60 : decode cX11_isLessRead 60 = .ok (.ireturn, 1) := by decide +kernel
def fp_X11_isLessRead_L3 (k40 : Int32 → Int32 → Option (Int32)) (v0 : Nat) (v1 : Int32) (v2 : Int32) (v3 : Int32) (v4 : Int32) (v5 : Int32) (M : zM) : Nat → Int32 → Option (Int32)
  | 0, _ => none
  | n + 1, v6 =>
    if v6 ≥ v1 then (
      some 0)
    else (
      (fp_X11_read v0 v1 v2 v3 v6 M).bind fun (y1 : Int32) =>
      (fp_X11_read v0 v1 v4 v5 v6 M).bind fun (y2 : Int32) =>
      if y1 = y2 then (
        fp_X11_isLessRead_L3 k40 v0 v1 v2 v3 v4 v5 M n (v6 + 1))
      else (
        k40 y1 y2))
def fp_X11_isLessRead (v0 : Nat) (v1 : Int32) (v2 : Int32) (v3 : Int32) (v4 : Int32) (v5 : Int32) (M : zM) : Option (Int32) :=
  fp_X11_isLessRead_L3
    (fun v7_3 v8_4 =>
      if v7_3 ≥ v8_4 then (
        some 0)
      else (
        some 1)) v0 v1 v2 v3 v4 v5 M FU 0
set_option maxHeartbeats 4000000 in
set_option maxRecDepth 100000 in
theorem w_X11_isLessRead_L3 (E : zEnv) (hE : zEok E) (d : Nat) (hd : 2 ≤ d) (x0 : Int32) (v0 : Nat) (v1 : Int32) (v2 : Int32) (v3 : Int32) (v4 : Int32) (v5 : Int32) (M : zM) (k40 : Int32 → Int32 → Option (Int32)) (hk40 : ∀ (v7 : Int32) (v8 : Int32), zSy E mu_X11_isLessRead d M (some (.int x0), M) x0 (k40 v7 v8) 40 [(7, .int v7), (8, .int v8)] [] M) : ∀ (n : Nat) (v6 : Int32), zSy E mu_X11_isLessRead d M (some (.int x0), M) x0 (fp_X11_isLessRead_L3 k40 v0 v1 v2 v3 v4 v5 M n v6) 3 [(0, .ref (E.2.2.2.1 + v0)), (1, .int v1), (2, .int v2), (3, .int v3), (4, .int v4), (5, .int v5), (6, .int v6)] [] M := by
  intro n
  induction n with
  | zero =>
    intro v6
    rw [fp_X11_isLessRead_L3]
    exact zs_none
  | succ n ih =>
    intro v6
    rw [fp_X11_isLessRead_L3]
    refine zs_iload dX11_isLessRead_3 6 rfl ?_
    refine zs_iload_n dX11_isLessRead_5 rfl 1 rfl ?_
    refine zs_icmp_ge dX11_isLessRead_6 rfl ?_ ?_
    · refine zs_iconst (v := 0) dX11_isLessRead_59 ciconst_0 ?_
      exact zs_iretP dX11_isLessRead_60 rfl
    refine zs_aload_n dX11_isLessRead_9 rfl 0 rfl ?_
    refine zs_iload_n dX11_isLessRead_10 rfl 1 rfl ?_
    refine zs_iload_n dX11_isLessRead_11 rfl 2 rfl ?_
    refine zs_iload_n dX11_isLessRead_12 rfl 3 rfl ?_
    refine zs_iload dX11_isLessRead_13 6 rfl ?_
    refine zs_invSPI (rest := []) [.ref (E.2.2.2.1 + v0), .int v1, .int v2, .int v3, .int v6] dX11_isLessRead_15 lk_X11_336 rfl (zd1 rfl hd) rfl (Nat.le_of_ble_eq_true rfl) (ct_X11_read E hE _ (zdl rfl hd) _ _ _ _ _ _) (fun y1 => ?_)
    refine zs_istore (loc' := [(0, .ref (E.2.2.2.1 + v0)), (1, .int v1), (2, .int v2), (3, .int v3), (4, .int v4), (5, .int v5), (6, .int v6), (7, .int y1)]) dX11_isLessRead_18 (Nat.le_of_ble_eq_true rfl) [1, 2, 3, 4, 5, 6, 7, 0] rfl ?_
    refine zs_aload_n dX11_isLessRead_20 rfl 0 rfl ?_
    refine zs_iload_n dX11_isLessRead_21 rfl 1 rfl ?_
    refine zs_iload dX11_isLessRead_22 4 rfl ?_
    refine zs_iload dX11_isLessRead_24 5 rfl ?_
    refine zs_iload dX11_isLessRead_26 6 rfl ?_
    refine zs_invSPI (rest := []) [.ref (E.2.2.2.1 + v0), .int v1, .int v4, .int v5, .int v6] dX11_isLessRead_28 lk_X11_336 rfl (zd1 rfl hd) rfl (Nat.le_of_ble_eq_true rfl) (ct_X11_read E hE _ (zdl rfl hd) _ _ _ _ _ _) (fun y2 => ?_)
    refine zs_istore (loc' := [(0, .ref (E.2.2.2.1 + v0)), (1, .int v1), (2, .int v2), (3, .int v3), (4, .int v4), (5, .int v5), (6, .int v6), (7, .int y1), (8, .int y2)]) dX11_isLessRead_31 (Nat.le_of_ble_eq_true rfl) [1, 2, 3, 4, 5, 6, 7, 8, 0] rfl ?_
    refine zs_iload dX11_isLessRead_33 7 rfl ?_
    refine zs_iload dX11_isLessRead_35 8 rfl ?_
    refine zs_icmp_eq dX11_isLessRead_37 rfl ?_ ?_
    · refine zs_iinc (v := (v6 + 1)) (loc' := [(0, .ref (E.2.2.2.1 + v0)), (1, .int v1), (2, .int v2), (3, .int v3), (4, .int v4), (5, .int v5), (6, .int (v6 + 1))]) dX11_isLessRead_53 6 rfl (by rfl) (Nat.le_of_ble_eq_true rfl) [1, 2, 3, 4, 5, 6, 0] rfl ?_
      refine zs_goto dX11_isLessRead_56 rfl ?_
      exact ih (v6 + 1)
    refine zs_sub (loc' := [(7, .int y1), (8, .int y2)]) [7, 8] rfl ?_
    exact hk40 y1 y2
set_option maxHeartbeats 4000000 in
set_option maxRecDepth 100000 in
theorem ct_X11_isLessRead (E : zEnv) (hE : zEok E) (d : Nat) (hd : 2 ≤ d) (v0 : Nat) (v1 : Int32) (v2 : Int32) (v3 : Int32) (v4 : Int32) (v5 : Int32) (M : zM) (x0 : Int32) (hx : fp_X11_isLessRead v0 v1 v2 v3 v4 v5 M = some x0) : zCt E mu_X11_isLessRead d [.ref (E.2.2.2.1 + v0), .int v1, .int v2, .int v3, .int v4, .int v5] M (some (.int x0), M) := by
  refine zCt_of (μ := mu_X11_isLessRead) (t := fp_X11_isLessRead v0 v1 v2 v3 v4 v5 M) rfl rfl (Nat.le_of_ble_eq_true rfl) hx ?_
  change zSy E mu_X11_isLessRead d M (some (.int x0), M) x0 (fp_X11_isLessRead v0 v1 v2 v3 v4 v5 M) 0 [(0, .ref (E.2.2.2.1 + v0)), (1, .int v1), (2, .int v2), (3, .int v3), (4, .int v4), (5, .int v5)] [] M
  unfold fp_X11_isLessRead
  refine zs_iconst (v := 0) dX11_isLessRead_0 ciconst_0 ?_
  refine zs_istore (loc' := [(0, .ref (E.2.2.2.1 + v0)), (1, .int v1), (2, .int v2), (3, .int v3), (4, .int v4), (5, .int v5), (6, .int 0)]) dX11_isLessRead_1 (Nat.le_of_ble_eq_true rfl) [1, 2, 3, 4, 5, 6, 0] rfl ?_
  refine w_X11_isLessRead_L3 E hE d hd _ _ _ _ _ _ _ _ _ (fun v7_3 v8_4 => ?_) _ _
  refine zs_iload dX11_isLessRead_40 0 rfl ?_
  refine zs_iload dX11_isLessRead_42 1 rfl ?_
  refine zs_icmp_ge dX11_isLessRead_44 rfl ?_ ?_
  · refine zs_iconst (v := 0) dX11_isLessRead_51 ciconst_0 ?_
    exact zs_iretP dX11_isLessRead_52 rfl
  refine zs_iconst (v := 1) dX11_isLessRead_47 ciconst_1 ?_
  refine zs_goto dX11_isLessRead_48 rfl ?_
  exact zs_iretP dX11_isLessRead_52 rfl
theorem dX11_isLeast_0 : decode cX11_isLeast 0 = .ok (.aload_n 0, 1) := by decide +kernel
theorem dX11_isLeast_1 : decode cX11_isLeast 1 = .ok (.invokevirtual 340, 3) := by decide +kernel
theorem dX11_isLeast_4 : decode cX11_isLeast 4 = .ok (.istore_n 1, 1) := by decide +kernel
theorem dX11_isLeast_5 : decode cX11_isLeast 5 = .ok (.iconst 0, 1) := by decide +kernel
theorem dX11_isLeast_6 : decode cX11_isLeast 6 = .ok (.istore_n 2, 1) := by decide +kernel
theorem dX11_isLeast_7 : decode cX11_isLeast 7 = .ok (.iload_n 2, 1) := by decide +kernel
theorem dX11_isLeast_8 : decode cX11_isLeast 8 = .ok (.iload_n 1, 1) := by decide +kernel
theorem dX11_isLeast_9 : decode cX11_isLeast 9 = .ok (.if_icmp .ge 53, 3) := by decide +kernel
theorem dX11_isLeast_12 : decode cX11_isLeast 12 = .ok (.aload_n 0, 1) := by decide +kernel
theorem dX11_isLeast_13 : decode cX11_isLeast 13 = .ok (.getfield 70, 3) := by decide +kernel
theorem dX11_isLeast_16 : decode cX11_isLeast 16 = .ok (.iload_n 2, 1) := by decide +kernel
theorem dX11_isLeast_17 : decode cX11_isLeast 17 = .ok (.iaload, 1) := by decide +kernel
theorem dX11_isLeast_18 : decode cX11_isLeast 18 = .ok (.ifCond .eq 6, 3) := by decide +kernel
theorem dX11_isLeast_21 : decode cX11_isLeast 21 = .ok (.goto 35, 3) := by decide +kernel
theorem dX11_isLeast_24 : decode cX11_isLeast 24 = .ok (.aload_n 0, 1) := by decide +kernel
theorem dX11_isLeast_25 : decode cX11_isLeast 25 = .ok (.getfield 70, 3) := by decide +kernel
theorem dX11_isLeast_28 : decode cX11_isLeast 28 = .ok (.iload_n 1, 1) := by decide +kernel
theorem dX11_isLeast_29 : decode cX11_isLeast 29 = .ok (.iload_n 2, 1) := by decide +kernel
theorem dX11_isLeast_30 : decode cX11_isLeast 30 = .ok (.iconst 1, 1) := by decide +kernel
theorem dX11_isLeast_31 : decode cX11_isLeast 31 = .ok (.iconst 0, 1) := by decide +kernel
theorem dX11_isLeast_32 : decode cX11_isLeast 32 = .ok (.iconst 1, 1) := by decide +kernel
theorem dX11_isLeast_33 : decode cX11_isLeast 33 = .ok (.invokestatic 341, 3) := by decide +kernel
theorem dX11_isLeast_36 : decode cX11_isLeast 36 = .ok (.ifCond .ne 18, 3) := by decide +kernel
theorem dX11_isLeast_39 : decode cX11_isLeast 39 = .ok (.aload_n 0, 1) := by decide +kernel
theorem dX11_isLeast_40 : decode cX11_isLeast 40 = .ok (.getfield 70, 3) := by decide +kernel
theorem dX11_isLeast_43 : decode cX11_isLeast 43 = .ok (.iload_n 1, 1) := by decide +kernel
theorem dX11_isLeast_44 : decode cX11_isLeast 44 = .ok (.iload_n 2, 1) := by decide +kernel
theorem dX11_isLeast_45 : decode cX11_isLeast 45 = .ok (.iconst (-1), 1) := by decide +kernel
theorem dX11_isLeast_46 : decode cX11_isLeast 46 = .ok (.iconst 0, 1) := by decide +kernel
theorem dX11_isLeast_47 : decode cX11_isLeast 47 = .ok (.iconst 1, 1) := by decide +kernel
theorem dX11_isLeast_48 : decode cX11_isLeast 48 = .ok (.invokestatic 341, 3) := by decide +kernel
theorem dX11_isLeast_51 : decode cX11_isLeast 51 = .ok (.ifCond .eq 5, 3) := by decide +kernel
theorem dX11_isLeast_54 : decode cX11_isLeast 54 = .ok (.iconst 0, 1) := by decide +kernel
theorem dX11_isLeast_55 : decode cX11_isLeast 55 = .ok (.ireturn, 1) := by decide +kernel
theorem dX11_isLeast_56 : decode cX11_isLeast 56 = .ok (.iinc 2 1, 3) := by decide +kernel
theorem dX11_isLeast_59 : decode cX11_isLeast 59 = .ok (.goto (-52), 3) := by decide +kernel
theorem dX11_isLeast_62 : decode cX11_isLeast 62 = .ok (.iconst 1, 1) := by decide +kernel
theorem dX11_isLeast_63 : decode cX11_isLeast 63 = .ok (.ireturn, 1) := by decide +kernel
def fp_X11_isLeast_L7 (v0 : Nat) (v1 : Int32) (M : zM) : Nat → Int32 → Option (Int32)
  | 0, _ => none
  | n + 1, v2 =>
    if v2 ≥ v1 then (
      some 1)
    else (
      (zgR 9 M v0 31).bind fun (y2 : Nat) =>
      (zlI 100 M y2 v2).bind fun (y3 : Int32) =>
      zjn (
          fp_X11_isLeast_L7 v0 v1 M n (v2 + 1))
        (fun j56 =>
          if y3 = 0 then (
            (zgR 9 M v0 31).bind fun (y4 : Nat) =>
            (fp_X11_isLessRead y4 v1 v2 1 0 1 M).bind fun (y5 : Int32) =>
            if y5 ≠ 0 then (
              some 0)
            else (
              (zgR 9 M v0 31).bind fun (y6 : Nat) =>
              (fp_X11_isLessRead y6 v1 v2 (-1) 0 1 M).bind fun (y7 : Int32) =>
              if y7 = 0 then (
                j56)
              else (
                some 0)))
          else (
            j56)))
def fp_X11_isLeast (v0 : Nat) (M : zM) : Option (Int32) :=
  zthis 9 M v0 (
    (fp_X11_length v0 M).bind fun (y1 : Int32) =>
    fp_X11_isLeast_L7 v0 y1 M FU 0)
set_option maxHeartbeats 4000000 in
set_option maxRecDepth 100000 in
theorem th_X11_isLeast {v0 : Nat} {M : zM} {x0 : Int32} (h : fp_X11_isLeast v0 M = some x0) : v0 < zS M ∧ kd v0 = 9 := by
  unfold fp_X11_isLeast at h
  exact zthis_of h
set_option maxHeartbeats 4000000 in
set_option maxRecDepth 100000 in
theorem w_X11_isLeast_L7 (E : zEnv) (hE : zEok E) (d : Nat) (hd : 3 ≤ d) (x0 : Int32) (v0 : Nat) (v1 : Int32) (M : zM)  : ∀ (n : Nat) (v2 : Int32), zSy E mu_X11_isLeast d M (some (.int x0), M) x0 (fp_X11_isLeast_L7 v0 v1 M n v2) 7 [(0, .ref (E.2.2.2.1 + v0)), (1, .int v1), (2, .int v2)] [] M := by
  intro n
  induction n with
  | zero =>
    intro v2
    rw [fp_X11_isLeast_L7]
    exact zs_none
  | succ n ih =>
    intro v2
    rw [fp_X11_isLeast_L7]
    refine zs_iload_n dX11_isLeast_7 rfl 2 rfl ?_
    refine zs_iload_n dX11_isLeast_8 rfl 1 rfl ?_
    refine zs_icmp_ge dX11_isLeast_9 rfl ?_ ?_
    · refine zs_iconst (v := 1) dX11_isLeast_62 ciconst_1 ?_
      exact zs_iretP dX11_isLeast_63 rfl
    refine zs_aload_n dX11_isLeast_12 rfl 0 rfl ?_
    refine zs_getR dX11_isLeast_13 fl_X11_70 rfl (fun y2 => ?_)
    refine zs_iload_n dX11_isLeast_16 rfl 2 rfl ?_
    refine zs_ldI dX11_isLeast_17 (fun y3 => ?_)
    refine zs_jn (fun j56 => zSy E mu_X11_isLeast d M (some (.int x0), M) x0 (j56) 56 [(0, .ref (E.2.2.2.1 + v0)), (1, .int v1), (2, .int v2)] [] M) ?_ (fun j56 hj56 => ?_)
    · refine zs_iinc (v := (v2 + 1)) (loc' := [(0, .ref (E.2.2.2.1 + v0)), (1, .int v1), (2, .int (v2 + 1))]) dX11_isLeast_56 2 rfl (by rfl) (Nat.le_of_ble_eq_true rfl) [1, 2, 0] rfl ?_
      refine zs_goto dX11_isLeast_59 rfl ?_
      exact ih (v2 + 1)
    refine zs_if_eq dX11_isLeast_18 rfl ?_ ?_
    · refine zs_aload_n dX11_isLeast_24 rfl 0 rfl ?_
      refine zs_getR dX11_isLeast_25 fl_X11_70 rfl (fun y4 => ?_)
      refine zs_iload_n dX11_isLeast_28 rfl 1 rfl ?_
      refine zs_iload_n dX11_isLeast_29 rfl 2 rfl ?_
      refine zs_iconst (v := 1) dX11_isLeast_30 ciconst_1 ?_
      refine zs_iconst (v := 0) dX11_isLeast_31 ciconst_0 ?_
      refine zs_iconst (v := 1) dX11_isLeast_32 ciconst_1 ?_
      refine zs_invSPI (rest := []) [.ref (E.2.2.2.1 + y4), .int v1, .int v2, .int 1, .int 0, .int 1] dX11_isLeast_33 lk_X11_341 rfl (zd1 rfl hd) rfl (Nat.le_of_ble_eq_true rfl) (ct_X11_isLessRead E hE _ (zdl rfl hd) _ _ _ _ _ _ _) (fun y5 => ?_)
      refine zs_if_ne dX11_isLeast_36 rfl ?_ ?_
      · refine zs_iconst (v := 0) dX11_isLeast_54 ciconst_0 ?_
        exact zs_iretP dX11_isLeast_55 rfl
      refine zs_aload_n dX11_isLeast_39 rfl 0 rfl ?_
      refine zs_getR dX11_isLeast_40 fl_X11_70 rfl (fun y6 => ?_)
      refine zs_iload_n dX11_isLeast_43 rfl 1 rfl ?_
      refine zs_iload_n dX11_isLeast_44 rfl 2 rfl ?_
      refine zs_iconst (v := (-1)) dX11_isLeast_45 ciconst_m1 ?_
      refine zs_iconst (v := 0) dX11_isLeast_46 ciconst_0 ?_
      refine zs_iconst (v := 1) dX11_isLeast_47 ciconst_1 ?_
      refine zs_invSPI (rest := []) [.ref (E.2.2.2.1 + y6), .int v1, .int v2, .int (-1), .int 0, .int 1] dX11_isLeast_48 lk_X11_341 rfl (zd1 rfl hd) rfl (Nat.le_of_ble_eq_true rfl) (ct_X11_isLessRead E hE _ (zdl rfl hd) _ _ _ _ _ _ _) (fun y7 => ?_)
      refine zs_if_eq dX11_isLeast_51 rfl ?_ ?_
      · exact hj56
      refine zs_iconst (v := 0) dX11_isLeast_54 ciconst_0 ?_
      exact zs_iretP dX11_isLeast_55 rfl
    refine zs_goto dX11_isLeast_21 rfl ?_
    exact hj56
set_option maxHeartbeats 4000000 in
set_option maxRecDepth 100000 in
theorem ct_X11_isLeast (E : zEnv) (hE : zEok E) (d : Nat) (hd : 3 ≤ d) (v0 : Nat) (M : zM) (x0 : Int32) (hx : fp_X11_isLeast v0 M = some x0) : zCt E mu_X11_isLeast d [.ref (E.2.2.2.1 + v0)] M (some (.int x0), M) := by
  refine zCt_of (μ := mu_X11_isLeast) (t := fp_X11_isLeast v0 M) rfl rfl (Nat.le_of_ble_eq_true rfl) hx ?_
  change zSy E mu_X11_isLeast d M (some (.int x0), M) x0 (fp_X11_isLeast v0 M) 0 [(0, .ref (E.2.2.2.1 + v0))] [] M
  unfold fp_X11_isLeast
  refine zs_this (fun hth => ?_)
  refine zs_aload_n dX11_isLeast_0 rfl 0 rfl ?_
  refine zs_invVPI (rest := []) [] dX11_isLeast_1 lk_X11_340 rfl (fun _ h => th_X11_length h) (zd1 rfl hd) rfl (Nat.le_of_ble_eq_true rfl) (ct_X11_length E hE _ (zdl rfl hd) _ _) (fun y1 => ?_)
  refine zs_istore_n (loc' := [(0, .ref (E.2.2.2.1 + v0)), (1, .int y1)]) dX11_isLeast_4 rfl (Nat.le_of_ble_eq_true rfl) [1, 0] rfl ?_
  refine zs_iconst (v := 0) dX11_isLeast_5 ciconst_0 ?_
  refine zs_istore_n (loc' := [(0, .ref (E.2.2.2.1 + v0)), (1, .int y1), (2, .int 0)]) dX11_isLeast_6 rfl (Nat.le_of_ble_eq_true rfl) [1, 2, 0] rfl ?_
  exact w_X11_isLeast_L7 E hE d hd _ _ _ _ _ _
theorem dX11_areBeside_0 : decode cX11_areBeside 0 = .ok (.iconst 0, 1) := by decide +kernel
theorem dX11_areBeside_1 : decode cX11_areBeside 1 = .ok (.istore_n 1, 1) := by decide +kernel
theorem dX11_areBeside_2 : decode cX11_areBeside 2 = .ok (.iload_n 1, 1) := by decide +kernel
theorem dX11_areBeside_3 : decode cX11_areBeside 3 = .ok (.aload_n 0, 1) := by decide +kernel
theorem dX11_areBeside_4 : decode cX11_areBeside 4 = .ok (.invokevirtual 340, 3) := by decide +kernel
theorem dX11_areBeside_7 : decode cX11_areBeside 7 = .ok (.if_icmp .ge 64, 3) := by decide +kernel
theorem dX11_areBeside_10 : decode cX11_areBeside 10 = .ok (.aload_n 0, 1) := by decide +kernel
theorem dX11_areBeside_11 : decode cX11_areBeside 11 = .ok (.getfield 70, 3) := by decide +kernel
theorem dX11_areBeside_14 : decode cX11_areBeside 14 = .ok (.iload_n 1, 1) := by decide +kernel
theorem dX11_areBeside_15 : decode cX11_areBeside 15 = .ok (.iaload, 1) := by decide +kernel
theorem dX11_areBeside_16 : decode cX11_areBeside 16 = .ok (.istore_n 2, 1) := by decide +kernel
theorem dX11_areBeside_17 : decode cX11_areBeside 17 = .ok (.aload_n 0, 1) := by decide +kernel
theorem dX11_areBeside_18 : decode cX11_areBeside 18 = .ok (.getfield 70, 3) := by decide +kernel
theorem dX11_areBeside_21 : decode cX11_areBeside 21 = .ok (.iload_n 1, 1) := by decide +kernel
theorem dX11_areBeside_22 : decode cX11_areBeside 22 = .ok (.iconst 1, 1) := by decide +kernel
theorem dX11_areBeside_23 : decode cX11_areBeside 23 = .ok (.iadd, 1) := by decide +kernel
theorem dX11_areBeside_24 : decode cX11_areBeside 24 = .ok (.aload_n 0, 1) := by decide +kernel
theorem dX11_areBeside_25 : decode cX11_areBeside 25 = .ok (.invokevirtual 340, 3) := by decide +kernel
theorem dX11_areBeside_28 : decode cX11_areBeside 28 = .ok (.irem, 1) := by decide +kernel
theorem dX11_areBeside_29 : decode cX11_areBeside 29 = .ok (.iaload, 1) := by decide +kernel
theorem dX11_areBeside_30 : decode cX11_areBeside 30 = .ok (.istore_n 3, 1) := by decide +kernel
theorem dX11_areBeside_31 : decode cX11_areBeside 31 = .ok (.iload_n 2, 1) := by decide +kernel
theorem dX11_areBeside_32 : decode cX11_areBeside 32 = .ok (.aload_n 0, 1) := by decide +kernel
theorem dX11_areBeside_33 : decode cX11_areBeside 33 = .ok (.getfield 345, 3) := by decide +kernel
theorem dX11_areBeside_36 : decode cX11_areBeside 36 = .ok (.if_icmp .ne 11, 3) := by decide +kernel
theorem dX11_areBeside_39 : decode cX11_areBeside 39 = .ok (.iload_n 3, 1) := by decide +kernel
theorem dX11_areBeside_40 : decode cX11_areBeside 40 = .ok (.aload_n 0, 1) := by decide +kernel
theorem dX11_areBeside_41 : decode cX11_areBeside 41 = .ok (.getfield 348, 3) := by decide +kernel
theorem dX11_areBeside_44 : decode cX11_areBeside 44 = .ok (.if_icmp .eq 19, 3) := by decide +kernel
theorem dX11_areBeside_47 : decode cX11_areBeside 47 = .ok (.iload_n 2, 1) := by decide +kernel
theorem dX11_areBeside_48 : decode cX11_areBeside 48 = .ok (.aload_n 0, 1) := by decide +kernel
theorem dX11_areBeside_49 : decode cX11_areBeside 49 = .ok (.getfield 348, 3) := by decide +kernel
theorem dX11_areBeside_52 : decode cX11_areBeside 52 = .ok (.if_icmp .ne 13, 3) := by decide +kernel
theorem dX11_areBeside_55 : decode cX11_areBeside 55 = .ok (.iload_n 3, 1) := by decide +kernel
theorem dX11_areBeside_56 : decode cX11_areBeside 56 = .ok (.aload_n 0, 1) := by decide +kernel
theorem dX11_areBeside_57 : decode cX11_areBeside 57 = .ok (.getfield 345, 3) := by decide +kernel
theorem dX11_areBeside_60 : decode cX11_areBeside 60 = .ok (.if_icmp .ne 5, 3) := by decide +kernel
theorem dX11_areBeside_63 : decode cX11_areBeside 63 = .ok (.iconst 1, 1) := by decide +kernel
theorem dX11_areBeside_64 : decode cX11_areBeside 64 = .ok (.ireturn, 1) := by decide +kernel
theorem dX11_areBeside_65 : decode cX11_areBeside 65 = .ok (.iinc 1 1, 3) := by decide +kernel
theorem dX11_areBeside_68 : decode cX11_areBeside 68 = .ok (.goto (-66), 3) := by decide +kernel
theorem dX11_areBeside_71 : decode cX11_areBeside 71 = .ok (.iconst 0, 1) := by decide +kernel
theorem dX11_areBeside_72 : decode cX11_areBeside 72 = .ok (.ireturn, 1) := by decide +kernel
def fp_X11_areBeside_L2 (v0 : Nat) (M : zM) : Nat → Int32 → Option (Int32)
  | 0, _ => none
  | n + 1, v1 =>
    (fp_X11_length v0 M).bind fun (y1 : Int32) =>
    if v1 ≥ y1 then (
      some 0)
    else (
      (zgR 9 M v0 31).bind fun (y2 : Nat) =>
      (zlI 100 M y2 v1).bind fun (y3 : Int32) =>
      (zgR 9 M v0 31).bind fun (y4 : Nat) =>
      (fp_X11_length v0 M).bind fun (y5 : Int32) =>
      (zrm (v1 + 1) y5).bind fun (y6 : Int32) =>
      (zlI 100 M y4 y6).bind fun (y7 : Int32) =>
      (zgI 9 M v0 40).bind fun (y8 : Int32) =>
      zjn (
          (zgI 9 M v0 41).bind fun (y9 : Int32) =>
          zjn (
              fp_X11_areBeside_L2 v0 M n (v1 + 1))
            (fun j65 =>
              if y3 ≠ y9 then (
                j65)
              else (
                (zgI 9 M v0 40).bind fun (y10 : Int32) =>
                if y7 ≠ y10 then (
                  j65)
                else (
                  some 1))))
        (fun j47 =>
          if y3 ≠ y8 then (
            j47)
          else (
            (zgI 9 M v0 41).bind fun (y11 : Int32) =>
            if y7 = y11 then (
              some 1)
            else (
              j47))))
def fp_X11_areBeside (v0 : Nat) (M : zM) : Option (Int32) :=
  zthis 9 M v0 (
    fp_X11_areBeside_L2 v0 M FU 0)
set_option maxHeartbeats 4000000 in
set_option maxRecDepth 100000 in
theorem th_X11_areBeside {v0 : Nat} {M : zM} {x0 : Int32} (h : fp_X11_areBeside v0 M = some x0) : v0 < zS M ∧ kd v0 = 9 := by
  unfold fp_X11_areBeside at h
  exact zthis_of h
set_option maxHeartbeats 4000000 in
set_option maxRecDepth 100000 in
theorem w_X11_areBeside_L2 (E : zEnv) (hE : zEok E) (d : Nat) (hd : 2 ≤ d) (x0 : Int32) (v0 : Nat) (M : zM)  : ∀ (n : Nat) (v1 : Int32), zSy E mu_X11_areBeside d M (some (.int x0), M) x0 (fp_X11_areBeside_L2 v0 M n v1) 2 [(0, .ref (E.2.2.2.1 + v0)), (1, .int v1)] [] M := by
  intro n
  induction n with
  | zero =>
    intro v1
    rw [fp_X11_areBeside_L2]
    exact zs_none
  | succ n ih =>
    intro v1
    rw [fp_X11_areBeside_L2]
    refine zs_iload_n dX11_areBeside_2 rfl 1 rfl ?_
    refine zs_aload_n dX11_areBeside_3 rfl 0 rfl ?_
    refine zs_invVPI (rest := [.int v1]) [] dX11_areBeside_4 lk_X11_340 rfl (fun _ h => th_X11_length h) (zd1 rfl hd) rfl (Nat.le_of_ble_eq_true rfl) (ct_X11_length E hE _ (zdl rfl hd) _ _) (fun y1 => ?_)
    refine zs_icmp_ge dX11_areBeside_7 rfl ?_ ?_
    · refine zs_iconst (v := 0) dX11_areBeside_71 ciconst_0 ?_
      exact zs_iretP dX11_areBeside_72 rfl
    refine zs_aload_n dX11_areBeside_10 rfl 0 rfl ?_
    refine zs_getR dX11_areBeside_11 fl_X11_70 rfl (fun y2 => ?_)
    refine zs_iload_n dX11_areBeside_14 rfl 1 rfl ?_
    refine zs_ldI dX11_areBeside_15 (fun y3 => ?_)
    refine zs_istore_n (loc' := [(0, .ref (E.2.2.2.1 + v0)), (1, .int v1), (2, .int y3)]) dX11_areBeside_16 rfl (Nat.le_of_ble_eq_true rfl) [1, 2, 0] rfl ?_
    refine zs_aload_n dX11_areBeside_17 rfl 0 rfl ?_
    refine zs_getR dX11_areBeside_18 fl_X11_70 rfl (fun y4 => ?_)
    refine zs_iload_n dX11_areBeside_21 rfl 1 rfl ?_
    refine zs_iconst (v := 1) dX11_areBeside_22 ciconst_1 ?_
    refine zs_iadd dX11_areBeside_23 ?_
    refine zs_aload_n dX11_areBeside_24 rfl 0 rfl ?_
    refine zs_invVPI (rest := [.int (v1 + 1), .ref (E.2.2.2.1 + y4)]) [] dX11_areBeside_25 lk_X11_340 rfl (fun _ h => th_X11_length h) (zd1 rfl hd) rfl (Nat.le_of_ble_eq_true rfl) (ct_X11_length E hE _ (zdl rfl hd) _ _) (fun y5 => ?_)
    refine zs_irem dX11_areBeside_28 (fun y6 => ?_)
    refine zs_ldI dX11_areBeside_29 (fun y7 => ?_)
    refine zs_istore_n (loc' := [(0, .ref (E.2.2.2.1 + v0)), (1, .int v1), (2, .int y3), (3, .int y7)]) dX11_areBeside_30 rfl (Nat.le_of_ble_eq_true rfl) [1, 2, 3, 0] rfl ?_
    refine zs_iload_n dX11_areBeside_31 rfl 2 rfl ?_
    refine zs_aload_n dX11_areBeside_32 rfl 0 rfl ?_
    refine zs_getI dX11_areBeside_33 fl_X11_345 rfl (fun y8 => ?_)
    refine zs_jn (fun j47 => zSy E mu_X11_areBeside d M (some (.int x0), M) x0 (j47) 47 [(0, .ref (E.2.2.2.1 + v0)), (1, .int v1), (2, .int y3), (3, .int y7)] [] M) ?_ (fun j47 hj47 => ?_)
    · refine zs_iload_n dX11_areBeside_47 rfl 2 rfl ?_
      refine zs_aload_n dX11_areBeside_48 rfl 0 rfl ?_
      refine zs_getI dX11_areBeside_49 fl_X11_348 rfl (fun y9 => ?_)
      refine zs_jn (fun j65 => zSy E mu_X11_areBeside d M (some (.int x0), M) x0 (j65) 65 [(0, .ref (E.2.2.2.1 + v0)), (1, .int v1)] [] M) ?_ (fun j65 hj65 => ?_)
      · refine zs_iinc (v := (v1 + 1)) (loc' := [(0, .ref (E.2.2.2.1 + v0)), (1, .int (v1 + 1))]) dX11_areBeside_65 1 rfl (by rfl) (Nat.le_of_ble_eq_true rfl) [1, 0] rfl ?_
        refine zs_goto dX11_areBeside_68 rfl ?_
        exact ih (v1 + 1)
      refine zs_icmp_ne dX11_areBeside_52 rfl ?_ ?_
      · refine zs_sub (loc' := [(0, .ref (E.2.2.2.1 + v0)), (1, .int v1)]) [0, 1] rfl ?_
        exact hj65
      refine zs_iload_n dX11_areBeside_55 rfl 3 rfl ?_
      refine zs_aload_n dX11_areBeside_56 rfl 0 rfl ?_
      refine zs_getI dX11_areBeside_57 fl_X11_345 rfl (fun y10 => ?_)
      refine zs_icmp_ne dX11_areBeside_60 rfl ?_ ?_
      · refine zs_sub (loc' := [(0, .ref (E.2.2.2.1 + v0)), (1, .int v1)]) [0, 1] rfl ?_
        exact hj65
      refine zs_iconst (v := 1) dX11_areBeside_63 ciconst_1 ?_
      exact zs_iretP dX11_areBeside_64 rfl
    refine zs_icmp_ne dX11_areBeside_36 rfl ?_ ?_
    · exact hj47
    refine zs_iload_n dX11_areBeside_39 rfl 3 rfl ?_
    refine zs_aload_n dX11_areBeside_40 rfl 0 rfl ?_
    refine zs_getI dX11_areBeside_41 fl_X11_348 rfl (fun y11 => ?_)
    refine zs_icmp_eq dX11_areBeside_44 rfl ?_ ?_
    · refine zs_iconst (v := 1) dX11_areBeside_63 ciconst_1 ?_
      exact zs_iretP dX11_areBeside_64 rfl
    exact hj47
set_option maxHeartbeats 4000000 in
set_option maxRecDepth 100000 in
theorem ct_X11_areBeside (E : zEnv) (hE : zEok E) (d : Nat) (hd : 2 ≤ d) (v0 : Nat) (M : zM) (x0 : Int32) (hx : fp_X11_areBeside v0 M = some x0) : zCt E mu_X11_areBeside d [.ref (E.2.2.2.1 + v0)] M (some (.int x0), M) := by
  refine zCt_of (μ := mu_X11_areBeside) (t := fp_X11_areBeside v0 M) rfl rfl (Nat.le_of_ble_eq_true rfl) hx ?_
  change zSy E mu_X11_areBeside d M (some (.int x0), M) x0 (fp_X11_areBeside v0 M) 0 [(0, .ref (E.2.2.2.1 + v0))] [] M
  unfold fp_X11_areBeside
  refine zs_this (fun hth => ?_)
  refine zs_iconst (v := 0) dX11_areBeside_0 ciconst_0 ?_
  refine zs_istore_n (loc' := [(0, .ref (E.2.2.2.1 + v0)), (1, .int 0)]) dX11_areBeside_1 rfl (Nat.le_of_ble_eq_true rfl) [1, 0] rfl ?_
  exact w_X11_areBeside_L2 E hE d hd _ _ _ _ _
theorem dX11_gaps_0 : decode cX11_gaps 0 = .ok (.iconst 0, 1) := by decide +kernel
theorem dX11_gaps_1 : decode cX11_gaps 1 = .ok (.istore 4, 2) := by decide +kernel
theorem dX11_gaps_3 : decode cX11_gaps 3 = .ok (.iconst 0, 1) := by decide +kernel
theorem dX11_gaps_4 : decode cX11_gaps 4 = .ok (.istore 5, 2) := by decide +kernel
theorem dX11_gaps_6 : decode cX11_gaps 6 = .ok (.iload 5, 2) := by decide +kernel
theorem dX11_gaps_8 : decode cX11_gaps 8 = .ok (.aload_n 0, 1) := by decide +kernel
theorem dX11_gaps_9 : decode cX11_gaps 9 = .ok (.invokevirtual 340, 3) := by decide +kernel
theorem dX11_gaps_12 : decode cX11_gaps 12 = .ok (.if_icmp .gt 101, 3) := by decide +kernel
theorem dX11_gaps_15 : decode cX11_gaps 15 = .ok (.iconst 0, 1) := by decide +kernel
theorem dX11_gaps_16 : decode cX11_gaps 16 = .ok (.istore 6, 2) := by decide +kernel
theorem dX11_gaps_18 : decode cX11_gaps 18 = .ok (.iload 5, 2) := by decide +kernel
theorem dX11_gaps_20 : decode cX11_gaps 20 = .ok (.istore 7, 2) := by decide +kernel
theorem dX11_gaps_22 : decode cX11_gaps 22 = .ok (.iload 7, 2) := by decide +kernel
theorem dX11_gaps_24 : decode cX11_gaps 24 = .ok (.aload_n 0, 1) := by decide +kernel
theorem dX11_gaps_25 : decode cX11_gaps 25 = .ok (.invokevirtual 340, 3) := by decide +kernel
theorem dX11_gaps_28 : decode cX11_gaps 28 = .ok (.if_icmp .gt 79, 3) := by decide +kernel
theorem dX11_gaps_31 : decode cX11_gaps 31 = .ok (.iload 7, 2) := by decide +kernel
theorem dX11_gaps_33 : decode cX11_gaps 33 = .ok (.iload 5, 2) := by decide +kernel
theorem dX11_gaps_35 : decode cX11_gaps 35 = .ok (.if_icmp .le 16, 3) := by decide +kernel
theorem dX11_gaps_38 : decode cX11_gaps 38 = .ok (.iload 6, 2) := by decide +kernel
theorem dX11_gaps_40 : decode cX11_gaps 40 = .ok (.iconst 1, 1) := by decide +kernel
theorem dX11_gaps_41 : decode cX11_gaps 41 = .ok (.aload_n 1, 1) := by decide +kernel
theorem dX11_gaps_42 : decode cX11_gaps 42 = .ok (.iload 7, 2) := by decide +kernel
theorem dX11_gaps_44 : decode cX11_gaps 44 = .ok (.iconst 1, 1) := by decide +kernel
theorem dX11_gaps_45 : decode cX11_gaps 45 = .ok (.isub, 1) := by decide +kernel
theorem dX11_gaps_46 : decode cX11_gaps 46 = .ok (.iaload, 1) := by decide +kernel
theorem dX11_gaps_47 : decode cX11_gaps 47 = .ok (.ishl, 1) := by decide +kernel
theorem dX11_gaps_48 : decode cX11_gaps 48 = .ok (.ixor, 1) := by decide +kernel
theorem dX11_gaps_49 : decode cX11_gaps 49 = .ok (.istore 6, 2) := by decide +kernel
theorem dX11_gaps_51 : decode cX11_gaps 51 = .ok (.iload 6, 2) := by decide +kernel
theorem dX11_gaps_53 : decode cX11_gaps 53 = .ok (.iload_n 2, 1) := by decide +kernel
theorem dX11_gaps_54 : decode cX11_gaps 54 = .ok (.if_icmp .eq 6, 3) := by decide +kernel
theorem dX11_gaps_57 : decode cX11_gaps 57 = .ok (.goto 44, 3) := by decide +kernel
theorem dX11_gaps_60 : decode cX11_gaps 60 = .ok (.aload_n 0, 1) := by decide +kernel
theorem dX11_gaps_61 : decode cX11_gaps 61 = .ok (.iload 4, 2) := by decide +kernel
theorem dX11_gaps_63 : decode cX11_gaps 63 = .ok (.iload_n 3, 1) := by decide +kernel
theorem dX11_gaps_64 : decode cX11_gaps 64 = .ok (.if_icmp .ne 8, 3) := by decide +kernel
theorem dX11_gaps_67 : decode cX11_gaps 67 = .ok (.iload 5, 2) := by decide +kernel
theorem dX11_gaps_69 : decode cX11_gaps 69 = .ok (.goto 7, 3) := by decide +kernel
theorem dX11_gaps_72 : decode cX11_gaps 72 = .ok (.aload_n 0, 1) := by decide +kernel
theorem dX11_gaps_73 : decode cX11_gaps 73 = .ok (.getfield 419, 3) := by decide +kernel
theorem dX11_gaps_76 : decode cX11_gaps 76 = .ok (.putfield 419, 3) := by decide +kernel
theorem dX11_gaps_79 : decode cX11_gaps 79 = .ok (.aload_n 0, 1) := by decide +kernel
theorem dX11_gaps_80 : decode cX11_gaps 80 = .ok (.iload 4, 2) := by decide +kernel
theorem dX11_gaps_82 : decode cX11_gaps 82 = .ok (.iload_n 3, 1) := by decide +kernel
theorem dX11_gaps_83 : decode cX11_gaps 83 = .ok (.if_icmp .ne 8, 3) := by decide +kernel
theorem dX11_gaps_86 : decode cX11_gaps 86 = .ok (.iload 7, 2) := by decide +kernel
theorem dX11_gaps_88 : decode cX11_gaps 88 = .ok (.goto 7, 3) := by decide +kernel
theorem dX11_gaps_91 : decode cX11_gaps 91 = .ok (.aload_n 0, 1) := by decide +kernel
theorem dX11_gaps_92 : decode cX11_gaps 92 = .ok (.getfield 422, 3) := by decide +kernel
theorem dX11_gaps_95 : decode cX11_gaps 95 = .ok (.putfield 422, 3) := by decide +kernel
theorem dX11_gaps_98 : decode cX11_gaps 98 = .ok (.iinc 4 1, 3) := by decide +kernel
theorem dX11_gaps_101 : decode cX11_gaps 101 = .ok (.iinc 7 1, 3) := by decide +kernel
theorem dX11_gaps_104 : decode cX11_gaps 104 = .ok (.goto (-82), 3) := by decide +kernel
theorem dX11_gaps_107 : decode cX11_gaps 107 = .ok (.iinc 5 1, 3) := by decide +kernel
theorem dX11_gaps_110 : decode cX11_gaps 110 = .ok (.goto (-104), 3) := by decide +kernel
theorem dX11_gaps_113 : decode cX11_gaps 113 = .ok (.iload 4, 2) := by decide +kernel
theorem dX11_gaps_115 : decode cX11_gaps 115 = .ok (.ireturn, 1) := by decide +kernel
def fp_X11_gaps_L22 (k107 : Int32 → zM → Option (Int32 × zM)) (v0 : Nat) (v1 : Nat) (v2 : Int32) (v3 : Int32) (v5 : Int32) : Nat → Int32 → Int32 → Int32 → zM → Option (Int32 × zM)
  | 0, _, _, _, _ => none
  | n + 1, v4, v6, v7, M =>
    (fp_X11_length v0 M).bind fun (y2 : Int32) =>
    if v7 > y2 then (
      k107 v4 M)
    else (
      zjn (fun (v6_3 : Int32) =>
          zjn (fun (v4_4 : Int32) (M5 : zM) =>
              fp_X11_gaps_L22 k107 v0 v1 v2 v3 v5 n v4_4 v6_3 (v7 + 1) M5)
            (fun j101 =>
              if v6_3 = v2 then (
                zjn (fun (s6 : Int32) (s7 : Nat) =>
                    (zpI 9 M s7 43 s6).bind fun (M8 : zM) =>
                    zjn (fun (s9 : Int32) (s10 : Nat) =>
                        (zpI 9 M8 s10 44 s9).bind fun (M11 : zM) =>
                        j101 (v4 + 1) M11)
                      (fun j95 =>
                        if v4 ≠ v3 then (
                          (zgI 9 M8 v0 44).bind fun (y12 : Int32) =>
                          j95 y12 v0)
                        else (
                          j95 v7 v0)))
                  (fun j76 =>
                    if v4 ≠ v3 then (
                      (zgI 9 M v0 43).bind fun (y13 : Int32) =>
                      j76 y13 v0)
                    else (
                      j76 v5 v0)))
              else (
                j101 v4 M)))
        (fun j51 =>
          if v7 ≤ v5 then (
            j51 v6)
          else (
            (zlI 100 M v1 (v7 - 1)).bind fun (y14 : Int32) =>
            lett ((v6 ^^^ (1 <<< (y14 &&& 31)))) fun (v6_15 : Int32) =>
            j51 v6_15)))
def fp_X11_gaps_L6 (v0 : Nat) (v1 : Nat) (v2 : Int32) (v3 : Int32) : Nat → Int32 → Int32 → zM → Option (Int32 × zM)
  | 0, _, _, _ => none
  | n + 1, v4, v5, M =>
    (fp_X11_length v0 M).bind fun (y1 : Int32) =>
    if v5 > y1 then (
      some (v4, M))
    else (
      fp_X11_gaps_L22
        (fun v4_16 M17 =>
          fp_X11_gaps_L6 v0 v1 v2 v3 n v4_16 (v5 + 1) M17) v0 v1 v2 v3 v5 FU v4 0 v5 M)
def fp_X11_gaps (v0 : Nat) (v1 : Nat) (v2 : Int32) (v3 : Int32) (M : zM) : Option (Int32 × zM) :=
  zthis 9 M v0 (
    fp_X11_gaps_L6 v0 v1 v2 v3 FU 0 0 M)
set_option maxHeartbeats 4000000 in
set_option maxRecDepth 100000 in
theorem th_X11_gaps {v0 : Nat} {v1 : Nat} {v2 : Int32} {v3 : Int32} {M : zM} {x0 : Int32 × zM} (h : fp_X11_gaps v0 v1 v2 v3 M = some x0) : v0 < zS M ∧ kd v0 = 9 := by
  unfold fp_X11_gaps at h
  exact zthis_of h
set_option maxHeartbeats 4000000 in
set_option maxRecDepth 100000 in
theorem w_X11_gaps_L22 (E : zEnv) (hE : zEok E) (d : Nat) (hd : 2 ≤ d) (M0 : zM) (x0 : Int32 × zM) (v0 : Nat) (v1 : Nat) (v2 : Int32) (v3 : Int32) (v5 : Int32) (k107 : Int32 → zM → Option (Int32 × zM)) (hk107 : ∀ (v4 : Int32) (M : zM), zSy E mu_X11_gaps d M0 (some (.int x0.1), x0.2) x0 (k107 v4 M) 107 [(0, .ref (E.2.2.2.1 + v0)), (1, .ref (E.2.2.2.1 + v1)), (2, .int v2), (3, .int v3), (4, .int v4), (5, .int v5)] [] M) : ∀ (n : Nat) (v4 : Int32) (v6 : Int32) (v7 : Int32) (M : zM), zSy E mu_X11_gaps d M0 (some (.int x0.1), x0.2) x0 (fp_X11_gaps_L22 k107 v0 v1 v2 v3 v5 n v4 v6 v7 M) 22 [(0, .ref (E.2.2.2.1 + v0)), (1, .ref (E.2.2.2.1 + v1)), (2, .int v2), (3, .int v3), (4, .int v4), (5, .int v5), (6, .int v6), (7, .int v7)] [] M := by
  intro n
  induction n with
  | zero =>
    intro v4 v6 v7 M
    rw [fp_X11_gaps_L22]
    exact zs_none
  | succ n ih =>
    intro v4 v6 v7 M
    rw [fp_X11_gaps_L22]
    refine zs_iload dX11_gaps_22 7 rfl ?_
    refine zs_aload_n dX11_gaps_24 rfl 0 rfl ?_
    refine zs_invVPI (rest := [.int v7]) [] dX11_gaps_25 lk_X11_340 rfl (fun _ h => th_X11_length h) (zd1 rfl hd) rfl (Nat.le_of_ble_eq_true rfl) (ct_X11_length E hE _ (zdl rfl hd) _ _) (fun y2 => ?_)
    refine zs_icmp_gt dX11_gaps_28 rfl ?_ ?_
    · refine zs_sub (loc' := [(0, .ref (E.2.2.2.1 + v0)), (1, .ref (E.2.2.2.1 + v1)), (2, .int v2), (3, .int v3), (4, .int v4), (5, .int v5)]) [0, 1, 2, 3, 4, 5] rfl ?_
      exact hk107 v4 M
    refine zs_iload dX11_gaps_31 7 rfl ?_
    refine zs_iload dX11_gaps_33 5 rfl ?_
    refine zs_jn (fun j51 => ∀ (v6_3 : Int32), zSy E mu_X11_gaps d M0 (some (.int x0.1), x0.2) x0 (j51 v6_3) 51 [(0, .ref (E.2.2.2.1 + v0)), (1, .ref (E.2.2.2.1 + v1)), (2, .int v2), (3, .int v3), (4, .int v4), (5, .int v5), (6, .int v6_3), (7, .int v7)] [] M) (fun v6_3 => ?_) (fun j51 hj51 => ?_)
    · refine zs_iload dX11_gaps_51 6 rfl ?_
      refine zs_iload_n dX11_gaps_53 rfl 2 rfl ?_
      refine zs_jn (fun j101 => ∀ (v4_4 : Int32) (M5 : zM), zSy E mu_X11_gaps d M0 (some (.int x0.1), x0.2) x0 (j101 v4_4 M5) 101 [(0, .ref (E.2.2.2.1 + v0)), (1, .ref (E.2.2.2.1 + v1)), (2, .int v2), (3, .int v3), (4, .int v4_4), (5, .int v5), (6, .int v6_3), (7, .int v7)] [] M5) (fun v4_4 M5 => ?_) (fun j101 hj101 => ?_)
      · refine zs_iinc (v := (v7 + 1)) (loc' := [(0, .ref (E.2.2.2.1 + v0)), (1, .ref (E.2.2.2.1 + v1)), (2, .int v2), (3, .int v3), (4, .int v4_4), (5, .int v5), (6, .int v6_3), (7, .int (v7 + 1))]) dX11_gaps_101 7 rfl (by rfl) (Nat.le_of_ble_eq_true rfl) [1, 2, 3, 4, 5, 6, 7, 0] rfl ?_
        refine zs_goto dX11_gaps_104 rfl ?_
        exact ih v4_4 v6_3 (v7 + 1) M5
      refine zs_icmp_eq dX11_gaps_54 rfl ?_ ?_
      · refine zs_aload_n dX11_gaps_60 rfl 0 rfl ?_
        refine zs_iload dX11_gaps_61 4 rfl ?_
        refine zs_iload_n dX11_gaps_63 rfl 3 rfl ?_
        refine zs_jn (fun j76 => ∀ (s6 : Int32) (s7 : Nat), zSy E mu_X11_gaps d M0 (some (.int x0.1), x0.2) x0 (j76 s6 s7) 76 [(0, .ref (E.2.2.2.1 + v0)), (1, .ref (E.2.2.2.1 + v1)), (2, .int v2), (3, .int v3), (4, .int v4), (5, .int v5), (6, .int v6_3), (7, .int v7)] [.int s6, .ref (E.2.2.2.1 + s7)] M) (fun s6 s7 => ?_) (fun j76 hj76 => ?_)
        · refine zs_putI dX11_gaps_76 fl_X11_419 ft_X11 rfl rfl rfl rfl rfl (fun M8 => ?_)
          refine zs_aload_n dX11_gaps_79 rfl 0 rfl ?_
          refine zs_iload dX11_gaps_80 4 rfl ?_
          refine zs_iload_n dX11_gaps_82 rfl 3 rfl ?_
          refine zs_jn (fun j95 => ∀ (s9 : Int32) (s10 : Nat), zSy E mu_X11_gaps d M0 (some (.int x0.1), x0.2) x0 (j95 s9 s10) 95 [(0, .ref (E.2.2.2.1 + v0)), (1, .ref (E.2.2.2.1 + v1)), (2, .int v2), (3, .int v3), (4, .int v4), (5, .int v5), (6, .int v6_3), (7, .int v7)] [.int s9, .ref (E.2.2.2.1 + s10)] M8) (fun s9 s10 => ?_) (fun j95 hj95 => ?_)
          · refine zs_putI dX11_gaps_95 fl_X11_422 ft_X11 rfl rfl rfl rfl rfl (fun M11 => ?_)
            refine zs_iinc (v := (v4 + 1)) (loc' := [(0, .ref (E.2.2.2.1 + v0)), (1, .ref (E.2.2.2.1 + v1)), (2, .int v2), (3, .int v3), (4, .int (v4 + 1)), (5, .int v5), (6, .int v6_3), (7, .int v7)]) dX11_gaps_98 4 rfl (by rfl) (Nat.le_of_ble_eq_true rfl) [1, 2, 3, 4, 0, 5, 6, 7] rfl ?_
            exact hj101 (v4 + 1) M11
          refine zs_icmp_ne dX11_gaps_83 rfl ?_ ?_
          · refine zs_aload_n dX11_gaps_91 rfl 0 rfl ?_
            refine zs_getI dX11_gaps_92 fl_X11_422 rfl (fun y12 => ?_)
            exact hj95 y12 v0
          refine zs_iload dX11_gaps_86 7 rfl ?_
          refine zs_goto dX11_gaps_88 rfl ?_
          exact hj95 v7 v0
        refine zs_icmp_ne dX11_gaps_64 rfl ?_ ?_
        · refine zs_aload_n dX11_gaps_72 rfl 0 rfl ?_
          refine zs_getI dX11_gaps_73 fl_X11_419 rfl (fun y13 => ?_)
          exact hj76 y13 v0
        refine zs_iload dX11_gaps_67 5 rfl ?_
        refine zs_goto dX11_gaps_69 rfl ?_
        exact hj76 v5 v0
      refine zs_goto dX11_gaps_57 rfl ?_
      exact hj101 v4 M
    refine zs_icmp_le dX11_gaps_35 rfl ?_ ?_
    · exact hj51 v6
    refine zs_iload dX11_gaps_38 6 rfl ?_
    refine zs_iconst (v := 1) dX11_gaps_40 ciconst_1 ?_
    refine zs_aload_n dX11_gaps_41 rfl 1 rfl ?_
    refine zs_iload dX11_gaps_42 7 rfl ?_
    refine zs_iconst (v := 1) dX11_gaps_44 ciconst_1 ?_
    refine zs_isub dX11_gaps_45 ?_
    refine zs_ldI dX11_gaps_46 (fun y14 => ?_)
    refine zs_ishl dX11_gaps_47 ?_
    refine zs_ixor dX11_gaps_48 ?_
    refine zs_istoreL (loc' := fun v6_15 => [(0, .ref (E.2.2.2.1 + v0)), (1, .ref (E.2.2.2.1 + v1)), (2, .int v2), (3, .int v3), (4, .int v4), (5, .int v5), (6, .int v6_15), (7, .int v7)]) dX11_gaps_49 (Nat.le_of_ble_eq_true rfl) [1, 2, 3, 4, 5, 6, 0, 7] (fun _ => rfl) (fun v6_15 => ?_)
    exact hj51 v6_15
set_option maxHeartbeats 4000000 in
set_option maxRecDepth 100000 in
theorem w_X11_gaps_L6 (E : zEnv) (hE : zEok E) (d : Nat) (hd : 2 ≤ d) (M0 : zM) (x0 : Int32 × zM) (v0 : Nat) (v1 : Nat) (v2 : Int32) (v3 : Int32)  : ∀ (n : Nat) (v4 : Int32) (v5 : Int32) (M : zM), zSy E mu_X11_gaps d M0 (some (.int x0.1), x0.2) x0 (fp_X11_gaps_L6 v0 v1 v2 v3 n v4 v5 M) 6 [(0, .ref (E.2.2.2.1 + v0)), (1, .ref (E.2.2.2.1 + v1)), (2, .int v2), (3, .int v3), (4, .int v4), (5, .int v5)] [] M := by
  intro n
  induction n with
  | zero =>
    intro v4 v5 M
    rw [fp_X11_gaps_L6]
    exact zs_none
  | succ n ih =>
    intro v4 v5 M
    rw [fp_X11_gaps_L6]
    refine zs_iload dX11_gaps_6 5 rfl ?_
    refine zs_aload_n dX11_gaps_8 rfl 0 rfl ?_
    refine zs_invVPI (rest := [.int v5]) [] dX11_gaps_9 lk_X11_340 rfl (fun _ h => th_X11_length h) (zd1 rfl hd) rfl (Nat.le_of_ble_eq_true rfl) (ct_X11_length E hE _ (zdl rfl hd) _ _) (fun y1 => ?_)
    refine zs_icmp_gt dX11_gaps_12 rfl ?_ ?_
    · refine zs_iload dX11_gaps_113 4 rfl ?_
      exact zs_iretW dX11_gaps_115 rfl
    refine zs_iconst (v := 0) dX11_gaps_15 ciconst_0 ?_
    refine zs_istore (loc' := [(0, .ref (E.2.2.2.1 + v0)), (1, .ref (E.2.2.2.1 + v1)), (2, .int v2), (3, .int v3), (4, .int v4), (5, .int v5), (6, .int 0)]) dX11_gaps_16 (Nat.le_of_ble_eq_true rfl) [1, 2, 3, 4, 5, 6, 0] rfl ?_
    refine zs_iload dX11_gaps_18 5 rfl ?_
    refine zs_istore (loc' := [(0, .ref (E.2.2.2.1 + v0)), (1, .ref (E.2.2.2.1 + v1)), (2, .int v2), (3, .int v3), (4, .int v4), (5, .int v5), (6, .int 0), (7, .int v5)]) dX11_gaps_20 (Nat.le_of_ble_eq_true rfl) [1, 2, 3, 4, 5, 6, 7, 0] rfl ?_
    refine w_X11_gaps_L22 E hE d hd _ _ _ _ _ _ _ _ (fun v4_16 M17 => ?_) _ _ _ _ _
    refine zs_iinc (v := (v5 + 1)) (loc' := [(0, .ref (E.2.2.2.1 + v0)), (1, .ref (E.2.2.2.1 + v1)), (2, .int v2), (3, .int v3), (4, .int v4_16), (5, .int (v5 + 1))]) dX11_gaps_107 5 rfl (by rfl) (Nat.le_of_ble_eq_true rfl) [1, 2, 3, 4, 5, 0] rfl ?_
    refine zs_goto dX11_gaps_110 rfl ?_
    exact ih v4_16 (v5 + 1) M17
set_option maxHeartbeats 4000000 in
set_option maxRecDepth 100000 in
theorem ct_X11_gaps (E : zEnv) (hE : zEok E) (d : Nat) (hd : 2 ≤ d) (v0 : Nat) (v1 : Nat) (v2 : Int32) (v3 : Int32) (M : zM) (x0 : Int32 × zM) (hx : fp_X11_gaps v0 v1 v2 v3 M = some x0) : zCt E mu_X11_gaps d [.ref (E.2.2.2.1 + v0), .ref (E.2.2.2.1 + v1), .int v2, .int v3] M (some (.int x0.1), x0.2) := by
  refine zCt_of (μ := mu_X11_gaps) (t := fp_X11_gaps v0 v1 v2 v3 M) rfl rfl (Nat.le_of_ble_eq_true rfl) hx ?_
  change zSy E mu_X11_gaps d M (some (.int x0.1), x0.2) x0 (fp_X11_gaps v0 v1 v2 v3 M) 0 [(0, .ref (E.2.2.2.1 + v0)), (1, .ref (E.2.2.2.1 + v1)), (2, .int v2), (3, .int v3)] [] M
  unfold fp_X11_gaps
  refine zs_this (fun hth => ?_)
  refine zs_iconst (v := 0) dX11_gaps_0 ciconst_0 ?_
  refine zs_istore (loc' := [(0, .ref (E.2.2.2.1 + v0)), (1, .ref (E.2.2.2.1 + v1)), (2, .int v2), (3, .int v3), (4, .int 0)]) dX11_gaps_1 (Nat.le_of_ble_eq_true rfl) [1, 2, 3, 4, 0] rfl ?_
  refine zs_iconst (v := 0) dX11_gaps_3 ciconst_0 ?_
  refine zs_istore (loc' := [(0, .ref (E.2.2.2.1 + v0)), (1, .ref (E.2.2.2.1 + v1)), (2, .int v2), (3, .int v3), (4, .int 0), (5, .int 0)]) dX11_gaps_4 (Nat.le_of_ble_eq_true rfl) [1, 2, 3, 4, 5, 0] rfl ?_
  exact w_X11_gaps_L6 E hE d hd _ _ _ _ _ _ _ _ _ _
theorem dX11_isLessThanAsked_0 : decode cX11_isLessThanAsked 0 = .ok (.iconst 0, 1) := by decide +kernel
theorem dX11_isLessThanAsked_1 : decode cX11_isLessThanAsked 1 = .ok (.istore_n 1, 1) := by decide +kernel
theorem dX11_isLessThanAsked_2 : decode cX11_isLessThanAsked 2 = .ok (.iload_n 1, 1) := by decide +kernel
theorem dX11_isLessThanAsked_3 : decode cX11_isLessThanAsked 3 = .ok (.aload_n 0, 1) := by decide +kernel
theorem dX11_isLessThanAsked_4 : decode cX11_isLessThanAsked 4 = .ok (.invokevirtual 340, 3) := by decide +kernel
theorem dX11_isLessThanAsked_7 : decode cX11_isLessThanAsked 7 = .ok (.if_icmp .ge 45, 3) := by decide +kernel
theorem dX11_isLessThanAsked_10 : decode cX11_isLessThanAsked 10 = .ok (.aload_n 0, 1) := by decide +kernel
theorem dX11_isLessThanAsked_11 : decode cX11_isLessThanAsked 11 = .ok (.getfield 70, 3) := by decide +kernel
theorem dX11_isLessThanAsked_14 : decode cX11_isLessThanAsked 14 = .ok (.iload_n 1, 1) := by decide +kernel
theorem dX11_isLessThanAsked_15 : decode cX11_isLessThanAsked 15 = .ok (.iaload, 1) := by decide +kernel
theorem dX11_isLessThanAsked_16 : decode cX11_isLessThanAsked 16 = .ok (.aload_n 0, 1) := by decide +kernel
theorem dX11_isLessThanAsked_17 : decode cX11_isLessThanAsked 17 = .ok (.getfield 82, 3) := by decide +kernel
theorem dX11_isLessThanAsked_20 : decode cX11_isLessThanAsked 20 = .ok (.iload_n 1, 1) := by decide +kernel
theorem dX11_isLessThanAsked_21 : decode cX11_isLessThanAsked 21 = .ok (.iaload, 1) := by decide +kernel
theorem dX11_isLessThanAsked_22 : decode cX11_isLessThanAsked 22 = .ok (.if_icmp .eq 24, 3) := by decide +kernel
theorem dX11_isLessThanAsked_25 : decode cX11_isLessThanAsked 25 = .ok (.aload_n 0, 1) := by decide +kernel
theorem dX11_isLessThanAsked_26 : decode cX11_isLessThanAsked 26 = .ok (.getfield 70, 3) := by decide +kernel
theorem dX11_isLessThanAsked_29 : decode cX11_isLessThanAsked 29 = .ok (.iload_n 1, 1) := by decide +kernel
theorem dX11_isLessThanAsked_30 : decode cX11_isLessThanAsked 30 = .ok (.iaload, 1) := by decide +kernel
theorem dX11_isLessThanAsked_31 : decode cX11_isLessThanAsked 31 = .ok (.aload_n 0, 1) := by decide +kernel
theorem dX11_isLessThanAsked_32 : decode cX11_isLessThanAsked 32 = .ok (.getfield 82, 3) := by decide +kernel
theorem dX11_isLessThanAsked_35 : decode cX11_isLessThanAsked 35 = .ok (.iload_n 1, 1) := by decide +kernel
theorem dX11_isLessThanAsked_36 : decode cX11_isLessThanAsked 36 = .ok (.iaload, 1) := by decide +kernel
theorem dX11_isLessThanAsked_37 : decode cX11_isLessThanAsked 37 = .ok (.if_icmp .ge 7, 3) := by decide +kernel
theorem dX11_isLessThanAsked_40 : decode cX11_isLessThanAsked 40 = .ok (.iconst 1, 1) := by decide +kernel
theorem dX11_isLessThanAsked_41 : decode cX11_isLessThanAsked 41 = .ok (.goto 4, 3) := by decide +kernel
theorem dX11_isLessThanAsked_44 : decode cX11_isLessThanAsked 44 = .ok (.iconst 0, 1) := by decide +kernel
theorem dX11_isLessThanAsked_45 : decode cX11_isLessThanAsked 45 = .ok (.ireturn, 1) := by decide +kernel
theorem dX11_isLessThanAsked_46 : decode cX11_isLessThanAsked 46 = .ok (.iinc 1 1, 3) := by decide +kernel
theorem dX11_isLessThanAsked_49 : decode cX11_isLessThanAsked 49 = .ok (.goto (-47), 3) := by decide +kernel
theorem dX11_isLessThanAsked_52 : decode cX11_isLessThanAsked 52 = .ok (.iconst 0, 1) := by decide +kernel
theorem dX11_isLessThanAsked_53 : decode cX11_isLessThanAsked 53 = .ok (.ireturn, 1) := by decide +kernel
def fp_X11_isLessThanAsked_L2 (k25 : Int32 → Option (Int32)) (v0 : Nat) (M : zM) : Nat → Int32 → Option (Int32)
  | 0, _ => none
  | n + 1, v1 =>
    (fp_X11_length v0 M).bind fun (y1 : Int32) =>
    if v1 ≥ y1 then (
      some 0)
    else (
      (zgR 9 M v0 31).bind fun (y2 : Nat) =>
      (zlI 100 M y2 v1).bind fun (y3 : Int32) =>
      (zgR 9 M v0 35).bind fun (y4 : Nat) =>
      (zlI 100 M y4 v1).bind fun (y5 : Int32) =>
      if y3 = y5 then (
        fp_X11_isLessThanAsked_L2 k25 v0 M n (v1 + 1))
      else (
        k25 v1))
def fp_X11_isLessThanAsked (v0 : Nat) (M : zM) : Option (Int32) :=
  zthis 9 M v0 (
    fp_X11_isLessThanAsked_L2
      (fun v1_6 =>
        (zgR 9 M v0 31).bind fun (y7 : Nat) =>
        (zlI 100 M y7 v1_6).bind fun (y8 : Int32) =>
        (zgR 9 M v0 35).bind fun (y9 : Nat) =>
        (zlI 100 M y9 v1_6).bind fun (y10 : Int32) =>
        if y8 ≥ y10 then (
          some 0)
        else (
          some 1)) v0 M FU 0)
set_option maxHeartbeats 4000000 in
set_option maxRecDepth 100000 in
theorem th_X11_isLessThanAsked {v0 : Nat} {M : zM} {x0 : Int32} (h : fp_X11_isLessThanAsked v0 M = some x0) : v0 < zS M ∧ kd v0 = 9 := by
  unfold fp_X11_isLessThanAsked at h
  exact zthis_of h
set_option maxHeartbeats 4000000 in
set_option maxRecDepth 100000 in
theorem w_X11_isLessThanAsked_L2 (E : zEnv) (hE : zEok E) (d : Nat) (hd : 2 ≤ d) (x0 : Int32) (v0 : Nat) (M : zM) (k25 : Int32 → Option (Int32)) (hk25 : ∀ (v1 : Int32), zSy E mu_X11_isLessThanAsked d M (some (.int x0), M) x0 (k25 v1) 25 [(0, .ref (E.2.2.2.1 + v0)), (1, .int v1)] [] M) : ∀ (n : Nat) (v1 : Int32), zSy E mu_X11_isLessThanAsked d M (some (.int x0), M) x0 (fp_X11_isLessThanAsked_L2 k25 v0 M n v1) 2 [(0, .ref (E.2.2.2.1 + v0)), (1, .int v1)] [] M := by
  intro n
  induction n with
  | zero =>
    intro v1
    rw [fp_X11_isLessThanAsked_L2]
    exact zs_none
  | succ n ih =>
    intro v1
    rw [fp_X11_isLessThanAsked_L2]
    refine zs_iload_n dX11_isLessThanAsked_2 rfl 1 rfl ?_
    refine zs_aload_n dX11_isLessThanAsked_3 rfl 0 rfl ?_
    refine zs_invVPI (rest := [.int v1]) [] dX11_isLessThanAsked_4 lk_X11_340 rfl (fun _ h => th_X11_length h) (zd1 rfl hd) rfl (Nat.le_of_ble_eq_true rfl) (ct_X11_length E hE _ (zdl rfl hd) _ _) (fun y1 => ?_)
    refine zs_icmp_ge dX11_isLessThanAsked_7 rfl ?_ ?_
    · refine zs_iconst (v := 0) dX11_isLessThanAsked_52 ciconst_0 ?_
      exact zs_iretP dX11_isLessThanAsked_53 rfl
    refine zs_aload_n dX11_isLessThanAsked_10 rfl 0 rfl ?_
    refine zs_getR dX11_isLessThanAsked_11 fl_X11_70 rfl (fun y2 => ?_)
    refine zs_iload_n dX11_isLessThanAsked_14 rfl 1 rfl ?_
    refine zs_ldI dX11_isLessThanAsked_15 (fun y3 => ?_)
    refine zs_aload_n dX11_isLessThanAsked_16 rfl 0 rfl ?_
    refine zs_getR dX11_isLessThanAsked_17 fl_X11_82 rfl (fun y4 => ?_)
    refine zs_iload_n dX11_isLessThanAsked_20 rfl 1 rfl ?_
    refine zs_ldI dX11_isLessThanAsked_21 (fun y5 => ?_)
    refine zs_icmp_eq dX11_isLessThanAsked_22 rfl ?_ ?_
    · refine zs_iinc (v := (v1 + 1)) (loc' := [(0, .ref (E.2.2.2.1 + v0)), (1, .int (v1 + 1))]) dX11_isLessThanAsked_46 1 rfl (by rfl) (Nat.le_of_ble_eq_true rfl) [1, 0] rfl ?_
      refine zs_goto dX11_isLessThanAsked_49 rfl ?_
      exact ih (v1 + 1)
    exact hk25 v1
set_option maxHeartbeats 4000000 in
set_option maxRecDepth 100000 in
theorem ct_X11_isLessThanAsked (E : zEnv) (hE : zEok E) (d : Nat) (hd : 2 ≤ d) (v0 : Nat) (M : zM) (x0 : Int32) (hx : fp_X11_isLessThanAsked v0 M = some x0) : zCt E mu_X11_isLessThanAsked d [.ref (E.2.2.2.1 + v0)] M (some (.int x0), M) := by
  refine zCt_of (μ := mu_X11_isLessThanAsked) (t := fp_X11_isLessThanAsked v0 M) rfl rfl (Nat.le_of_ble_eq_true rfl) hx ?_
  change zSy E mu_X11_isLessThanAsked d M (some (.int x0), M) x0 (fp_X11_isLessThanAsked v0 M) 0 [(0, .ref (E.2.2.2.1 + v0))] [] M
  unfold fp_X11_isLessThanAsked
  refine zs_this (fun hth => ?_)
  refine zs_iconst (v := 0) dX11_isLessThanAsked_0 ciconst_0 ?_
  refine zs_istore_n (loc' := [(0, .ref (E.2.2.2.1 + v0)), (1, .int 0)]) dX11_isLessThanAsked_1 rfl (Nat.le_of_ble_eq_true rfl) [1, 0] rfl ?_
  refine w_X11_isLessThanAsked_L2 E hE d hd _ _ _ _ (fun v1_6 => ?_) _ _
  refine zs_aload_n dX11_isLessThanAsked_25 rfl 0 rfl ?_
  refine zs_getR dX11_isLessThanAsked_26 fl_X11_70 rfl (fun y7 => ?_)
  refine zs_iload_n dX11_isLessThanAsked_29 rfl 1 rfl ?_
  refine zs_ldI dX11_isLessThanAsked_30 (fun y8 => ?_)
  refine zs_aload_n dX11_isLessThanAsked_31 rfl 0 rfl ?_
  refine zs_getR dX11_isLessThanAsked_32 fl_X11_82 rfl (fun y9 => ?_)
  refine zs_iload_n dX11_isLessThanAsked_35 rfl 1 rfl ?_
  refine zs_ldI dX11_isLessThanAsked_36 (fun y10 => ?_)
  refine zs_icmp_ge dX11_isLessThanAsked_37 rfl ?_ ?_
  · refine zs_iconst (v := 0) dX11_isLessThanAsked_44 ciconst_0 ?_
    exact zs_iretP dX11_isLessThanAsked_45 rfl
  refine zs_iconst (v := 1) dX11_isLessThanAsked_40 ciconst_1 ?_
  refine zs_goto dX11_isLessThanAsked_41 rfl ?_
  exact zs_iretP dX11_isLessThanAsked_45 rfl
theorem dX11_isModel_0 : decode cX11_isModel 0 = .ok (.aload_n 0, 1) := by decide +kernel
theorem dX11_isModel_1 : decode cX11_isModel 1 = .ok (.getfield 351, 3) := by decide +kernel
theorem dX11_isModel_4 : decode cX11_isModel 4 = .ok (.iconst 4, 1) := by decide +kernel
theorem dX11_isModel_5 : decode cX11_isModel 5 = .ok (.if_icmp .eq 18, 3) := by decide +kernel
theorem dX11_isModel_8 : decode cX11_isModel 8 = .ok (.aload_n 0, 1) := by decide +kernel
theorem dX11_isModel_9 : decode cX11_isModel 9 = .ok (.getfield 101, 3) := by decide +kernel
theorem dX11_isModel_12 : decode cX11_isModel 12 = .ok (.ifCond .le 11, 3) := by decide +kernel
theorem dX11_isModel_15 : decode cX11_isModel 15 = .ok (.aload_n 0, 1) := by decide +kernel
theorem dX11_isModel_16 : decode cX11_isModel 16 = .ok (.invokevirtual 354, 3) := by decide +kernel
theorem dX11_isModel_19 : decode cX11_isModel 19 = .ok (.ifCond .ne 4, 3) := by decide +kernel
theorem dX11_isModel_22 : decode cX11_isModel 22 = .ok (.return_, 1) := by decide +kernel
theorem dX11_isModel_23 : decode cX11_isModel 23 = .ok (.aload_n 0, 1) := by decide +kernel
theorem dX11_isModel_24 : decode cX11_isModel 24 = .ok (.getfield 357, 3) := by decide +kernel
theorem dX11_isModel_27 : decode cX11_isModel 27 = .ok (.aload_n 0, 1) := by decide +kernel
theorem dX11_isModel_28 : decode cX11_isModel 28 = .ok (.getfield 360, 3) := by decide +kernel
theorem dX11_isModel_31 : decode cX11_isModel 31 = .ok (.if_icmp .ne 31, 3) := by decide +kernel
theorem dX11_isModel_34 : decode cX11_isModel 34 = .ok (.iconst 0, 1) := by decide +kernel
theorem dX11_isModel_35 : decode cX11_isModel 35 = .ok (.istore_n 1, 1) := by decide +kernel
theorem dX11_isModel_36 : decode cX11_isModel 36 = .ok (.iload_n 1, 1) := by decide +kernel
theorem dX11_isModel_37 : decode cX11_isModel 37 = .ok (.aload_n 0, 1) := by decide +kernel
theorem dX11_isModel_38 : decode cX11_isModel 38 = .ok (.invokevirtual 340, 3) := by decide +kernel
theorem dX11_isModel_41 : decode cX11_isModel 41 = .ok (.if_icmp .ge 21, 3) := by decide +kernel
theorem dX11_isModel_44 : decode cX11_isModel 44 = .ok (.aload_n 0, 1) := by decide +kernel
theorem dX11_isModel_45 : decode cX11_isModel 45 = .ok (.getfield 79, 3) := by decide +kernel
theorem dX11_isModel_48 : decode cX11_isModel 48 = .ok (.iload_n 1, 1) := by decide +kernel
theorem dX11_isModel_49 : decode cX11_isModel 49 = .ok (.aload_n 0, 1) := by decide +kernel
theorem dX11_isModel_50 : decode cX11_isModel 50 = .ok (.getfield 70, 3) := by decide +kernel
theorem dX11_isModel_53 : decode cX11_isModel 53 = .ok (.iload_n 1, 1) := by decide +kernel
theorem dX11_isModel_54 : decode cX11_isModel 54 = .ok (.iaload, 1) := by decide +kernel
theorem dX11_isModel_55 : decode cX11_isModel 55 = .ok (.iastore, 1) := by decide +kernel
theorem dX11_isModel_56 : decode cX11_isModel 56 = .ok (.iinc 1 1, 3) := by decide +kernel
theorem dX11_isModel_59 : decode cX11_isModel 59 = .ok (.goto (-23), 3) := by decide +kernel
theorem dX11_isModel_62 : decode cX11_isModel 62 = .ok (.aload_n 0, 1) := by decide +kernel
theorem dX11_isModel_63 : decode cX11_isModel 63 = .ok (.getfield 351, 3) := by decide +kernel
theorem dX11_isModel_66 : decode cX11_isModel 66 = .ok (.iconst 1, 1) := by decide +kernel
theorem dX11_isModel_67 : decode cX11_isModel 67 = .ok (.if_icmp .ne 10, 3) := by decide +kernel
theorem dX11_isModel_70 : decode cX11_isModel 70 = .ok (.aload_n 0, 1) := by decide +kernel
theorem dX11_isModel_71 : decode cX11_isModel 71 = .ok (.invokevirtual 363, 3) := by decide +kernel
theorem dX11_isModel_74 : decode cX11_isModel 74 = .ok (.ifCond .ne 42, 3) := by decide +kernel
theorem dX11_isModel_77 : decode cX11_isModel 77 = .ok (.aload_n 0, 1) := by decide +kernel
theorem dX11_isModel_78 : decode cX11_isModel 78 = .ok (.getfield 351, 3) := by decide +kernel
theorem dX11_isModel_81 : decode cX11_isModel 81 = .ok (.iconst 2, 1) := by decide +kernel
theorem dX11_isModel_82 : decode cX11_isModel 82 = .ok (.if_icmp .ne 19, 3) := by decide +kernel
theorem dX11_isModel_85 : decode cX11_isModel 85 = .ok (.aload_n 0, 1) := by decide +kernel
theorem dX11_isModel_86 : decode cX11_isModel 86 = .ok (.aload_n 0, 1) := by decide +kernel
theorem dX11_isModel_87 : decode cX11_isModel 87 = .ok (.getfield 70, 3) := by decide +kernel
theorem dX11_isModel_90 : decode cX11_isModel 90 = .ok (.aload_n 0, 1) := by decide +kernel
theorem dX11_isModel_91 : decode cX11_isModel 91 = .ok (.getfield 345, 3) := by decide +kernel
theorem dX11_isModel_94 : decode cX11_isModel 94 = .ok (.iconst (-1), 1) := by decide +kernel
theorem dX11_isModel_95 : decode cX11_isModel 95 = .ok (.invokevirtual 366, 3) := by decide +kernel
theorem dX11_isModel_98 : decode cX11_isModel 98 = .ok (.ifCond .gt 18, 3) := by decide +kernel
theorem dX11_isModel_101 : decode cX11_isModel 101 = .ok (.aload_n 0, 1) := by decide +kernel
theorem dX11_isModel_102 : decode cX11_isModel 102 = .ok (.getfield 351, 3) := by decide +kernel
theorem dX11_isModel_105 : decode cX11_isModel 105 = .ok (.iconst 3, 1) := by decide +kernel
theorem dX11_isModel_106 : decode cX11_isModel 106 = .ok (.if_icmp .ne 14, 3) := by decide +kernel
theorem dX11_isModel_109 : decode cX11_isModel 109 = .ok (.aload_n 0, 1) := by decide +kernel
theorem dX11_isModel_110 : decode cX11_isModel 110 = .ok (.invokevirtual 370, 3) := by decide +kernel
theorem dX11_isModel_113 : decode cX11_isModel 113 = .ok (.ifCond .eq 7, 3) := by decide +kernel
theorem dX11_isModel_116 : decode cX11_isModel 116 = .ok (.iconst 1, 1) := by decide +kernel
theorem dX11_isModel_117 : decode cX11_isModel 117 = .ok (.goto 4, 3) := by decide +kernel
theorem dX11_isModel_120 : decode cX11_isModel 120 = .ok (.iconst 0, 1) := by decide +kernel
theorem dX11_isModel_121 : decode cX11_isModel 121 = .ok (.istore_n 1, 1) := by decide +kernel
theorem dX11_isModel_122 : decode cX11_isModel 122 = .ok (.aload_n 0, 1) := by decide +kernel
theorem dX11_isModel_123 : decode cX11_isModel 123 = .ok (.dup, 1) := by decide +kernel
theorem dX11_isModel_124 : decode cX11_isModel 124 = .ok (.getfield 373, 3) := by decide +kernel
theorem dX11_isModel_127 : decode cX11_isModel 127 = .ok (.iload_n 1, 1) := by decide +kernel
theorem dX11_isModel_128 : decode cX11_isModel 128 = .ok (.ifCond .eq 7, 3) := by decide +kernel
theorem dX11_isModel_131 : decode cX11_isModel 131 = .ok (.iconst 1, 1) := by decide +kernel
theorem dX11_isModel_132 : decode cX11_isModel 132 = .ok (.goto 4, 3) := by decide +kernel
theorem dX11_isModel_135 : decode cX11_isModel 135 = .ok (.iconst 0, 1) := by decide +kernel
theorem dX11_isModel_136 : decode cX11_isModel 136 = .ok (.iadd, 1) := by decide +kernel
theorem dX11_isModel_137 : decode cX11_isModel 137 = .ok (.putfield 373, 3) := by decide +kernel
theorem dX11_isModel_140 : decode cX11_isModel 140 = .ok (.aload_n 0, 1) := by decide +kernel
theorem dX11_isModel_141 : decode cX11_isModel 141 = .ok (.dup, 1) := by decide +kernel
theorem dX11_isModel_142 : decode cX11_isModel 142 = .ok (.getfield 357, 3) := by decide +kernel
theorem dX11_isModel_145 : decode cX11_isModel 145 = .ok (.iconst 1, 1) := by decide +kernel
theorem dX11_isModel_146 : decode cX11_isModel 146 = .ok (.iadd, 1) := by decide +kernel
theorem dX11_isModel_147 : decode cX11_isModel 147 = .ok (.putfield 357, 3) := by decide +kernel
theorem dX11_isModel_150 : decode cX11_isModel 150 = .ok (.aload_n 0, 1) := by decide +kernel
theorem dX11_isModel_151 : decode cX11_isModel 151 = .ok (.getfield 351, 3) := by decide +kernel
theorem dX11_isModel_154 : decode cX11_isModel 154 = .ok (.iconst 4, 1) := by decide +kernel
theorem dX11_isModel_155 : decode cX11_isModel 155 = .ok (.if_icmp .eq 16, 3) := by decide +kernel
theorem dX11_isModel_158 : decode cX11_isModel 158 = .ok (.aload_n 0, 1) := by decide +kernel
theorem dX11_isModel_159 : decode cX11_isModel 159 = .ok (.getfield 357, 3) := by decide +kernel
theorem dX11_isModel_162 : decode cX11_isModel 162 = .ok (.aload_n 0, 1) := by decide +kernel
theorem dX11_isModel_163 : decode cX11_isModel 163 = .ok (.getfield 360, 3) := by decide +kernel
theorem dX11_isModel_166 : decode cX11_isModel 166 = .ok (.iconst 1, 1) := by decide +kernel
theorem dX11_isModel_167 : decode cX11_isModel 167 = .ok (.iadd, 1) := by decide +kernel
theorem dX11_isModel_168 : decode cX11_isModel 168 = .ok (.if_icmp .ne 8, 3) := by decide +kernel
theorem dX11_isModel_171 : decode cX11_isModel 171 = .ok (.aload_n 0, 1) := by decide +kernel
theorem dX11_isModel_172 : decode cX11_isModel 172 = .ok (.iconst 1, 1) := by decide +kernel
theorem dX11_isModel_173 : decode cX11_isModel 173 = .ok (.putfield 376, 3) := by decide +kernel
theorem dX11_isModel_176 : decode cX11_isModel 176 = .ok (.return_, 1) := by decide +kernel
def fp_X11_isModel_L36 (k62 : zM → Option (zM)) (v0 : Nat) : Nat → Int32 → zM → Option (zM)
  | 0, _, _ => none
  | n + 1, v1, M =>
    (fp_X11_length v0 M).bind fun (y31 : Int32) =>
    if v1 ≥ y31 then (
      k62 M)
    else (
      (zgR 9 M v0 34).bind fun (y32 : Nat) =>
      (zgR 9 M v0 31).bind fun (y33 : Nat) =>
      (zlI 100 M y33 v1).bind fun (y34 : Int32) =>
      (ztI M y32 v1 y34).bind fun (M35 : zM) =>
      fp_X11_isModel_L36 k62 v0 n (v1 + 1) M35)
def fp_X11_isModel (v0 : Nat) (M : zM) : Option (zM) :=
  zthis 9 M v0 (
    (zgI 9 M v0 39).bind fun (y1 : Int32) =>
    zjn (
        (zgI 9 M v0 36).bind fun (y2 : Int32) =>
        (zgI 9 M v0 37).bind fun (y3 : Int32) =>
        zjn (fun (M4 : zM) =>
            (zgI 9 M4 v0 39).bind fun (y5 : Int32) =>
            zjn (fun (s6 : Int32) (M7 : zM) =>
                (zgI 9 M7 v0 38).bind fun (y8 : Int32) =>
                zjn (fun (s9 : Int32) (s10 : Int32) (s11 : Nat) =>
                    (zpI 9 M7 s11 38 (s10 + s9)).bind fun (M12 : zM) =>
                    (zgI 9 M12 v0 36).bind fun (y13 : Int32) =>
                    (zpI 9 M12 v0 36 (y13 + 1)).bind fun (M14 : zM) =>
                    (zgI 9 M14 v0 39).bind fun (y15 : Int32) =>
                    if y15 = 4 then (
                      (zpI 9 M14 v0 42 1).bind fun (M16 : zM) =>
                      some M16)
                    else (
                      (zgI 9 M14 v0 36).bind fun (y17 : Int32) =>
                      (zgI 9 M14 v0 37).bind fun (y18 : Int32) =>
                      if y17 ≠ (y18 + 1) then (
                        some M14)
                      else (
                        (zpI 9 M14 v0 42 1).bind fun (M19 : zM) =>
                        some M19)))
                  (fun j136 =>
                    if s6 = 0 then (
                      j136 0 y8 v0)
                    else (
                      j136 1 y8 v0)))
              (fun j121 =>
                zjn (fun (M20 : zM) =>
                    j121 1 M20)
                  (fun j116 =>
                    zjn (
                        (zgI 9 M4 v0 39).bind fun (y21 : Int32) =>
                        zjn (fun (M22 : zM) =>
                            (zgI 9 M22 v0 39).bind fun (y23 : Int32) =>
                            zjn (
                                j121 0 M22)
                              (fun j120 =>
                                if y23 ≠ 3 then (
                                  j120)
                                else (
                                  (fp_X11_isLessThanAsked v0 M22).bind fun (y24 : Int32) =>
                                  if y24 = 0 then (
                                    j120)
                                  else (
                                    j116 M22))))
                          (fun j101 =>
                            if y21 ≠ 2 then (
                              j101 M4)
                            else (
                              (zgR 9 M4 v0 31).bind fun (y25 : Nat) =>
                              (zgI 9 M4 v0 40).bind fun (y26 : Int32) =>
                              (fp_X11_gaps v0 y25 y26 (-1) M4).bind fun p29 => zpp p29 fun (y27 : Int32) (M28 : zM) =>
                              if y27 > 0 then (
                                j116 M28)
                              else (
                                j101 M28))))
                      (fun j77 =>
                        if y5 ≠ 1 then (
                          j77)
                        else (
                          (fp_X11_areBeside v0 M4).bind fun (y30 : Int32) =>
                          if y30 ≠ 0 then (
                            j116 M4)
                          else (
                            j77))))))
          (fun j62 =>
            if y2 ≠ y3 then (
              j62 M)
            else (
              fp_X11_isModel_L36
                (fun M36 =>
                  j62 M36) v0 FU 0 M)))
      (fun j23 =>
        if y1 = 4 then (
          j23)
        else (
          (zgI 9 M v0 0).bind fun (y37 : Int32) =>
          if y37 ≤ 0 then (
            j23)
          else (
            (fp_X11_isLeast v0 M).bind fun (y38 : Int32) =>
            if y38 ≠ 0 then (
              j23)
            else (
              some M)))))
set_option maxHeartbeats 4000000 in
set_option maxRecDepth 100000 in
theorem th_X11_isModel {v0 : Nat} {M : zM} {x0 : zM} (h : fp_X11_isModel v0 M = some x0) : v0 < zS M ∧ kd v0 = 9 := by
  unfold fp_X11_isModel at h
  exact zthis_of h
set_option maxHeartbeats 4000000 in
set_option maxRecDepth 100000 in
theorem w_X11_isModel_L36 (E : zEnv) (hE : zEok E) (d : Nat) (hd : 4 ≤ d) (M0 : zM) (x0 : zM) (v0 : Nat) (k62 : zM → Option (zM)) (hk62 : ∀ (M : zM), zSy E mu_X11_isModel d M0 (none, x0) x0 (k62 M) 62 [(0, .ref (E.2.2.2.1 + v0))] [] M) : ∀ (n : Nat) (v1 : Int32) (M : zM), zSy E mu_X11_isModel d M0 (none, x0) x0 (fp_X11_isModel_L36 k62 v0 n v1 M) 36 [(0, .ref (E.2.2.2.1 + v0)), (1, .int v1)] [] M := by
  intro n
  induction n with
  | zero =>
    intro v1 M
    rw [fp_X11_isModel_L36]
    exact zs_none
  | succ n ih =>
    intro v1 M
    rw [fp_X11_isModel_L36]
    refine zs_iload_n dX11_isModel_36 rfl 1 rfl ?_
    refine zs_aload_n dX11_isModel_37 rfl 0 rfl ?_
    refine zs_invVPI (rest := [.int v1]) [] dX11_isModel_38 lk_X11_340 rfl (fun _ h => th_X11_length h) (zd1 rfl hd) rfl (Nat.le_of_ble_eq_true rfl) (ct_X11_length E hE _ (zdl rfl hd) _ _) (fun y31 => ?_)
    refine zs_icmp_ge dX11_isModel_41 rfl ?_ ?_
    · refine zs_sub (loc' := [(0, .ref (E.2.2.2.1 + v0))]) [0] rfl ?_
      exact hk62 M
    refine zs_aload_n dX11_isModel_44 rfl 0 rfl ?_
    refine zs_getR dX11_isModel_45 fl_X11_79 rfl (fun y32 => ?_)
    refine zs_iload_n dX11_isModel_48 rfl 1 rfl ?_
    refine zs_aload_n dX11_isModel_49 rfl 0 rfl ?_
    refine zs_getR dX11_isModel_50 fl_X11_70 rfl (fun y33 => ?_)
    refine zs_iload_n dX11_isModel_53 rfl 1 rfl ?_
    refine zs_ldI dX11_isModel_54 (fun y34 => ?_)
    refine zs_stI dX11_isModel_55 (fun M35 => ?_)
    refine zs_iinc (v := (v1 + 1)) (loc' := [(0, .ref (E.2.2.2.1 + v0)), (1, .int (v1 + 1))]) dX11_isModel_56 1 rfl (by rfl) (Nat.le_of_ble_eq_true rfl) [1, 0] rfl ?_
    refine zs_goto dX11_isModel_59 rfl ?_
    exact ih (v1 + 1) M35
set_option maxHeartbeats 4000000 in
set_option maxRecDepth 100000 in
theorem ct_X11_isModel (E : zEnv) (hE : zEok E) (d : Nat) (hd : 4 ≤ d) (v0 : Nat) (M : zM) (x0 : zM) (hx : fp_X11_isModel v0 M = some x0) : zCt E mu_X11_isModel d [.ref (E.2.2.2.1 + v0)] M (none, x0) := by
  refine zCt_of (μ := mu_X11_isModel) (t := fp_X11_isModel v0 M) rfl rfl (Nat.le_of_ble_eq_true rfl) hx ?_
  change zSy E mu_X11_isModel d M (none, x0) x0 (fp_X11_isModel v0 M) 0 [(0, .ref (E.2.2.2.1 + v0))] [] M
  unfold fp_X11_isModel
  refine zs_this (fun hth => ?_)
  refine zs_aload_n dX11_isModel_0 rfl 0 rfl ?_
  refine zs_getI dX11_isModel_1 fl_X11_351 rfl (fun y1 => ?_)
  refine zs_iconst (v := 4) dX11_isModel_4 ciconst_4 ?_
  refine zs_jn (fun j23 => zSy E mu_X11_isModel d M (none, x0) x0 (j23) 23 [(0, .ref (E.2.2.2.1 + v0))] [] M) ?_ (fun j23 hj23 => ?_)
  · refine zs_aload_n dX11_isModel_23 rfl 0 rfl ?_
    refine zs_getI dX11_isModel_24 fl_X11_357 rfl (fun y2 => ?_)
    refine zs_aload_n dX11_isModel_27 rfl 0 rfl ?_
    refine zs_getI dX11_isModel_28 fl_X11_360 rfl (fun y3 => ?_)
    refine zs_jn (fun j62 => ∀ (M4 : zM), zSy E mu_X11_isModel d M (none, x0) x0 (j62 M4) 62 [(0, .ref (E.2.2.2.1 + v0))] [] M4) (fun M4 => ?_) (fun j62 hj62 => ?_)
    · refine zs_aload_n dX11_isModel_62 rfl 0 rfl ?_
      refine zs_getI dX11_isModel_63 fl_X11_351 rfl (fun y5 => ?_)
      refine zs_iconst (v := 1) dX11_isModel_66 ciconst_1 ?_
      refine zs_jn (fun j121 => ∀ (s6 : Int32) (M7 : zM), zSy E mu_X11_isModel d M (none, x0) x0 (j121 s6 M7) 121 [(0, .ref (E.2.2.2.1 + v0))] [.int s6] M7) (fun s6 M7 => ?_) (fun j121 hj121 => ?_)
      · refine zs_istore_n (loc' := [(0, .ref (E.2.2.2.1 + v0)), (1, .int s6)]) dX11_isModel_121 rfl (Nat.le_of_ble_eq_true rfl) [1, 0] rfl ?_
        refine zs_aload_n dX11_isModel_122 rfl 0 rfl ?_
        refine zs_dup dX11_isModel_123 rfl ?_
        refine zs_getI dX11_isModel_124 fl_X11_373 rfl (fun y8 => ?_)
        refine zs_iload_n dX11_isModel_127 rfl 1 rfl ?_
        refine zs_jn (fun j136 => ∀ (s9 : Int32) (s10 : Int32) (s11 : Nat), zSy E mu_X11_isModel d M (none, x0) x0 (j136 s9 s10 s11) 136 [(0, .ref (E.2.2.2.1 + v0))] [.int s9, .int s10, .ref (E.2.2.2.1 + s11)] M7) (fun s9 s10 s11 => ?_) (fun j136 hj136 => ?_)
        · refine zs_iadd dX11_isModel_136 ?_
          refine zs_putI dX11_isModel_137 fl_X11_373 ft_X11 rfl rfl rfl rfl rfl (fun M12 => ?_)
          refine zs_aload_n dX11_isModel_140 rfl 0 rfl ?_
          refine zs_dup dX11_isModel_141 rfl ?_
          refine zs_getI dX11_isModel_142 fl_X11_357 rfl (fun y13 => ?_)
          refine zs_iconst (v := 1) dX11_isModel_145 ciconst_1 ?_
          refine zs_iadd dX11_isModel_146 ?_
          refine zs_putI dX11_isModel_147 fl_X11_357 ft_X11 rfl rfl rfl rfl rfl (fun M14 => ?_)
          refine zs_aload_n dX11_isModel_150 rfl 0 rfl ?_
          refine zs_getI dX11_isModel_151 fl_X11_351 rfl (fun y15 => ?_)
          refine zs_iconst (v := 4) dX11_isModel_154 ciconst_4 ?_
          refine zs_icmp_eq dX11_isModel_155 rfl ?_ ?_
          · refine zs_aload_n dX11_isModel_171 rfl 0 rfl ?_
            refine zs_iconst (v := 1) dX11_isModel_172 ciconst_1 ?_
            refine zs_putI dX11_isModel_173 fl_X11_376 ft_X11 rfl rfl rfl rfl rfl (fun M16 => ?_)
            exact zs_vret dX11_isModel_176 trivial
          refine zs_aload_n dX11_isModel_158 rfl 0 rfl ?_
          refine zs_getI dX11_isModel_159 fl_X11_357 rfl (fun y17 => ?_)
          refine zs_aload_n dX11_isModel_162 rfl 0 rfl ?_
          refine zs_getI dX11_isModel_163 fl_X11_360 rfl (fun y18 => ?_)
          refine zs_iconst (v := 1) dX11_isModel_166 ciconst_1 ?_
          refine zs_iadd dX11_isModel_167 ?_
          refine zs_icmp_ne dX11_isModel_168 rfl ?_ ?_
          · exact zs_vret dX11_isModel_176 trivial
          refine zs_aload_n dX11_isModel_171 rfl 0 rfl ?_
          refine zs_iconst (v := 1) dX11_isModel_172 ciconst_1 ?_
          refine zs_putI dX11_isModel_173 fl_X11_376 ft_X11 rfl rfl rfl rfl rfl (fun M19 => ?_)
          exact zs_vret dX11_isModel_176 trivial
        refine zs_if_eq dX11_isModel_128 rfl ?_ ?_
        · refine zs_iconst (v := 0) dX11_isModel_135 ciconst_0 ?_
          refine zs_sub (loc' := [(0, .ref (E.2.2.2.1 + v0))]) [0] rfl ?_
          exact hj136 0 y8 v0
        refine zs_iconst (v := 1) dX11_isModel_131 ciconst_1 ?_
        refine zs_goto dX11_isModel_132 rfl ?_
        refine zs_sub (loc' := [(0, .ref (E.2.2.2.1 + v0))]) [0] rfl ?_
        exact hj136 1 y8 v0
      refine zs_jn (fun j116 => ∀ (M20 : zM), zSy E mu_X11_isModel d M (none, x0) x0 (j116 M20) 116 [(0, .ref (E.2.2.2.1 + v0))] [] M20) (fun M20 => ?_) (fun j116 hj116 => ?_)
      · refine zs_iconst (v := 1) dX11_isModel_116 ciconst_1 ?_
        refine zs_goto dX11_isModel_117 rfl ?_
        exact hj121 1 M20
      refine zs_jn (fun j77 => zSy E mu_X11_isModel d M (none, x0) x0 (j77) 77 [(0, .ref (E.2.2.2.1 + v0))] [] M4) ?_ (fun j77 hj77 => ?_)
      · refine zs_aload_n dX11_isModel_77 rfl 0 rfl ?_
        refine zs_getI dX11_isModel_78 fl_X11_351 rfl (fun y21 => ?_)
        refine zs_iconst (v := 2) dX11_isModel_81 ciconst_2 ?_
        refine zs_jn (fun j101 => ∀ (M22 : zM), zSy E mu_X11_isModel d M (none, x0) x0 (j101 M22) 101 [(0, .ref (E.2.2.2.1 + v0))] [] M22) (fun M22 => ?_) (fun j101 hj101 => ?_)
        · refine zs_aload_n dX11_isModel_101 rfl 0 rfl ?_
          refine zs_getI dX11_isModel_102 fl_X11_351 rfl (fun y23 => ?_)
          refine zs_iconst (v := 3) dX11_isModel_105 ciconst_3 ?_
          refine zs_jn (fun j120 => zSy E mu_X11_isModel d M (none, x0) x0 (j120) 120 [(0, .ref (E.2.2.2.1 + v0))] [] M22) ?_ (fun j120 hj120 => ?_)
          · refine zs_iconst (v := 0) dX11_isModel_120 ciconst_0 ?_
            exact hj121 0 M22
          refine zs_icmp_ne dX11_isModel_106 rfl ?_ ?_
          · exact hj120
          refine zs_aload_n dX11_isModel_109 rfl 0 rfl ?_
          refine zs_invVPI (rest := []) [] dX11_isModel_110 lk_X11_370 rfl (fun _ h => th_X11_isLessThanAsked h) (zd1 rfl hd) rfl (Nat.le_of_ble_eq_true rfl) (ct_X11_isLessThanAsked E hE _ (zdl rfl hd) _ _) (fun y24 => ?_)
          refine zs_if_eq dX11_isModel_113 rfl ?_ ?_
          · exact hj120
          exact hj116 M22
        refine zs_icmp_ne dX11_isModel_82 rfl ?_ ?_
        · exact hj101 M4
        refine zs_aload_n dX11_isModel_85 rfl 0 rfl ?_
        refine zs_aload_n dX11_isModel_86 rfl 0 rfl ?_
        refine zs_getR dX11_isModel_87 fl_X11_70 rfl (fun y25 => ?_)
        refine zs_aload_n dX11_isModel_90 rfl 0 rfl ?_
        refine zs_getI dX11_isModel_91 fl_X11_345 rfl (fun y26 => ?_)
        refine zs_iconst (v := (-1)) dX11_isModel_94 ciconst_m1 ?_
        refine zs_invVWI (rest := []) [.ref (E.2.2.2.1 + y25), .int y26, .int (-1)] dX11_isModel_95 lk_X11_366 rfl (fun _ h => th_X11_gaps h) (zd1 rfl hd) rfl (Nat.le_of_ble_eq_true rfl) (ct_X11_gaps E hE _ (zdl rfl hd) _ _ _ _ _) (fun y27 M28 => ?_)
        refine zs_if_gt dX11_isModel_98 rfl ?_ ?_
        · exact hj116 M28
        exact hj101 M28
      refine zs_icmp_ne dX11_isModel_67 rfl ?_ ?_
      · exact hj77
      refine zs_aload_n dX11_isModel_70 rfl 0 rfl ?_
      refine zs_invVPI (rest := []) [] dX11_isModel_71 lk_X11_363 rfl (fun _ h => th_X11_areBeside h) (zd1 rfl hd) rfl (Nat.le_of_ble_eq_true rfl) (ct_X11_areBeside E hE _ (zdl rfl hd) _ _) (fun y30 => ?_)
      refine zs_if_ne dX11_isModel_74 rfl ?_ ?_
      · exact hj116 M4
      exact hj77
    refine zs_icmp_ne dX11_isModel_31 rfl ?_ ?_
    · exact hj62 M
    refine zs_iconst (v := 0) dX11_isModel_34 ciconst_0 ?_
    refine zs_istore_n (loc' := [(0, .ref (E.2.2.2.1 + v0)), (1, .int 0)]) dX11_isModel_35 rfl (Nat.le_of_ble_eq_true rfl) [1, 0] rfl ?_
    refine w_X11_isModel_L36 E hE d hd _ _ _ _ (fun M36 => ?_) _ _ _
    exact hj62 M36
  refine zs_icmp_eq dX11_isModel_5 rfl ?_ ?_
  · exact hj23
  refine zs_aload_n dX11_isModel_8 rfl 0 rfl ?_
  refine zs_getI dX11_isModel_9 fl_X11_101 rfl (fun y37 => ?_)
  refine zs_if_le dX11_isModel_12 rfl ?_ ?_
  · exact hj23
  refine zs_aload_n dX11_isModel_15 rfl 0 rfl ?_
  refine zs_invVPI (rest := []) [] dX11_isModel_16 lk_X11_354 rfl (fun _ h => th_X11_isLeast h) (zd1 rfl hd) rfl (Nat.le_of_ble_eq_true rfl) (ct_X11_isLeast E hE _ (zdl rfl hd) _ _) (fun y38 => ?_)
  refine zs_if_ne dX11_isModel_19 rfl ?_ ?_
  · exact hj23
  exact zs_vret dX11_isModel_22 trivial

theorem zLni {μ' : zMu} {n : Nat} (h : (parseMethodDescriptor μ'.2.1.desc).map (fun d => d.parameters.length) = some n) : zLn μ' n := h
theorem tb_1 : ∀ w ∈ tables_1_1, w ∈ lw_tbl := fun w h => List.mem_append_right _ (List.mem_append_left _ h)
theorem ti_1 {w : Cond} (i : Nat) (h : tables_1_1[i]? = some w) (g : zgood w = true) : w ∈ zT := zT_in (tb_1 w (List.mem_of_getElem? h)) g
theorem tb_2 : ∀ w ∈ tables_1_2, w ∈ lw_tbl := fun w h => List.mem_append_right _ (List.mem_append_right _ (List.mem_append_left _ h))
theorem ti_2 {w : Cond} (i : Nat) (h : tables_1_2[i]? = some w) (g : zgood w = true) : w ∈ zT := zT_in (tb_2 w (List.mem_of_getElem? h)) g
theorem tb_3 : ∀ w ∈ tables_1_3, w ∈ lw_tbl := fun w h => List.mem_append_right _ (List.mem_append_right _ (List.mem_append_right _ (List.mem_append_left _ h)))
theorem ti_3 {w : Cond} (i : Nat) (h : tables_1_3[i]? = some w) (g : zgood w = true) : w ∈ zT := zT_in (tb_3 w (List.mem_of_getElem? h)) g
theorem tb_4 : ∀ w ∈ tables_1_4, w ∈ lw_tbl := fun w h => List.mem_append_right _ (List.mem_append_right _ (List.mem_append_right _ (List.mem_append_right _ (List.mem_append_left _ h))))
theorem ti_4 {w : Cond} (i : Nat) (h : tables_1_4[i]? = some w) (g : zgood w = true) : w ∈ zT := zT_in (tb_4 w (List.mem_of_getElem? h)) g
theorem tb_5 : ∀ w ∈ tables_1_5, w ∈ lw_tbl := fun w h => List.mem_append_right _ (List.mem_append_right _ (List.mem_append_right _ (List.mem_append_right _ (List.mem_append_right _ (List.mem_append_left _ h)))))
theorem ti_5 {w : Cond} (i : Nat) (h : tables_1_5[i]? = some w) (g : zgood w = true) : w ∈ zT := zT_in (tb_5 w (List.mem_of_getElem? h)) g
theorem tb_6 : ∀ w ∈ tables_1_6, w ∈ lw_tbl := fun w h => List.mem_append_right _ (List.mem_append_right _ (List.mem_append_right _ (List.mem_append_right _ (List.mem_append_right _ (List.mem_append_right _ (List.mem_append_left _ h))))))
theorem ti_6 {w : Cond} (i : Nat) (h : tables_1_6[i]? = some w) (g : zgood w = true) : w ∈ zT := zT_in (tb_6 w (List.mem_of_getElem? h)) g
theorem tb_7 : ∀ w ∈ tables_1_7, w ∈ lw_tbl := fun w h => List.mem_append_right _ (List.mem_append_right _ (List.mem_append_right _ (List.mem_append_right _ (List.mem_append_right _ (List.mem_append_right _ (List.mem_append_right _ (List.mem_append_left _ h)))))))
theorem ti_7 {w : Cond} (i : Nat) (h : tables_1_7[i]? = some w) (g : zgood w = true) : w ∈ zT := zT_in (tb_7 w (List.mem_of_getElem? h)) g
theorem tb_8 : ∀ w ∈ tables_1_8, w ∈ lw_tbl := fun w h => List.mem_append_right _ (List.mem_append_right _ (List.mem_append_right _ (List.mem_append_right _ (List.mem_append_right _ (List.mem_append_right _ (List.mem_append_right _ (List.mem_append_right _ (h))))))))
theorem ti_8 {w : Cond} (i : Nat) (h : tables_1_8[i]? = some w) (g : zgood w = true) : w ∈ zT := zT_in (tb_8 w (List.mem_of_getElem? h)) g
theorem cbipush_10 : (Int8.ofInt 10).toInt32 = (10 : Int32) := by decide +kernel
theorem cbipush_12 : (Int8.ofInt 12).toInt32 = (12 : Int32) := by decide +kernel
theorem cbipush_122 : (Int8.ofInt 122).toInt32 = (122 : Int32) := by decide +kernel
theorem cbipush_126 : (Int8.ofInt 126).toInt32 = (126 : Int32) := by decide +kernel
theorem cbipush_127 : (Int8.ofInt 127).toInt32 = (127 : Int32) := by decide +kernel
theorem cbipush_14 : (Int8.ofInt 14).toInt32 = (14 : Int32) := by decide +kernel
theorem cbipush_15 : (Int8.ofInt 15).toInt32 = (15 : Int32) := by decide +kernel
theorem cbipush_16 : (Int8.ofInt 16).toInt32 = (16 : Int32) := by decide +kernel
theorem cbipush_20 : (Int8.ofInt 20).toInt32 = (20 : Int32) := by decide +kernel
theorem cbipush_21 : (Int8.ofInt 21).toInt32 = (21 : Int32) := by decide +kernel
theorem cbipush_23 : (Int8.ofInt 23).toInt32 = (23 : Int32) := by decide +kernel
theorem cbipush_24 : (Int8.ofInt 24).toInt32 = (24 : Int32) := by decide +kernel
theorem cbipush_25 : (Int8.ofInt 25).toInt32 = (25 : Int32) := by decide +kernel
theorem cbipush_26 : (Int8.ofInt 26).toInt32 = (26 : Int32) := by decide +kernel
theorem cbipush_31 : (Int8.ofInt 31).toInt32 = (31 : Int32) := by decide +kernel
theorem cbipush_32 : (Int8.ofInt 32).toInt32 = (32 : Int32) := by decide +kernel
theorem cbipush_40 : (Int8.ofInt 40).toInt32 = (40 : Int32) := by decide +kernel
theorem cbipush_48 : (Int8.ofInt 48).toInt32 = (48 : Int32) := by decide +kernel
theorem cbipush_57 : (Int8.ofInt 57).toInt32 = (57 : Int32) := by decide +kernel
theorem cbipush_59 : (Int8.ofInt 59).toInt32 = (59 : Int32) := by decide +kernel
theorem cbipush_6 : (Int8.ofInt 6).toInt32 = (6 : Int32) := by decide +kernel
theorem cbipush_63 : (Int8.ofInt 63).toInt32 = (63 : Int32) := by decide +kernel
theorem cbipush_64 : (Int8.ofInt 64).toInt32 = (64 : Int32) := by decide +kernel
theorem cbipush_7 : (Int8.ofInt 7).toInt32 = (7 : Int32) := by decide +kernel
theorem cbipush_8 : (Int8.ofInt 8).toInt32 = (8 : Int32) := by decide +kernel
theorem cbipush_9 : (Int8.ofInt 9).toInt32 = (9 : Int32) := by decide +kernel
theorem cbipush_96 : (Int8.ofInt 96).toInt32 = (96 : Int32) := by decide +kernel
theorem cbipush_97 : (Int8.ofInt 97).toInt32 = (97 : Int32) := by decide +kernel
theorem cbipush_99 : (Int8.ofInt 99).toInt32 = (99 : Int32) := by decide +kernel
theorem ciconst_0 : Int32.ofInt 0 = (0 : Int32) := by decide +kernel
theorem ciconst_1 : Int32.ofInt 1 = (1 : Int32) := by decide +kernel
theorem ciconst_2 : Int32.ofInt 2 = (2 : Int32) := by decide +kernel
theorem ciconst_3 : Int32.ofInt 3 = (3 : Int32) := by decide +kernel
theorem ciconst_4 : Int32.ofInt 4 = (4 : Int32) := by decide +kernel
theorem ciconst_5 : Int32.ofInt 5 = (5 : Int32) := by decide +kernel
theorem ciconst_m1 : Int32.ofInt (-1) = ((-1) : Int32) := by decide +kernel
theorem csipush_1096 : (Int16.ofInt 1096).toInt32 = (1096 : Int32) := by decide +kernel
theorem csipush_128 : (Int16.ofInt 128).toInt32 = (128 : Int32) := by decide +kernel
theorem csipush_180 : (Int16.ofInt 180).toInt32 = (180 : Int32) := by decide +kernel
theorem csipush_18257 : (Int16.ofInt 18257).toInt32 = (18257 : Int32) := by decide +kernel
theorem csipush_200 : (Int16.ofInt 200).toInt32 = (200 : Int32) := by decide +kernel
theorem csipush_2047 : (Int16.ofInt 2047).toInt32 = (2047 : Int32) := by decide +kernel
theorem csipush_2048 : (Int16.ofInt 2048).toInt32 = (2048 : Int32) := by decide +kernel
theorem csipush_2187 : (Int16.ofInt 2187).toInt32 = (2187 : Int32) := by decide +kernel
theorem csipush_255 : (Int16.ofInt 255).toInt32 = (255 : Int32) := by decide +kernel
theorem csipush_256 : (Int16.ofInt 256).toInt32 = (256 : Int32) := by decide +kernel
theorem csipush_4093 : (Int16.ofInt 4093).toInt32 = (4093 : Int32) := by decide +kernel
theorem csipush_9999 : (Int16.ofInt 9999).toInt32 = (9999 : Int32) := by decide +kernel
set_option maxHeartbeats 4000000 in
set_option maxRecDepth 100000 in
theorem uw_X0 : ∀ w ∈ u_ws RX0 TX0 5, w ∈ zT := by
  show ∀ w ∈ [u_lay RX0 TX0 0, u_lay RX0 TX0 1, u_lay RX0 TX0 2, u_lay RX0 TX0 3, u_lay RX0 TX0 4], w ∈ zT
  exact List.forall_mem_cons.mpr ⟨ti_1 221 rfl rfl, List.forall_mem_cons.mpr ⟨ti_1 223 rfl rfl, List.forall_mem_cons.mpr ⟨ti_1 225 rfl rfl, List.forall_mem_cons.mpr ⟨ti_1 227 rfl rfl, List.forall_mem_cons.mpr ⟨ti_1 229 rfl rfl, (fun _ h => absurd h List.not_mem_nil)⟩⟩⟩⟩⟩
theorem ft_X0 : zFT RX0 TX0 5 tyX0 := ⟨tyX0_ok, nmX0⟩
theorem no_X0 : zNO 0 RX0 TX0 5 tyX0 := ⟨rfl, by decide, uw_X0, tyX0_ok, rfl, by decide +kernel, ti_1 208 rfl rfl, ti_1 10 rfl rfl⟩
set_option maxHeartbeats 4000000 in
set_option maxRecDepth 100000 in
theorem uw_X1 : ∀ w ∈ u_ws RX1 TX1 10, w ∈ zT := by
  show ∀ w ∈ [u_lay RX1 TX1 0, u_lay RX1 TX1 1, u_lay RX1 TX1 2, u_lay RX1 TX1 3, u_lay RX1 TX1 4, u_lay RX1 TX1 5, u_lay RX1 TX1 6, u_lay RX1 TX1 7, u_lay RX1 TX1 8, u_lay RX1 TX1 9], w ∈ zT
  exact List.forall_mem_cons.mpr ⟨ti_1 159 rfl rfl, List.forall_mem_cons.mpr ⟨ti_1 161 rfl rfl, List.forall_mem_cons.mpr ⟨ti_1 163 rfl rfl, List.forall_mem_cons.mpr ⟨ti_1 165 rfl rfl, List.forall_mem_cons.mpr ⟨ti_1 167 rfl rfl, List.forall_mem_cons.mpr ⟨ti_1 169 rfl rfl, List.forall_mem_cons.mpr ⟨ti_1 171 rfl rfl, List.forall_mem_cons.mpr ⟨ti_1 173 rfl rfl, List.forall_mem_cons.mpr ⟨ti_1 175 rfl rfl, List.forall_mem_cons.mpr ⟨ti_1 177 rfl rfl, (fun _ h => absurd h List.not_mem_nil)⟩⟩⟩⟩⟩⟩⟩⟩⟩⟩
theorem ft_X1 : zFT RX1 TX1 10 tyX1 := ⟨tyX1_ok, nmX1⟩
theorem no_X1 : zNO 1 RX1 TX1 10 tyX1 := ⟨rfl, by decide, uw_X1, tyX1_ok, rfl, by decide +kernel, ti_1 143 rfl rfl, ti_1 8 rfl rfl⟩
set_option maxHeartbeats 4000000 in
set_option maxRecDepth 100000 in
theorem uw_X3 : ∀ w ∈ u_ws RX3 TX3 5, w ∈ zT := by
  show ∀ w ∈ [u_lay RX3 TX3 0, u_lay RX3 TX3 1, u_lay RX3 TX3 2, u_lay RX3 TX3 3, u_lay RX3 TX3 4], w ∈ zT
  exact List.forall_mem_cons.mpr ⟨ti_1 131 rfl rfl, List.forall_mem_cons.mpr ⟨ti_1 133 rfl rfl, List.forall_mem_cons.mpr ⟨ti_1 135 rfl rfl, List.forall_mem_cons.mpr ⟨ti_1 137 rfl rfl, List.forall_mem_cons.mpr ⟨ti_1 139 rfl rfl, (fun _ h => absurd h List.not_mem_nil)⟩⟩⟩⟩⟩
theorem ft_X3 : zFT RX3 TX3 5 tyX3 := ⟨tyX3_ok, nmX3⟩
theorem no_X3 : zNO 2 RX3 TX3 5 tyX3 := ⟨rfl, by decide, uw_X3, tyX3_ok, rfl, by decide +kernel, ti_1 118 rfl rfl, ti_1 7 rfl rfl⟩
set_option maxHeartbeats 4000000 in
set_option maxRecDepth 100000 in
theorem uw_X4 : ∀ w ∈ u_ws RX4 TX4 10, w ∈ zT := by
  show ∀ w ∈ [u_lay RX4 TX4 0, u_lay RX4 TX4 1, u_lay RX4 TX4 2, u_lay RX4 TX4 3, u_lay RX4 TX4 4, u_lay RX4 TX4 5, u_lay RX4 TX4 6, u_lay RX4 TX4 7, u_lay RX4 TX4 8, u_lay RX4 TX4 9], w ∈ zT
  exact List.forall_mem_cons.mpr ⟨ti_1 65 rfl rfl, List.forall_mem_cons.mpr ⟨ti_1 67 rfl rfl, List.forall_mem_cons.mpr ⟨ti_1 69 rfl rfl, List.forall_mem_cons.mpr ⟨ti_1 71 rfl rfl, List.forall_mem_cons.mpr ⟨ti_1 73 rfl rfl, List.forall_mem_cons.mpr ⟨ti_1 75 rfl rfl, List.forall_mem_cons.mpr ⟨ti_1 77 rfl rfl, List.forall_mem_cons.mpr ⟨ti_1 79 rfl rfl, List.forall_mem_cons.mpr ⟨ti_1 81 rfl rfl, List.forall_mem_cons.mpr ⟨ti_1 83 rfl rfl, (fun _ h => absurd h List.not_mem_nil)⟩⟩⟩⟩⟩⟩⟩⟩⟩⟩
theorem ft_X4 : zFT RX4 TX4 10 tyX4 := ⟨tyX4_ok, nmX4⟩
theorem no_X4 : zNO 3 RX4 TX4 10 tyX4 := ⟨rfl, by decide, uw_X4, tyX4_ok, rfl, by decide +kernel, ti_1 46 rfl rfl, ti_1 3 rfl rfl⟩
set_option maxHeartbeats 4000000 in
set_option maxRecDepth 100000 in
theorem uw_X6 : ∀ w ∈ u_ws RX6 TX6 2, w ∈ zT := by
  show ∀ w ∈ [u_lay RX6 TX6 0, u_lay RX6 TX6 1], w ∈ zT
  exact List.forall_mem_cons.mpr ⟨ti_1 112 rfl rfl, List.forall_mem_cons.mpr ⟨ti_1 114 rfl rfl, (fun _ h => absurd h List.not_mem_nil)⟩⟩
theorem ft_X6 : zFT RX6 TX6 2 tyX6 := ⟨tyX6_ok, nmX6⟩
theorem no_X6 : zNO 4 RX6 TX6 2 tyX6 := ⟨rfl, by decide, uw_X6, tyX6_ok, rfl, by decide +kernel, ti_1 104 rfl rfl, ti_1 6 rfl rfl⟩
set_option maxHeartbeats 4000000 in
set_option maxRecDepth 100000 in
theorem uw_X7 : ∀ w ∈ u_ws RX7 TX7 2, w ∈ zT := by
  show ∀ w ∈ [u_lay RX7 TX7 0, u_lay RX7 TX7 1], w ∈ zT
  exact List.forall_mem_cons.mpr ⟨ti_1 39 rfl rfl, List.forall_mem_cons.mpr ⟨ti_1 41 rfl rfl, (fun _ h => absurd h List.not_mem_nil)⟩⟩
theorem ft_X7 : zFT RX7 TX7 2 tyX7 := ⟨tyX7_ok, nmX7⟩
theorem no_X7 : zNO 5 RX7 TX7 2 tyX7 := ⟨rfl, by decide, uw_X7, tyX7_ok, rfl, by decide +kernel, ti_1 30 rfl rfl, ti_1 2 rfl rfl⟩
set_option maxHeartbeats 4000000 in
set_option maxRecDepth 100000 in
theorem uw_X8 : ∀ w ∈ u_ws RX8 TX8 6, w ∈ zT := by
  show ∀ w ∈ [u_lay RX8 TX8 0, u_lay RX8 TX8 1, u_lay RX8 TX8 2, u_lay RX8 TX8 3, u_lay RX8 TX8 4, u_lay RX8 TX8 5], w ∈ zT
  exact List.forall_mem_cons.mpr ⟨ti_1 194 rfl rfl, List.forall_mem_cons.mpr ⟨ti_1 196 rfl rfl, List.forall_mem_cons.mpr ⟨ti_1 198 rfl rfl, List.forall_mem_cons.mpr ⟨ti_1 200 rfl rfl, List.forall_mem_cons.mpr ⟨ti_1 202 rfl rfl, List.forall_mem_cons.mpr ⟨ti_1 204 rfl rfl, (fun _ h => absurd h List.not_mem_nil)⟩⟩⟩⟩⟩⟩
theorem ft_X8 : zFT RX8 TX8 6 tyX8 := ⟨tyX8_ok, nmX8⟩
theorem no_X8 : zNO 6 RX8 TX8 6 tyX8 := ⟨rfl, by decide, uw_X8, tyX8_ok, rfl, by decide +kernel, ti_1 182 rfl rfl, ti_1 9 rfl rfl⟩
set_option maxHeartbeats 4000000 in
set_option maxRecDepth 100000 in
theorem uw_X9 : ∀ w ∈ u_ws RX9 TX9 2, w ∈ zT := by
  show ∀ w ∈ [u_lay RX9 TX9 0, u_lay RX9 TX9 1], w ∈ zT
  exact List.forall_mem_cons.mpr ⟨ti_1 95 rfl rfl, List.forall_mem_cons.mpr ⟨ti_1 97 rfl rfl, (fun _ h => absurd h List.not_mem_nil)⟩⟩
theorem ft_X9 : zFT RX9 TX9 2 tyX9 := ⟨tyX9_ok, nmX9⟩
theorem no_X9 : zNO 7 RX9 TX9 2 tyX9 := ⟨rfl, by decide, uw_X9, tyX9_ok, rfl, by decide +kernel, ti_1 87 rfl rfl, ti_1 4 rfl rfl⟩
set_option maxHeartbeats 4000000 in
set_option maxRecDepth 100000 in
theorem uw_X10 : ∀ w ∈ u_ws RX10 TX10 17, w ∈ zT := by
  show ∀ w ∈ [u_lay RX10 TX10 0, u_lay RX10 TX10 1, u_lay RX10 TX10 2, u_lay RX10 TX10 3, u_lay RX10 TX10 4, u_lay RX10 TX10 5, u_lay RX10 TX10 6, u_lay RX10 TX10 7, u_lay RX10 TX10 8, u_lay RX10 TX10 9, u_lay RX10 TX10 10, u_lay RX10 TX10 11, u_lay RX10 TX10 12, u_lay RX10 TX10 13, u_lay RX10 TX10 14, u_lay RX10 TX10 15, u_lay RX10 TX10 16], w ∈ zT
  exact List.forall_mem_cons.mpr ⟨ti_2 9 rfl rfl, List.forall_mem_cons.mpr ⟨ti_2 11 rfl rfl, List.forall_mem_cons.mpr ⟨ti_2 13 rfl rfl, List.forall_mem_cons.mpr ⟨ti_2 15 rfl rfl, List.forall_mem_cons.mpr ⟨ti_2 17 rfl rfl, List.forall_mem_cons.mpr ⟨ti_2 19 rfl rfl, List.forall_mem_cons.mpr ⟨ti_2 21 rfl rfl, List.forall_mem_cons.mpr ⟨ti_2 23 rfl rfl, List.forall_mem_cons.mpr ⟨ti_2 25 rfl rfl, List.forall_mem_cons.mpr ⟨ti_2 27 rfl rfl, List.forall_mem_cons.mpr ⟨ti_2 29 rfl rfl, List.forall_mem_cons.mpr ⟨ti_2 31 rfl rfl, List.forall_mem_cons.mpr ⟨ti_2 33 rfl rfl, List.forall_mem_cons.mpr ⟨ti_2 35 rfl rfl, List.forall_mem_cons.mpr ⟨ti_2 37 rfl rfl, List.forall_mem_cons.mpr ⟨ti_2 39 rfl rfl, List.forall_mem_cons.mpr ⟨ti_2 41 rfl rfl, (fun _ h => absurd h List.not_mem_nil)⟩⟩⟩⟩⟩⟩⟩⟩⟩⟩⟩⟩⟩⟩⟩⟩⟩
theorem ft_X10 : zFT RX10 TX10 17 tyX10 := ⟨tyX10_ok, nmX10⟩
theorem no_X10 : zNO 8 RX10 TX10 17 tyX10 := ⟨rfl, by decide, uw_X10, tyX10_ok, rfl, by decide +kernel, ti_1 22 rfl rfl, ti_1 1 rfl rfl⟩
set_option maxHeartbeats 4000000 in
set_option maxRecDepth 100000 in
theorem uw_X11 : ∀ w ∈ u_ws RX11 TX11 52, w ∈ zT := by
  show ∀ w ∈ [u_lay RX11 TX11 0, u_lay RX11 TX11 1, u_lay RX11 TX11 2, u_lay RX11 TX11 3, u_lay RX11 TX11 4, u_lay RX11 TX11 5, u_lay RX11 TX11 6, u_lay RX11 TX11 7, u_lay RX11 TX11 8, u_lay RX11 TX11 9, u_lay RX11 TX11 10, u_lay RX11 TX11 11, u_lay RX11 TX11 12, u_lay RX11 TX11 13, u_lay RX11 TX11 14, u_lay RX11 TX11 15, u_lay RX11 TX11 16, u_lay RX11 TX11 17, u_lay RX11 TX11 18, u_lay RX11 TX11 19, u_lay RX11 TX11 20, u_lay RX11 TX11 21, u_lay RX11 TX11 22, u_lay RX11 TX11 23, u_lay RX11 TX11 24, u_lay RX11 TX11 25, u_lay RX11 TX11 26, u_lay RX11 TX11 27, u_lay RX11 TX11 28, u_lay RX11 TX11 29, u_lay RX11 TX11 30, u_lay RX11 TX11 31, u_lay RX11 TX11 32, u_lay RX11 TX11 33, u_lay RX11 TX11 34, u_lay RX11 TX11 35, u_lay RX11 TX11 36, u_lay RX11 TX11 37, u_lay RX11 TX11 38, u_lay RX11 TX11 39, u_lay RX11 TX11 40, u_lay RX11 TX11 41, u_lay RX11 TX11 42, u_lay RX11 TX11 43, u_lay RX11 TX11 44, u_lay RX11 TX11 45, u_lay RX11 TX11 46, u_lay RX11 TX11 47, u_lay RX11 TX11 48, u_lay RX11 TX11 49, u_lay RX11 TX11 50, u_lay RX11 TX11 51], w ∈ zT
  exact List.forall_mem_cons.mpr ⟨ti_5 150 rfl rfl, List.forall_mem_cons.mpr ⟨ti_5 152 rfl rfl, List.forall_mem_cons.mpr ⟨ti_5 154 rfl rfl, List.forall_mem_cons.mpr ⟨ti_5 156 rfl rfl, List.forall_mem_cons.mpr ⟨ti_5 158 rfl rfl, List.forall_mem_cons.mpr ⟨ti_5 160 rfl rfl, List.forall_mem_cons.mpr ⟨ti_5 162 rfl rfl, List.forall_mem_cons.mpr ⟨ti_5 164 rfl rfl, List.forall_mem_cons.mpr ⟨ti_5 166 rfl rfl, List.forall_mem_cons.mpr ⟨ti_5 168 rfl rfl, List.forall_mem_cons.mpr ⟨ti_5 170 rfl rfl, List.forall_mem_cons.mpr ⟨ti_5 172 rfl rfl, List.forall_mem_cons.mpr ⟨ti_5 174 rfl rfl, List.forall_mem_cons.mpr ⟨ti_5 176 rfl rfl, List.forall_mem_cons.mpr ⟨ti_5 178 rfl rfl, List.forall_mem_cons.mpr ⟨ti_5 180 rfl rfl, List.forall_mem_cons.mpr ⟨ti_5 182 rfl rfl, List.forall_mem_cons.mpr ⟨ti_5 184 rfl rfl, List.forall_mem_cons.mpr ⟨ti_5 186 rfl rfl, List.forall_mem_cons.mpr ⟨ti_5 188 rfl rfl, List.forall_mem_cons.mpr ⟨ti_5 190 rfl rfl, List.forall_mem_cons.mpr ⟨ti_5 192 rfl rfl, List.forall_mem_cons.mpr ⟨ti_5 194 rfl rfl, List.forall_mem_cons.mpr ⟨ti_5 196 rfl rfl, List.forall_mem_cons.mpr ⟨ti_5 198 rfl rfl, List.forall_mem_cons.mpr ⟨ti_5 200 rfl rfl, List.forall_mem_cons.mpr ⟨ti_5 202 rfl rfl, List.forall_mem_cons.mpr ⟨ti_5 204 rfl rfl, List.forall_mem_cons.mpr ⟨ti_5 206 rfl rfl, List.forall_mem_cons.mpr ⟨ti_5 208 rfl rfl, List.forall_mem_cons.mpr ⟨ti_5 210 rfl rfl, List.forall_mem_cons.mpr ⟨ti_5 212 rfl rfl, List.forall_mem_cons.mpr ⟨ti_5 214 rfl rfl, List.forall_mem_cons.mpr ⟨ti_5 216 rfl rfl, List.forall_mem_cons.mpr ⟨ti_5 218 rfl rfl, List.forall_mem_cons.mpr ⟨ti_5 220 rfl rfl, List.forall_mem_cons.mpr ⟨ti_5 222 rfl rfl, List.forall_mem_cons.mpr ⟨ti_5 224 rfl rfl, List.forall_mem_cons.mpr ⟨ti_5 226 rfl rfl, List.forall_mem_cons.mpr ⟨ti_5 228 rfl rfl, List.forall_mem_cons.mpr ⟨ti_5 230 rfl rfl, List.forall_mem_cons.mpr ⟨ti_5 232 rfl rfl, List.forall_mem_cons.mpr ⟨ti_5 234 rfl rfl, List.forall_mem_cons.mpr ⟨ti_5 236 rfl rfl, List.forall_mem_cons.mpr ⟨ti_5 238 rfl rfl, List.forall_mem_cons.mpr ⟨ti_6 0 rfl rfl, List.forall_mem_cons.mpr ⟨ti_6 2 rfl rfl, List.forall_mem_cons.mpr ⟨ti_6 4 rfl rfl, List.forall_mem_cons.mpr ⟨ti_6 6 rfl rfl, List.forall_mem_cons.mpr ⟨ti_6 8 rfl rfl, List.forall_mem_cons.mpr ⟨ti_6 10 rfl rfl, List.forall_mem_cons.mpr ⟨ti_6 12 rfl rfl, (fun _ h => absurd h List.not_mem_nil)⟩⟩⟩⟩⟩⟩⟩⟩⟩⟩⟩⟩⟩⟩⟩⟩⟩⟩⟩⟩⟩⟩⟩⟩⟩⟩⟩⟩⟩⟩⟩⟩⟩⟩⟩⟩⟩⟩⟩⟩⟩⟩⟩⟩⟩⟩⟩⟩⟩⟩⟩⟩
theorem ft_X11 : zFT RX11 TX11 52 tyX11 := ⟨tyX11_ok, nmX11⟩
theorem no_X11 : zNO 9 RX11 TX11 52 tyX11 := ⟨rfl, by decide, uw_X11, tyX11_ok, rfl, by decide +kernel, ti_5 93 rfl rfl, ti_1 11 rfl rfl⟩
theorem fl_X0_9 : zFL RX0 9 0 4 RX0 TX0 5 := ⟨rfl, by decide, by decide, rfl, ti_1 220 rfl rfl, uw_X0⟩
theorem fl_X0_15 : zFL RX0 15 0 3 RX0 TX0 5 := ⟨rfl, by decide, by decide, rfl, ti_1 219 rfl rfl, uw_X0⟩
theorem fl_X0_36 : zFL RX0 36 0 0 RX0 TX0 5 := ⟨rfl, by decide, by decide, rfl, ti_1 213 rfl rfl, uw_X0⟩
theorem fl_X0_39 : zFL RX0 39 0 1 RX0 TX0 5 := ⟨rfl, by decide, by decide, rfl, ti_1 215 rfl rfl, uw_X0⟩
theorem fl_X0_42 : zFL RX0 42 0 2 RX0 TX0 5 := ⟨rfl, by decide, by decide, rfl, ti_1 217 rfl rfl, uw_X0⟩
theorem fl_X1_11 : zFL RX1 11 1 1 RX1 TX1 10 := ⟨rfl, by decide, by decide, rfl, ti_1 150 rfl rfl, uw_X1⟩
theorem fl_X1_15 : zFL RX1 15 1 2 RX1 TX1 10 := ⟨rfl, by decide, by decide, rfl, ti_1 151 rfl rfl, uw_X1⟩
theorem fl_X1_19 : zFL RX1 19 1 6 RX1 TX1 10 := ⟨rfl, by decide, by decide, rfl, ti_1 155 rfl rfl, uw_X1⟩
theorem fl_X1_23 : zFL RX1 23 1 7 RX1 TX1 10 := ⟨rfl, by decide, by decide, rfl, ti_1 156 rfl rfl, uw_X1⟩
theorem fl_X1_26 : zFL RX1 26 1 8 RX1 TX1 10 := ⟨rfl, by decide, by decide, rfl, ti_1 157 rfl rfl, uw_X1⟩
theorem fl_X1_29 : zFL RX1 29 1 3 RX1 TX1 10 := ⟨rfl, by decide, by decide, rfl, ti_1 152 rfl rfl, uw_X1⟩
theorem fl_X1_32 : zFL RX1 32 1 5 RX1 TX1 10 := ⟨rfl, by decide, by decide, rfl, ti_1 154 rfl rfl, uw_X1⟩
theorem fl_X1_35 : zFL RX1 35 1 4 RX1 TX1 10 := ⟨rfl, by decide, by decide, rfl, ti_1 153 rfl rfl, uw_X1⟩
theorem fl_X1_38 : zFL RX1 38 1 0 RX1 TX1 10 := ⟨rfl, by decide, by decide, rfl, ti_1 148 rfl rfl, uw_X1⟩
theorem fl_X1_112 : zFL RX1 112 1 9 RX1 TX1 10 := ⟨rfl, by decide, by decide, rfl, ti_1 158 rfl rfl, uw_X1⟩
theorem fl_X10_10 : zFL RX10 10 8 4 RX10 TX10 17 := ⟨rfl, by decide, by decide, rfl, ti_1 236 rfl rfl, uw_X10⟩
theorem fl_X10_19 : zFL RX10 19 8 5 RX10 TX10 17 := ⟨rfl, by decide, by decide, rfl, ti_1 237 rfl rfl, uw_X10⟩
theorem fl_X10_26 : zFL RX10 26 8 6 RX10 TX10 17 := ⟨rfl, by decide, by decide, rfl, ti_1 238 rfl rfl, uw_X10⟩
theorem fl_X10_30 : zFL RX10 30 8 7 RX10 TX10 17 := ⟨rfl, by decide, by decide, rfl, ti_1 239 rfl rfl, uw_X10⟩
theorem fl_X10_43 : zFL RX10 43 8 8 RX10 TX10 17 := ⟨rfl, by decide, by decide, rfl, ti_2 0 rfl rfl, uw_X10⟩
theorem fl_X10_50 : zFL RX10 50 8 9 RX10 TX10 17 := ⟨rfl, by decide, by decide, rfl, ti_2 1 rfl rfl, uw_X10⟩
theorem fl_X10_57 : zFL RX10 57 8 10 RX10 TX10 17 := ⟨rfl, by decide, by decide, rfl, ti_2 2 rfl rfl, uw_X10⟩
theorem fl_X10_61 : zFL RX10 61 8 11 RX10 TX10 17 := ⟨rfl, by decide, by decide, rfl, ti_2 3 rfl rfl, uw_X10⟩
theorem fl_X10_64 : zFL RX10 64 8 12 RX10 TX10 17 := ⟨rfl, by decide, by decide, rfl, ti_2 4 rfl rfl, uw_X10⟩
theorem fl_X10_70 : zFL RX10 70 8 13 RX10 TX10 17 := ⟨rfl, by decide, by decide, rfl, ti_2 5 rfl rfl, uw_X10⟩
theorem fl_X10_77 : zFL RX10 77 8 14 RX10 TX10 17 := ⟨rfl, by decide, by decide, rfl, ti_2 6 rfl rfl, uw_X10⟩
theorem fl_X10_81 : zFL RX10 81 8 15 RX10 TX10 17 := ⟨rfl, by decide, by decide, rfl, ti_2 7 rfl rfl, uw_X10⟩
theorem fl_X10_84 : zFL RX10 84 8 16 RX10 TX10 17 := ⟨rfl, by decide, by decide, rfl, ti_2 8 rfl rfl, uw_X10⟩
theorem fl_X10_87 : zFL RX10 87 8 0 RX10 TX10 17 := ⟨rfl, by decide, by decide, rfl, ti_1 232 rfl rfl, uw_X10⟩
theorem fl_X10_91 : zFL RX10 91 5 1 RX7 TX7 2 := ⟨rfl, by decide, by decide, rfl, ti_1 38 rfl rfl, uw_X7⟩
theorem fl_X10_106 : zFL RX10 106 5 0 RX7 TX7 2 := ⟨rfl, by decide, by decide, rfl, ti_1 36 rfl rfl, uw_X7⟩
theorem fl_X10_112 : zFL RX10 112 8 3 RX10 TX10 17 := ⟨rfl, by decide, by decide, rfl, ti_1 235 rfl rfl, uw_X10⟩
theorem fl_X10_116 : zFL RX10 116 3 2 RX4 TX4 10 := ⟨rfl, by decide, by decide, rfl, ti_1 56 rfl rfl, uw_X4⟩
theorem fl_X10_119 : zFL RX10 119 3 0 RX4 TX4 10 := ⟨rfl, by decide, by decide, rfl, ti_1 52 rfl rfl, uw_X4⟩
theorem fl_X10_122 : zFL RX10 122 3 1 RX4 TX4 10 := ⟨rfl, by decide, by decide, rfl, ti_1 54 rfl rfl, uw_X4⟩
theorem fl_X10_129 : zFL RX10 129 8 1 RX10 TX10 17 := ⟨rfl, by decide, by decide, rfl, ti_1 233 rfl rfl, uw_X10⟩
theorem fl_X10_133 : zFL RX10 133 3 3 RX4 TX4 10 := ⟨rfl, by decide, by decide, rfl, ti_1 58 rfl rfl, uw_X4⟩
theorem fl_X10_136 : zFL RX10 136 8 2 RX10 TX10 17 := ⟨rfl, by decide, by decide, rfl, ti_1 234 rfl rfl, uw_X10⟩
theorem fl_X10_148 : zFL RX10 148 7 1 RX9 TX9 2 := ⟨rfl, by decide, by decide, rfl, ti_1 94 rfl rfl, uw_X9⟩
theorem fl_X10_154 : zFL RX10 154 4 1 RX6 TX6 2 := ⟨rfl, by decide, by decide, rfl, ti_1 111 rfl rfl, uw_X6⟩
theorem fl_X10_156 : zFL RX10 156 2 3 RX3 TX3 5 := ⟨rfl, by decide, by decide, rfl, ti_1 129 rfl rfl, uw_X3⟩
theorem fl_X10_161 : zFL RX10 161 1 0 RX1 TX1 10 := ⟨rfl, by decide, by decide, rfl, ti_1 149 rfl rfl, uw_X1⟩
theorem fl_X10_163 : zFL RX10 163 6 0 RX8 TX8 6 := ⟨rfl, by decide, by decide, rfl, ti_1 188 rfl rfl, uw_X8⟩
theorem fl_X10_372 : zFL RX10 372 0 0 RX0 TX0 5 := ⟨rfl, by decide, by decide, rfl, ti_1 214 rfl rfl, uw_X0⟩
theorem fl_X10_375 : zFL RX10 375 0 1 RX0 TX0 5 := ⟨rfl, by decide, by decide, rfl, ti_1 216 rfl rfl, uw_X0⟩
theorem fl_X10_378 : zFL RX10 378 0 2 RX0 TX0 5 := ⟨rfl, by decide, by decide, rfl, ti_1 218 rfl rfl, uw_X0⟩
theorem fl_X11_7 : zFL RX11 7 9 2 RX11 TX11 52 := ⟨rfl, by decide, by decide, rfl, ti_5 100 rfl rfl, uw_X11⟩
theorem fl_X11_13 : zFL RX11 13 9 3 RX11 TX11 52 := ⟨rfl, by decide, by decide, rfl, ti_5 101 rfl rfl, uw_X11⟩
theorem fl_X11_17 : zFL RX11 17 9 4 RX11 TX11 52 := ⟨rfl, by decide, by decide, rfl, ti_5 102 rfl rfl, uw_X11⟩
theorem fl_X11_20 : zFL RX11 20 9 11 RX11 TX11 52 := ⟨rfl, by decide, by decide, rfl, ti_5 109 rfl rfl, uw_X11⟩
theorem fl_X11_24 : zFL RX11 24 9 12 RX11 TX11 52 := ⟨rfl, by decide, by decide, rfl, ti_5 110 rfl rfl, uw_X11⟩
theorem fl_X11_27 : zFL RX11 27 9 13 RX11 TX11 52 := ⟨rfl, by decide, by decide, rfl, ti_5 111 rfl rfl, uw_X11⟩
theorem fl_X11_30 : zFL RX11 30 9 14 RX11 TX11 52 := ⟨rfl, by decide, by decide, rfl, ti_5 112 rfl rfl, uw_X11⟩
theorem fl_X11_33 : zFL RX11 33 9 15 RX11 TX11 52 := ⟨rfl, by decide, by decide, rfl, ti_5 113 rfl rfl, uw_X11⟩
theorem fl_X11_36 : zFL RX11 36 9 16 RX11 TX11 52 := ⟨rfl, by decide, by decide, rfl, ti_5 114 rfl rfl, uw_X11⟩
theorem fl_X11_39 : zFL RX11 39 9 17 RX11 TX11 52 := ⟨rfl, by decide, by decide, rfl, ti_5 115 rfl rfl, uw_X11⟩
theorem fl_X11_42 : zFL RX11 42 9 18 RX11 TX11 52 := ⟨rfl, by decide, by decide, rfl, ti_5 116 rfl rfl, uw_X11⟩
theorem fl_X11_45 : zFL RX11 45 9 19 RX11 TX11 52 := ⟨rfl, by decide, by decide, rfl, ti_5 117 rfl rfl, uw_X11⟩
theorem fl_X11_49 : zFL RX11 49 9 21 RX11 TX11 52 := ⟨rfl, by decide, by decide, rfl, ti_5 119 rfl rfl, uw_X11⟩
theorem fl_X11_52 : zFL RX11 52 9 23 RX11 TX11 52 := ⟨rfl, by decide, by decide, rfl, ti_5 121 rfl rfl, uw_X11⟩
theorem fl_X11_55 : zFL RX11 55 9 24 RX11 TX11 52 := ⟨rfl, by decide, by decide, rfl, ti_5 122 rfl rfl, uw_X11⟩
theorem fl_X11_58 : zFL RX11 58 9 25 RX11 TX11 52 := ⟨rfl, by decide, by decide, rfl, ti_5 123 rfl rfl, uw_X11⟩
theorem fl_X11_61 : zFL RX11 61 9 26 RX11 TX11 52 := ⟨rfl, by decide, by decide, rfl, ti_5 124 rfl rfl, uw_X11⟩
theorem fl_X11_64 : zFL RX11 64 9 27 RX11 TX11 52 := ⟨rfl, by decide, by decide, rfl, ti_5 125 rfl rfl, uw_X11⟩
theorem fl_X11_67 : zFL RX11 67 9 30 RX11 TX11 52 := ⟨rfl, by decide, by decide, rfl, ti_5 128 rfl rfl, uw_X11⟩
theorem fl_X11_70 : zFL RX11 70 9 31 RX11 TX11 52 := ⟨rfl, by decide, by decide, rfl, ti_5 129 rfl rfl, uw_X11⟩
theorem fl_X11_73 : zFL RX11 73 9 32 RX11 TX11 52 := ⟨rfl, by decide, by decide, rfl, ti_5 130 rfl rfl, uw_X11⟩
theorem fl_X11_76 : zFL RX11 76 9 33 RX11 TX11 52 := ⟨rfl, by decide, by decide, rfl, ti_5 131 rfl rfl, uw_X11⟩
theorem fl_X11_79 : zFL RX11 79 9 34 RX11 TX11 52 := ⟨rfl, by decide, by decide, rfl, ti_5 132 rfl rfl, uw_X11⟩
theorem fl_X11_82 : zFL RX11 82 9 35 RX11 TX11 52 := ⟨rfl, by decide, by decide, rfl, ti_5 133 rfl rfl, uw_X11⟩
theorem fl_X11_85 : zFL RX11 85 9 45 RX11 TX11 52 := ⟨rfl, by decide, by decide, rfl, ti_5 143 rfl rfl, uw_X11⟩
theorem fl_X11_88 : zFL RX11 88 9 47 RX11 TX11 52 := ⟨rfl, by decide, by decide, rfl, ti_5 145 rfl rfl, uw_X11⟩
theorem fl_X11_91 : zFL RX11 91 9 48 RX11 TX11 52 := ⟨rfl, by decide, by decide, rfl, ti_5 146 rfl rfl, uw_X11⟩
theorem fl_X11_94 : zFL RX11 94 9 1 RX11 TX11 52 := ⟨rfl, by decide, by decide, rfl, ti_5 99 rfl rfl, uw_X11⟩
theorem fl_X11_101 : zFL RX11 101 9 0 RX11 TX11 52 := ⟨rfl, by decide, by decide, rfl, ti_5 98 rfl rfl, uw_X11⟩
theorem fl_X11_135 : zFL RX11 135 9 5 RX11 TX11 52 := ⟨rfl, by decide, by decide, rfl, ti_5 103 rfl rfl, uw_X11⟩
theorem fl_X11_141 : zFL RX11 141 9 6 RX11 TX11 52 := ⟨rfl, by decide, by decide, rfl, ti_5 104 rfl rfl, uw_X11⟩
theorem fl_X11_144 : zFL RX11 144 9 9 RX11 TX11 52 := ⟨rfl, by decide, by decide, rfl, ti_5 107 rfl rfl, uw_X11⟩
theorem fl_X11_150 : zFL RX11 150 9 8 RX11 TX11 52 := ⟨rfl, by decide, by decide, rfl, ti_5 106 rfl rfl, uw_X11⟩
theorem fl_X11_153 : zFL RX11 153 9 7 RX11 TX11 52 := ⟨rfl, by decide, by decide, rfl, ti_5 105 rfl rfl, uw_X11⟩
theorem fl_X11_174 : zFL RX11 174 9 10 RX11 TX11 52 := ⟨rfl, by decide, by decide, rfl, ti_5 108 rfl rfl, uw_X11⟩
theorem fl_X11_245 : zFL RX11 245 9 20 RX11 TX11 52 := ⟨rfl, by decide, by decide, rfl, ti_5 118 rfl rfl, uw_X11⟩
theorem fl_X11_260 : zFL RX11 260 9 28 RX11 TX11 52 := ⟨rfl, by decide, by decide, rfl, ti_5 126 rfl rfl, uw_X11⟩
theorem fl_X11_294 : zFL RX11 294 9 22 RX11 TX11 52 := ⟨rfl, by decide, by decide, rfl, ti_5 120 rfl rfl, uw_X11⟩
theorem fl_X11_309 : zFL RX11 309 9 29 RX11 TX11 52 := ⟨rfl, by decide, by decide, rfl, ti_5 127 rfl rfl, uw_X11⟩
theorem fl_X11_345 : zFL RX11 345 9 40 RX11 TX11 52 := ⟨rfl, by decide, by decide, rfl, ti_5 138 rfl rfl, uw_X11⟩
theorem fl_X11_348 : zFL RX11 348 9 41 RX11 TX11 52 := ⟨rfl, by decide, by decide, rfl, ti_5 139 rfl rfl, uw_X11⟩
theorem fl_X11_351 : zFL RX11 351 9 39 RX11 TX11 52 := ⟨rfl, by decide, by decide, rfl, ti_5 137 rfl rfl, uw_X11⟩
theorem fl_X11_357 : zFL RX11 357 9 36 RX11 TX11 52 := ⟨rfl, by decide, by decide, rfl, ti_5 134 rfl rfl, uw_X11⟩
theorem fl_X11_360 : zFL RX11 360 9 37 RX11 TX11 52 := ⟨rfl, by decide, by decide, rfl, ti_5 135 rfl rfl, uw_X11⟩
theorem fl_X11_373 : zFL RX11 373 9 38 RX11 TX11 52 := ⟨rfl, by decide, by decide, rfl, ti_5 136 rfl rfl, uw_X11⟩
theorem fl_X11_376 : zFL RX11 376 9 42 RX11 TX11 52 := ⟨rfl, by decide, by decide, rfl, ti_5 140 rfl rfl, uw_X11⟩
theorem fl_X11_419 : zFL RX11 419 9 43 RX11 TX11 52 := ⟨rfl, by decide, by decide, rfl, ti_5 141 rfl rfl, uw_X11⟩
theorem fl_X11_422 : zFL RX11 422 9 44 RX11 TX11 52 := ⟨rfl, by decide, by decide, rfl, ti_5 142 rfl rfl, uw_X11⟩
theorem fl_X11_425 : zFL RX11 425 9 46 RX11 TX11 52 := ⟨rfl, by decide, by decide, rfl, ti_5 144 rfl rfl, uw_X11⟩
theorem fl_X11_437 : zFL RX11 437 9 49 RX11 TX11 52 := ⟨rfl, by decide, by decide, rfl, ti_5 147 rfl rfl, uw_X11⟩
theorem fl_X11_443 : zFL RX11 443 9 50 RX11 TX11 52 := ⟨rfl, by decide, by decide, rfl, ti_5 148 rfl rfl, uw_X11⟩
theorem fl_X11_456 : zFL RX11 456 9 51 RX11 TX11 52 := ⟨rfl, by decide, by decide, rfl, ti_5 149 rfl rfl, uw_X11⟩
theorem fl_X3_13 : zFL RX3 13 2 0 RX3 TX3 5 := ⟨rfl, by decide, by decide, rfl, ti_1 125 rfl rfl, uw_X3⟩
theorem fl_X3_16 : zFL RX3 16 2 1 RX3 TX3 5 := ⟨rfl, by decide, by decide, rfl, ti_1 126 rfl rfl, uw_X3⟩
theorem fl_X3_20 : zFL RX3 20 2 2 RX3 TX3 5 := ⟨rfl, by decide, by decide, rfl, ti_1 127 rfl rfl, uw_X3⟩
theorem fl_X3_23 : zFL RX3 23 2 3 RX3 TX3 5 := ⟨rfl, by decide, by decide, rfl, ti_1 128 rfl rfl, uw_X3⟩
theorem fl_X3_27 : zFL RX3 27 2 4 RX3 TX3 5 := ⟨rfl, by decide, by decide, rfl, ti_1 130 rfl rfl, uw_X3⟩
theorem fl_X4_9 : zFL RX4 9 3 3 RX4 TX4 10 := ⟨rfl, by decide, by decide, rfl, ti_1 57 rfl rfl, uw_X4⟩
theorem fl_X4_15 : zFL RX4 15 3 4 RX4 TX4 10 := ⟨rfl, by decide, by decide, rfl, ti_1 59 rfl rfl, uw_X4⟩
theorem fl_X4_19 : zFL RX4 19 3 9 RX4 TX4 10 := ⟨rfl, by decide, by decide, rfl, ti_1 64 rfl rfl, uw_X4⟩
theorem fl_X4_28 : zFL RX4 28 3 5 RX4 TX4 10 := ⟨rfl, by decide, by decide, rfl, ti_1 60 rfl rfl, uw_X4⟩
theorem fl_X4_31 : zFL RX4 31 3 0 RX4 TX4 10 := ⟨rfl, by decide, by decide, rfl, ti_1 51 rfl rfl, uw_X4⟩
theorem fl_X4_34 : zFL RX4 34 3 1 RX4 TX4 10 := ⟨rfl, by decide, by decide, rfl, ti_1 53 rfl rfl, uw_X4⟩
theorem fl_X4_37 : zFL RX4 37 3 2 RX4 TX4 10 := ⟨rfl, by decide, by decide, rfl, ti_1 55 rfl rfl, uw_X4⟩
theorem fl_X4_40 : zFL RX4 40 3 8 RX4 TX4 10 := ⟨rfl, by decide, by decide, rfl, ti_1 63 rfl rfl, uw_X4⟩
theorem fl_X4_47 : zFL RX4 47 3 6 RX4 TX4 10 := ⟨rfl, by decide, by decide, rfl, ti_1 61 rfl rfl, uw_X4⟩
theorem fl_X4_53 : zFL RX4 53 3 7 RX4 TX4 10 := ⟨rfl, by decide, by decide, rfl, ti_1 62 rfl rfl, uw_X4⟩
theorem fl_X6_11 : zFL RX6 11 4 0 RX6 TX6 2 := ⟨rfl, by decide, by decide, rfl, ti_1 109 rfl rfl, uw_X6⟩
theorem fl_X6_15 : zFL RX6 15 4 1 RX6 TX6 2 := ⟨rfl, by decide, by decide, rfl, ti_1 110 rfl rfl, uw_X6⟩
theorem fl_X7_9 : zFL RX7 9 5 0 RX7 TX7 2 := ⟨rfl, by decide, by decide, rfl, ti_1 35 rfl rfl, uw_X7⟩
theorem fl_X7_15 : zFL RX7 15 5 1 RX7 TX7 2 := ⟨rfl, by decide, by decide, rfl, ti_1 37 rfl rfl, uw_X7⟩
theorem fl_X8_9 : zFL RX8 9 6 1 RX8 TX8 6 := ⟨rfl, by decide, by decide, rfl, ti_1 189 rfl rfl, uw_X8⟩
theorem fl_X8_15 : zFL RX8 15 6 3 RX8 TX8 6 := ⟨rfl, by decide, by decide, rfl, ti_1 191 rfl rfl, uw_X8⟩
theorem fl_X8_19 : zFL RX8 19 6 4 RX8 TX8 6 := ⟨rfl, by decide, by decide, rfl, ti_1 192 rfl rfl, uw_X8⟩
theorem fl_X8_22 : zFL RX8 22 6 5 RX8 TX8 6 := ⟨rfl, by decide, by decide, rfl, ti_1 193 rfl rfl, uw_X8⟩
theorem fl_X8_25 : zFL RX8 25 6 2 RX8 TX8 6 := ⟨rfl, by decide, by decide, rfl, ti_1 190 rfl rfl, uw_X8⟩
theorem fl_X8_28 : zFL RX8 28 6 0 RX8 TX8 6 := ⟨rfl, by decide, by decide, rfl, ti_1 187 rfl rfl, uw_X8⟩
theorem fl_X9_9 : zFL RX9 9 7 0 RX9 TX9 2 := ⟨rfl, by decide, by decide, rfl, ti_1 92 rfl rfl, uw_X9⟩
theorem fl_X9_15 : zFL RX9 15 7 1 RX9 TX9 2 := ⟨rfl, by decide, by decide, rfl, ti_1 93 rfl rfl, uw_X9⟩
abbrev mu_X0_init : zMu := (RX0, yX0_init, cX0_init, 1, none)
theorem lm_X0_init : zLM mu_X0_init := ⟨ti_1 211 rfl rfl, ti_1 10 rfl rfl, ⟨by decide, by decide⟩, by decide⟩
abbrev mu_X0_begin : zMu := (RX0, yX0_begin, cX0_begin, 2, none)
theorem lm_X0_begin : zLM mu_X0_begin := ⟨ti_5 67 rfl rfl, ti_1 10 rfl rfl, ⟨by decide, by decide⟩, by decide⟩
abbrev mu_X0_draw : zMu := (RX0, yX0_draw, cX0_draw, 2, some .int)
theorem lm_X0_draw : zLM mu_X0_draw := ⟨ti_5 76 rfl rfl, ti_1 10 rfl rfl, ⟨by decide, by decide⟩, by decide⟩
abbrev mu_X5_crossing : zMu := (RX5, yX5_crossing, cX5_crossing, 7, some .boolean)
theorem lm_X5_crossing : zLM mu_X5_crossing := ⟨ti_2 223 rfl rfl, ti_1 19 rfl rfl, ⟨by decide, by decide⟩, by decide⟩
abbrev mu_X2_pair : zMu := (RX2, yX2_pair, cX2_pair, 2, some .int)
theorem lm_X2_pair : zLM mu_X2_pair := ⟨ti_2 175 rfl rfl, ti_1 17 rfl rfl, ⟨by decide, by decide⟩, by decide⟩
abbrev mu_X5_crossings : zMu := (RX5, yX5_crossings, cX5_crossings, 5, some .int)
theorem lm_X5_crossings : zLM mu_X5_crossings := ⟨ti_2 220 rfl rfl, ti_1 19 rfl rfl, ⟨by decide, by decide⟩, by decide⟩
abbrev mu_X0_drawnLines : zMu := (RX0, yX0_drawnLines, cX0_drawnLines, 6, some .int)
theorem lm_X0_drawnLines : zLM mu_X0_drawnLines := ⟨ti_5 71 rfl rfl, ti_1 10 rfl rfl, ⟨by decide, by decide⟩, by decide⟩
abbrev mu_J6_bitCount_0f7a4 : zMu := (RJ6, yJ6_bitCount_0f7a4, cJ6_bitCount_0f7a4, 1, some .int)
theorem lm_J6_bitCount_0f7a4 : zLM mu_J6_bitCount_0f7a4 := ⟨ti_2 204 rfl rfl, ti_1 18 rfl rfl, ⟨by decide, by decide⟩, by decide⟩
abbrev mu_X2_isIn : zMu := (RX2, yX2_isIn, cX2_isIn, 2, some .boolean)
theorem lm_X2_isIn : zLM mu_X2_isIn := ⟨ti_3 32 rfl rfl, ti_1 17 rfl rfl, ⟨by decide, by decide⟩, by decide⟩
abbrev mu_X2_nearTo : zMu := (RX2, yX2_nearTo, cX2_nearTo, 5, some .int)
theorem lm_X2_nearTo : zLM mu_X2_nearTo := ⟨ti_2 185 rfl rfl, ti_1 17 rfl rfl, ⟨by decide, by decide⟩, by decide⟩
abbrev mu_X2_joinedTo : zMu := (RX2, yX2_joinedTo, cX2_joinedTo, 6, some .int)
theorem lm_X2_joinedTo : zLM mu_X2_joinedTo := ⟨ti_3 29 rfl rfl, ti_1 17 rfl rfl, ⟨by decide, by decide⟩, by decide⟩
abbrev mu_X2_everyPoint : zMu := (RX2, yX2_everyPoint, cX2_everyPoint, 1, some .int)
theorem lm_X2_everyPoint : zLM mu_X2_everyPoint := ⟨ti_3 38 rfl rfl, ti_1 17 rfl rfl, ⟨by decide, by decide⟩, by decide⟩
abbrev mu_X2_joined : zMu := (RX2, yX2_joined, cX2_joined, 2, some .boolean)
theorem lm_X2_joined : zLM mu_X2_joined := ⟨ti_3 45 rfl rfl, ti_1 17 rfl rfl, ⟨by decide, by decide⟩, by decide⟩
abbrev mu_X2_withRow : zMu := (RX2, yX2_withRow, cX2_withRow, 6, some .long)
theorem lm_X2_withRow : zLM mu_X2_withRow := ⟨ti_3 55 rfl rfl, ti_1 17 rfl rfl, ⟨by decide, by decide⟩, by decide⟩
abbrev mu_X2_rank : zMu := (RX2, yX2_rank, cX2_rank, 9, some .int)
theorem lm_X2_rank : zLM mu_X2_rank := ⟨ti_3 52 rfl rfl, ti_1 17 rfl rfl, ⟨by decide, by decide⟩, by decide⟩
abbrev mu_X6_isSplit : zMu := (RX6, yX6_isSplit, cX6_isSplit, 4, some .boolean)
theorem lm_X6_isSplit : zLM mu_X6_isSplit := ⟨ti_3 48 rfl rfl, ti_1 6 rfl rfl, ⟨by decide, by decide⟩, by decide⟩
abbrev mu_X6_firstOf : zMu := (RX6, yX6_firstOf, cX6_firstOf, 3, some .int)
theorem lm_X6_firstOf : zLM mu_X6_firstOf := ⟨ti_3 77 rfl rfl, ti_1 6 rfl rfl, ⟨by decide, by decide⟩, by decide⟩
abbrev mu_X6_isPrime : zMu := (RX6, yX6_isPrime, cX6_isPrime, 2, some .boolean)
theorem lm_X6_isPrime : zLM mu_X6_isPrime := ⟨ti_4 33 rfl rfl, ti_1 6 rfl rfl, ⟨by decide, by decide⟩, by decide⟩
abbrev mu_X0_count : zMu := (RX0, yX0_count, cX0_count, 5, none)
theorem lm_X0_count : zLM mu_X0_count := ⟨ti_5 86 rfl rfl, ti_1 10 rfl rfl, ⟨by decide, by decide⟩, by decide⟩
abbrev mu_X1_init : zMu := (RX1, yX1_init, cX1_init, 1, none)
theorem lm_X1_init : zLM mu_X1_init := ⟨ti_1 146 rfl rfl, ti_1 8 rfl rfl, ⟨by decide, by decide⟩, by decide⟩
abbrev mu_J7_copyOf_c38d5 : zMu := (RJ7, yJ7_copyOf_c38d5, cJ7_copyOf_c38d5, 3, some (.array .long))
theorem lm_J7_copyOf_c38d5 : zLM mu_J7_copyOf_c38d5 := ⟨ti_3 100 rfl rfl, ti_1 5 rfl rfl, ⟨by decide, by decide⟩, by decide⟩
abbrev mu_X1_keep : zMu := (RX1, yX1_keep, cX1_keep, 3, none)
theorem lm_X1_keep : zLM mu_X1_keep := ⟨ti_3 95 rfl rfl, ti_1 8 rfl rfl, ⟨by decide, by decide⟩, by decide⟩
abbrev mu_X5_placeOf : zMu := (RX5, yX5_placeOf, cX5_placeOf, 5, some .int)
theorem lm_X5_placeOf : zLM mu_X5_placeOf := ⟨ti_3 124 rfl rfl, ti_1 19 rfl rfl, ⟨by decide, by decide⟩, by decide⟩
abbrev mu_X5_readsLess : zMu := (RX5, yX5_readsLess, cX5_readsLess, 6, some .boolean)
theorem lm_X5_readsLess : zLM mu_X5_readsLess := ⟨ti_3 127 rfl rfl, ti_1 19 rfl rfl, ⟨by decide, by decide⟩, by decide⟩
abbrev mu_X1_isLeast : zMu := (RX1, yX1_isLeast, cX1_isLeast, 2, some .boolean)
theorem lm_X1_isLeast : zLM mu_X1_isLeast := ⟨ti_3 121 rfl rfl, ti_1 8 rfl rfl, ⟨by decide, by decide⟩, by decide⟩
abbrev mu_X1_finish : zMu := (RX1, yX1_finish, cX1_finish, 9, none)
theorem lm_X1_finish : zLM mu_X1_finish := ⟨ti_3 117 rfl rfl, ti_1 8 rfl rfl, ⟨by decide, by decide⟩, by decide⟩
abbrev mu_X1_spoils : zMu := (RX1, yX1_spoils, cX1_spoils, 4, some .boolean)
theorem lm_X1_spoils : zLM mu_X1_spoils := ⟨ti_3 131 rfl rfl, ti_1 8 rfl rfl, ⟨by decide, by decide⟩, by decide⟩
abbrev mu_X1_insert : zMu := (RX1, yX1_insert, cX1_insert, 7, some .int)
theorem lm_X1_insert : zLM mu_X1_insert := ⟨ti_3 134 rfl rfl, ti_1 8 rfl rfl, ⟨by decide, by decide⟩, by decide⟩
abbrev mu_X1_extend : zMu := (RX1, yX1_extend, cX1_extend, 11, none)
theorem lm_X1_extend : zLM mu_X1_extend := ⟨ti_3 113 rfl rfl, ti_1 8 rfl rfl, ⟨by decide, by decide⟩, by decide⟩
abbrev mu_X1_gather : zMu := (RX1, yX1_gather, cX1_gather, 5, none)
theorem lm_X1_gather : zLM mu_X1_gather := ⟨ti_3 90 rfl rfl, ti_1 8 rfl rfl, ⟨by decide, by decide⟩, by decide⟩
abbrev mu_X1_wordAt : zMu := (RX1, yX1_wordAt, cX1_wordAt, 2, some .long)
theorem lm_X1_wordAt : zLM mu_X1_wordAt := ⟨ti_4 136 rfl rfl, ti_1 8 rfl rfl, ⟨by decide, by decide⟩, by decide⟩
abbrev mu_X1_spell : zMu := (RX1, yX1_spell, cX1_spell, 6, none)
theorem lm_X1_spell : zLM mu_X1_spell := ⟨ti_4 132 rfl rfl, ti_1 8 rfl rfl, ⟨by decide, by decide⟩, by decide⟩
abbrev mu_X1_indexOf : zMu := (RX1, yX1_indexOf, cX1_indexOf, 9, some .int)
theorem lm_X1_indexOf : zLM mu_X1_indexOf := ⟨ti_4 196 rfl rfl, ti_1 8 rfl rfl, ⟨by decide, by decide⟩, by decide⟩
abbrev mu_X1_letsIn : zMu := (RX1, yX1_letsIn, cX1_letsIn, 7, some .boolean)
theorem lm_X1_letsIn : zLM mu_X1_letsIn := ⟨ti_4 227 rfl rfl, ti_1 8 rfl rfl, ⟨by decide, by decide⟩, by decide⟩
abbrev mu_X1_setsBeside : zMu := (RX1, yX1_setsBeside, cX1_setsBeside, 11, some .boolean)
theorem lm_X1_setsBeside : zLM mu_X1_setsBeside := ⟨ti_4 235 rfl rfl, ti_1 8 rfl rfl, ⟨by decide, by decide⟩, by decide⟩
abbrev mu_X2_code : zMu := (RX2, yX2_code, cX2_code, 2, some .int)
theorem lm_X2_code : zLM mu_X2_code := ⟨ti_3 2 rfl rfl, ti_1 17 rfl rfl, ⟨by decide, by decide⟩, by decide⟩
abbrev mu_X2_pointsOf : zMu := (RX2, yX2_pointsOf, cX2_pointsOf, 1, some .int)
theorem lm_X2_pointsOf : zLM mu_X2_pointsOf := ⟨ti_3 215 rfl rfl, ti_1 17 rfl rfl, ⟨by decide, by decide⟩, by decide⟩
abbrev mu_X2_linesOf : zMu := (RX2, yX2_linesOf, cX2_linesOf, 1, some .int)
theorem lm_X2_linesOf : zLM mu_X2_linesOf := ⟨ti_3 218 rfl rfl, ti_1 17 rfl rfl, ⟨by decide, by decide⟩, by decide⟩
abbrev mu_X2_tied : zMu := (RX2, yX2_tied, cX2_tied, 3, some .boolean)
theorem lm_X2_tied : zLM mu_X2_tied := ⟨ti_2 172 rfl rfl, ti_1 17 rfl rfl, ⟨by decide, by decide⟩, by decide⟩
abbrev mu_X2_isLeastOf : zMu := (RX2, yX2_isLeastOf, cX2_isLeastOf, 2, some .boolean)
theorem lm_X2_isLeastOf : zLM mu_X2_isLeastOf := ⟨ti_3 35 rfl rfl, ti_1 17 rfl rfl, ⟨by decide, by decide⟩, by decide⟩
abbrev mu_X2_pairsOf : zMu := (RX2, yX2_pairsOf, cX2_pairsOf, 3, some .int)
theorem lm_X2_pairsOf : zLM mu_X2_pairsOf := ⟨ti_2 188 rfl rfl, ti_1 17 rfl rfl, ⟨by decide, by decide⟩, by decide⟩
abbrev mu_X2_turnedAt : zMu := (RX2, yX2_turnedAt, cX2_turnedAt, 3, some .int)
theorem lm_X2_turnedAt : zLM mu_X2_turnedAt := ⟨ti_2 182 rfl rfl, ti_1 17 rfl rfl, ⟨by decide, by decide⟩, by decide⟩
abbrev mu_X2_swungOver : zMu := (RX2, yX2_swungOver, cX2_swungOver, 7, some .int)
theorem lm_X2_swungOver : zLM mu_X2_swungOver := ⟨ti_2 178 rfl rfl, ti_1 17 rfl rfl, ⟨by decide, by decide⟩, by decide⟩
abbrev mu_X2_exchange : zMu := (RX2, yX2_exchange, cX2_exchange, 3, some .int)
theorem lm_X2_exchange : zLM mu_X2_exchange := ⟨ti_3 203 rfl rfl, ti_1 17 rfl rfl, ⟨by decide, by decide⟩, by decide⟩
abbrev mu_X2_exchanged : zMu := (RX2, yX2_exchanged, cX2_exchanged, 7, some .int)
theorem lm_X2_exchanged : zLM mu_X2_exchanged := ⟨ti_3 200 rfl rfl, ti_1 17 rfl rfl, ⟨by decide, by decide⟩, by decide⟩
abbrev mu_X2_part : zMu := (RX2, yX2_part, cX2_part, 8, some .int)
theorem lm_X2_part : zLM mu_X2_part := ⟨ti_3 70 rfl rfl, ti_1 17 rfl rfl, ⟨by decide, by decide⟩, by decide⟩
abbrev mu_X2_joinedSets : zMu := (RX2, yX2_joinedSets, cX2_joinedSets, 4, some .int)
theorem lm_X2_joinedSets : zLM mu_X2_joinedSets := ⟨ti_3 26 rfl rfl, ti_1 17 rfl rfl, ⟨by decide, by decide⟩, by decide⟩
abbrev mu_X2_likeCouples : zMu := (RX2, yX2_likeCouples, cX2_likeCouples, 8, some .int)
theorem lm_X2_likeCouples : zLM mu_X2_likeCouples := ⟨ti_4 92 rfl rfl, ti_1 17 rfl rfl, ⟨by decide, by decide⟩, by decide⟩
abbrev mu_X2_lonePoints : zMu := (RX2, yX2_lonePoints, cX2_lonePoints, 4, some .int)
theorem lm_X2_lonePoints : zLM mu_X2_lonePoints := ⟨ti_4 95 rfl rfl, ti_1 17 rfl rfl, ⟨by decide, by decide⟩, by decide⟩
abbrev mu_X2_largest : zMu := (RX2, yX2_largest, cX2_largest, 7, some .int)
theorem lm_X2_largest : zLM mu_X2_largest := ⟨ti_4 108 rfl rfl, ti_1 17 rfl rfl, ⟨by decide, by decide⟩, by decide⟩
abbrev mu_X2_paint : zMu := (RX2, yX2_paint, cX2_paint, 10, some .long)
theorem lm_X2_paint : zLM mu_X2_paint := ⟨ti_4 115 rfl rfl, ti_1 17 rfl rfl, ⟨by decide, by decide⟩, by decide⟩
abbrev mu_X3_init : zMu := (RX3, yX3_init, cX3_init, 1, none)
theorem lm_X3_init : zLM mu_X3_init := ⟨ti_1 121 rfl rfl, ti_1 7 rfl rfl, ⟨by decide, by decide⟩, by decide⟩
abbrev mu_X3_begin : zMu := (RX3, yX3_begin, cX3_begin, 6, none)
theorem lm_X3_begin : zLM mu_X3_begin := ⟨ti_3 66 rfl rfl, ti_1 7 rfl rfl, ⟨by decide, by decide⟩, by decide⟩
abbrev mu_X3_cut : zMu := (RX3, yX3_cut, cX3_cut, 10, none)
theorem lm_X3_cut : zLM mu_X3_cut := ⟨ti_3 82 rfl rfl, ti_1 7 rfl rfl, ⟨by decide, by decide⟩, by decide⟩
abbrev mu_X3_takeOneApart : zMu := (RX3, yX3_takeOneApart, cX3_takeOneApart, 3, some .boolean)
theorem lm_X3_takeOneApart : zLM mu_X3_takeOneApart := ⟨ti_3 74 rfl rfl, ti_1 7 rfl rfl, ⟨by decide, by decide⟩, by decide⟩
abbrev mu_X3_gather : zMu := (RX3, yX3_gather, cX3_gather, 5, none)
theorem lm_X3_gather : zLM mu_X3_gather := ⟨ti_3 60 rfl rfl, ti_1 7 rfl rfl, ⟨by decide, by decide⟩, by decide⟩
abbrev mu_X3_has : zMu := (RX3, yX3_has, cX3_has, 2, some .boolean)
theorem lm_X3_has : zLM mu_X3_has := ⟨ti_4 50 rfl rfl, ti_1 7 rfl rfl, ⟨by decide, by decide⟩, by decide⟩
abbrev mu_X3_sizeOf : zMu := (RX3, yX3_sizeOf, cX3_sizeOf, 2, some .int)
theorem lm_X3_sizeOf : zLM mu_X3_sizeOf := ⟨ti_4 46 rfl rfl, ti_1 7 rfl rfl, ⟨by decide, by decide⟩, by decide⟩
abbrev mu_X3_kindOf : zMu := (RX3, yX3_kindOf, cX3_kindOf, 3, some .int)
theorem lm_X3_kindOf : zLM mu_X3_kindOf := ⟨ti_4 42 rfl rfl, ti_1 7 rfl rfl, ⟨by decide, by decide⟩, by decide⟩
abbrev mu_X3_knotAt : zMu := (RX3, yX3_knotAt, cX3_knotAt, 3, some .int)
theorem lm_X3_knotAt : zLM mu_X3_knotAt := ⟨ti_4 59 rfl rfl, ti_1 7 rfl rfl, ⟨by decide, by decide⟩, by decide⟩
abbrev mu_X3_marksIn : zMu := (RX3, yX3_marksIn, cX3_marksIn, 4, some .int)
theorem lm_X3_marksIn : zLM mu_X3_marksIn := ⟨ti_4 55 rfl rfl, ti_1 7 rfl rfl, ⟨by decide, by decide⟩, by decide⟩
abbrev mu_X3_tiesOf : zMu := (RX3, yX3_tiesOf, cX3_tiesOf, 3, some .int)
theorem lm_X3_tiesOf : zLM mu_X3_tiesOf := ⟨ti_4 76 rfl rfl, ti_1 7 rfl rfl, ⟨by decide, by decide⟩, by decide⟩
abbrev mu_X3_isPlain : zMu := (RX3, yX3_isPlain, cX3_isPlain, 2, some .boolean)
theorem lm_X3_isPlain : zLM mu_X3_isPlain := ⟨ti_4 84 rfl rfl, ti_1 7 rfl rfl, ⟨by decide, by decide⟩, by decide⟩
abbrev mu_X4_init : zMu := (RX4, yX4_init, cX4_init, 1, none)
theorem lm_X4_init : zLM mu_X4_init := ⟨ti_1 49 rfl rfl, ti_1 3 rfl rfl, ⟨by decide, by decide⟩, by decide⟩
abbrev mu_X4_byteAt : zMu := (RX4, yX4_byteAt, cX4_byteAt, 2, some .int)
theorem lm_X4_byteAt : zLM mu_X4_byteAt := ⟨ti_2 82 rfl rfl, ti_1 3 rfl rfl, ⟨by decide, by decide⟩, by decide⟩
abbrev mu_X4_isBlank : zMu := (RX4, yX4_isBlank, cX4_isBlank, 1, some .boolean)
theorem lm_X4_isBlank : zLM mu_X4_isBlank := ⟨ti_2 85 rfl rfl, ti_1 3 rfl rfl, ⟨by decide, by decide⟩, by decide⟩
abbrev mu_X4_isSmall : zMu := (RX4, yX4_isSmall, cX4_isSmall, 1, some .boolean)
theorem lm_X4_isSmall : zLM mu_X4_isSmall := ⟨ti_2 88 rfl rfl, ti_1 3 rfl rfl, ⟨by decide, by decide⟩, by decide⟩
abbrev mu_X4_isDigit : zMu := (RX4, yX4_isDigit, cX4_isDigit, 1, some .boolean)
theorem lm_X4_isDigit : zLM mu_X4_isDigit := ⟨ti_2 91 rfl rfl, ti_1 3 rfl rfl, ⟨by decide, by decide⟩, by decide⟩
abbrev mu_X4_fail : zMu := (RX4, yX4_fail, cX4_fail, 2, none)
theorem lm_X4_fail : zLM mu_X4_fail := ⟨ti_2 95 rfl rfl, ti_1 3 rfl rfl, ⟨by decide, by decide⟩, by decide⟩
abbrev mu_X4_nextToken : zMu := (RX4, yX4_nextToken, cX4_nextToken, 2, some .boolean)
theorem lm_X4_nextToken : zLM mu_X4_nextToken := ⟨ti_2 78 rfl rfl, ti_1 3 rfl rfl, ⟨by decide, by decide⟩, by decide⟩
abbrev mu_X4_says : zMu := (RX4, yX4_says, cX4_says, 3, some .boolean)
theorem lm_X4_says : zLM mu_X4_says := ⟨ti_2 104 rfl rfl, ti_1 3 rfl rfl, ⟨by decide, by decide⟩, by decide⟩
abbrev mu_X4_expect : zMu := (RX4, yX4_expect, cX4_expect, 2, some .boolean)
theorem lm_X4_expect : zLM mu_X4_expect := ⟨ti_2 160 rfl rfl, ti_1 3 rfl rfl, ⟨by decide, by decide⟩, by decide⟩
abbrev mu_X4_readPoints : zMu := (RX4, yX4_readPoints, cX4_readPoints, 2, none)
theorem lm_X4_readPoints : zLM mu_X4_readPoints := ⟨ti_2 156 rfl rfl, ti_1 3 rfl rfl, ⟨by decide, by decide⟩, by decide⟩
abbrev mu_X4_readPoint : zMu := (RX4, yX4_readPoint, cX4_readPoint, 2, some .int)
theorem lm_X4_readPoint : zLM mu_X4_readPoint := ⟨ti_2 169 rfl rfl, ti_1 3 rfl rfl, ⟨by decide, by decide⟩, by decide⟩
abbrev mu_X4_readCouple : zMu := (RX4, yX4_readCouple, cX4_readCouple, 4, none)
theorem lm_X4_readCouple : zLM mu_X4_readCouple := ⟨ti_2 165 rfl rfl, ti_1 3 rfl rfl, ⟨by decide, by decide⟩, by decide⟩
abbrev mu_X4_unlikeLetters : zMu := (RX4, yX4_unlikeLetters, cX4_unlikeLetters, 3, some .int)
theorem lm_X4_unlikeLetters : zLM mu_X4_unlikeLetters := ⟨ti_2 201 rfl rfl, ti_1 3 rfl rfl, ⟨by decide, by decide⟩, by decide⟩
abbrev mu_X4_copyWord : zMu := (RX4, yX4_copyWord, cX4_copyWord, 2, some .boolean)
theorem lm_X4_copyWord : zLM mu_X4_copyWord := ⟨ti_2 211 rfl rfl, ti_1 3 rfl rfl, ⟨by decide, by decide⟩, by decide⟩
abbrev mu_X5_count : zMu := (RX5, yX5_count, cX5_count, 5, some .int)
theorem lm_X5_count : zLM mu_X5_count := ⟨ti_2 217 rfl rfl, ti_1 19 rfl rfl, ⟨by decide, by decide⟩, by decide⟩
abbrev mu_X5_isChordWord : zMu := (RX5, yX5_isChordWord, cX5_isChordWord, 4, some .boolean)
theorem lm_X5_isChordWord : zLM mu_X5_isChordWord := ⟨ti_2 214 rfl rfl, ti_1 19 rfl rfl, ⟨by decide, by decide⟩, by decide⟩
abbrev mu_X4_addCrossing : zMu := (RX4, yX4_addCrossing, cX4_addCrossing, 5, none)
theorem lm_X4_addCrossing : zLM mu_X4_addCrossing := ⟨ti_2 228 rfl rfl, ti_1 3 rfl rfl, ⟨by decide, by decide⟩, by decide⟩
abbrev mu_X4_readCross : zMu := (RX4, yX4_readCross, cX4_readCross, 2, none)
theorem lm_X4_readCross : zLM mu_X4_readCross := ⟨ti_2 197 rfl rfl, ti_1 3 rfl rfl, ⟨by decide, by decide⟩, by decide⟩
abbrev mu_X4_readTurn : zMu := (RX4, yX4_readTurn, cX4_readTurn, 2, none)
theorem lm_X4_readTurn : zLM mu_X4_readTurn := ⟨ti_2 233 rfl rfl, ti_1 3 rfl rfl, ⟨by decide, by decide⟩, by decide⟩
abbrev mu_X4_readLine : zMu := (RX4, yX4_readLine, cX4_readLine, 1, none)
theorem lm_X4_readLine : zLM mu_X4_readLine := ⟨ti_2 99 rfl rfl, ti_1 3 rfl rfl, ⟨by decide, by decide⟩, by decide⟩
abbrev mu_X4_read : zMu := (RX4, yX4_read, cX4_read, 4, none)
theorem lm_X4_read : zLM mu_X4_read := ⟨ti_2 71 rfl rfl, ti_1 3 rfl rfl, ⟨by decide, by decide⟩, by decide⟩
abbrev mu_X5_spanOf : zMu := (RX5, yX5_spanOf, cX5_spanOf, 5, some .int)
theorem lm_X5_spanOf : zLM mu_X5_spanOf := ⟨ti_4 148 rfl rfl, ti_1 19 rfl rfl, ⟨by decide, by decide⟩, by decide⟩
abbrev mu_X10_ratio : zMu := (RX10, yX10_ratio, cX10_ratio, 3, some .float)
theorem lm_X10_ratio : zLM mu_X10_ratio := ⟨ti_4 161 rfl rfl, ti_1 1 rfl rfl, ⟨by decide, by decide⟩, by decide⟩
abbrev mu_X5_meanSpan : zMu := (RX5, yX5_meanSpan, cX5_meanSpan, 4, some .float)
theorem lm_X5_meanSpan : zLM mu_X5_meanSpan := ⟨ti_4 157 rfl rfl, ti_1 19 rfl rfl, ⟨by decide, by decide⟩, by decide⟩
abbrev mu_X5_even : zMu := (RX5, yX5_even, cX5_even, 5, some .float)
theorem lm_X5_even : zLM mu_X5_even := ⟨ti_4 164 rfl rfl, ti_1 19 rfl rfl, ⟨by decide, by decide⟩, by decide⟩
abbrev mu_X5_reverseBetween : zMu := (RX5, yX5_reverseBetween, cX5_reverseBetween, 6, none)
theorem lm_X5_reverseBetween : zLM mu_X5_reverseBetween := ⟨ti_5 2 rfl rfl, ti_1 19 rfl rfl, ⟨by decide, by decide⟩, by decide⟩
abbrev mu_X5_next : zMu := (RX5, yX5_next, cX5_next, 4, some .int)
theorem lm_X5_next : zLM mu_X5_next := ⟨ti_4 189 rfl rfl, ti_1 19 rfl rfl, ⟨by decide, by decide⟩, by decide⟩
abbrev mu_X5_pack : zMu := (RX5, yX5_pack, cX5_pack, 8, some .long)
theorem lm_X5_pack : zLM mu_X5_pack := ⟨ti_4 186 rfl rfl, ti_1 19 rfl rfl, ⟨by decide, by decide⟩, by decide⟩
abbrev mu_X5_leastReading : zMu := (RX5, yX5_leastReading, cX5_leastReading, 6, some .long)
theorem lm_X5_leastReading : zLM mu_X5_leastReading := ⟨ti_4 183 rfl rfl, ti_1 19 rfl rfl, ⟨by decide, by decide⟩, by decide⟩
abbrev mu_X5_oddBetween : zMu := (RX5, yX5_oddBetween, cX5_oddBetween, 5, some .int)
theorem lm_X5_oddBetween : zLM mu_X5_oddBetween := ⟨ti_4 212 rfl rfl, ti_1 19 rfl rfl, ⟨by decide, by decide⟩, by decide⟩
abbrev mu_X5_countCouples : zMu := (RX5, yX5_countCouples, cX5_countCouples, 6, some .int)
theorem lm_X5_countCouples : zLM mu_X5_countCouples := ⟨ti_4 209 rfl rfl, ti_1 19 rfl rfl, ⟨by decide, by decide⟩, by decide⟩
abbrev mu_X5_coupleAt : zMu := (RX5, yX5_coupleAt, cX5_coupleAt, 7, some .int)
theorem lm_X5_coupleAt : zLM mu_X5_coupleAt := ⟨ti_4 219 rfl rfl, ti_1 19 rfl rfl, ⟨by decide, by decide⟩, by decide⟩
abbrev mu_X6_init : zMu := (RX6, yX6_init, cX6_init, 1, none)
theorem lm_X6_init : zLM mu_X6_init := ⟨ti_1 107 rfl rfl, ti_1 6 rfl rfl, ⟨by decide, by decide⟩, by decide⟩
abbrev mu_X6_gather : zMu := (RX6, yX6_gather, cX6_gather, 4, none)
theorem lm_X6_gather : zLM mu_X6_gather := ⟨ti_3 42 rfl rfl, ti_1 6 rfl rfl, ⟨by decide, by decide⟩, by decide⟩
abbrev mu_X6_setAt : zMu := (RX6, yX6_setAt, cX6_setAt, 2, some .int)
theorem lm_X6_setAt : zLM mu_X6_setAt := ⟨ti_4 13 rfl rfl, ti_1 6 rfl rfl, ⟨by decide, by decide⟩, by decide⟩
abbrev mu_X6_isWithin : zMu := (RX6, yX6_isWithin, cX6_isWithin, 2, some .boolean)
theorem lm_X6_isWithin : zLM mu_X6_isWithin := ⟨ti_4 26 rfl rfl, ti_1 6 rfl rfl, ⟨by decide, by decide⟩, by decide⟩
abbrev mu_X6_isStrong : zMu := (RX6, yX6_isStrong, cX6_isStrong, 9, some .boolean)
theorem lm_X6_isStrong : zLM mu_X6_isStrong := ⟨ti_4 21 rfl rfl, ti_1 6 rfl rfl, ⟨by decide, by decide⟩, by decide⟩
abbrev mu_X6_strongOnes : zMu := (RX6, yX6_strongOnes, cX6_strongOnes, 4, some .int)
theorem lm_X6_strongOnes : zLM mu_X6_strongOnes := ⟨ti_4 100 rfl rfl, ti_1 6 rfl rfl, ⟨by decide, by decide⟩, by decide⟩
abbrev mu_X7_init : zMu := (RX7, yX7_init, cX7_init, 1, none)
theorem lm_X7_init : zLM mu_X7_init := ⟨ti_1 33 rfl rfl, ti_1 2 rfl rfl, ⟨by decide, by decide⟩, by decide⟩
abbrev mu_X7_take : zMu := (RX7, yX7_take, cX7_take, 3, none)
theorem lm_X7_take : zLM mu_X7_take := ⟨ti_2 55 rfl rfl, ti_1 2 rfl rfl, ⟨by decide, by decide⟩, by decide⟩
abbrev mu_X7_holds : zMu := (RX7, yX7_holds, cX7_holds, 2, some .boolean)
theorem lm_X7_holds : zLM mu_X7_holds := ⟨ti_2 63 rfl rfl, ti_1 2 rfl rfl, ⟨by decide, by decide⟩, by decide⟩
abbrev mu_X7_copyLetters : zMu := (RX7, yX7_copyLetters, cX7_copyLetters, 4, some .boolean)
theorem lm_X7_copyLetters : zLM mu_X7_copyLetters := ⟨ti_4 178 rfl rfl, ti_1 2 rfl rfl, ⟨by decide, by decide⟩, by decide⟩
abbrev mu_X8_init : zMu := (RX8, yX8_init, cX8_init, 1, none)
theorem lm_X8_init : zLM mu_X8_init := ⟨ti_1 185 rfl rfl, ti_1 9 rfl rfl, ⟨by decide, by decide⟩, by decide⟩
abbrev mu_J7_fill_53178 : zMu := (RJ7, yJ7_fill_53178, cJ7_fill_53178, 4, none)
theorem lm_J7_fill_53178 : zLM mu_J7_fill_53178 := ⟨ti_1 102 rfl rfl, ti_1 5 rfl rfl, ⟨by decide, by decide⟩, by decide⟩
abbrev mu_X8_keep : zMu := (RX8, yX8_keep, cX8_keep, 4, none)
theorem lm_X8_keep : zLM mu_X8_keep := ⟨ti_3 149 rfl rfl, ti_1 9 rfl rfl, ⟨by decide, by decide⟩, by decide⟩
abbrev mu_X8_meet : zMu := (RX8, yX8_meet, cX8_meet, 6, none)
theorem lm_X8_meet : zLM mu_X8_meet := ⟨ti_3 145 rfl rfl, ti_1 9 rfl rfl, ⟨by decide, by decide⟩, by decide⟩
abbrev mu_X8_gather : zMu := (RX8, yX8_gather, cX8_gather, 5, none)
theorem lm_X8_gather : zLM mu_X8_gather := ⟨ti_3 140 rfl rfl, ti_1 9 rfl rfl, ⟨by decide, by decide⟩, by decide⟩
abbrev mu_X8_fewestLines : zMu := (RX8, yX8_fewestLines, cX8_fewestLines, 3, some .int)
theorem lm_X8_fewestLines : zLM mu_X8_fewestLines := ⟨ti_5 26 rfl rfl, ti_1 9 rfl rfl, ⟨by decide, by decide⟩, by decide⟩
abbrev mu_X8_mostLines : zMu := (RX8, yX8_mostLines, cX8_mostLines, 3, some .int)
theorem lm_X8_mostLines : zLM mu_X8_mostLines := ⟨ti_5 32 rfl rfl, ti_1 9 rfl rfl, ⟨by decide, by decide⟩, by decide⟩
abbrev mu_X8_countWith : zMu := (RX8, yX8_countWith, cX8_countWith, 4, some .int)
theorem lm_X8_countWith : zLM mu_X8_countWith := ⟨ti_5 37 rfl rfl, ti_1 9 rfl rfl, ⟨by decide, by decide⟩, by decide⟩
abbrev mu_X8_allLines : zMu := (RX8, yX8_allLines, cX8_allLines, 3, some .int)
theorem lm_X8_allLines : zLM mu_X8_allLines := ⟨ti_5 41 rfl rfl, ti_1 9 rfl rfl, ⟨by decide, by decide⟩, by decide⟩
abbrev mu_X8_turnsTo : zMu := (RX8, yX8_turnsTo, cX8_turnsTo, 3, some .int)
theorem lm_X8_turnsTo : zLM mu_X8_turnsTo := ⟨ti_5 49 rfl rfl, ti_1 9 rfl rfl, ⟨by decide, by decide⟩, by decide⟩
abbrev mu_X8_anyBeginsWith : zMu := (RX8, yX8_anyBeginsWith, cX8_anyBeginsWith, 5, some .boolean)
theorem lm_X8_anyBeginsWith : zLM mu_X8_anyBeginsWith := ⟨ti_5 57 rfl rfl, ti_1 9 rfl rfl, ⟨by decide, by decide⟩, by decide⟩
abbrev mu_X9_init : zMu := (RX9, yX9_init, cX9_init, 1, none)
theorem lm_X9_init : zLM mu_X9_init := ⟨ti_1 90 rfl rfl, ti_1 4 rfl rfl, ⟨by decide, by decide⟩, by decide⟩
abbrev mu_X9_keep : zMu := (RX9, yX9_keep, cX9_keep, 2, none)
theorem lm_X9_keep : zLM mu_X9_keep := ⟨ti_3 6 rfl rfl, ti_1 4 rfl rfl, ⟨by decide, by decide⟩, by decide⟩
abbrev mu_X9_takeBack : zMu := (RX9, yX9_takeBack, cX9_takeBack, 1, some .int)
theorem lm_X9_takeBack : zLM mu_X9_takeBack := ⟨ti_3 212 rfl rfl, ti_1 4 rfl rfl, ⟨by decide, by decide⟩, by decide⟩
abbrev mu_X10_init : zMu := (RX10, yX10_init, cX10_init, 1, none)
theorem lm_X10_init : zLM mu_X10_init := ⟨ti_1 25 rfl rfl, ti_1 1 rfl rfl, ⟨by decide, by decide⟩, by decide⟩
abbrev mu_X10_status : zMu := (RX10, yX10_status, cX10_status, 1, some .int)
theorem lm_X10_status : zLM mu_X10_status := ⟨ti_2 47 rfl rfl, ti_1 1 rfl rfl, ⟨by decide, by decide⟩, by decide⟩
abbrev mu_X10_feed : zMu := (RX10, yX10_feed, cX10_feed, 6, some .int)
theorem lm_X10_feed : zLM mu_X10_feed := ⟨ti_2 51 rfl rfl, ti_1 1 rfl rfl, ⟨by decide, by decide⟩, by decide⟩
abbrev mu_X10_refuse : zMu := (RX10, yX10_refuse, cX10_refuse, 2, some .int)
theorem lm_X10_refuse : zLM mu_X10_refuse := ⟨ti_2 67 rfl rfl, ti_1 1 rfl rfl, ⟨by decide, by decide⟩, by decide⟩
abbrev mu_X10_become : zMu := (RX10, yX10_become, cX10_become, 3, none)
theorem lm_X10_become : zLM mu_X10_become := ⟨ti_2 239 rfl rfl, ti_1 1 rfl rfl, ⟨by decide, by decide⟩, by decide⟩
abbrev mu_X10_answer : zMu := (RX10, yX10_answer, cX10_answer, 2, some .int)
theorem lm_X10_answer : zLM mu_X10_answer := ⟨ti_3 13 rfl rfl, ti_1 1 rfl rfl, ⟨by decide, by decide⟩, by decide⟩
abbrev mu_X10_load : zMu := (RX10, yX10_load, cX10_load, 2, some .int)
theorem lm_X10_load : zLM mu_X10_load := ⟨ti_2 59 rfl rfl, ti_1 1 rfl rfl, ⟨by decide, by decide⟩, by decide⟩
abbrev mu_X10_fault : zMu := (RX10, yX10_fault, cX10_fault, 2, some .int)
theorem lm_X10_fault : zLM mu_X10_fault := ⟨ti_3 18 rfl rfl, ti_1 1 rfl rfl, ⟨by decide, by decide⟩, by decide⟩
abbrev mu_X10_many : zMu := (RX10, yX10_many, cX10_many, 2, some .int)
theorem lm_X10_many : zLM mu_X10_many := ⟨ti_3 22 rfl rfl, ti_1 1 rfl rfl, ⟨by decide, by decide⟩, by decide⟩
abbrev mu_X10_hasPoint : zMu := (RX10, yX10_hasPoint, cX10_hasPoint, 2, some .boolean)
theorem lm_X10_hasPoint : zLM mu_X10_hasPoint := ⟨ti_3 158 rfl rfl, ti_1 1 rfl rfl, ⟨by decide, by decide⟩, by decide⟩
abbrev mu_X10_near : zMu := (RX10, yX10_near, cX10_near, 2, some .int)
theorem lm_X10_near : zLM mu_X10_near := ⟨ti_3 154 rfl rfl, ti_1 1 rfl rfl, ⟨by decide, by decide⟩, by decide⟩
abbrev mu_X10_hasSet : zMu := (RX10, yX10_hasSet, cX10_hasSet, 2, some .boolean)
theorem lm_X10_hasSet : zLM mu_X10_hasSet := ⟨ti_3 167 rfl rfl, ti_1 1 rfl rfl, ⟨by decide, by decide⟩, by decide⟩
abbrev mu_X10_add : zMu := (RX10, yX10_add, cX10_add, 2, some .int)
theorem lm_X10_add : zLM mu_X10_add := ⟨ti_3 163 rfl rfl, ti_1 1 rfl rfl, ⟨by decide, by decide⟩, by decide⟩
abbrev mu_X10_drop : zMu := (RX10, yX10_drop, cX10_drop, 3, some .int)
theorem lm_X10_drop : zLM mu_X10_drop := ⟨ti_3 172 rfl rfl, ti_1 1 rfl rfl, ⟨by decide, by decide⟩, by decide⟩
abbrev mu_X10_badCouple : zMu := (RX10, yX10_badCouple, cX10_badCouple, 3, some .int)
theorem lm_X10_badCouple : zLM mu_X10_badCouple := ⟨ti_3 182 rfl rfl, ti_1 1 rfl rfl, ⟨by decide, by decide⟩, by decide⟩
abbrev mu_X10_flip : zMu := (RX10, yX10_flip, cX10_flip, 4, some .int)
theorem lm_X10_flip : zLM mu_X10_flip := ⟨ti_3 178 rfl rfl, ti_1 1 rfl rfl, ⟨by decide, by decide⟩, by decide⟩
abbrev mu_X10_turn : zMu := (RX10, yX10_turn, cX10_turn, 2, some .int)
theorem lm_X10_turn : zLM mu_X10_turn := ⟨ti_3 187 rfl rfl, ti_1 1 rfl rfl, ⟨by decide, by decide⟩, by decide⟩
abbrev mu_X10_swing : zMu := (RX10, yX10_swing, cX10_swing, 4, some .int)
theorem lm_X10_swing : zLM mu_X10_swing := ⟨ti_3 192 rfl rfl, ti_1 1 rfl rfl, ⟨by decide, by decide⟩, by decide⟩
abbrev mu_X10_rename : zMu := (RX10, yX10_rename, cX10_rename, 3, some .boolean)
theorem lm_X10_rename : zLM mu_X10_rename := ⟨ti_3 197 rfl rfl, ti_1 1 rfl rfl, ⟨by decide, by decide⟩, by decide⟩
abbrev mu_X10_undo : zMu := (RX10, yX10_undo, cX10_undo, 2, some .int)
theorem lm_X10_undo : zLM mu_X10_undo := ⟨ti_3 208 rfl rfl, ti_1 1 rfl rfl, ⟨by decide, by decide⟩, by decide⟩
abbrev mu_X10_image : zMu := (RX10, yX10_image, cX10_image, 2, some .boolean)
theorem lm_X10_image : zLM mu_X10_image := ⟨ti_3 223 rfl rfl, ti_1 1 rfl rfl, ⟨by decide, by decide⟩, by decide⟩
abbrev mu_X10_badImage : zMu := (RX10, yX10_badImage, cX10_badImage, 2, some .int)
theorem lm_X10_badImage : zLM mu_X10_badImage := ⟨ti_3 231 rfl rfl, ti_1 1 rfl rfl, ⟨by decide, by decide⟩, by decide⟩
abbrev mu_X10_imageAt : zMu := (RX10, yX10_imageAt, cX10_imageAt, 2, some .int)
theorem lm_X10_imageAt : zLM mu_X10_imageAt := ⟨ti_3 235 rfl rfl, ti_1 1 rfl rfl, ⟨by decide, by decide⟩, by decide⟩
abbrev mu_X10_like : zMu := (RX10, yX10_like, cX10_like, 3, some .int)
theorem lm_X10_like : zLM mu_X10_like := ⟨ti_3 227 rfl rfl, ti_1 1 rfl rfl, ⟨by decide, by decide⟩, by decide⟩
abbrev mu_X10_order : zMu := (RX10, yX10_order, cX10_order, 2, some .int)
theorem lm_X10_order : zLM mu_X10_order := ⟨ti_3 239 rfl rfl, ti_1 1 rfl rfl, ⟨by decide, by decide⟩, by decide⟩
abbrev mu_X10_badSplit : zMu := (RX10, yX10_badSplit, cX10_badSplit, 2, some .int)
theorem lm_X10_badSplit : zLM mu_X10_badSplit := ⟨ti_4 8 rfl rfl, ti_1 1 rfl rfl, ⟨by decide, by decide⟩, by decide⟩
abbrev mu_X10_split : zMu := (RX10, yX10_split, cX10_split, 3, some .int)
theorem lm_X10_split : zLM mu_X10_split := ⟨ti_4 4 rfl rfl, ti_1 1 rfl rfl, ⟨by decide, by decide⟩, by decide⟩
abbrev mu_X10_strong : zMu := (RX10, yX10_strong, cX10_strong, 3, some .int)
theorem lm_X10_strong : zLM mu_X10_strong := ⟨ti_4 17 rfl rfl, ti_1 1 rfl rfl, ⟨by decide, by decide⟩, by decide⟩
abbrev mu_X10_prime : zMu := (RX10, yX10_prime, cX10_prime, 1, some .int)
theorem lm_X10_prime : zLM mu_X10_prime := ⟨ti_4 30 rfl rfl, ti_1 1 rfl rfl, ⟨by decide, by decide⟩, by decide⟩
abbrev mu_X10_piece : zMu := (RX10, yX10_piece, cX10_piece, 3, some .int)
theorem lm_X10_piece : zLM mu_X10_piece := ⟨ti_4 38 rfl rfl, ti_1 1 rfl rfl, ⟨by decide, by decide⟩, by decide⟩
abbrev mu_X10_badKnot : zMu := (RX10, yX10_badKnot, cX10_badKnot, 3, some .int)
theorem lm_X10_badKnot : zLM mu_X10_badKnot := ⟨ti_4 67 rfl rfl, ti_1 1 rfl rfl, ⟨by decide, by decide⟩, by decide⟩
abbrev mu_X10_knot : zMu := (RX10, yX10_knot, cX10_knot, 4, some .int)
theorem lm_X10_knot : zLM mu_X10_knot := ⟨ti_4 63 rfl rfl, ti_1 1 rfl rfl, ⟨by decide, by decide⟩, by decide⟩
abbrev mu_X10_ties : zMu := (RX10, yX10_ties, cX10_ties, 4, some .int)
theorem lm_X10_ties : zLM mu_X10_ties := ⟨ti_4 72 rfl rfl, ti_1 1 rfl rfl, ⟨by decide, by decide⟩, by decide⟩
abbrev mu_X10_plain : zMu := (RX10, yX10_plain, cX10_plain, 1, some .int)
theorem lm_X10_plain : zLM mu_X10_plain := ⟨ti_4 80 rfl rfl, ti_1 1 rfl rfl, ⟨by decide, by decide⟩, by decide⟩
abbrev mu_X10_twins : zMu := (RX10, yX10_twins, cX10_twins, 2, some .int)
theorem lm_X10_twins : zLM mu_X10_twins := ⟨ti_4 89 rfl rfl, ti_1 1 rfl rfl, ⟨by decide, by decide⟩, by decide⟩
abbrev mu_X10_most : zMu := (RX10, yX10_most, cX10_most, 2, some .int)
theorem lm_X10_most : zLM mu_X10_most := ⟨ti_4 105 rfl rfl, ti_1 1 rfl rfl, ⟨by decide, by decide⟩, by decide⟩
abbrev mu_X10_colours : zMu := (RX10, yX10_colours, cX10_colours, 2, some .int)
theorem lm_X10_colours : zLM mu_X10_colours := ⟨ti_4 112 rfl rfl, ti_1 1 rfl rfl, ⟨by decide, by decide⟩, by decide⟩
abbrev mu_X10_paintings : zMu := (RX10, yX10_paintings, cX10_paintings, 2, some .long)
theorem lm_X10_paintings : zLM mu_X10_paintings := ⟨ti_4 120 rfl rfl, ti_1 1 rfl rfl, ⟨by decide, by decide⟩, by decide⟩
abbrev mu_X10_hasModel : zMu := (RX10, yX10_hasModel, cX10_hasModel, 2, some .boolean)
theorem lm_X10_hasModel : zLM mu_X10_hasModel := ⟨ti_4 128 rfl rfl, ti_1 1 rfl rfl, ⟨by decide, by decide⟩, by decide⟩
abbrev mu_X10_letter : zMu := (RX10, yX10_letter, cX10_letter, 3, some .int)
theorem lm_X10_letter : zLM mu_X10_letter := ⟨ti_4 124 rfl rfl, ti_1 1 rfl rfl, ⟨by decide, by decide⟩, by decide⟩
abbrev mu_X10_badModelPoint : zMu := (RX10, yX10_badModelPoint, cX10_badModelPoint, 3, some .int)
theorem lm_X10_badModelPoint : zLM mu_X10_badModelPoint := ⟨ti_4 145 rfl rfl, ti_1 1 rfl rfl, ⟨by decide, by decide⟩, by decide⟩
abbrev mu_X10_span : zMu := (RX10, yX10_span, cX10_span, 4, some .int)
theorem lm_X10_span : zLM mu_X10_span := ⟨ti_4 141 rfl rfl, ti_1 1 rfl rfl, ⟨by decide, by decide⟩, by decide⟩
abbrev mu_X10_bitsOf : zMu := (RX10, yX10_bitsOf, cX10_bitsOf, 4, some .int)
theorem lm_X10_bitsOf : zLM mu_X10_bitsOf := ⟨ti_4 168 rfl rfl, ti_1 1 rfl rfl, ⟨by decide, by decide⟩, by decide⟩
abbrev mu_X10_mean : zMu := (RX10, yX10_mean, cX10_mean, 4, some .int)
theorem lm_X10_mean : zLM mu_X10_mean := ⟨ti_4 154 rfl rfl, ti_1 1 rfl rfl, ⟨by decide, by decide⟩, by decide⟩
abbrev mu_X10_find : zMu := (RX10, yX10_find, cX10_find, 3, some .int)
theorem lm_X10_find : zLM mu_X10_find := ⟨ti_4 174 rfl rfl, ti_1 1 rfl rfl, ⟨by decide, by decide⟩, by decide⟩
abbrev mu_X10_cross : zMu := (RX10, yX10_cross, cX10_cross, 6, some .int)
theorem lm_X10_cross : zLM mu_X10_cross := ⟨ti_4 200 rfl rfl, ti_1 1 rfl rfl, ⟨by decide, by decide⟩, by decide⟩
abbrev mu_X10_fits : zMu := (RX10, yX10_fits, cX10_fits, 3, some .int)
theorem lm_X10_fits : zLM mu_X10_fits := ⟨ti_4 206 rfl rfl, ti_1 1 rfl rfl, ⟨by decide, by decide⟩, by decide⟩
abbrev mu_X10_gap : zMu := (RX10, yX10_gap, cX10_gap, 6, some .int)
theorem lm_X10_gap : zLM mu_X10_gap := ⟨ti_4 216 rfl rfl, ti_1 1 rfl rfl, ⟨by decide, by decide⟩, by decide⟩
abbrev mu_X10_could : zMu := (RX10, yX10_could, cX10_could, 4, some .int)
theorem lm_X10_could : zLM mu_X10_could := ⟨ti_4 223 rfl rfl, ti_1 1 rfl rfl, ⟨by decide, by decide⟩, by decide⟩
abbrev mu_X10_beside : zMu := (RX10, yX10_beside, cX10_beside, 6, some .int)
theorem lm_X10_beside : zLM mu_X10_beside := ⟨ti_4 231 rfl rfl, ti_1 1 rfl rfl, ⟨by decide, by decide⟩, by decide⟩
abbrev mu_X10_turned : zMu := (RX10, yX10_turned, cX10_turned, 4, some .int)
theorem lm_X10_turned : zLM mu_X10_turned := ⟨ti_4 239 rfl rfl, ti_1 1 rfl rfl, ⟨by decide, by decide⟩, by decide⟩
abbrev mu_X10_partHasModel : zMu := (RX10, yX10_partHasModel, cX10_partHasModel, 2, some .boolean)
theorem lm_X10_partHasModel : zLM mu_X10_partHasModel := ⟨ti_5 14 rfl rfl, ti_1 1 rfl rfl, ⟨by decide, by decide⟩, by decide⟩
abbrev mu_X10_findObstruction : zMu := (RX10, yX10_findObstruction, cX10_findObstruction, 3, some .int)
theorem lm_X10_findObstruction : zLM mu_X10_findObstruction := ⟨ti_5 10 rfl rfl, ti_1 1 rfl rfl, ⟨by decide, by decide⟩, by decide⟩
abbrev mu_X10_obstruction : zMu := (RX10, yX10_obstruction, cX10_obstruction, 2, some .int)
theorem lm_X10_obstruction : zLM mu_X10_obstruction := ⟨ti_5 6 rfl rfl, ti_1 1 rfl rfl, ⟨by decide, by decide⟩, by decide⟩
abbrev mu_X10_obstructions : zMu := (RX10, yX10_obstructions, cX10_obstructions, 4, some .int)
theorem lm_X10_obstructions : zLM mu_X10_obstructions := ⟨ti_5 18 rfl rfl, ti_1 1 rfl rfl, ⟨by decide, by decide⟩, by decide⟩
abbrev mu_X10_family : zMu := (RX10, yX10_family, cX10_family, 2, some .int)
theorem lm_X10_family : zLM mu_X10_family := ⟨ti_5 22 rfl rfl, ti_1 1 rfl rfl, ⟨by decide, by decide⟩, by decide⟩
abbrev mu_X10_turns : zMu := (RX10, yX10_turns, cX10_turns, 5, some .int)
theorem lm_X10_turns : zLM mu_X10_turns := ⟨ti_5 45 rfl rfl, ti_1 1 rfl rfl, ⟨by decide, by decide⟩, by decide⟩
abbrev mu_X10_within : zMu := (RX10, yX10_within, cX10_within, 5, some .int)
theorem lm_X10_within : zLM mu_X10_within := ⟨ti_5 53 rfl rfl, ti_1 1 rfl rfl, ⟨by decide, by decide⟩, by decide⟩
abbrev mu_X10_shuffle : zMu := (RX10, yX10_shuffle, cX10_shuffle, 3, some .int)
theorem lm_X10_shuffle : zLM mu_X10_shuffle := ⟨ti_5 63 rfl rfl, ti_1 1 rfl rfl, ⟨by decide, by decide⟩, by decide⟩
abbrev mu_X10_sample : zMu := (RX10, yX10_sample, cX10_sample, 5, some .int)
theorem lm_X10_sample : zLM mu_X10_sample := ⟨ti_5 82 rfl rfl, ti_1 1 rfl rfl, ⟨by decide, by decide⟩, by decide⟩
abbrev mu_X11_init : zMu := (RX11, yX11_init, cX11_init, 1, none)
theorem lm_X11_init : zLM mu_X11_init := ⟨ti_5 96 rfl rfl, ti_1 11 rfl rfl, ⟨by decide, by decide⟩, by decide⟩
abbrev mu_X11_status : zMu := (RX11, yX11_status, cX11_status, 1, some .int)
theorem lm_X11_status : zLM mu_X11_status := ⟨ti_6 19 rfl rfl, ti_1 11 rfl rfl, ⟨by decide, by decide⟩, by decide⟩
abbrev mu_X11_refuse : zMu := (RX11, yX11_refuse, cX11_refuse, 2, some .int)
theorem lm_X11_refuse : zLM mu_X11_refuse := ⟨ti_6 38 rfl rfl, ti_1 11 rfl rfl, ⟨by decide, by decide⟩, by decide⟩
abbrev mu_X11_isSo : zMu := (RX11, yX11_isSo, cX11_isSo, 2, some .boolean)
theorem lm_X11_isSo : zLM mu_X11_isSo := ⟨ti_7 77 rfl rfl, ti_1 11 rfl rfl, ⟨by decide, by decide⟩, by decide⟩
abbrev mu_X11_gives : zMu := (RX11, yX11_gives, cX11_gives, 2, some .int)
theorem lm_X11_gives : zLM mu_X11_gives := ⟨ti_6 139 rfl rfl, ti_1 11 rfl rfl, ⟨by decide, by decide⟩, by decide⟩
abbrev mu_X11_isFrom : zMu := (RX11, yX11_isFrom, cX11_isFrom, 3, some .boolean)
theorem lm_X11_isFrom : zLM mu_X11_isFrom := ⟨ti_6 34 rfl rfl, ti_1 11 rfl rfl, ⟨by decide, by decide⟩, by decide⟩
abbrev mu_X11_has : zMu := (RX11, yX11_has, cX11_has, 2, some .boolean)
theorem lm_X11_has : zLM mu_X11_has := ⟨ti_6 86 rfl rfl, ti_1 11 rfl rfl, ⟨by decide, by decide⟩, by decide⟩
abbrev mu_X11_bits : zMu := (RX11, yX11_bits, cX11_bits, 3, some .int)
theorem lm_X11_bits : zLM mu_X11_bits := ⟨ti_6 154 rfl rfl, ti_1 11 rfl rfl, ⟨by decide, by decide⟩, by decide⟩
abbrev mu_X11_lowest : zMu := (RX11, yX11_lowest, cX11_lowest, 2, some .int)
theorem lm_X11_lowest : zLM mu_X11_lowest := ⟨ti_6 165 rfl rfl, ti_1 11 rfl rfl, ⟨by decide, by decide⟩, by decide⟩
abbrev mu_X11_all : zMu := (RX11, yX11_all, cX11_all, 1, some .int)
theorem lm_X11_all : zLM mu_X11_all := ⟨ti_6 177 rfl rfl, ti_1 11 rfl rfl, ⟨by decide, by decide⟩, by decide⟩
abbrev mu_X11_isPoint : zMu := (RX11, yX11_isPoint, cX11_isPoint, 2, some .boolean)
theorem lm_X11_isPoint : zLM mu_X11_isPoint := ⟨ti_7 34 rfl rfl, ti_1 11 rfl rfl, ⟨by decide, by decide⟩, by decide⟩
abbrev mu_X11_isSet : zMu := (RX11, yX11_isSet, cX11_isSet, 2, some .boolean)
theorem lm_X11_isSet : zLM mu_X11_isSet := ⟨ti_7 42 rfl rfl, ti_1 11 rfl rfl, ⟨by decide, by decide⟩, by decide⟩
abbrev mu_X11_flips : zMu := (RX11, yX11_flips, cX11_flips, 3, none)
theorem lm_X11_flips : zLM mu_X11_flips := ⟨ti_6 111 rfl rfl, ti_1 11 rfl rfl, ⟨by decide, by decide⟩, by decide⟩
abbrev mu_X11_turns0 : zMu := (RX11, yX11_turns0, cX11_turns0, 4, none)
theorem lm_X11_turns0 : zLM mu_X11_turns0 := ⟨ti_6 107 rfl rfl, ti_1 11 rfl rfl, ⟨by decide, by decide⟩, by decide⟩
abbrev mu_X11_swings : zMu := (RX11, yX11_swings, cX11_swings, 4, none)
theorem lm_X11_swings : zLM mu_X11_swings := ⟨ti_6 102 rfl rfl, ti_1 11 rfl rfl, ⟨by decide, by decide⟩, by decide⟩
abbrev mu_X11_lines : zMu := (RX11, yX11_lines, cX11_lines, 3, some .int)
theorem lm_X11_lines : zLM mu_X11_lines := ⟨ti_6 151 rfl rfl, ti_1 11 rfl rfl, ⟨by decide, by decide⟩, by decide⟩
abbrev mu_X11_joined : zMu := (RX11, yX11_joined, cX11_joined, 5, some .int)
theorem lm_X11_joined : zLM mu_X11_joined := ⟨ti_6 162 rfl rfl, ti_1 11 rfl rfl, ⟨by decide, by decide⟩, by decide⟩
abbrev mu_X11_sets : zMu := (RX11, yX11_sets, cX11_sets, 3, some .int)
theorem lm_X11_sets : zLM mu_X11_sets := ⟨ti_6 158 rfl rfl, ti_1 11 rfl rfl, ⟨by decide, by decide⟩, by decide⟩
abbrev mu_X11_areJoined : zMu := (RX11, yX11_areJoined, cX11_areJoined, 1, some .boolean)
theorem lm_X11_areJoined : zLM mu_X11_areJoined := ⟨ti_6 169 rfl rfl, ti_1 11 rfl rfl, ⟨by decide, by decide⟩, by decide⟩
abbrev mu_X11_four : zMu := (RX11, yX11_four, cX11_four, 3, none)
theorem lm_X11_four : zLM mu_X11_four := ⟨ti_6 27 rfl rfl, ti_1 11 rfl rfl, ⟨by decide, by decide⟩, by decide⟩
abbrev mu_X11_feed : zMu := (RX11, yX11_feed, cX11_feed, 6, some .int)
theorem lm_X11_feed : zLM mu_X11_feed := ⟨ti_6 23 rfl rfl, ti_1 11 rfl rfl, ⟨by decide, by decide⟩, by decide⟩
abbrev mu_X11_byteAt : zMu := (RX11, yX11_byteAt, cX11_byteAt, 2, some .int)
theorem lm_X11_byteAt : zLM mu_X11_byteAt := ⟨ti_6 50 rfl rfl, ti_1 11 rfl rfl, ⟨by decide, by decide⟩, by decide⟩
abbrev mu_X11_isSmall : zMu := (RX11, yX11_isSmall, cX11_isSmall, 1, some .boolean)
theorem lm_X11_isSmall : zLM mu_X11_isSmall := ⟨ti_6 53 rfl rfl, ti_1 11 rfl rfl, ⟨by decide, by decide⟩, by decide⟩
abbrev mu_X11_isDigit : zMu := (RX11, yX11_isDigit, cX11_isDigit, 1, some .boolean)
theorem lm_X11_isDigit : zLM mu_X11_isDigit := ⟨ti_6 56 rfl rfl, ti_1 11 rfl rfl, ⟨by decide, by decide⟩, by decide⟩
abbrev mu_X11_ahead : zMu := (RX11, yX11_ahead, cX11_ahead, 2, none)
theorem lm_X11_ahead : zLM mu_X11_ahead := ⟨ti_6 46 rfl rfl, ti_1 11 rfl rfl, ⟨by decide, by decide⟩, by decide⟩
abbrev mu_X11_key : zMu := (RX11, yX11_key, cX11_key, 6, some .int)
theorem lm_X11_key : zLM mu_X11_key := ⟨ti_6 64 rfl rfl, ti_1 11 rfl rfl, ⟨by decide, by decide⟩, by decide⟩
abbrev mu_X11_fails : zMu := (RX11, yX11_fails, cX11_fails, 2, some .boolean)
theorem lm_X11_fails : zLM mu_X11_fails := ⟨ti_6 71 rfl rfl, ti_1 11 rfl rfl, ⟨by decide, by decide⟩, by decide⟩
abbrev mu_X11_digit : zMu := (RX11, yX11_digit, cX11_digit, 1, some .int)
theorem lm_X11_digit : zLM mu_X11_digit := ⟨ti_6 79 rfl rfl, ti_1 11 rfl rfl, ⟨by decide, by decide⟩, by decide⟩
abbrev mu_X11_closes : zMu := (RX11, yX11_closes, cX11_closes, 1, some .boolean)
theorem lm_X11_closes : zLM mu_X11_closes := ⟨ti_6 90 rfl rfl, ti_1 11 rfl rfl, ⟨by decide, by decide⟩, by decide⟩
abbrev mu_X11_comes : zMu := (RX11, yX11_comes, cX11_comes, 3, none)
theorem lm_X11_comes : zLM mu_X11_comes := ⟨ti_6 83 rfl rfl, ti_1 11 rfl rfl, ⟨by decide, by decide⟩, by decide⟩
abbrev mu_X11_morePoints : zMu := (RX11, yX11_morePoints, cX11_morePoints, 3, some .boolean)
theorem lm_X11_morePoints : zLM mu_X11_morePoints := ⟨ti_6 75 rfl rfl, ti_1 11 rfl rfl, ⟨by decide, by decide⟩, by decide⟩
abbrev mu_X11_pointHere : zMu := (RX11, yX11_pointHere, cX11_pointHere, 2, some .int)
theorem lm_X11_pointHere : zLM mu_X11_pointHere := ⟨ti_6 98 rfl rfl, ti_1 11 rfl rfl, ⟨by decide, by decide⟩, by decide⟩
abbrev mu_X11_two : zMu := (RX11, yX11_two, cX11_two, 4, some .boolean)
theorem lm_X11_two : zLM mu_X11_two := ⟨ti_6 94 rfl rfl, ti_1 11 rfl rfl, ⟨by decide, by decide⟩, by decide⟩
abbrev mu_X11_counts : zMu := (RX11, yX11_counts, cX11_counts, 6, none)
theorem lm_X11_counts : zLM mu_X11_counts := ⟨ti_6 119 rfl rfl, ti_1 11 rfl rfl, ⟨by decide, by decide⟩, by decide⟩
abbrev mu_X11_isCrossed : zMu := (RX11, yX11_isCrossed, cX11_isCrossed, 5, some .boolean)
theorem lm_X11_isCrossed : zLM mu_X11_isCrossed := ⟨ti_6 123 rfl rfl, ti_1 11 rfl rfl, ⟨by decide, by decide⟩, by decide⟩
abbrev mu_X11_aCross : zMu := (RX11, yX11_aCross, cX11_aCross, 6, some .boolean)
theorem lm_X11_aCross : zLM mu_X11_aCross := ⟨ti_6 115 rfl rfl, ti_1 11 rfl rfl, ⟨by decide, by decide⟩, by decide⟩
abbrev mu_X11_aTurn : zMu := (RX11, yX11_aTurn, cX11_aTurn, 2, some .boolean)
theorem lm_X11_aTurn : zLM mu_X11_aTurn := ⟨ti_6 127 rfl rfl, ti_1 11 rfl rfl, ⟨by decide, by decide⟩, by decide⟩
abbrev mu_X11_aLine : zMu := (RX11, yX11_aLine, cX11_aLine, 2, some .boolean)
theorem lm_X11_aLine : zLM mu_X11_aLine := ⟨ti_6 60 rfl rfl, ti_1 11 rfl rfl, ⟨by decide, by decide⟩, by decide⟩
abbrev mu_X11_puts : zMu := (RX11, yX11_puts, cX11_puts, 4, none)
theorem lm_X11_puts : zLM mu_X11_puts := ⟨ti_6 42 rfl rfl, ti_1 11 rfl rfl, ⟨by decide, by decide⟩, by decide⟩
abbrev mu_X11_brings : zMu := (RX11, yX11_brings, cX11_brings, 4, none)
theorem lm_X11_brings : zLM mu_X11_brings := ⟨ti_6 131 rfl rfl, ti_1 11 rfl rfl, ⟨by decide, by decide⟩, by decide⟩
abbrev mu_X11_acted : zMu := (RX11, yX11_acted, cX11_acted, 2, none)
theorem lm_X11_acted : zLM mu_X11_acted := ⟨ti_6 135 rfl rfl, ti_1 11 rfl rfl, ⟨by decide, by decide⟩, by decide⟩
abbrev mu_X11_load : zMu := (RX11, yX11_load, cX11_load, 3, some .int)
theorem lm_X11_load : zLM mu_X11_load := ⟨ti_6 31 rfl rfl, ti_1 11 rfl rfl, ⟨by decide, by decide⟩, by decide⟩
abbrev mu_X11_fault : zMu := (RX11, yX11_fault, cX11_fault, 2, some .int)
theorem lm_X11_fault : zLM mu_X11_fault := ⟨ti_6 143 rfl rfl, ti_1 11 rfl rfl, ⟨by decide, by decide⟩, by decide⟩
abbrev mu_X11_begins : zMu := (RX11, yX11_begins, cX11_begins, 1, none)
theorem lm_X11_begins : zLM mu_X11_begins := ⟨ti_7 46 rfl rfl, ti_1 11 rfl rfl, ⟨by decide, by decide⟩, by decide⟩
abbrev mu_X11_canSplit : zMu := (RX11, yX11_canSplit, cX11_canSplit, 2, some .boolean)
theorem lm_X11_canSplit : zLM mu_X11_canSplit := ⟨ti_6 180 rfl rfl, ti_1 11 rfl rfl, ⟨by decide, by decide⟩, by decide⟩
abbrev mu_X11_rank : zMu := (RX11, yX11_rank, cX11_rank, 9, some .int)
theorem lm_X11_rank : zLM mu_X11_rank := ⟨ti_6 184 rfl rfl, ti_1 11 rfl rfl, ⟨by decide, by decide⟩, by decide⟩
abbrev mu_X11_splits : zMu := (RX11, yX11_splits, cX11_splits, 4, some .int)
theorem lm_X11_splits : zLM mu_X11_splits := ⟨ti_6 173 rfl rfl, ti_1 11 rfl rfl, ⟨by decide, by decide⟩, by decide⟩
abbrev mu_X11_laysPiece : zMu := (RX11, yX11_laysPiece, cX11_laysPiece, 10, none)
theorem lm_X11_laysPiece : zLM mu_X11_laysPiece := ⟨ti_6 192 rfl rfl, ti_1 11 rfl rfl, ⟨by decide, by decide⟩, by decide⟩
abbrev mu_X11_firstSplit : zMu := (RX11, yX11_firstSplit, cX11_firstSplit, 4, some .int)
theorem lm_X11_firstSplit : zLM mu_X11_firstSplit := ⟨ti_6 200 rfl rfl, ti_1 11 rfl rfl, ⟨by decide, by decide⟩, by decide⟩
abbrev mu_X11_takesApart : zMu := (RX11, yX11_takesApart, cX11_takesApart, 5, some .boolean)
theorem lm_X11_takesApart : zLM mu_X11_takesApart := ⟨ti_6 196 rfl rfl, ti_1 11 rfl rfl, ⟨by decide, by decide⟩, by decide⟩
abbrev mu_X11_laysPieces : zMu := (RX11, yX11_laysPieces, cX11_laysPieces, 3, none)
theorem lm_X11_laysPieces : zLM mu_X11_laysPieces := ⟨ti_6 188 rfl rfl, ti_1 11 rfl rfl, ⟨by decide, by decide⟩, by decide⟩
abbrev mu_X11_length : zMu := (RX11, yX11_length, cX11_length, 1, some .int)
theorem lm_X11_length : zLM mu_X11_length := ⟨ti_6 216 rfl rfl, ti_1 11 rfl rfl, ⟨by decide, by decide⟩, by decide⟩
abbrev mu_X11_read : zMu := (RX11, yX11_read, cX11_read, 5, some .int)
theorem lm_X11_read : zLM mu_X11_read := ⟨ti_6 230 rfl rfl, ti_1 11 rfl rfl, ⟨by decide, by decide⟩, by decide⟩
abbrev mu_X11_isLessRead : zMu := (RX11, yX11_isLessRead, cX11_isLessRead, 9, some .boolean)
theorem lm_X11_isLessRead : zLM mu_X11_isLessRead := ⟨ti_6 227 rfl rfl, ti_1 11 rfl rfl, ⟨by decide, by decide⟩, by decide⟩
abbrev mu_X11_isLeast : zMu := (RX11, yX11_isLeast, cX11_isLeast, 3, some .boolean)
theorem lm_X11_isLeast : zLM mu_X11_isLeast := ⟨ti_6 224 rfl rfl, ti_1 11 rfl rfl, ⟨by decide, by decide⟩, by decide⟩
abbrev mu_X11_areBeside : zMu := (RX11, yX11_areBeside, cX11_areBeside, 4, some .boolean)
theorem lm_X11_areBeside : zLM mu_X11_areBeside := ⟨ti_6 234 rfl rfl, ti_1 11 rfl rfl, ⟨by decide, by decide⟩, by decide⟩
abbrev mu_X11_gaps : zMu := (RX11, yX11_gaps, cX11_gaps, 8, some .int)
theorem lm_X11_gaps : zLM mu_X11_gaps := ⟨ti_6 238 rfl rfl, ti_1 11 rfl rfl, ⟨by decide, by decide⟩, by decide⟩
abbrev mu_X11_isLessThanAsked : zMu := (RX11, yX11_isLessThanAsked, cX11_isLessThanAsked, 2, some .boolean)
theorem lm_X11_isLessThanAsked : zLM mu_X11_isLessThanAsked := ⟨ti_7 2 rfl rfl, ti_1 11 rfl rfl, ⟨by decide, by decide⟩, by decide⟩
abbrev mu_X11_isModel : zMu := (RX11, yX11_isModel, cX11_isModel, 2, none)
theorem lm_X11_isModel : zLM mu_X11_isModel := ⟨ti_6 220 rfl rfl, ti_1 11 rfl rfl, ⟨by decide, by decide⟩, by decide⟩
abbrev mu_X11_between : zMu := (RX11, yX11_between, cX11_between, 6, some .int)
theorem lm_X11_between : zLM mu_X11_between := ⟨ti_7 9 rfl rfl, ti_1 11 rfl rfl, ⟨by decide, by decide⟩, by decide⟩
abbrev mu_X11_closesWell : zMu := (RX11, yX11_closesWell, cX11_closesWell, 4, some .boolean)
theorem lm_X11_closesWell : zLM mu_X11_closesWell := ⟨ti_7 6 rfl rfl, ti_1 11 rfl rfl, ⟨by decide, by decide⟩, by decide⟩
abbrev mu_X11_grows : zMu := (RX11, yX11_grows, cX11_grows, 3, none)
theorem lm_X11_grows : zLM mu_X11_grows := ⟨ti_6 212 rfl rfl, ti_1 11 rfl rfl, ⟨by decide, by decide⟩, by decide⟩
abbrev mu_X11_goes : zMu := (RX11, yX11_goes, cX11_goes, 3, some .int)
theorem lm_X11_goes : zLM mu_X11_goes := ⟨ti_6 208 rfl rfl, ti_1 11 rfl rfl, ⟨by decide, by decide⟩, by decide⟩
abbrev mu_X11_models : zMu := (RX11, yX11_models, cX11_models, 2, some .int)
theorem lm_X11_models : zLM mu_X11_models := ⟨ti_6 204 rfl rfl, ti_1 11 rfl rfl, ⟨by decide, by decide⟩, by decide⟩
abbrev mu_X11_pair : zMu := (RX11, yX11_pair, cX11_pair, 2, some .int)
theorem lm_X11_pair : zLM mu_X11_pair := ⟨ti_7 19 rfl rfl, ti_1 11 rfl rfl, ⟨by decide, by decide⟩, by decide⟩
abbrev mu_X11_codeOf : zMu := (RX11, yX11_codeOf, cX11_codeOf, 6, some .int)
theorem lm_X11_codeOf : zLM mu_X11_codeOf := ⟨ti_7 16 rfl rfl, ti_1 11 rfl rfl, ⟨by decide, by decide⟩, by decide⟩
abbrev mu_X11_turnedCode : zMu := (RX11, yX11_turnedCode, cX11_turnedCode, 6, some .int)
theorem lm_X11_turnedCode : zLM mu_X11_turnedCode := ⟨ti_7 22 rfl rfl, ti_1 11 rfl rfl, ⟨by decide, by decide⟩, by decide⟩
abbrev mu_X11_isNew : zMu := (RX11, yX11_isNew, cX11_isNew, 3, some .boolean)
theorem lm_X11_isNew : zLM mu_X11_isNew := ⟨ti_7 26 rfl rfl, ti_1 11 rfl rfl, ⟨by decide, by decide⟩, by decide⟩
abbrev mu_X11_laysClass : zMu := (RX11, yX11_laysClass, cX11_laysClass, 5, some .int)
theorem lm_X11_laysClass : zLM mu_X11_laysClass := ⟨ti_7 13 rfl rfl, ti_1 11 rfl rfl, ⟨by decide, by decide⟩, by decide⟩
abbrev mu_X11_many : zMu := (RX11, yX11_many, cX11_many, 2, some .int)
theorem lm_X11_many : zLM mu_X11_many := ⟨ti_6 147 rfl rfl, ti_1 11 rfl rfl, ⟨by decide, by decide⟩, by decide⟩
abbrev mu_X11_near : zMu := (RX11, yX11_near, cX11_near, 2, some .int)
theorem lm_X11_near : zLM mu_X11_near := ⟨ti_7 30 rfl rfl, ti_1 11 rfl rfl, ⟨by decide, by decide⟩, by decide⟩
abbrev mu_X11_add : zMu := (RX11, yX11_add, cX11_add, 2, some .int)
theorem lm_X11_add : zLM mu_X11_add := ⟨ti_7 38 rfl rfl, ti_1 11 rfl rfl, ⟨by decide, by decide⟩, by decide⟩
abbrev mu_X11_without : zMu := (RX11, yX11_without, cX11_without, 2, some .int)
theorem lm_X11_without : zLM mu_X11_without := ⟨ti_7 53 rfl rfl, ti_1 11 rfl rfl, ⟨by decide, by decide⟩, by decide⟩
abbrev mu_X11_drop : zMu := (RX11, yX11_drop, cX11_drop, 3, some .int)
theorem lm_X11_drop : zLM mu_X11_drop := ⟨ti_7 50 rfl rfl, ti_1 11 rfl rfl, ⟨by decide, by decide⟩, by decide⟩
abbrev mu_X11_wrongTwo : zMu := (RX11, yX11_wrongTwo, cX11_wrongTwo, 3, some .int)
theorem lm_X11_wrongTwo : zLM mu_X11_wrongTwo := ⟨ti_7 61 rfl rfl, ti_1 11 rfl rfl, ⟨by decide, by decide⟩, by decide⟩
abbrev mu_X11_flip : zMu := (RX11, yX11_flip, cX11_flip, 4, some .int)
theorem lm_X11_flip : zLM mu_X11_flip := ⟨ti_7 57 rfl rfl, ti_1 11 rfl rfl, ⟨by decide, by decide⟩, by decide⟩
abbrev mu_X11_turn : zMu := (RX11, yX11_turn, cX11_turn, 2, some .int)
theorem lm_X11_turn : zLM mu_X11_turn := ⟨ti_7 65 rfl rfl, ti_1 11 rfl rfl, ⟨by decide, by decide⟩, by decide⟩
abbrev mu_X11_swing : zMu := (RX11, yX11_swing, cX11_swing, 4, some .int)
theorem lm_X11_swing : zLM mu_X11_swing := ⟨ti_7 69 rfl rfl, ti_1 11 rfl rfl, ⟨by decide, by decide⟩, by decide⟩
abbrev mu_X11_rename : zMu := (RX11, yX11_rename, cX11_rename, 6, some .boolean)
theorem lm_X11_rename : zLM mu_X11_rename := ⟨ti_7 73 rfl rfl, ti_1 11 rfl rfl, ⟨by decide, by decide⟩, by decide⟩
abbrev mu_X11_undo : zMu := (RX11, yX11_undo, cX11_undo, 1, some .int)
theorem lm_X11_undo : zLM mu_X11_undo := ⟨ti_7 81 rfl rfl, ti_1 11 rfl rfl, ⟨by decide, by decide⟩, by decide⟩
abbrev mu_X11_image : zMu := (RX11, yX11_image, cX11_image, 2, some .boolean)
theorem lm_X11_image : zLM mu_X11_image := ⟨ti_7 85 rfl rfl, ti_1 11 rfl rfl, ⟨by decide, by decide⟩, by decide⟩
abbrev mu_X11_wrongImage : zMu := (RX11, yX11_wrongImage, cX11_wrongImage, 2, some .int)
theorem lm_X11_wrongImage : zLM mu_X11_wrongImage := ⟨ti_7 93 rfl rfl, ti_1 11 rfl rfl, ⟨by decide, by decide⟩, by decide⟩
abbrev mu_X11_like : zMu := (RX11, yX11_like, cX11_like, 5, some .int)
theorem lm_X11_like : zLM mu_X11_like := ⟨ti_7 89 rfl rfl, ti_1 11 rfl rfl, ⟨by decide, by decide⟩, by decide⟩
abbrev mu_X11_order : zMu := (RX11, yX11_order, cX11_order, 2, some .int)
theorem lm_X11_order : zLM mu_X11_order := ⟨ti_7 97 rfl rfl, ti_1 11 rfl rfl, ⟨by decide, by decide⟩, by decide⟩
abbrev mu_X11_wrongSplit : zMu := (RX11, yX11_wrongSplit, cX11_wrongSplit, 2, some .int)
theorem lm_X11_wrongSplit : zLM mu_X11_wrongSplit := ⟨ti_7 105 rfl rfl, ti_1 11 rfl rfl, ⟨by decide, by decide⟩, by decide⟩
abbrev mu_X11_split : zMu := (RX11, yX11_split, cX11_split, 3, some .int)
theorem lm_X11_split : zLM mu_X11_split := ⟨ti_7 101 rfl rfl, ti_1 11 rfl rfl, ⟨by decide, by decide⟩, by decide⟩
abbrev mu_X11_isStrong : zMu := (RX11, yX11_isStrong, cX11_isStrong, 5, some .boolean)
theorem lm_X11_isStrong : zLM mu_X11_isStrong := ⟨ti_7 113 rfl rfl, ti_1 11 rfl rfl, ⟨by decide, by decide⟩, by decide⟩
abbrev mu_X11_strong : zMu := (RX11, yX11_strong, cX11_strong, 3, some .int)
theorem lm_X11_strong : zLM mu_X11_strong := ⟨ti_7 109 rfl rfl, ti_1 11 rfl rfl, ⟨by decide, by decide⟩, by decide⟩
abbrev mu_X11_prime : zMu := (RX11, yX11_prime, cX11_prime, 1, some .int)
theorem lm_X11_prime : zLM mu_X11_prime := ⟨ti_7 117 rfl rfl, ti_1 11 rfl rfl, ⟨by decide, by decide⟩, by decide⟩
abbrev mu_X11_kindOf : zMu := (RX11, yX11_kindOf, cX11_kindOf, 4, some .int)
theorem lm_X11_kindOf : zLM mu_X11_kindOf := ⟨ti_7 125 rfl rfl, ti_1 11 rfl rfl, ⟨by decide, by decide⟩, by decide⟩
abbrev mu_X11_piece : zMu := (RX11, yX11_piece, cX11_piece, 5, some .int)
theorem lm_X11_piece : zLM mu_X11_piece := ⟨ti_7 121 rfl rfl, ti_1 11 rfl rfl, ⟨by decide, by decide⟩, by decide⟩
abbrev mu_X11_wrongKnot : zMu := (RX11, yX11_wrongKnot, cX11_wrongKnot, 3, some .int)
theorem lm_X11_wrongKnot : zLM mu_X11_wrongKnot := ⟨ti_7 133 rfl rfl, ti_1 11 rfl rfl, ⟨by decide, by decide⟩, by decide⟩
abbrev mu_X11_knot : zMu := (RX11, yX11_knot, cX11_knot, 4, some .int)
theorem lm_X11_knot : zLM mu_X11_knot := ⟨ti_7 129 rfl rfl, ti_1 11 rfl rfl, ⟨by decide, by decide⟩, by decide⟩
abbrev mu_X11_ties : zMu := (RX11, yX11_ties, cX11_ties, 4, some .int)
theorem lm_X11_ties : zLM mu_X11_ties := ⟨ti_7 137 rfl rfl, ti_1 11 rfl rfl, ⟨by decide, by decide⟩, by decide⟩
abbrev mu_X11_plain : zMu := (RX11, yX11_plain, cX11_plain, 3, some .int)
theorem lm_X11_plain : zLM mu_X11_plain := ⟨ti_7 141 rfl rfl, ti_1 11 rfl rfl, ⟨by decide, by decide⟩, by decide⟩
abbrev mu_X11_twins : zMu := (RX11, yX11_twins, cX11_twins, 6, some .int)
theorem lm_X11_twins : zLM mu_X11_twins := ⟨ti_7 145 rfl rfl, ti_1 11 rfl rfl, ⟨by decide, by decide⟩, by decide⟩
abbrev mu_X11_areAllNear : zMu := (RX11, yX11_areAllNear, cX11_areAllNear, 4, some .boolean)
theorem lm_X11_areAllNear : zLM mu_X11_areAllNear := ⟨ti_7 153 rfl rfl, ti_1 11 rfl rfl, ⟨by decide, by decide⟩, by decide⟩
abbrev mu_X11_most : zMu := (RX11, yX11_most, cX11_most, 4, some .int)
theorem lm_X11_most : zLM mu_X11_most := ⟨ti_7 149 rfl rfl, ti_1 11 rfl rfl, ⟨by decide, by decide⟩, by decide⟩
abbrev mu_X11_ways : zMu := (RX11, yX11_ways, cX11_ways, 9, some .long)
theorem lm_X11_ways : zLM mu_X11_ways := ⟨ti_7 161 rfl rfl, ti_1 11 rfl rfl, ⟨by decide, by decide⟩, by decide⟩
abbrev mu_X11_colours : zMu := (RX11, yX11_colours, cX11_colours, 2, some .int)
theorem lm_X11_colours : zLM mu_X11_colours := ⟨ti_7 157 rfl rfl, ti_1 11 rfl rfl, ⟨by decide, by decide⟩, by decide⟩
abbrev mu_X11_paintings : zMu := (RX11, yX11_paintings, cX11_paintings, 2, some .long)
theorem lm_X11_paintings : zLM mu_X11_paintings := ⟨ti_7 165 rfl rfl, ti_1 11 rfl rfl, ⟨by decide, by decide⟩, by decide⟩
abbrev mu_X11_wrongModel : zMu := (RX11, yX11_wrongModel, cX11_wrongModel, 2, some .int)
theorem lm_X11_wrongModel : zLM mu_X11_wrongModel := ⟨ti_7 173 rfl rfl, ti_1 11 rfl rfl, ⟨by decide, by decide⟩, by decide⟩
abbrev mu_X11_letter : zMu := (RX11, yX11_letter, cX11_letter, 4, some .int)
theorem lm_X11_letter : zLM mu_X11_letter := ⟨ti_7 169 rfl rfl, ti_1 11 rfl rfl, ⟨by decide, by decide⟩, by decide⟩
abbrev mu_X11_spanOf : zMu := (RX11, yX11_spanOf, cX11_spanOf, 5, some .int)
theorem lm_X11_spanOf : zLM mu_X11_spanOf := ⟨ti_7 181 rfl rfl, ti_1 11 rfl rfl, ⟨by decide, by decide⟩, by decide⟩
abbrev mu_X11_span : zMu := (RX11, yX11_span, cX11_span, 3, some .int)
theorem lm_X11_span : zLM mu_X11_span := ⟨ti_7 177 rfl rfl, ti_1 11 rfl rfl, ⟨by decide, by decide⟩, by decide⟩
abbrev mu_X11_quotient : zMu := (RX11, yX11_quotient, cX11_quotient, 13, some .int)
theorem lm_X11_quotient : zLM mu_X11_quotient := ⟨ti_7 189 rfl rfl, ti_1 11 rfl rfl, ⟨by decide, by decide⟩, by decide⟩
abbrev mu_X11_mean : zMu := (RX11, yX11_mean, cX11_mean, 7, some .int)
theorem lm_X11_mean : zLM mu_X11_mean := ⟨ti_7 185 rfl rfl, ti_1 11 rfl rfl, ⟨by decide, by decide⟩, by decide⟩
abbrev mu_X11_leastReading : zMu := (RX11, yX11_leastReading, cX11_leastReading, 5, none)
theorem lm_X11_leastReading : zLM mu_X11_leastReading := ⟨ti_7 208 rfl rfl, ti_1 11 rfl rfl, ⟨by decide, by decide⟩, by decide⟩
abbrev mu_X11_isWordHere : zMu := (RX11, yX11_isWordHere, cX11_isWordHere, 5, some .boolean)
theorem lm_X11_isWordHere : zLM mu_X11_isWordHere := ⟨ti_7 200 rfl rfl, ti_1 11 rfl rfl, ⟨by decide, by decide⟩, by decide⟩
abbrev mu_X11_modelAsked : zMu := (RX11, yX11_modelAsked, cX11_modelAsked, 1, some .int)
theorem lm_X11_modelAsked : zLM mu_X11_modelAsked := ⟨ti_7 204 rfl rfl, ti_1 11 rfl rfl, ⟨by decide, by decide⟩, by decide⟩
abbrev mu_X11_find : zMu := (RX11, yX11_find, cX11_find, 3, some .int)
theorem lm_X11_find : zLM mu_X11_find := ⟨ti_7 196 rfl rfl, ti_1 11 rfl rfl, ⟨by decide, by decide⟩, by decide⟩
abbrev mu_X11_cross : zMu := (RX11, yX11_cross, cX11_cross, 4, some .int)
theorem lm_X11_cross : zLM mu_X11_cross := ⟨ti_7 212 rfl rfl, ti_1 11 rfl rfl, ⟨by decide, by decide⟩, by decide⟩
abbrev mu_X11_fits : zMu := (RX11, yX11_fits, cX11_fits, 3, some .int)
theorem lm_X11_fits : zLM mu_X11_fits := ⟨ti_7 216 rfl rfl, ti_1 11 rfl rfl, ⟨by decide, by decide⟩, by decide⟩
abbrev mu_X11_gap : zMu := (RX11, yX11_gap, cX11_gap, 5, some .int)
theorem lm_X11_gap : zLM mu_X11_gap := ⟨ti_7 220 rfl rfl, ti_1 11 rfl rfl, ⟨by decide, by decide⟩, by decide⟩
abbrev mu_X11_could : zMu := (RX11, yX11_could, cX11_could, 2, some .int)
theorem lm_X11_could : zLM mu_X11_could := ⟨ti_7 224 rfl rfl, ti_1 11 rfl rfl, ⟨by decide, by decide⟩, by decide⟩
abbrev mu_X11_beside : zMu := (RX11, yX11_beside, cX11_beside, 4, some .int)
theorem lm_X11_beside : zLM mu_X11_beside := ⟨ti_7 228 rfl rfl, ti_1 11 rfl rfl, ⟨by decide, by decide⟩, by decide⟩
abbrev mu_X11_turned : zMu := (RX11, yX11_turned, cX11_turned, 6, some .int)
theorem lm_X11_turned : zLM mu_X11_turned := ⟨ti_7 232 rfl rfl, ti_1 11 rfl rfl, ⟨by decide, by decide⟩, by decide⟩
abbrev mu_X11_hasModel : zMu := (RX11, yX11_hasModel, cX11_hasModel, 4, some .boolean)
theorem lm_X11_hasModel : zLM mu_X11_hasModel := ⟨ti_8 4 rfl rfl, ti_1 11 rfl rfl, ⟨by decide, by decide⟩, by decide⟩
abbrev mu_X11_laysObstruction : zMu := (RX11, yX11_laysObstruction, cX11_laysObstruction, 4, some .int)
theorem lm_X11_laysObstruction : zLM mu_X11_laysObstruction := ⟨ti_8 0 rfl rfl, ti_1 11 rfl rfl, ⟨by decide, by decide⟩, by decide⟩
abbrev mu_X11_obstruction : zMu := (RX11, yX11_obstruction, cX11_obstruction, 2, some .int)
theorem lm_X11_obstruction : zLM mu_X11_obstruction := ⟨ti_7 236 rfl rfl, ti_1 11 rfl rfl, ⟨by decide, by decide⟩, by decide⟩
abbrev mu_X11_obstructions : zMu := (RX11, yX11_obstructions, cX11_obstructions, 1, some .int)
theorem lm_X11_obstructions : zLM mu_X11_obstructions := ⟨ti_8 8 rfl rfl, ti_1 11 rfl rfl, ⟨by decide, by decide⟩, by decide⟩
abbrev mu_X11_family : zMu := (RX11, yX11_family, cX11_family, 8, some .int)
theorem lm_X11_family : zLM mu_X11_family := ⟨ti_8 12 rfl rfl, ti_1 11 rfl rfl, ⟨by decide, by decide⟩, by decide⟩
abbrev mu_X11_imageCode : zMu := (RX11, yX11_imageCode, cX11_imageCode, 2, some .int)
theorem lm_X11_imageCode : zLM mu_X11_imageCode := ⟨ti_8 20 rfl rfl, ti_1 11 rfl rfl, ⟨by decide, by decide⟩, by decide⟩
abbrev mu_X11_turns : zMu := (RX11, yX11_turns, cX11_turns, 3, some .int)
theorem lm_X11_turns : zLM mu_X11_turns := ⟨ti_8 16 rfl rfl, ti_1 11 rfl rfl, ⟨by decide, by decide⟩, by decide⟩
abbrev mu_X11_within : zMu := (RX11, yX11_within, cX11_within, 7, some .int)
theorem lm_X11_within : zLM mu_X11_within := ⟨ti_8 24 rfl rfl, ti_1 11 rfl rfl, ⟨by decide, by decide⟩, by decide⟩
abbrev mu_X11_drawBy : zMu := (RX11, yX11_drawBy, cX11_drawBy, 2, some .int)
theorem lm_X11_drawBy : zLM mu_X11_drawBy := ⟨ti_8 36 rfl rfl, ti_1 11 rfl rfl, ⟨by decide, by decide⟩, by decide⟩
abbrev mu_X11_draws : zMu := (RX11, yX11_draws, cX11_draws, 6, none)
theorem lm_X11_draws : zLM mu_X11_draws := ⟨ti_8 32 rfl rfl, ti_1 11 rfl rfl, ⟨by decide, by decide⟩, by decide⟩
abbrev mu_X11_shuffle : zMu := (RX11, yX11_shuffle, cX11_shuffle, 3, some .int)
theorem lm_X11_shuffle : zLM mu_X11_shuffle := ⟨ti_8 28 rfl rfl, ti_1 11 rfl rfl, ⟨by decide, by decide⟩, by decide⟩
abbrev mu_X11_sample : zMu := (RX11, yX11_sample, cX11_sample, 9, some .int)
theorem lm_X11_sample : zLM mu_X11_sample := ⟨ti_8 41 rfl rfl, ti_1 11 rfl rfl, ⟨by decide, by decide⟩, by decide⟩
theorem lk_L_9 : zKI RL 9 yX10_init RX10 cX10_init 1 0 none := ⟨rfl, lm_X10_init, ti_1 23 rfl rfl, ti_1 24 rfl rfl, zLni (by decide +kernel)⟩
theorem lk_L_12 : zKI RL 12 yX11_init RX11 cX11_init 1 0 none := ⟨rfl, lm_X11_init, ti_5 94 rfl rfl, ti_5 95 rfl rfl, zLni (by decide +kernel)⟩
theorem lk_L_13 : zKV RL 13 mu_X10_status 0 8 := ⟨lm_X10_status, ti_2 44 rfl rfl, ti_2 45 rfl rfl, ⟨RX10, TX10, 17, rfl, tb_2 _ (List.mem_of_getElem? (i := 46) rfl)⟩, by decide, zLni (by decide +kernel)⟩
theorem lk_L_17 : zKV RL 17 mu_X11_status 0 9 := ⟨lm_X11_status, ti_6 16 rfl rfl, ti_6 17 rfl rfl, ⟨RX11, TX11, 52, rfl, tb_6 _ (List.mem_of_getElem? (i := 18) rfl)⟩, by decide, zLni (by decide +kernel)⟩
theorem lk_L_18 : zKV RL 18 mu_X10_feed 5 8 := ⟨lm_X10_feed, ti_2 48 rfl rfl, ti_2 49 rfl rfl, ⟨RX10, TX10, 17, rfl, tb_2 _ (List.mem_of_getElem? (i := 50) rfl)⟩, by decide, zLni (by decide +kernel)⟩
theorem lk_L_22 : zKV RL 22 mu_X11_feed 5 9 := ⟨lm_X11_feed, ti_6 20 rfl rfl, ti_6 21 rfl rfl, ⟨RX11, TX11, 52, rfl, tb_6 _ (List.mem_of_getElem? (i := 22) rfl)⟩, by decide, zLni (by decide +kernel)⟩
theorem lk_L_23 : zKV RL 23 mu_X10_load 1 8 := ⟨lm_X10_load, ti_2 56 rfl rfl, ti_2 57 rfl rfl, ⟨RX10, TX10, 17, rfl, tb_2 _ (List.mem_of_getElem? (i := 58) rfl)⟩, by decide, zLni (by decide +kernel)⟩
theorem lk_L_27 : zKV RL 27 mu_X11_load 1 9 := ⟨lm_X11_load, ti_6 28 rfl rfl, ti_6 29 rfl rfl, ⟨RX11, TX11, 52, rfl, tb_6 _ (List.mem_of_getElem? (i := 30) rfl)⟩, by decide, zLni (by decide +kernel)⟩
theorem lk_L_28 : zKV RL 28 mu_X10_fault 1 8 := ⟨lm_X10_fault, ti_3 15 rfl rfl, ti_3 16 rfl rfl, ⟨RX10, TX10, 17, rfl, tb_3 _ (List.mem_of_getElem? (i := 17) rfl)⟩, by decide, zLni (by decide +kernel)⟩
theorem lk_L_31 : zKV RL 31 mu_X11_fault 1 9 := ⟨lm_X11_fault, ti_6 140 rfl rfl, ti_6 141 rfl rfl, ⟨RX11, TX11, 52, rfl, tb_6 _ (List.mem_of_getElem? (i := 142) rfl)⟩, by decide, zLni (by decide +kernel)⟩
theorem lk_L_32 : zKV RL 32 mu_X10_many 1 8 := ⟨lm_X10_many, ti_3 19 rfl rfl, ti_3 20 rfl rfl, ⟨RX10, TX10, 17, rfl, tb_3 _ (List.mem_of_getElem? (i := 21) rfl)⟩, by decide, zLni (by decide +kernel)⟩
theorem lk_L_35 : zKV RL 35 mu_X11_many 1 9 := ⟨lm_X11_many, ti_6 144 rfl rfl, ti_6 145 rfl rfl, ⟨RX11, TX11, 52, rfl, tb_6 _ (List.mem_of_getElem? (i := 146) rfl)⟩, by decide, zLni (by decide +kernel)⟩
theorem lk_L_36 : zKV RL 36 mu_X10_near 1 8 := ⟨lm_X10_near, ti_3 151 rfl rfl, ti_3 152 rfl rfl, ⟨RX10, TX10, 17, rfl, tb_3 _ (List.mem_of_getElem? (i := 153) rfl)⟩, by decide, zLni (by decide +kernel)⟩
theorem lk_L_39 : zKV RL 39 mu_X11_near 1 9 := ⟨lm_X11_near, ti_7 27 rfl rfl, ti_7 28 rfl rfl, ⟨RX11, TX11, 52, rfl, tb_7 _ (List.mem_of_getElem? (i := 29) rfl)⟩, by decide, zLni (by decide +kernel)⟩
theorem lk_L_40 : zKV RL 40 mu_X10_add 1 8 := ⟨lm_X10_add, ti_3 160 rfl rfl, ti_3 161 rfl rfl, ⟨RX10, TX10, 17, rfl, tb_3 _ (List.mem_of_getElem? (i := 162) rfl)⟩, by decide, zLni (by decide +kernel)⟩
theorem lk_L_43 : zKV RL 43 mu_X11_add 1 9 := ⟨lm_X11_add, ti_7 35 rfl rfl, ti_7 36 rfl rfl, ⟨RX11, TX11, 52, rfl, tb_7 _ (List.mem_of_getElem? (i := 37) rfl)⟩, by decide, zLni (by decide +kernel)⟩
theorem lk_L_44 : zKV RL 44 mu_X10_drop 1 8 := ⟨lm_X10_drop, ti_3 169 rfl rfl, ti_3 170 rfl rfl, ⟨RX10, TX10, 17, rfl, tb_3 _ (List.mem_of_getElem? (i := 171) rfl)⟩, by decide, zLni (by decide +kernel)⟩
theorem lk_L_47 : zKV RL 47 mu_X11_drop 1 9 := ⟨lm_X11_drop, ti_7 47 rfl rfl, ti_7 48 rfl rfl, ⟨RX11, TX11, 52, rfl, tb_7 _ (List.mem_of_getElem? (i := 49) rfl)⟩, by decide, zLni (by decide +kernel)⟩
theorem lk_L_48 : zKV RL 48 mu_X10_flip 2 8 := ⟨lm_X10_flip, ti_3 175 rfl rfl, ti_3 176 rfl rfl, ⟨RX10, TX10, 17, rfl, tb_3 _ (List.mem_of_getElem? (i := 177) rfl)⟩, by decide, zLni (by decide +kernel)⟩
theorem lk_L_52 : zKV RL 52 mu_X11_flip 2 9 := ⟨lm_X11_flip, ti_7 54 rfl rfl, ti_7 55 rfl rfl, ⟨RX11, TX11, 52, rfl, tb_7 _ (List.mem_of_getElem? (i := 56) rfl)⟩, by decide, zLni (by decide +kernel)⟩
theorem lk_L_53 : zKV RL 53 mu_X10_turn 1 8 := ⟨lm_X10_turn, ti_3 184 rfl rfl, ti_3 185 rfl rfl, ⟨RX10, TX10, 17, rfl, tb_3 _ (List.mem_of_getElem? (i := 186) rfl)⟩, by decide, zLni (by decide +kernel)⟩
theorem lk_L_56 : zKV RL 56 mu_X11_turn 1 9 := ⟨lm_X11_turn, ti_7 62 rfl rfl, ti_7 63 rfl rfl, ⟨RX11, TX11, 52, rfl, tb_7 _ (List.mem_of_getElem? (i := 64) rfl)⟩, by decide, zLni (by decide +kernel)⟩
theorem lk_L_57 : zKV RL 57 mu_X10_swing 2 8 := ⟨lm_X10_swing, ti_3 189 rfl rfl, ti_3 190 rfl rfl, ⟨RX10, TX10, 17, rfl, tb_3 _ (List.mem_of_getElem? (i := 191) rfl)⟩, by decide, zLni (by decide +kernel)⟩
theorem lk_L_60 : zKV RL 60 mu_X11_swing 2 9 := ⟨lm_X11_swing, ti_7 66 rfl rfl, ti_7 67 rfl rfl, ⟨RX11, TX11, 52, rfl, tb_7 _ (List.mem_of_getElem? (i := 68) rfl)⟩, by decide, zLni (by decide +kernel)⟩
theorem lk_L_61 : zKV RL 61 mu_X10_rename 2 8 := ⟨lm_X10_rename, ti_3 194 rfl rfl, ti_3 195 rfl rfl, ⟨RX10, TX10, 17, rfl, tb_3 _ (List.mem_of_getElem? (i := 196) rfl)⟩, by decide, zLni (by decide +kernel)⟩
theorem lk_L_65 : zKV RL 65 mu_X11_rename 2 9 := ⟨lm_X11_rename, ti_7 70 rfl rfl, ti_7 71 rfl rfl, ⟨RX11, TX11, 52, rfl, tb_7 _ (List.mem_of_getElem? (i := 72) rfl)⟩, by decide, zLni (by decide +kernel)⟩
theorem lk_L_66 : zKV RL 66 mu_X10_undo 0 8 := ⟨lm_X10_undo, ti_3 205 rfl rfl, ti_3 206 rfl rfl, ⟨RX10, TX10, 17, rfl, tb_3 _ (List.mem_of_getElem? (i := 207) rfl)⟩, by decide, zLni (by decide +kernel)⟩
theorem lk_L_69 : zKV RL 69 mu_X11_undo 0 9 := ⟨lm_X11_undo, ti_7 78 rfl rfl, ti_7 79 rfl rfl, ⟨RX11, TX11, 52, rfl, tb_7 _ (List.mem_of_getElem? (i := 80) rfl)⟩, by decide, zLni (by decide +kernel)⟩
theorem lk_L_70 : zKV RL 70 mu_X10_image 1 8 := ⟨lm_X10_image, ti_3 220 rfl rfl, ti_3 221 rfl rfl, ⟨RX10, TX10, 17, rfl, tb_3 _ (List.mem_of_getElem? (i := 222) rfl)⟩, by decide, zLni (by decide +kernel)⟩
theorem lk_L_74 : zKV RL 74 mu_X11_image 1 9 := ⟨lm_X11_image, ti_7 82 rfl rfl, ti_7 83 rfl rfl, ⟨RX11, TX11, 52, rfl, tb_7 _ (List.mem_of_getElem? (i := 84) rfl)⟩, by decide, zLni (by decide +kernel)⟩
theorem lk_L_75 : zKV RL 75 mu_X10_like 1 8 := ⟨lm_X10_like, ti_3 224 rfl rfl, ti_3 225 rfl rfl, ⟨RX10, TX10, 17, rfl, tb_3 _ (List.mem_of_getElem? (i := 226) rfl)⟩, by decide, zLni (by decide +kernel)⟩
theorem lk_L_78 : zKV RL 78 mu_X11_like 1 9 := ⟨lm_X11_like, ti_7 86 rfl rfl, ti_7 87 rfl rfl, ⟨RX11, TX11, 52, rfl, tb_7 _ (List.mem_of_getElem? (i := 88) rfl)⟩, by decide, zLni (by decide +kernel)⟩
theorem lk_L_79 : zKV RL 79 mu_X10_order 1 8 := ⟨lm_X10_order, ti_3 236 rfl rfl, ti_3 237 rfl rfl, ⟨RX10, TX10, 17, rfl, tb_3 _ (List.mem_of_getElem? (i := 238) rfl)⟩, by decide, zLni (by decide +kernel)⟩
theorem lk_L_82 : zKV RL 82 mu_X11_order 1 9 := ⟨lm_X11_order, ti_7 94 rfl rfl, ti_7 95 rfl rfl, ⟨RX11, TX11, 52, rfl, tb_7 _ (List.mem_of_getElem? (i := 96) rfl)⟩, by decide, zLni (by decide +kernel)⟩
theorem lk_L_83 : zKV RL 83 mu_X10_split 1 8 := ⟨lm_X10_split, ti_4 1 rfl rfl, ti_4 2 rfl rfl, ⟨RX10, TX10, 17, rfl, tb_4 _ (List.mem_of_getElem? (i := 3) rfl)⟩, by decide, zLni (by decide +kernel)⟩
theorem lk_L_86 : zKV RL 86 mu_X11_split 1 9 := ⟨lm_X11_split, ti_7 98 rfl rfl, ti_7 99 rfl rfl, ⟨RX11, TX11, 52, rfl, tb_7 _ (List.mem_of_getElem? (i := 100) rfl)⟩, by decide, zLni (by decide +kernel)⟩
theorem lk_L_87 : zKV RL 87 mu_X10_strong 1 8 := ⟨lm_X10_strong, ti_4 14 rfl rfl, ti_4 15 rfl rfl, ⟨RX10, TX10, 17, rfl, tb_4 _ (List.mem_of_getElem? (i := 16) rfl)⟩, by decide, zLni (by decide +kernel)⟩
theorem lk_L_90 : zKV RL 90 mu_X11_strong 1 9 := ⟨lm_X11_strong, ti_7 106 rfl rfl, ti_7 107 rfl rfl, ⟨RX11, TX11, 52, rfl, tb_7 _ (List.mem_of_getElem? (i := 108) rfl)⟩, by decide, zLni (by decide +kernel)⟩
theorem lk_L_91 : zKV RL 91 mu_X10_prime 0 8 := ⟨lm_X10_prime, ti_4 27 rfl rfl, ti_4 28 rfl rfl, ⟨RX10, TX10, 17, rfl, tb_4 _ (List.mem_of_getElem? (i := 29) rfl)⟩, by decide, zLni (by decide +kernel)⟩
theorem lk_L_94 : zKV RL 94 mu_X11_prime 0 9 := ⟨lm_X11_prime, ti_7 114 rfl rfl, ti_7 115 rfl rfl, ⟨RX11, TX11, 52, rfl, tb_7 _ (List.mem_of_getElem? (i := 116) rfl)⟩, by decide, zLni (by decide +kernel)⟩
theorem lk_L_95 : zKV RL 95 mu_X10_piece 2 8 := ⟨lm_X10_piece, ti_4 35 rfl rfl, ti_4 36 rfl rfl, ⟨RX10, TX10, 17, rfl, tb_4 _ (List.mem_of_getElem? (i := 37) rfl)⟩, by decide, zLni (by decide +kernel)⟩
theorem lk_L_98 : zKV RL 98 mu_X11_piece 2 9 := ⟨lm_X11_piece, ti_7 118 rfl rfl, ti_7 119 rfl rfl, ⟨RX11, TX11, 52, rfl, tb_7 _ (List.mem_of_getElem? (i := 120) rfl)⟩, by decide, zLni (by decide +kernel)⟩
theorem lk_L_99 : zKV RL 99 mu_X10_knot 2 8 := ⟨lm_X10_knot, ti_4 60 rfl rfl, ti_4 61 rfl rfl, ⟨RX10, TX10, 17, rfl, tb_4 _ (List.mem_of_getElem? (i := 62) rfl)⟩, by decide, zLni (by decide +kernel)⟩
theorem lk_L_102 : zKV RL 102 mu_X11_knot 2 9 := ⟨lm_X11_knot, ti_7 126 rfl rfl, ti_7 127 rfl rfl, ⟨RX11, TX11, 52, rfl, tb_7 _ (List.mem_of_getElem? (i := 128) rfl)⟩, by decide, zLni (by decide +kernel)⟩
theorem lk_L_103 : zKV RL 103 mu_X10_ties 2 8 := ⟨lm_X10_ties, ti_4 69 rfl rfl, ti_4 70 rfl rfl, ⟨RX10, TX10, 17, rfl, tb_4 _ (List.mem_of_getElem? (i := 71) rfl)⟩, by decide, zLni (by decide +kernel)⟩
theorem lk_L_106 : zKV RL 106 mu_X11_ties 2 9 := ⟨lm_X11_ties, ti_7 134 rfl rfl, ti_7 135 rfl rfl, ⟨RX11, TX11, 52, rfl, tb_7 _ (List.mem_of_getElem? (i := 136) rfl)⟩, by decide, zLni (by decide +kernel)⟩
theorem lk_L_107 : zKV RL 107 mu_X10_plain 0 8 := ⟨lm_X10_plain, ti_4 77 rfl rfl, ti_4 78 rfl rfl, ⟨RX10, TX10, 17, rfl, tb_4 _ (List.mem_of_getElem? (i := 79) rfl)⟩, by decide, zLni (by decide +kernel)⟩
theorem lk_L_110 : zKV RL 110 mu_X11_plain 0 9 := ⟨lm_X11_plain, ti_7 138 rfl rfl, ti_7 139 rfl rfl, ⟨RX11, TX11, 52, rfl, tb_7 _ (List.mem_of_getElem? (i := 140) rfl)⟩, by decide, zLni (by decide +kernel)⟩
theorem lk_L_111 : zKV RL 111 mu_X10_twins 1 8 := ⟨lm_X10_twins, ti_4 86 rfl rfl, ti_4 87 rfl rfl, ⟨RX10, TX10, 17, rfl, tb_4 _ (List.mem_of_getElem? (i := 88) rfl)⟩, by decide, zLni (by decide +kernel)⟩
theorem lk_L_114 : zKV RL 114 mu_X11_twins 1 9 := ⟨lm_X11_twins, ti_7 142 rfl rfl, ti_7 143 rfl rfl, ⟨RX11, TX11, 52, rfl, tb_7 _ (List.mem_of_getElem? (i := 144) rfl)⟩, by decide, zLni (by decide +kernel)⟩
theorem lk_L_115 : zKV RL 115 mu_X10_most 1 8 := ⟨lm_X10_most, ti_4 102 rfl rfl, ti_4 103 rfl rfl, ⟨RX10, TX10, 17, rfl, tb_4 _ (List.mem_of_getElem? (i := 104) rfl)⟩, by decide, zLni (by decide +kernel)⟩
theorem lk_L_118 : zKV RL 118 mu_X11_most 1 9 := ⟨lm_X11_most, ti_7 146 rfl rfl, ti_7 147 rfl rfl, ⟨RX11, TX11, 52, rfl, tb_7 _ (List.mem_of_getElem? (i := 148) rfl)⟩, by decide, zLni (by decide +kernel)⟩
theorem lk_L_119 : zKV RL 119 mu_X10_colours 0 8 := ⟨lm_X10_colours, ti_4 109 rfl rfl, ti_4 110 rfl rfl, ⟨RX10, TX10, 17, rfl, tb_4 _ (List.mem_of_getElem? (i := 111) rfl)⟩, by decide, zLni (by decide +kernel)⟩
theorem lk_L_122 : zKV RL 122 mu_X11_colours 0 9 := ⟨lm_X11_colours, ti_7 154 rfl rfl, ti_7 155 rfl rfl, ⟨RX11, TX11, 52, rfl, tb_7 _ (List.mem_of_getElem? (i := 156) rfl)⟩, by decide, zLni (by decide +kernel)⟩
theorem lk_L_123 : zKV RL 123 mu_X10_paintings 1 8 := ⟨lm_X10_paintings, ti_4 117 rfl rfl, ti_4 118 rfl rfl, ⟨RX10, TX10, 17, rfl, tb_4 _ (List.mem_of_getElem? (i := 119) rfl)⟩, by decide, zLni (by decide +kernel)⟩
theorem lk_L_127 : zKV RL 127 mu_X11_paintings 1 9 := ⟨lm_X11_paintings, ti_7 162 rfl rfl, ti_7 163 rfl rfl, ⟨RX11, TX11, 52, rfl, tb_7 _ (List.mem_of_getElem? (i := 164) rfl)⟩, by decide, zLni (by decide +kernel)⟩
theorem lk_L_128 : zKV RL 128 mu_X10_letter 2 8 := ⟨lm_X10_letter, ti_4 121 rfl rfl, ti_4 122 rfl rfl, ⟨RX10, TX10, 17, rfl, tb_4 _ (List.mem_of_getElem? (i := 123) rfl)⟩, by decide, zLni (by decide +kernel)⟩
theorem lk_L_131 : zKV RL 131 mu_X11_letter 2 9 := ⟨lm_X11_letter, ti_7 166 rfl rfl, ti_7 167 rfl rfl, ⟨RX11, TX11, 52, rfl, tb_7 _ (List.mem_of_getElem? (i := 168) rfl)⟩, by decide, zLni (by decide +kernel)⟩
theorem lk_L_132 : zKV RL 132 mu_X10_span 2 8 := ⟨lm_X10_span, ti_4 138 rfl rfl, ti_4 139 rfl rfl, ⟨RX10, TX10, 17, rfl, tb_4 _ (List.mem_of_getElem? (i := 140) rfl)⟩, by decide, zLni (by decide +kernel)⟩
theorem lk_L_135 : zKV RL 135 mu_X11_span 2 9 := ⟨lm_X11_span, ti_7 174 rfl rfl, ti_7 175 rfl rfl, ⟨RX11, TX11, 52, rfl, tb_7 _ (List.mem_of_getElem? (i := 176) rfl)⟩, by decide, zLni (by decide +kernel)⟩
theorem lk_L_136 : zKV RL 136 mu_X10_mean 2 8 := ⟨lm_X10_mean, ti_4 151 rfl rfl, ti_4 152 rfl rfl, ⟨RX10, TX10, 17, rfl, tb_4 _ (List.mem_of_getElem? (i := 153) rfl)⟩, by decide, zLni (by decide +kernel)⟩
theorem lk_L_139 : zKV RL 139 mu_X11_mean 2 9 := ⟨lm_X11_mean, ti_7 182 rfl rfl, ti_7 183 rfl rfl, ⟨RX11, TX11, 52, rfl, tb_7 _ (List.mem_of_getElem? (i := 184) rfl)⟩, by decide, zLni (by decide +kernel)⟩
theorem lk_L_140 : zKV RL 140 mu_X10_find 1 8 := ⟨lm_X10_find, ti_4 171 rfl rfl, ti_4 172 rfl rfl, ⟨RX10, TX10, 17, rfl, tb_4 _ (List.mem_of_getElem? (i := 173) rfl)⟩, by decide, zLni (by decide +kernel)⟩
theorem lk_L_143 : zKV RL 143 mu_X11_find 1 9 := ⟨lm_X11_find, ti_7 193 rfl rfl, ti_7 194 rfl rfl, ⟨RX11, TX11, 52, rfl, tb_7 _ (List.mem_of_getElem? (i := 195) rfl)⟩, by decide, zLni (by decide +kernel)⟩
theorem lk_L_144 : zKV RL 144 mu_X10_cross 3 8 := ⟨lm_X10_cross, ti_4 197 rfl rfl, ti_4 198 rfl rfl, ⟨RX10, TX10, 17, rfl, tb_4 _ (List.mem_of_getElem? (i := 199) rfl)⟩, by decide, zLni (by decide +kernel)⟩
theorem lk_L_148 : zKV RL 148 mu_X11_cross 3 9 := ⟨lm_X11_cross, ti_7 209 rfl rfl, ti_7 210 rfl rfl, ⟨RX11, TX11, 52, rfl, tb_7 _ (List.mem_of_getElem? (i := 211) rfl)⟩, by decide, zLni (by decide +kernel)⟩
theorem lk_L_149 : zKV RL 149 mu_X10_fits 2 8 := ⟨lm_X10_fits, ti_4 203 rfl rfl, ti_4 204 rfl rfl, ⟨RX10, TX10, 17, rfl, tb_4 _ (List.mem_of_getElem? (i := 205) rfl)⟩, by decide, zLni (by decide +kernel)⟩
theorem lk_L_152 : zKV RL 152 mu_X11_fits 2 9 := ⟨lm_X11_fits, ti_7 213 rfl rfl, ti_7 214 rfl rfl, ⟨RX11, TX11, 52, rfl, tb_7 _ (List.mem_of_getElem? (i := 215) rfl)⟩, by decide, zLni (by decide +kernel)⟩
theorem lk_L_153 : zKV RL 153 mu_X10_gap 4 8 := ⟨lm_X10_gap, ti_4 213 rfl rfl, ti_4 214 rfl rfl, ⟨RX10, TX10, 17, rfl, tb_4 _ (List.mem_of_getElem? (i := 215) rfl)⟩, by decide, zLni (by decide +kernel)⟩
theorem lk_L_157 : zKV RL 157 mu_X11_gap 4 9 := ⟨lm_X11_gap, ti_7 217 rfl rfl, ti_7 218 rfl rfl, ⟨RX11, TX11, 52, rfl, tb_7 _ (List.mem_of_getElem? (i := 219) rfl)⟩, by decide, zLni (by decide +kernel)⟩
theorem lk_L_158 : zKV RL 158 mu_X10_could 1 8 := ⟨lm_X10_could, ti_4 220 rfl rfl, ti_4 221 rfl rfl, ⟨RX10, TX10, 17, rfl, tb_4 _ (List.mem_of_getElem? (i := 222) rfl)⟩, by decide, zLni (by decide +kernel)⟩
theorem lk_L_161 : zKV RL 161 mu_X11_could 1 9 := ⟨lm_X11_could, ti_7 221 rfl rfl, ti_7 222 rfl rfl, ⟨RX11, TX11, 52, rfl, tb_7 _ (List.mem_of_getElem? (i := 223) rfl)⟩, by decide, zLni (by decide +kernel)⟩
theorem lk_L_162 : zKV RL 162 mu_X10_beside 2 8 := ⟨lm_X10_beside, ti_4 228 rfl rfl, ti_4 229 rfl rfl, ⟨RX10, TX10, 17, rfl, tb_4 _ (List.mem_of_getElem? (i := 230) rfl)⟩, by decide, zLni (by decide +kernel)⟩
theorem lk_L_165 : zKV RL 165 mu_X11_beside 2 9 := ⟨lm_X11_beside, ti_7 225 rfl rfl, ti_7 226 rfl rfl, ⟨RX11, TX11, 52, rfl, tb_7 _ (List.mem_of_getElem? (i := 227) rfl)⟩, by decide, zLni (by decide +kernel)⟩
theorem lk_L_166 : zKV RL 166 mu_X10_turned 2 8 := ⟨lm_X10_turned, ti_4 236 rfl rfl, ti_4 237 rfl rfl, ⟨RX10, TX10, 17, rfl, tb_4 _ (List.mem_of_getElem? (i := 238) rfl)⟩, by decide, zLni (by decide +kernel)⟩
theorem lk_L_169 : zKV RL 169 mu_X11_turned 2 9 := ⟨lm_X11_turned, ti_7 229 rfl rfl, ti_7 230 rfl rfl, ⟨RX11, TX11, 52, rfl, tb_7 _ (List.mem_of_getElem? (i := 231) rfl)⟩, by decide, zLni (by decide +kernel)⟩
theorem lk_L_170 : zKV RL 170 mu_X10_obstruction 0 8 := ⟨lm_X10_obstruction, ti_5 3 rfl rfl, ti_5 4 rfl rfl, ⟨RX10, TX10, 17, rfl, tb_5 _ (List.mem_of_getElem? (i := 5) rfl)⟩, by decide, zLni (by decide +kernel)⟩
theorem lk_L_173 : zKV RL 173 mu_X11_obstruction 0 9 := ⟨lm_X11_obstruction, ti_7 233 rfl rfl, ti_7 234 rfl rfl, ⟨RX11, TX11, 52, rfl, tb_7 _ (List.mem_of_getElem? (i := 235) rfl)⟩, by decide, zLni (by decide +kernel)⟩
theorem lk_L_174 : zKV RL 174 mu_X10_obstructions 0 8 := ⟨lm_X10_obstructions, ti_5 15 rfl rfl, ti_5 16 rfl rfl, ⟨RX10, TX10, 17, rfl, tb_5 _ (List.mem_of_getElem? (i := 17) rfl)⟩, by decide, zLni (by decide +kernel)⟩
theorem lk_L_177 : zKV RL 177 mu_X11_obstructions 0 9 := ⟨lm_X11_obstructions, ti_8 5 rfl rfl, ti_8 6 rfl rfl, ⟨RX11, TX11, 52, rfl, tb_8 _ (List.mem_of_getElem? (i := 7) rfl)⟩, by decide, zLni (by decide +kernel)⟩
theorem lk_L_178 : zKV RL 178 mu_X10_family 1 8 := ⟨lm_X10_family, ti_5 19 rfl rfl, ti_5 20 rfl rfl, ⟨RX10, TX10, 17, rfl, tb_5 _ (List.mem_of_getElem? (i := 21) rfl)⟩, by decide, zLni (by decide +kernel)⟩
theorem lk_L_181 : zKV RL 181 mu_X11_family 1 9 := ⟨lm_X11_family, ti_8 9 rfl rfl, ti_8 10 rfl rfl, ⟨RX11, TX11, 52, rfl, tb_8 _ (List.mem_of_getElem? (i := 11) rfl)⟩, by decide, zLni (by decide +kernel)⟩
theorem lk_L_182 : zKV RL 182 mu_X10_turns 1 8 := ⟨lm_X10_turns, ti_5 42 rfl rfl, ti_5 43 rfl rfl, ⟨RX10, TX10, 17, rfl, tb_5 _ (List.mem_of_getElem? (i := 44) rfl)⟩, by decide, zLni (by decide +kernel)⟩
theorem lk_L_185 : zKV RL 185 mu_X11_turns 1 9 := ⟨lm_X11_turns, ti_8 13 rfl rfl, ti_8 14 rfl rfl, ⟨RX11, TX11, 52, rfl, tb_8 _ (List.mem_of_getElem? (i := 15) rfl)⟩, by decide, zLni (by decide +kernel)⟩
theorem lk_L_186 : zKV RL 186 mu_X10_within 1 8 := ⟨lm_X10_within, ti_5 50 rfl rfl, ti_5 51 rfl rfl, ⟨RX10, TX10, 17, rfl, tb_5 _ (List.mem_of_getElem? (i := 52) rfl)⟩, by decide, zLni (by decide +kernel)⟩
theorem lk_L_189 : zKV RL 189 mu_X11_within 1 9 := ⟨lm_X11_within, ti_8 21 rfl rfl, ti_8 22 rfl rfl, ⟨RX11, TX11, 52, rfl, tb_8 _ (List.mem_of_getElem? (i := 23) rfl)⟩, by decide, zLni (by decide +kernel)⟩
theorem lk_L_190 : zKV RL 190 mu_X10_shuffle 2 8 := ⟨lm_X10_shuffle, ti_5 60 rfl rfl, ti_5 61 rfl rfl, ⟨RX10, TX10, 17, rfl, tb_5 _ (List.mem_of_getElem? (i := 62) rfl)⟩, by decide, zLni (by decide +kernel)⟩
theorem lk_L_193 : zKV RL 193 mu_X11_shuffle 2 9 := ⟨lm_X11_shuffle, ti_8 25 rfl rfl, ti_8 26 rfl rfl, ⟨RX11, TX11, 52, rfl, tb_8 _ (List.mem_of_getElem? (i := 27) rfl)⟩, by decide, zLni (by decide +kernel)⟩
theorem lk_L_194 : zKV RL 194 mu_X10_sample 4 8 := ⟨lm_X10_sample, ti_5 79 rfl rfl, ti_5 80 rfl rfl, ⟨RX10, TX10, 17, rfl, tb_5 _ (List.mem_of_getElem? (i := 81) rfl)⟩, by decide, zLni (by decide +kernel)⟩
theorem lk_L_197 : zKV RL 197 mu_X11_sample 4 9 := ⟨lm_X11_sample, ti_8 38 rfl rfl, ti_8 39 rfl rfl, ⟨RX11, TX11, 52, rfl, tb_8 _ (List.mem_of_getElem? (i := 40) rfl)⟩, by decide, zLni (by decide +kernel)⟩
theorem lk_X0_26 : zKV RX0 26 mu_X0_draw 1 0 := ⟨lm_X0_draw, ti_5 73 rfl rfl, ti_5 75 rfl rfl, ⟨RX0, TX0, 5, rfl, List.mem_append_left _ (List.mem_of_getElem? (i := 39) rfl)⟩, by decide, zLni (by decide +kernel)⟩
theorem lk_X0_30 : zKS RX0 30 mu_X5_crossings 2 := ⟨lm_X5_crossings, ti_5 78 rfl rfl, ti_2 219 rfl rfl, zLni (by decide +kernel)⟩
theorem lk_X0_45 : zKV RX0 45 mu_X0_drawnLines 1 0 := ⟨lm_X0_drawnLines, ti_5 87 rfl rfl, ti_5 69 rfl rfl, ⟨RX0, TX0, 5, rfl, tb_5 _ (List.mem_of_getElem? (i := 70) rfl)⟩, by decide, zLni (by decide +kernel)⟩
theorem lk_X0_48 : zKS RX0 48 mu_J6_bitCount_0f7a4 1 := ⟨lm_J6_bitCount_0f7a4, ti_5 88 rfl rfl, ti_2 203 rfl rfl, zLni (by decide +kernel)⟩
theorem lk_X0_53 : zKS RX0 53 mu_X2_joined 2 := ⟨lm_X2_joined, ti_5 89 rfl rfl, ti_3 44 rfl rfl, zLni (by decide +kernel)⟩
theorem lk_X0_59 : zKS RX0 59 mu_X6_isPrime 2 := ⟨lm_X6_isPrime, ti_5 90 rfl rfl, ti_4 32 rfl rfl, zLni (by decide +kernel)⟩
theorem lk_X1_41 : zKS RX1 41 mu_X2_nearTo 3 := ⟨lm_X2_nearTo, ti_3 91 rfl rfl, ti_2 184 rfl rfl, zLni (by decide +kernel)⟩
theorem lk_X1_47 : zKV RX1 47 mu_X1_keep 1 1 := ⟨lm_X1_keep, ti_3 92 rfl rfl, ti_3 94 rfl rfl, ⟨RX1, TX1, 10, rfl, List.mem_append_left _ (List.mem_of_getElem? (i := 20) rfl)⟩, by decide, zLni (by decide +kernel)⟩
theorem lk_X1_51 : zKS RX1 51 mu_X2_everyPoint 1 := ⟨lm_X2_everyPoint, ti_3 110 rfl rfl, ti_3 37 rfl rfl, zLni (by decide +kernel)⟩
theorem lk_X1_55 : zKS RX1 55 mu_X1_extend 6 := ⟨lm_X1_extend, ti_3 111 rfl rfl, ti_3 112 rfl rfl, zLni (by decide +kernel)⟩
theorem lk_X1_59 : zKV RX1 59 mu_X1_finish 3 1 := ⟨lm_X1_finish, ti_3 114 rfl rfl, ti_3 116 rfl rfl, ⟨RX1, TX1, 10, rfl, List.mem_append_left _ (List.mem_of_getElem? (i := 21) rfl)⟩, by decide, zLni (by decide +kernel)⟩
theorem lk_X1_63 : zKV RX1 63 mu_X1_spoils 2 1 := ⟨lm_X1_spoils, ti_3 128 rfl rfl, ti_3 130 rfl rfl, ⟨RX1, TX1, 10, rfl, List.mem_append_left _ (List.mem_of_getElem? (i := 23) rfl)⟩, by decide, zLni (by decide +kernel)⟩
theorem lk_X1_67 : zKS RX1 67 mu_X1_insert 4 := ⟨lm_X1_insert, ti_3 132 rfl rfl, ti_3 133 rfl rfl, zLni (by decide +kernel)⟩
theorem lk_X1_71 : zKS RX1 71 mu_J6_bitCount_0f7a4 1 := ⟨lm_J6_bitCount_0f7a4, ti_3 135 rfl rfl, ti_2 203 rfl rfl, zLni (by decide +kernel)⟩
theorem lk_X1_76 : zKS RX1 76 mu_X2_isIn 2 := ⟨lm_X2_isIn, ti_3 136 rfl rfl, ti_3 31 rfl rfl, zLni (by decide +kernel)⟩
theorem lk_X1_79 : zKV RX1 79 mu_X1_isLeast 0 1 := ⟨lm_X1_isLeast, ti_3 118 rfl rfl, ti_3 120 rfl rfl, ⟨RX1, TX1, 10, rfl, List.mem_append_left _ (List.mem_of_getElem? (i := 22) rfl)⟩, by decide, zLni (by decide +kernel)⟩
theorem lk_X1_83 : zKS RX1 83 mu_X5_placeOf 4 := ⟨lm_X5_placeOf, ti_3 122 rfl rfl, ti_3 123 rfl rfl, zLni (by decide +kernel)⟩
theorem lk_X1_89 : zKS RX1 89 mu_X5_readsLess 4 := ⟨lm_X5_readsLess, ti_3 125 rfl rfl, ti_3 126 rfl rfl, zLni (by decide +kernel)⟩
theorem lk_X1_100 : zKS RX1 100 mu_J7_copyOf_c38d5 2 := ⟨lm_J7_copyOf_c38d5, ti_3 98 rfl rfl, ti_3 99 rfl rfl, zLni (by decide +kernel)⟩
theorem lk_X1_106 : zKV RX1 106 mu_X1_wordAt 1 1 := ⟨lm_X1_wordAt, ti_4 133 rfl rfl, ti_4 135 rfl rfl, ⟨RX1, TX1, 10, rfl, List.mem_append_left _ (List.mem_of_getElem? (i := 35) rfl)⟩, by decide, zLni (by decide +kernel)⟩
theorem lk_X10_9 : zKI RX10 9 yX7_init RX7 cX7_init 1 0 (some "ChordWords") := ⟨rfl, lm_X7_init, ti_1 31 rfl rfl, ti_1 32 rfl rfl, zLni (by decide +kernel)⟩
theorem lk_X10_18 : zKI RX10 18 yX4_init RX4 cX4_init 1 0 (some "ChordWords") := ⟨rfl, lm_X4_init, ti_1 47 rfl rfl, ti_1 48 rfl rfl, zLni (by decide +kernel)⟩
theorem lk_X10_25 : zKI RX10 25 yX9_init RX9 cX9_init 1 0 (some "ChordWords") := ⟨rfl, lm_X9_init, ti_1 88 rfl rfl, ti_1 89 rfl rfl, zLni (by decide +kernel)⟩
theorem lk_X10_34 : zKS RX10 34 mu_J7_fill_53178 2 := ⟨lm_J7_fill_53178, ti_1 100 rfl rfl, ti_1 101 rfl rfl, zLni (by decide +kernel)⟩
theorem lk_X10_42 : zKI RX10 42 yX6_init RX6 cX6_init 1 0 (some "ChordWords") := ⟨rfl, lm_X6_init, ti_1 105 rfl rfl, ti_1 106 rfl rfl, zLni (by decide +kernel)⟩
theorem lk_X10_49 : zKI RX10 49 yX3_init RX3 cX3_init 1 0 (some "ChordWords") := ⟨rfl, lm_X3_init, ti_1 119 rfl rfl, ti_1 120 rfl rfl, zLni (by decide +kernel)⟩
theorem lk_X10_56 : zKI RX10 56 yX1_init RX1 cX1_init 1 0 (some "ChordWords") := ⟨rfl, lm_X1_init, ti_1 144 rfl rfl, ti_1 145 rfl rfl, zLni (by decide +kernel)⟩
theorem lk_X10_69 : zKI RX10 69 yX8_init RX8 cX8_init 1 0 (some "ChordWords") := ⟨rfl, lm_X8_init, ti_1 183 rfl rfl, ti_1 184 rfl rfl, zLni (by decide +kernel)⟩
theorem lk_X10_76 : zKI RX10 76 yX0_init RX0 cX0_init 1 0 (some "ChordWords") := ⟨rfl, lm_X0_init, ti_1 209 rfl rfl, ti_1 210 rfl rfl, zLni (by decide +kernel)⟩
theorem lk_X10_94 : zKV RX10 94 mu_X7_take 1 5 := ⟨lm_X7_take, ti_2 52 rfl rfl, ti_2 53 rfl rfl, ⟨RX7, TX7, 2, rfl, tb_2 _ (List.mem_of_getElem? (i := 54) rfl)⟩, by decide, zLni (by decide +kernel)⟩
theorem lk_X10_98 : zKV RX10 98 mu_X7_holds 1 5 := ⟨lm_X7_holds, ti_2 60 rfl rfl, ti_2 61 rfl rfl, ⟨RX7, TX7, 2, rfl, tb_2 _ (List.mem_of_getElem? (i := 62) rfl)⟩, by decide, zLni (by decide +kernel)⟩
theorem lk_X10_102 : zKV RX10 102 mu_X10_refuse 1 8 := ⟨lm_X10_refuse, ti_2 64 rfl rfl, ti_2 66 rfl rfl, ⟨RX10, TX10, 17, rfl, List.mem_append_left _ (List.mem_of_getElem? (i := 0) rfl)⟩, by decide, zLni (by decide +kernel)⟩
theorem lk_X10_109 : zKV RX10 109 mu_X4_read 2 3 := ⟨lm_X4_read, ti_2 68 rfl rfl, ti_2 69 rfl rfl, ⟨RX4, TX4, 10, rfl, tb_2 _ (List.mem_of_getElem? (i := 70) rfl)⟩, by decide, zLni (by decide +kernel)⟩
theorem lk_X10_125 : zKV RX10 125 mu_X10_become 2 8 := ⟨lm_X10_become, ti_2 236 rfl rfl, ti_2 238 rfl rfl, ⟨RX10, TX10, 17, rfl, List.mem_append_left _ (List.mem_of_getElem? (i := 15) rfl)⟩, by decide, zLni (by decide +kernel)⟩
theorem lk_X10_130 : zKV RX10 130 mu_X10_answer 1 8 := ⟨lm_X10_answer, ti_3 10 rfl rfl, ti_3 12 rfl rfl, ⟨RX10, TX10, 17, rfl, List.mem_append_left _ (List.mem_of_getElem? (i := 16) rfl)⟩, by decide, zLni (by decide +kernel)⟩
theorem lk_X10_137 : zKS RX10 137 mu_J6_bitCount_0f7a4 1 := ⟨lm_J6_bitCount_0f7a4, ti_3 23 rfl rfl, ti_2 203 rfl rfl, zLni (by decide +kernel)⟩
theorem lk_X10_142 : zKS RX10 142 mu_X2_joinedSets 2 := ⟨lm_X2_joinedSets, ti_3 24 rfl rfl, ti_3 25 rfl rfl, zLni (by decide +kernel)⟩
theorem lk_X10_151 : zKV RX10 151 mu_X6_gather 2 4 := ⟨lm_X6_gather, ti_3 39 rfl rfl, ti_3 40 rfl rfl, ⟨RX6, TX6, 2, rfl, tb_3 _ (List.mem_of_getElem? (i := 41) rfl)⟩, by decide, zLni (by decide +kernel)⟩
theorem lk_X10_155 : zKV RX10 155 mu_X3_gather 2 2 := ⟨lm_X3_gather, ti_3 57 rfl rfl, ti_3 58 rfl rfl, ⟨RX3, TX3, 5, rfl, tb_3 _ (List.mem_of_getElem? (i := 59) rfl)⟩, by decide, zLni (by decide +kernel)⟩
theorem lk_X10_158 : zKV RX10 158 mu_X1_gather 3 1 := ⟨lm_X1_gather, ti_3 87 rfl rfl, ti_3 88 rfl rfl, ⟨RX1, TX1, 10, rfl, tb_3 _ (List.mem_of_getElem? (i := 89) rfl)⟩, by decide, zLni (by decide +kernel)⟩
theorem lk_X10_162 : zKV RX10 162 mu_X8_gather 2 6 := ⟨lm_X8_gather, ti_3 137 rfl rfl, ti_3 138 rfl rfl, ⟨RX8, TX8, 6, rfl, tb_3 _ (List.mem_of_getElem? (i := 139) rfl)⟩, by decide, zLni (by decide +kernel)⟩
theorem lk_X10_164 : zKV RX10 164 mu_X10_hasPoint 1 8 := ⟨lm_X10_hasPoint, ti_3 155 rfl rfl, ti_3 157 rfl rfl, ⟨RX10, TX10, 17, rfl, List.mem_append_left _ (List.mem_of_getElem? (i := 26) rfl)⟩, by decide, zLni (by decide +kernel)⟩
theorem lk_X10_167 : zKS RX10 167 mu_X2_nearTo 3 := ⟨lm_X2_nearTo, ti_3 159 rfl rfl, ti_2 184 rfl rfl, zLni (by decide +kernel)⟩
theorem lk_X10_171 : zKV RX10 171 mu_X10_hasSet 1 8 := ⟨lm_X10_hasSet, ti_3 164 rfl rfl, ti_3 166 rfl rfl, ⟨RX10, TX10, 17, rfl, List.mem_append_left _ (List.mem_of_getElem? (i := 27) rfl)⟩, by decide, zLni (by decide +kernel)⟩
theorem lk_X10_174 : zKS RX10 174 mu_X2_pair 2 := ⟨lm_X2_pair, ti_3 168 rfl rfl, ti_2 174 rfl rfl, zLni (by decide +kernel)⟩
theorem lk_X10_177 : zKS RX10 177 mu_X2_everyPoint 1 := ⟨lm_X2_everyPoint, ti_3 173 rfl rfl, ti_3 37 rfl rfl, zLni (by decide +kernel)⟩
theorem lk_X10_180 : zKS RX10 180 mu_X2_part 3 := ⟨lm_X2_part, ti_3 174 rfl rfl, ti_3 69 rfl rfl, zLni (by decide +kernel)⟩
theorem lk_X10_183 : zKV RX10 183 mu_X10_badCouple 2 8 := ⟨lm_X10_badCouple, ti_3 179 rfl rfl, ti_3 181 rfl rfl, ⟨RX10, TX10, 17, rfl, List.mem_append_left _ (List.mem_of_getElem? (i := 28) rfl)⟩, by decide, zLni (by decide +kernel)⟩
theorem lk_X10_186 : zKS RX10 186 mu_X2_tied 3 := ⟨lm_X2_tied, ti_3 183 rfl rfl, ti_2 171 rfl rfl, zLni (by decide +kernel)⟩
theorem lk_X10_190 : zKS RX10 190 mu_X2_turnedAt 3 := ⟨lm_X2_turnedAt, ti_3 188 rfl rfl, ti_2 181 rfl rfl, zLni (by decide +kernel)⟩
theorem lk_X10_193 : zKS RX10 193 mu_X2_swungOver 4 := ⟨lm_X2_swungOver, ti_3 193 rfl rfl, ti_2 177 rfl rfl, zLni (by decide +kernel)⟩
theorem lk_X10_197 : zKS RX10 197 mu_X2_exchanged 4 := ⟨lm_X2_exchanged, ti_3 198 rfl rfl, ti_3 199 rfl rfl, zLni (by decide +kernel)⟩
theorem lk_X10_200 : zKV RX10 200 mu_X9_takeBack 0 7 := ⟨lm_X9_takeBack, ti_3 209 rfl rfl, ti_3 210 rfl rfl, ⟨RX9, TX9, 2, rfl, tb_3 _ (List.mem_of_getElem? (i := 211) rfl)⟩, by decide, zLni (by decide +kernel)⟩
theorem lk_X10_204 : zKS RX10 204 mu_X2_pointsOf 1 := ⟨lm_X2_pointsOf, ti_3 213 rfl rfl, ti_3 214 rfl rfl, zLni (by decide +kernel)⟩
theorem lk_X10_207 : zKS RX10 207 mu_X2_linesOf 1 := ⟨lm_X2_linesOf, ti_3 216 rfl rfl, ti_3 217 rfl rfl, zLni (by decide +kernel)⟩
theorem lk_X10_210 : zKS RX10 210 mu_X2_code 2 := ⟨lm_X2_code, ti_3 0 rfl rfl, ti_3 1 rfl rfl, zLni (by decide +kernel)⟩
theorem lk_X10_213 : zKV RX10 213 mu_X10_badImage 1 8 := ⟨lm_X10_badImage, ti_3 228 rfl rfl, ti_3 230 rfl rfl, ⟨RX10, TX10, 17, rfl, List.mem_append_left _ (List.mem_of_getElem? (i := 29) rfl)⟩, by decide, zLni (by decide +kernel)⟩
theorem lk_X10_216 : zKV RX10 216 mu_X10_imageAt 1 8 := ⟨lm_X10_imageAt, ti_3 232 rfl rfl, ti_3 234 rfl rfl, ⟨RX10, TX10, 17, rfl, List.mem_append_left _ (List.mem_of_getElem? (i := 30) rfl)⟩, by decide, zLni (by decide +kernel)⟩
theorem lk_X10_219 : zKS RX10 219 mu_X2_rank 3 := ⟨lm_X2_rank, ti_4 0 rfl rfl, ti_3 51 rfl rfl, zLni (by decide +kernel)⟩
theorem lk_X10_222 : zKV RX10 222 mu_X10_badSplit 1 8 := ⟨lm_X10_badSplit, ti_4 5 rfl rfl, ti_4 7 rfl rfl, ⟨RX10, TX10, 17, rfl, List.mem_append_left _ (List.mem_of_getElem? (i := 31) rfl)⟩, by decide, zLni (by decide +kernel)⟩
theorem lk_X10_225 : zKV RX10 225 mu_X6_setAt 1 4 := ⟨lm_X6_setAt, ti_4 10 rfl rfl, ti_4 11 rfl rfl, ⟨RX6, TX6, 2, rfl, tb_4 _ (List.mem_of_getElem? (i := 12) rfl)⟩, by decide, zLni (by decide +kernel)⟩
theorem lk_X10_228 : zKV RX10 228 mu_X6_isStrong 2 4 := ⟨lm_X6_isStrong, ti_4 18 rfl rfl, ti_4 19 rfl rfl, ⟨RX6, TX6, 2, rfl, tb_4 _ (List.mem_of_getElem? (i := 20) rfl)⟩, by decide, zLni (by decide +kernel)⟩
theorem lk_X10_232 : zKS RX10 232 mu_X6_isPrime 2 := ⟨lm_X6_isPrime, ti_4 31 rfl rfl, ti_4 32 rfl rfl, zLni (by decide +kernel)⟩
theorem lk_X10_235 : zKV RX10 235 mu_X3_kindOf 1 2 := ⟨lm_X3_kindOf, ti_4 39 rfl rfl, ti_4 40 rfl rfl, ⟨RX3, TX3, 5, rfl, tb_4 _ (List.mem_of_getElem? (i := 41) rfl)⟩, by decide, zLni (by decide +kernel)⟩
theorem lk_X10_238 : zKV RX10 238 mu_X3_sizeOf 1 2 := ⟨lm_X3_sizeOf, ti_4 51 rfl rfl, ti_4 44 rfl rfl, ⟨RX3, TX3, 5, rfl, tb_4 _ (List.mem_of_getElem? (i := 45) rfl)⟩, by decide, zLni (by decide +kernel)⟩
theorem lk_X10_241 : zKV RX10 241 mu_X3_marksIn 1 2 := ⟨lm_X3_marksIn, ti_4 52 rfl rfl, ti_4 53 rfl rfl, ⟨RX3, TX3, 5, rfl, tb_4 _ (List.mem_of_getElem? (i := 54) rfl)⟩, by decide, zLni (by decide +kernel)⟩
theorem lk_X10_244 : zKV RX10 244 mu_X10_badKnot 2 8 := ⟨lm_X10_badKnot, ti_4 64 rfl rfl, ti_4 66 rfl rfl, ⟨RX10, TX10, 17, rfl, List.mem_append_left _ (List.mem_of_getElem? (i := 33) rfl)⟩, by decide, zLni (by decide +kernel)⟩
theorem lk_X10_247 : zKV RX10 247 mu_X3_knotAt 2 2 := ⟨lm_X3_knotAt, ti_4 68 rfl rfl, ti_4 57 rfl rfl, ⟨RX3, TX3, 5, rfl, tb_4 _ (List.mem_of_getElem? (i := 58) rfl)⟩, by decide, zLni (by decide +kernel)⟩
theorem lk_X10_250 : zKV RX10 250 mu_X3_tiesOf 2 2 := ⟨lm_X3_tiesOf, ti_4 73 rfl rfl, ti_4 74 rfl rfl, ⟨RX3, TX3, 5, rfl, tb_4 _ (List.mem_of_getElem? (i := 75) rfl)⟩, by decide, zLni (by decide +kernel)⟩
theorem lk_X10_253 : zKV RX10 253 mu_X3_isPlain 0 2 := ⟨lm_X3_isPlain, ti_4 81 rfl rfl, ti_4 82 rfl rfl, ⟨RX3, TX3, 5, rfl, tb_4 _ (List.mem_of_getElem? (i := 83) rfl)⟩, by decide, zLni (by decide +kernel)⟩
theorem lk_X10_257 : zKS RX10 257 mu_X2_likeCouples 3 := ⟨lm_X2_likeCouples, ti_4 90 rfl rfl, ti_4 91 rfl rfl, zLni (by decide +kernel)⟩
theorem lk_X10_261 : zKS RX10 261 mu_X2_lonePoints 2 := ⟨lm_X2_lonePoints, ti_4 93 rfl rfl, ti_4 94 rfl rfl, zLni (by decide +kernel)⟩
theorem lk_X10_264 : zKV RX10 264 mu_X6_strongOnes 1 4 := ⟨lm_X6_strongOnes, ti_4 97 rfl rfl, ti_4 98 rfl rfl, ⟨RX6, TX6, 2, rfl, tb_4 _ (List.mem_of_getElem? (i := 99) rfl)⟩, by decide, zLni (by decide +kernel)⟩
theorem lk_X10_267 : zKS RX10 267 mu_X2_largest 3 := ⟨lm_X2_largest, ti_4 106 rfl rfl, ti_4 107 rfl rfl, zLni (by decide +kernel)⟩
theorem lk_X10_270 : zKSN RX10 270 mu_X2_paint 6 "ChordWords" := ⟨lm_X2_paint, ti_4 113 rfl rfl, ti_4 114 rfl rfl, zLni (by decide +kernel)⟩
theorem lk_X10_274 : zKV RX10 274 mu_X10_hasModel 1 8 := ⟨lm_X10_hasModel, ti_4 125 rfl rfl, ti_4 127 rfl rfl, ⟨RX10, TX10, 17, rfl, List.mem_append_left _ (List.mem_of_getElem? (i := 34) rfl)⟩, by decide, zLni (by decide +kernel)⟩
theorem lk_X10_277 : zKV RX10 277 mu_X1_spell 2 1 := ⟨lm_X1_spell, ti_4 129 rfl rfl, ti_4 130 rfl rfl, ⟨RX1, TX1, 10, rfl, tb_4 _ (List.mem_of_getElem? (i := 131) rfl)⟩, by decide, zLni (by decide +kernel)⟩
theorem lk_X10_281 : zKV RX10 281 mu_X10_badModelPoint 2 8 := ⟨lm_X10_badModelPoint, ti_4 142 rfl rfl, ti_4 144 rfl rfl, ⟨RX10, TX10, 17, rfl, List.mem_append_left _ (List.mem_of_getElem? (i := 36) rfl)⟩, by decide, zLni (by decide +kernel)⟩
theorem lk_X10_284 : zKS RX10 284 mu_X5_spanOf 3 := ⟨lm_X5_spanOf, ti_4 146 rfl rfl, ti_4 147 rfl rfl, zLni (by decide +kernel)⟩
theorem lk_X10_290 : zKS RX10 290 mu_X5_meanSpan 2 := ⟨lm_X5_meanSpan, ti_4 155 rfl rfl, ti_4 156 rfl rfl, zLni (by decide +kernel)⟩
theorem lk_X10_294 : zKS RX10 294 mu_X5_even 2 := ⟨lm_X5_even, ti_4 162 rfl rfl, ti_4 163 rfl rfl, zLni (by decide +kernel)⟩
theorem lk_X10_297 : zKS RX10 297 mu_X10_bitsOf 1 := ⟨lm_X10_bitsOf, ti_4 166 rfl rfl, ti_4 167 rfl rfl, zLni (by decide +kernel)⟩
theorem lk_X10_301 : zKV RX10 301 mu_X7_copyLetters 2 5 := ⟨lm_X7_copyLetters, ti_4 175 rfl rfl, ti_4 176 rfl rfl, ⟨RX7, TX7, 2, rfl, tb_4 _ (List.mem_of_getElem? (i := 177) rfl)⟩, by decide, zLni (by decide +kernel)⟩
theorem lk_X10_305 : zKS RX10 305 mu_X5_isChordWord 3 := ⟨lm_X5_isChordWord, ti_4 180 rfl rfl, ti_2 213 rfl rfl, zLni (by decide +kernel)⟩
theorem lk_X10_309 : zKS RX10 309 mu_X5_leastReading 2 := ⟨lm_X5_leastReading, ti_4 181 rfl rfl, ti_4 182 rfl rfl, zLni (by decide +kernel)⟩
theorem lk_X10_313 : zKV RX10 313 mu_X1_indexOf 1 1 := ⟨lm_X1_indexOf, ti_4 193 rfl rfl, ti_4 194 rfl rfl, ⟨RX1, TX1, 10, rfl, tb_4 _ (List.mem_of_getElem? (i := 195) rfl)⟩, by decide, zLni (by decide +kernel)⟩
theorem lk_X10_317 : zKS RX10 317 mu_X5_count 3 := ⟨lm_X5_count, ti_4 201 rfl rfl, ti_2 216 rfl rfl, zLni (by decide +kernel)⟩
theorem lk_X10_319 : zKS RX10 319 mu_X5_crossing 4 := ⟨lm_X5_crossing, ti_4 202 rfl rfl, ti_2 222 rfl rfl, zLni (by decide +kernel)⟩
theorem lk_X10_323 : zKS RX10 323 mu_X5_countCouples 3 := ⟨lm_X5_countCouples, ti_4 207 rfl rfl, ti_4 208 rfl rfl, zLni (by decide +kernel)⟩
theorem lk_X10_326 : zKS RX10 326 mu_X5_coupleAt 4 := ⟨lm_X5_coupleAt, ti_4 217 rfl rfl, ti_4 218 rfl rfl, zLni (by decide +kernel)⟩
theorem lk_X10_330 : zKV RX10 330 mu_X1_letsIn 2 1 := ⟨lm_X1_letsIn, ti_4 224 rfl rfl, ti_4 225 rfl rfl, ⟨RX1, TX1, 10, rfl, tb_4 _ (List.mem_of_getElem? (i := 226) rfl)⟩, by decide, zLni (by decide +kernel)⟩
theorem lk_X10_333 : zKV RX10 333 mu_X1_setsBeside 3 1 := ⟨lm_X1_setsBeside, ti_4 232 rfl rfl, ti_4 233 rfl rfl, ⟨RX1, TX1, 10, rfl, tb_4 _ (List.mem_of_getElem? (i := 234) rfl)⟩, by decide, zLni (by decide +kernel)⟩
theorem lk_X10_336 : zKS RX10 336 mu_X5_reverseBetween 3 := ⟨lm_X5_reverseBetween, ti_5 0 rfl rfl, ti_5 1 rfl rfl, zLni (by decide +kernel)⟩
theorem lk_X10_340 : zKV RX10 340 mu_X10_findObstruction 0 8 := ⟨lm_X10_findObstruction, ti_5 7 rfl rfl, ti_5 9 rfl rfl, ⟨RX10, TX10, 17, rfl, List.mem_append_left _ (List.mem_of_getElem? (i := 37) rfl)⟩, by decide, zLni (by decide +kernel)⟩
theorem lk_X10_343 : zKV RX10 343 mu_X10_partHasModel 1 8 := ⟨lm_X10_partHasModel, ti_5 11 rfl rfl, ti_5 13 rfl rfl, ⟨RX10, TX10, 17, rfl, List.mem_append_left _ (List.mem_of_getElem? (i := 38) rfl)⟩, by decide, zLni (by decide +kernel)⟩
theorem lk_X10_346 : zKV RX10 346 mu_X8_fewestLines 0 6 := ⟨lm_X8_fewestLines, ti_5 23 rfl rfl, ti_5 24 rfl rfl, ⟨RX8, TX8, 6, rfl, tb_5 _ (List.mem_of_getElem? (i := 25) rfl)⟩, by decide, zLni (by decide +kernel)⟩
theorem lk_X10_349 : zKV RX10 349 mu_X8_mostLines 0 6 := ⟨lm_X8_mostLines, ti_5 29 rfl rfl, ti_5 30 rfl rfl, ⟨RX8, TX8, 6, rfl, tb_5 _ (List.mem_of_getElem? (i := 31) rfl)⟩, by decide, zLni (by decide +kernel)⟩
theorem lk_X10_352 : zKV RX10 352 mu_X8_countWith 1 6 := ⟨lm_X8_countWith, ti_5 34 rfl rfl, ti_5 35 rfl rfl, ⟨RX8, TX8, 6, rfl, tb_5 _ (List.mem_of_getElem? (i := 36) rfl)⟩, by decide, zLni (by decide +kernel)⟩
theorem lk_X10_355 : zKV RX10 355 mu_X8_allLines 0 6 := ⟨lm_X8_allLines, ti_5 38 rfl rfl, ti_5 39 rfl rfl, ⟨RX8, TX8, 6, rfl, tb_5 _ (List.mem_of_getElem? (i := 40) rfl)⟩, by decide, zLni (by decide +kernel)⟩
theorem lk_X10_358 : zKV RX10 358 mu_X8_turnsTo 1 6 := ⟨lm_X8_turnsTo, ti_5 46 rfl rfl, ti_5 47 rfl rfl, ⟨RX8, TX8, 6, rfl, tb_5 _ (List.mem_of_getElem? (i := 48) rfl)⟩, by decide, zLni (by decide +kernel)⟩
theorem lk_X10_361 : zKV RX10 361 mu_X8_anyBeginsWith 2 6 := ⟨lm_X8_anyBeginsWith, ti_5 54 rfl rfl, ti_5 55 rfl rfl, ⟨RX8, TX8, 6, rfl, tb_5 _ (List.mem_of_getElem? (i := 56) rfl)⟩, by decide, zLni (by decide +kernel)⟩
theorem lk_X10_364 : zKV RX10 364 mu_X0_begin 1 0 := ⟨lm_X0_begin, ti_5 64 rfl rfl, ti_5 65 rfl rfl, ⟨RX0, TX0, 5, rfl, tb_5 _ (List.mem_of_getElem? (i := 66) rfl)⟩, by decide, zLni (by decide +kernel)⟩
theorem lk_X10_367 : zKV RX10 367 mu_X0_drawnLines 1 0 := ⟨lm_X0_drawnLines, ti_5 68 rfl rfl, ti_5 69 rfl rfl, ⟨RX0, TX0, 5, rfl, tb_5 _ (List.mem_of_getElem? (i := 70) rfl)⟩, by decide, zLni (by decide +kernel)⟩
theorem lk_X10_370 : zKV RX10 370 mu_X0_count 2 0 := ⟨lm_X0_count, ti_5 83 rfl rfl, ti_5 84 rfl rfl, ⟨RX0, TX0, 5, rfl, tb_5 _ (List.mem_of_getElem? (i := 85) rfl)⟩, by decide, zLni (by decide +kernel)⟩
theorem lk_X10_381 : zKS RX10 381 mu_X10_ratio 3 := ⟨lm_X10_ratio, ti_5 91 rfl rfl, ti_4 160 rfl rfl, zLni (by decide +kernel)⟩
theorem lk_X10_385 : zKV RX10 385 mu_X9_keep 1 7 := ⟨lm_X9_keep, ti_3 3 rfl rfl, ti_3 4 rfl rfl, ⟨RX9, TX9, 2, rfl, tb_3 _ (List.mem_of_getElem? (i := 5) rfl)⟩, by decide, zLni (by decide +kernel)⟩
theorem lk_X10_388 : zKS RX10 388 mu_X2_joined 2 := ⟨lm_X2_joined, ti_4 9 rfl rfl, ti_3 44 rfl rfl, zLni (by decide +kernel)⟩
theorem lk_X11_97 : zKS RX11 97 mu_X11_has 2 := ⟨lm_X11_has, ti_6 84 rfl rfl, ti_6 85 rfl rfl, zLni (by decide +kernel)⟩
theorem lk_X11_104 : zKV RX11 104 mu_X11_all 0 9 := ⟨lm_X11_all, ti_6 174 rfl rfl, ti_6 176 rfl rfl, ⟨RX11, TX11, 52, rfl, List.mem_append_left _ (List.mem_of_getElem? (i := 69) rfl)⟩, by decide, zLni (by decide +kernel)⟩
theorem lk_X11_108 : zKV RX11 108 mu_X11_flips 2 9 := ⟨lm_X11_flips, ti_6 108 rfl rfl, ti_6 110 rfl rfl, ⟨RX11, TX11, 52, rfl, List.mem_append_left _ (List.mem_of_getElem? (i := 56) rfl)⟩, by decide, zLni (by decide +kernel)⟩
theorem lk_X11_118 : zKV RX11 118 mu_X11_turns0 1 9 := ⟨lm_X11_turns0, ti_6 104 rfl rfl, ti_6 106 rfl rfl, ⟨RX11, TX11, 52, rfl, List.mem_append_left _ (List.mem_of_getElem? (i := 55) rfl)⟩, by decide, zLni (by decide +kernel)⟩
theorem lk_X11_122 : zKS RX11 122 mu_X11_bits 1 := ⟨lm_X11_bits, ti_6 152 rfl rfl, ti_6 153 rfl rfl, zLni (by decide +kernel)⟩
theorem lk_X11_126 : zKV RX11 126 mu_X11_joined 1 9 := ⟨lm_X11_joined, ti_6 159 rfl rfl, ti_6 161 rfl rfl, ⟨RX11, TX11, 52, rfl, List.mem_append_left _ (List.mem_of_getElem? (i := 66) rfl)⟩, by decide, zLni (by decide +kernel)⟩
theorem lk_X11_129 : zKS RX11 129 mu_X11_lowest 1 := ⟨lm_X11_lowest, ti_6 163 rfl rfl, ti_6 164 rfl rfl, zLni (by decide +kernel)⟩
theorem lk_X11_132 : zKV RX11 132 mu_X11_sets 0 9 := ⟨lm_X11_sets, ti_6 155 rfl rfl, ti_6 157 rfl rfl, ⟨RX11, TX11, 52, rfl, List.mem_append_left _ (List.mem_of_getElem? (i := 65) rfl)⟩, by decide, zLni (by decide +kernel)⟩
theorem lk_X11_138 : zKV RX11 138 mu_X11_four 1 9 := ⟨lm_X11_four, ti_6 24 rfl rfl, ti_6 26 rfl rfl, ⟨RX11, TX11, 52, rfl, List.mem_append_left _ (List.mem_of_getElem? (i := 40) rfl)⟩, by decide, zLni (by decide +kernel)⟩
theorem lk_X11_147 : zKV RX11 147 mu_X11_byteAt 1 9 := ⟨lm_X11_byteAt, ti_6 47 rfl rfl, ti_6 49 rfl rfl, ⟨RX11, TX11, 52, rfl, List.mem_append_left _ (List.mem_of_getElem? (i := 44) rfl)⟩, by decide, zLni (by decide +kernel)⟩
theorem lk_X11_156 : zKS RX11 156 mu_X11_isSmall 1 := ⟨lm_X11_isSmall, ti_6 51 rfl rfl, ti_6 52 rfl rfl, zLni (by decide +kernel)⟩
theorem lk_X11_160 : zKS RX11 160 mu_X11_isDigit 1 := ⟨lm_X11_isDigit, ti_6 54 rfl rfl, ti_6 55 rfl rfl, zLni (by decide +kernel)⟩
theorem lk_X11_177 : zKV RX11 177 mu_X11_fails 1 9 := ⟨lm_X11_fails, ti_6 68 rfl rfl, ti_6 70 rfl rfl, ⟨RX11, TX11, 52, rfl, List.mem_append_left _ (List.mem_of_getElem? (i := 47) rfl)⟩, by decide, zLni (by decide +kernel)⟩
theorem lk_X11_180 : zKV RX11 180 mu_X11_ahead 0 9 := ⟨lm_X11_ahead, ti_6 43 rfl rfl, ti_6 45 rfl rfl, ⟨RX11, TX11, 52, rfl, List.mem_append_left _ (List.mem_of_getElem? (i := 43) rfl)⟩, by decide, zLni (by decide +kernel)⟩
theorem lk_X11_183 : zKV RX11 183 mu_X11_digit 0 9 := ⟨lm_X11_digit, ti_6 76 rfl rfl, ti_6 78 rfl rfl, ⟨RX11, TX11, 52, rfl, List.mem_append_left _ (List.mem_of_getElem? (i := 49) rfl)⟩, by decide, zLni (by decide +kernel)⟩
theorem lk_X11_186 : zKV RX11 186 mu_X11_comes 1 9 := ⟨lm_X11_comes, ti_6 80 rfl rfl, ti_6 82 rfl rfl, ⟨RX11, TX11, 52, rfl, List.mem_append_left _ (List.mem_of_getElem? (i := 50) rfl)⟩, by decide, zLni (by decide +kernel)⟩
theorem lk_X11_189 : zKV RX11 189 mu_X11_pointHere 1 9 := ⟨lm_X11_pointHere, ti_6 95 rfl rfl, ti_6 97 rfl rfl, ⟨RX11, TX11, 52, rfl, List.mem_append_left _ (List.mem_of_getElem? (i := 53) rfl)⟩, by decide, zLni (by decide +kernel)⟩
theorem lk_X11_192 : zKV RX11 192 mu_X11_swings 2 9 := ⟨lm_X11_swings, ti_6 99 rfl rfl, ti_6 101 rfl rfl, ⟨RX11, TX11, 52, rfl, List.mem_append_left _ (List.mem_of_getElem? (i := 54) rfl)⟩, by decide, zLni (by decide +kernel)⟩
theorem lk_X11_195 : zKS RX11 195 mu_X11_isFrom 3 := ⟨lm_X11_isFrom, ti_6 32 rfl rfl, ti_6 33 rfl rfl, zLni (by decide +kernel)⟩
theorem lk_X11_199 : zKV RX11 199 mu_X11_counts 3 9 := ⟨lm_X11_counts, ti_6 116 rfl rfl, ti_6 118 rfl rfl, ⟨RX11, TX11, 52, rfl, List.mem_append_left _ (List.mem_of_getElem? (i := 58) rfl)⟩, by decide, zLni (by decide +kernel)⟩
theorem lk_X11_203 : zKV RX11 203 mu_X11_isCrossed 2 9 := ⟨lm_X11_isCrossed, ti_6 120 rfl rfl, ti_6 122 rfl rfl, ⟨RX11, TX11, 52, rfl, List.mem_append_left _ (List.mem_of_getElem? (i := 59) rfl)⟩, by decide, zLni (by decide +kernel)⟩
theorem lk_X11_206 : zKV RX11 206 mu_X11_key 0 9 := ⟨lm_X11_key, ti_6 61 rfl rfl, ti_6 63 rfl rfl, ⟨RX11, TX11, 52, rfl, List.mem_append_left _ (List.mem_of_getElem? (i := 46) rfl)⟩, by decide, zLni (by decide +kernel)⟩
theorem lk_X11_209 : zKV RX11 209 mu_X11_morePoints 0 9 := ⟨lm_X11_morePoints, ti_6 72 rfl rfl, ti_6 74 rfl rfl, ⟨RX11, TX11, 52, rfl, List.mem_append_left _ (List.mem_of_getElem? (i := 48) rfl)⟩, by decide, zLni (by decide +kernel)⟩
theorem lk_X11_213 : zKV RX11 213 mu_X11_closes 0 9 := ⟨lm_X11_closes, ti_6 87 rfl rfl, ti_6 89 rfl rfl, ⟨RX11, TX11, 52, rfl, List.mem_append_left _ (List.mem_of_getElem? (i := 51) rfl)⟩, by decide, zLni (by decide +kernel)⟩
theorem lk_X11_216 : zKV RX11 216 mu_X11_two 1 9 := ⟨lm_X11_two, ti_6 91 rfl rfl, ti_6 93 rfl rfl, ⟨RX11, TX11, 52, rfl, List.mem_append_left _ (List.mem_of_getElem? (i := 52) rfl)⟩, by decide, zLni (by decide +kernel)⟩
theorem lk_X11_220 : zKV RX11 220 mu_X11_aCross 0 9 := ⟨lm_X11_aCross, ti_6 112 rfl rfl, ti_6 114 rfl rfl, ⟨RX11, TX11, 52, rfl, List.mem_append_left _ (List.mem_of_getElem? (i := 57) rfl)⟩, by decide, zLni (by decide +kernel)⟩
theorem lk_X11_223 : zKV RX11 223 mu_X11_aTurn 0 9 := ⟨lm_X11_aTurn, ti_6 124 rfl rfl, ti_6 126 rfl rfl, ⟨RX11, TX11, 52, rfl, List.mem_append_left _ (List.mem_of_getElem? (i := 60) rfl)⟩, by decide, zLni (by decide +kernel)⟩
theorem lk_X11_226 : zKV RX11 226 mu_X11_refuse 1 9 := ⟨lm_X11_refuse, ti_6 35 rfl rfl, ti_6 37 rfl rfl, ⟨RX11, TX11, 52, rfl, List.mem_append_left _ (List.mem_of_getElem? (i := 41) rfl)⟩, by decide, zLni (by decide +kernel)⟩
theorem lk_X11_229 : zKV RX11 229 mu_X11_puts 2 9 := ⟨lm_X11_puts, ti_6 39 rfl rfl, ti_6 41 rfl rfl, ⟨RX11, TX11, 52, rfl, List.mem_append_left _ (List.mem_of_getElem? (i := 42) rfl)⟩, by decide, zLni (by decide +kernel)⟩
theorem lk_X11_233 : zKV RX11 233 mu_X11_aLine 0 9 := ⟨lm_X11_aLine, ti_6 57 rfl rfl, ti_6 59 rfl rfl, ⟨RX11, TX11, 52, rfl, List.mem_append_left _ (List.mem_of_getElem? (i := 45) rfl)⟩, by decide, zLni (by decide +kernel)⟩
theorem lk_X11_236 : zKV RX11 236 mu_X11_brings 2 9 := ⟨lm_X11_brings, ti_6 128 rfl rfl, ti_6 130 rfl rfl, ⟨RX11, TX11, 52, rfl, List.mem_append_left _ (List.mem_of_getElem? (i := 61) rfl)⟩, by decide, zLni (by decide +kernel)⟩
theorem lk_X11_239 : zKV RX11 239 mu_X11_acted 0 9 := ⟨lm_X11_acted, ti_6 132 rfl rfl, ti_6 134 rfl rfl, ⟨RX11, TX11, 52, rfl, List.mem_append_left _ (List.mem_of_getElem? (i := 62) rfl)⟩, by decide, zLni (by decide +kernel)⟩
theorem lk_X11_242 : zKV RX11 242 mu_X11_gives 1 9 := ⟨lm_X11_gives, ti_6 136 rfl rfl, ti_6 138 rfl rfl, ⟨RX11, TX11, 52, rfl, List.mem_append_left _ (List.mem_of_getElem? (i := 63) rfl)⟩, by decide, zLni (by decide +kernel)⟩
theorem lk_X11_248 : zKV RX11 248 mu_X11_lines 0 9 := ⟨lm_X11_lines, ti_6 148 rfl rfl, ti_6 150 rfl rfl, ⟨RX11, TX11, 52, rfl, List.mem_append_left _ (List.mem_of_getElem? (i := 64) rfl)⟩, by decide, zLni (by decide +kernel)⟩
theorem lk_X11_251 : zKV RX11 251 mu_X11_areJoined 0 9 := ⟨lm_X11_areJoined, ti_6 166 rfl rfl, ti_6 168 rfl rfl, ⟨RX11, TX11, 52, rfl, List.mem_append_left _ (List.mem_of_getElem? (i := 67) rfl)⟩, by decide, zLni (by decide +kernel)⟩
theorem lk_X11_254 : zKV RX11 254 mu_X11_splits 1 9 := ⟨lm_X11_splits, ti_6 170 rfl rfl, ti_6 172 rfl rfl, ⟨RX11, TX11, 52, rfl, List.mem_append_left _ (List.mem_of_getElem? (i := 68) rfl)⟩, by decide, zLni (by decide +kernel)⟩
theorem lk_X11_257 : zKV RX11 257 mu_X11_laysPieces 0 9 := ⟨lm_X11_laysPieces, ti_6 185 rfl rfl, ti_6 187 rfl rfl, ⟨RX11, TX11, 52, rfl, List.mem_append_left _ (List.mem_of_getElem? (i := 71) rfl)⟩, by decide, zLni (by decide +kernel)⟩
theorem lk_X11_263 : zKV RX11 263 mu_X11_models 1 9 := ⟨lm_X11_models, ti_6 201 rfl rfl, ti_6 203 rfl rfl, ⟨RX11, TX11, 52, rfl, List.mem_append_left _ (List.mem_of_getElem? (i := 75) rfl)⟩, by decide, zLni (by decide +kernel)⟩
theorem lk_X11_266 : zKV RX11 266 mu_X11_laysClass 1 9 := ⟨lm_X11_laysClass, ti_7 10 rfl rfl, ti_7 12 rfl rfl, ⟨RX11, TX11, 52, rfl, List.mem_append_left _ (List.mem_of_getElem? (i := 85) rfl)⟩, by decide, zLni (by decide +kernel)⟩
theorem lk_X11_269 : zKV RX11 269 mu_X11_isPoint 1 9 := ⟨lm_X11_isPoint, ti_7 31 rfl rfl, ti_7 33 rfl rfl, ⟨RX11, TX11, 52, rfl, List.mem_append_left _ (List.mem_of_getElem? (i := 87) rfl)⟩, by decide, zLni (by decide +kernel)⟩
theorem lk_X11_272 : zKV RX11 272 mu_X11_isSet 1 9 := ⟨lm_X11_isSet, ti_7 39 rfl rfl, ti_7 41 rfl rfl, ⟨RX11, TX11, 52, rfl, List.mem_append_left _ (List.mem_of_getElem? (i := 88) rfl)⟩, by decide, zLni (by decide +kernel)⟩
theorem lk_X11_275 : zKV RX11 275 mu_X11_begins 0 9 := ⟨lm_X11_begins, ti_7 43 rfl rfl, ti_7 45 rfl rfl, ⟨RX11, TX11, 52, rfl, List.mem_append_left _ (List.mem_of_getElem? (i := 89) rfl)⟩, by decide, zLni (by decide +kernel)⟩
theorem lk_X11_278 : zKS RX11 278 mu_X11_without 2 := ⟨lm_X11_without, ti_7 51 rfl rfl, ti_7 52 rfl rfl, zLni (by decide +kernel)⟩
theorem lk_X11_281 : zKV RX11 281 mu_X11_wrongTwo 2 9 := ⟨lm_X11_wrongTwo, ti_7 58 rfl rfl, ti_7 60 rfl rfl, ⟨RX11, TX11, 52, rfl, List.mem_append_left _ (List.mem_of_getElem? (i := 90) rfl)⟩, by decide, zLni (by decide +kernel)⟩
theorem lk_X11_284 : zKV RX11 284 mu_X11_isSo 1 9 := ⟨lm_X11_isSo, ti_7 74 rfl rfl, ti_7 76 rfl rfl, ⟨RX11, TX11, 52, rfl, List.mem_append_left _ (List.mem_of_getElem? (i := 91) rfl)⟩, by decide, zLni (by decide +kernel)⟩
theorem lk_X11_287 : zKV RX11 287 mu_X11_wrongImage 1 9 := ⟨lm_X11_wrongImage, ti_7 90 rfl rfl, ti_7 92 rfl rfl, ⟨RX11, TX11, 52, rfl, List.mem_append_left _ (List.mem_of_getElem? (i := 92) rfl)⟩, by decide, zLni (by decide +kernel)⟩
theorem lk_X11_290 : zKV RX11 290 mu_X11_rank 4 9 := ⟨lm_X11_rank, ti_6 181 rfl rfl, ti_6 183 rfl rfl, ⟨RX11, TX11, 52, rfl, List.mem_append_left _ (List.mem_of_getElem? (i := 70) rfl)⟩, by decide, zLni (by decide +kernel)⟩
theorem lk_X11_297 : zKS RX11 297 mu_X11_canSplit 2 := ⟨lm_X11_canSplit, ti_6 178 rfl rfl, ti_6 179 rfl rfl, zLni (by decide +kernel)⟩
theorem lk_X11_300 : zKV RX11 300 mu_X11_wrongSplit 1 9 := ⟨lm_X11_wrongSplit, ti_7 102 rfl rfl, ti_7 104 rfl rfl, ⟨RX11, TX11, 52, rfl, List.mem_append_left _ (List.mem_of_getElem? (i := 93) rfl)⟩, by decide, zLni (by decide +kernel)⟩
theorem lk_X11_303 : zKV RX11 303 mu_X11_isStrong 1 9 := ⟨lm_X11_isStrong, ti_7 110 rfl rfl, ti_7 112 rfl rfl, ⟨RX11, TX11, 52, rfl, List.mem_append_left _ (List.mem_of_getElem? (i := 94) rfl)⟩, by decide, zLni (by decide +kernel)⟩
theorem lk_X11_306 : zKV RX11 306 mu_X11_firstSplit 1 9 := ⟨lm_X11_firstSplit, ti_6 197 rfl rfl, ti_6 199 rfl rfl, ⟨RX11, TX11, 52, rfl, List.mem_append_left _ (List.mem_of_getElem? (i := 74) rfl)⟩, by decide, zLni (by decide +kernel)⟩
theorem lk_X11_312 : zKV RX11 312 mu_X11_laysPiece 3 9 := ⟨lm_X11_laysPiece, ti_6 189 rfl rfl, ti_6 191 rfl rfl, ⟨RX11, TX11, 52, rfl, List.mem_append_left _ (List.mem_of_getElem? (i := 72) rfl)⟩, by decide, zLni (by decide +kernel)⟩
theorem lk_X11_316 : zKV RX11 316 mu_X11_takesApart 0 9 := ⟨lm_X11_takesApart, ti_6 193 rfl rfl, ti_6 195 rfl rfl, ⟨RX11, TX11, 52, rfl, List.mem_append_left _ (List.mem_of_getElem? (i := 73) rfl)⟩, by decide, zLni (by decide +kernel)⟩
theorem lk_X11_319 : zKV RX11 319 mu_X11_kindOf 1 9 := ⟨lm_X11_kindOf, ti_7 122 rfl rfl, ti_7 124 rfl rfl, ⟨RX11, TX11, 52, rfl, List.mem_append_left _ (List.mem_of_getElem? (i := 95) rfl)⟩, by decide, zLni (by decide +kernel)⟩
theorem lk_X11_322 : zKV RX11 322 mu_X11_wrongKnot 2 9 := ⟨lm_X11_wrongKnot, ti_7 130 rfl rfl, ti_7 132 rfl rfl, ⟨RX11, TX11, 52, rfl, List.mem_append_left _ (List.mem_of_getElem? (i := 96) rfl)⟩, by decide, zLni (by decide +kernel)⟩
theorem lk_X11_325 : zKV RX11 325 mu_X11_areAllNear 2 9 := ⟨lm_X11_areAllNear, ti_7 150 rfl rfl, ti_7 152 rfl rfl, ⟨RX11, TX11, 52, rfl, List.mem_append_left _ (List.mem_of_getElem? (i := 97) rfl)⟩, by decide, zLni (by decide +kernel)⟩
theorem lk_X11_329 : zKV RX11 329 mu_X11_ways 3 9 := ⟨lm_X11_ways, ti_7 158 rfl rfl, ti_7 160 rfl rfl, ⟨RX11, TX11, 52, rfl, List.mem_append_left _ (List.mem_of_getElem? (i := 98) rfl)⟩, by decide, zLni (by decide +kernel)⟩
theorem lk_X11_333 : zKS RX11 333 mu_X11_between 4 := ⟨lm_X11_between, ti_7 7 rfl rfl, ti_7 8 rfl rfl, zLni (by decide +kernel)⟩
theorem lk_X11_336 : zKS RX11 336 mu_X11_read 5 := ⟨lm_X11_read, ti_6 228 rfl rfl, ti_6 229 rfl rfl, zLni (by decide +kernel)⟩
theorem lk_X11_340 : zKV RX11 340 mu_X11_length 0 9 := ⟨lm_X11_length, ti_6 213 rfl rfl, ti_6 215 rfl rfl, ⟨RX11, TX11, 52, rfl, List.mem_append_left _ (List.mem_of_getElem? (i := 78) rfl)⟩, by decide, zLni (by decide +kernel)⟩
theorem lk_X11_341 : zKS RX11 341 mu_X11_isLessRead 6 := ⟨lm_X11_isLessRead, ti_6 225 rfl rfl, ti_6 226 rfl rfl, zLni (by decide +kernel)⟩
theorem lk_X11_354 : zKV RX11 354 mu_X11_isLeast 0 9 := ⟨lm_X11_isLeast, ti_6 221 rfl rfl, ti_6 223 rfl rfl, ⟨RX11, TX11, 52, rfl, List.mem_append_left _ (List.mem_of_getElem? (i := 80) rfl)⟩, by decide, zLni (by decide +kernel)⟩
theorem lk_X11_363 : zKV RX11 363 mu_X11_areBeside 0 9 := ⟨lm_X11_areBeside, ti_6 231 rfl rfl, ti_6 233 rfl rfl, ⟨RX11, TX11, 52, rfl, List.mem_append_left _ (List.mem_of_getElem? (i := 81) rfl)⟩, by decide, zLni (by decide +kernel)⟩
theorem lk_X11_366 : zKV RX11 366 mu_X11_gaps 3 9 := ⟨lm_X11_gaps, ti_6 235 rfl rfl, ti_6 237 rfl rfl, ⟨RX11, TX11, 52, rfl, List.mem_append_left _ (List.mem_of_getElem? (i := 82) rfl)⟩, by decide, zLni (by decide +kernel)⟩
theorem lk_X11_370 : zKV RX11 370 mu_X11_isLessThanAsked 0 9 := ⟨lm_X11_isLessThanAsked, ti_6 239 rfl rfl, ti_7 1 rfl rfl, ⟨RX11, TX11, 52, rfl, List.mem_append_left _ (List.mem_of_getElem? (i := 83) rfl)⟩, by decide, zLni (by decide +kernel)⟩
theorem lk_X11_379 : zKV RX11 379 mu_X11_isModel 0 9 := ⟨lm_X11_isModel, ti_6 217 rfl rfl, ti_6 219 rfl rfl, ⟨RX11, TX11, 52, rfl, List.mem_append_left _ (List.mem_of_getElem? (i := 79) rfl)⟩, by decide, zLni (by decide +kernel)⟩
theorem lk_X11_382 : zKV RX11 382 mu_X11_closesWell 2 9 := ⟨lm_X11_closesWell, ti_7 3 rfl rfl, ti_7 5 rfl rfl, ⟨RX11, TX11, 52, rfl, List.mem_append_left _ (List.mem_of_getElem? (i := 84) rfl)⟩, by decide, zLni (by decide +kernel)⟩
theorem lk_X11_385 : zKV RX11 385 mu_X11_grows 1 9 := ⟨lm_X11_grows, ti_6 209 rfl rfl, ti_6 211 rfl rfl, ⟨RX11, TX11, 52, rfl, List.mem_append_left _ (List.mem_of_getElem? (i := 77) rfl)⟩, by decide, zLni (by decide +kernel)⟩
theorem lk_X11_388 : zKV RX11 388 mu_X11_goes 1 9 := ⟨lm_X11_goes, ti_6 205 rfl rfl, ti_6 207 rfl rfl, ⟨RX11, TX11, 52, rfl, List.mem_append_left _ (List.mem_of_getElem? (i := 76) rfl)⟩, by decide, zLni (by decide +kernel)⟩
theorem lk_X11_391 : zKV RX11 391 mu_X11_wrongModel 1 9 := ⟨lm_X11_wrongModel, ti_7 170 rfl rfl, ti_7 172 rfl rfl, ⟨RX11, TX11, 52, rfl, List.mem_append_left _ (List.mem_of_getElem? (i := 99) rfl)⟩, by decide, zLni (by decide +kernel)⟩
theorem lk_X11_394 : zKV RX11 394 mu_X11_spanOf 1 9 := ⟨lm_X11_spanOf, ti_7 178 rfl rfl, ti_7 180 rfl rfl, ⟨RX11, TX11, 52, rfl, List.mem_append_left _ (List.mem_of_getElem? (i := 100) rfl)⟩, by decide, zLni (by decide +kernel)⟩
theorem lk_X11_406 : zKS RX11 406 mu_X11_quotient 2 := ⟨lm_X11_quotient, ti_7 187 rfl rfl, ti_7 188 rfl rfl, zLni (by decide +kernel)⟩
theorem lk_X11_410 : zKV RX11 410 mu_X11_leastReading 1 9 := ⟨lm_X11_leastReading, ti_7 205 rfl rfl, ti_7 207 rfl rfl, ⟨RX11, TX11, 52, rfl, List.mem_append_left _ (List.mem_of_getElem? (i := 103) rfl)⟩, by decide, zLni (by decide +kernel)⟩
theorem lk_X11_413 : zKV RX11 413 mu_X11_isWordHere 0 9 := ⟨lm_X11_isWordHere, ti_7 197 rfl rfl, ti_7 199 rfl rfl, ⟨RX11, TX11, 52, rfl, List.mem_append_left _ (List.mem_of_getElem? (i := 101) rfl)⟩, by decide, zLni (by decide +kernel)⟩
theorem lk_X11_416 : zKV RX11 416 mu_X11_modelAsked 0 9 := ⟨lm_X11_modelAsked, ti_7 201 rfl rfl, ti_7 203 rfl rfl, ⟨RX11, TX11, 52, rfl, List.mem_append_left _ (List.mem_of_getElem? (i := 102) rfl)⟩, by decide, zLni (by decide +kernel)⟩
theorem lk_X11_428 : zKV RX11 428 mu_X11_hasModel 1 9 := ⟨lm_X11_hasModel, ti_8 1 rfl rfl, ti_8 3 rfl rfl, ⟨RX11, TX11, 52, rfl, List.mem_append_left _ (List.mem_of_getElem? (i := 105) rfl)⟩, by decide, zLni (by decide +kernel)⟩
theorem lk_X11_431 : zKV RX11 431 mu_X11_laysObstruction 0 9 := ⟨lm_X11_laysObstruction, ti_7 237 rfl rfl, ti_7 239 rfl rfl, ⟨RX11, TX11, 52, rfl, List.mem_append_left _ (List.mem_of_getElem? (i := 104) rfl)⟩, by decide, zLni (by decide +kernel)⟩
theorem lk_X11_434 : zKS RX11 434 mu_X11_pair 2 := ⟨lm_X11_pair, ti_7 17 rfl rfl, ti_7 18 rfl rfl, zLni (by decide +kernel)⟩
theorem lk_X11_440 : zKS RX11 440 mu_X11_codeOf 3 := ⟨lm_X11_codeOf, ti_7 14 rfl rfl, ti_7 15 rfl rfl, zLni (by decide +kernel)⟩
theorem lk_X11_446 : zKS RX11 446 mu_X11_turnedCode 3 := ⟨lm_X11_turnedCode, ti_7 20 rfl rfl, ti_7 21 rfl rfl, zLni (by decide +kernel)⟩
theorem lk_X11_450 : zKV RX11 450 mu_X11_isNew 1 9 := ⟨lm_X11_isNew, ti_7 23 rfl rfl, ti_7 25 rfl rfl, ⟨RX11, TX11, 52, rfl, List.mem_append_left _ (List.mem_of_getElem? (i := 86) rfl)⟩, by decide, zLni (by decide +kernel)⟩
theorem lk_X11_453 : zKV RX11 453 mu_X11_imageCode 1 9 := ⟨lm_X11_imageCode, ti_8 17 rfl rfl, ti_8 19 rfl rfl, ⟨RX11, TX11, 52, rfl, List.mem_append_left _ (List.mem_of_getElem? (i := 106) rfl)⟩, by decide, zLni (by decide +kernel)⟩
theorem lk_X11_460 : zKV RX11 460 mu_X11_drawBy 1 9 := ⟨lm_X11_drawBy, ti_8 33 rfl rfl, ti_8 35 rfl rfl, ⟨RX11, TX11, 52, rfl, List.mem_append_left _ (List.mem_of_getElem? (i := 108) rfl)⟩, by decide, zLni (by decide +kernel)⟩
theorem lk_X11_463 : zKV RX11 463 mu_X11_draws 1 9 := ⟨lm_X11_draws, ti_8 29 rfl rfl, ti_8 31 rfl rfl, ⟨RX11, TX11, 52, rfl, List.mem_append_left _ (List.mem_of_getElem? (i := 107) rfl)⟩, by decide, zLni (by decide +kernel)⟩
theorem lk_X2_12 : zKS RX2 12 mu_X2_pair 2 := ⟨lm_X2_pair, ti_2 173 rfl rfl, ti_2 174 rfl rfl, zLni (by decide +kernel)⟩
theorem lk_X2_16 : zKS RX2 16 mu_X2_everyPoint 1 := ⟨lm_X2_everyPoint, ti_3 36 rfl rfl, ti_3 37 rfl rfl, zLni (by decide +kernel)⟩
theorem lk_X2_20 : zKS RX2 20 mu_X2_nearTo 3 := ⟨lm_X2_nearTo, ti_2 183 rfl rfl, ti_2 184 rfl rfl, zLni (by decide +kernel)⟩
theorem lk_X2_24 : zKS RX2 24 mu_X2_pairsOf 1 := ⟨lm_X2_pairsOf, ti_2 186 rfl rfl, ti_2 187 rfl rfl, zLni (by decide +kernel)⟩
theorem lk_X2_32 : zKS RX2 32 mu_X2_turnedAt 3 := ⟨lm_X2_turnedAt, ti_2 180 rfl rfl, ti_2 181 rfl rfl, zLni (by decide +kernel)⟩
theorem lk_X2_38 : zKS RX2 38 mu_X2_exchange 3 := ⟨lm_X2_exchange, ti_3 201 rfl rfl, ti_3 202 rfl rfl, zLni (by decide +kernel)⟩
theorem lk_X2_41 : zKS RX2 41 mu_X2_tied 3 := ⟨lm_X2_tied, ti_3 204 rfl rfl, ti_2 171 rfl rfl, zLni (by decide +kernel)⟩
theorem lk_X2_45 : zKS RX2 45 mu_X2_isIn 2 := ⟨lm_X2_isIn, ti_3 30 rfl rfl, ti_3 31 rfl rfl, zLni (by decide +kernel)⟩
theorem lk_X2_49 : zKS RX2 49 mu_X2_joinedTo 3 := ⟨lm_X2_joinedTo, ti_3 27 rfl rfl, ti_3 28 rfl rfl, zLni (by decide +kernel)⟩
theorem lk_X2_52 : zKS RX2 52 mu_X2_isLeastOf 2 := ⟨lm_X2_isLeastOf, ti_3 33 rfl rfl, ti_3 34 rfl rfl, zLni (by decide +kernel)⟩
theorem lk_X2_55 : zKS RX2 55 mu_X2_withRow 2 := ⟨lm_X2_withRow, ti_3 53 rfl rfl, ti_3 54 rfl rfl, zLni (by decide +kernel)⟩
theorem lk_X2_61 : zKS RX2 61 mu_J6_bitCount_0f7a4 1 := ⟨lm_J6_bitCount_0f7a4, ti_4 96 rfl rfl, ti_2 203 rfl rfl, zLni (by decide +kernel)⟩
theorem lk_X2_66 : zKS RX2 66 mu_X2_paint 6 := ⟨lm_X2_paint, ti_4 116 rfl rfl, ti_4 114 rfl rfl, zLni (by decide +kernel)⟩
theorem lk_X3_30 : zKS RX3 30 mu_X2_joinedTo 3 := ⟨lm_X2_joinedTo, ti_3 61 rfl rfl, ti_3 28 rfl rfl, zLni (by decide +kernel)⟩
theorem lk_X3_36 : zKS RX3 36 mu_X2_isLeastOf 2 := ⟨lm_X2_isLeastOf, ti_3 62 rfl rfl, ti_3 34 rfl rfl, zLni (by decide +kernel)⟩
theorem lk_X3_40 : zKV RX3 40 mu_X3_begin 3 2 := ⟨lm_X3_begin, ti_3 63 rfl rfl, ti_3 65 rfl rfl, ⟨RX3, TX3, 5, rfl, List.mem_append_left _ (List.mem_of_getElem? (i := 17) rfl)⟩, by decide, zLni (by decide +kernel)⟩
theorem lk_X3_44 : zKV RX3 44 mu_X3_takeOneApart 0 2 := ⟨lm_X3_takeOneApart, ti_3 71 rfl rfl, ti_3 73 rfl rfl, ⟨RX3, TX3, 5, rfl, List.mem_append_left _ (List.mem_of_getElem? (i := 18) rfl)⟩, by decide, zLni (by decide +kernel)⟩
theorem lk_X3_48 : zKS RX3 48 mu_X2_isIn 2 := ⟨lm_X2_isIn, ti_3 67 rfl rfl, ti_3 31 rfl rfl, zLni (by decide +kernel)⟩
theorem lk_X3_51 : zKS RX3 51 mu_X2_part 3 := ⟨lm_X2_part, ti_3 68 rfl rfl, ti_3 69 rfl rfl, zLni (by decide +kernel)⟩
theorem lk_X3_54 : zKS RX3 54 mu_X6_firstOf 2 := ⟨lm_X6_firstOf, ti_3 75 rfl rfl, ti_3 76 rfl rfl, zLni (by decide +kernel)⟩
theorem lk_X3_60 : zKS RX3 60 mu_X2_everyPoint 1 := ⟨lm_X2_everyPoint, ti_3 78 rfl rfl, ti_3 37 rfl rfl, zLni (by decide +kernel)⟩
theorem lk_X3_64 : zKV RX3 64 mu_X3_cut 3 2 := ⟨lm_X3_cut, ti_3 79 rfl rfl, ti_3 81 rfl rfl, ⟨RX3, TX3, 5, rfl, List.mem_append_left _ (List.mem_of_getElem? (i := 19) rfl)⟩, by decide, zLni (by decide +kernel)⟩
theorem lk_X3_67 : zKS RX3 67 mu_J6_bitCount_0f7a4 1 := ⟨lm_J6_bitCount_0f7a4, ti_3 83 rfl rfl, ti_2 203 rfl rfl, zLni (by decide +kernel)⟩
theorem lk_X3_72 : zKS RX3 72 mu_X2_nearTo 3 := ⟨lm_X2_nearTo, ti_3 84 rfl rfl, ti_2 184 rfl rfl, zLni (by decide +kernel)⟩
theorem lk_X3_75 : zKS RX3 75 mu_X2_pair 2 := ⟨lm_X2_pair, ti_3 85 rfl rfl, ti_2 174 rfl rfl, zLni (by decide +kernel)⟩
theorem lk_X3_78 : zKV RX3 78 mu_X3_has 1 2 := ⟨lm_X3_has, ti_4 47 rfl rfl, ti_4 49 rfl rfl, ⟨RX3, TX3, 5, rfl, List.mem_append_left _ (List.mem_of_getElem? (i := 32) rfl)⟩, by decide, zLni (by decide +kernel)⟩
theorem lk_X3_82 : zKV RX3 82 mu_X3_sizeOf 1 2 := ⟨lm_X3_sizeOf, ti_4 43 rfl rfl, ti_4 44 rfl rfl, ⟨RX3, TX3, 5, rfl, tb_4 _ (List.mem_of_getElem? (i := 45) rfl)⟩, by decide, zLni (by decide +kernel)⟩
theorem lk_X3_85 : zKV RX3 85 mu_X3_knotAt 2 2 := ⟨lm_X3_knotAt, ti_4 56 rfl rfl, ti_4 57 rfl rfl, ⟨RX3, TX3, 5, rfl, tb_4 _ (List.mem_of_getElem? (i := 58) rfl)⟩, by decide, zLni (by decide +kernel)⟩
theorem lk_X3_88 : zKV RX3 88 mu_X3_kindOf 1 2 := ⟨lm_X3_kindOf, ti_4 85 rfl rfl, ti_4 40 rfl rfl, ⟨RX3, TX3, 5, rfl, tb_4 _ (List.mem_of_getElem? (i := 41) rfl)⟩, by decide, zLni (by decide +kernel)⟩
theorem lk_X4_43 : zKV RX4 43 mu_X4_nextToken 0 3 := ⟨lm_X4_nextToken, ti_2 75 rfl rfl, ti_2 77 rfl rfl, ⟨RX4, TX4, 10, rfl, List.mem_append_left _ (List.mem_of_getElem? (i := 1) rfl)⟩, by decide, zLni (by decide +kernel)⟩
theorem lk_X4_50 : zKV RX4 50 mu_X4_readLine 0 3 := ⟨lm_X4_readLine, ti_2 96 rfl rfl, ti_2 98 rfl rfl, ⟨RX4, TX4, 10, rfl, List.mem_append_left _ (List.mem_of_getElem? (i := 4) rfl)⟩, by decide, zLni (by decide +kernel)⟩
theorem lk_X4_56 : zKV RX4 56 mu_X4_byteAt 1 3 := ⟨lm_X4_byteAt, ti_2 79 rfl rfl, ti_2 81 rfl rfl, ⟨RX4, TX4, 10, rfl, List.mem_append_left _ (List.mem_of_getElem? (i := 2) rfl)⟩, by decide, zLni (by decide +kernel)⟩
theorem lk_X4_60 : zKS RX4 60 mu_X4_isBlank 1 := ⟨lm_X4_isBlank, ti_2 83 rfl rfl, ti_2 84 rfl rfl, zLni (by decide +kernel)⟩
theorem lk_X4_64 : zKS RX4 64 mu_X4_isSmall 1 := ⟨lm_X4_isSmall, ti_2 86 rfl rfl, ti_2 87 rfl rfl, zLni (by decide +kernel)⟩
theorem lk_X4_67 : zKS RX4 67 mu_X4_isDigit 1 := ⟨lm_X4_isDigit, ti_2 89 rfl rfl, ti_2 90 rfl rfl, zLni (by decide +kernel)⟩
theorem lk_X4_70 : zKV RX4 70 mu_X4_fail 1 3 := ⟨lm_X4_fail, ti_2 92 rfl rfl, ti_2 94 rfl rfl, ⟨RX4, TX4, 10, rfl, List.mem_append_left _ (List.mem_of_getElem? (i := 3) rfl)⟩, by decide, zLni (by decide +kernel)⟩
theorem lk_X4_84 : zKV RX4 84 mu_X4_says 1 3 := ⟨lm_X4_says, ti_2 101 rfl rfl, ti_2 103 rfl rfl, ⟨RX4, TX4, 10, rfl, List.mem_append_left _ (List.mem_of_getElem? (i := 5) rfl)⟩, by decide, zLni (by decide +kernel)⟩
theorem lk_X4_88 : zKV RX4 88 mu_X4_readPoints 0 3 := ⟨lm_X4_readPoints, ti_2 153 rfl rfl, ti_2 155 rfl rfl, ⟨RX4, TX4, 10, rfl, List.mem_append_left _ (List.mem_of_getElem? (i := 6) rfl)⟩, by decide, zLni (by decide +kernel)⟩
theorem lk_X4_93 : zKV RX4 93 mu_X4_readCouple 1 3 := ⟨lm_X4_readCouple, ti_2 162 rfl rfl, ti_2 164 rfl rfl, ⟨RX4, TX4, 10, rfl, List.mem_append_left _ (List.mem_of_getElem? (i := 8) rfl)⟩, by decide, zLni (by decide +kernel)⟩
theorem lk_X4_99 : zKV RX4 99 mu_X4_readCross 0 3 := ⟨lm_X4_readCross, ti_2 194 rfl rfl, ti_2 196 rfl rfl, ⟨RX4, TX4, 10, rfl, List.mem_append_left _ (List.mem_of_getElem? (i := 10) rfl)⟩, by decide, zLni (by decide +kernel)⟩
theorem lk_X4_104 : zKV RX4 104 mu_X4_readTurn 0 3 := ⟨lm_X4_readTurn, ti_2 230 rfl rfl, ti_2 232 rfl rfl, ⟨RX4, TX4, 10, rfl, List.mem_append_left _ (List.mem_of_getElem? (i := 14) rfl)⟩, by decide, zLni (by decide +kernel)⟩
theorem lk_X4_109 : zKV RX4 109 mu_X4_expect 1 3 := ⟨lm_X4_expect, ti_2 157 rfl rfl, ti_2 159 rfl rfl, ⟨RX4, TX4, 10, rfl, List.mem_append_left _ (List.mem_of_getElem? (i := 7) rfl)⟩, by decide, zLni (by decide +kernel)⟩
theorem lk_X4_112 : zKV RX4 112 mu_X4_readPoint 0 3 := ⟨lm_X4_readPoint, ti_2 166 rfl rfl, ti_2 168 rfl rfl, ⟨RX4, TX4, 10, rfl, List.mem_append_left _ (List.mem_of_getElem? (i := 9) rfl)⟩, by decide, zLni (by decide +kernel)⟩
theorem lk_X4_115 : zKS RX4 115 mu_X2_turnedAt 3 := ⟨lm_X2_turnedAt, ti_2 234 rfl rfl, ti_2 181 rfl rfl, zLni (by decide +kernel)⟩
theorem lk_X4_121 : zKS RX4 121 mu_X2_tied 3 := ⟨lm_X2_tied, ti_2 170 rfl rfl, ti_2 171 rfl rfl, zLni (by decide +kernel)⟩
theorem lk_X4_125 : zKS RX4 125 mu_X2_swungOver 4 := ⟨lm_X2_swungOver, ti_2 176 rfl rfl, ti_2 177 rfl rfl, zLni (by decide +kernel)⟩
theorem lk_X4_129 : zKS RX4 129 mu_X2_pair 2 := ⟨lm_X2_pair, ti_2 192 rfl rfl, ti_2 174 rfl rfl, zLni (by decide +kernel)⟩
theorem lk_X4_132 : zKV RX4 132 mu_X4_unlikeLetters 0 3 := ⟨lm_X4_unlikeLetters, ti_2 198 rfl rfl, ti_2 200 rfl rfl, ⟨RX4, TX4, 10, rfl, List.mem_append_left _ (List.mem_of_getElem? (i := 11) rfl)⟩, by decide, zLni (by decide +kernel)⟩
theorem lk_X4_135 : zKV RX4 135 mu_X4_copyWord 0 3 := ⟨lm_X4_copyWord, ti_2 208 rfl rfl, ti_2 210 rfl rfl, ⟨RX4, TX4, 10, rfl, List.mem_append_left _ (List.mem_of_getElem? (i := 12) rfl)⟩, by decide, zLni (by decide +kernel)⟩
theorem lk_X4_138 : zKS RX4 138 mu_X5_isChordWord 3 := ⟨lm_X5_isChordWord, ti_2 212 rfl rfl, ti_2 213 rfl rfl, zLni (by decide +kernel)⟩
theorem lk_X4_144 : zKS RX4 144 mu_X5_crossings 2 := ⟨lm_X5_crossings, ti_2 218 rfl rfl, ti_2 219 rfl rfl, zLni (by decide +kernel)⟩
theorem lk_X4_148 : zKV RX4 148 mu_X4_addCrossing 2 3 := ⟨lm_X4_addCrossing, ti_2 225 rfl rfl, ti_2 227 rfl rfl, ⟨RX4, TX4, 10, rfl, List.mem_append_left _ (List.mem_of_getElem? (i := 13) rfl)⟩, by decide, zLni (by decide +kernel)⟩
theorem lk_X4_152 : zKS RX4 152 mu_J6_bitCount_0f7a4 1 := ⟨lm_J6_bitCount_0f7a4, ti_2 202 rfl rfl, ti_2 203 rfl rfl, zLni (by decide +kernel)⟩
theorem lk_X5_9 : zKS RX5 9 mu_X5_crossing 4 := ⟨lm_X5_crossing, ti_2 221 rfl rfl, ti_2 222 rfl rfl, zLni (by decide +kernel)⟩
theorem lk_X5_15 : zKS RX5 15 mu_X2_pair 2 := ⟨lm_X2_pair, ti_2 224 rfl rfl, ti_2 174 rfl rfl, zLni (by decide +kernel)⟩
theorem lk_X5_21 : zKS RX5 21 mu_X5_count 3 := ⟨lm_X5_count, ti_2 215 rfl rfl, ti_2 216 rfl rfl, zLni (by decide +kernel)⟩
theorem lk_X5_25 : zKS RX5 25 mu_X5_placeOf 4 := ⟨lm_X5_placeOf, ti_4 149 rfl rfl, ti_3 123 rfl rfl, zLni (by decide +kernel)⟩
theorem lk_X5_34 : zKS RX5 34 mu_X5_spanOf 3 := ⟨lm_X5_spanOf, ti_4 158 rfl rfl, ti_4 147 rfl rfl, zLni (by decide +kernel)⟩
theorem lk_X5_37 : zKSN RX5 37 mu_X10_ratio 3 "ChordWords" := ⟨lm_X10_ratio, ti_4 159 rfl rfl, ti_4 160 rfl rfl, zLni (by decide +kernel)⟩
theorem lk_X5_44 : zKS RX5 44 mu_X5_next 3 := ⟨lm_X5_next, ti_4 187 rfl rfl, ti_4 188 rfl rfl, zLni (by decide +kernel)⟩
theorem lk_X5_48 : zKS RX5 48 mu_X5_pack 4 := ⟨lm_X5_pack, ti_4 184 rfl rfl, ti_4 185 rfl rfl, zLni (by decide +kernel)⟩
theorem lk_X5_55 : zKS RX5 55 mu_X5_oddBetween 3 := ⟨lm_X5_oddBetween, ti_4 210 rfl rfl, ti_4 211 rfl rfl, zLni (by decide +kernel)⟩
theorem lk_X6_19 : zKS RX6 19 mu_X2_joined 2 := ⟨lm_X2_joined, ti_3 43 rfl rfl, ti_3 44 rfl rfl, zLni (by decide +kernel)⟩
theorem lk_X6_25 : zKS RX6 25 mu_X6_isSplit 3 := ⟨lm_X6_isSplit, ti_3 46 rfl rfl, ti_3 47 rfl rfl, zLni (by decide +kernel)⟩
theorem lk_X6_29 : zKV RX6 29 mu_X6_setAt 1 4 := ⟨lm_X6_setAt, ti_4 22 rfl rfl, ti_4 11 rfl rfl, ⟨RX6, TX6, 2, rfl, tb_4 _ (List.mem_of_getElem? (i := 12) rfl)⟩, by decide, zLni (by decide +kernel)⟩
theorem lk_X6_33 : zKS RX6 33 mu_X2_everyPoint 1 := ⟨lm_X2_everyPoint, ti_4 23 rfl rfl, ti_3 37 rfl rfl, zLni (by decide +kernel)⟩
theorem lk_X6_36 : zKS RX6 36 mu_X6_isWithin 2 := ⟨lm_X6_isWithin, ti_4 24 rfl rfl, ti_4 25 rfl rfl, zLni (by decide +kernel)⟩
theorem lk_X6_39 : zKV RX6 39 mu_X6_isStrong 2 4 := ⟨lm_X6_isStrong, ti_4 101 rfl rfl, ti_4 19 rfl rfl, ⟨RX6, TX6, 2, rfl, tb_4 _ (List.mem_of_getElem? (i := 20) rfl)⟩, by decide, zLni (by decide +kernel)⟩
theorem lk_X6_42 : zKS RX6 42 mu_J6_bitCount_0f7a4 1 := ⟨lm_J6_bitCount_0f7a4, ti_3 49 rfl rfl, ti_2 203 rfl rfl, zLni (by decide +kernel)⟩
theorem lk_X6_47 : zKS RX6 47 mu_X2_rank 3 := ⟨lm_X2_rank, ti_3 50 rfl rfl, ti_3 51 rfl rfl, zLni (by decide +kernel)⟩
theorem lk_X6_51 : zKS RX6 51 mu_X6_firstOf 2 := ⟨lm_X6_firstOf, ti_4 34 rfl rfl, ti_3 76 rfl rfl, zLni (by decide +kernel)⟩
theorem lk_X7_19 : zKV RX7 19 mu_X7_holds 1 5 := ⟨lm_X7_holds, ti_4 179 rfl rfl, ti_2 61 rfl rfl, ⟨RX7, TX7, 2, rfl, tb_2 _ (List.mem_of_getElem? (i := 62) rfl)⟩, by decide, zLni (by decide +kernel)⟩
theorem lk_X8_31 : zKS RX8 31 mu_J7_fill_53178 2 := ⟨lm_J7_fill_53178, ti_3 141 rfl rfl, ti_1 101 rfl rfl, zLni (by decide +kernel)⟩
theorem lk_X8_37 : zKV RX8 37 mu_X8_meet 2 6 := ⟨lm_X8_meet, ti_3 142 rfl rfl, ti_3 144 rfl rfl, ⟨RX8, TX8, 6, rfl, List.mem_append_left _ (List.mem_of_getElem? (i := 24) rfl)⟩, by decide, zLni (by decide +kernel)⟩
theorem lk_X8_41 : zKS RX8 41 mu_X2_turnedAt 3 := ⟨lm_X2_turnedAt, ti_3 150 rfl rfl, ti_2 181 rfl rfl, zLni (by decide +kernel)⟩
theorem lk_X8_47 : zKV RX8 47 mu_X8_keep 3 6 := ⟨lm_X8_keep, ti_3 146 rfl rfl, ti_3 148 rfl rfl, ⟨RX8, TX8, 6, rfl, List.mem_append_left _ (List.mem_of_getElem? (i := 25) rfl)⟩, by decide, zLni (by decide +kernel)⟩
theorem lk_X8_51 : zKS RX8 51 mu_J6_bitCount_0f7a4 1 := ⟨lm_J6_bitCount_0f7a4, ti_5 27 rfl rfl, ti_2 203 rfl rfl, zLni (by decide +kernel)⟩
theorem lk_X8_66 : zKS RX8 66 mu_X2_everyPoint 1 := ⟨lm_X2_everyPoint, ti_5 58 rfl rfl, ti_3 37 rfl rfl, zLni (by decide +kernel)⟩
theorem lk_X8_69 : zKS RX8 69 mu_X2_pairsOf 1 := ⟨lm_X2_pairsOf, ti_5 59 rfl rfl, ti_2 187 rfl rfl, zLni (by decide +kernel)⟩
theorem ms_min : Cond.static Lib.Math.min.name ∈ zT := ti_2 73 rfl rfl
theorem mc_min : Cond.code Lib.Math.min.name Lib.Math.min.code 2 (some .int) ∈ zT := zT_in (tb_2 _ (List.mem_of_getElem? (i := 74) (by decide +kernel))) rfl
theorem ms_max : Cond.static Lib.Math.max.name ∈ zT := ti_2 190 rfl rfl
theorem mc_max : Cond.code Lib.Math.max.name Lib.Math.max.code 2 (some .int) ∈ zT := zT_in (tb_2 _ (List.mem_of_getElem? (i := 191) (by decide +kernel))) rfl
theorem ms_minL : Cond.static Lib.MathLoose.min_long.x ∈ zT := ti_4 191 rfl rfl
theorem mc_minL : Cond.code Lib.MathLoose.min_long.x Lib.MathLoose.min_long.code 4 (some .long) ∈ zT := zT_in (tb_4 _ (List.mem_of_getElem? (i := 192) (by decide +kernel))) rfl
theorem mi_Math : Cond.initialized "java/lang/Math" ∈ zT := ti_1 12 rfl rfl
theorem mi_System : Cond.initialized "java/lang/System" ∈ zT := ti_1 20 rfl rfl
theorem mn_copy : Cond.native arraycopyName ∈ zT := ti_3 9 rfl rfl
theorem ms_copy : Cond.static arraycopyName ∈ zT := ti_3 8 rfl rfl
theorem mi_oinit : Cond.instanceMethod Lib.objectInit ∈ zT := ti_1 27 rfl rfl
theorem mc_oinit : Cond.code Lib.objectInit ⟨#[0xb1]⟩ 1 none ∈ zT := zT_in (tb_1 _ (List.mem_of_getElem? (i := 28) (by decide +kernel))) rfl

abbrev cX10_image : ByteArray := prog_1_method_15_code
abbrev cX10_like : ByteArray := prog_1_method_16_code
abbrev cX10_order : ByteArray := prog_1_method_17_code
abbrev cX10_split : ByteArray := prog_1_method_18_code
abbrev cX10_strong : ByteArray := prog_1_method_19_code
abbrev cX10_prime : ByteArray := prog_1_method_20_code
abbrev cX10_piece : ByteArray := prog_1_method_21_code
abbrev cX10_knot : ByteArray := prog_1_method_22_code
abbrev cX10_ties : ByteArray := prog_1_method_23_code
abbrev cX10_plain : ByteArray := prog_1_method_24_code
abbrev cX10_twins : ByteArray := prog_1_method_25_code
abbrev cX10_most : ByteArray := prog_1_method_26_code
abbrev cX10_colours : ByteArray := prog_1_method_27_code
abbrev cX10_paintings : ByteArray := prog_1_method_28_code
abbrev cX10_letter : ByteArray := prog_1_method_29_code
abbrev cX10_span : ByteArray := prog_1_method_30_code
abbrev cX10_mean : ByteArray := prog_1_method_31_code
abbrev cX10_find : ByteArray := prog_1_method_32_code
abbrev cX10_cross : ByteArray := prog_1_method_33_code
abbrev cX10_fits : ByteArray := prog_1_method_34_code
abbrev cX10_gap : ByteArray := prog_1_method_35_code
abbrev cX10_could : ByteArray := prog_1_method_36_code
abbrev cX10_beside : ByteArray := prog_1_method_37_code
abbrev cX10_turned : ByteArray := prog_1_method_38_code
abbrev cX10_obstruction : ByteArray := prog_1_method_39_code
abbrev cX10_obstructions : ByteArray := prog_1_method_40_code
abbrev cX10_family : ByteArray := prog_1_method_41_code
abbrev cX10_turns : ByteArray := prog_1_method_42_code
abbrev cX10_within : ByteArray := prog_1_method_43_code
abbrev cX10_shuffle : ByteArray := prog_1_method_44_code
abbrev cX10_sample : ByteArray := prog_1_method_45_code
abbrev cX10_refuse : ByteArray := prog_1_method_46_code
abbrev cX10_answer : ByteArray := prog_1_method_47_code
abbrev cX10_become : ByteArray := prog_1_method_48_code
abbrev cX10_hasPoint : ByteArray := prog_1_method_49_code
abbrev cX10_hasSet : ByteArray := prog_1_method_50_code
abbrev cX10_hasModel : ByteArray := prog_1_method_51_code
abbrev cX10_imageAt : ByteArray := prog_1_method_52_code
abbrev cX10_badCouple : ByteArray := prog_1_method_53_code
abbrev cX10_badImage : ByteArray := prog_1_method_54_code
abbrev cX10_badSplit : ByteArray := prog_1_method_55_code
abbrev cX10_badKnot : ByteArray := prog_1_method_56_code
abbrev cX10_badModelPoint : ByteArray := prog_1_method_57_code
abbrev cX10_partHasModel : ByteArray := prog_1_method_58_code
abbrev cX10_findObstruction : ByteArray := prog_1_method_59_code
abbrev cX10_ratio : ByteArray := prog_1_method_60_code
abbrev cX10_bitsOf : ByteArray := prog_1_method_61_code
abbrev cX11_init : ByteArray := prog_13_method_1_code
abbrev cX11_status : ByteArray := prog_13_method_2_code
abbrev cX11_refuse : ByteArray := prog_13_method_3_code
abbrev cX11_isSo : ByteArray := prog_13_method_4_code
abbrev cX11_gives : ByteArray := prog_13_method_5_code
abbrev cX11_isFrom : ByteArray := prog_13_method_6_code
abbrev cX11_has : ByteArray := prog_13_method_7_code
abbrev cX11_bits : ByteArray := prog_13_method_8_code
abbrev cX11_lowest : ByteArray := prog_13_method_9_code
abbrev cX11_all : ByteArray := prog_13_method_10_code
abbrev cX11_isPoint : ByteArray := prog_13_method_11_code
abbrev cX11_isSet : ByteArray := prog_13_method_12_code
abbrev cX11_flips : ByteArray := prog_13_method_13_code
abbrev cX11_turns0 : ByteArray := prog_13_method_14_code
abbrev cX11_swings : ByteArray := prog_13_method_15_code
abbrev cX11_lines : ByteArray := prog_13_method_16_code
abbrev cX11_joined : ByteArray := prog_13_method_17_code
abbrev cX11_sets : ByteArray := prog_13_method_18_code
abbrev cX11_areJoined : ByteArray := prog_13_method_19_code
abbrev cX11_feed : ByteArray := prog_13_method_20_code
abbrev cX11_four : ByteArray := prog_13_method_21_code
abbrev cX11_byteAt : ByteArray := prog_13_method_22_code
abbrev cX11_isSmall : ByteArray := prog_13_method_23_code
abbrev cX11_isDigit : ByteArray := prog_13_method_24_code
abbrev cX11_ahead : ByteArray := prog_13_method_25_code
abbrev cX11_key : ByteArray := prog_13_method_26_code
theorem dX10_image_34 : decode cX10_image 34 = .ok (.aload_n 0, 1) := by decide +kernel
theorem dX10_image_35 : decode cX10_image 35 = .ok (.getfield 136, 3) := by decide +kernel
theorem dX10_image_38 : decode cX10_image 38 = .ok (.invokestatic 210, 3) := by decide +kernel
theorem dX10_image_41 : decode cX10_image 41 = .ok (.iastore, 1) := by decide +kernel
theorem dX10_image_42 : decode cX10_image 42 = .ok (.iconst 1, 1) := by decide +kernel
theorem dX10_image_43 : decode cX10_image 43 = .ok (.ireturn, 1) := by decide +kernel
theorem dX10_like_0 : decode cX10_like 0 = .ok (.aload_n 0, 1) := by decide +kernel
theorem dX10_like_1 : decode cX10_like 1 = .ok (.iload_n 1, 1) := by decide +kernel
theorem dX10_like_2 : decode cX10_like 2 = .ok (.invokevirtual 213, 3) := by decide +kernel
theorem dX10_like_5 : decode cX10_like 5 = .ok (.istore_n 2, 1) := by decide +kernel
theorem dX10_like_6 : decode cX10_like 6 = .ok (.iload_n 2, 1) := by decide +kernel
theorem dX10_like_7 : decode cX10_like 7 = .ok (.ifCond .eq 9, 3) := by decide +kernel
theorem dX10_like_10 : decode cX10_like 10 = .ok (.aload_n 0, 1) := by decide +kernel
theorem dX10_like_11 : decode cX10_like 11 = .ok (.iload_n 2, 1) := by decide +kernel
theorem dX10_like_12 : decode cX10_like 12 = .ok (.invokevirtual 102, 3) := by decide +kernel
theorem dX10_like_15 : decode cX10_like 15 = .ok (.ireturn, 1) := by decide +kernel
theorem dX10_like_16 : decode cX10_like 16 = .ok (.aload_n 0, 1) := by decide +kernel
theorem dX10_like_17 : decode cX10_like 17 = .ok (.aload_n 0, 1) := by decide +kernel
theorem dX10_like_18 : decode cX10_like 18 = .ok (.iload_n 1, 1) := by decide +kernel
theorem dX10_like_19 : decode cX10_like 19 = .ok (.invokevirtual 216, 3) := by decide +kernel
theorem dX10_like_22 : decode cX10_like 22 = .ok (.aload_n 0, 1) := by decide +kernel
theorem dX10_like_23 : decode cX10_like 23 = .ok (.getfield 129, 3) := by decide +kernel
theorem dX10_like_26 : decode cX10_like 26 = .ok (.aload_n 0, 1) := by decide +kernel
theorem dX10_like_27 : decode cX10_like 27 = .ok (.getfield 136, 3) := by decide +kernel
theorem dX10_like_30 : decode cX10_like 30 = .ok (.invokestatic 210, 3) := by decide +kernel
theorem dX10_like_33 : decode cX10_like 33 = .ok (.if_icmp .ne 7, 3) := by decide +kernel
theorem dX10_like_36 : decode cX10_like 36 = .ok (.iconst 1, 1) := by decide +kernel
theorem dX10_like_37 : decode cX10_like 37 = .ok (.goto 4, 3) := by decide +kernel
theorem dX10_like_40 : decode cX10_like 40 = .ok (.iconst 0, 1) := by decide +kernel
theorem dX10_like_41 : decode cX10_like 41 = .ok (.invokevirtual 130, 3) := by decide +kernel
theorem dX10_like_44 : decode cX10_like 44 = .ok (.ireturn, 1) := by decide +kernel
theorem dX10_order_0 : decode cX10_order 0 = .ok (.aload_n 0, 1) := by decide +kernel
theorem dX10_order_1 : decode cX10_order 1 = .ok (.iload_n 1, 1) := by decide +kernel
theorem dX10_order_2 : decode cX10_order 2 = .ok (.invokevirtual 171, 3) := by decide +kernel
theorem dX10_order_5 : decode cX10_order 5 = .ok (.ifCond .ne 9, 3) := by decide +kernel
theorem dX10_order_8 : decode cX10_order 8 = .ok (.aload_n 0, 1) := by decide +kernel
theorem dX10_order_9 : decode cX10_order 9 = .ok (.iconst 1, 1) := by decide +kernel
theorem dX10_order_10 : decode cX10_order 10 = .ok (.invokevirtual 102, 3) := by decide +kernel
theorem dX10_order_13 : decode cX10_order 13 = .ok (.ireturn, 1) := by decide +kernel
theorem dX10_order_14 : decode cX10_order 14 = .ok (.aload_n 0, 1) := by decide +kernel
theorem dX10_order_15 : decode cX10_order 15 = .ok (.aload_n 0, 1) := by decide +kernel
theorem dX10_order_16 : decode cX10_order 16 = .ok (.getfield 129, 3) := by decide +kernel
theorem dX10_order_19 : decode cX10_order 19 = .ok (.aload_n 0, 1) := by decide +kernel
theorem dX10_order_20 : decode cX10_order 20 = .ok (.getfield 136, 3) := by decide +kernel
theorem dX10_order_23 : decode cX10_order 23 = .ok (.iload_n 1, 1) := by decide +kernel
theorem dX10_order_24 : decode cX10_order 24 = .ok (.invokestatic 219, 3) := by decide +kernel
theorem dX10_order_27 : decode cX10_order 27 = .ok (.invokevirtual 130, 3) := by decide +kernel
theorem dX10_order_30 : decode cX10_order 30 = .ok (.ireturn, 1) := by decide +kernel
theorem dX10_split_0 : decode cX10_split 0 = .ok (.aload_n 0, 1) := by decide +kernel
theorem dX10_split_1 : decode cX10_split 1 = .ok (.iload_n 1, 1) := by decide +kernel
theorem dX10_split_2 : decode cX10_split 2 = .ok (.invokevirtual 222, 3) := by decide +kernel
theorem dX10_split_5 : decode cX10_split 5 = .ok (.istore_n 2, 1) := by decide +kernel
theorem dX10_split_6 : decode cX10_split 6 = .ok (.iload_n 2, 1) := by decide +kernel
theorem dX10_split_7 : decode cX10_split 7 = .ok (.ifCond .eq 9, 3) := by decide +kernel
theorem dX10_split_10 : decode cX10_split 10 = .ok (.aload_n 0, 1) := by decide +kernel
theorem dX10_split_11 : decode cX10_split 11 = .ok (.iload_n 2, 1) := by decide +kernel
theorem dX10_split_12 : decode cX10_split 12 = .ok (.invokevirtual 102, 3) := by decide +kernel
theorem dX10_split_15 : decode cX10_split 15 = .ok (.ireturn, 1) := by decide +kernel
theorem dX10_split_16 : decode cX10_split 16 = .ok (.aload_n 0, 1) := by decide +kernel
theorem dX10_split_17 : decode cX10_split 17 = .ok (.aload_n 0, 1) := by decide +kernel
theorem dX10_split_18 : decode cX10_split 18 = .ok (.getfield 43, 3) := by decide +kernel
theorem dX10_split_21 : decode cX10_split 21 = .ok (.iload_n 1, 1) := by decide +kernel
theorem dX10_split_22 : decode cX10_split 22 = .ok (.invokevirtual 225, 3) := by decide +kernel
theorem dX10_split_25 : decode cX10_split 25 = .ok (.invokevirtual 130, 3) := by decide +kernel
theorem dX10_split_28 : decode cX10_split 28 = .ok (.ireturn, 1) := by decide +kernel
theorem dX10_strong_0 : decode cX10_strong 0 = .ok (.aload_n 0, 1) := by decide +kernel
theorem dX10_strong_1 : decode cX10_strong 1 = .ok (.iload_n 1, 1) := by decide +kernel
theorem dX10_strong_2 : decode cX10_strong 2 = .ok (.invokevirtual 222, 3) := by decide +kernel
theorem dX10_strong_5 : decode cX10_strong 5 = .ok (.istore_n 2, 1) := by decide +kernel
theorem dX10_strong_6 : decode cX10_strong 6 = .ok (.iload_n 2, 1) := by decide +kernel
theorem dX10_strong_7 : decode cX10_strong 7 = .ok (.ifCond .eq 9, 3) := by decide +kernel
theorem dX10_strong_10 : decode cX10_strong 10 = .ok (.aload_n 0, 1) := by decide +kernel
theorem dX10_strong_11 : decode cX10_strong 11 = .ok (.iload_n 2, 1) := by decide +kernel
theorem dX10_strong_12 : decode cX10_strong 12 = .ok (.invokevirtual 102, 3) := by decide +kernel
theorem dX10_strong_15 : decode cX10_strong 15 = .ok (.ireturn, 1) := by decide +kernel
theorem dX10_strong_16 : decode cX10_strong 16 = .ok (.aload_n 0, 1) := by decide +kernel
theorem dX10_strong_17 : decode cX10_strong 17 = .ok (.aload_n 0, 1) := by decide +kernel
theorem dX10_strong_18 : decode cX10_strong 18 = .ok (.getfield 43, 3) := by decide +kernel
theorem dX10_strong_21 : decode cX10_strong 21 = .ok (.aload_n 0, 1) := by decide +kernel
theorem dX10_strong_22 : decode cX10_strong 22 = .ok (.getfield 129, 3) := by decide +kernel
theorem dX10_strong_25 : decode cX10_strong 25 = .ok (.iload_n 1, 1) := by decide +kernel
theorem dX10_strong_26 : decode cX10_strong 26 = .ok (.invokevirtual 228, 3) := by decide +kernel
theorem dX10_strong_29 : decode cX10_strong 29 = .ok (.ifCond .eq 7, 3) := by decide +kernel
theorem dX10_strong_32 : decode cX10_strong 32 = .ok (.iconst 1, 1) := by decide +kernel
theorem dX10_strong_33 : decode cX10_strong 33 = .ok (.goto 4, 3) := by decide +kernel
theorem dX10_strong_36 : decode cX10_strong 36 = .ok (.iconst 0, 1) := by decide +kernel
theorem dX10_strong_37 : decode cX10_strong 37 = .ok (.invokevirtual 130, 3) := by decide +kernel
theorem dX10_strong_40 : decode cX10_strong 40 = .ok (.ireturn, 1) := by decide +kernel
theorem dX10_prime_0 : decode cX10_prime 0 = .ok (.aload_n 0, 1) := by decide +kernel
theorem dX10_prime_1 : decode cX10_prime 1 = .ok (.aload_n 0, 1) := by decide +kernel
theorem dX10_prime_2 : decode cX10_prime 2 = .ok (.getfield 129, 3) := by decide +kernel
theorem dX10_prime_5 : decode cX10_prime 5 = .ok (.aload_n 0, 1) := by decide +kernel
theorem dX10_prime_6 : decode cX10_prime 6 = .ok (.getfield 136, 3) := by decide +kernel
theorem dX10_prime_9 : decode cX10_prime 9 = .ok (.invokestatic 232, 3) := by decide +kernel
theorem dX10_prime_12 : decode cX10_prime 12 = .ok (.ifCond .eq 7, 3) := by decide +kernel
theorem dX10_prime_15 : decode cX10_prime 15 = .ok (.iconst 1, 1) := by decide +kernel
theorem dX10_prime_16 : decode cX10_prime 16 = .ok (.goto 4, 3) := by decide +kernel
theorem dX10_prime_19 : decode cX10_prime 19 = .ok (.iconst 0, 1) := by decide +kernel
theorem dX10_prime_20 : decode cX10_prime 20 = .ok (.invokevirtual 130, 3) := by decide +kernel
theorem dX10_prime_23 : decode cX10_prime 23 = .ok (.ireturn, 1) := by decide +kernel
theorem dX10_piece_0 : decode cX10_piece 0 = .ok (.iload_n 1, 1) := by decide +kernel
theorem dX10_piece_1 : decode cX10_piece 1 = .ok (.ifCond .lt 12, 3) := by decide +kernel
theorem dX10_piece_4 : decode cX10_piece 4 = .ok (.iload_n 2, 1) := by decide +kernel
theorem dX10_piece_5 : decode cX10_piece 5 = .ok (.ifCond .lt 8, 3) := by decide +kernel
theorem dX10_piece_8 : decode cX10_piece 8 = .ok (.iload_n 2, 1) := by decide +kernel
theorem dX10_piece_9 : decode cX10_piece 9 = .ok (.iconst 2, 1) := by decide +kernel
theorem dX10_piece_10 : decode cX10_piece 10 = .ok (.if_icmp .le 9, 3) := by decide +kernel
theorem dX10_piece_13 : decode cX10_piece 13 = .ok (.aload_n 0, 1) := by decide +kernel
theorem dX10_piece_14 : decode cX10_piece 14 = .ok (.iconst 1, 1) := by decide +kernel
theorem dX10_piece_15 : decode cX10_piece 15 = .ok (.invokevirtual 102, 3) := by decide +kernel
theorem dX10_piece_18 : decode cX10_piece 18 = .ok (.ireturn, 1) := by decide +kernel
theorem dX10_piece_19 : decode cX10_piece 19 = .ok (.aload_n 0, 1) := by decide +kernel
theorem dX10_piece_20 : decode cX10_piece 20 = .ok (.getfield 50, 3) := by decide +kernel
theorem dX10_piece_23 : decode cX10_piece 23 = .ok (.aload_n 0, 1) := by decide +kernel
theorem dX10_piece_24 : decode cX10_piece 24 = .ok (.getfield 129, 3) := by decide +kernel
theorem dX10_piece_27 : decode cX10_piece 27 = .ok (.aload_n 0, 1) := by decide +kernel
theorem dX10_piece_28 : decode cX10_piece 28 = .ok (.getfield 136, 3) := by decide +kernel
theorem dX10_piece_31 : decode cX10_piece 31 = .ok (.invokevirtual 155, 3) := by decide +kernel
theorem dX10_piece_34 : decode cX10_piece 34 = .ok (.iload_n 1, 1) := by decide +kernel
theorem dX10_piece_35 : decode cX10_piece 35 = .ok (.aload_n 0, 1) := by decide +kernel
theorem dX10_piece_36 : decode cX10_piece 36 = .ok (.getfield 50, 3) := by decide +kernel
theorem dX10_piece_39 : decode cX10_piece 39 = .ok (.getfield 156, 3) := by decide +kernel
theorem dX10_piece_42 : decode cX10_piece 42 = .ok (.if_icmp .lt 10, 3) := by decide +kernel
theorem dX10_piece_45 : decode cX10_piece 45 = .ok (.aload_n 0, 1) := by decide +kernel
theorem dX10_piece_46 : decode cX10_piece 46 = .ok (.bipush 6, 2) := by decide +kernel
theorem dX10_piece_48 : decode cX10_piece 48 = .ok (.invokevirtual 102, 3) := by decide +kernel
theorem dX10_piece_51 : decode cX10_piece 51 = .ok (.ireturn, 1) := by decide +kernel
theorem dX10_piece_52 : decode cX10_piece 52 = .ok (.iload_n 2, 1) := by decide +kernel
theorem dX10_piece_53 : decode cX10_piece 53 = .ok (.ifCond .ne 16, 3) := by decide +kernel
theorem dX10_piece_56 : decode cX10_piece 56 = .ok (.aload_n 0, 1) := by decide +kernel
theorem dX10_piece_57 : decode cX10_piece 57 = .ok (.aload_n 0, 1) := by decide +kernel
theorem dX10_piece_58 : decode cX10_piece 58 = .ok (.getfield 50, 3) := by decide +kernel
theorem dX10_piece_61 : decode cX10_piece 61 = .ok (.iload_n 1, 1) := by decide +kernel
theorem dX10_piece_62 : decode cX10_piece 62 = .ok (.invokevirtual 235, 3) := by decide +kernel
theorem dX10_piece_65 : decode cX10_piece 65 = .ok (.invokevirtual 130, 3) := by decide +kernel
theorem dX10_piece_68 : decode cX10_piece 68 = .ok (.ireturn, 1) := by decide +kernel
theorem dX10_piece_69 : decode cX10_piece 69 = .ok (.aload_n 0, 1) := by decide +kernel
theorem dX10_piece_70 : decode cX10_piece 70 = .ok (.iload_n 2, 1) := by decide +kernel
theorem dX10_piece_71 : decode cX10_piece 71 = .ok (.iconst 1, 1) := by decide +kernel
theorem dX10_piece_72 : decode cX10_piece 72 = .ok (.if_icmp .ne 14, 3) := by decide +kernel
theorem dX10_piece_75 : decode cX10_piece 75 = .ok (.aload_n 0, 1) := by decide +kernel
theorem dX10_piece_76 : decode cX10_piece 76 = .ok (.getfield 50, 3) := by decide +kernel
theorem dX10_piece_79 : decode cX10_piece 79 = .ok (.iload_n 1, 1) := by decide +kernel
theorem dX10_piece_80 : decode cX10_piece 80 = .ok (.invokevirtual 238, 3) := by decide +kernel
theorem dX10_piece_83 : decode cX10_piece 83 = .ok (.goto 11, 3) := by decide +kernel
theorem dX10_piece_86 : decode cX10_piece 86 = .ok (.aload_n 0, 1) := by decide +kernel
theorem dX10_piece_87 : decode cX10_piece 87 = .ok (.getfield 50, 3) := by decide +kernel
theorem dX10_piece_90 : decode cX10_piece 90 = .ok (.iload_n 1, 1) := by decide +kernel
theorem dX10_piece_91 : decode cX10_piece 91 = .ok (.invokevirtual 241, 3) := by decide +kernel
theorem dX10_piece_94 : decode cX10_piece 94 = .ok (.invokevirtual 130, 3) := by decide +kernel
theorem dX10_piece_97 : decode cX10_piece 97 = .ok (.ireturn, 1) := by decide +kernel
theorem dX10_knot_0 : decode cX10_knot 0 = .ok (.aload_n 0, 1) := by decide +kernel
theorem dX10_knot_1 : decode cX10_knot 1 = .ok (.iload_n 1, 1) := by decide +kernel
theorem dX10_knot_2 : decode cX10_knot 2 = .ok (.iload_n 2, 1) := by decide +kernel
theorem dX10_knot_3 : decode cX10_knot 3 = .ok (.invokevirtual 244, 3) := by decide +kernel
theorem dX10_knot_6 : decode cX10_knot 6 = .ok (.istore_n 3, 1) := by decide +kernel
theorem dX10_knot_7 : decode cX10_knot 7 = .ok (.iload_n 3, 1) := by decide +kernel
theorem dX10_knot_8 : decode cX10_knot 8 = .ok (.ifCond .eq 9, 3) := by decide +kernel
theorem dX10_knot_11 : decode cX10_knot 11 = .ok (.aload_n 0, 1) := by decide +kernel
theorem dX10_knot_12 : decode cX10_knot 12 = .ok (.iload_n 3, 1) := by decide +kernel
theorem dX10_knot_13 : decode cX10_knot 13 = .ok (.invokevirtual 102, 3) := by decide +kernel
theorem dX10_knot_16 : decode cX10_knot 16 = .ok (.ireturn, 1) := by decide +kernel
theorem dX10_knot_17 : decode cX10_knot 17 = .ok (.aload_n 0, 1) := by decide +kernel
theorem dX10_knot_18 : decode cX10_knot 18 = .ok (.aload_n 0, 1) := by decide +kernel
theorem dX10_knot_19 : decode cX10_knot 19 = .ok (.getfield 50, 3) := by decide +kernel
theorem dX10_knot_22 : decode cX10_knot 22 = .ok (.iload_n 1, 1) := by decide +kernel
theorem dX10_knot_23 : decode cX10_knot 23 = .ok (.iload_n 2, 1) := by decide +kernel
theorem dX10_knot_24 : decode cX10_knot 24 = .ok (.invokevirtual 247, 3) := by decide +kernel
theorem dX10_knot_27 : decode cX10_knot 27 = .ok (.invokevirtual 130, 3) := by decide +kernel
theorem dX10_knot_30 : decode cX10_knot 30 = .ok (.ireturn, 1) := by decide +kernel
theorem dX10_ties_0 : decode cX10_ties 0 = .ok (.aload_n 0, 1) := by decide +kernel
theorem dX10_ties_1 : decode cX10_ties 1 = .ok (.iload_n 1, 1) := by decide +kernel
theorem dX10_ties_2 : decode cX10_ties 2 = .ok (.iload_n 2, 1) := by decide +kernel
theorem dX10_ties_3 : decode cX10_ties 3 = .ok (.invokevirtual 244, 3) := by decide +kernel
theorem dX10_ties_6 : decode cX10_ties 6 = .ok (.istore_n 3, 1) := by decide +kernel
theorem dX10_ties_7 : decode cX10_ties 7 = .ok (.iload_n 3, 1) := by decide +kernel
theorem dX10_ties_8 : decode cX10_ties 8 = .ok (.ifCond .eq 9, 3) := by decide +kernel
theorem dX10_ties_11 : decode cX10_ties 11 = .ok (.aload_n 0, 1) := by decide +kernel
theorem dX10_ties_12 : decode cX10_ties 12 = .ok (.iload_n 3, 1) := by decide +kernel
theorem dX10_ties_13 : decode cX10_ties 13 = .ok (.invokevirtual 102, 3) := by decide +kernel
theorem dX10_ties_16 : decode cX10_ties 16 = .ok (.ireturn, 1) := by decide +kernel
theorem dX10_ties_17 : decode cX10_ties 17 = .ok (.aload_n 0, 1) := by decide +kernel
theorem dX10_ties_18 : decode cX10_ties 18 = .ok (.aload_n 0, 1) := by decide +kernel
theorem dX10_ties_19 : decode cX10_ties 19 = .ok (.getfield 50, 3) := by decide +kernel
theorem dX10_ties_22 : decode cX10_ties 22 = .ok (.iload_n 1, 1) := by decide +kernel
theorem dX10_ties_23 : decode cX10_ties 23 = .ok (.iload_n 2, 1) := by decide +kernel
theorem dX10_ties_24 : decode cX10_ties 24 = .ok (.invokevirtual 250, 3) := by decide +kernel
theorem dX10_ties_27 : decode cX10_ties 27 = .ok (.invokevirtual 130, 3) := by decide +kernel
theorem dX10_ties_30 : decode cX10_ties 30 = .ok (.ireturn, 1) := by decide +kernel
theorem dX10_plain_0 : decode cX10_plain 0 = .ok (.aload_n 0, 1) := by decide +kernel
theorem dX10_plain_1 : decode cX10_plain 1 = .ok (.getfield 50, 3) := by decide +kernel
theorem dX10_plain_4 : decode cX10_plain 4 = .ok (.aload_n 0, 1) := by decide +kernel
theorem dX10_plain_5 : decode cX10_plain 5 = .ok (.getfield 129, 3) := by decide +kernel
theorem dX10_plain_8 : decode cX10_plain 8 = .ok (.aload_n 0, 1) := by decide +kernel
theorem dX10_plain_9 : decode cX10_plain 9 = .ok (.getfield 136, 3) := by decide +kernel
theorem dX10_plain_12 : decode cX10_plain 12 = .ok (.invokevirtual 155, 3) := by decide +kernel
theorem dX10_plain_15 : decode cX10_plain 15 = .ok (.aload_n 0, 1) := by decide +kernel
theorem dX10_plain_16 : decode cX10_plain 16 = .ok (.aload_n 0, 1) := by decide +kernel
theorem dX10_plain_17 : decode cX10_plain 17 = .ok (.getfield 50, 3) := by decide +kernel
theorem dX10_plain_20 : decode cX10_plain 20 = .ok (.invokevirtual 253, 3) := by decide +kernel
theorem dX10_plain_23 : decode cX10_plain 23 = .ok (.ifCond .eq 7, 3) := by decide +kernel
theorem dX10_plain_26 : decode cX10_plain 26 = .ok (.iconst 1, 1) := by decide +kernel
theorem dX10_plain_27 : decode cX10_plain 27 = .ok (.goto 4, 3) := by decide +kernel
theorem dX10_plain_30 : decode cX10_plain 30 = .ok (.iconst 0, 1) := by decide +kernel
theorem dX10_plain_31 : decode cX10_plain 31 = .ok (.invokevirtual 130, 3) := by decide +kernel
theorem dX10_plain_34 : decode cX10_plain 34 = .ok (.ireturn, 1) := by decide +kernel
theorem dX10_twins_0 : decode cX10_twins 0 = .ok (.iload_n 1, 1) := by decide +kernel
theorem dX10_twins_1 : decode cX10_twins 1 = .ok (.ifCond .lt 8, 3) := by decide +kernel
theorem dX10_twins_4 : decode cX10_twins 4 = .ok (.iload_n 1, 1) := by decide +kernel
theorem dX10_twins_5 : decode cX10_twins 5 = .ok (.iconst 3, 1) := by decide +kernel
theorem dX10_twins_6 : decode cX10_twins 6 = .ok (.if_icmp .le 9, 3) := by decide +kernel
theorem dX10_twins_9 : decode cX10_twins 9 = .ok (.aload_n 0, 1) := by decide +kernel
theorem dX10_twins_10 : decode cX10_twins 10 = .ok (.iconst 1, 1) := by decide +kernel
theorem dX10_twins_11 : decode cX10_twins 11 = .ok (.invokevirtual 102, 3) := by decide +kernel
theorem dX10_twins_14 : decode cX10_twins 14 = .ok (.ireturn, 1) := by decide +kernel
theorem dX10_twins_15 : decode cX10_twins 15 = .ok (.iload_n 1, 1) := by decide +kernel
theorem dX10_twins_16 : decode cX10_twins 16 = .ok (.iconst 2, 1) := by decide +kernel
theorem dX10_twins_17 : decode cX10_twins 17 = .ok (.if_icmp .ge 29, 3) := by decide +kernel
theorem dX10_twins_20 : decode cX10_twins 20 = .ok (.aload_n 0, 1) := by decide +kernel
theorem dX10_twins_21 : decode cX10_twins 21 = .ok (.aload_n 0, 1) := by decide +kernel
theorem dX10_twins_22 : decode cX10_twins 22 = .ok (.getfield 129, 3) := by decide +kernel
theorem dX10_twins_25 : decode cX10_twins 25 = .ok (.aload_n 0, 1) := by decide +kernel
theorem dX10_twins_26 : decode cX10_twins 26 = .ok (.getfield 136, 3) := by decide +kernel
theorem dX10_twins_29 : decode cX10_twins 29 = .ok (.iload_n 1, 1) := by decide +kernel
theorem dX10_twins_30 : decode cX10_twins 30 = .ok (.iconst 1, 1) := by decide +kernel
theorem dX10_twins_31 : decode cX10_twins 31 = .ok (.if_icmp .ne 7, 3) := by decide +kernel
theorem dX10_twins_34 : decode cX10_twins 34 = .ok (.iconst 1, 1) := by decide +kernel
theorem dX10_twins_35 : decode cX10_twins 35 = .ok (.goto 4, 3) := by decide +kernel
theorem dX10_twins_38 : decode cX10_twins 38 = .ok (.iconst 0, 1) := by decide +kernel
theorem dX10_twins_39 : decode cX10_twins 39 = .ok (.invokestatic 257, 3) := by decide +kernel
theorem dX10_twins_42 : decode cX10_twins 42 = .ok (.invokevirtual 130, 3) := by decide +kernel
theorem dX10_twins_45 : decode cX10_twins 45 = .ok (.ireturn, 1) := by decide +kernel
theorem dX10_twins_46 : decode cX10_twins 46 = .ok (.iload_n 1, 1) := by decide +kernel
theorem dX10_twins_47 : decode cX10_twins 47 = .ok (.iconst 2, 1) := by decide +kernel
theorem dX10_twins_48 : decode cX10_twins 48 = .ok (.if_icmp .ne 19, 3) := by decide +kernel
theorem dX10_twins_51 : decode cX10_twins 51 = .ok (.aload_n 0, 1) := by decide +kernel
theorem dX10_twins_52 : decode cX10_twins 52 = .ok (.aload_n 0, 1) := by decide +kernel
theorem dX10_twins_53 : decode cX10_twins 53 = .ok (.getfield 129, 3) := by decide +kernel
theorem dX10_twins_56 : decode cX10_twins 56 = .ok (.aload_n 0, 1) := by decide +kernel
theorem dX10_twins_57 : decode cX10_twins 57 = .ok (.getfield 136, 3) := by decide +kernel
theorem dX10_twins_60 : decode cX10_twins 60 = .ok (.invokestatic 261, 3) := by decide +kernel
theorem dX10_twins_63 : decode cX10_twins 63 = .ok (.invokevirtual 130, 3) := by decide +kernel
theorem dX10_twins_66 : decode cX10_twins 66 = .ok (.ireturn, 1) := by decide +kernel
theorem dX10_twins_67 : decode cX10_twins 67 = .ok (.aload_n 0, 1) := by decide +kernel
theorem dX10_twins_68 : decode cX10_twins 68 = .ok (.getfield 43, 3) := by decide +kernel
theorem dX10_twins_71 : decode cX10_twins 71 = .ok (.aload_n 0, 1) := by decide +kernel
theorem dX10_twins_72 : decode cX10_twins 72 = .ok (.getfield 129, 3) := by decide +kernel
theorem dX10_twins_75 : decode cX10_twins 75 = .ok (.aload_n 0, 1) := by decide +kernel
theorem dX10_twins_76 : decode cX10_twins 76 = .ok (.getfield 136, 3) := by decide +kernel
theorem dX10_twins_79 : decode cX10_twins 79 = .ok (.invokevirtual 151, 3) := by decide +kernel
theorem dX10_twins_82 : decode cX10_twins 82 = .ok (.aload_n 0, 1) := by decide +kernel
theorem dX10_twins_83 : decode cX10_twins 83 = .ok (.aload_n 0, 1) := by decide +kernel
theorem dX10_twins_84 : decode cX10_twins 84 = .ok (.getfield 43, 3) := by decide +kernel
theorem dX10_twins_87 : decode cX10_twins 87 = .ok (.aload_n 0, 1) := by decide +kernel
theorem dX10_twins_88 : decode cX10_twins 88 = .ok (.getfield 129, 3) := by decide +kernel
theorem dX10_twins_91 : decode cX10_twins 91 = .ok (.invokevirtual 264, 3) := by decide +kernel
theorem dX10_twins_94 : decode cX10_twins 94 = .ok (.invokevirtual 130, 3) := by decide +kernel
theorem dX10_twins_97 : decode cX10_twins 97 = .ok (.ireturn, 1) := by decide +kernel
theorem dX10_most_0 : decode cX10_most 0 = .ok (.iload_n 1, 1) := by decide +kernel
theorem dX10_most_1 : decode cX10_most 1 = .ok (.ifCond .lt 8, 3) := by decide +kernel
theorem dX10_most_4 : decode cX10_most 4 = .ok (.iload_n 1, 1) := by decide +kernel
theorem dX10_most_5 : decode cX10_most 5 = .ok (.iconst 1, 1) := by decide +kernel
theorem dX10_most_6 : decode cX10_most 6 = .ok (.if_icmp .le 9, 3) := by decide +kernel
theorem dX10_most_9 : decode cX10_most 9 = .ok (.aload_n 0, 1) := by decide +kernel
theorem dX10_most_10 : decode cX10_most 10 = .ok (.iconst 1, 1) := by decide +kernel
theorem dX10_most_11 : decode cX10_most 11 = .ok (.invokevirtual 102, 3) := by decide +kernel
theorem dX10_most_14 : decode cX10_most 14 = .ok (.ireturn, 1) := by decide +kernel
theorem dX10_most_15 : decode cX10_most 15 = .ok (.aload_n 0, 1) := by decide +kernel
theorem dX10_most_16 : decode cX10_most 16 = .ok (.aload_n 0, 1) := by decide +kernel
theorem dX10_most_17 : decode cX10_most 17 = .ok (.getfield 129, 3) := by decide +kernel
theorem dX10_most_20 : decode cX10_most 20 = .ok (.aload_n 0, 1) := by decide +kernel
theorem dX10_most_21 : decode cX10_most 21 = .ok (.getfield 136, 3) := by decide +kernel
theorem dX10_most_24 : decode cX10_most 24 = .ok (.iload_n 1, 1) := by decide +kernel
theorem dX10_most_25 : decode cX10_most 25 = .ok (.ifCond .ne 7, 3) := by decide +kernel
theorem dX10_most_28 : decode cX10_most 28 = .ok (.iconst 1, 1) := by decide +kernel
theorem dX10_most_29 : decode cX10_most 29 = .ok (.goto 4, 3) := by decide +kernel
theorem dX10_most_32 : decode cX10_most 32 = .ok (.iconst 0, 1) := by decide +kernel
theorem dX10_most_33 : decode cX10_most 33 = .ok (.invokestatic 267, 3) := by decide +kernel
theorem dX10_most_36 : decode cX10_most 36 = .ok (.invokevirtual 130, 3) := by decide +kernel
theorem dX10_most_39 : decode cX10_most 39 = .ok (.ireturn, 1) := by decide +kernel
theorem dX10_colours_0 : decode cX10_colours 0 = .ok (.iconst 0, 1) := by decide +kernel
theorem dX10_colours_1 : decode cX10_colours 1 = .ok (.istore_n 1, 1) := by decide +kernel
theorem dX10_colours_2 : decode cX10_colours 2 = .ok (.iload_n 1, 1) := by decide +kernel
theorem dX10_colours_3 : decode cX10_colours 3 = .ok (.aload_n 0, 1) := by decide +kernel
theorem dX10_colours_4 : decode cX10_colours 4 = .ok (.getfield 129, 3) := by decide +kernel
theorem dX10_colours_7 : decode cX10_colours 7 = .ok (.if_icmp .ge 32, 3) := by decide +kernel
theorem dX10_colours_10 : decode cX10_colours 10 = .ok (.aload_n 0, 1) := by decide +kernel
theorem dX10_colours_11 : decode cX10_colours 11 = .ok (.getfield 129, 3) := by decide +kernel
theorem dX10_colours_14 : decode cX10_colours 14 = .ok (.aload_n 0, 1) := by decide +kernel
theorem dX10_colours_15 : decode cX10_colours 15 = .ok (.getfield 136, 3) := by decide +kernel
theorem dX10_colours_18 : decode cX10_colours 18 = .ok (.aload_n 0, 1) := by decide +kernel
theorem dX10_colours_19 : decode cX10_colours 19 = .ok (.getfield 81, 3) := by decide +kernel
theorem dX10_colours_22 : decode cX10_colours 22 = .ok (.iconst 0, 1) := by decide +kernel
theorem dX10_colours_23 : decode cX10_colours 23 = .ok (.iconst 0, 1) := by decide +kernel
theorem dX10_colours_24 : decode cX10_colours 24 = .ok (.iload_n 1, 1) := by decide +kernel
theorem dX10_colours_25 : decode cX10_colours 25 = .ok (.invokestatic 270, 3) := by decide +kernel
theorem dX10_colours_28 : decode cX10_colours 28 = .ok (.lconst 0, 1) := by decide +kernel
theorem dX10_colours_29 : decode cX10_colours 29 = .ok (.lcmp, 1) := by decide +kernel
theorem dX10_colours_30 : decode cX10_colours 30 = .ok (.ifCond .ne 9, 3) := by decide +kernel
theorem dX10_colours_33 : decode cX10_colours 33 = .ok (.iinc 1 1, 3) := by decide +kernel
theorem dX10_colours_36 : decode cX10_colours 36 = .ok (.goto (-34), 3) := by decide +kernel
theorem dX10_colours_39 : decode cX10_colours 39 = .ok (.aload_n 0, 1) := by decide +kernel
theorem dX10_colours_40 : decode cX10_colours 40 = .ok (.iload_n 1, 1) := by decide +kernel
theorem dX10_colours_41 : decode cX10_colours 41 = .ok (.invokevirtual 130, 3) := by decide +kernel
theorem dX10_colours_44 : decode cX10_colours 44 = .ok (.ireturn, 1) := by decide +kernel
theorem dX10_paintings_0 : decode cX10_paintings 0 = .ok (.iload_n 1, 1) := by decide +kernel
theorem dX10_paintings_1 : decode cX10_paintings 1 = .ok (.ifCond .lt 9, 3) := by decide +kernel
theorem dX10_paintings_4 : decode cX10_paintings 4 = .ok (.iload_n 1, 1) := by decide +kernel
theorem dX10_paintings_5 : decode cX10_paintings 5 = .ok (.bipush 9, 2) := by decide +kernel
theorem dX10_paintings_7 : decode cX10_paintings 7 = .ok (.if_icmp .le 10, 3) := by decide +kernel
theorem dX10_paintings_10 : decode cX10_paintings 10 = .ok (.aload_n 0, 1) := by decide +kernel
theorem dX10_paintings_11 : decode cX10_paintings 11 = .ok (.iconst 1, 1) := by decide +kernel
theorem dX10_paintings_12 : decode cX10_paintings 12 = .ok (.invokevirtual 102, 3) := by decide +kernel
theorem dX10_paintings_15 : decode cX10_paintings 15 = .ok (.i2l, 1) := by decide +kernel
theorem dX10_paintings_16 : decode cX10_paintings 16 = .ok (.lreturn, 1) := by decide +kernel
theorem dX10_paintings_17 : decode cX10_paintings 17 = .ok (.aload_n 0, 1) := by decide +kernel
theorem dX10_paintings_18 : decode cX10_paintings 18 = .ok (.iconst 0, 1) := by decide +kernel
theorem dX10_paintings_19 : decode cX10_paintings 19 = .ok (.putfield 87, 3) := by decide +kernel
theorem dX10_paintings_22 : decode cX10_paintings 22 = .ok (.aload_n 0, 1) := by decide +kernel
theorem dX10_paintings_23 : decode cX10_paintings 23 = .ok (.getfield 129, 3) := by decide +kernel
theorem dX10_paintings_26 : decode cX10_paintings 26 = .ok (.aload_n 0, 1) := by decide +kernel
theorem dX10_paintings_27 : decode cX10_paintings 27 = .ok (.getfield 136, 3) := by decide +kernel
theorem dX10_paintings_30 : decode cX10_paintings 30 = .ok (.aload_n 0, 1) := by decide +kernel
theorem dX10_paintings_31 : decode cX10_paintings 31 = .ok (.getfield 81, 3) := by decide +kernel
theorem dX10_paintings_34 : decode cX10_paintings 34 = .ok (.iconst 0, 1) := by decide +kernel
theorem dX10_paintings_35 : decode cX10_paintings 35 = .ok (.iconst 0, 1) := by decide +kernel
theorem dX10_paintings_36 : decode cX10_paintings 36 = .ok (.iload_n 1, 1) := by decide +kernel
theorem dX10_paintings_37 : decode cX10_paintings 37 = .ok (.invokestatic 270, 3) := by decide +kernel
theorem dX10_paintings_40 : decode cX10_paintings 40 = .ok (.lreturn, 1) := by decide +kernel
theorem dX10_letter_0 : decode cX10_letter 0 = .ok (.iload_n 1, 1) := by decide +kernel
theorem dX10_letter_1 : decode cX10_letter 1 = .ok (.ifCond .lt 7, 3) := by decide +kernel
theorem dX10_letter_4 : decode cX10_letter 4 = .ok (.iload_n 2, 1) := by decide +kernel
theorem dX10_letter_5 : decode cX10_letter 5 = .ok (.ifCond .ge 9, 3) := by decide +kernel
theorem dX10_letter_8 : decode cX10_letter 8 = .ok (.aload_n 0, 1) := by decide +kernel
theorem dX10_letter_9 : decode cX10_letter 9 = .ok (.iconst 1, 1) := by decide +kernel
theorem dX10_letter_10 : decode cX10_letter 10 = .ok (.invokevirtual 102, 3) := by decide +kernel
theorem dX10_letter_13 : decode cX10_letter 13 = .ok (.ireturn, 1) := by decide +kernel
theorem dX10_letter_14 : decode cX10_letter 14 = .ok (.aload_n 0, 1) := by decide +kernel
theorem dX10_letter_15 : decode cX10_letter 15 = .ok (.iload_n 1, 1) := by decide +kernel
theorem dX10_letter_16 : decode cX10_letter 16 = .ok (.invokevirtual 274, 3) := by decide +kernel
theorem dX10_letter_19 : decode cX10_letter 19 = .ok (.ifCond .eq 13, 3) := by decide +kernel
theorem dX10_letter_22 : decode cX10_letter 22 = .ok (.iload_n 2, 1) := by decide +kernel
theorem dX10_letter_23 : decode cX10_letter 23 = .ok (.iconst 2, 1) := by decide +kernel
theorem dX10_letter_24 : decode cX10_letter 24 = .ok (.aload_n 0, 1) := by decide +kernel
theorem dX10_letter_25 : decode cX10_letter 25 = .ok (.getfield 129, 3) := by decide +kernel
theorem dX10_letter_28 : decode cX10_letter 28 = .ok (.imul, 1) := by decide +kernel
theorem dX10_letter_29 : decode cX10_letter 29 = .ok (.if_icmp .lt 10, 3) := by decide +kernel
theorem dX10_letter_32 : decode cX10_letter 32 = .ok (.aload_n 0, 1) := by decide +kernel
theorem dX10_letter_33 : decode cX10_letter 33 = .ok (.bipush 6, 2) := by decide +kernel
theorem dX10_letter_35 : decode cX10_letter 35 = .ok (.invokevirtual 102, 3) := by decide +kernel
theorem dX10_letter_38 : decode cX10_letter 38 = .ok (.ireturn, 1) := by decide +kernel
theorem dX10_letter_39 : decode cX10_letter 39 = .ok (.aload_n 0, 1) := by decide +kernel
theorem dX10_letter_40 : decode cX10_letter 40 = .ok (.getfield 57, 3) := by decide +kernel
theorem dX10_letter_43 : decode cX10_letter 43 = .ok (.iload_n 1, 1) := by decide +kernel
theorem dX10_letter_44 : decode cX10_letter 44 = .ok (.aload_n 0, 1) := by decide +kernel
theorem dX10_letter_45 : decode cX10_letter 45 = .ok (.getfield 84, 3) := by decide +kernel
theorem dX10_letter_48 : decode cX10_letter 48 = .ok (.invokevirtual 277, 3) := by decide +kernel
theorem dX10_letter_51 : decode cX10_letter 51 = .ok (.aload_n 0, 1) := by decide +kernel
theorem dX10_letter_52 : decode cX10_letter 52 = .ok (.aload_n 0, 1) := by decide +kernel
theorem dX10_letter_53 : decode cX10_letter 53 = .ok (.getfield 84, 3) := by decide +kernel
theorem dX10_letter_56 : decode cX10_letter 56 = .ok (.iload_n 2, 1) := by decide +kernel
theorem dX10_letter_57 : decode cX10_letter 57 = .ok (.iaload, 1) := by decide +kernel
theorem dX10_letter_58 : decode cX10_letter 58 = .ok (.invokevirtual 130, 3) := by decide +kernel
theorem dX10_letter_61 : decode cX10_letter 61 = .ok (.ireturn, 1) := by decide +kernel
theorem dX10_span_0 : decode cX10_span 0 = .ok (.aload_n 0, 1) := by decide +kernel
theorem dX10_span_1 : decode cX10_span 1 = .ok (.iload_n 1, 1) := by decide +kernel
theorem dX10_span_2 : decode cX10_span 2 = .ok (.iload_n 2, 1) := by decide +kernel
theorem dX10_span_3 : decode cX10_span 3 = .ok (.invokevirtual 281, 3) := by decide +kernel
theorem dX10_span_6 : decode cX10_span 6 = .ok (.istore_n 3, 1) := by decide +kernel
theorem dX10_span_7 : decode cX10_span 7 = .ok (.iload_n 3, 1) := by decide +kernel
theorem dX10_span_8 : decode cX10_span 8 = .ok (.ifCond .eq 9, 3) := by decide +kernel
theorem dX10_span_11 : decode cX10_span 11 = .ok (.aload_n 0, 1) := by decide +kernel
theorem dX10_span_12 : decode cX10_span 12 = .ok (.iload_n 3, 1) := by decide +kernel
theorem dX10_span_13 : decode cX10_span 13 = .ok (.invokevirtual 102, 3) := by decide +kernel
theorem dX10_span_16 : decode cX10_span 16 = .ok (.ireturn, 1) := by decide +kernel
theorem dX10_span_17 : decode cX10_span 17 = .ok (.aload_n 0, 1) := by decide +kernel
theorem dX10_span_18 : decode cX10_span 18 = .ok (.getfield 57, 3) := by decide +kernel
theorem dX10_span_21 : decode cX10_span 21 = .ok (.iload_n 1, 1) := by decide +kernel
theorem dX10_span_22 : decode cX10_span 22 = .ok (.aload_n 0, 1) := by decide +kernel
theorem dX10_span_23 : decode cX10_span 23 = .ok (.getfield 84, 3) := by decide +kernel
theorem dX10_span_26 : decode cX10_span 26 = .ok (.invokevirtual 277, 3) := by decide +kernel
theorem dX10_span_29 : decode cX10_span 29 = .ok (.aload_n 0, 1) := by decide +kernel
theorem dX10_span_30 : decode cX10_span 30 = .ok (.aload_n 0, 1) := by decide +kernel
theorem dX10_span_31 : decode cX10_span 31 = .ok (.getfield 84, 3) := by decide +kernel
theorem dX10_span_34 : decode cX10_span 34 = .ok (.iconst 2, 1) := by decide +kernel
theorem dX10_span_35 : decode cX10_span 35 = .ok (.aload_n 0, 1) := by decide +kernel
theorem dX10_span_36 : decode cX10_span 36 = .ok (.getfield 129, 3) := by decide +kernel
theorem dX10_span_39 : decode cX10_span 39 = .ok (.imul, 1) := by decide +kernel
theorem dX10_span_40 : decode cX10_span 40 = .ok (.iload_n 2, 1) := by decide +kernel
theorem dX10_span_41 : decode cX10_span 41 = .ok (.invokestatic 284, 3) := by decide +kernel
theorem dX10_span_44 : decode cX10_span 44 = .ok (.invokevirtual 130, 3) := by decide +kernel
theorem dX10_span_47 : decode cX10_span 47 = .ok (.ireturn, 1) := by decide +kernel
theorem dX10_mean_0 : decode cX10_mean 0 = .ok (.iload_n 1, 1) := by decide +kernel
theorem dX10_mean_1 : decode cX10_mean 1 = .ok (.ifCond .lt 12, 3) := by decide +kernel
theorem dX10_mean_4 : decode cX10_mean 4 = .ok (.iload_n 2, 1) := by decide +kernel
theorem dX10_mean_5 : decode cX10_mean 5 = .ok (.ifCond .lt 8, 3) := by decide +kernel
theorem dX10_mean_8 : decode cX10_mean 8 = .ok (.iload_n 2, 1) := by decide +kernel
theorem dX10_mean_9 : decode cX10_mean 9 = .ok (.iconst 1, 1) := by decide +kernel
theorem dX10_mean_10 : decode cX10_mean 10 = .ok (.if_icmp .le 9, 3) := by decide +kernel
theorem dX10_mean_13 : decode cX10_mean 13 = .ok (.aload_n 0, 1) := by decide +kernel
theorem dX10_mean_14 : decode cX10_mean 14 = .ok (.iconst 1, 1) := by decide +kernel
theorem dX10_mean_15 : decode cX10_mean 15 = .ok (.invokevirtual 102, 3) := by decide +kernel
theorem dX10_mean_18 : decode cX10_mean 18 = .ok (.ireturn, 1) := by decide +kernel
theorem dX10_mean_19 : decode cX10_mean 19 = .ok (.aload_n 0, 1) := by decide +kernel
theorem dX10_mean_20 : decode cX10_mean 20 = .ok (.iload_n 1, 1) := by decide +kernel
theorem dX10_mean_21 : decode cX10_mean 21 = .ok (.invokevirtual 274, 3) := by decide +kernel
theorem dX10_mean_24 : decode cX10_mean 24 = .ok (.ifCond .ne 10, 3) := by decide +kernel
theorem dX10_mean_27 : decode cX10_mean 27 = .ok (.aload_n 0, 1) := by decide +kernel
theorem dX10_mean_28 : decode cX10_mean 28 = .ok (.bipush 6, 2) := by decide +kernel
theorem dX10_mean_30 : decode cX10_mean 30 = .ok (.invokevirtual 102, 3) := by decide +kernel
theorem dX10_mean_33 : decode cX10_mean 33 = .ok (.ireturn, 1) := by decide +kernel
theorem dX10_mean_34 : decode cX10_mean 34 = .ok (.aload_n 0, 1) := by decide +kernel
theorem dX10_mean_35 : decode cX10_mean 35 = .ok (.getfield 57, 3) := by decide +kernel
theorem dX10_mean_38 : decode cX10_mean 38 = .ok (.iload_n 1, 1) := by decide +kernel
theorem dX10_mean_39 : decode cX10_mean 39 = .ok (.aload_n 0, 1) := by decide +kernel
theorem dX10_mean_40 : decode cX10_mean 40 = .ok (.getfield 84, 3) := by decide +kernel
theorem dX10_mean_43 : decode cX10_mean 43 = .ok (.invokevirtual 277, 3) := by decide +kernel
theorem dX10_mean_46 : decode cX10_mean 46 = .ok (.iload_n 2, 1) := by decide +kernel
theorem dX10_mean_47 : decode cX10_mean 47 = .ok (.ifCond .ne 17, 3) := by decide +kernel
theorem dX10_mean_50 : decode cX10_mean 50 = .ok (.aload_n 0, 1) := by decide +kernel
theorem dX10_mean_51 : decode cX10_mean 51 = .ok (.getfield 84, 3) := by decide +kernel
theorem dX10_mean_54 : decode cX10_mean 54 = .ok (.aload_n 0, 1) := by decide +kernel
theorem dX10_mean_55 : decode cX10_mean 55 = .ok (.getfield 129, 3) := by decide +kernel
theorem dX10_mean_58 : decode cX10_mean 58 = .ok (.invokestatic 290, 3) := by decide +kernel
theorem dX10_mean_61 : decode cX10_mean 61 = .ok (.goto 14, 3) := by decide +kernel
theorem dX10_mean_64 : decode cX10_mean 64 = .ok (.aload_n 0, 1) := by decide +kernel
theorem dX10_mean_65 : decode cX10_mean 65 = .ok (.getfield 84, 3) := by decide +kernel
theorem dX10_mean_68 : decode cX10_mean 68 = .ok (.aload_n 0, 1) := by decide +kernel
theorem dX10_mean_69 : decode cX10_mean 69 = .ok (.getfield 129, 3) := by decide +kernel
theorem dX10_mean_72 : decode cX10_mean 72 = .ok (.invokestatic 294, 3) := by decide +kernel
theorem dX10_mean_75 : decode cX10_mean 75 = .ok (.fstore_n 3, 1) := by decide +kernel
theorem dX10_mean_76 : decode cX10_mean 76 = .ok (.aload_n 0, 1) := by decide +kernel
theorem dX10_mean_77 : decode cX10_mean 77 = .ok (.fload_n 3, 1) := by decide +kernel
theorem dX10_mean_78 : decode cX10_mean 78 = .ok (.invokestatic 297, 3) := by decide +kernel
theorem dX10_mean_81 : decode cX10_mean 81 = .ok (.invokevirtual 130, 3) := by decide +kernel
theorem dX10_mean_84 : decode cX10_mean 84 = .ok (.ireturn, 1) := by decide +kernel
theorem dX10_find_0 : decode cX10_find 0 = .ok (.aload_n 0, 1) := by decide +kernel
theorem dX10_find_1 : decode cX10_find 1 = .ok (.getfield 10, 3) := by decide +kernel
theorem dX10_find_4 : decode cX10_find 4 = .ok (.iload_n 1, 1) := by decide +kernel
theorem dX10_find_5 : decode cX10_find 5 = .ok (.invokevirtual 98, 3) := by decide +kernel
theorem dX10_find_8 : decode cX10_find 8 = .ok (.ifCond .ne 9, 3) := by decide +kernel
theorem dX10_find_11 : decode cX10_find 11 = .ok (.aload_n 0, 1) := by decide +kernel
theorem dX10_find_12 : decode cX10_find 12 = .ok (.iconst 1, 1) := by decide +kernel
theorem dX10_find_13 : decode cX10_find 13 = .ok (.invokevirtual 102, 3) := by decide +kernel
theorem dX10_find_16 : decode cX10_find 16 = .ok (.ireturn, 1) := by decide +kernel
theorem dX10_find_17 : decode cX10_find 17 = .ok (.iload_n 1, 1) := by decide +kernel
theorem dX10_find_18 : decode cX10_find 18 = .ok (.iconst 2, 1) := by decide +kernel
theorem dX10_find_19 : decode cX10_find 19 = .ok (.aload_n 0, 1) := by decide +kernel
theorem dX10_find_20 : decode cX10_find 20 = .ok (.getfield 129, 3) := by decide +kernel
theorem dX10_find_23 : decode cX10_find 23 = .ok (.imul, 1) := by decide +kernel
theorem dX10_find_24 : decode cX10_find 24 = .ok (.if_icmp .ne 33, 3) := by decide +kernel
theorem dX10_find_27 : decode cX10_find 27 = .ok (.aload_n 0, 1) := by decide +kernel
theorem dX10_find_28 : decode cX10_find 28 = .ok (.getfield 10, 3) := by decide +kernel
theorem dX10_find_31 : decode cX10_find 31 = .ok (.iload_n 1, 1) := by decide +kernel
theorem dX10_find_32 : decode cX10_find 32 = .ok (.aload_n 0, 1) := by decide +kernel
theorem dX10_find_33 : decode cX10_find 33 = .ok (.getfield 84, 3) := by decide +kernel
theorem dX10_find_36 : decode cX10_find 36 = .ok (.invokevirtual 301, 3) := by decide +kernel
theorem dX10_find_39 : decode cX10_find 39 = .ok (.ifCond .eq 18, 3) := by decide +kernel
theorem dX10_find_42 : decode cX10_find 42 = .ok (.aload_n 0, 1) := by decide +kernel
theorem dX10_find_43 : decode cX10_find 43 = .ok (.getfield 84, 3) := by decide +kernel
theorem dX10_find_46 : decode cX10_find 46 = .ok (.iload_n 1, 1) := by decide +kernel
theorem dX10_find_47 : decode cX10_find 47 = .ok (.aload_n 0, 1) := by decide +kernel
theorem dX10_find_48 : decode cX10_find 48 = .ok (.getfield 129, 3) := by decide +kernel
theorem dX10_find_51 : decode cX10_find 51 = .ok (.invokestatic 305, 3) := by decide +kernel
theorem dX10_find_54 : decode cX10_find 54 = .ok (.ifCond .ne 10, 3) := by decide +kernel
theorem dX10_find_57 : decode cX10_find 57 = .ok (.aload_n 0, 1) := by decide +kernel
theorem dX10_find_58 : decode cX10_find 58 = .ok (.bipush 6, 2) := by decide +kernel
theorem dX10_find_60 : decode cX10_find 60 = .ok (.invokevirtual 102, 3) := by decide +kernel
theorem dX10_find_63 : decode cX10_find 63 = .ok (.ireturn, 1) := by decide +kernel
theorem dX10_find_64 : decode cX10_find 64 = .ok (.aload_n 0, 1) := by decide +kernel
theorem dX10_find_65 : decode cX10_find 65 = .ok (.getfield 57, 3) := by decide +kernel
theorem dX10_find_68 : decode cX10_find 68 = .ok (.aload_n 0, 1) := by decide +kernel
theorem dX10_find_69 : decode cX10_find 69 = .ok (.getfield 129, 3) := by decide +kernel
theorem dX10_find_72 : decode cX10_find 72 = .ok (.aload_n 0, 1) := by decide +kernel
theorem dX10_find_73 : decode cX10_find 73 = .ok (.getfield 136, 3) := by decide +kernel
theorem dX10_find_76 : decode cX10_find 76 = .ok (.ldc 157, 2) := by decide +kernel
theorem dX10_find_78 : decode cX10_find 78 = .ok (.invokevirtual 158, 3) := by decide +kernel
theorem dX10_find_81 : decode cX10_find 81 = .ok (.aload_n 0, 1) := by decide +kernel
theorem dX10_find_82 : decode cX10_find 82 = .ok (.getfield 57, 3) := by decide +kernel
theorem dX10_find_85 : decode cX10_find 85 = .ok (.aload_n 0, 1) := by decide +kernel
theorem dX10_find_86 : decode cX10_find 86 = .ok (.getfield 84, 3) := by decide +kernel
theorem dX10_find_89 : decode cX10_find 89 = .ok (.iload_n 1, 1) := by decide +kernel
theorem dX10_find_90 : decode cX10_find 90 = .ok (.invokestatic 309, 3) := by decide +kernel
theorem dX10_find_93 : decode cX10_find 93 = .ok (.invokevirtual 313, 3) := by decide +kernel
theorem dX10_find_96 : decode cX10_find 96 = .ok (.istore_n 2, 1) := by decide +kernel
theorem dX10_find_97 : decode cX10_find 97 = .ok (.iload_n 2, 1) := by decide +kernel
theorem dX10_find_98 : decode cX10_find 98 = .ok (.ifCond .ge 10, 3) := by decide +kernel
theorem dX10_find_101 : decode cX10_find 101 = .ok (.aload_n 0, 1) := by decide +kernel
theorem dX10_find_102 : decode cX10_find 102 = .ok (.bipush 6, 2) := by decide +kernel
theorem dX10_find_104 : decode cX10_find 104 = .ok (.invokevirtual 102, 3) := by decide +kernel
theorem dX10_find_107 : decode cX10_find 107 = .ok (.ireturn, 1) := by decide +kernel
theorem dX10_find_108 : decode cX10_find 108 = .ok (.aload_n 0, 1) := by decide +kernel
theorem dX10_find_109 : decode cX10_find 109 = .ok (.getfield 10, 3) := by decide +kernel
theorem dX10_find_112 : decode cX10_find 112 = .ok (.iconst 0, 1) := by decide +kernel
theorem dX10_find_113 : decode cX10_find 113 = .ok (.putfield 91, 3) := by decide +kernel
theorem dX10_find_116 : decode cX10_find 116 = .ok (.aload_n 0, 1) := by decide +kernel
theorem dX10_find_117 : decode cX10_find 117 = .ok (.iload_n 2, 1) := by decide +kernel
theorem dX10_find_118 : decode cX10_find 118 = .ok (.invokevirtual 130, 3) := by decide +kernel
theorem dX10_find_121 : decode cX10_find 121 = .ok (.ireturn, 1) := by decide +kernel
theorem dX10_cross_0 : decode cX10_cross 0 = .ok (.aload_n 0, 1) := by decide +kernel
theorem dX10_cross_1 : decode cX10_cross 1 = .ok (.getfield 10, 3) := by decide +kernel
theorem dX10_cross_4 : decode cX10_cross 4 = .ok (.iload_n 1, 1) := by decide +kernel
theorem dX10_cross_5 : decode cX10_cross 5 = .ok (.invokevirtual 98, 3) := by decide +kernel
theorem dX10_cross_8 : decode cX10_cross 8 = .ok (.ifCond .eq 23, 3) := by decide +kernel
theorem dX10_cross_11 : decode cX10_cross 11 = .ok (.iload_n 2, 1) := by decide +kernel
theorem dX10_cross_12 : decode cX10_cross 12 = .ok (.ifCond .lt 19, 3) := by decide +kernel
theorem dX10_cross_15 : decode cX10_cross 15 = .ok (.iload_n 2, 1) := by decide +kernel
theorem dX10_cross_16 : decode cX10_cross 16 = .ok (.bipush 26, 2) := by decide +kernel
theorem dX10_cross_18 : decode cX10_cross 18 = .ok (.if_icmp .ge 13, 3) := by decide +kernel
theorem dX10_cross_21 : decode cX10_cross 21 = .ok (.iload_n 3, 1) := by decide +kernel
theorem dX10_cross_22 : decode cX10_cross 22 = .ok (.ifCond .lt 9, 3) := by decide +kernel
theorem dX10_cross_25 : decode cX10_cross 25 = .ok (.iload_n 3, 1) := by decide +kernel
theorem dX10_cross_26 : decode cX10_cross 26 = .ok (.bipush 26, 2) := by decide +kernel
theorem dX10_cross_28 : decode cX10_cross 28 = .ok (.if_icmp .lt 9, 3) := by decide +kernel
theorem dX10_cross_31 : decode cX10_cross 31 = .ok (.aload_n 0, 1) := by decide +kernel
theorem dX10_cross_32 : decode cX10_cross 32 = .ok (.iconst 1, 1) := by decide +kernel
theorem dX10_cross_33 : decode cX10_cross 33 = .ok (.invokevirtual 102, 3) := by decide +kernel
theorem dX10_cross_36 : decode cX10_cross 36 = .ok (.ireturn, 1) := by decide +kernel
theorem dX10_cross_37 : decode cX10_cross 37 = .ok (.iload_n 2, 1) := by decide +kernel
theorem dX10_cross_38 : decode cX10_cross 38 = .ok (.bipush 97, 2) := by decide +kernel
theorem dX10_cross_40 : decode cX10_cross 40 = .ok (.iadd, 1) := by decide +kernel
theorem dX10_cross_41 : decode cX10_cross 41 = .ok (.istore 4, 2) := by decide +kernel
theorem dX10_cross_43 : decode cX10_cross 43 = .ok (.iload_n 3, 1) := by decide +kernel
theorem dX10_cross_44 : decode cX10_cross 44 = .ok (.bipush 97, 2) := by decide +kernel
theorem dX10_cross_46 : decode cX10_cross 46 = .ok (.iadd, 1) := by decide +kernel
theorem dX10_cross_47 : decode cX10_cross 47 = .ok (.istore 5, 2) := by decide +kernel
theorem dX10_cross_49 : decode cX10_cross 49 = .ok (.aload_n 0, 1) := by decide +kernel
theorem dX10_cross_50 : decode cX10_cross 50 = .ok (.getfield 10, 3) := by decide +kernel
theorem dX10_cross_53 : decode cX10_cross 53 = .ok (.getfield 106, 3) := by decide +kernel
theorem dX10_cross_56 : decode cX10_cross 56 = .ok (.iload_n 1, 1) := by decide +kernel
theorem dX10_cross_57 : decode cX10_cross 57 = .ok (.iload 4, 2) := by decide +kernel
theorem dX10_cross_59 : decode cX10_cross 59 = .ok (.invokestatic 317, 3) := by decide +kernel
theorem dX10_cross_62 : decode cX10_cross 62 = .ok (.iconst 2, 1) := by decide +kernel
theorem dX10_cross_63 : decode cX10_cross 63 = .ok (.if_icmp .ne 20, 3) := by decide +kernel
theorem dX10_cross_66 : decode cX10_cross 66 = .ok (.aload_n 0, 1) := by decide +kernel
theorem dX10_cross_67 : decode cX10_cross 67 = .ok (.getfield 10, 3) := by decide +kernel
theorem dX10_cross_70 : decode cX10_cross 70 = .ok (.getfield 106, 3) := by decide +kernel
theorem dX10_cross_73 : decode cX10_cross 73 = .ok (.iload_n 1, 1) := by decide +kernel
theorem dX10_cross_74 : decode cX10_cross 74 = .ok (.iload 5, 2) := by decide +kernel
theorem dX10_cross_76 : decode cX10_cross 76 = .ok (.invokestatic 317, 3) := by decide +kernel
theorem dX10_cross_79 : decode cX10_cross 79 = .ok (.iconst 2, 1) := by decide +kernel
theorem dX10_cross_80 : decode cX10_cross 80 = .ok (.if_icmp .eq 9, 3) := by decide +kernel
theorem dX10_cross_83 : decode cX10_cross 83 = .ok (.aload_n 0, 1) := by decide +kernel
theorem dX10_cross_84 : decode cX10_cross 84 = .ok (.iconst 2, 1) := by decide +kernel
theorem dX10_cross_85 : decode cX10_cross 85 = .ok (.invokevirtual 102, 3) := by decide +kernel
theorem dX10_cross_88 : decode cX10_cross 88 = .ok (.ireturn, 1) := by decide +kernel
theorem dX10_cross_89 : decode cX10_cross 89 = .ok (.iload_n 2, 1) := by decide +kernel
theorem dX10_cross_90 : decode cX10_cross 90 = .ok (.iload_n 3, 1) := by decide +kernel
theorem dX10_cross_91 : decode cX10_cross 91 = .ok (.if_icmp .ne 9, 3) := by decide +kernel
theorem dX10_cross_94 : decode cX10_cross 94 = .ok (.aload_n 0, 1) := by decide +kernel
theorem dX10_cross_95 : decode cX10_cross 95 = .ok (.iconst 4, 1) := by decide +kernel
theorem dX10_cross_96 : decode cX10_cross 96 = .ok (.invokevirtual 102, 3) := by decide +kernel
theorem dX10_cross_99 : decode cX10_cross 99 = .ok (.ireturn, 1) := by decide +kernel
theorem dX10_cross_100 : decode cX10_cross 100 = .ok (.aload_n 0, 1) := by decide +kernel
theorem dX10_cross_101 : decode cX10_cross 101 = .ok (.getfield 10, 3) := by decide +kernel
theorem dX10_cross_104 : decode cX10_cross 104 = .ok (.iconst 0, 1) := by decide +kernel
theorem dX10_cross_105 : decode cX10_cross 105 = .ok (.putfield 91, 3) := by decide +kernel
theorem dX10_cross_108 : decode cX10_cross 108 = .ok (.aload_n 0, 1) := by decide +kernel
theorem dX10_cross_109 : decode cX10_cross 109 = .ok (.aload_n 0, 1) := by decide +kernel
theorem dX10_cross_110 : decode cX10_cross 110 = .ok (.getfield 10, 3) := by decide +kernel
theorem dX10_cross_113 : decode cX10_cross 113 = .ok (.getfield 106, 3) := by decide +kernel
theorem dX10_cross_116 : decode cX10_cross 116 = .ok (.iload_n 1, 1) := by decide +kernel
theorem dX10_cross_117 : decode cX10_cross 117 = .ok (.iload 4, 2) := by decide +kernel
theorem dX10_cross_119 : decode cX10_cross 119 = .ok (.iload 5, 2) := by decide +kernel
theorem dX10_cross_121 : decode cX10_cross 121 = .ok (.invokestatic 319, 3) := by decide +kernel
theorem dX10_cross_124 : decode cX10_cross 124 = .ok (.ifCond .eq 7, 3) := by decide +kernel
theorem dX10_cross_127 : decode cX10_cross 127 = .ok (.iconst 1, 1) := by decide +kernel
theorem dX10_cross_128 : decode cX10_cross 128 = .ok (.goto 4, 3) := by decide +kernel
theorem dX10_cross_131 : decode cX10_cross 131 = .ok (.iconst 0, 1) := by decide +kernel
theorem dX10_cross_132 : decode cX10_cross 132 = .ok (.invokevirtual 130, 3) := by decide +kernel
theorem dX10_cross_135 : decode cX10_cross 135 = .ok (.ireturn, 1) := by decide +kernel
theorem dX10_fits_0 : decode cX10_fits 0 = .ok (.iload_n 1, 1) := by decide +kernel
theorem dX10_fits_1 : decode cX10_fits 1 = .ok (.ifCond .lt 11, 3) := by decide +kernel
theorem dX10_fits_4 : decode cX10_fits 4 = .ok (.aload_n 0, 1) := by decide +kernel
theorem dX10_fits_5 : decode cX10_fits 5 = .ok (.iload_n 2, 1) := by decide +kernel
theorem dX10_fits_6 : decode cX10_fits 6 = .ok (.invokevirtual 171, 3) := by decide +kernel
theorem dX10_fits_9 : decode cX10_fits 9 = .ok (.ifCond .ne 9, 3) := by decide +kernel
theorem dX10_fits_12 : decode cX10_fits 12 = .ok (.aload_n 0, 1) := by decide +kernel
theorem dX10_fits_13 : decode cX10_fits 13 = .ok (.iconst 1, 1) := by decide +kernel
theorem dX10_fits_14 : decode cX10_fits 14 = .ok (.invokevirtual 102, 3) := by decide +kernel
theorem dX10_fits_17 : decode cX10_fits 17 = .ok (.ireturn, 1) := by decide +kernel
theorem dX10_fits_18 : decode cX10_fits 18 = .ok (.aload_n 0, 1) := by decide +kernel
theorem dX10_fits_19 : decode cX10_fits 19 = .ok (.iload_n 1, 1) := by decide +kernel
theorem dX10_fits_20 : decode cX10_fits 20 = .ok (.invokevirtual 274, 3) := by decide +kernel
theorem dX10_fits_23 : decode cX10_fits 23 = .ok (.ifCond .ne 10, 3) := by decide +kernel
theorem dX10_fits_26 : decode cX10_fits 26 = .ok (.aload_n 0, 1) := by decide +kernel
theorem dX10_fits_27 : decode cX10_fits 27 = .ok (.bipush 6, 2) := by decide +kernel
theorem dX10_fits_29 : decode cX10_fits 29 = .ok (.invokevirtual 102, 3) := by decide +kernel
theorem dX10_fits_32 : decode cX10_fits 32 = .ok (.ireturn, 1) := by decide +kernel
theorem dX10_fits_33 : decode cX10_fits 33 = .ok (.aload_n 0, 1) := by decide +kernel
theorem dX10_fits_34 : decode cX10_fits 34 = .ok (.getfield 57, 3) := by decide +kernel
theorem dX10_fits_37 : decode cX10_fits 37 = .ok (.iload_n 1, 1) := by decide +kernel
theorem dX10_fits_38 : decode cX10_fits 38 = .ok (.aload_n 0, 1) := by decide +kernel
theorem dX10_fits_39 : decode cX10_fits 39 = .ok (.getfield 84, 3) := by decide +kernel
theorem dX10_fits_42 : decode cX10_fits 42 = .ok (.invokevirtual 277, 3) := by decide +kernel
theorem dX10_fits_45 : decode cX10_fits 45 = .ok (.aload_n 0, 1) := by decide +kernel
theorem dX10_fits_46 : decode cX10_fits 46 = .ok (.aload_n 0, 1) := by decide +kernel
theorem dX10_fits_47 : decode cX10_fits 47 = .ok (.getfield 84, 3) := by decide +kernel
theorem dX10_fits_50 : decode cX10_fits 50 = .ok (.iconst 2, 1) := by decide +kernel
theorem dX10_fits_51 : decode cX10_fits 51 = .ok (.aload_n 0, 1) := by decide +kernel
theorem dX10_fits_52 : decode cX10_fits 52 = .ok (.getfield 129, 3) := by decide +kernel
theorem dX10_fits_55 : decode cX10_fits 55 = .ok (.imul, 1) := by decide +kernel
theorem dX10_fits_56 : decode cX10_fits 56 = .ok (.iload_n 2, 1) := by decide +kernel
theorem dX10_fits_57 : decode cX10_fits 57 = .ok (.invokestatic 323, 3) := by decide +kernel
theorem dX10_fits_60 : decode cX10_fits 60 = .ok (.invokevirtual 130, 3) := by decide +kernel
theorem dX10_fits_63 : decode cX10_fits 63 = .ok (.ireturn, 1) := by decide +kernel
theorem dX10_gap_0 : decode cX10_gap 0 = .ok (.iload_n 1, 1) := by decide +kernel
theorem dX10_gap_1 : decode cX10_gap 1 = .ok (.ifCond .lt 26, 3) := by decide +kernel
theorem dX10_gap_4 : decode cX10_gap 4 = .ok (.aload_n 0, 1) := by decide +kernel
theorem dX10_gap_5 : decode cX10_gap 5 = .ok (.iload_n 2, 1) := by decide +kernel
theorem dX10_gap_6 : decode cX10_gap 6 = .ok (.invokevirtual 171, 3) := by decide +kernel
theorem dX10_gap_9 : decode cX10_gap 9 = .ok (.ifCond .eq 18, 3) := by decide +kernel
theorem dX10_gap_12 : decode cX10_gap 12 = .ok (.iload_n 3, 1) := by decide +kernel
theorem dX10_gap_13 : decode cX10_gap 13 = .ok (.ifCond .lt 14, 3) := by decide +kernel
theorem dX10_gap_16 : decode cX10_gap 16 = .ok (.iload 4, 2) := by decide +kernel
theorem dX10_gap_18 : decode cX10_gap 18 = .ok (.ifCond .lt 9, 3) := by decide +kernel
theorem dX10_gap_21 : decode cX10_gap 21 = .ok (.iload 4, 2) := by decide +kernel
theorem dX10_gap_23 : decode cX10_gap 23 = .ok (.iconst 1, 1) := by decide +kernel
theorem dX10_gap_24 : decode cX10_gap 24 = .ok (.if_icmp .le 9, 3) := by decide +kernel
theorem dX10_gap_27 : decode cX10_gap 27 = .ok (.aload_n 0, 1) := by decide +kernel
theorem dX10_gap_28 : decode cX10_gap 28 = .ok (.iconst 1, 1) := by decide +kernel
theorem dX10_gap_29 : decode cX10_gap 29 = .ok (.invokevirtual 102, 3) := by decide +kernel
theorem dX10_gap_32 : decode cX10_gap 32 = .ok (.ireturn, 1) := by decide +kernel
theorem dX10_gap_33 : decode cX10_gap 33 = .ok (.aload_n 0, 1) := by decide +kernel
theorem dX10_gap_34 : decode cX10_gap 34 = .ok (.iload_n 1, 1) := by decide +kernel
theorem dX10_gap_35 : decode cX10_gap 35 = .ok (.invokevirtual 274, 3) := by decide +kernel
theorem dX10_gap_38 : decode cX10_gap 38 = .ok (.ifCond .ne 10, 3) := by decide +kernel
theorem dX10_gap_41 : decode cX10_gap 41 = .ok (.aload_n 0, 1) := by decide +kernel
theorem dX10_gap_42 : decode cX10_gap 42 = .ok (.bipush 6, 2) := by decide +kernel
theorem dX10_gap_44 : decode cX10_gap 44 = .ok (.invokevirtual 102, 3) := by decide +kernel
theorem dX10_gap_47 : decode cX10_gap 47 = .ok (.ireturn, 1) := by decide +kernel
theorem dX10_gap_48 : decode cX10_gap 48 = .ok (.aload_n 0, 1) := by decide +kernel
theorem dX10_gap_49 : decode cX10_gap 49 = .ok (.getfield 57, 3) := by decide +kernel
theorem dX10_gap_52 : decode cX10_gap 52 = .ok (.iload_n 1, 1) := by decide +kernel
theorem dX10_gap_53 : decode cX10_gap 53 = .ok (.aload_n 0, 1) := by decide +kernel
theorem dX10_gap_54 : decode cX10_gap 54 = .ok (.getfield 84, 3) := by decide +kernel
theorem dX10_gap_57 : decode cX10_gap 57 = .ok (.invokevirtual 277, 3) := by decide +kernel
theorem dX10_gap_60 : decode cX10_gap 60 = .ok (.aload_n 0, 1) := by decide +kernel
theorem dX10_gap_61 : decode cX10_gap 61 = .ok (.getfield 84, 3) := by decide +kernel
theorem dX10_gap_64 : decode cX10_gap 64 = .ok (.iconst 2, 1) := by decide +kernel
theorem dX10_gap_65 : decode cX10_gap 65 = .ok (.aload_n 0, 1) := by decide +kernel
theorem dX10_gap_66 : decode cX10_gap 66 = .ok (.getfield 129, 3) := by decide +kernel
theorem dX10_gap_69 : decode cX10_gap 69 = .ok (.imul, 1) := by decide +kernel
theorem dX10_gap_70 : decode cX10_gap 70 = .ok (.iload_n 2, 1) := by decide +kernel
theorem dX10_gap_71 : decode cX10_gap 71 = .ok (.iload_n 3, 1) := by decide +kernel
theorem dX10_gap_72 : decode cX10_gap 72 = .ok (.invokestatic 326, 3) := by decide +kernel
theorem dX10_gap_75 : decode cX10_gap 75 = .ok (.istore 5, 2) := by decide +kernel
theorem dX10_gap_77 : decode cX10_gap 77 = .ok (.iload 5, 2) := by decide +kernel
theorem dX10_gap_79 : decode cX10_gap 79 = .ok (.ifCond .ge 10, 3) := by decide +kernel
theorem dX10_gap_82 : decode cX10_gap 82 = .ok (.aload_n 0, 1) := by decide +kernel
theorem dX10_gap_83 : decode cX10_gap 83 = .ok (.bipush 6, 2) := by decide +kernel
theorem dX10_gap_85 : decode cX10_gap 85 = .ok (.invokevirtual 102, 3) := by decide +kernel
theorem dX10_gap_88 : decode cX10_gap 88 = .ok (.ireturn, 1) := by decide +kernel
theorem dX10_gap_89 : decode cX10_gap 89 = .ok (.aload_n 0, 1) := by decide +kernel
theorem dX10_gap_90 : decode cX10_gap 90 = .ok (.iload 4, 2) := by decide +kernel
theorem dX10_gap_92 : decode cX10_gap 92 = .ok (.ifCond .ne 11, 3) := by decide +kernel
theorem dX10_gap_95 : decode cX10_gap 95 = .ok (.iload 5, 2) := by decide +kernel
theorem dX10_gap_97 : decode cX10_gap 97 = .ok (.bipush 15, 2) := by decide +kernel
theorem dX10_gap_99 : decode cX10_gap 99 = .ok (.idiv, 1) := by decide +kernel
theorem dX10_gap_100 : decode cX10_gap 100 = .ok (.goto 8, 3) := by decide +kernel
theorem dX10_gap_103 : decode cX10_gap 103 = .ok (.iload 5, 2) := by decide +kernel
theorem dX10_gap_105 : decode cX10_gap 105 = .ok (.bipush 15, 2) := by decide +kernel
theorem dX10_gap_107 : decode cX10_gap 107 = .ok (.irem, 1) := by decide +kernel
theorem dX10_gap_108 : decode cX10_gap 108 = .ok (.invokevirtual 130, 3) := by decide +kernel
theorem dX10_gap_111 : decode cX10_gap 111 = .ok (.ireturn, 1) := by decide +kernel
theorem dX10_could_0 : decode cX10_could 0 = .ok (.aload_n 0, 1) := by decide +kernel
theorem dX10_could_1 : decode cX10_could 1 = .ok (.iload_n 1, 1) := by decide +kernel
theorem dX10_could_2 : decode cX10_could 2 = .ok (.invokevirtual 171, 3) := by decide +kernel
theorem dX10_could_5 : decode cX10_could 5 = .ok (.ifCond .ne 9, 3) := by decide +kernel
theorem dX10_could_8 : decode cX10_could 8 = .ok (.aload_n 0, 1) := by decide +kernel
theorem dX10_could_9 : decode cX10_could 9 = .ok (.iconst 1, 1) := by decide +kernel
theorem dX10_could_10 : decode cX10_could 10 = .ok (.invokevirtual 102, 3) := by decide +kernel
theorem dX10_could_13 : decode cX10_could 13 = .ok (.ireturn, 1) := by decide +kernel
theorem dX10_could_14 : decode cX10_could 14 = .ok (.aload_n 0, 1) := by decide +kernel
theorem dX10_could_15 : decode cX10_could 15 = .ok (.getfield 57, 3) := by decide +kernel
theorem dX10_could_18 : decode cX10_could 18 = .ok (.aload_n 0, 1) := by decide +kernel
theorem dX10_could_19 : decode cX10_could 19 = .ok (.getfield 129, 3) := by decide +kernel
theorem dX10_could_22 : decode cX10_could 22 = .ok (.aload_n 0, 1) := by decide +kernel
theorem dX10_could_23 : decode cX10_could 23 = .ok (.getfield 136, 3) := by decide +kernel
theorem dX10_could_26 : decode cX10_could 26 = .ok (.ldc 157, 2) := by decide +kernel
theorem dX10_could_28 : decode cX10_could 28 = .ok (.invokevirtual 158, 3) := by decide +kernel
theorem dX10_could_31 : decode cX10_could 31 = .ok (.iconst 0, 1) := by decide +kernel
theorem dX10_could_32 : decode cX10_could 32 = .ok (.istore_n 2, 1) := by decide +kernel
theorem dX10_could_33 : decode cX10_could 33 = .ok (.iconst 0, 1) := by decide +kernel
theorem dX10_could_34 : decode cX10_could 34 = .ok (.istore_n 3, 1) := by decide +kernel
theorem dX10_could_35 : decode cX10_could 35 = .ok (.iload_n 3, 1) := by decide +kernel
theorem dX10_could_36 : decode cX10_could 36 = .ok (.aload_n 0, 1) := by decide +kernel
theorem dX10_could_37 : decode cX10_could 37 = .ok (.getfield 57, 3) := by decide +kernel
theorem dX10_could_40 : decode cX10_could 40 = .ok (.getfield 161, 3) := by decide +kernel
theorem dX10_could_43 : decode cX10_could 43 = .ok (.if_icmp .ge 24, 3) := by decide +kernel
theorem dX10_could_46 : decode cX10_could 46 = .ok (.aload_n 0, 1) := by decide +kernel
theorem dX10_could_47 : decode cX10_could 47 = .ok (.getfield 57, 3) := by decide +kernel
theorem dX10_could_50 : decode cX10_could 50 = .ok (.iload_n 3, 1) := by decide +kernel
theorem dX10_could_51 : decode cX10_could 51 = .ok (.iload_n 1, 1) := by decide +kernel
theorem dX10_could_52 : decode cX10_could 52 = .ok (.invokevirtual 330, 3) := by decide +kernel
theorem dX10_could_55 : decode cX10_could 55 = .ok (.ifCond .eq 6, 3) := by decide +kernel
theorem dX10_could_58 : decode cX10_could 58 = .ok (.iinc 2 1, 3) := by decide +kernel
theorem dX10_could_61 : decode cX10_could 61 = .ok (.iinc 3 1, 3) := by decide +kernel
theorem dX10_could_64 : decode cX10_could 64 = .ok (.goto (-29), 3) := by decide +kernel
theorem dX10_could_67 : decode cX10_could 67 = .ok (.aload_n 0, 1) := by decide +kernel
theorem dX10_could_68 : decode cX10_could 68 = .ok (.iload_n 2, 1) := by decide +kernel
theorem dX10_could_69 : decode cX10_could 69 = .ok (.invokevirtual 130, 3) := by decide +kernel
theorem dX10_could_72 : decode cX10_could 72 = .ok (.ireturn, 1) := by decide +kernel
theorem dX10_beside_0 : decode cX10_beside 0 = .ok (.aload_n 0, 1) := by decide +kernel
theorem dX10_beside_1 : decode cX10_beside 1 = .ok (.iload_n 1, 1) := by decide +kernel
theorem dX10_beside_2 : decode cX10_beside 2 = .ok (.iload_n 2, 1) := by decide +kernel
theorem dX10_beside_3 : decode cX10_beside 3 = .ok (.invokevirtual 183, 3) := by decide +kernel
theorem dX10_beside_6 : decode cX10_beside 6 = .ok (.istore_n 3, 1) := by decide +kernel
theorem dX10_beside_7 : decode cX10_beside 7 = .ok (.iload_n 3, 1) := by decide +kernel
theorem dX10_beside_8 : decode cX10_beside 8 = .ok (.ifCond .eq 9, 3) := by decide +kernel
theorem dX10_beside_11 : decode cX10_beside 11 = .ok (.aload_n 0, 1) := by decide +kernel
theorem dX10_beside_12 : decode cX10_beside 12 = .ok (.iload_n 3, 1) := by decide +kernel
theorem dX10_beside_13 : decode cX10_beside 13 = .ok (.invokevirtual 102, 3) := by decide +kernel
theorem dX10_beside_16 : decode cX10_beside 16 = .ok (.ireturn, 1) := by decide +kernel
theorem dX10_beside_17 : decode cX10_beside 17 = .ok (.aload_n 0, 1) := by decide +kernel
theorem dX10_beside_18 : decode cX10_beside 18 = .ok (.getfield 57, 3) := by decide +kernel
theorem dX10_beside_21 : decode cX10_beside 21 = .ok (.aload_n 0, 1) := by decide +kernel
theorem dX10_beside_22 : decode cX10_beside 22 = .ok (.getfield 129, 3) := by decide +kernel
theorem dX10_beside_25 : decode cX10_beside 25 = .ok (.aload_n 0, 1) := by decide +kernel
theorem dX10_beside_26 : decode cX10_beside 26 = .ok (.getfield 136, 3) := by decide +kernel
theorem dX10_beside_29 : decode cX10_beside 29 = .ok (.ldc 157, 2) := by decide +kernel
theorem dX10_beside_31 : decode cX10_beside 31 = .ok (.invokevirtual 158, 3) := by decide +kernel
theorem dX10_beside_34 : decode cX10_beside 34 = .ok (.iconst 0, 1) := by decide +kernel
theorem dX10_beside_35 : decode cX10_beside 35 = .ok (.istore 4, 2) := by decide +kernel
theorem dX10_beside_37 : decode cX10_beside 37 = .ok (.iconst 0, 1) := by decide +kernel
theorem dX10_beside_38 : decode cX10_beside 38 = .ok (.istore 5, 2) := by decide +kernel
theorem dX10_beside_40 : decode cX10_beside 40 = .ok (.iload 5, 2) := by decide +kernel
theorem dX10_beside_42 : decode cX10_beside 42 = .ok (.aload_n 0, 1) := by decide +kernel
theorem dX10_beside_43 : decode cX10_beside 43 = .ok (.getfield 57, 3) := by decide +kernel
theorem dX10_beside_46 : decode cX10_beside 46 = .ok (.getfield 161, 3) := by decide +kernel
theorem dX10_beside_49 : decode cX10_beside 49 = .ok (.if_icmp .ge 26, 3) := by decide +kernel
theorem dX10_beside_52 : decode cX10_beside 52 = .ok (.aload_n 0, 1) := by decide +kernel
theorem dX10_beside_53 : decode cX10_beside 53 = .ok (.getfield 57, 3) := by decide +kernel
theorem dX10_beside_56 : decode cX10_beside 56 = .ok (.iload 5, 2) := by decide +kernel
theorem dX10_beside_58 : decode cX10_beside 58 = .ok (.iload_n 1, 1) := by decide +kernel
theorem dX10_beside_59 : decode cX10_beside 59 = .ok (.iload_n 2, 1) := by decide +kernel
theorem dX10_beside_60 : decode cX10_beside 60 = .ok (.invokevirtual 333, 3) := by decide +kernel
theorem dX10_beside_63 : decode cX10_beside 63 = .ok (.ifCond .eq 6, 3) := by decide +kernel
theorem dX10_beside_66 : decode cX10_beside 66 = .ok (.iinc 4 1, 3) := by decide +kernel
theorem dX10_beside_69 : decode cX10_beside 69 = .ok (.iinc 5 1, 3) := by decide +kernel
theorem dX10_beside_72 : decode cX10_beside 72 = .ok (.goto (-32), 3) := by decide +kernel
theorem dX10_beside_75 : decode cX10_beside 75 = .ok (.aload_n 0, 1) := by decide +kernel
theorem dX10_beside_76 : decode cX10_beside 76 = .ok (.iload 4, 2) := by decide +kernel
theorem dX10_beside_78 : decode cX10_beside 78 = .ok (.invokevirtual 130, 3) := by decide +kernel
theorem dX10_beside_81 : decode cX10_beside 81 = .ok (.ireturn, 1) := by decide +kernel
theorem dX10_turned_0 : decode cX10_turned 0 = .ok (.aload_n 0, 1) := by decide +kernel
theorem dX10_turned_1 : decode cX10_turned 1 = .ok (.iload_n 1, 1) := by decide +kernel
theorem dX10_turned_2 : decode cX10_turned 2 = .ok (.iload_n 2, 1) := by decide +kernel
theorem dX10_turned_3 : decode cX10_turned 3 = .ok (.invokevirtual 281, 3) := by decide +kernel
theorem dX10_turned_6 : decode cX10_turned 6 = .ok (.istore_n 3, 1) := by decide +kernel
theorem dX10_turned_7 : decode cX10_turned 7 = .ok (.iload_n 3, 1) := by decide +kernel
theorem dX10_turned_8 : decode cX10_turned 8 = .ok (.ifCond .eq 9, 3) := by decide +kernel
theorem dX10_turned_11 : decode cX10_turned 11 = .ok (.aload_n 0, 1) := by decide +kernel
theorem dX10_turned_12 : decode cX10_turned 12 = .ok (.iload_n 3, 1) := by decide +kernel
theorem dX10_turned_13 : decode cX10_turned 13 = .ok (.invokevirtual 102, 3) := by decide +kernel
theorem dX10_turned_16 : decode cX10_turned 16 = .ok (.ireturn, 1) := by decide +kernel
theorem dX10_turned_17 : decode cX10_turned 17 = .ok (.aload_n 0, 1) := by decide +kernel
theorem dX10_turned_18 : decode cX10_turned 18 = .ok (.getfield 57, 3) := by decide +kernel
theorem dX10_turned_21 : decode cX10_turned 21 = .ok (.iload_n 1, 1) := by decide +kernel
theorem dX10_turned_22 : decode cX10_turned 22 = .ok (.aload_n 0, 1) := by decide +kernel
theorem dX10_turned_23 : decode cX10_turned 23 = .ok (.getfield 84, 3) := by decide +kernel
theorem dX10_turned_26 : decode cX10_turned 26 = .ok (.invokevirtual 277, 3) := by decide +kernel
theorem dX10_turned_29 : decode cX10_turned 29 = .ok (.aload_n 0, 1) := by decide +kernel
theorem dX10_turned_30 : decode cX10_turned 30 = .ok (.getfield 84, 3) := by decide +kernel
theorem dX10_turned_33 : decode cX10_turned 33 = .ok (.iconst 2, 1) := by decide +kernel
theorem dX10_turned_34 : decode cX10_turned 34 = .ok (.aload_n 0, 1) := by decide +kernel
theorem dX10_turned_35 : decode cX10_turned 35 = .ok (.getfield 129, 3) := by decide +kernel
theorem dX10_turned_38 : decode cX10_turned 38 = .ok (.imul, 1) := by decide +kernel
theorem dX10_turned_39 : decode cX10_turned 39 = .ok (.iload_n 2, 1) := by decide +kernel
theorem dX10_turned_40 : decode cX10_turned 40 = .ok (.invokestatic 336, 3) := by decide +kernel
theorem dX10_turned_43 : decode cX10_turned 43 = .ok (.aload_n 0, 1) := by decide +kernel
theorem dX10_turned_44 : decode cX10_turned 44 = .ok (.getfield 61, 3) := by decide +kernel
theorem dX10_turned_47 : decode cX10_turned 47 = .ok (.aload_n 0, 1) := by decide +kernel
theorem dX10_turned_48 : decode cX10_turned 48 = .ok (.getfield 129, 3) := by decide +kernel
theorem dX10_turned_51 : decode cX10_turned 51 = .ok (.aload_n 0, 1) := by decide +kernel
theorem dX10_turned_52 : decode cX10_turned 52 = .ok (.getfield 129, 3) := by decide +kernel
theorem dX10_turned_55 : decode cX10_turned 55 = .ok (.aload_n 0, 1) := by decide +kernel
theorem dX10_turned_56 : decode cX10_turned 56 = .ok (.getfield 136, 3) := by decide +kernel
theorem dX10_turned_59 : decode cX10_turned 59 = .ok (.iload_n 2, 1) := by decide +kernel
theorem dX10_turned_60 : decode cX10_turned 60 = .ok (.invokestatic 190, 3) := by decide +kernel
theorem dX10_turned_63 : decode cX10_turned 63 = .ok (.ldc 157, 2) := by decide +kernel
theorem dX10_turned_65 : decode cX10_turned 65 = .ok (.invokevirtual 158, 3) := by decide +kernel
theorem dX10_turned_68 : decode cX10_turned 68 = .ok (.aload_n 0, 1) := by decide +kernel
theorem dX10_turned_69 : decode cX10_turned 69 = .ok (.aload_n 0, 1) := by decide +kernel
theorem dX10_turned_70 : decode cX10_turned 70 = .ok (.getfield 61, 3) := by decide +kernel
theorem dX10_turned_73 : decode cX10_turned 73 = .ok (.aload_n 0, 1) := by decide +kernel
theorem dX10_turned_74 : decode cX10_turned 74 = .ok (.getfield 84, 3) := by decide +kernel
theorem dX10_turned_77 : decode cX10_turned 77 = .ok (.iconst 2, 1) := by decide +kernel
theorem dX10_turned_78 : decode cX10_turned 78 = .ok (.aload_n 0, 1) := by decide +kernel
theorem dX10_turned_79 : decode cX10_turned 79 = .ok (.getfield 129, 3) := by decide +kernel
theorem dX10_turned_82 : decode cX10_turned 82 = .ok (.imul, 1) := by decide +kernel
theorem dX10_turned_83 : decode cX10_turned 83 = .ok (.invokestatic 309, 3) := by decide +kernel
theorem dX10_turned_86 : decode cX10_turned 86 = .ok (.invokevirtual 313, 3) := by decide +kernel
theorem dX10_turned_89 : decode cX10_turned 89 = .ok (.invokevirtual 130, 3) := by decide +kernel
theorem dX10_turned_92 : decode cX10_turned 92 = .ok (.ireturn, 1) := by decide +kernel
theorem dX10_obstruction_0 : decode cX10_obstruction 0 = .ok (.aload_n 0, 1) := by decide +kernel
theorem dX10_obstruction_1 : decode cX10_obstruction 1 = .ok (.invokevirtual 340, 3) := by decide +kernel
theorem dX10_obstruction_4 : decode cX10_obstruction 4 = .ok (.istore_n 1, 1) := by decide +kernel
theorem dX10_obstruction_5 : decode cX10_obstruction 5 = .ok (.iload_n 1, 1) := by decide +kernel
theorem dX10_obstruction_6 : decode cX10_obstruction 6 = .ok (.ifCond .ge 12, 3) := by decide +kernel
theorem dX10_obstruction_9 : decode cX10_obstruction 9 = .ok (.aload_n 0, 1) := by decide +kernel
theorem dX10_obstruction_10 : decode cX10_obstruction 10 = .ok (.bipush 6, 2) := by decide +kernel
theorem dX10_obstruction_12 : decode cX10_obstruction 12 = .ok (.invokevirtual 102, 3) := by decide +kernel
theorem dX10_obstruction_15 : decode cX10_obstruction 15 = .ok (.goto 8, 3) := by decide +kernel
theorem dX10_obstruction_18 : decode cX10_obstruction 18 = .ok (.aload_n 0, 1) := by decide +kernel
theorem dX10_obstruction_19 : decode cX10_obstruction 19 = .ok (.iload_n 1, 1) := by decide +kernel
theorem dX10_obstruction_20 : decode cX10_obstruction 20 = .ok (.invokevirtual 130, 3) := by decide +kernel
theorem dX10_obstruction_23 : decode cX10_obstruction 23 = .ok (.ireturn, 1) := by decide +kernel
theorem dX10_obstructions_0 : decode cX10_obstructions 0 = .ok (.aload_n 0, 1) := by decide +kernel
theorem dX10_obstructions_1 : decode cX10_obstructions 1 = .ok (.invokevirtual 340, 3) := by decide +kernel
theorem dX10_obstructions_4 : decode cX10_obstructions 4 = .ok (.istore_n 1, 1) := by decide +kernel
theorem dX10_obstructions_5 : decode cX10_obstructions 5 = .ok (.iload_n 1, 1) := by decide +kernel
theorem dX10_obstructions_6 : decode cX10_obstructions 6 = .ok (.ifCond .ge 10, 3) := by decide +kernel
theorem dX10_obstructions_9 : decode cX10_obstructions 9 = .ok (.aload_n 0, 1) := by decide +kernel
theorem dX10_obstructions_10 : decode cX10_obstructions 10 = .ok (.bipush 6, 2) := by decide +kernel
theorem dX10_obstructions_12 : decode cX10_obstructions 12 = .ok (.invokevirtual 102, 3) := by decide +kernel
theorem dX10_obstructions_15 : decode cX10_obstructions 15 = .ok (.ireturn, 1) := by decide +kernel
theorem dX10_obstructions_16 : decode cX10_obstructions 16 = .ok (.iconst 0, 1) := by decide +kernel
theorem dX10_obstructions_17 : decode cX10_obstructions 17 = .ok (.istore_n 2, 1) := by decide +kernel
theorem dX10_obstructions_18 : decode cX10_obstructions 18 = .ok (.iload_n 1, 1) := by decide +kernel
theorem dX10_obstructions_19 : decode cX10_obstructions 19 = .ok (.istore_n 3, 1) := by decide +kernel
theorem dX10_obstructions_20 : decode cX10_obstructions 20 = .ok (.iload_n 3, 1) := by decide +kernel
theorem dX10_obstructions_21 : decode cX10_obstructions 21 = .ok (.iconst 1, 1) := by decide +kernel
theorem dX10_obstructions_22 : decode cX10_obstructions 22 = .ok (.aload_n 0, 1) := by decide +kernel
theorem dX10_obstructions_23 : decode cX10_obstructions 23 = .ok (.getfield 129, 3) := by decide +kernel
theorem dX10_obstructions_26 : decode cX10_obstructions 26 = .ok (.ishl, 1) := by decide +kernel
theorem dX10_obstructions_27 : decode cX10_obstructions 27 = .ok (.if_icmp .ge 31, 3) := by decide +kernel
theorem dX10_obstructions_30 : decode cX10_obstructions 30 = .ok (.iload_n 3, 1) := by decide +kernel
theorem dX10_obstructions_31 : decode cX10_obstructions 31 = .ok (.invokestatic 137, 3) := by decide +kernel
theorem dX10_obstructions_34 : decode cX10_obstructions 34 = .ok (.iload_n 1, 1) := by decide +kernel
theorem dX10_obstructions_35 : decode cX10_obstructions 35 = .ok (.invokestatic 137, 3) := by decide +kernel
theorem dX10_obstructions_38 : decode cX10_obstructions 38 = .ok (.if_icmp .ne 14, 3) := by decide +kernel
theorem dX10_obstructions_41 : decode cX10_obstructions 41 = .ok (.aload_n 0, 1) := by decide +kernel
theorem dX10_obstructions_42 : decode cX10_obstructions 42 = .ok (.iload_n 3, 1) := by decide +kernel
theorem dX10_obstructions_43 : decode cX10_obstructions 43 = .ok (.invokevirtual 343, 3) := by decide +kernel
theorem dX10_obstructions_46 : decode cX10_obstructions 46 = .ok (.ifCond .ne 6, 3) := by decide +kernel
theorem dX10_obstructions_49 : decode cX10_obstructions 49 = .ok (.iinc 2 1, 3) := by decide +kernel
theorem dX10_obstructions_52 : decode cX10_obstructions 52 = .ok (.iinc 3 1, 3) := by decide +kernel
theorem dX10_obstructions_55 : decode cX10_obstructions 55 = .ok (.goto (-35), 3) := by decide +kernel
theorem dX10_obstructions_58 : decode cX10_obstructions 58 = .ok (.aload_n 0, 1) := by decide +kernel
theorem dX10_obstructions_59 : decode cX10_obstructions 59 = .ok (.iload_n 2, 1) := by decide +kernel
theorem dX10_obstructions_60 : decode cX10_obstructions 60 = .ok (.invokevirtual 130, 3) := by decide +kernel
theorem dX10_obstructions_63 : decode cX10_obstructions 63 = .ok (.ireturn, 1) := by decide +kernel
theorem dX10_family_0 : decode cX10_family 0 = .ok (.iload_n 1, 1) := by decide +kernel
theorem dX10_family_1 : decode cX10_family 1 = .ok (.ifCond .lt 8, 3) := by decide +kernel
theorem dX10_family_4 : decode cX10_family 4 = .ok (.iload_n 1, 1) := by decide +kernel
theorem dX10_family_5 : decode cX10_family 5 = .ok (.iconst 3, 1) := by decide +kernel
theorem dX10_family_6 : decode cX10_family 6 = .ok (.if_icmp .le 9, 3) := by decide +kernel
theorem dX10_family_9 : decode cX10_family 9 = .ok (.aload_n 0, 1) := by decide +kernel
theorem dX10_family_10 : decode cX10_family 10 = .ok (.iconst 1, 1) := by decide +kernel
theorem dX10_family_11 : decode cX10_family 11 = .ok (.invokevirtual 102, 3) := by decide +kernel
theorem dX10_family_14 : decode cX10_family 14 = .ok (.ireturn, 1) := by decide +kernel
theorem dX10_family_15 : decode cX10_family 15 = .ok (.aload_n 0, 1) := by decide +kernel
theorem dX10_family_16 : decode cX10_family 16 = .ok (.getfield 70, 3) := by decide +kernel
theorem dX10_family_19 : decode cX10_family 19 = .ok (.aload_n 0, 1) := by decide +kernel
theorem dX10_family_20 : decode cX10_family 20 = .ok (.getfield 129, 3) := by decide +kernel
theorem dX10_family_23 : decode cX10_family 23 = .ok (.aload_n 0, 1) := by decide +kernel
theorem dX10_family_24 : decode cX10_family 24 = .ok (.getfield 136, 3) := by decide +kernel
theorem dX10_family_27 : decode cX10_family 27 = .ok (.invokevirtual 162, 3) := by decide +kernel
theorem dX10_family_30 : decode cX10_family 30 = .ok (.iload_n 1, 1) := by decide +kernel
theorem dX10_family_31 : decode cX10_family 31 = .ok (.tableswitch 68 0 2 #[25, 37, 49], 25) := by decide +kernel
theorem dX10_family_56 : decode cX10_family 56 = .ok (.aload_n 0, 1) := by decide +kernel
theorem dX10_family_57 : decode cX10_family 57 = .ok (.aload_n 0, 1) := by decide +kernel
theorem dX10_family_58 : decode cX10_family 58 = .ok (.getfield 70, 3) := by decide +kernel
theorem dX10_family_61 : decode cX10_family 61 = .ok (.invokevirtual 346, 3) := by decide +kernel
theorem dX10_family_64 : decode cX10_family 64 = .ok (.invokevirtual 130, 3) := by decide +kernel
theorem dX10_family_67 : decode cX10_family 67 = .ok (.ireturn, 1) := by decide +kernel
theorem dX10_family_68 : decode cX10_family 68 = .ok (.aload_n 0, 1) := by decide +kernel
theorem dX10_family_69 : decode cX10_family 69 = .ok (.aload_n 0, 1) := by decide +kernel
theorem dX10_family_70 : decode cX10_family 70 = .ok (.getfield 70, 3) := by decide +kernel
theorem dX10_family_73 : decode cX10_family 73 = .ok (.invokevirtual 349, 3) := by decide +kernel
theorem dX10_family_76 : decode cX10_family 76 = .ok (.invokevirtual 130, 3) := by decide +kernel
theorem dX10_family_79 : decode cX10_family 79 = .ok (.ireturn, 1) := by decide +kernel
theorem dX10_family_80 : decode cX10_family 80 = .ok (.aload_n 0, 1) := by decide +kernel
theorem dX10_family_81 : decode cX10_family 81 = .ok (.aload_n 0, 1) := by decide +kernel
theorem dX10_family_82 : decode cX10_family 82 = .ok (.getfield 70, 3) := by decide +kernel
theorem dX10_family_85 : decode cX10_family 85 = .ok (.aload_n 0, 1) := by decide +kernel
theorem dX10_family_86 : decode cX10_family 86 = .ok (.getfield 70, 3) := by decide +kernel
theorem dX10_family_89 : decode cX10_family 89 = .ok (.invokevirtual 346, 3) := by decide +kernel
theorem dX10_family_92 : decode cX10_family 92 = .ok (.invokevirtual 352, 3) := by decide +kernel
theorem dX10_family_95 : decode cX10_family 95 = .ok (.invokevirtual 130, 3) := by decide +kernel
theorem dX10_family_98 : decode cX10_family 98 = .ok (.ireturn, 1) := by decide +kernel
theorem dX10_family_99 : decode cX10_family 99 = .ok (.aload_n 0, 1) := by decide +kernel
theorem dX10_family_100 : decode cX10_family 100 = .ok (.aload_n 0, 1) := by decide +kernel
theorem dX10_family_101 : decode cX10_family 101 = .ok (.getfield 70, 3) := by decide +kernel
theorem dX10_family_104 : decode cX10_family 104 = .ok (.invokevirtual 355, 3) := by decide +kernel
theorem dX10_family_107 : decode cX10_family 107 = .ok (.invokevirtual 130, 3) := by decide +kernel
theorem dX10_family_110 : decode cX10_family 110 = .ok (.ireturn, 1) := by decide +kernel
theorem dX10_turns_0 : decode cX10_turns 0 = .ok (.aload_n 0, 1) := by decide +kernel
theorem dX10_turns_1 : decode cX10_turns 1 = .ok (.iload_n 1, 1) := by decide +kernel
theorem dX10_turns_2 : decode cX10_turns 2 = .ok (.invokevirtual 213, 3) := by decide +kernel
theorem dX10_turns_5 : decode cX10_turns 5 = .ok (.istore_n 2, 1) := by decide +kernel
theorem dX10_turns_6 : decode cX10_turns 6 = .ok (.iload_n 2, 1) := by decide +kernel
theorem dX10_turns_7 : decode cX10_turns 7 = .ok (.ifCond .eq 9, 3) := by decide +kernel
theorem dX10_turns_10 : decode cX10_turns 10 = .ok (.aload_n 0, 1) := by decide +kernel
theorem dX10_turns_11 : decode cX10_turns 11 = .ok (.iload_n 2, 1) := by decide +kernel
theorem dX10_turns_12 : decode cX10_turns 12 = .ok (.invokevirtual 102, 3) := by decide +kernel
theorem dX10_turns_15 : decode cX10_turns 15 = .ok (.ireturn, 1) := by decide +kernel
theorem dX10_turns_16 : decode cX10_turns 16 = .ok (.aload_n 0, 1) := by decide +kernel
theorem dX10_turns_17 : decode cX10_turns 17 = .ok (.iload_n 1, 1) := by decide +kernel
theorem dX10_turns_18 : decode cX10_turns 18 = .ok (.invokevirtual 216, 3) := by decide +kernel
theorem dX10_turns_21 : decode cX10_turns 21 = .ok (.istore_n 3, 1) := by decide +kernel
theorem dX10_turns_22 : decode cX10_turns 22 = .ok (.iload_n 3, 1) := by decide +kernel
theorem dX10_turns_23 : decode cX10_turns 23 = .ok (.invokestatic 204, 3) := by decide +kernel
theorem dX10_turns_26 : decode cX10_turns 26 = .ok (.aload_n 0, 1) := by decide +kernel
theorem dX10_turns_27 : decode cX10_turns 27 = .ok (.getfield 129, 3) := by decide +kernel
theorem dX10_turns_30 : decode cX10_turns 30 = .ok (.if_icmp .eq 10, 3) := by decide +kernel
theorem dX10_turns_33 : decode cX10_turns 33 = .ok (.aload_n 0, 1) := by decide +kernel
theorem dX10_turns_34 : decode cX10_turns 34 = .ok (.bipush 7, 2) := by decide +kernel
theorem dX10_turns_36 : decode cX10_turns 36 = .ok (.invokevirtual 102, 3) := by decide +kernel
theorem dX10_turns_39 : decode cX10_turns 39 = .ok (.ireturn, 1) := by decide +kernel
theorem dX10_turns_40 : decode cX10_turns 40 = .ok (.aload_n 0, 1) := by decide +kernel
theorem dX10_turns_41 : decode cX10_turns 41 = .ok (.getfield 70, 3) := by decide +kernel
theorem dX10_turns_44 : decode cX10_turns 44 = .ok (.aload_n 0, 1) := by decide +kernel
theorem dX10_turns_45 : decode cX10_turns 45 = .ok (.getfield 129, 3) := by decide +kernel
theorem dX10_turns_48 : decode cX10_turns 48 = .ok (.aload_n 0, 1) := by decide +kernel
theorem dX10_turns_49 : decode cX10_turns 49 = .ok (.getfield 136, 3) := by decide +kernel
theorem dX10_turns_52 : decode cX10_turns 52 = .ok (.invokevirtual 162, 3) := by decide +kernel
theorem dX10_turns_55 : decode cX10_turns 55 = .ok (.aload_n 0, 1) := by decide +kernel
theorem dX10_turns_56 : decode cX10_turns 56 = .ok (.getfield 70, 3) := by decide +kernel
theorem dX10_turns_59 : decode cX10_turns 59 = .ok (.iload_n 3, 1) := by decide +kernel
theorem dX10_turns_60 : decode cX10_turns 60 = .ok (.invokestatic 207, 3) := by decide +kernel
theorem dX10_turns_63 : decode cX10_turns 63 = .ok (.invokevirtual 358, 3) := by decide +kernel
theorem dX10_turns_66 : decode cX10_turns 66 = .ok (.istore 4, 2) := by decide +kernel
theorem dX10_turns_68 : decode cX10_turns 68 = .ok (.iload 4, 2) := by decide +kernel
theorem dX10_turns_70 : decode cX10_turns 70 = .ok (.ifCond .ge 12, 3) := by decide +kernel
theorem dX10_turns_73 : decode cX10_turns 73 = .ok (.aload_n 0, 1) := by decide +kernel
theorem dX10_turns_74 : decode cX10_turns 74 = .ok (.bipush 6, 2) := by decide +kernel
theorem dX10_turns_76 : decode cX10_turns 76 = .ok (.invokevirtual 102, 3) := by decide +kernel
theorem dX10_turns_79 : decode cX10_turns 79 = .ok (.goto 9, 3) := by decide +kernel
theorem dX10_turns_82 : decode cX10_turns 82 = .ok (.aload_n 0, 1) := by decide +kernel
theorem dX10_turns_83 : decode cX10_turns 83 = .ok (.iload 4, 2) := by decide +kernel
theorem dX10_turns_85 : decode cX10_turns 85 = .ok (.invokevirtual 130, 3) := by decide +kernel
theorem dX10_turns_88 : decode cX10_turns 88 = .ok (.ireturn, 1) := by decide +kernel
theorem dX10_within_0 : decode cX10_within 0 = .ok (.aload_n 0, 1) := by decide +kernel
theorem dX10_within_1 : decode cX10_within 1 = .ok (.iload_n 1, 1) := by decide +kernel
theorem dX10_within_2 : decode cX10_within 2 = .ok (.invokevirtual 213, 3) := by decide +kernel
theorem dX10_within_5 : decode cX10_within 5 = .ok (.istore_n 2, 1) := by decide +kernel
theorem dX10_within_6 : decode cX10_within 6 = .ok (.iload_n 2, 1) := by decide +kernel
theorem dX10_within_7 : decode cX10_within 7 = .ok (.ifCond .eq 9, 3) := by decide +kernel
theorem dX10_within_10 : decode cX10_within 10 = .ok (.aload_n 0, 1) := by decide +kernel
theorem dX10_within_11 : decode cX10_within 11 = .ok (.iload_n 2, 1) := by decide +kernel
theorem dX10_within_12 : decode cX10_within 12 = .ok (.invokevirtual 102, 3) := by decide +kernel
theorem dX10_within_15 : decode cX10_within 15 = .ok (.ireturn, 1) := by decide +kernel
theorem dX10_within_16 : decode cX10_within 16 = .ok (.aload_n 0, 1) := by decide +kernel
theorem dX10_within_17 : decode cX10_within 17 = .ok (.iload_n 1, 1) := by decide +kernel
theorem dX10_within_18 : decode cX10_within 18 = .ok (.invokevirtual 216, 3) := by decide +kernel
theorem dX10_within_21 : decode cX10_within 21 = .ok (.istore_n 3, 1) := by decide +kernel
theorem dX10_within_22 : decode cX10_within 22 = .ok (.iload_n 3, 1) := by decide +kernel
theorem dX10_within_23 : decode cX10_within 23 = .ok (.invokestatic 204, 3) := by decide +kernel
theorem dX10_within_26 : decode cX10_within 26 = .ok (.aload_n 0, 1) := by decide +kernel
theorem dX10_within_27 : decode cX10_within 27 = .ok (.getfield 129, 3) := by decide +kernel
theorem dX10_within_30 : decode cX10_within 30 = .ok (.if_icmp .le 10, 3) := by decide +kernel
theorem dX10_within_33 : decode cX10_within 33 = .ok (.aload_n 0, 1) := by decide +kernel
theorem dX10_within_34 : decode cX10_within 34 = .ok (.bipush 7, 2) := by decide +kernel
theorem dX10_within_36 : decode cX10_within 36 = .ok (.invokevirtual 102, 3) := by decide +kernel
theorem dX10_within_39 : decode cX10_within 39 = .ok (.ireturn, 1) := by decide +kernel
theorem dX10_within_40 : decode cX10_within 40 = .ok (.aload_n 0, 1) := by decide +kernel
theorem dX10_within_41 : decode cX10_within 41 = .ok (.getfield 70, 3) := by decide +kernel
theorem dX10_within_44 : decode cX10_within 44 = .ok (.aload_n 0, 1) := by decide +kernel
theorem dX10_within_45 : decode cX10_within 45 = .ok (.getfield 129, 3) := by decide +kernel
theorem dX10_within_48 : decode cX10_within 48 = .ok (.aload_n 0, 1) := by decide +kernel
theorem dX10_within_49 : decode cX10_within 49 = .ok (.getfield 136, 3) := by decide +kernel
theorem dX10_within_52 : decode cX10_within 52 = .ok (.invokevirtual 162, 3) := by decide +kernel
theorem dX10_within_55 : decode cX10_within 55 = .ok (.aload_n 0, 1) := by decide +kernel
theorem dX10_within_56 : decode cX10_within 56 = .ok (.getfield 70, 3) := by decide +kernel
theorem dX10_within_59 : decode cX10_within 59 = .ok (.iload_n 3, 1) := by decide +kernel
theorem dX10_within_60 : decode cX10_within 60 = .ok (.invokestatic 204, 3) := by decide +kernel
theorem dX10_within_63 : decode cX10_within 63 = .ok (.iload_n 3, 1) := by decide +kernel
theorem dX10_within_64 : decode cX10_within 64 = .ok (.invokestatic 207, 3) := by decide +kernel
theorem dX10_within_67 : decode cX10_within 67 = .ok (.invokevirtual 361, 3) := by decide +kernel
theorem dX10_within_70 : decode cX10_within 70 = .ok (.istore 4, 2) := by decide +kernel
theorem dX10_within_72 : decode cX10_within 72 = .ok (.aload_n 0, 1) := by decide +kernel
theorem dX10_within_73 : decode cX10_within 73 = .ok (.iload 4, 2) := by decide +kernel
theorem dX10_within_75 : decode cX10_within 75 = .ok (.ifCond .eq 7, 3) := by decide +kernel
theorem dX10_within_78 : decode cX10_within 78 = .ok (.iconst 1, 1) := by decide +kernel
theorem dX10_within_79 : decode cX10_within 79 = .ok (.goto 4, 3) := by decide +kernel
theorem dX10_within_82 : decode cX10_within 82 = .ok (.iconst 0, 1) := by decide +kernel
theorem dX10_within_83 : decode cX10_within 83 = .ok (.invokevirtual 130, 3) := by decide +kernel
theorem dX10_within_86 : decode cX10_within 86 = .ok (.ireturn, 1) := by decide +kernel
theorem dX10_shuffle_0 : decode cX10_shuffle 0 = .ok (.iload_n 1, 1) := by decide +kernel
theorem dX10_shuffle_1 : decode cX10_shuffle 1 = .ok (.ifCond .lt 20, 3) := by decide +kernel
theorem dX10_shuffle_4 : decode cX10_shuffle 4 = .ok (.iload_n 1, 1) := by decide +kernel
theorem dX10_shuffle_5 : decode cX10_shuffle 5 = .ok (.sipush 9999, 3) := by decide +kernel
theorem dX10_shuffle_8 : decode cX10_shuffle 8 = .ok (.if_icmp .gt 13, 3) := by decide +kernel
theorem dX10_shuffle_11 : decode cX10_shuffle 11 = .ok (.iload_n 2, 1) := by decide +kernel
theorem dX10_shuffle_12 : decode cX10_shuffle 12 = .ok (.ifCond .lt 9, 3) := by decide +kernel
theorem dX10_shuffle_15 : decode cX10_shuffle 15 = .ok (.iload_n 2, 1) := by decide +kernel
theorem dX10_shuffle_16 : decode cX10_shuffle 16 = .ok (.bipush 7, 2) := by decide +kernel
theorem dX10_shuffle_18 : decode cX10_shuffle 18 = .ok (.if_icmp .le 9, 3) := by decide +kernel
theorem dX10_shuffle_21 : decode cX10_shuffle 21 = .ok (.aload_n 0, 1) := by decide +kernel
theorem dX10_shuffle_22 : decode cX10_shuffle 22 = .ok (.iconst 1, 1) := by decide +kernel
theorem dX10_shuffle_23 : decode cX10_shuffle 23 = .ok (.invokevirtual 102, 3) := by decide +kernel
theorem dX10_shuffle_26 : decode cX10_shuffle 26 = .ok (.ireturn, 1) := by decide +kernel
theorem dX10_shuffle_27 : decode cX10_shuffle 27 = .ok (.aload_n 0, 1) := by decide +kernel
theorem dX10_shuffle_28 : decode cX10_shuffle 28 = .ok (.getfield 77, 3) := by decide +kernel
theorem dX10_shuffle_31 : decode cX10_shuffle 31 = .ok (.iload_n 1, 1) := by decide +kernel
theorem dX10_shuffle_32 : decode cX10_shuffle 32 = .ok (.invokevirtual 364, 3) := by decide +kernel
theorem dX10_shuffle_35 : decode cX10_shuffle 35 = .ok (.aload_n 0, 1) := by decide +kernel
theorem dX10_shuffle_36 : decode cX10_shuffle 36 = .ok (.iload_n 2, 1) := by decide +kernel
theorem dX10_shuffle_37 : decode cX10_shuffle 37 = .ok (.aload_n 0, 1) := by decide +kernel
theorem dX10_shuffle_38 : decode cX10_shuffle 38 = .ok (.getfield 77, 3) := by decide +kernel
theorem dX10_shuffle_41 : decode cX10_shuffle 41 = .ok (.iload_n 2, 1) := by decide +kernel
theorem dX10_shuffle_42 : decode cX10_shuffle 42 = .ok (.invokevirtual 367, 3) := by decide +kernel
theorem dX10_shuffle_45 : decode cX10_shuffle 45 = .ok (.invokevirtual 125, 3) := by decide +kernel
theorem dX10_shuffle_48 : decode cX10_shuffle 48 = .ok (.aload_n 0, 1) := by decide +kernel
theorem dX10_shuffle_49 : decode cX10_shuffle 49 = .ok (.aload_n 0, 1) := by decide +kernel
theorem dX10_shuffle_50 : decode cX10_shuffle 50 = .ok (.getfield 136, 3) := by decide +kernel
theorem dX10_shuffle_53 : decode cX10_shuffle 53 = .ok (.invokestatic 137, 3) := by decide +kernel
theorem dX10_shuffle_56 : decode cX10_shuffle 56 = .ok (.invokevirtual 130, 3) := by decide +kernel
theorem dX10_shuffle_59 : decode cX10_shuffle 59 = .ok (.ireturn, 1) := by decide +kernel
theorem dX10_sample_0 : decode cX10_sample 0 = .ok (.iload_n 1, 1) := by decide +kernel
theorem dX10_sample_1 : decode cX10_sample 1 = .ok (.ifCond .lt 20, 3) := by decide +kernel
theorem dX10_sample_4 : decode cX10_sample 4 = .ok (.iload_n 1, 1) := by decide +kernel
theorem dX10_sample_5 : decode cX10_sample 5 = .ok (.sipush 9999, 3) := by decide +kernel
theorem dX10_sample_8 : decode cX10_sample 8 = .ok (.if_icmp .gt 13, 3) := by decide +kernel
theorem dX10_sample_11 : decode cX10_sample 11 = .ok (.iload_n 2, 1) := by decide +kernel
theorem dX10_sample_12 : decode cX10_sample 12 = .ok (.ifCond .lt 9, 3) := by decide +kernel
theorem dX10_sample_15 : decode cX10_sample 15 = .ok (.iload_n 2, 1) := by decide +kernel
theorem dX10_sample_16 : decode cX10_sample 16 = .ok (.bipush 7, 2) := by decide +kernel
theorem dX10_sample_18 : decode cX10_sample 18 = .ok (.if_icmp .le 9, 3) := by decide +kernel
theorem dX10_sample_21 : decode cX10_sample 21 = .ok (.aload_n 0, 1) := by decide +kernel
theorem dX10_sample_22 : decode cX10_sample 22 = .ok (.iconst 1, 1) := by decide +kernel
theorem dX10_sample_23 : decode cX10_sample 23 = .ok (.invokevirtual 102, 3) := by decide +kernel
theorem dX10_sample_26 : decode cX10_sample 26 = .ok (.ireturn, 1) := by decide +kernel
theorem dX10_sample_27 : decode cX10_sample 27 = .ok (.iload_n 3, 1) := by decide +kernel
theorem dX10_sample_28 : decode cX10_sample 28 = .ok (.iconst 1, 1) := by decide +kernel
theorem dX10_sample_29 : decode cX10_sample 29 = .ok (.if_icmp .lt 20, 3) := by decide +kernel
theorem dX10_sample_32 : decode cX10_sample 32 = .ok (.iload_n 3, 1) := by decide +kernel
theorem dX10_sample_33 : decode cX10_sample 33 = .ok (.bipush 40, 2) := by decide +kernel
theorem dX10_sample_35 : decode cX10_sample 35 = .ok (.if_icmp .gt 14, 3) := by decide +kernel
theorem dX10_sample_38 : decode cX10_sample 38 = .ok (.iload 4, 2) := by decide +kernel
theorem dX10_sample_40 : decode cX10_sample 40 = .ok (.ifCond .lt 9, 3) := by decide +kernel
theorem dX10_sample_43 : decode cX10_sample 43 = .ok (.iload 4, 2) := by decide +kernel
theorem dX10_sample_45 : decode cX10_sample 45 = .ok (.iconst 3, 1) := by decide +kernel
theorem dX10_sample_46 : decode cX10_sample 46 = .ok (.if_icmp .le 9, 3) := by decide +kernel
theorem dX10_sample_49 : decode cX10_sample 49 = .ok (.aload_n 0, 1) := by decide +kernel
theorem dX10_sample_50 : decode cX10_sample 50 = .ok (.iconst 1, 1) := by decide +kernel
theorem dX10_sample_51 : decode cX10_sample 51 = .ok (.invokevirtual 102, 3) := by decide +kernel
theorem dX10_sample_54 : decode cX10_sample 54 = .ok (.ireturn, 1) := by decide +kernel
theorem dX10_sample_55 : decode cX10_sample 55 = .ok (.aload_n 0, 1) := by decide +kernel
theorem dX10_sample_56 : decode cX10_sample 56 = .ok (.getfield 77, 3) := by decide +kernel
theorem dX10_sample_59 : decode cX10_sample 59 = .ok (.iload_n 1, 1) := by decide +kernel
theorem dX10_sample_60 : decode cX10_sample 60 = .ok (.invokevirtual 364, 3) := by decide +kernel
theorem dX10_sample_63 : decode cX10_sample 63 = .ok (.aload_n 0, 1) := by decide +kernel
theorem dX10_sample_64 : decode cX10_sample 64 = .ok (.getfield 77, 3) := by decide +kernel
theorem dX10_sample_67 : decode cX10_sample 67 = .ok (.iload_n 2, 1) := by decide +kernel
theorem dX10_sample_68 : decode cX10_sample 68 = .ok (.iload_n 3, 1) := by decide +kernel
theorem dX10_sample_69 : decode cX10_sample 69 = .ok (.invokevirtual 370, 3) := by decide +kernel
theorem dX10_sample_72 : decode cX10_sample 72 = .ok (.iload 4, 2) := by decide +kernel
theorem dX10_sample_74 : decode cX10_sample 74 = .ok (.tableswitch 62 0 2 #[26, 38, 50], 26) := by decide +kernel
theorem dX10_sample_100 : decode cX10_sample 100 = .ok (.aload_n 0, 1) := by decide +kernel
theorem dX10_sample_101 : decode cX10_sample 101 = .ok (.aload_n 0, 1) := by decide +kernel
theorem dX10_sample_102 : decode cX10_sample 102 = .ok (.getfield 77, 3) := by decide +kernel
theorem dX10_sample_105 : decode cX10_sample 105 = .ok (.getfield 372, 3) := by decide +kernel
theorem dX10_sample_108 : decode cX10_sample 108 = .ok (.invokevirtual 130, 3) := by decide +kernel
theorem dX10_sample_111 : decode cX10_sample 111 = .ok (.ireturn, 1) := by decide +kernel
theorem dX10_sample_112 : decode cX10_sample 112 = .ok (.aload_n 0, 1) := by decide +kernel
theorem dX10_sample_113 : decode cX10_sample 113 = .ok (.aload_n 0, 1) := by decide +kernel
theorem dX10_sample_114 : decode cX10_sample 114 = .ok (.getfield 77, 3) := by decide +kernel
theorem dX10_sample_117 : decode cX10_sample 117 = .ok (.getfield 375, 3) := by decide +kernel
theorem dX10_sample_120 : decode cX10_sample 120 = .ok (.invokevirtual 130, 3) := by decide +kernel
theorem dX10_sample_123 : decode cX10_sample 123 = .ok (.ireturn, 1) := by decide +kernel
theorem dX10_sample_124 : decode cX10_sample 124 = .ok (.aload_n 0, 1) := by decide +kernel
theorem dX10_sample_125 : decode cX10_sample 125 = .ok (.aload_n 0, 1) := by decide +kernel
theorem dX10_sample_126 : decode cX10_sample 126 = .ok (.getfield 77, 3) := by decide +kernel
theorem dX10_sample_129 : decode cX10_sample 129 = .ok (.getfield 378, 3) := by decide +kernel
theorem dX10_sample_132 : decode cX10_sample 132 = .ok (.invokevirtual 130, 3) := by decide +kernel
theorem dX10_sample_135 : decode cX10_sample 135 = .ok (.ireturn, 1) := by decide +kernel
theorem dX10_sample_136 : decode cX10_sample 136 = .ok (.aload_n 0, 1) := by decide +kernel
theorem dX10_sample_137 : decode cX10_sample 137 = .ok (.aload_n 0, 1) := by decide +kernel
theorem dX10_sample_138 : decode cX10_sample 138 = .ok (.getfield 77, 3) := by decide +kernel
theorem dX10_sample_141 : decode cX10_sample 141 = .ok (.getfield 372, 3) := by decide +kernel
theorem dX10_sample_144 : decode cX10_sample 144 = .ok (.iload_n 3, 1) := by decide +kernel
theorem dX10_sample_145 : decode cX10_sample 145 = .ok (.iconst 0, 1) := by decide +kernel
theorem dX10_sample_146 : decode cX10_sample 146 = .ok (.iload_n 2, 1) := by decide +kernel
theorem dX10_sample_147 : decode cX10_sample 147 = .ok (.invokestatic 174, 3) := by decide +kernel
theorem dX10_sample_150 : decode cX10_sample 150 = .ok (.imul, 1) := by decide +kernel
theorem dX10_sample_151 : decode cX10_sample 151 = .ok (.iconst 0, 1) := by decide +kernel
theorem dX10_sample_152 : decode cX10_sample 152 = .ok (.invokestatic 381, 3) := by decide +kernel
theorem dX10_sample_155 : decode cX10_sample 155 = .ok (.invokestatic 297, 3) := by decide +kernel
theorem dX10_sample_158 : decode cX10_sample 158 = .ok (.invokevirtual 130, 3) := by decide +kernel
theorem dX10_sample_161 : decode cX10_sample 161 = .ok (.ireturn, 1) := by decide +kernel
theorem dX10_refuse_0 : decode cX10_refuse 0 = .ok (.aload_n 0, 1) := by decide +kernel
theorem dX10_refuse_1 : decode cX10_refuse 1 = .ok (.iload_n 1, 1) := by decide +kernel
theorem dX10_refuse_2 : decode cX10_refuse 2 = .ok (.putfield 87, 3) := by decide +kernel
theorem dX10_refuse_5 : decode cX10_refuse 5 = .ok (.iconst (-1), 1) := by decide +kernel
theorem dX10_refuse_6 : decode cX10_refuse 6 = .ok (.ireturn, 1) := by decide +kernel
theorem dX10_answer_0 : decode cX10_answer 0 = .ok (.aload_n 0, 1) := by decide +kernel
theorem dX10_answer_1 : decode cX10_answer 1 = .ok (.iconst 0, 1) := by decide +kernel
theorem dX10_answer_2 : decode cX10_answer 2 = .ok (.putfield 87, 3) := by decide +kernel
theorem dX10_answer_5 : decode cX10_answer 5 = .ok (.iload_n 1, 1) := by decide +kernel
theorem dX10_answer_6 : decode cX10_answer 6 = .ok (.ireturn, 1) := by decide +kernel
theorem dX10_become_0 : decode cX10_become 0 = .ok (.aload_n 0, 1) := by decide +kernel
theorem dX10_become_1 : decode cX10_become 1 = .ok (.getfield 26, 3) := by decide +kernel
theorem dX10_become_4 : decode cX10_become 4 = .ok (.aload_n 0, 1) := by decide +kernel
theorem dX10_become_5 : decode cX10_become 5 = .ok (.getfield 129, 3) := by decide +kernel
theorem dX10_become_8 : decode cX10_become 8 = .ok (.aload_n 0, 1) := by decide +kernel
theorem dX10_become_9 : decode cX10_become 9 = .ok (.getfield 136, 3) := by decide +kernel
theorem dX10_become_12 : decode cX10_become 12 = .ok (.invokestatic 210, 3) := by decide +kernel
theorem dX10_become_15 : decode cX10_become 15 = .ok (.invokevirtual 385, 3) := by decide +kernel
theorem dX10_become_18 : decode cX10_become 18 = .ok (.aload_n 0, 1) := by decide +kernel
theorem dX10_become_19 : decode cX10_become 19 = .ok (.iload_n 1, 1) := by decide +kernel
theorem dX10_become_20 : decode cX10_become 20 = .ok (.putfield 129, 3) := by decide +kernel
theorem dX10_become_23 : decode cX10_become 23 = .ok (.aload_n 0, 1) := by decide +kernel
theorem dX10_become_24 : decode cX10_become 24 = .ok (.iload_n 2, 1) := by decide +kernel
theorem dX10_become_25 : decode cX10_become 25 = .ok (.putfield 136, 3) := by decide +kernel
theorem dX10_become_28 : decode cX10_become 28 = .ok (.return_, 1) := by decide +kernel
theorem dX10_hasPoint_0 : decode cX10_hasPoint 0 = .ok (.iload_n 1, 1) := by decide +kernel
theorem dX10_hasPoint_1 : decode cX10_hasPoint 1 = .ok (.ifCond .lt 15, 3) := by decide +kernel
theorem dX10_hasPoint_4 : decode cX10_hasPoint 4 = .ok (.iload_n 1, 1) := by decide +kernel
theorem dX10_hasPoint_5 : decode cX10_hasPoint 5 = .ok (.aload_n 0, 1) := by decide +kernel
theorem dX10_hasPoint_6 : decode cX10_hasPoint 6 = .ok (.getfield 129, 3) := by decide +kernel
theorem dX10_hasPoint_9 : decode cX10_hasPoint 9 = .ok (.if_icmp .ge 7, 3) := by decide +kernel
theorem dX10_hasPoint_12 : decode cX10_hasPoint 12 = .ok (.iconst 1, 1) := by decide +kernel
theorem dX10_hasPoint_13 : decode cX10_hasPoint 13 = .ok (.goto 4, 3) := by decide +kernel
theorem dX10_hasPoint_16 : decode cX10_hasPoint 16 = .ok (.iconst 0, 1) := by decide +kernel
theorem dX10_hasPoint_17 : decode cX10_hasPoint 17 = .ok (.ireturn, 1) := by decide +kernel
theorem dX10_hasSet_0 : decode cX10_hasSet 0 = .ok (.iload_n 1, 1) := by decide +kernel
theorem dX10_hasSet_1 : decode cX10_hasSet 1 = .ok (.ifCond .lt 17, 3) := by decide +kernel
theorem dX10_hasSet_4 : decode cX10_hasSet 4 = .ok (.iload_n 1, 1) := by decide +kernel
theorem dX10_hasSet_5 : decode cX10_hasSet 5 = .ok (.iconst 1, 1) := by decide +kernel
theorem dX10_hasSet_6 : decode cX10_hasSet 6 = .ok (.aload_n 0, 1) := by decide +kernel
theorem dX10_hasSet_7 : decode cX10_hasSet 7 = .ok (.getfield 129, 3) := by decide +kernel
theorem dX10_hasSet_10 : decode cX10_hasSet 10 = .ok (.ishl, 1) := by decide +kernel
theorem dX10_hasSet_11 : decode cX10_hasSet 11 = .ok (.if_icmp .ge 7, 3) := by decide +kernel
theorem dX10_hasSet_14 : decode cX10_hasSet 14 = .ok (.iconst 1, 1) := by decide +kernel
theorem dX10_hasSet_15 : decode cX10_hasSet 15 = .ok (.goto 4, 3) := by decide +kernel
theorem dX10_hasSet_18 : decode cX10_hasSet 18 = .ok (.iconst 0, 1) := by decide +kernel
theorem dX10_hasSet_19 : decode cX10_hasSet 19 = .ok (.ireturn, 1) := by decide +kernel
theorem dX10_hasModel_0 : decode cX10_hasModel 0 = .ok (.aload_n 0, 1) := by decide +kernel
theorem dX10_hasModel_1 : decode cX10_hasModel 1 = .ok (.getfield 57, 3) := by decide +kernel
theorem dX10_hasModel_4 : decode cX10_hasModel 4 = .ok (.aload_n 0, 1) := by decide +kernel
theorem dX10_hasModel_5 : decode cX10_hasModel 5 = .ok (.getfield 129, 3) := by decide +kernel
theorem dX10_hasModel_8 : decode cX10_hasModel 8 = .ok (.aload_n 0, 1) := by decide +kernel
theorem dX10_hasModel_9 : decode cX10_hasModel 9 = .ok (.getfield 136, 3) := by decide +kernel
theorem dX10_hasModel_12 : decode cX10_hasModel 12 = .ok (.ldc 157, 2) := by decide +kernel
theorem dX10_hasModel_14 : decode cX10_hasModel 14 = .ok (.invokevirtual 158, 3) := by decide +kernel
theorem dX10_hasModel_17 : decode cX10_hasModel 17 = .ok (.iload_n 1, 1) := by decide +kernel
theorem dX10_hasModel_18 : decode cX10_hasModel 18 = .ok (.ifCond .lt 18, 3) := by decide +kernel
theorem dX10_hasModel_21 : decode cX10_hasModel 21 = .ok (.iload_n 1, 1) := by decide +kernel
theorem dX10_hasModel_22 : decode cX10_hasModel 22 = .ok (.aload_n 0, 1) := by decide +kernel
theorem dX10_hasModel_23 : decode cX10_hasModel 23 = .ok (.getfield 57, 3) := by decide +kernel
theorem dX10_hasModel_26 : decode cX10_hasModel 26 = .ok (.getfield 161, 3) := by decide +kernel
theorem dX10_hasModel_29 : decode cX10_hasModel 29 = .ok (.if_icmp .ge 7, 3) := by decide +kernel
theorem dX10_hasModel_32 : decode cX10_hasModel 32 = .ok (.iconst 1, 1) := by decide +kernel
theorem dX10_hasModel_33 : decode cX10_hasModel 33 = .ok (.goto 4, 3) := by decide +kernel
theorem dX10_hasModel_36 : decode cX10_hasModel 36 = .ok (.iconst 0, 1) := by decide +kernel
theorem dX10_hasModel_37 : decode cX10_hasModel 37 = .ok (.ireturn, 1) := by decide +kernel
theorem dX10_imageAt_0 : decode cX10_imageAt 0 = .ok (.iload_n 1, 1) := by decide +kernel
theorem dX10_imageAt_1 : decode cX10_imageAt 1 = .ok (.ifCond .lt 21, 3) := by decide +kernel
theorem dX10_imageAt_4 : decode cX10_imageAt 4 = .ok (.iload_n 1, 1) := by decide +kernel
theorem dX10_imageAt_5 : decode cX10_imageAt 5 = .ok (.aload_n 0, 1) := by decide +kernel
theorem dX10_imageAt_6 : decode cX10_imageAt 6 = .ok (.getfield 30, 3) := by decide +kernel
theorem dX10_imageAt_9 : decode cX10_imageAt 9 = .ok (.arraylength, 1) := by decide +kernel
theorem dX10_imageAt_10 : decode cX10_imageAt 10 = .ok (.if_icmp .ge 12, 3) := by decide +kernel
theorem dX10_imageAt_13 : decode cX10_imageAt 13 = .ok (.aload_n 0, 1) := by decide +kernel
theorem dX10_imageAt_14 : decode cX10_imageAt 14 = .ok (.getfield 30, 3) := by decide +kernel
theorem dX10_imageAt_17 : decode cX10_imageAt 17 = .ok (.iload_n 1, 1) := by decide +kernel
theorem dX10_imageAt_18 : decode cX10_imageAt 18 = .ok (.iaload, 1) := by decide +kernel
theorem dX10_imageAt_19 : decode cX10_imageAt 19 = .ok (.goto 4, 3) := by decide +kernel
theorem dX10_imageAt_22 : decode cX10_imageAt 22 = .ok (.iconst (-1), 1) := by decide +kernel
theorem dX10_imageAt_23 : decode cX10_imageAt 23 = .ok (.ireturn, 1) := by decide +kernel
theorem dX10_badCouple_0 : decode cX10_badCouple 0 = .ok (.aload_n 0, 1) := by decide +kernel
theorem dX10_badCouple_1 : decode cX10_badCouple 1 = .ok (.iload_n 1, 1) := by decide +kernel
theorem dX10_badCouple_2 : decode cX10_badCouple 2 = .ok (.invokevirtual 164, 3) := by decide +kernel
theorem dX10_badCouple_5 : decode cX10_badCouple 5 = .ok (.ifCond .eq 11, 3) := by decide +kernel
theorem dX10_badCouple_8 : decode cX10_badCouple 8 = .ok (.aload_n 0, 1) := by decide +kernel
theorem dX10_badCouple_9 : decode cX10_badCouple 9 = .ok (.iload_n 2, 1) := by decide +kernel
theorem dX10_badCouple_10 : decode cX10_badCouple 10 = .ok (.invokevirtual 164, 3) := by decide +kernel
theorem dX10_badCouple_13 : decode cX10_badCouple 13 = .ok (.ifCond .ne 5, 3) := by decide +kernel
theorem dX10_badCouple_16 : decode cX10_badCouple 16 = .ok (.iconst 2, 1) := by decide +kernel
theorem dX10_badCouple_17 : decode cX10_badCouple 17 = .ok (.ireturn, 1) := by decide +kernel
theorem dX10_badCouple_18 : decode cX10_badCouple 18 = .ok (.iload_n 1, 1) := by decide +kernel
theorem dX10_badCouple_19 : decode cX10_badCouple 19 = .ok (.iload_n 2, 1) := by decide +kernel
theorem dX10_badCouple_20 : decode cX10_badCouple 20 = .ok (.if_icmp .ne 7, 3) := by decide +kernel
theorem dX10_badCouple_23 : decode cX10_badCouple 23 = .ok (.iconst 4, 1) := by decide +kernel
theorem dX10_badCouple_24 : decode cX10_badCouple 24 = .ok (.goto 4, 3) := by decide +kernel
theorem dX10_badCouple_27 : decode cX10_badCouple 27 = .ok (.iconst 0, 1) := by decide +kernel
theorem dX10_badCouple_28 : decode cX10_badCouple 28 = .ok (.ireturn, 1) := by decide +kernel
theorem dX10_badImage_0 : decode cX10_badImage 0 = .ok (.iload_n 1, 1) := by decide +kernel
theorem dX10_badImage_1 : decode cX10_badImage 1 = .ok (.ifCond .lt 12, 3) := by decide +kernel
theorem dX10_badImage_4 : decode cX10_badImage 4 = .ok (.iload_n 1, 1) := by decide +kernel
theorem dX10_badImage_5 : decode cX10_badImage 5 = .ok (.aload_n 0, 1) := by decide +kernel
theorem dX10_badImage_6 : decode cX10_badImage 6 = .ok (.getfield 30, 3) := by decide +kernel
theorem dX10_badImage_9 : decode cX10_badImage 9 = .ok (.arraylength, 1) := by decide +kernel
theorem dX10_badImage_10 : decode cX10_badImage 10 = .ok (.if_icmp .lt 5, 3) := by decide +kernel
theorem dX10_badImage_13 : decode cX10_badImage 13 = .ok (.iconst 1, 1) := by decide +kernel
theorem dX10_badImage_14 : decode cX10_badImage 14 = .ok (.ireturn, 1) := by decide +kernel
theorem dX10_badImage_15 : decode cX10_badImage 15 = .ok (.aload_n 0, 1) := by decide +kernel
theorem dX10_badImage_16 : decode cX10_badImage 16 = .ok (.getfield 30, 3) := by decide +kernel
theorem dX10_badImage_19 : decode cX10_badImage 19 = .ok (.iload_n 1, 1) := by decide +kernel
theorem dX10_badImage_20 : decode cX10_badImage 20 = .ok (.iaload, 1) := by decide +kernel
theorem dX10_badImage_21 : decode cX10_badImage 21 = .ok (.ifCond .ge 8, 3) := by decide +kernel
theorem dX10_badImage_24 : decode cX10_badImage 24 = .ok (.bipush 8, 2) := by decide +kernel
theorem dX10_badImage_26 : decode cX10_badImage 26 = .ok (.goto 4, 3) := by decide +kernel
theorem dX10_badImage_29 : decode cX10_badImage 29 = .ok (.iconst 0, 1) := by decide +kernel
theorem dX10_badImage_30 : decode cX10_badImage 30 = .ok (.ireturn, 1) := by decide +kernel
theorem dX10_badSplit_0 : decode cX10_badSplit 0 = .ok (.iload_n 1, 1) := by decide +kernel
theorem dX10_badSplit_1 : decode cX10_badSplit 1 = .ok (.ifCond .ge 5, 3) := by decide +kernel
theorem dX10_badSplit_4 : decode cX10_badSplit 4 = .ok (.iconst 1, 1) := by decide +kernel
theorem dX10_badSplit_5 : decode cX10_badSplit 5 = .ok (.ireturn, 1) := by decide +kernel
theorem dX10_badSplit_6 : decode cX10_badSplit 6 = .ok (.aload_n 0, 1) := by decide +kernel
theorem dX10_badSplit_7 : decode cX10_badSplit 7 = .ok (.getfield 129, 3) := by decide +kernel
theorem dX10_badSplit_10 : decode cX10_badSplit 10 = .ok (.aload_n 0, 1) := by decide +kernel
theorem dX10_badSplit_11 : decode cX10_badSplit 11 = .ok (.getfield 136, 3) := by decide +kernel
theorem dX10_badSplit_14 : decode cX10_badSplit 14 = .ok (.invokestatic 388, 3) := by decide +kernel
theorem dX10_badSplit_17 : decode cX10_badSplit 17 = .ok (.ifCond .ne 6, 3) := by decide +kernel
theorem dX10_badSplit_20 : decode cX10_badSplit 20 = .ok (.bipush 7, 2) := by decide +kernel
theorem dX10_badSplit_22 : decode cX10_badSplit 22 = .ok (.ireturn, 1) := by decide +kernel
theorem dX10_badSplit_23 : decode cX10_badSplit 23 = .ok (.aload_n 0, 1) := by decide +kernel
theorem dX10_badSplit_24 : decode cX10_badSplit 24 = .ok (.getfield 43, 3) := by decide +kernel
theorem dX10_badSplit_27 : decode cX10_badSplit 27 = .ok (.aload_n 0, 1) := by decide +kernel
theorem dX10_badSplit_28 : decode cX10_badSplit 28 = .ok (.getfield 129, 3) := by decide +kernel
theorem dX10_badSplit_31 : decode cX10_badSplit 31 = .ok (.aload_n 0, 1) := by decide +kernel
theorem dX10_badSplit_32 : decode cX10_badSplit 32 = .ok (.getfield 136, 3) := by decide +kernel
theorem dX10_badSplit_35 : decode cX10_badSplit 35 = .ok (.invokevirtual 151, 3) := by decide +kernel
theorem dX10_badSplit_38 : decode cX10_badSplit 38 = .ok (.iload_n 1, 1) := by decide +kernel
theorem dX10_badSplit_39 : decode cX10_badSplit 39 = .ok (.aload_n 0, 1) := by decide +kernel
theorem dX10_badSplit_40 : decode cX10_badSplit 40 = .ok (.getfield 43, 3) := by decide +kernel
theorem dX10_badSplit_43 : decode cX10_badSplit 43 = .ok (.getfield 154, 3) := by decide +kernel
theorem dX10_badSplit_46 : decode cX10_badSplit 46 = .ok (.if_icmp .lt 8, 3) := by decide +kernel
theorem dX10_badSplit_49 : decode cX10_badSplit 49 = .ok (.bipush 6, 2) := by decide +kernel
theorem dX10_badSplit_51 : decode cX10_badSplit 51 = .ok (.goto 4, 3) := by decide +kernel
theorem dX10_badSplit_54 : decode cX10_badSplit 54 = .ok (.iconst 0, 1) := by decide +kernel
theorem dX10_badSplit_55 : decode cX10_badSplit 55 = .ok (.ireturn, 1) := by decide +kernel
theorem dX10_badKnot_0 : decode cX10_badKnot 0 = .ok (.iload_n 1, 1) := by decide +kernel
theorem dX10_badKnot_1 : decode cX10_badKnot 1 = .ok (.ifCond .lt 7, 3) := by decide +kernel
theorem dX10_badKnot_4 : decode cX10_badKnot 4 = .ok (.iload_n 2, 1) := by decide +kernel
theorem dX10_badKnot_5 : decode cX10_badKnot 5 = .ok (.ifCond .ge 5, 3) := by decide +kernel
theorem dX10_badKnot_8 : decode cX10_badKnot 8 = .ok (.iconst 1, 1) := by decide +kernel
theorem dX10_badKnot_9 : decode cX10_badKnot 9 = .ok (.ireturn, 1) := by decide +kernel
theorem dX10_badKnot_10 : decode cX10_badKnot 10 = .ok (.aload_n 0, 1) := by decide +kernel
theorem dX10_badKnot_11 : decode cX10_badKnot 11 = .ok (.getfield 50, 3) := by decide +kernel
theorem dX10_badKnot_14 : decode cX10_badKnot 14 = .ok (.aload_n 0, 1) := by decide +kernel
theorem dX10_badKnot_15 : decode cX10_badKnot 15 = .ok (.getfield 129, 3) := by decide +kernel
theorem dX10_badKnot_18 : decode cX10_badKnot 18 = .ok (.aload_n 0, 1) := by decide +kernel
theorem dX10_badKnot_19 : decode cX10_badKnot 19 = .ok (.getfield 136, 3) := by decide +kernel
theorem dX10_badKnot_22 : decode cX10_badKnot 22 = .ok (.invokevirtual 155, 3) := by decide +kernel
theorem dX10_badKnot_25 : decode cX10_badKnot 25 = .ok (.iload_n 1, 1) := by decide +kernel
theorem dX10_badKnot_26 : decode cX10_badKnot 26 = .ok (.aload_n 0, 1) := by decide +kernel
theorem dX10_badKnot_27 : decode cX10_badKnot 27 = .ok (.getfield 50, 3) := by decide +kernel
theorem dX10_badKnot_30 : decode cX10_badKnot 30 = .ok (.getfield 156, 3) := by decide +kernel
theorem dX10_badKnot_33 : decode cX10_badKnot 33 = .ok (.if_icmp .ge 15, 3) := by decide +kernel
theorem dX10_badKnot_36 : decode cX10_badKnot 36 = .ok (.iload_n 2, 1) := by decide +kernel
theorem dX10_badKnot_37 : decode cX10_badKnot 37 = .ok (.aload_n 0, 1) := by decide +kernel
theorem dX10_badKnot_38 : decode cX10_badKnot 38 = .ok (.getfield 50, 3) := by decide +kernel
theorem dX10_badKnot_41 : decode cX10_badKnot 41 = .ok (.iload_n 1, 1) := by decide +kernel
theorem dX10_badKnot_42 : decode cX10_badKnot 42 = .ok (.invokevirtual 238, 3) := by decide +kernel
theorem dX10_badKnot_45 : decode cX10_badKnot 45 = .ok (.if_icmp .lt 8, 3) := by decide +kernel
theorem dX10_badKnot_48 : decode cX10_badKnot 48 = .ok (.bipush 6, 2) := by decide +kernel
theorem dX10_badKnot_50 : decode cX10_badKnot 50 = .ok (.goto 4, 3) := by decide +kernel
theorem dX10_badKnot_53 : decode cX10_badKnot 53 = .ok (.iconst 0, 1) := by decide +kernel
theorem dX10_badKnot_54 : decode cX10_badKnot 54 = .ok (.ireturn, 1) := by decide +kernel
theorem dX10_badModelPoint_0 : decode cX10_badModelPoint 0 = .ok (.iload_n 1, 1) := by decide +kernel
theorem dX10_badModelPoint_1 : decode cX10_badModelPoint 1 = .ok (.ifCond .ge 5, 3) := by decide +kernel
theorem dX10_badModelPoint_4 : decode cX10_badModelPoint 4 = .ok (.iconst 1, 1) := by decide +kernel
theorem dX10_badModelPoint_5 : decode cX10_badModelPoint 5 = .ok (.ireturn, 1) := by decide +kernel
theorem dX10_badModelPoint_6 : decode cX10_badModelPoint 6 = .ok (.aload_n 0, 1) := by decide +kernel
theorem dX10_badModelPoint_7 : decode cX10_badModelPoint 7 = .ok (.iload_n 2, 1) := by decide +kernel
theorem dX10_badModelPoint_8 : decode cX10_badModelPoint 8 = .ok (.invokevirtual 164, 3) := by decide +kernel
theorem dX10_badModelPoint_11 : decode cX10_badModelPoint 11 = .ok (.ifCond .ne 5, 3) := by decide +kernel
theorem dX10_badModelPoint_14 : decode cX10_badModelPoint 14 = .ok (.iconst 2, 1) := by decide +kernel
theorem dX10_badModelPoint_15 : decode cX10_badModelPoint 15 = .ok (.ireturn, 1) := by decide +kernel
theorem dX10_badModelPoint_16 : decode cX10_badModelPoint 16 = .ok (.aload_n 0, 1) := by decide +kernel
theorem dX10_badModelPoint_17 : decode cX10_badModelPoint 17 = .ok (.iload_n 1, 1) := by decide +kernel
theorem dX10_badModelPoint_18 : decode cX10_badModelPoint 18 = .ok (.invokevirtual 274, 3) := by decide +kernel
theorem dX10_badModelPoint_21 : decode cX10_badModelPoint 21 = .ok (.ifCond .eq 7, 3) := by decide +kernel
theorem dX10_badModelPoint_24 : decode cX10_badModelPoint 24 = .ok (.iconst 0, 1) := by decide +kernel
theorem dX10_badModelPoint_25 : decode cX10_badModelPoint 25 = .ok (.goto 5, 3) := by decide +kernel
theorem dX10_badModelPoint_28 : decode cX10_badModelPoint 28 = .ok (.bipush 6, 2) := by decide +kernel
theorem dX10_badModelPoint_30 : decode cX10_badModelPoint 30 = .ok (.ireturn, 1) := by decide +kernel
theorem dX10_partHasModel_0 : decode cX10_partHasModel 0 = .ok (.aload_n 0, 1) := by decide +kernel
theorem dX10_partHasModel_1 : decode cX10_partHasModel 1 = .ok (.getfield 64, 3) := by decide +kernel
theorem dX10_partHasModel_4 : decode cX10_partHasModel 4 = .ok (.iload_n 1, 1) := by decide +kernel
theorem dX10_partHasModel_5 : decode cX10_partHasModel 5 = .ok (.invokestatic 137, 3) := by decide +kernel
theorem dX10_partHasModel_8 : decode cX10_partHasModel 8 = .ok (.aload_n 0, 1) := by decide +kernel
theorem dX10_partHasModel_9 : decode cX10_partHasModel 9 = .ok (.getfield 129, 3) := by decide +kernel
theorem dX10_partHasModel_12 : decode cX10_partHasModel 12 = .ok (.aload_n 0, 1) := by decide +kernel
theorem dX10_partHasModel_13 : decode cX10_partHasModel 13 = .ok (.getfield 136, 3) := by decide +kernel
theorem dX10_partHasModel_16 : decode cX10_partHasModel 16 = .ok (.iload_n 1, 1) := by decide +kernel
theorem dX10_partHasModel_17 : decode cX10_partHasModel 17 = .ok (.invokestatic 180, 3) := by decide +kernel
theorem dX10_partHasModel_20 : decode cX10_partHasModel 20 = .ok (.iconst 1, 1) := by decide +kernel
theorem dX10_partHasModel_21 : decode cX10_partHasModel 21 = .ok (.invokevirtual 158, 3) := by decide +kernel
theorem dX10_partHasModel_24 : decode cX10_partHasModel 24 = .ok (.aload_n 0, 1) := by decide +kernel
theorem dX10_partHasModel_25 : decode cX10_partHasModel 25 = .ok (.getfield 64, 3) := by decide +kernel
theorem dX10_partHasModel_28 : decode cX10_partHasModel 28 = .ok (.getfield 161, 3) := by decide +kernel
theorem dX10_partHasModel_31 : decode cX10_partHasModel 31 = .ok (.ifCond .le 7, 3) := by decide +kernel
theorem dX10_partHasModel_34 : decode cX10_partHasModel 34 = .ok (.iconst 1, 1) := by decide +kernel
theorem dX10_partHasModel_35 : decode cX10_partHasModel 35 = .ok (.goto 4, 3) := by decide +kernel
theorem dX10_partHasModel_38 : decode cX10_partHasModel 38 = .ok (.iconst 0, 1) := by decide +kernel
theorem dX10_partHasModel_39 : decode cX10_partHasModel 39 = .ok (.ireturn, 1) := by decide +kernel
theorem dX10_findObstruction_0 : decode cX10_findObstruction 0 = .ok (.aload_n 0, 1) := by decide +kernel
theorem dX10_findObstruction_1 : decode cX10_findObstruction 1 = .ok (.aload_n 0, 1) := by decide +kernel
theorem dX10_findObstruction_2 : decode cX10_findObstruction 2 = .ok (.getfield 129, 3) := by decide +kernel
theorem dX10_findObstruction_5 : decode cX10_findObstruction 5 = .ok (.invokestatic 177, 3) := by decide +kernel
theorem dX10_findObstruction_8 : decode cX10_findObstruction 8 = .ok (.invokevirtual 343, 3) := by decide +kernel
theorem dX10_findObstruction_11 : decode cX10_findObstruction 11 = .ok (.ifCond .eq 5, 3) := by decide +kernel
theorem dX10_findObstruction_14 : decode cX10_findObstruction 14 = .ok (.iconst (-1), 1) := by decide +kernel
theorem dX10_findObstruction_15 : decode cX10_findObstruction 15 = .ok (.ireturn, 1) := by decide +kernel
theorem dX10_findObstruction_16 : decode cX10_findObstruction 16 = .ok (.iconst 1, 1) := by decide +kernel
theorem dX10_findObstruction_17 : decode cX10_findObstruction 17 = .ok (.istore_n 1, 1) := by decide +kernel
theorem dX10_findObstruction_18 : decode cX10_findObstruction 18 = .ok (.iload_n 1, 1) := by decide +kernel
theorem dX10_findObstruction_19 : decode cX10_findObstruction 19 = .ok (.aload_n 0, 1) := by decide +kernel
theorem dX10_findObstruction_20 : decode cX10_findObstruction 20 = .ok (.getfield 129, 3) := by decide +kernel
theorem dX10_findObstruction_23 : decode cX10_findObstruction 23 = .ok (.if_icmp .gt 45, 3) := by decide +kernel
theorem dX10_findObstruction_26 : decode cX10_findObstruction 26 = .ok (.iconst 1, 1) := by decide +kernel
theorem dX10_findObstruction_27 : decode cX10_findObstruction 27 = .ok (.istore_n 2, 1) := by decide +kernel
theorem dX10_findObstruction_28 : decode cX10_findObstruction 28 = .ok (.iload_n 2, 1) := by decide +kernel
theorem dX10_findObstruction_29 : decode cX10_findObstruction 29 = .ok (.iconst 1, 1) := by decide +kernel
theorem dX10_findObstruction_30 : decode cX10_findObstruction 30 = .ok (.aload_n 0, 1) := by decide +kernel
theorem dX10_findObstruction_31 : decode cX10_findObstruction 31 = .ok (.getfield 129, 3) := by decide +kernel
theorem dX10_findObstruction_34 : decode cX10_findObstruction 34 = .ok (.ishl, 1) := by decide +kernel
theorem dX10_findObstruction_35 : decode cX10_findObstruction 35 = .ok (.if_icmp .ge 27, 3) := by decide +kernel
theorem dX10_findObstruction_38 : decode cX10_findObstruction 38 = .ok (.iload_n 2, 1) := by decide +kernel
theorem dX10_findObstruction_39 : decode cX10_findObstruction 39 = .ok (.invokestatic 137, 3) := by decide +kernel
theorem dX10_findObstruction_42 : decode cX10_findObstruction 42 = .ok (.iload_n 1, 1) := by decide +kernel
theorem dX10_findObstruction_43 : decode cX10_findObstruction 43 = .ok (.if_icmp .ne 13, 3) := by decide +kernel
theorem dX10_findObstruction_46 : decode cX10_findObstruction 46 = .ok (.aload_n 0, 1) := by decide +kernel
theorem dX10_findObstruction_47 : decode cX10_findObstruction 47 = .ok (.iload_n 2, 1) := by decide +kernel
theorem dX10_findObstruction_48 : decode cX10_findObstruction 48 = .ok (.invokevirtual 343, 3) := by decide +kernel
theorem dX10_findObstruction_51 : decode cX10_findObstruction 51 = .ok (.ifCond .ne 5, 3) := by decide +kernel
theorem dX10_findObstruction_54 : decode cX10_findObstruction 54 = .ok (.iload_n 2, 1) := by decide +kernel
theorem dX10_findObstruction_55 : decode cX10_findObstruction 55 = .ok (.ireturn, 1) := by decide +kernel
theorem dX10_findObstruction_56 : decode cX10_findObstruction 56 = .ok (.iinc 2 1, 3) := by decide +kernel
theorem dX10_findObstruction_59 : decode cX10_findObstruction 59 = .ok (.goto (-31), 3) := by decide +kernel
theorem dX10_findObstruction_62 : decode cX10_findObstruction 62 = .ok (.iinc 1 1, 3) := by decide +kernel
theorem dX10_findObstruction_65 : decode cX10_findObstruction 65 = .ok (.goto (-47), 3) := by decide +kernel
theorem dX10_findObstruction_68 : decode cX10_findObstruction 68 = .ok (.iconst (-1), 1) := by decide +kernel
theorem dX10_findObstruction_69 : decode cX10_findObstruction 69 = .ok (.ireturn, 1) := by decide +kernel
theorem dX10_ratio_0 : decode cX10_ratio 0 = .ok (.iload_n 1, 1) := by decide +kernel
theorem dX10_ratio_1 : decode cX10_ratio 1 = .ok (.ifCond .ne 8, 3) := by decide +kernel
theorem dX10_ratio_4 : decode cX10_ratio 4 = .ok (.iload_n 2, 1) := by decide +kernel
theorem dX10_ratio_5 : decode cX10_ratio 5 = .ok (.i2f, 1) := by decide +kernel
theorem dX10_ratio_6 : decode cX10_ratio 6 = .ok (.goto 8, 3) := by decide +kernel
theorem dX10_ratio_9 : decode cX10_ratio 9 = .ok (.iload_n 0, 1) := by decide +kernel
theorem dX10_ratio_10 : decode cX10_ratio 10 = .ok (.i2f, 1) := by decide +kernel
theorem dX10_ratio_11 : decode cX10_ratio 11 = .ok (.iload_n 1, 1) := by decide +kernel
theorem dX10_ratio_12 : decode cX10_ratio 12 = .ok (.i2f, 1) := by decide +kernel
theorem dX10_ratio_13 : decode cX10_ratio 13 = .ok (.fdiv, 1) := by decide +kernel
theorem dX10_ratio_14 : decode cX10_ratio 14 = .ok (.freturn, 1) := by decide +kernel
theorem dX10_bitsOf_0 : decode cX10_bitsOf 0 = .ok (.fload_n 0, 1) := by decide +kernel
theorem dX10_bitsOf_1 : decode cX10_bitsOf 1 = .ok (.fconst 0, 1) := by decide +kernel
theorem dX10_bitsOf_2 : decode cX10_bitsOf 2 = .ok (.fcmp .l, 1) := by decide +kernel
theorem dX10_bitsOf_3 : decode cX10_bitsOf 3 = .ok (.ifCond .gt 5, 3) := by decide +kernel
theorem dX10_bitsOf_6 : decode cX10_bitsOf 6 = .ok (.iconst 0, 1) := by decide +kernel
theorem dX10_bitsOf_7 : decode cX10_bitsOf 7 = .ok (.ireturn, 1) := by decide +kernel
theorem dX10_bitsOf_8 : decode cX10_bitsOf 8 = .ok (.fload_n 0, 1) := by decide +kernel
theorem dX10_bitsOf_9 : decode cX10_bitsOf 9 = .ok (.fstore_n 1, 1) := by decide +kernel
theorem dX10_bitsOf_10 : decode cX10_bitsOf 10 = .ok (.bipush 127, 2) := by decide +kernel
theorem dX10_bitsOf_12 : decode cX10_bitsOf 12 = .ok (.istore_n 2, 1) := by decide +kernel
theorem dX10_bitsOf_13 : decode cX10_bitsOf 13 = .ok (.iconst 0, 1) := by decide +kernel
theorem dX10_bitsOf_14 : decode cX10_bitsOf 14 = .ok (.istore_n 3, 1) := by decide +kernel
theorem dX10_bitsOf_15 : decode cX10_bitsOf 15 = .ok (.iload_n 3, 1) := by decide +kernel
theorem dX10_bitsOf_16 : decode cX10_bitsOf 16 = .ok (.bipush 127, 2) := by decide +kernel
theorem dX10_bitsOf_18 : decode cX10_bitsOf 18 = .ok (.if_icmp .ge 22, 3) := by decide +kernel
theorem dX10_bitsOf_21 : decode cX10_bitsOf 21 = .ok (.fload_n 1, 1) := by decide +kernel
theorem dX10_bitsOf_22 : decode cX10_bitsOf 22 = .ok (.fconst 2, 1) := by decide +kernel
theorem dX10_bitsOf_23 : decode cX10_bitsOf 23 = .ok (.fcmp .l, 1) := by decide +kernel
theorem dX10_bitsOf_24 : decode cX10_bitsOf 24 = .ok (.ifCond .lt 16, 3) := by decide +kernel
theorem dX10_bitsOf_27 : decode cX10_bitsOf 27 = .ok (.fload_n 1, 1) := by decide +kernel
theorem dX10_bitsOf_28 : decode cX10_bitsOf 28 = .ok (.fconst 2, 1) := by decide +kernel
theorem dX10_bitsOf_29 : decode cX10_bitsOf 29 = .ok (.fdiv, 1) := by decide +kernel
theorem dX10_bitsOf_30 : decode cX10_bitsOf 30 = .ok (.fstore_n 1, 1) := by decide +kernel
theorem dX10_bitsOf_31 : decode cX10_bitsOf 31 = .ok (.iinc 2 1, 3) := by decide +kernel
theorem dX10_bitsOf_34 : decode cX10_bitsOf 34 = .ok (.iinc 3 1, 3) := by decide +kernel
theorem dX10_bitsOf_37 : decode cX10_bitsOf 37 = .ok (.goto (-22), 3) := by decide +kernel
theorem dX10_bitsOf_40 : decode cX10_bitsOf 40 = .ok (.iconst 0, 1) := by decide +kernel
theorem dX10_bitsOf_41 : decode cX10_bitsOf 41 = .ok (.istore_n 3, 1) := by decide +kernel
theorem dX10_bitsOf_42 : decode cX10_bitsOf 42 = .ok (.iload_n 3, 1) := by decide +kernel
theorem dX10_bitsOf_43 : decode cX10_bitsOf 43 = .ok (.bipush 126, 2) := by decide +kernel
theorem dX10_bitsOf_45 : decode cX10_bitsOf 45 = .ok (.if_icmp .ge 22, 3) := by decide +kernel
theorem dX10_bitsOf_48 : decode cX10_bitsOf 48 = .ok (.fload_n 1, 1) := by decide +kernel
theorem dX10_bitsOf_49 : decode cX10_bitsOf 49 = .ok (.fconst 1, 1) := by decide +kernel
theorem dX10_bitsOf_50 : decode cX10_bitsOf 50 = .ok (.fcmp .g, 1) := by decide +kernel
theorem dX10_bitsOf_51 : decode cX10_bitsOf 51 = .ok (.ifCond .ge 16, 3) := by decide +kernel
theorem dX10_bitsOf_54 : decode cX10_bitsOf 54 = .ok (.fload_n 1, 1) := by decide +kernel
theorem dX10_bitsOf_55 : decode cX10_bitsOf 55 = .ok (.fconst 2, 1) := by decide +kernel
theorem dX10_bitsOf_56 : decode cX10_bitsOf 56 = .ok (.fmul, 1) := by decide +kernel
theorem dX10_bitsOf_57 : decode cX10_bitsOf 57 = .ok (.fstore_n 1, 1) := by decide +kernel
theorem dX10_bitsOf_58 : decode cX10_bitsOf 58 = .ok (.iinc 2 (-1), 3) := by decide +kernel
theorem dX10_bitsOf_61 : decode cX10_bitsOf 61 = .ok (.iinc 3 1, 3) := by decide +kernel
theorem dX10_bitsOf_64 : decode cX10_bitsOf 64 = .ok (.goto (-22), 3) := by decide +kernel
theorem dX10_bitsOf_67 : decode cX10_bitsOf 67 = .ok (.iload_n 2, 1) := by decide +kernel
theorem dX10_bitsOf_68 : decode cX10_bitsOf 68 = .ok (.bipush 23, 2) := by decide +kernel
theorem dX10_bitsOf_70 : decode cX10_bitsOf 70 = .ok (.ishl, 1) := by decide +kernel
theorem dX10_bitsOf_71 : decode cX10_bitsOf 71 = .ok (.fload_n 1, 1) := by decide +kernel
theorem dX10_bitsOf_72 : decode cX10_bitsOf 72 = .ok (.ldc_w 391, 3) := by decide +kernel
theorem dX10_bitsOf_75 : decode cX10_bitsOf 75 = .ok (.fmul, 1) := by decide +kernel
theorem dX10_bitsOf_76 : decode cX10_bitsOf 76 = .ok (.f2i, 1) := by decide +kernel
theorem dX10_bitsOf_77 : decode cX10_bitsOf 77 = .ok (.ldc_w 392, 3) := by decide +kernel
theorem dX10_bitsOf_80 : decode cX10_bitsOf 80 = .ok (.iand, 1) := by decide +kernel
theorem dX10_bitsOf_81 : decode cX10_bitsOf 81 = .ok (.ior, 1) := by decide +kernel
theorem dX10_bitsOf_82 : decode cX10_bitsOf 82 = .ok (.ireturn, 1) := by decide +kernel
theorem dX11_init_0 : decode cX11_init 0 = .ok (.aload_n 0, 1) := by decide +kernel
theorem dX11_init_1 : decode cX11_init 1 = .ok (.invokespecial 1, 3) := by decide +kernel
theorem dX11_init_4 : decode cX11_init 4 = .ok (.aload_n 0, 1) := by decide +kernel
theorem dX11_init_5 : decode cX11_init 5 = .ok (.bipush 8, 2) := by decide +kernel
theorem dX11_init_7 : decode cX11_init 7 = .ok (.newarray .int, 2) := by decide +kernel
theorem dX11_init_9 : decode cX11_init 9 = .ok (.putfield 7, 3) := by decide +kernel
theorem dX11_init_12 : decode cX11_init 12 = .ok (.aload_n 0, 1) := by decide +kernel
theorem dX11_init_13 : decode cX11_init 13 = .ok (.sipush 200, 3) := by decide +kernel
theorem dX11_init_16 : decode cX11_init 16 = .ok (.newarray .byte, 2) := by decide +kernel
theorem dX11_init_18 : decode cX11_init 18 = .ok (.putfield 13, 3) := by decide +kernel
theorem dX11_init_21 : decode cX11_init 21 = .ok (.aload_n 0, 1) := by decide +kernel
theorem dX11_init_22 : decode cX11_init 22 = .ok (.sipush 200, 3) := by decide +kernel
theorem dX11_init_25 : decode cX11_init 25 = .ok (.newarray .byte, 2) := by decide +kernel
theorem dX11_init_27 : decode cX11_init 27 = .ok (.putfield 17, 3) := by decide +kernel
theorem dX11_init_30 : decode cX11_init 30 = .ok (.aload_n 0, 1) := by decide +kernel
theorem dX11_init_31 : decode cX11_init 31 = .ok (.iconst (-1), 1) := by decide +kernel
theorem dX11_init_32 : decode cX11_init 32 = .ok (.putfield 20, 3) := by decide +kernel
theorem dX11_init_35 : decode cX11_init 35 = .ok (.aload_n 0, 1) := by decide +kernel
theorem dX11_init_36 : decode cX11_init 36 = .ok (.iconst (-1), 1) := by decide +kernel
theorem dX11_init_37 : decode cX11_init 37 = .ok (.putfield 24, 3) := by decide +kernel
theorem dX11_init_40 : decode cX11_init 40 = .ok (.aload_n 0, 1) := by decide +kernel
theorem dX11_init_41 : decode cX11_init 41 = .ok (.bipush 26, 2) := by decide +kernel
theorem dX11_init_43 : decode cX11_init 43 = .ok (.newarray .int, 2) := by decide +kernel
theorem dX11_init_45 : decode cX11_init 45 = .ok (.putfield 27, 3) := by decide +kernel
theorem dX11_init_48 : decode cX11_init 48 = .ok (.aload_n 0, 1) := by decide +kernel
theorem dX11_init_49 : decode cX11_init 49 = .ok (.bipush 26, 2) := by decide +kernel
theorem dX11_init_51 : decode cX11_init 51 = .ok (.newarray .int, 2) := by decide +kernel
theorem dX11_init_53 : decode cX11_init 53 = .ok (.putfield 30, 3) := by decide +kernel
theorem dX11_init_56 : decode cX11_init 56 = .ok (.aload_n 0, 1) := by decide +kernel
theorem dX11_init_57 : decode cX11_init 57 = .ok (.bipush 26, 2) := by decide +kernel
theorem dX11_init_59 : decode cX11_init 59 = .ok (.newarray .int, 2) := by decide +kernel
theorem dX11_init_61 : decode cX11_init 61 = .ok (.putfield 33, 3) := by decide +kernel
theorem dX11_init_64 : decode cX11_init 64 = .ok (.aload_n 0, 1) := by decide +kernel
theorem dX11_init_65 : decode cX11_init 65 = .ok (.bipush 96, 2) := by decide +kernel
theorem dX11_init_67 : decode cX11_init 67 = .ok (.newarray .int, 2) := by decide +kernel
theorem dX11_init_69 : decode cX11_init 69 = .ok (.putfield 36, 3) := by decide +kernel
theorem dX11_init_72 : decode cX11_init 72 = .ok (.aload_n 0, 1) := by decide +kernel
theorem dX11_init_73 : decode cX11_init 73 = .ok (.bipush 8, 2) := by decide +kernel
theorem dX11_init_75 : decode cX11_init 75 = .ok (.newarray .int, 2) := by decide +kernel
theorem dX11_init_77 : decode cX11_init 77 = .ok (.putfield 39, 3) := by decide +kernel
theorem dX11_init_80 : decode cX11_init 80 = .ok (.aload_n 0, 1) := by decide +kernel
theorem dX11_init_81 : decode cX11_init 81 = .ok (.bipush 24, 2) := by decide +kernel
theorem dX11_init_83 : decode cX11_init 83 = .ok (.newarray .int, 2) := by decide +kernel
theorem dX11_init_85 : decode cX11_init 85 = .ok (.putfield 42, 3) := by decide +kernel
theorem dX11_init_88 : decode cX11_init 88 = .ok (.aload_n 0, 1) := by decide +kernel
theorem dX11_init_89 : decode cX11_init 89 = .ok (.iconst 3, 1) := by decide +kernel
theorem dX11_init_90 : decode cX11_init 90 = .ok (.newarray .boolean, 2) := by decide +kernel
theorem dX11_init_92 : decode cX11_init 92 = .ok (.putfield 45, 3) := by decide +kernel
theorem dX11_init_95 : decode cX11_init 95 = .ok (.aload_n 0, 1) := by decide +kernel
theorem dX11_init_96 : decode cX11_init 96 = .ok (.bipush 8, 2) := by decide +kernel
theorem dX11_init_98 : decode cX11_init 98 = .ok (.newarray .int, 2) := by decide +kernel
theorem dX11_init_100 : decode cX11_init 100 = .ok (.putfield 49, 3) := by decide +kernel
theorem dX11_init_103 : decode cX11_init 103 = .ok (.aload_n 0, 1) := by decide +kernel
theorem dX11_init_104 : decode cX11_init 104 = .ok (.bipush 8, 2) := by decide +kernel
theorem dX11_init_106 : decode cX11_init 106 = .ok (.newarray .int, 2) := by decide +kernel
theorem dX11_init_108 : decode cX11_init 108 = .ok (.putfield 52, 3) := by decide +kernel
theorem dX11_init_111 : decode cX11_init 111 = .ok (.aload_n 0, 1) := by decide +kernel
theorem dX11_init_112 : decode cX11_init 112 = .ok (.bipush 64, 2) := by decide +kernel
theorem dX11_init_114 : decode cX11_init 114 = .ok (.newarray .int, 2) := by decide +kernel
theorem dX11_init_116 : decode cX11_init 116 = .ok (.putfield 55, 3) := by decide +kernel
theorem dX11_init_119 : decode cX11_init 119 = .ok (.aload_n 0, 1) := by decide +kernel
theorem dX11_init_120 : decode cX11_init 120 = .ok (.bipush 64, 2) := by decide +kernel
theorem dX11_init_122 : decode cX11_init 122 = .ok (.newarray .int, 2) := by decide +kernel
theorem dX11_init_124 : decode cX11_init 124 = .ok (.putfield 58, 3) := by decide +kernel
theorem dX11_init_127 : decode cX11_init 127 = .ok (.aload_n 0, 1) := by decide +kernel
theorem dX11_init_128 : decode cX11_init 128 = .ok (.bipush 8, 2) := by decide +kernel
theorem dX11_init_130 : decode cX11_init 130 = .ok (.newarray .int, 2) := by decide +kernel
theorem dX11_init_132 : decode cX11_init 132 = .ok (.putfield 61, 3) := by decide +kernel
theorem dX11_init_135 : decode cX11_init 135 = .ok (.aload_n 0, 1) := by decide +kernel
theorem dX11_init_136 : decode cX11_init 136 = .ok (.bipush 8, 2) := by decide +kernel
theorem dX11_init_138 : decode cX11_init 138 = .ok (.newarray .int, 2) := by decide +kernel
theorem dX11_init_140 : decode cX11_init 140 = .ok (.putfield 64, 3) := by decide +kernel
theorem dX11_init_143 : decode cX11_init 143 = .ok (.aload_n 0, 1) := by decide +kernel
theorem dX11_init_144 : decode cX11_init 144 = .ok (.bipush 8, 2) := by decide +kernel
theorem dX11_init_146 : decode cX11_init 146 = .ok (.newarray .int, 2) := by decide +kernel
theorem dX11_init_148 : decode cX11_init 148 = .ok (.putfield 67, 3) := by decide +kernel
theorem dX11_init_151 : decode cX11_init 151 = .ok (.aload_n 0, 1) := by decide +kernel
theorem dX11_init_152 : decode cX11_init 152 = .ok (.bipush 14, 2) := by decide +kernel
theorem dX11_init_154 : decode cX11_init 154 = .ok (.newarray .int, 2) := by decide +kernel
theorem dX11_init_156 : decode cX11_init 156 = .ok (.putfield 70, 3) := by decide +kernel
theorem dX11_init_159 : decode cX11_init 159 = .ok (.aload_n 0, 1) := by decide +kernel
theorem dX11_init_160 : decode cX11_init 160 = .ok (.bipush 8, 2) := by decide +kernel
theorem dX11_init_162 : decode cX11_init 162 = .ok (.newarray .int, 2) := by decide +kernel
theorem dX11_init_164 : decode cX11_init 164 = .ok (.putfield 73, 3) := by decide +kernel
theorem dX11_init_167 : decode cX11_init 167 = .ok (.aload_n 0, 1) := by decide +kernel
theorem dX11_init_168 : decode cX11_init 168 = .ok (.bipush 8, 2) := by decide +kernel
theorem dX11_init_170 : decode cX11_init 170 = .ok (.newarray .int, 2) := by decide +kernel
theorem dX11_init_172 : decode cX11_init 172 = .ok (.putfield 76, 3) := by decide +kernel
theorem dX11_init_175 : decode cX11_init 175 = .ok (.aload_n 0, 1) := by decide +kernel
theorem dX11_init_176 : decode cX11_init 176 = .ok (.bipush 14, 2) := by decide +kernel
theorem dX11_init_178 : decode cX11_init 178 = .ok (.newarray .int, 2) := by decide +kernel
theorem dX11_init_180 : decode cX11_init 180 = .ok (.putfield 79, 3) := by decide +kernel
theorem dX11_init_183 : decode cX11_init 183 = .ok (.aload_n 0, 1) := by decide +kernel
theorem dX11_init_184 : decode cX11_init 184 = .ok (.bipush 14, 2) := by decide +kernel
theorem dX11_init_186 : decode cX11_init 186 = .ok (.newarray .int, 2) := by decide +kernel
theorem dX11_init_188 : decode cX11_init 188 = .ok (.putfield 82, 3) := by decide +kernel
theorem dX11_init_191 : decode cX11_init 191 = .ok (.aload_n 0, 1) := by decide +kernel
theorem dX11_init_192 : decode cX11_init 192 = .ok (.bipush 8, 2) := by decide +kernel
theorem dX11_init_194 : decode cX11_init 194 = .ok (.newarray .int, 2) := by decide +kernel
theorem dX11_init_196 : decode cX11_init 196 = .ok (.putfield 85, 3) := by decide +kernel
theorem dX11_init_199 : decode cX11_init 199 = .ok (.aload_n 0, 1) := by decide +kernel
theorem dX11_init_200 : decode cX11_init 200 = .ok (.sipush 2187, 3) := by decide +kernel
theorem dX11_init_203 : decode cX11_init 203 = .ok (.newarray .int, 2) := by decide +kernel
theorem dX11_init_205 : decode cX11_init 205 = .ok (.putfield 88, 3) := by decide +kernel
theorem dX11_init_208 : decode cX11_init 208 = .ok (.aload_n 0, 1) := by decide +kernel
theorem dX11_init_209 : decode cX11_init 209 = .ok (.sipush 2187, 3) := by decide +kernel
theorem dX11_init_212 : decode cX11_init 212 = .ok (.newarray .int, 2) := by decide +kernel
theorem dX11_init_214 : decode cX11_init 214 = .ok (.putfield 91, 3) := by decide +kernel
theorem dX11_init_217 : decode cX11_init 217 = .ok (.return_, 1) := by decide +kernel
theorem dX11_status_0 : decode cX11_status 0 = .ok (.aload_n 0, 1) := by decide +kernel
theorem dX11_status_1 : decode cX11_status 1 = .ok (.getfield 94, 3) := by decide +kernel
theorem dX11_status_4 : decode cX11_status 4 = .ok (.ireturn, 1) := by decide +kernel
theorem dX11_refuse_0 : decode cX11_refuse 0 = .ok (.aload_n 0, 1) := by decide +kernel
theorem dX11_refuse_1 : decode cX11_refuse 1 = .ok (.iload_n 1, 1) := by decide +kernel
theorem dX11_refuse_2 : decode cX11_refuse 2 = .ok (.putfield 94, 3) := by decide +kernel
theorem dX11_refuse_5 : decode cX11_refuse 5 = .ok (.iconst (-1), 1) := by decide +kernel
theorem dX11_refuse_6 : decode cX11_refuse 6 = .ok (.ireturn, 1) := by decide +kernel
theorem dX11_isSo_0 : decode cX11_isSo 0 = .ok (.aload_n 0, 1) := by decide +kernel
theorem dX11_isSo_1 : decode cX11_isSo 1 = .ok (.iload_n 1, 1) := by decide +kernel
theorem dX11_isSo_2 : decode cX11_isSo 2 = .ok (.putfield 94, 3) := by decide +kernel
theorem dX11_isSo_5 : decode cX11_isSo 5 = .ok (.iload_n 1, 1) := by decide +kernel
theorem dX11_isSo_6 : decode cX11_isSo 6 = .ok (.ifCond .ne 7, 3) := by decide +kernel
theorem dX11_isSo_9 : decode cX11_isSo 9 = .ok (.iconst 1, 1) := by decide +kernel
theorem dX11_isSo_10 : decode cX11_isSo 10 = .ok (.goto 4, 3) := by decide +kernel
theorem dX11_isSo_13 : decode cX11_isSo 13 = .ok (.iconst 0, 1) := by decide +kernel
theorem dX11_isSo_14 : decode cX11_isSo 14 = .ok (.ireturn, 1) := by decide +kernel
theorem dX11_gives_0 : decode cX11_gives 0 = .ok (.aload_n 0, 1) := by decide +kernel
theorem dX11_gives_1 : decode cX11_gives 1 = .ok (.iconst 0, 1) := by decide +kernel
theorem dX11_gives_2 : decode cX11_gives 2 = .ok (.putfield 94, 3) := by decide +kernel
theorem dX11_gives_5 : decode cX11_gives 5 = .ok (.iload_n 1, 1) := by decide +kernel
theorem dX11_gives_6 : decode cX11_gives 6 = .ok (.ireturn, 1) := by decide +kernel
theorem dX11_isFrom_0 : decode cX11_isFrom 0 = .ok (.iload_n 0, 1) := by decide +kernel
theorem dX11_isFrom_1 : decode cX11_isFrom 1 = .ok (.iload_n 1, 1) := by decide +kernel
theorem dX11_isFrom_2 : decode cX11_isFrom 2 = .ok (.if_icmp .lt 12, 3) := by decide +kernel
theorem dX11_isFrom_5 : decode cX11_isFrom 5 = .ok (.iload_n 0, 1) := by decide +kernel
theorem dX11_isFrom_6 : decode cX11_isFrom 6 = .ok (.iload_n 2, 1) := by decide +kernel
theorem dX11_isFrom_7 : decode cX11_isFrom 7 = .ok (.if_icmp .gt 7, 3) := by decide +kernel
theorem dX11_isFrom_10 : decode cX11_isFrom 10 = .ok (.iconst 1, 1) := by decide +kernel
theorem dX11_isFrom_11 : decode cX11_isFrom 11 = .ok (.goto 4, 3) := by decide +kernel
theorem dX11_isFrom_14 : decode cX11_isFrom 14 = .ok (.iconst 0, 1) := by decide +kernel
theorem dX11_isFrom_15 : decode cX11_isFrom 15 = .ok (.ireturn, 1) := by decide +kernel
theorem dX11_has_0 : decode cX11_has 0 = .ok (.iload_n 0, 1) := by decide +kernel
theorem dX11_has_1 : decode cX11_has 1 = .ok (.iload_n 1, 1) := by decide +kernel
theorem dX11_has_2 : decode cX11_has 2 = .ok (.ishr, 1) := by decide +kernel
theorem dX11_has_3 : decode cX11_has 3 = .ok (.iconst 1, 1) := by decide +kernel
theorem dX11_has_4 : decode cX11_has 4 = .ok (.iand, 1) := by decide +kernel
theorem dX11_has_5 : decode cX11_has 5 = .ok (.iconst 1, 1) := by decide +kernel
theorem dX11_has_6 : decode cX11_has 6 = .ok (.if_icmp .ne 7, 3) := by decide +kernel
theorem dX11_has_9 : decode cX11_has 9 = .ok (.iconst 1, 1) := by decide +kernel
theorem dX11_has_10 : decode cX11_has 10 = .ok (.goto 4, 3) := by decide +kernel
theorem dX11_has_13 : decode cX11_has 13 = .ok (.iconst 0, 1) := by decide +kernel
theorem dX11_has_14 : decode cX11_has 14 = .ok (.ireturn, 1) := by decide +kernel
theorem dX11_bits_0 : decode cX11_bits 0 = .ok (.iconst 0, 1) := by decide +kernel
theorem dX11_bits_1 : decode cX11_bits 1 = .ok (.istore_n 1, 1) := by decide +kernel
theorem dX11_bits_2 : decode cX11_bits 2 = .ok (.iload_n 0, 1) := by decide +kernel
theorem dX11_bits_3 : decode cX11_bits 3 = .ok (.istore_n 2, 1) := by decide +kernel
theorem dX11_bits_4 : decode cX11_bits 4 = .ok (.iload_n 2, 1) := by decide +kernel
theorem dX11_bits_5 : decode cX11_bits 5 = .ok (.ifCond .eq 15, 3) := by decide +kernel
theorem dX11_bits_8 : decode cX11_bits 8 = .ok (.iinc 1 1, 3) := by decide +kernel
theorem dX11_bits_11 : decode cX11_bits 11 = .ok (.iload_n 2, 1) := by decide +kernel
theorem dX11_bits_12 : decode cX11_bits 12 = .ok (.iload_n 2, 1) := by decide +kernel
theorem dX11_bits_13 : decode cX11_bits 13 = .ok (.iconst 1, 1) := by decide +kernel
theorem dX11_bits_14 : decode cX11_bits 14 = .ok (.isub, 1) := by decide +kernel
theorem dX11_bits_15 : decode cX11_bits 15 = .ok (.iand, 1) := by decide +kernel
theorem dX11_bits_16 : decode cX11_bits 16 = .ok (.istore_n 2, 1) := by decide +kernel
theorem dX11_bits_17 : decode cX11_bits 17 = .ok (.goto (-13), 3) := by decide +kernel
theorem dX11_bits_20 : decode cX11_bits 20 = .ok (.iload_n 1, 1) := by decide +kernel
theorem dX11_bits_21 : decode cX11_bits 21 = .ok (.ireturn, 1) := by decide +kernel
theorem dX11_lowest_0 : decode cX11_lowest 0 = .ok (.iconst 0, 1) := by decide +kernel
theorem dX11_lowest_1 : decode cX11_lowest 1 = .ok (.istore_n 1, 1) := by decide +kernel
theorem dX11_lowest_2 : decode cX11_lowest 2 = .ok (.iload_n 0, 1) := by decide +kernel
theorem dX11_lowest_3 : decode cX11_lowest 3 = .ok (.iload_n 1, 1) := by decide +kernel
theorem dX11_lowest_4 : decode cX11_lowest 4 = .ok (.invokestatic 97, 3) := by decide +kernel
theorem dX11_lowest_7 : decode cX11_lowest 7 = .ok (.ifCond .ne 9, 3) := by decide +kernel
theorem dX11_lowest_10 : decode cX11_lowest 10 = .ok (.iinc 1 1, 3) := by decide +kernel
theorem dX11_lowest_13 : decode cX11_lowest 13 = .ok (.goto (-11), 3) := by decide +kernel
theorem dX11_lowest_16 : decode cX11_lowest 16 = .ok (.iload_n 1, 1) := by decide +kernel
theorem dX11_lowest_17 : decode cX11_lowest 17 = .ok (.ireturn, 1) := by decide +kernel
theorem dX11_all_0 : decode cX11_all 0 = .ok (.iconst 1, 1) := by decide +kernel
theorem dX11_all_1 : decode cX11_all 1 = .ok (.aload_n 0, 1) := by decide +kernel
theorem dX11_all_2 : decode cX11_all 2 = .ok (.getfield 101, 3) := by decide +kernel
theorem dX11_all_5 : decode cX11_all 5 = .ok (.ishl, 1) := by decide +kernel
theorem dX11_all_6 : decode cX11_all 6 = .ok (.iconst 1, 1) := by decide +kernel
theorem dX11_all_7 : decode cX11_all 7 = .ok (.isub, 1) := by decide +kernel
theorem dX11_all_8 : decode cX11_all 8 = .ok (.ireturn, 1) := by decide +kernel
theorem dX11_isPoint_0 : decode cX11_isPoint 0 = .ok (.iload_n 1, 1) := by decide +kernel
theorem dX11_isPoint_1 : decode cX11_isPoint 1 = .ok (.ifCond .lt 15, 3) := by decide +kernel
theorem dX11_isPoint_4 : decode cX11_isPoint 4 = .ok (.iload_n 1, 1) := by decide +kernel
theorem dX11_isPoint_5 : decode cX11_isPoint 5 = .ok (.aload_n 0, 1) := by decide +kernel
theorem dX11_isPoint_6 : decode cX11_isPoint 6 = .ok (.getfield 101, 3) := by decide +kernel
theorem dX11_isPoint_9 : decode cX11_isPoint 9 = .ok (.if_icmp .ge 7, 3) := by decide +kernel
theorem dX11_isPoint_12 : decode cX11_isPoint 12 = .ok (.iconst 1, 1) := by decide +kernel
theorem dX11_isPoint_13 : decode cX11_isPoint 13 = .ok (.goto 4, 3) := by decide +kernel
theorem dX11_isPoint_16 : decode cX11_isPoint 16 = .ok (.iconst 0, 1) := by decide +kernel
theorem dX11_isPoint_17 : decode cX11_isPoint 17 = .ok (.ireturn, 1) := by decide +kernel
theorem dX11_isSet_0 : decode cX11_isSet 0 = .ok (.iload_n 1, 1) := by decide +kernel
theorem dX11_isSet_1 : decode cX11_isSet 1 = .ok (.ifCond .lt 18, 3) := by decide +kernel
theorem dX11_isSet_4 : decode cX11_isSet 4 = .ok (.iload_n 1, 1) := by decide +kernel
theorem dX11_isSet_5 : decode cX11_isSet 5 = .ok (.aload_n 0, 1) := by decide +kernel
theorem dX11_isSet_6 : decode cX11_isSet 6 = .ok (.invokevirtual 104, 3) := by decide +kernel
theorem dX11_isSet_9 : decode cX11_isSet 9 = .ok (.iconst (-1), 1) := by decide +kernel
theorem dX11_isSet_10 : decode cX11_isSet 10 = .ok (.ixor, 1) := by decide +kernel
theorem dX11_isSet_11 : decode cX11_isSet 11 = .ok (.iand, 1) := by decide +kernel
theorem dX11_isSet_12 : decode cX11_isSet 12 = .ok (.ifCond .ne 7, 3) := by decide +kernel
theorem dX11_isSet_15 : decode cX11_isSet 15 = .ok (.iconst 1, 1) := by decide +kernel
theorem dX11_isSet_16 : decode cX11_isSet 16 = .ok (.goto 4, 3) := by decide +kernel
theorem dX11_isSet_19 : decode cX11_isSet 19 = .ok (.iconst 0, 1) := by decide +kernel
theorem dX11_isSet_20 : decode cX11_isSet 20 = .ok (.ireturn, 1) := by decide +kernel
theorem dX11_flips_0 : decode cX11_flips 0 = .ok (.aload_n 0, 1) := by decide +kernel
theorem dX11_flips_1 : decode cX11_flips 1 = .ok (.getfield 7, 3) := by decide +kernel
theorem dX11_flips_4 : decode cX11_flips 4 = .ok (.iload_n 1, 1) := by decide +kernel
theorem dX11_flips_5 : decode cX11_flips 5 = .ok (.dup2, 1) := by decide +kernel
theorem dX11_flips_6 : decode cX11_flips 6 = .ok (.iaload, 1) := by decide +kernel
theorem dX11_flips_7 : decode cX11_flips 7 = .ok (.iconst 1, 1) := by decide +kernel
theorem dX11_flips_8 : decode cX11_flips 8 = .ok (.iload_n 2, 1) := by decide +kernel
theorem dX11_flips_9 : decode cX11_flips 9 = .ok (.ishl, 1) := by decide +kernel
theorem dX11_flips_10 : decode cX11_flips 10 = .ok (.ixor, 1) := by decide +kernel
theorem dX11_flips_11 : decode cX11_flips 11 = .ok (.iastore, 1) := by decide +kernel
theorem dX11_flips_12 : decode cX11_flips 12 = .ok (.aload_n 0, 1) := by decide +kernel
theorem dX11_flips_13 : decode cX11_flips 13 = .ok (.getfield 7, 3) := by decide +kernel
theorem dX11_flips_16 : decode cX11_flips 16 = .ok (.iload_n 2, 1) := by decide +kernel
theorem dX11_flips_17 : decode cX11_flips 17 = .ok (.dup2, 1) := by decide +kernel
theorem dX11_flips_18 : decode cX11_flips 18 = .ok (.iaload, 1) := by decide +kernel
theorem dX11_flips_19 : decode cX11_flips 19 = .ok (.iconst 1, 1) := by decide +kernel
theorem dX11_flips_20 : decode cX11_flips 20 = .ok (.iload_n 1, 1) := by decide +kernel
theorem dX11_flips_21 : decode cX11_flips 21 = .ok (.ishl, 1) := by decide +kernel
theorem dX11_flips_22 : decode cX11_flips 22 = .ok (.ixor, 1) := by decide +kernel
theorem dX11_flips_23 : decode cX11_flips 23 = .ok (.iastore, 1) := by decide +kernel
theorem dX11_flips_24 : decode cX11_flips 24 = .ok (.return_, 1) := by decide +kernel
theorem dX11_turns0_0 : decode cX11_turns0 0 = .ok (.iconst 0, 1) := by decide +kernel
theorem dX11_turns0_1 : decode cX11_turns0 1 = .ok (.istore_n 2, 1) := by decide +kernel
theorem dX11_turns0_2 : decode cX11_turns0 2 = .ok (.iload_n 2, 1) := by decide +kernel
theorem dX11_turns0_3 : decode cX11_turns0 3 = .ok (.aload_n 0, 1) := by decide +kernel
theorem dX11_turns0_4 : decode cX11_turns0 4 = .ok (.getfield 101, 3) := by decide +kernel
theorem dX11_turns0_7 : decode cX11_turns0 7 = .ok (.if_icmp .ge 59, 3) := by decide +kernel
theorem dX11_turns0_10 : decode cX11_turns0 10 = .ok (.iload_n 2, 1) := by decide +kernel
theorem dX11_turns0_11 : decode cX11_turns0 11 = .ok (.iconst 1, 1) := by decide +kernel
theorem dX11_turns0_12 : decode cX11_turns0 12 = .ok (.iadd, 1) := by decide +kernel
theorem dX11_turns0_13 : decode cX11_turns0 13 = .ok (.istore_n 3, 1) := by decide +kernel
theorem dX11_turns0_14 : decode cX11_turns0 14 = .ok (.iload_n 3, 1) := by decide +kernel
theorem dX11_turns0_15 : decode cX11_turns0 15 = .ok (.aload_n 0, 1) := by decide +kernel
theorem dX11_turns0_16 : decode cX11_turns0 16 = .ok (.getfield 101, 3) := by decide +kernel
theorem dX11_turns0_19 : decode cX11_turns0 19 = .ok (.if_icmp .ge 41, 3) := by decide +kernel
theorem dX11_turns0_22 : decode cX11_turns0 22 = .ok (.aload_n 0, 1) := by decide +kernel
theorem dX11_turns0_23 : decode cX11_turns0 23 = .ok (.getfield 7, 3) := by decide +kernel
theorem dX11_turns0_26 : decode cX11_turns0 26 = .ok (.iload_n 1, 1) := by decide +kernel
theorem dX11_turns0_27 : decode cX11_turns0 27 = .ok (.iaload, 1) := by decide +kernel
theorem dX11_turns0_28 : decode cX11_turns0 28 = .ok (.iload_n 2, 1) := by decide +kernel
theorem dX11_turns0_29 : decode cX11_turns0 29 = .ok (.invokestatic 97, 3) := by decide +kernel
theorem dX11_turns0_32 : decode cX11_turns0 32 = .ok (.ifCond .eq 22, 3) := by decide +kernel
theorem dX11_turns0_35 : decode cX11_turns0 35 = .ok (.aload_n 0, 1) := by decide +kernel
theorem dX11_turns0_36 : decode cX11_turns0 36 = .ok (.getfield 7, 3) := by decide +kernel
theorem dX11_turns0_39 : decode cX11_turns0 39 = .ok (.iload_n 1, 1) := by decide +kernel
theorem dX11_turns0_40 : decode cX11_turns0 40 = .ok (.iaload, 1) := by decide +kernel
theorem dX11_turns0_41 : decode cX11_turns0 41 = .ok (.iload_n 3, 1) := by decide +kernel
theorem dX11_turns0_42 : decode cX11_turns0 42 = .ok (.invokestatic 97, 3) := by decide +kernel
theorem dX11_turns0_45 : decode cX11_turns0 45 = .ok (.ifCond .eq 9, 3) := by decide +kernel
theorem dX11_turns0_48 : decode cX11_turns0 48 = .ok (.aload_n 0, 1) := by decide +kernel
theorem dX11_turns0_49 : decode cX11_turns0 49 = .ok (.iload_n 2, 1) := by decide +kernel
theorem dX11_turns0_50 : decode cX11_turns0 50 = .ok (.iload_n 3, 1) := by decide +kernel
theorem dX11_turns0_51 : decode cX11_turns0 51 = .ok (.invokevirtual 108, 3) := by decide +kernel
theorem dX11_turns0_54 : decode cX11_turns0 54 = .ok (.iinc 3 1, 3) := by decide +kernel
theorem dX11_turns0_57 : decode cX11_turns0 57 = .ok (.goto (-43), 3) := by decide +kernel
theorem dX11_turns0_60 : decode cX11_turns0 60 = .ok (.iinc 2 1, 3) := by decide +kernel
theorem dX11_turns0_63 : decode cX11_turns0 63 = .ok (.goto (-61), 3) := by decide +kernel
theorem dX11_turns0_66 : decode cX11_turns0 66 = .ok (.return_, 1) := by decide +kernel
theorem dX11_swings_0 : decode cX11_swings 0 = .ok (.iload_n 1, 1) := by decide +kernel
theorem dX11_swings_1 : decode cX11_swings 1 = .ok (.iload_n 2, 1) := by decide +kernel
theorem dX11_swings_2 : decode cX11_swings 2 = .ok (.invokestatic 112, 3) := by decide +kernel
theorem dX11_swings_5 : decode cX11_swings 5 = .ok (.istore_n 3, 1) := by decide +kernel
theorem dX11_swings_6 : decode cX11_swings 6 = .ok (.aload_n 0, 1) := by decide +kernel
theorem dX11_swings_7 : decode cX11_swings 7 = .ok (.iload_n 3, 1) := by decide +kernel
theorem dX11_swings_8 : decode cX11_swings 8 = .ok (.invokevirtual 118, 3) := by decide +kernel
theorem dX11_swings_11 : decode cX11_swings 11 = .ok (.aload_n 0, 1) := by decide +kernel
theorem dX11_swings_12 : decode cX11_swings 12 = .ok (.iload_n 1, 1) := by decide +kernel
theorem dX11_swings_13 : decode cX11_swings 13 = .ok (.iload_n 2, 1) := by decide +kernel
theorem dX11_swings_14 : decode cX11_swings 14 = .ok (.iadd, 1) := by decide +kernel
theorem dX11_swings_15 : decode cX11_swings 15 = .ok (.iload_n 3, 1) := by decide +kernel
theorem dX11_swings_16 : decode cX11_swings 16 = .ok (.isub, 1) := by decide +kernel
theorem dX11_swings_17 : decode cX11_swings 17 = .ok (.invokevirtual 118, 3) := by decide +kernel
theorem dX11_swings_20 : decode cX11_swings 20 = .ok (.aload_n 0, 1) := by decide +kernel
theorem dX11_swings_21 : decode cX11_swings 21 = .ok (.iload_n 3, 1) := by decide +kernel
theorem dX11_swings_22 : decode cX11_swings 22 = .ok (.invokevirtual 118, 3) := by decide +kernel
theorem dX11_swings_25 : decode cX11_swings 25 = .ok (.return_, 1) := by decide +kernel
theorem dX11_lines_0 : decode cX11_lines 0 = .ok (.iconst 0, 1) := by decide +kernel
theorem dX11_lines_1 : decode cX11_lines 1 = .ok (.istore_n 1, 1) := by decide +kernel
theorem dX11_lines_2 : decode cX11_lines 2 = .ok (.iconst 0, 1) := by decide +kernel
theorem dX11_lines_3 : decode cX11_lines 3 = .ok (.istore_n 2, 1) := by decide +kernel
theorem dX11_lines_4 : decode cX11_lines 4 = .ok (.iload_n 2, 1) := by decide +kernel
theorem dX11_lines_5 : decode cX11_lines 5 = .ok (.aload_n 0, 1) := by decide +kernel
theorem dX11_lines_6 : decode cX11_lines 6 = .ok (.getfield 101, 3) := by decide +kernel
theorem dX11_lines_9 : decode cX11_lines 9 = .ok (.if_icmp .ge 21, 3) := by decide +kernel
theorem dX11_lines_12 : decode cX11_lines 12 = .ok (.iload_n 1, 1) := by decide +kernel
theorem dX11_lines_13 : decode cX11_lines 13 = .ok (.aload_n 0, 1) := by decide +kernel
theorem dX11_lines_14 : decode cX11_lines 14 = .ok (.getfield 7, 3) := by decide +kernel
theorem dX11_lines_17 : decode cX11_lines 17 = .ok (.iload_n 2, 1) := by decide +kernel
theorem dX11_lines_18 : decode cX11_lines 18 = .ok (.iaload, 1) := by decide +kernel
theorem dX11_lines_19 : decode cX11_lines 19 = .ok (.invokestatic 122, 3) := by decide +kernel
theorem dX11_lines_22 : decode cX11_lines 22 = .ok (.iadd, 1) := by decide +kernel
theorem dX11_lines_23 : decode cX11_lines 23 = .ok (.istore_n 1, 1) := by decide +kernel
theorem dX11_lines_24 : decode cX11_lines 24 = .ok (.iinc 2 1, 3) := by decide +kernel
theorem dX11_lines_27 : decode cX11_lines 27 = .ok (.goto (-23), 3) := by decide +kernel
theorem dX11_lines_30 : decode cX11_lines 30 = .ok (.iload_n 1, 1) := by decide +kernel
theorem dX11_lines_31 : decode cX11_lines 31 = .ok (.iconst 2, 1) := by decide +kernel
theorem dX11_lines_32 : decode cX11_lines 32 = .ok (.idiv, 1) := by decide +kernel
theorem dX11_lines_33 : decode cX11_lines 33 = .ok (.ireturn, 1) := by decide +kernel
theorem dX11_joined_0 : decode cX11_joined 0 = .ok (.iconst 1, 1) := by decide +kernel
theorem dX11_joined_1 : decode cX11_joined 1 = .ok (.iload_n 1, 1) := by decide +kernel
theorem dX11_joined_2 : decode cX11_joined 2 = .ok (.ishl, 1) := by decide +kernel
theorem dX11_joined_3 : decode cX11_joined 3 = .ok (.istore_n 2, 1) := by decide +kernel
theorem dX11_joined_4 : decode cX11_joined 4 = .ok (.iconst 0, 1) := by decide +kernel
theorem dX11_joined_5 : decode cX11_joined 5 = .ok (.istore_n 3, 1) := by decide +kernel
theorem dX11_joined_6 : decode cX11_joined 6 = .ok (.iload_n 3, 1) := by decide +kernel
theorem dX11_joined_7 : decode cX11_joined 7 = .ok (.iload_n 2, 1) := by decide +kernel
theorem dX11_joined_8 : decode cX11_joined 8 = .ok (.if_icmp .eq 49, 3) := by decide +kernel
theorem dX11_joined_11 : decode cX11_joined 11 = .ok (.iload_n 2, 1) := by decide +kernel
theorem dX11_joined_12 : decode cX11_joined 12 = .ok (.istore_n 3, 1) := by decide +kernel
theorem dX11_joined_13 : decode cX11_joined 13 = .ok (.iconst 0, 1) := by decide +kernel
theorem dX11_joined_14 : decode cX11_joined 14 = .ok (.istore 4, 2) := by decide +kernel
theorem dX11_joined_16 : decode cX11_joined 16 = .ok (.iload 4, 2) := by decide +kernel
theorem dX11_joined_18 : decode cX11_joined 18 = .ok (.aload_n 0, 1) := by decide +kernel
theorem dX11_joined_19 : decode cX11_joined 19 = .ok (.getfield 101, 3) := by decide +kernel
theorem dX11_joined_22 : decode cX11_joined 22 = .ok (.if_icmp .ge 32, 3) := by decide +kernel
theorem dX11_joined_25 : decode cX11_joined 25 = .ok (.iload_n 2, 1) := by decide +kernel
theorem dX11_joined_26 : decode cX11_joined 26 = .ok (.iload_n 3, 1) := by decide +kernel
theorem dX11_joined_27 : decode cX11_joined 27 = .ok (.iload 4, 2) := by decide +kernel
theorem dX11_joined_29 : decode cX11_joined 29 = .ok (.invokestatic 97, 3) := by decide +kernel
theorem dX11_joined_32 : decode cX11_joined 32 = .ok (.ifCond .eq 13, 3) := by decide +kernel
theorem dX11_joined_35 : decode cX11_joined 35 = .ok (.aload_n 0, 1) := by decide +kernel
theorem dX11_joined_36 : decode cX11_joined 36 = .ok (.getfield 7, 3) := by decide +kernel
theorem dX11_joined_39 : decode cX11_joined 39 = .ok (.iload 4, 2) := by decide +kernel
theorem dX11_joined_41 : decode cX11_joined 41 = .ok (.iaload, 1) := by decide +kernel
theorem dX11_joined_42 : decode cX11_joined 42 = .ok (.goto 4, 3) := by decide +kernel
theorem dX11_joined_45 : decode cX11_joined 45 = .ok (.iconst 0, 1) := by decide +kernel
theorem dX11_joined_46 : decode cX11_joined 46 = .ok (.ior, 1) := by decide +kernel
theorem dX11_joined_47 : decode cX11_joined 47 = .ok (.istore_n 2, 1) := by decide +kernel
theorem dX11_joined_48 : decode cX11_joined 48 = .ok (.iinc 4 1, 3) := by decide +kernel
theorem dX11_joined_51 : decode cX11_joined 51 = .ok (.goto (-35), 3) := by decide +kernel
theorem dX11_joined_54 : decode cX11_joined 54 = .ok (.goto (-48), 3) := by decide +kernel
theorem dX11_joined_57 : decode cX11_joined 57 = .ok (.iload_n 2, 1) := by decide +kernel
theorem dX11_joined_58 : decode cX11_joined 58 = .ok (.ireturn, 1) := by decide +kernel
theorem dX11_sets_0 : decode cX11_sets 0 = .ok (.iconst 0, 1) := by decide +kernel
theorem dX11_sets_1 : decode cX11_sets 1 = .ok (.istore_n 1, 1) := by decide +kernel
theorem dX11_sets_2 : decode cX11_sets 2 = .ok (.iconst 0, 1) := by decide +kernel
theorem dX11_sets_3 : decode cX11_sets 3 = .ok (.istore_n 2, 1) := by decide +kernel
theorem dX11_sets_4 : decode cX11_sets 4 = .ok (.iload_n 2, 1) := by decide +kernel
theorem dX11_sets_5 : decode cX11_sets 5 = .ok (.aload_n 0, 1) := by decide +kernel
theorem dX11_sets_6 : decode cX11_sets 6 = .ok (.getfield 101, 3) := by decide +kernel
theorem dX11_sets_9 : decode cX11_sets 9 = .ok (.if_icmp .ge 29, 3) := by decide +kernel
theorem dX11_sets_12 : decode cX11_sets 12 = .ok (.iload_n 1, 1) := by decide +kernel
theorem dX11_sets_13 : decode cX11_sets 13 = .ok (.aload_n 0, 1) := by decide +kernel
theorem dX11_sets_14 : decode cX11_sets 14 = .ok (.iload_n 2, 1) := by decide +kernel
theorem dX11_sets_15 : decode cX11_sets 15 = .ok (.invokevirtual 126, 3) := by decide +kernel
theorem dX11_sets_18 : decode cX11_sets 18 = .ok (.invokestatic 129, 3) := by decide +kernel
theorem dX11_sets_21 : decode cX11_sets 21 = .ok (.iload_n 2, 1) := by decide +kernel
theorem dX11_sets_22 : decode cX11_sets 22 = .ok (.if_icmp .ne 7, 3) := by decide +kernel
theorem dX11_sets_25 : decode cX11_sets 25 = .ok (.iconst 1, 1) := by decide +kernel
theorem dX11_sets_26 : decode cX11_sets 26 = .ok (.goto 4, 3) := by decide +kernel
theorem dX11_sets_29 : decode cX11_sets 29 = .ok (.iconst 0, 1) := by decide +kernel
theorem dX11_sets_30 : decode cX11_sets 30 = .ok (.iadd, 1) := by decide +kernel
theorem dX11_sets_31 : decode cX11_sets 31 = .ok (.istore_n 1, 1) := by decide +kernel
theorem dX11_sets_32 : decode cX11_sets 32 = .ok (.iinc 2 1, 3) := by decide +kernel
theorem dX11_sets_35 : decode cX11_sets 35 = .ok (.goto (-31), 3) := by decide +kernel
theorem dX11_sets_38 : decode cX11_sets 38 = .ok (.iload_n 1, 1) := by decide +kernel
theorem dX11_sets_39 : decode cX11_sets 39 = .ok (.ireturn, 1) := by decide +kernel
theorem dX11_areJoined_0 : decode cX11_areJoined 0 = .ok (.aload_n 0, 1) := by decide +kernel
theorem dX11_areJoined_1 : decode cX11_areJoined 1 = .ok (.invokevirtual 132, 3) := by decide +kernel
theorem dX11_areJoined_4 : decode cX11_areJoined 4 = .ok (.iconst 2, 1) := by decide +kernel
theorem dX11_areJoined_5 : decode cX11_areJoined 5 = .ok (.if_icmp .ge 7, 3) := by decide +kernel
theorem dX11_areJoined_8 : decode cX11_areJoined 8 = .ok (.iconst 1, 1) := by decide +kernel
theorem dX11_areJoined_9 : decode cX11_areJoined 9 = .ok (.goto 4, 3) := by decide +kernel
theorem dX11_areJoined_12 : decode cX11_areJoined 12 = .ok (.iconst 0, 1) := by decide +kernel
theorem dX11_areJoined_13 : decode cX11_areJoined 13 = .ok (.ireturn, 1) := by decide +kernel
theorem dX11_feed_0 : decode cX11_feed 0 = .ok (.aload_n 0, 1) := by decide +kernel
theorem dX11_feed_1 : decode cX11_feed 1 = .ok (.getfield 135, 3) := by decide +kernel
theorem dX11_feed_4 : decode cX11_feed 4 = .ok (.sipush 180, 3) := by decide +kernel
theorem dX11_feed_7 : decode cX11_feed 7 = .ok (.if_icmp .le 5, 3) := by decide +kernel
theorem dX11_feed_10 : decode cX11_feed 10 = .ok (.iconst (-1), 1) := by decide +kernel
theorem dX11_feed_11 : decode cX11_feed 11 = .ok (.ireturn, 1) := by decide +kernel
theorem dX11_feed_12 : decode cX11_feed 12 = .ok (.aload_n 0, 1) := by decide +kernel
theorem dX11_feed_13 : decode cX11_feed 13 = .ok (.iload_n 1, 1) := by decide +kernel
theorem dX11_feed_14 : decode cX11_feed 14 = .ok (.invokevirtual 138, 3) := by decide +kernel
theorem dX11_feed_17 : decode cX11_feed 17 = .ok (.aload_n 0, 1) := by decide +kernel
theorem dX11_feed_18 : decode cX11_feed 18 = .ok (.iload_n 2, 1) := by decide +kernel
theorem dX11_feed_19 : decode cX11_feed 19 = .ok (.invokevirtual 138, 3) := by decide +kernel
theorem dX11_feed_22 : decode cX11_feed 22 = .ok (.aload_n 0, 1) := by decide +kernel
theorem dX11_feed_23 : decode cX11_feed 23 = .ok (.iload_n 3, 1) := by decide +kernel
theorem dX11_feed_24 : decode cX11_feed 24 = .ok (.invokevirtual 138, 3) := by decide +kernel
theorem dX11_feed_27 : decode cX11_feed 27 = .ok (.aload_n 0, 1) := by decide +kernel
theorem dX11_feed_28 : decode cX11_feed 28 = .ok (.iload 4, 2) := by decide +kernel
theorem dX11_feed_30 : decode cX11_feed 30 = .ok (.invokevirtual 138, 3) := by decide +kernel
theorem dX11_feed_33 : decode cX11_feed 33 = .ok (.aload_n 0, 1) := by decide +kernel
theorem dX11_feed_34 : decode cX11_feed 34 = .ok (.iload 5, 2) := by decide +kernel
theorem dX11_feed_36 : decode cX11_feed 36 = .ok (.invokevirtual 138, 3) := by decide +kernel
theorem dX11_feed_39 : decode cX11_feed 39 = .ok (.aload_n 0, 1) := by decide +kernel
theorem dX11_feed_40 : decode cX11_feed 40 = .ok (.getfield 135, 3) := by decide +kernel
theorem dX11_feed_43 : decode cX11_feed 43 = .ok (.ireturn, 1) := by decide +kernel
theorem dX11_four_0 : decode cX11_four 0 = .ok (.iconst 3, 1) := by decide +kernel
theorem dX11_four_1 : decode cX11_four 1 = .ok (.istore_n 2, 1) := by decide +kernel
theorem dX11_four_2 : decode cX11_four 2 = .ok (.iload_n 2, 1) := by decide +kernel
theorem dX11_four_3 : decode cX11_four 3 = .ok (.ifCond .lt 35, 3) := by decide +kernel
theorem dX11_four_6 : decode cX11_four 6 = .ok (.aload_n 0, 1) := by decide +kernel
theorem dX11_four_7 : decode cX11_four 7 = .ok (.getfield 13, 3) := by decide +kernel
theorem dX11_four_10 : decode cX11_four 10 = .ok (.aload_n 0, 1) := by decide +kernel
theorem dX11_four_11 : decode cX11_four 11 = .ok (.getfield 135, 3) := by decide +kernel
theorem dX11_four_14 : decode cX11_four 14 = .ok (.iload_n 1, 1) := by decide +kernel
theorem dX11_four_15 : decode cX11_four 15 = .ok (.bipush 8, 2) := by decide +kernel
theorem dX11_four_17 : decode cX11_four 17 = .ok (.iload_n 2, 1) := by decide +kernel
theorem dX11_four_18 : decode cX11_four 18 = .ok (.imul, 1) := by decide +kernel
theorem dX11_four_19 : decode cX11_four 19 = .ok (.ishr, 1) := by decide +kernel
theorem dX11_four_20 : decode cX11_four 20 = .ok (.i2b, 1) := by decide +kernel
theorem dX11_four_21 : decode cX11_four 21 = .ok (.bastore, 1) := by decide +kernel
theorem dX11_four_22 : decode cX11_four 22 = .ok (.aload_n 0, 1) := by decide +kernel
theorem dX11_four_23 : decode cX11_four 23 = .ok (.dup, 1) := by decide +kernel
theorem dX11_four_24 : decode cX11_four 24 = .ok (.getfield 135, 3) := by decide +kernel
theorem dX11_four_27 : decode cX11_four 27 = .ok (.iconst 1, 1) := by decide +kernel
theorem dX11_four_28 : decode cX11_four 28 = .ok (.iadd, 1) := by decide +kernel
theorem dX11_four_29 : decode cX11_four 29 = .ok (.putfield 135, 3) := by decide +kernel
theorem dX11_four_32 : decode cX11_four 32 = .ok (.iinc 2 (-1), 3) := by decide +kernel
theorem dX11_four_35 : decode cX11_four 35 = .ok (.goto (-33), 3) := by decide +kernel
theorem dX11_four_38 : decode cX11_four 38 = .ok (.return_, 1) := by decide +kernel
theorem dX11_byteAt_0 : decode cX11_byteAt 0 = .ok (.iload_n 1, 1) := by decide +kernel
theorem dX11_byteAt_1 : decode cX11_byteAt 1 = .ok (.aload_n 0, 1) := by decide +kernel
theorem dX11_byteAt_2 : decode cX11_byteAt 2 = .ok (.getfield 141, 3) := by decide +kernel
theorem dX11_byteAt_5 : decode cX11_byteAt 5 = .ok (.if_icmp .ge 16, 3) := by decide +kernel
theorem dX11_byteAt_8 : decode cX11_byteAt 8 = .ok (.aload_n 0, 1) := by decide +kernel
theorem dX11_byteAt_9 : decode cX11_byteAt 9 = .ok (.getfield 17, 3) := by decide +kernel
theorem dX11_byteAt_12 : decode cX11_byteAt 12 = .ok (.iload_n 1, 1) := by decide +kernel
theorem dX11_byteAt_13 : decode cX11_byteAt 13 = .ok (.baload, 1) := by decide +kernel
theorem dX11_byteAt_14 : decode cX11_byteAt 14 = .ok (.sipush 255, 3) := by decide +kernel
theorem dX11_byteAt_17 : decode cX11_byteAt 17 = .ok (.iand, 1) := by decide +kernel
theorem dX11_byteAt_18 : decode cX11_byteAt 18 = .ok (.goto 4, 3) := by decide +kernel
theorem dX11_byteAt_21 : decode cX11_byteAt 21 = .ok (.iconst (-1), 1) := by decide +kernel
theorem dX11_byteAt_22 : decode cX11_byteAt 22 = .ok (.ireturn, 1) := by decide +kernel
theorem dX11_isSmall_0 : decode cX11_isSmall 0 = .ok (.iload_n 0, 1) := by decide +kernel
theorem dX11_isSmall_1 : decode cX11_isSmall 1 = .ok (.bipush 97, 2) := by decide +kernel
theorem dX11_isSmall_3 : decode cX11_isSmall 3 = .ok (.if_icmp .lt 13, 3) := by decide +kernel
theorem dX11_isSmall_6 : decode cX11_isSmall 6 = .ok (.iload_n 0, 1) := by decide +kernel
theorem dX11_isSmall_7 : decode cX11_isSmall 7 = .ok (.bipush 122, 2) := by decide +kernel
theorem dX11_isSmall_9 : decode cX11_isSmall 9 = .ok (.if_icmp .gt 7, 3) := by decide +kernel
theorem dX11_isSmall_12 : decode cX11_isSmall 12 = .ok (.iconst 1, 1) := by decide +kernel
theorem dX11_isSmall_13 : decode cX11_isSmall 13 = .ok (.goto 4, 3) := by decide +kernel
theorem dX11_isSmall_16 : decode cX11_isSmall 16 = .ok (.iconst 0, 1) := by decide +kernel
theorem dX11_isSmall_17 : decode cX11_isSmall 17 = .ok (.ireturn, 1) := by decide +kernel
theorem dX11_isDigit_0 : decode cX11_isDigit 0 = .ok (.iload_n 0, 1) := by decide +kernel
theorem dX11_isDigit_1 : decode cX11_isDigit 1 = .ok (.bipush 48, 2) := by decide +kernel
theorem dX11_isDigit_3 : decode cX11_isDigit 3 = .ok (.if_icmp .lt 13, 3) := by decide +kernel
theorem dX11_isDigit_6 : decode cX11_isDigit 6 = .ok (.iload_n 0, 1) := by decide +kernel
theorem dX11_isDigit_7 : decode cX11_isDigit 7 = .ok (.bipush 57, 2) := by decide +kernel
theorem dX11_isDigit_9 : decode cX11_isDigit 9 = .ok (.if_icmp .gt 7, 3) := by decide +kernel
theorem dX11_isDigit_12 : decode cX11_isDigit 12 = .ok (.iconst 1, 1) := by decide +kernel
theorem dX11_isDigit_13 : decode cX11_isDigit 13 = .ok (.goto 4, 3) := by decide +kernel
theorem dX11_isDigit_16 : decode cX11_isDigit 16 = .ok (.iconst 0, 1) := by decide +kernel
theorem dX11_isDigit_17 : decode cX11_isDigit 17 = .ok (.ireturn, 1) := by decide +kernel
theorem dX11_ahead_0 : decode cX11_ahead 0 = .ok (.aload_n 0, 1) := by decide +kernel
theorem dX11_ahead_1 : decode cX11_ahead 1 = .ok (.aload_n 0, 1) := by decide +kernel
theorem dX11_ahead_2 : decode cX11_ahead 2 = .ok (.getfield 144, 3) := by decide +kernel
theorem dX11_ahead_5 : decode cX11_ahead 5 = .ok (.invokevirtual 147, 3) := by decide +kernel
theorem dX11_ahead_8 : decode cX11_ahead 8 = .ok (.bipush 32, 2) := by decide +kernel
theorem dX11_ahead_10 : decode cX11_ahead 10 = .ok (.if_icmp .eq 16, 3) := by decide +kernel
theorem dX11_ahead_13 : decode cX11_ahead 13 = .ok (.aload_n 0, 1) := by decide +kernel
theorem dX11_ahead_14 : decode cX11_ahead 14 = .ok (.aload_n 0, 1) := by decide +kernel
theorem dX11_ahead_15 : decode cX11_ahead 15 = .ok (.getfield 144, 3) := by decide +kernel
theorem dX11_ahead_18 : decode cX11_ahead 18 = .ok (.invokevirtual 147, 3) := by decide +kernel
theorem dX11_ahead_21 : decode cX11_ahead 21 = .ok (.bipush 10, 2) := by decide +kernel
theorem dX11_ahead_23 : decode cX11_ahead 23 = .ok (.if_icmp .ne 16, 3) := by decide +kernel
theorem dX11_ahead_26 : decode cX11_ahead 26 = .ok (.aload_n 0, 1) := by decide +kernel
theorem dX11_ahead_27 : decode cX11_ahead 27 = .ok (.dup, 1) := by decide +kernel
theorem dX11_ahead_28 : decode cX11_ahead 28 = .ok (.getfield 144, 3) := by decide +kernel
theorem dX11_ahead_31 : decode cX11_ahead 31 = .ok (.iconst 1, 1) := by decide +kernel
theorem dX11_ahead_32 : decode cX11_ahead 32 = .ok (.iadd, 1) := by decide +kernel
theorem dX11_ahead_33 : decode cX11_ahead 33 = .ok (.putfield 144, 3) := by decide +kernel
theorem dX11_ahead_36 : decode cX11_ahead 36 = .ok (.goto (-36), 3) := by decide +kernel
theorem dX11_ahead_39 : decode cX11_ahead 39 = .ok (.aload_n 0, 1) := by decide +kernel
theorem dX11_ahead_40 : decode cX11_ahead 40 = .ok (.aload_n 0, 1) := by decide +kernel
theorem dX11_ahead_41 : decode cX11_ahead 41 = .ok (.getfield 144, 3) := by decide +kernel
theorem dX11_ahead_44 : decode cX11_ahead 44 = .ok (.putfield 150, 3) := by decide +kernel
theorem dX11_ahead_47 : decode cX11_ahead 47 = .ok (.aload_n 0, 1) := by decide +kernel
theorem dX11_ahead_48 : decode cX11_ahead 48 = .ok (.aload_n 0, 1) := by decide +kernel
theorem dX11_ahead_49 : decode cX11_ahead 49 = .ok (.getfield 144, 3) := by decide +kernel
theorem dX11_ahead_52 : decode cX11_ahead 52 = .ok (.invokevirtual 147, 3) := by decide +kernel
theorem dX11_ahead_55 : decode cX11_ahead 55 = .ok (.istore_n 1, 1) := by decide +kernel
theorem dX11_ahead_56 : decode cX11_ahead 56 = .ok (.iload_n 1, 1) := by decide +kernel
theorem dX11_ahead_57 : decode cX11_ahead 57 = .ok (.iconst (-1), 1) := by decide +kernel
theorem dX11_ahead_58 : decode cX11_ahead 58 = .ok (.if_icmp .ne 9, 3) := by decide +kernel
theorem dX11_ahead_61 : decode cX11_ahead 61 = .ok (.aload_n 0, 1) := by decide +kernel
theorem dX11_ahead_62 : decode cX11_ahead 62 = .ok (.iconst 0, 1) := by decide +kernel
theorem dX11_ahead_63 : decode cX11_ahead 63 = .ok (.putfield 153, 3) := by decide +kernel
theorem dX11_ahead_66 : decode cX11_ahead 66 = .ok (.return_, 1) := by decide +kernel
theorem dX11_ahead_67 : decode cX11_ahead 67 = .ok (.aload_n 0, 1) := by decide +kernel
theorem dX11_ahead_68 : decode cX11_ahead 68 = .ok (.dup, 1) := by decide +kernel
theorem dX11_ahead_69 : decode cX11_ahead 69 = .ok (.getfield 144, 3) := by decide +kernel
theorem dX11_ahead_72 : decode cX11_ahead 72 = .ok (.iconst 1, 1) := by decide +kernel
theorem dX11_ahead_73 : decode cX11_ahead 73 = .ok (.iadd, 1) := by decide +kernel
theorem dX11_ahead_74 : decode cX11_ahead 74 = .ok (.putfield 144, 3) := by decide +kernel
theorem dX11_ahead_77 : decode cX11_ahead 77 = .ok (.aload_n 0, 1) := by decide +kernel
theorem dX11_ahead_78 : decode cX11_ahead 78 = .ok (.iload_n 1, 1) := by decide +kernel
theorem dX11_ahead_79 : decode cX11_ahead 79 = .ok (.invokestatic 156, 3) := by decide +kernel
theorem dX11_ahead_82 : decode cX11_ahead 82 = .ok (.ifCond .eq 7, 3) := by decide +kernel
theorem dX11_ahead_85 : decode cX11_ahead 85 = .ok (.iconst 2, 1) := by decide +kernel
theorem dX11_ahead_86 : decode cX11_ahead 86 = .ok (.goto 25, 3) := by decide +kernel
theorem dX11_ahead_89 : decode cX11_ahead 89 = .ok (.iload_n 1, 1) := by decide +kernel
theorem dX11_ahead_90 : decode cX11_ahead 90 = .ok (.invokestatic 160, 3) := by decide +kernel
theorem dX11_ahead_93 : decode cX11_ahead 93 = .ok (.ifCond .eq 7, 3) := by decide +kernel
theorem dX11_ahead_96 : decode cX11_ahead 96 = .ok (.iconst 3, 1) := by decide +kernel
theorem dX11_ahead_97 : decode cX11_ahead 97 = .ok (.goto 14, 3) := by decide +kernel
theorem dX11_ahead_100 : decode cX11_ahead 100 = .ok (.iload_n 1, 1) := by decide +kernel
theorem dX11_ahead_101 : decode cX11_ahead 101 = .ok (.bipush 59, 2) := by decide +kernel
theorem dX11_ahead_103 : decode cX11_ahead 103 = .ok (.if_icmp .ne 7, 3) := by decide +kernel
theorem dX11_ahead_106 : decode cX11_ahead 106 = .ok (.iconst 4, 1) := by decide +kernel
theorem dX11_ahead_107 : decode cX11_ahead 107 = .ok (.goto 4, 3) := by decide +kernel
theorem dX11_ahead_110 : decode cX11_ahead 110 = .ok (.iconst 1, 1) := by decide +kernel
theorem dX11_ahead_111 : decode cX11_ahead 111 = .ok (.putfield 153, 3) := by decide +kernel
theorem dX11_ahead_114 : decode cX11_ahead 114 = .ok (.aload_n 0, 1) := by decide +kernel
theorem dX11_ahead_115 : decode cX11_ahead 115 = .ok (.getfield 153, 3) := by decide +kernel
theorem dX11_ahead_118 : decode cX11_ahead 118 = .ok (.iconst 2, 1) := by decide +kernel
theorem dX11_ahead_119 : decode cX11_ahead 119 = .ok (.if_icmp .ne 30, 3) := by decide +kernel
theorem dX11_ahead_122 : decode cX11_ahead 122 = .ok (.aload_n 0, 1) := by decide +kernel
theorem dX11_ahead_123 : decode cX11_ahead 123 = .ok (.aload_n 0, 1) := by decide +kernel
theorem dX11_ahead_124 : decode cX11_ahead 124 = .ok (.getfield 144, 3) := by decide +kernel
theorem dX11_ahead_127 : decode cX11_ahead 127 = .ok (.invokevirtual 147, 3) := by decide +kernel
theorem dX11_ahead_130 : decode cX11_ahead 130 = .ok (.invokestatic 156, 3) := by decide +kernel
theorem dX11_ahead_133 : decode cX11_ahead 133 = .ok (.ifCond .eq 16, 3) := by decide +kernel
theorem dX11_ahead_136 : decode cX11_ahead 136 = .ok (.aload_n 0, 1) := by decide +kernel
theorem dX11_ahead_137 : decode cX11_ahead 137 = .ok (.dup, 1) := by decide +kernel
theorem dX11_ahead_138 : decode cX11_ahead 138 = .ok (.getfield 144, 3) := by decide +kernel
theorem dX11_ahead_141 : decode cX11_ahead 141 = .ok (.iconst 1, 1) := by decide +kernel
theorem dX11_ahead_142 : decode cX11_ahead 142 = .ok (.iadd, 1) := by decide +kernel
theorem dX11_ahead_143 : decode cX11_ahead 143 = .ok (.putfield 144, 3) := by decide +kernel
theorem dX11_ahead_146 : decode cX11_ahead 146 = .ok (.goto (-32), 3) := by decide +kernel
theorem dX11_ahead_149 : decode cX11_ahead 149 = .ok (.aload_n 0, 1) := by decide +kernel
theorem dX11_ahead_150 : decode cX11_ahead 150 = .ok (.getfield 153, 3) := by decide +kernel
theorem dX11_ahead_153 : decode cX11_ahead 153 = .ok (.iconst 3, 1) := by decide +kernel
theorem dX11_ahead_154 : decode cX11_ahead 154 = .ok (.if_icmp .ne 17, 3) := by decide +kernel
theorem dX11_ahead_157 : decode cX11_ahead 157 = .ok (.aload_n 0, 1) := by decide +kernel
theorem dX11_ahead_158 : decode cX11_ahead 158 = .ok (.aload_n 0, 1) := by decide +kernel
theorem dX11_ahead_159 : decode cX11_ahead 159 = .ok (.getfield 144, 3) := by decide +kernel
theorem dX11_ahead_162 : decode cX11_ahead 162 = .ok (.invokevirtual 147, 3) := by decide +kernel
theorem dX11_ahead_165 : decode cX11_ahead 165 = .ok (.invokestatic 160, 3) := by decide +kernel
theorem dX11_ahead_168 : decode cX11_ahead 168 = .ok (.ifCond .ne 4, 3) := by decide +kernel
theorem dX11_ahead_171 : decode cX11_ahead 171 = .ok (.return_, 1) := by decide +kernel
theorem dX11_ahead_172 : decode cX11_ahead 172 = .ok (.aload_n 0, 1) := by decide +kernel
theorem dX11_ahead_173 : decode cX11_ahead 173 = .ok (.iconst 1, 1) := by decide +kernel
theorem dX11_ahead_174 : decode cX11_ahead 174 = .ok (.putfield 153, 3) := by decide +kernel
theorem dX11_ahead_177 : decode cX11_ahead 177 = .ok (.aload_n 0, 1) := by decide +kernel
theorem dX11_ahead_178 : decode cX11_ahead 178 = .ok (.aload_n 0, 1) := by decide +kernel
theorem dX11_ahead_179 : decode cX11_ahead 179 = .ok (.getfield 144, 3) := by decide +kernel
theorem dX11_ahead_182 : decode cX11_ahead 182 = .ok (.invokevirtual 147, 3) := by decide +kernel
theorem dX11_ahead_185 : decode cX11_ahead 185 = .ok (.invokestatic 160, 3) := by decide +kernel
theorem dX11_ahead_188 : decode cX11_ahead 188 = .ok (.ifCond .eq 16, 3) := by decide +kernel
theorem dX11_ahead_191 : decode cX11_ahead 191 = .ok (.aload_n 0, 1) := by decide +kernel
theorem dX11_ahead_192 : decode cX11_ahead 192 = .ok (.dup, 1) := by decide +kernel
theorem dX11_ahead_193 : decode cX11_ahead 193 = .ok (.getfield 144, 3) := by decide +kernel
theorem dX11_ahead_196 : decode cX11_ahead 196 = .ok (.iconst 1, 1) := by decide +kernel
theorem dX11_ahead_197 : decode cX11_ahead 197 = .ok (.iadd, 1) := by decide +kernel
theorem dX11_ahead_198 : decode cX11_ahead 198 = .ok (.putfield 144, 3) := by decide +kernel
theorem dX11_ahead_201 : decode cX11_ahead 201 = .ok (.goto (-24), 3) := by decide +kernel
theorem dX11_ahead_204 : decode cX11_ahead 204 = .ok (.return_, 1) := by decide +kernel
theorem dX11_key_0 : decode cX11_key 0 = .ok (.aload_n 0, 1) := by decide +kernel
theorem dX11_key_1 : decode cX11_key 1 = .ok (.getfield 153, 3) := by decide +kernel
theorem dX11_key_4 : decode cX11_key 4 = .ok (.iconst 2, 1) := by decide +kernel
theorem dX11_key_5 : decode cX11_key 5 = .ok (.if_icmp .eq 5, 3) := by decide +kernel
theorem dX11_key_8 : decode cX11_key 8 = .ok (.iconst (-1), 1) := by decide +kernel
theorem dX11_key_9 : decode cX11_key 9 = .ok (.ireturn, 1) := by decide +kernel
theorem dX11_key_10 : decode cX11_key 10 = .ok (.iconst 0, 1) := by decide +kernel
theorem dX11_key_11 : decode cX11_key 11 = .ok (.istore_n 1, 1) := by decide +kernel
theorem dX11_key_12 : decode cX11_key 12 = .ok (.iconst 1, 1) := by decide +kernel
theorem dX11_key_13 : decode cX11_key 13 = .ok (.istore_n 2, 1) := by decide +kernel
theorem dX11_key_14 : decode cX11_key 14 = .ok (.iload_n 2, 1) := by decide +kernel
theorem dX11_key_15 : decode cX11_key 15 = .ok (.ldc 163, 2) := by decide +kernel
theorem dX11_key_17 : decode cX11_key 17 = .ok (.invokevirtual 165, 3) := by decide +kernel
theorem dX11_key_20 : decode cX11_key 20 = .ok (.if_icmp .ge 113, 3) := by decide +kernel
theorem dX11_key_23 : decode cX11_key 23 = .ok (.iload_n 2, 1) := by decide +kernel
theorem dX11_key_24 : decode cX11_key 24 = .ok (.istore_n 3, 1) := by decide +kernel
theorem dX11_key_25 : decode cX11_key 25 = .ok (.ldc 163, 2) := by decide +kernel
theorem dX11_key_27 : decode cX11_key 27 = .ok (.iload_n 3, 1) := by decide +kernel
theorem dX11_key_28 : decode cX11_key 28 = .ok (.invokevirtual 170, 3) := by decide +kernel
theorem dX11_key_31 : decode cX11_key 31 = .ok (.bipush 32, 2) := by decide +kernel
theorem dX11_key_33 : decode cX11_key 33 = .ok (.if_icmp .eq 9, 3) := by decide +kernel
theorem dX11_key_36 : decode cX11_key 36 = .ok (.iinc 3 1, 3) := by decide +kernel
theorem dX11_key_39 : decode cX11_key 39 = .ok (.goto (-14), 3) := by decide +kernel
theorem dX11_key_42 : decode cX11_key 42 = .ok (.iload_n 3, 1) := by decide +kernel
theorem dX11_key_43 : decode cX11_key 43 = .ok (.iload_n 2, 1) := by decide +kernel
theorem dX11_key_44 : decode cX11_key 44 = .ok (.isub, 1) := by decide +kernel
theorem dX11_key_45 : decode cX11_key 45 = .ok (.aload_n 0, 1) := by decide +kernel
theorem dX11_key_46 : decode cX11_key 46 = .ok (.getfield 144, 3) := by decide +kernel
theorem dX11_key_49 : decode cX11_key 49 = .ok (.aload_n 0, 1) := by decide +kernel
theorem dX11_key_50 : decode cX11_key 50 = .ok (.getfield 150, 3) := by decide +kernel
theorem dX11_key_53 : decode cX11_key 53 = .ok (.isub, 1) := by decide +kernel
theorem dX11_key_54 : decode cX11_key 54 = .ok (.if_icmp .ne 7, 3) := by decide +kernel
theorem dX11_key_57 : decode cX11_key 57 = .ok (.iconst 1, 1) := by decide +kernel
theorem dX11_key_58 : decode cX11_key 58 = .ok (.goto 4, 3) := by decide +kernel
theorem dX11_key_61 : decode cX11_key 61 = .ok (.iconst 0, 1) := by decide +kernel
theorem dX11_key_62 : decode cX11_key 62 = .ok (.istore 4, 2) := by decide +kernel
theorem dX11_key_64 : decode cX11_key 64 = .ok (.iconst 0, 1) := by decide +kernel
theorem dX11_key_65 : decode cX11_key 65 = .ok (.istore 5, 2) := by decide +kernel
theorem dX11_key_67 : decode cX11_key 67 = .ok (.iload 5, 2) := by decide +kernel
theorem dX11_key_69 : decode cX11_key 69 = .ok (.iload_n 3, 1) := by decide +kernel
theorem dX11_key_70 : decode cX11_key 70 = .ok (.iload_n 2, 1) := by decide +kernel
theorem dX11_key_71 : decode cX11_key 71 = .ok (.isub, 1) := by decide +kernel
theorem dX11_key_72 : decode cX11_key 72 = .ok (.if_icmp .ge 44, 3) := by decide +kernel
theorem dX11_key_75 : decode cX11_key 75 = .ok (.iload 4, 2) := by decide +kernel
theorem dX11_key_77 : decode cX11_key 77 = .ok (.ifCond .eq 39, 3) := by decide +kernel
theorem dX11_key_80 : decode cX11_key 80 = .ok (.ldc 163, 2) := by decide +kernel
theorem dX11_key_82 : decode cX11_key 82 = .ok (.iload_n 2, 1) := by decide +kernel
theorem dX11_key_83 : decode cX11_key 83 = .ok (.iload 5, 2) := by decide +kernel

theorem d_Mo_init_0 : decode c_Mo_init 0 = .ok (.aload_n 0, 1) := by decide +kernel
theorem d_Mo_init_1 : decode c_Mo_init 1 = .ok (.invokespecial 1, 3) := by decide +kernel
theorem d_Mo_init_4 : decode c_Mo_init 4 = .ok (.aload_n 0, 1) := by decide +kernel
theorem d_Mo_init_5 : decode c_Mo_init 5 = .ok (.iconst 1, 1) := by decide +kernel
theorem d_Mo_init_6 : decode c_Mo_init 6 = .ok (.putfield 7, 3) := by decide +kernel
theorem d_Mo_init_9 : decode c_Mo_init 9 = .ok (.aload_n 0, 1) := by decide +kernel
theorem d_Mo_init_10 : decode c_Mo_init 10 = .ok (.iconst 1, 1) := by decide +kernel
theorem d_Mo_init_11 : decode c_Mo_init 11 = .ok (.putfield 13, 3) := by decide +kernel
theorem d_Mo_init_14 : decode c_Mo_init 14 = .ok (.aload_n 0, 1) := by decide +kernel
theorem d_Mo_init_15 : decode c_Mo_init 15 = .ok (.bipush 8, 2) := by decide +kernel
theorem d_Mo_init_17 : decode c_Mo_init 17 = .ok (.newarray .int, 2) := by decide +kernel
theorem d_Mo_init_19 : decode c_Mo_init 19 = .ok (.putfield 16, 3) := by decide +kernel
theorem d_Mo_init_22 : decode c_Mo_init 22 = .ok (.aload_n 0, 1) := by decide +kernel
theorem d_Mo_init_23 : decode c_Mo_init 23 = .ok (.bipush 8, 2) := by decide +kernel
theorem d_Mo_init_25 : decode c_Mo_init 25 = .ok (.newarray .int, 2) := by decide +kernel
theorem d_Mo_init_27 : decode c_Mo_init 27 = .ok (.putfield 20, 3) := by decide +kernel
theorem d_Mo_init_30 : decode c_Mo_init 30 = .ok (.aload_n 0, 1) := by decide +kernel
theorem d_Mo_init_31 : decode c_Mo_init 31 = .ok (.sipush 400, 3) := by decide +kernel
theorem d_Mo_init_34 : decode c_Mo_init 34 = .ok (.newarray .int, 2) := by decide +kernel
theorem d_Mo_init_36 : decode c_Mo_init 36 = .ok (.putfield 23, 3) := by decide +kernel
theorem d_Mo_init_39 : decode c_Mo_init 39 = .ok (.aload_n 0, 1) := by decide +kernel
theorem d_Mo_init_40 : decode c_Mo_init 40 = .ok (.iconst (-1), 1) := by decide +kernel
theorem d_Mo_init_41 : decode c_Mo_init 41 = .ok (.putfield 26, 3) := by decide +kernel
theorem d_Mo_init_44 : decode c_Mo_init 44 = .ok (.aload_n 0, 1) := by decide +kernel
theorem d_Mo_init_45 : decode c_Mo_init 45 = .ok (.bipush 8, 2) := by decide +kernel
theorem d_Mo_init_47 : decode c_Mo_init 47 = .ok (.newarray .int, 2) := by decide +kernel
theorem d_Mo_init_49 : decode c_Mo_init 49 = .ok (.putfield 29, 3) := by decide +kernel
theorem d_Mo_init_52 : decode c_Mo_init 52 = .ok (.aload_n 0, 1) := by decide +kernel
theorem d_Mo_init_53 : decode c_Mo_init 53 = .ok (.bipush 9, 2) := by decide +kernel
theorem d_Mo_init_55 : decode c_Mo_init 55 = .ok (.newarray .int, 2) := by decide +kernel
theorem d_Mo_init_57 : decode c_Mo_init 57 = .ok (.putfield 32, 3) := by decide +kernel
theorem d_Mo_init_60 : decode c_Mo_init 60 = .ok (.aload_n 0, 1) := by decide +kernel
theorem d_Mo_init_61 : decode c_Mo_init 61 = .ok (.bipush 8, 2) := by decide +kernel
theorem d_Mo_init_63 : decode c_Mo_init 63 = .ok (.newarray .int, 2) := by decide +kernel
theorem d_Mo_init_65 : decode c_Mo_init 65 = .ok (.putfield 35, 3) := by decide +kernel
theorem d_Mo_init_68 : decode c_Mo_init 68 = .ok (.aload_n 0, 1) := by decide +kernel
theorem d_Mo_init_69 : decode c_Mo_init 69 = .ok (.bipush 8, 2) := by decide +kernel
theorem d_Mo_init_71 : decode c_Mo_init 71 = .ok (.newarray .int, 2) := by decide +kernel
theorem d_Mo_init_73 : decode c_Mo_init 73 = .ok (.putfield 38, 3) := by decide +kernel
theorem d_Mo_init_76 : decode c_Mo_init 76 = .ok (.aload_n 0, 1) := by decide +kernel
theorem d_Mo_init_77 : decode c_Mo_init 77 = .ok (.bipush 8, 2) := by decide +kernel
theorem d_Mo_init_79 : decode c_Mo_init 79 = .ok (.newarray .int, 2) := by decide +kernel
theorem d_Mo_init_81 : decode c_Mo_init 81 = .ok (.putfield 41, 3) := by decide +kernel
theorem d_Mo_init_84 : decode c_Mo_init 84 = .ok (.aload_n 0, 1) := by decide +kernel
theorem d_Mo_init_85 : decode c_Mo_init 85 = .ok (.bipush 8, 2) := by decide +kernel
theorem d_Mo_init_87 : decode c_Mo_init 87 = .ok (.newarray .int, 2) := by decide +kernel
theorem d_Mo_init_89 : decode c_Mo_init 89 = .ok (.putfield 44, 3) := by decide +kernel
theorem d_Mo_init_92 : decode c_Mo_init 92 = .ok (.aload_n 0, 1) := by decide +kernel
theorem d_Mo_init_93 : decode c_Mo_init 93 = .ok (.bipush 30, 2) := by decide +kernel
theorem d_Mo_init_95 : decode c_Mo_init 95 = .ok (.newarray .int, 2) := by decide +kernel
theorem d_Mo_init_97 : decode c_Mo_init 97 = .ok (.putfield 47, 3) := by decide +kernel
theorem d_Mo_init_100 : decode c_Mo_init 100 = .ok (.aload_n 0, 1) := by decide +kernel
theorem d_Mo_init_101 : decode c_Mo_init 101 = .ok (.bipush 30, 2) := by decide +kernel
theorem d_Mo_init_103 : decode c_Mo_init 103 = .ok (.newarray .int, 2) := by decide +kernel
theorem d_Mo_init_105 : decode c_Mo_init 105 = .ok (.putfield 50, 3) := by decide +kernel
theorem d_Mo_init_108 : decode c_Mo_init 108 = .ok (.aload_n 0, 1) := by decide +kernel
theorem d_Mo_init_109 : decode c_Mo_init 109 = .ok (.bipush 30, 2) := by decide +kernel
theorem d_Mo_init_111 : decode c_Mo_init 111 = .ok (.newarray .boolean, 2) := by decide +kernel
theorem d_Mo_init_113 : decode c_Mo_init 113 = .ok (.putfield 53, 3) := by decide +kernel
theorem d_Mo_init_116 : decode c_Mo_init 116 = .ok (.aload_n 0, 1) := by decide +kernel
theorem d_Mo_init_117 : decode c_Mo_init 117 = .ok (.bipush 40, 2) := by decide +kernel
theorem d_Mo_init_119 : decode c_Mo_init 119 = .ok (.newarray .int, 2) := by decide +kernel
theorem d_Mo_init_121 : decode c_Mo_init 121 = .ok (.putfield 57, 3) := by decide +kernel
theorem d_Mo_init_124 : decode c_Mo_init 124 = .ok (.aload_n 0, 1) := by decide +kernel
theorem d_Mo_init_125 : decode c_Mo_init 125 = .ok (.iconst 2, 1) := by decide +kernel
theorem d_Mo_init_126 : decode c_Mo_init 126 = .ok (.newarray .boolean, 2) := by decide +kernel
theorem d_Mo_init_128 : decode c_Mo_init 128 = .ok (.putfield 60, 3) := by decide +kernel
theorem d_Mo_init_131 : decode c_Mo_init 131 = .ok (.aload_n 0, 1) := by decide +kernel
theorem d_Mo_init_132 : decode c_Mo_init 132 = .ok (.iconst 0, 1) := by decide +kernel
theorem d_Mo_init_133 : decode c_Mo_init 133 = .ok (.putfield 63, 3) := by decide +kernel
theorem d_Mo_init_136 : decode c_Mo_init 136 = .ok (.return_, 1) := by decide +kernel
theorem d_Mo_in_0 : decode c_Mo_in 0 = .ok (.lload_n 0, 1) := by decide +kernel
theorem d_Mo_in_1 : decode c_Mo_in 1 = .ok (.lload_n 2, 1) := by decide +kernel
theorem d_Mo_in_2 : decode c_Mo_in 2 = .ok (.lcmp, 1) := by decide +kernel
theorem d_Mo_in_3 : decode c_Mo_in 3 = .ok (.ifCond .lt 14, 3) := by decide +kernel
theorem d_Mo_in_6 : decode c_Mo_in 6 = .ok (.lload_n 0, 1) := by decide +kernel
theorem d_Mo_in_7 : decode c_Mo_in 7 = .ok (.lload 4, 2) := by decide +kernel
theorem d_Mo_in_9 : decode c_Mo_in 9 = .ok (.lcmp, 1) := by decide +kernel
theorem d_Mo_in_10 : decode c_Mo_in 10 = .ok (.ifCond .gt 7, 3) := by decide +kernel
theorem d_Mo_in_13 : decode c_Mo_in 13 = .ok (.iconst 1, 1) := by decide +kernel
theorem d_Mo_in_14 : decode c_Mo_in 14 = .ok (.goto 4, 3) := by decide +kernel
theorem d_Mo_in_17 : decode c_Mo_in 17 = .ok (.iconst 0, 1) := by decide +kernel
theorem d_Mo_in_18 : decode c_Mo_in 18 = .ok (.ireturn, 1) := by decide +kernel
theorem d_Mo_has_0 : decode c_Mo_has 0 = .ok (.iload_n 0, 1) := by decide +kernel
theorem d_Mo_has_1 : decode c_Mo_has 1 = .ok (.iload_n 1, 1) := by decide +kernel
theorem d_Mo_has_2 : decode c_Mo_has 2 = .ok (.ishr, 1) := by decide +kernel
theorem d_Mo_has_3 : decode c_Mo_has 3 = .ok (.iconst 1, 1) := by decide +kernel
theorem d_Mo_has_4 : decode c_Mo_has 4 = .ok (.iand, 1) := by decide +kernel
theorem d_Mo_has_5 : decode c_Mo_has 5 = .ok (.iconst 1, 1) := by decide +kernel
theorem d_Mo_has_6 : decode c_Mo_has 6 = .ok (.if_icmp .ne 7, 3) := by decide +kernel
theorem d_Mo_has_9 : decode c_Mo_has 9 = .ok (.iconst 1, 1) := by decide +kernel
theorem d_Mo_has_10 : decode c_Mo_has 10 = .ok (.goto 4, 3) := by decide +kernel
theorem d_Mo_has_13 : decode c_Mo_has 13 = .ok (.iconst 0, 1) := by decide +kernel
theorem d_Mo_has_14 : decode c_Mo_has 14 = .ok (.ireturn, 1) := by decide +kernel
theorem d_Mo_bits_0 : decode c_Mo_bits 0 = .ok (.iconst 0, 1) := by decide +kernel
theorem d_Mo_bits_1 : decode c_Mo_bits 1 = .ok (.istore_n 1, 1) := by decide +kernel
theorem d_Mo_bits_2 : decode c_Mo_bits 2 = .ok (.iconst 0, 1) := by decide +kernel
theorem d_Mo_bits_3 : decode c_Mo_bits 3 = .ok (.istore_n 2, 1) := by decide +kernel
theorem d_Mo_bits_4 : decode c_Mo_bits 4 = .ok (.iload_n 2, 1) := by decide +kernel
theorem d_Mo_bits_5 : decode c_Mo_bits 5 = .ok (.bipush 28, 2) := by decide +kernel
theorem d_Mo_bits_7 : decode c_Mo_bits 7 = .ok (.if_icmp .ge 17, 3) := by decide +kernel
theorem d_Mo_bits_10 : decode c_Mo_bits 10 = .ok (.iload_n 1, 1) := by decide +kernel
theorem d_Mo_bits_11 : decode c_Mo_bits 11 = .ok (.iload_n 0, 1) := by decide +kernel
theorem d_Mo_bits_12 : decode c_Mo_bits 12 = .ok (.iload_n 2, 1) := by decide +kernel
theorem d_Mo_bits_13 : decode c_Mo_bits 13 = .ok (.ishr, 1) := by decide +kernel
theorem d_Mo_bits_14 : decode c_Mo_bits 14 = .ok (.iconst 1, 1) := by decide +kernel
theorem d_Mo_bits_15 : decode c_Mo_bits 15 = .ok (.iand, 1) := by decide +kernel
theorem d_Mo_bits_16 : decode c_Mo_bits 16 = .ok (.iadd, 1) := by decide +kernel
theorem d_Mo_bits_17 : decode c_Mo_bits 17 = .ok (.istore_n 1, 1) := by decide +kernel
theorem d_Mo_bits_18 : decode c_Mo_bits 18 = .ok (.iinc 2 1, 3) := by decide +kernel
theorem d_Mo_bits_21 : decode c_Mo_bits 21 = .ok (.goto (-17), 3) := by decide +kernel
theorem d_Mo_bits_24 : decode c_Mo_bits 24 = .ok (.iload_n 1, 1) := by decide +kernel
theorem d_Mo_bits_25 : decode c_Mo_bits 25 = .ok (.ireturn, 1) := by decide +kernel
theorem d_Mo_isPerson_0 : decode c_Mo_isPerson 0 = .ok (.iload_n 1, 1) := by decide +kernel
theorem d_Mo_isPerson_1 : decode c_Mo_isPerson 1 = .ok (.i2l, 1) := by decide +kernel
theorem d_Mo_isPerson_2 : decode c_Mo_isPerson 2 = .ok (.lconst 0, 1) := by decide +kernel
theorem d_Mo_isPerson_3 : decode c_Mo_isPerson 3 = .ok (.aload_n 0, 1) := by decide +kernel
theorem d_Mo_isPerson_4 : decode c_Mo_isPerson 4 = .ok (.getfield 63, 3) := by decide +kernel
theorem d_Mo_isPerson_7 : decode c_Mo_isPerson 7 = .ok (.iconst 1, 1) := by decide +kernel
theorem d_Mo_isPerson_8 : decode c_Mo_isPerson 8 = .ok (.isub, 1) := by decide +kernel
theorem d_Mo_isPerson_9 : decode c_Mo_isPerson 9 = .ok (.i2l, 1) := by decide +kernel
theorem d_Mo_isPerson_10 : decode c_Mo_isPerson 10 = .ok (.invokestatic 66, 3) := by decide +kernel
theorem d_Mo_isPerson_13 : decode c_Mo_isPerson 13 = .ok (.ireturn, 1) := by decide +kernel
theorem d_Mo_areTwo_0 : decode c_Mo_areTwo 0 = .ok (.aload_n 0, 1) := by decide +kernel
theorem d_Mo_areTwo_1 : decode c_Mo_areTwo 1 = .ok (.iload_n 1, 1) := by decide +kernel
theorem d_Mo_areTwo_2 : decode c_Mo_areTwo 2 = .ok (.invokevirtual 70, 3) := by decide +kernel
theorem d_Mo_areTwo_5 : decode c_Mo_areTwo 5 = .ok (.ifCond .eq 20, 3) := by decide +kernel
theorem d_Mo_areTwo_8 : decode c_Mo_areTwo 8 = .ok (.aload_n 0, 1) := by decide +kernel
theorem d_Mo_areTwo_9 : decode c_Mo_areTwo 9 = .ok (.iload_n 2, 1) := by decide +kernel
theorem d_Mo_areTwo_10 : decode c_Mo_areTwo 10 = .ok (.invokevirtual 70, 3) := by decide +kernel
theorem d_Mo_areTwo_13 : decode c_Mo_areTwo 13 = .ok (.ifCond .eq 12, 3) := by decide +kernel
theorem d_Mo_areTwo_16 : decode c_Mo_areTwo 16 = .ok (.iload_n 1, 1) := by decide +kernel
theorem d_Mo_areTwo_17 : decode c_Mo_areTwo 17 = .ok (.iload_n 2, 1) := by decide +kernel
theorem d_Mo_areTwo_18 : decode c_Mo_areTwo 18 = .ok (.if_icmp .eq 7, 3) := by decide +kernel
theorem d_Mo_areTwo_21 : decode c_Mo_areTwo 21 = .ok (.iconst 1, 1) := by decide +kernel
theorem d_Mo_areTwo_22 : decode c_Mo_areTwo 22 = .ok (.goto 4, 3) := by decide +kernel
theorem d_Mo_areTwo_25 : decode c_Mo_areTwo 25 = .ok (.iconst 0, 1) := by decide +kernel
theorem d_Mo_areTwo_26 : decode c_Mo_areTwo 26 = .ok (.ireturn, 1) := by decide +kernel
theorem d_Mo_pairs_0 : decode c_Mo_pairs 0 = .ok (.iload_n 0, 1) := by decide +kernel
theorem d_Mo_pairs_1 : decode c_Mo_pairs 1 = .ok (.iload_n 0, 1) := by decide +kernel
theorem d_Mo_pairs_2 : decode c_Mo_pairs 2 = .ok (.iconst 1, 1) := by decide +kernel
theorem d_Mo_pairs_3 : decode c_Mo_pairs 3 = .ok (.isub, 1) := by decide +kernel
theorem d_Mo_pairs_4 : decode c_Mo_pairs 4 = .ok (.imul, 1) := by decide +kernel
theorem d_Mo_pairs_5 : decode c_Mo_pairs 5 = .ok (.iconst 2, 1) := by decide +kernel
theorem d_Mo_pairs_6 : decode c_Mo_pairs 6 = .ok (.idiv, 1) := by decide +kernel
theorem d_Mo_pairs_7 : decode c_Mo_pairs 7 = .ok (.ireturn, 1) := by decide +kernel
theorem d_Mo_pairOf_0 : decode c_Mo_pairOf 0 = .ok (.iload_n 1, 1) := by decide +kernel
theorem d_Mo_pairOf_1 : decode c_Mo_pairOf 1 = .ok (.iload_n 2, 1) := by decide +kernel
theorem d_Mo_pairOf_2 : decode c_Mo_pairOf 2 = .ok (.if_icmp .ge 7, 3) := by decide +kernel
theorem d_Mo_pairOf_5 : decode c_Mo_pairOf 5 = .ok (.iload_n 1, 1) := by decide +kernel
theorem d_Mo_pairOf_6 : decode c_Mo_pairOf 6 = .ok (.goto 4, 3) := by decide +kernel
theorem d_Mo_pairOf_9 : decode c_Mo_pairOf 9 = .ok (.iload_n 2, 1) := by decide +kernel
theorem d_Mo_pairOf_10 : decode c_Mo_pairOf 10 = .ok (.istore_n 3, 1) := by decide +kernel
theorem d_Mo_pairOf_11 : decode c_Mo_pairOf 11 = .ok (.iload_n 1, 1) := by decide +kernel
theorem d_Mo_pairOf_12 : decode c_Mo_pairOf 12 = .ok (.iload_n 2, 1) := by decide +kernel
theorem d_Mo_pairOf_13 : decode c_Mo_pairOf 13 = .ok (.if_icmp .ge 7, 3) := by decide +kernel
theorem d_Mo_pairOf_16 : decode c_Mo_pairOf 16 = .ok (.iload_n 2, 1) := by decide +kernel
theorem d_Mo_pairOf_17 : decode c_Mo_pairOf 17 = .ok (.goto 4, 3) := by decide +kernel
theorem d_Mo_pairOf_20 : decode c_Mo_pairOf 20 = .ok (.iload_n 1, 1) := by decide +kernel
theorem d_Mo_pairOf_21 : decode c_Mo_pairOf 21 = .ok (.istore 4, 2) := by decide +kernel
theorem d_Mo_pairOf_23 : decode c_Mo_pairOf 23 = .ok (.iconst 0, 1) := by decide +kernel
theorem d_Mo_pairOf_24 : decode c_Mo_pairOf 24 = .ok (.istore 5, 2) := by decide +kernel
theorem d_Mo_pairOf_26 : decode c_Mo_pairOf 26 = .ok (.iconst 0, 1) := by decide +kernel
theorem d_Mo_pairOf_27 : decode c_Mo_pairOf 27 = .ok (.istore 6, 2) := by decide +kernel
theorem d_Mo_pairOf_29 : decode c_Mo_pairOf 29 = .ok (.iload 6, 2) := by decide +kernel
theorem d_Mo_pairOf_31 : decode c_Mo_pairOf 31 = .ok (.iload_n 3, 1) := by decide +kernel
theorem d_Mo_pairOf_32 : decode c_Mo_pairOf 32 = .ok (.if_icmp .ge 20, 3) := by decide +kernel
theorem d_Mo_pairOf_35 : decode c_Mo_pairOf 35 = .ok (.iload 5, 2) := by decide +kernel
theorem d_Mo_pairOf_37 : decode c_Mo_pairOf 37 = .ok (.iload_n 0, 1) := by decide +kernel
theorem d_Mo_pairOf_38 : decode c_Mo_pairOf 38 = .ok (.iconst 1, 1) := by decide +kernel
theorem d_Mo_pairOf_39 : decode c_Mo_pairOf 39 = .ok (.isub, 1) := by decide +kernel
theorem d_Mo_pairOf_40 : decode c_Mo_pairOf 40 = .ok (.iload 6, 2) := by decide +kernel
theorem d_Mo_pairOf_42 : decode c_Mo_pairOf 42 = .ok (.isub, 1) := by decide +kernel
theorem d_Mo_pairOf_43 : decode c_Mo_pairOf 43 = .ok (.iadd, 1) := by decide +kernel
theorem d_Mo_pairOf_44 : decode c_Mo_pairOf 44 = .ok (.istore 5, 2) := by decide +kernel
theorem d_Mo_pairOf_46 : decode c_Mo_pairOf 46 = .ok (.iinc 6 1, 3) := by decide +kernel
theorem d_Mo_pairOf_49 : decode c_Mo_pairOf 49 = .ok (.goto (-20), 3) := by decide +kernel
theorem d_Mo_pairOf_52 : decode c_Mo_pairOf 52 = .ok (.iload 5, 2) := by decide +kernel
theorem d_Mo_pairOf_54 : decode c_Mo_pairOf 54 = .ok (.iload 4, 2) := by decide +kernel
theorem d_Mo_pairOf_56 : decode c_Mo_pairOf 56 = .ok (.iadd, 1) := by decide +kernel
theorem d_Mo_pairOf_57 : decode c_Mo_pairOf 57 = .ok (.iload_n 3, 1) := by decide +kernel
theorem d_Mo_pairOf_58 : decode c_Mo_pairOf 58 = .ok (.isub, 1) := by decide +kernel
theorem d_Mo_pairOf_59 : decode c_Mo_pairOf 59 = .ok (.iconst 1, 1) := by decide +kernel
theorem d_Mo_pairOf_60 : decode c_Mo_pairOf 60 = .ok (.isub, 1) := by decide +kernel
theorem d_Mo_pairOf_61 : decode c_Mo_pairOf 61 = .ok (.ireturn, 1) := by decide +kernel
theorem d_Mo_countIn_0 : decode c_Mo_countIn 0 = .ok (.iconst 0, 1) := by decide +kernel
theorem d_Mo_countIn_1 : decode c_Mo_countIn 1 = .ok (.istore_n 3, 1) := by decide +kernel
theorem d_Mo_countIn_2 : decode c_Mo_countIn 2 = .ok (.iconst 0, 1) := by decide +kernel
theorem d_Mo_countIn_3 : decode c_Mo_countIn 3 = .ok (.istore 4, 2) := by decide +kernel
theorem d_Mo_countIn_5 : decode c_Mo_countIn 5 = .ok (.iload 4, 2) := by decide +kernel
theorem d_Mo_countIn_7 : decode c_Mo_countIn 7 = .ok (.iload_n 0, 1) := by decide +kernel
theorem d_Mo_countIn_8 : decode c_Mo_countIn 8 = .ok (.if_icmp .ge 37, 3) := by decide +kernel
theorem d_Mo_countIn_11 : decode c_Mo_countIn 11 = .ok (.iload_n 3, 1) := by decide +kernel
theorem d_Mo_countIn_12 : decode c_Mo_countIn 12 = .ok (.iload 4, 2) := by decide +kernel
theorem d_Mo_countIn_14 : decode c_Mo_countIn 14 = .ok (.iload_n 2, 1) := by decide +kernel
theorem d_Mo_countIn_15 : decode c_Mo_countIn 15 = .ok (.if_icmp .eq 21, 3) := by decide +kernel
theorem d_Mo_countIn_18 : decode c_Mo_countIn 18 = .ok (.iload_n 1, 1) := by decide +kernel
theorem d_Mo_countIn_19 : decode c_Mo_countIn 19 = .ok (.iload_n 0, 1) := by decide +kernel
theorem d_Mo_countIn_20 : decode c_Mo_countIn 20 = .ok (.iload_n 2, 1) := by decide +kernel
theorem d_Mo_countIn_21 : decode c_Mo_countIn 21 = .ok (.iload 4, 2) := by decide +kernel
theorem d_Mo_countIn_23 : decode c_Mo_countIn 23 = .ok (.invokestatic 74, 3) := by decide +kernel
theorem d_Mo_countIn_26 : decode c_Mo_countIn 26 = .ok (.invokestatic 78, 3) := by decide +kernel
theorem d_Mo_countIn_29 : decode c_Mo_countIn 29 = .ok (.ifCond .eq 7, 3) := by decide +kernel
theorem d_Mo_countIn_32 : decode c_Mo_countIn 32 = .ok (.iconst 1, 1) := by decide +kernel
theorem d_Mo_countIn_33 : decode c_Mo_countIn 33 = .ok (.goto 4, 3) := by decide +kernel
theorem d_Mo_countIn_36 : decode c_Mo_countIn 36 = .ok (.iconst 0, 1) := by decide +kernel
theorem d_Mo_countIn_37 : decode c_Mo_countIn 37 = .ok (.iadd, 1) := by decide +kernel
theorem d_Mo_countIn_38 : decode c_Mo_countIn 38 = .ok (.istore_n 3, 1) := by decide +kernel
theorem d_Mo_countIn_39 : decode c_Mo_countIn 39 = .ok (.iinc 4 1, 3) := by decide +kernel
theorem d_Mo_countIn_42 : decode c_Mo_countIn 42 = .ok (.goto (-37), 3) := by decide +kernel
theorem d_Mo_countIn_45 : decode c_Mo_countIn 45 = .ok (.iload_n 3, 1) := by decide +kernel
theorem d_Mo_countIn_46 : decode c_Mo_countIn 46 = .ok (.ireturn, 1) := by decide +kernel
theorem d_Mo_findCounts_0 : decode c_Mo_findCounts 0 = .ok (.iconst 0, 1) := by decide +kernel
theorem d_Mo_findCounts_1 : decode c_Mo_findCounts 1 = .ok (.istore_n 3, 1) := by decide +kernel
theorem d_Mo_findCounts_2 : decode c_Mo_findCounts 2 = .ok (.iload_n 3, 1) := by decide +kernel
theorem d_Mo_findCounts_3 : decode c_Mo_findCounts 3 = .ok (.iload_n 1, 1) := by decide +kernel
theorem d_Mo_findCounts_4 : decode c_Mo_findCounts 4 = .ok (.if_icmp .ge 16, 3) := by decide +kernel
theorem d_Mo_findCounts_7 : decode c_Mo_findCounts 7 = .ok (.aload_n 0, 1) := by decide +kernel
theorem d_Mo_findCounts_8 : decode c_Mo_findCounts 8 = .ok (.getfield 20, 3) := by decide +kernel
theorem d_Mo_findCounts_11 : decode c_Mo_findCounts 11 = .ok (.iload_n 3, 1) := by decide +kernel
theorem d_Mo_findCounts_12 : decode c_Mo_findCounts 12 = .ok (.iconst 0, 1) := by decide +kernel
theorem d_Mo_findCounts_13 : decode c_Mo_findCounts 13 = .ok (.iastore, 1) := by decide +kernel
theorem d_Mo_findCounts_14 : decode c_Mo_findCounts 14 = .ok (.iinc 3 1, 3) := by decide +kernel
theorem d_Mo_findCounts_17 : decode c_Mo_findCounts 17 = .ok (.goto (-15), 3) := by decide +kernel
theorem d_Mo_findCounts_20 : decode c_Mo_findCounts 20 = .ok (.iconst 0, 1) := by decide +kernel
theorem d_Mo_findCounts_21 : decode c_Mo_findCounts 21 = .ok (.istore_n 3, 1) := by decide +kernel
theorem d_Mo_findCounts_22 : decode c_Mo_findCounts 22 = .ok (.iconst 0, 1) := by decide +kernel
theorem d_Mo_findCounts_23 : decode c_Mo_findCounts 23 = .ok (.istore 4, 2) := by decide +kernel
theorem d_Mo_findCounts_25 : decode c_Mo_findCounts 25 = .ok (.iload 4, 2) := by decide +kernel
theorem d_Mo_findCounts_27 : decode c_Mo_findCounts 27 = .ok (.iload_n 1, 1) := by decide +kernel
theorem d_Mo_findCounts_28 : decode c_Mo_findCounts 28 = .ok (.if_icmp .ge 60, 3) := by decide +kernel
theorem d_Mo_findCounts_31 : decode c_Mo_findCounts 31 = .ok (.iload 4, 2) := by decide +kernel
theorem d_Mo_findCounts_33 : decode c_Mo_findCounts 33 = .ok (.iconst 1, 1) := by decide +kernel
theorem d_Mo_findCounts_34 : decode c_Mo_findCounts 34 = .ok (.iadd, 1) := by decide +kernel
theorem d_Mo_findCounts_35 : decode c_Mo_findCounts 35 = .ok (.istore 5, 2) := by decide +kernel
theorem d_Mo_findCounts_37 : decode c_Mo_findCounts 37 = .ok (.iload 5, 2) := by decide +kernel
theorem d_Mo_findCounts_39 : decode c_Mo_findCounts 39 = .ok (.iload_n 1, 1) := by decide +kernel
theorem d_Mo_findCounts_40 : decode c_Mo_findCounts 40 = .ok (.if_icmp .ge 42, 3) := by decide +kernel
theorem d_Mo_findCounts_43 : decode c_Mo_findCounts 43 = .ok (.aload_n 0, 1) := by decide +kernel
theorem d_Mo_findCounts_44 : decode c_Mo_findCounts 44 = .ok (.getfield 20, 3) := by decide +kernel
theorem d_Mo_findCounts_47 : decode c_Mo_findCounts 47 = .ok (.iload 4, 2) := by decide +kernel
theorem d_Mo_findCounts_49 : decode c_Mo_findCounts 49 = .ok (.dup2, 1) := by decide +kernel
theorem d_Mo_findCounts_50 : decode c_Mo_findCounts 50 = .ok (.iaload, 1) := by decide +kernel
theorem d_Mo_findCounts_51 : decode c_Mo_findCounts 51 = .ok (.iload_n 2, 1) := by decide +kernel
theorem d_Mo_findCounts_52 : decode c_Mo_findCounts 52 = .ok (.iload_n 3, 1) := by decide +kernel
theorem d_Mo_findCounts_53 : decode c_Mo_findCounts 53 = .ok (.ishr, 1) := by decide +kernel
theorem d_Mo_findCounts_54 : decode c_Mo_findCounts 54 = .ok (.iconst 1, 1) := by decide +kernel
theorem d_Mo_findCounts_55 : decode c_Mo_findCounts 55 = .ok (.iand, 1) := by decide +kernel
theorem d_Mo_findCounts_56 : decode c_Mo_findCounts 56 = .ok (.iadd, 1) := by decide +kernel
theorem d_Mo_findCounts_57 : decode c_Mo_findCounts 57 = .ok (.iastore, 1) := by decide +kernel
theorem d_Mo_findCounts_58 : decode c_Mo_findCounts 58 = .ok (.aload_n 0, 1) := by decide +kernel
theorem d_Mo_findCounts_59 : decode c_Mo_findCounts 59 = .ok (.getfield 20, 3) := by decide +kernel
theorem d_Mo_findCounts_62 : decode c_Mo_findCounts 62 = .ok (.iload 5, 2) := by decide +kernel
theorem d_Mo_findCounts_64 : decode c_Mo_findCounts 64 = .ok (.dup2, 1) := by decide +kernel
theorem d_Mo_findCounts_65 : decode c_Mo_findCounts 65 = .ok (.iaload, 1) := by decide +kernel
theorem d_Mo_findCounts_66 : decode c_Mo_findCounts 66 = .ok (.iload_n 2, 1) := by decide +kernel
theorem d_Mo_findCounts_67 : decode c_Mo_findCounts 67 = .ok (.iload_n 3, 1) := by decide +kernel
theorem d_Mo_findCounts_68 : decode c_Mo_findCounts 68 = .ok (.ishr, 1) := by decide +kernel
theorem d_Mo_findCounts_69 : decode c_Mo_findCounts 69 = .ok (.iconst 1, 1) := by decide +kernel
theorem d_Mo_findCounts_70 : decode c_Mo_findCounts 70 = .ok (.iand, 1) := by decide +kernel
theorem d_Mo_findCounts_71 : decode c_Mo_findCounts 71 = .ok (.iadd, 1) := by decide +kernel
theorem d_Mo_findCounts_72 : decode c_Mo_findCounts 72 = .ok (.iastore, 1) := by decide +kernel
theorem d_Mo_findCounts_73 : decode c_Mo_findCounts 73 = .ok (.iinc 3 1, 3) := by decide +kernel
theorem d_Mo_findCounts_76 : decode c_Mo_findCounts 76 = .ok (.iinc 5 1, 3) := by decide +kernel
theorem d_Mo_findCounts_79 : decode c_Mo_findCounts 79 = .ok (.goto (-42), 3) := by decide +kernel
theorem d_Mo_findCounts_82 : decode c_Mo_findCounts 82 = .ok (.iinc 4 1, 3) := by decide +kernel
theorem d_Mo_findCounts_85 : decode c_Mo_findCounts 85 = .ok (.goto (-60), 3) := by decide +kernel
theorem d_Mo_findCounts_88 : decode c_Mo_findCounts 88 = .ok (.return_, 1) := by decide +kernel
theorem d_Mo_alikeIn_0 : decode c_Mo_alikeIn 0 = .ok (.aload_n 0, 1) := by decide +kernel
theorem d_Mo_alikeIn_1 : decode c_Mo_alikeIn 1 = .ok (.iload_n 1, 1) := by decide +kernel
theorem d_Mo_alikeIn_2 : decode c_Mo_alikeIn 2 = .ok (.iload_n 2, 1) := by decide +kernel
theorem d_Mo_alikeIn_3 : decode c_Mo_alikeIn 3 = .ok (.invokevirtual 82, 3) := by decide +kernel
theorem d_Mo_alikeIn_6 : decode c_Mo_alikeIn 6 = .ok (.iconst 0, 1) := by decide +kernel
theorem d_Mo_alikeIn_7 : decode c_Mo_alikeIn 7 = .ok (.istore_n 3, 1) := by decide +kernel
theorem d_Mo_alikeIn_8 : decode c_Mo_alikeIn 8 = .ok (.iconst 0, 1) := by decide +kernel
theorem d_Mo_alikeIn_9 : decode c_Mo_alikeIn 9 = .ok (.istore 4, 2) := by decide +kernel
theorem d_Mo_alikeIn_11 : decode c_Mo_alikeIn 11 = .ok (.iload 4, 2) := by decide +kernel
theorem d_Mo_alikeIn_13 : decode c_Mo_alikeIn 13 = .ok (.iload_n 1, 1) := by decide +kernel
theorem d_Mo_alikeIn_14 : decode c_Mo_alikeIn 14 = .ok (.if_icmp .ge 52, 3) := by decide +kernel
theorem d_Mo_alikeIn_17 : decode c_Mo_alikeIn 17 = .ok (.iload 4, 2) := by decide +kernel
theorem d_Mo_alikeIn_19 : decode c_Mo_alikeIn 19 = .ok (.iconst 1, 1) := by decide +kernel
theorem d_Mo_alikeIn_20 : decode c_Mo_alikeIn 20 = .ok (.iadd, 1) := by decide +kernel
theorem d_Mo_alikeIn_21 : decode c_Mo_alikeIn 21 = .ok (.istore 5, 2) := by decide +kernel
theorem d_Mo_alikeIn_23 : decode c_Mo_alikeIn 23 = .ok (.iload 5, 2) := by decide +kernel
theorem d_Mo_alikeIn_25 : decode c_Mo_alikeIn 25 = .ok (.iload_n 1, 1) := by decide +kernel
theorem d_Mo_alikeIn_26 : decode c_Mo_alikeIn 26 = .ok (.if_icmp .ge 34, 3) := by decide +kernel
theorem d_Mo_alikeIn_29 : decode c_Mo_alikeIn 29 = .ok (.iload_n 3, 1) := by decide +kernel
theorem d_Mo_alikeIn_30 : decode c_Mo_alikeIn 30 = .ok (.aload_n 0, 1) := by decide +kernel
theorem d_Mo_alikeIn_31 : decode c_Mo_alikeIn 31 = .ok (.getfield 20, 3) := by decide +kernel
theorem d_Mo_alikeIn_34 : decode c_Mo_alikeIn 34 = .ok (.iload 4, 2) := by decide +kernel
theorem d_Mo_alikeIn_36 : decode c_Mo_alikeIn 36 = .ok (.iaload, 1) := by decide +kernel
theorem d_Mo_alikeIn_37 : decode c_Mo_alikeIn 37 = .ok (.aload_n 0, 1) := by decide +kernel
theorem d_Mo_alikeIn_38 : decode c_Mo_alikeIn 38 = .ok (.getfield 20, 3) := by decide +kernel
theorem d_Mo_alikeIn_41 : decode c_Mo_alikeIn 41 = .ok (.iload 5, 2) := by decide +kernel
theorem d_Mo_alikeIn_43 : decode c_Mo_alikeIn 43 = .ok (.iaload, 1) := by decide +kernel
theorem d_Mo_alikeIn_44 : decode c_Mo_alikeIn 44 = .ok (.if_icmp .ne 7, 3) := by decide +kernel
theorem d_Mo_alikeIn_47 : decode c_Mo_alikeIn 47 = .ok (.iconst 1, 1) := by decide +kernel
theorem d_Mo_alikeIn_48 : decode c_Mo_alikeIn 48 = .ok (.goto 4, 3) := by decide +kernel
theorem d_Mo_alikeIn_51 : decode c_Mo_alikeIn 51 = .ok (.iconst 0, 1) := by decide +kernel
theorem d_Mo_alikeIn_52 : decode c_Mo_alikeIn 52 = .ok (.iadd, 1) := by decide +kernel
theorem d_Mo_alikeIn_53 : decode c_Mo_alikeIn 53 = .ok (.istore_n 3, 1) := by decide +kernel
theorem d_Mo_alikeIn_54 : decode c_Mo_alikeIn 54 = .ok (.iinc 5 1, 3) := by decide +kernel
theorem d_Mo_alikeIn_57 : decode c_Mo_alikeIn 57 = .ok (.goto (-34), 3) := by decide +kernel
theorem d_Mo_alikeIn_60 : decode c_Mo_alikeIn 60 = .ok (.iinc 4 1, 3) := by decide +kernel
theorem d_Mo_alikeIn_63 : decode c_Mo_alikeIn 63 = .ok (.goto (-52), 3) := by decide +kernel
theorem d_Mo_alikeIn_66 : decode c_Mo_alikeIn 66 = .ok (.iload_n 3, 1) := by decide +kernel
theorem d_Mo_alikeIn_67 : decode c_Mo_alikeIn 67 = .ok (.ireturn, 1) := by decide +kernel
theorem d_Mo_tellCounts_0 : decode c_Mo_tellCounts 0 = .ok (.iconst 0, 1) := by decide +kernel
theorem d_Mo_tellCounts_1 : decode c_Mo_tellCounts 1 = .ok (.istore_n 1, 1) := by decide +kernel
theorem d_Mo_tellCounts_2 : decode c_Mo_tellCounts 2 = .ok (.iload_n 1, 1) := by decide +kernel
theorem d_Mo_tellCounts_3 : decode c_Mo_tellCounts 3 = .ok (.bipush 8, 2) := by decide +kernel
theorem d_Mo_tellCounts_5 : decode c_Mo_tellCounts 5 = .ok (.if_icmp .ge 39, 3) := by decide +kernel
theorem d_Mo_tellCounts_8 : decode c_Mo_tellCounts 8 = .ok (.aload_n 0, 1) := by decide +kernel
theorem d_Mo_tellCounts_9 : decode c_Mo_tellCounts 9 = .ok (.getfield 16, 3) := by decide +kernel
theorem d_Mo_tellCounts_12 : decode c_Mo_tellCounts 12 = .ok (.iload_n 1, 1) := by decide +kernel
theorem d_Mo_tellCounts_13 : decode c_Mo_tellCounts 13 = .ok (.iload_n 1, 1) := by decide +kernel
theorem d_Mo_tellCounts_14 : decode c_Mo_tellCounts 14 = .ok (.aload_n 0, 1) := by decide +kernel
theorem d_Mo_tellCounts_15 : decode c_Mo_tellCounts 15 = .ok (.getfield 63, 3) := by decide +kernel
theorem d_Mo_tellCounts_18 : decode c_Mo_tellCounts 18 = .ok (.if_icmp .ge 18, 3) := by decide +kernel
theorem d_Mo_tellCounts_21 : decode c_Mo_tellCounts 21 = .ok (.aload_n 0, 1) := by decide +kernel
theorem d_Mo_tellCounts_22 : decode c_Mo_tellCounts 22 = .ok (.getfield 63, 3) := by decide +kernel
theorem d_Mo_tellCounts_25 : decode c_Mo_tellCounts 25 = .ok (.aload_n 0, 1) := by decide +kernel
theorem d_Mo_tellCounts_26 : decode c_Mo_tellCounts 26 = .ok (.getfield 86, 3) := by decide +kernel
theorem d_Mo_tellCounts_29 : decode c_Mo_tellCounts 29 = .ok (.iload_n 1, 1) := by decide +kernel
theorem d_Mo_tellCounts_30 : decode c_Mo_tellCounts 30 = .ok (.invokestatic 89, 3) := by decide +kernel
theorem d_Mo_tellCounts_33 : decode c_Mo_tellCounts 33 = .ok (.goto 4, 3) := by decide +kernel
theorem d_Mo_tellCounts_36 : decode c_Mo_tellCounts 36 = .ok (.iconst 0, 1) := by decide +kernel
theorem d_Mo_tellCounts_37 : decode c_Mo_tellCounts 37 = .ok (.iastore, 1) := by decide +kernel
theorem d_Mo_tellCounts_38 : decode c_Mo_tellCounts 38 = .ok (.iinc 1 1, 3) := by decide +kernel
theorem d_Mo_tellCounts_41 : decode c_Mo_tellCounts 41 = .ok (.goto (-39), 3) := by decide +kernel
theorem d_Mo_tellCounts_44 : decode c_Mo_tellCounts 44 = .ok (.return_, 1) := by decide +kernel
theorem d_Mo_feed_0 : decode c_Mo_feed 0 = .ok (.iload_n 1, 1) := by decide +kernel
theorem d_Mo_feed_1 : decode c_Mo_feed 1 = .ok (.i2l, 1) := by decide +kernel
theorem d_Mo_feed_2 : decode c_Mo_feed 2 = .ok (.lconst 1, 1) := by decide +kernel
theorem d_Mo_feed_3 : decode c_Mo_feed 3 = .ok (.ldc2_w 92, 3) := by decide +kernel
theorem d_Mo_feed_6 : decode c_Mo_feed 6 = .ok (.invokestatic 66, 3) := by decide +kernel
theorem d_Mo_feed_9 : decode c_Mo_feed 9 = .ok (.ifCond .ne 6, 3) := by decide +kernel
theorem d_Mo_feed_12 : decode c_Mo_feed 12 = .ok (.ldc 94, 2) := by decide +kernel
theorem d_Mo_feed_14 : decode c_Mo_feed 14 = .ok (.ireturn, 1) := by decide +kernel
theorem d_Mo_feed_15 : decode c_Mo_feed 15 = .ok (.aload_n 0, 1) := by decide +kernel
theorem d_Mo_feed_16 : decode c_Mo_feed 16 = .ok (.getfield 95, 3) := by decide +kernel
theorem d_Mo_feed_19 : decode c_Mo_feed 19 = .ok (.iload_n 1, 1) := by decide +kernel
theorem d_Mo_feed_20 : decode c_Mo_feed 20 = .ok (.iadd, 1) := by decide +kernel
theorem d_Mo_feed_21 : decode c_Mo_feed 21 = .ok (.sipush 400, 3) := by decide +kernel
theorem d_Mo_feed_24 : decode c_Mo_feed 24 = .ok (.if_icmp .le 6, 3) := by decide +kernel
theorem d_Mo_feed_27 : decode c_Mo_feed 27 = .ok (.ldc 98, 2) := by decide +kernel
theorem d_Mo_feed_29 : decode c_Mo_feed 29 = .ok (.ireturn, 1) := by decide +kernel
theorem d_Mo_feed_30 : decode c_Mo_feed 30 = .ok (.iload_n 1, 1) := by decide +kernel
theorem d_Mo_feed_31 : decode c_Mo_feed 31 = .ok (.iconst 1, 1) := by decide +kernel
theorem d_Mo_feed_32 : decode c_Mo_feed 32 = .ok (.isub, 1) := by decide +kernel
theorem d_Mo_feed_33 : decode c_Mo_feed 33 = .ok (.istore 4, 2) := by decide +kernel
theorem d_Mo_feed_35 : decode c_Mo_feed 35 = .ok (.iload 4, 2) := by decide +kernel
theorem d_Mo_feed_37 : decode c_Mo_feed 37 = .ok (.ifCond .lt 40, 3) := by decide +kernel
theorem d_Mo_feed_40 : decode c_Mo_feed 40 = .ok (.aload_n 0, 1) := by decide +kernel
theorem d_Mo_feed_41 : decode c_Mo_feed 41 = .ok (.getfield 23, 3) := by decide +kernel
theorem d_Mo_feed_44 : decode c_Mo_feed 44 = .ok (.aload_n 0, 1) := by decide +kernel
theorem d_Mo_feed_45 : decode c_Mo_feed 45 = .ok (.getfield 95, 3) := by decide +kernel
theorem d_Mo_feed_48 : decode c_Mo_feed 48 = .ok (.lload_n 2, 1) := by decide +kernel
theorem d_Mo_feed_49 : decode c_Mo_feed 49 = .ok (.bipush 8, 2) := by decide +kernel
theorem d_Mo_feed_51 : decode c_Mo_feed 51 = .ok (.iload 4, 2) := by decide +kernel
theorem d_Mo_feed_53 : decode c_Mo_feed 53 = .ok (.imul, 1) := by decide +kernel
theorem d_Mo_feed_54 : decode c_Mo_feed 54 = .ok (.lshr, 1) := by decide +kernel
theorem d_Mo_feed_55 : decode c_Mo_feed 55 = .ok (.ldc2_w 99, 3) := by decide +kernel
theorem d_Mo_feed_58 : decode c_Mo_feed 58 = .ok (.land, 1) := by decide +kernel
theorem d_Mo_feed_59 : decode c_Mo_feed 59 = .ok (.l2i, 1) := by decide +kernel
theorem d_Mo_feed_60 : decode c_Mo_feed 60 = .ok (.iastore, 1) := by decide +kernel
theorem d_Mo_feed_61 : decode c_Mo_feed 61 = .ok (.aload_n 0, 1) := by decide +kernel
theorem d_Mo_feed_62 : decode c_Mo_feed 62 = .ok (.dup, 1) := by decide +kernel
theorem d_Mo_feed_63 : decode c_Mo_feed 63 = .ok (.getfield 95, 3) := by decide +kernel
theorem d_Mo_feed_66 : decode c_Mo_feed 66 = .ok (.iconst 1, 1) := by decide +kernel
theorem d_Mo_feed_67 : decode c_Mo_feed 67 = .ok (.iadd, 1) := by decide +kernel
theorem d_Mo_feed_68 : decode c_Mo_feed 68 = .ok (.putfield 95, 3) := by decide +kernel
theorem d_Mo_feed_71 : decode c_Mo_feed 71 = .ok (.iinc 4 (-1), 3) := by decide +kernel
theorem d_Mo_feed_74 : decode c_Mo_feed 74 = .ok (.goto (-39), 3) := by decide +kernel
theorem d_Mo_feed_77 : decode c_Mo_feed 77 = .ok (.aload_n 0, 1) := by decide +kernel
theorem d_Mo_feed_78 : decode c_Mo_feed 78 = .ok (.getfield 95, 3) := by decide +kernel
theorem d_Mo_feed_81 : decode c_Mo_feed 81 = .ok (.ireturn, 1) := by decide +kernel
theorem d_Mo_here_0 : decode c_Mo_here 0 = .ok (.aload_n 0, 1) := by decide +kernel
theorem d_Mo_here_1 : decode c_Mo_here 1 = .ok (.getfield 101, 3) := by decide +kernel
theorem d_Mo_here_4 : decode c_Mo_here 4 = .ok (.aload_n 0, 1) := by decide +kernel
theorem d_Mo_here_5 : decode c_Mo_here 5 = .ok (.getfield 95, 3) := by decide +kernel
theorem d_Mo_here_8 : decode c_Mo_here 8 = .ok (.if_icmp .ge 30, 3) := by decide +kernel
theorem d_Mo_here_11 : decode c_Mo_here 11 = .ok (.aload_n 0, 1) := by decide +kernel
theorem d_Mo_here_12 : decode c_Mo_here 12 = .ok (.getfield 23, 3) := by decide +kernel
theorem d_Mo_here_15 : decode c_Mo_here 15 = .ok (.aload_n 0, 1) := by decide +kernel
theorem d_Mo_here_16 : decode c_Mo_here 16 = .ok (.getfield 101, 3) := by decide +kernel
theorem d_Mo_here_19 : decode c_Mo_here 19 = .ok (.iaload, 1) := by decide +kernel
theorem d_Mo_here_20 : decode c_Mo_here 20 = .ok (.bipush 32, 2) := by decide +kernel
theorem d_Mo_here_22 : decode c_Mo_here 22 = .ok (.if_icmp .ne 16, 3) := by decide +kernel
theorem d_Mo_here_25 : decode c_Mo_here 25 = .ok (.aload_n 0, 1) := by decide +kernel
theorem d_Mo_here_26 : decode c_Mo_here 26 = .ok (.dup, 1) := by decide +kernel
theorem d_Mo_here_27 : decode c_Mo_here 27 = .ok (.getfield 101, 3) := by decide +kernel
theorem d_Mo_here_30 : decode c_Mo_here 30 = .ok (.iconst 1, 1) := by decide +kernel
theorem d_Mo_here_31 : decode c_Mo_here 31 = .ok (.iadd, 1) := by decide +kernel
theorem d_Mo_here_32 : decode c_Mo_here 32 = .ok (.putfield 101, 3) := by decide +kernel
theorem d_Mo_here_35 : decode c_Mo_here 35 = .ok (.goto (-35), 3) := by decide +kernel
theorem d_Mo_here_38 : decode c_Mo_here 38 = .ok (.aload_n 0, 1) := by decide +kernel
theorem d_Mo_here_39 : decode c_Mo_here 39 = .ok (.getfield 101, 3) := by decide +kernel
theorem d_Mo_here_42 : decode c_Mo_here 42 = .ok (.aload_n 0, 1) := by decide +kernel
theorem d_Mo_here_43 : decode c_Mo_here 43 = .ok (.getfield 95, 3) := by decide +kernel
theorem d_Mo_here_46 : decode c_Mo_here 46 = .ok (.if_icmp .ge 15, 3) := by decide +kernel
theorem d_Mo_here_49 : decode c_Mo_here 49 = .ok (.aload_n 0, 1) := by decide +kernel
theorem d_Mo_here_50 : decode c_Mo_here 50 = .ok (.getfield 23, 3) := by decide +kernel
theorem d_Mo_here_53 : decode c_Mo_here 53 = .ok (.aload_n 0, 1) := by decide +kernel
theorem d_Mo_here_54 : decode c_Mo_here 54 = .ok (.getfield 101, 3) := by decide +kernel
theorem d_Mo_here_57 : decode c_Mo_here 57 = .ok (.iaload, 1) := by decide +kernel
theorem d_Mo_here_58 : decode c_Mo_here 58 = .ok (.goto 4, 3) := by decide +kernel
theorem d_Mo_here_61 : decode c_Mo_here 61 = .ok (.iconst (-1), 1) := by decide +kernel
theorem d_Mo_here_62 : decode c_Mo_here 62 = .ok (.ireturn, 1) := by decide +kernel
theorem d_Mo_fails_0 : decode c_Mo_fails 0 = .ok (.aload_n 0, 1) := by decide +kernel
theorem d_Mo_fails_1 : decode c_Mo_fails 1 = .ok (.iload_n 2, 1) := by decide +kernel
theorem d_Mo_fails_2 : decode c_Mo_fails 2 = .ok (.putfield 26, 3) := by decide +kernel
theorem d_Mo_fails_5 : decode c_Mo_fails 5 = .ok (.iload_n 1, 1) := by decide +kernel
theorem d_Mo_fails_6 : decode c_Mo_fails 6 = .ok (.ireturn, 1) := by decide +kernel
theorem d_Mo_readWord_0 : decode c_Mo_readWord 0 = .ok (.aload_n 0, 1) := by decide +kernel
theorem d_Mo_readWord_1 : decode c_Mo_readWord 1 = .ok (.invokevirtual 104, 3) := by decide +kernel
theorem d_Mo_readWord_4 : decode c_Mo_readWord 4 = .ok (.istore_n 1, 1) := by decide +kernel
theorem d_Mo_readWord_5 : decode c_Mo_readWord 5 = .ok (.aload_n 0, 1) := by decide +kernel
theorem d_Mo_readWord_6 : decode c_Mo_readWord 6 = .ok (.lconst 0, 1) := by decide +kernel
theorem d_Mo_readWord_7 : decode c_Mo_readWord 7 = .ok (.putfield 108, 3) := by decide +kernel
theorem d_Mo_readWord_10 : decode c_Mo_readWord 10 = .ok (.aload_n 0, 1) := by decide +kernel
theorem d_Mo_readWord_11 : decode c_Mo_readWord 11 = .ok (.aload_n 0, 1) := by decide +kernel
theorem d_Mo_readWord_12 : decode c_Mo_readWord 12 = .ok (.getfield 101, 3) := by decide +kernel
theorem d_Mo_readWord_15 : decode c_Mo_readWord 15 = .ok (.putfield 112, 3) := by decide +kernel
theorem d_Mo_readWord_18 : decode c_Mo_readWord 18 = .ok (.aload_n 0, 1) := by decide +kernel
theorem d_Mo_readWord_19 : decode c_Mo_readWord 19 = .ok (.getfield 112, 3) := by decide +kernel
theorem d_Mo_readWord_22 : decode c_Mo_readWord 22 = .ok (.aload_n 0, 1) := by decide +kernel
theorem d_Mo_readWord_23 : decode c_Mo_readWord 23 = .ok (.getfield 95, 3) := by decide +kernel
theorem d_Mo_readWord_26 : decode c_Mo_readWord 26 = .ok (.if_icmp .ge 82, 3) := by decide +kernel
theorem d_Mo_readWord_29 : decode c_Mo_readWord 29 = .ok (.aload_n 0, 1) := by decide +kernel
theorem d_Mo_readWord_30 : decode c_Mo_readWord 30 = .ok (.getfield 23, 3) := by decide +kernel
theorem d_Mo_readWord_33 : decode c_Mo_readWord 33 = .ok (.aload_n 0, 1) := by decide +kernel
theorem d_Mo_readWord_34 : decode c_Mo_readWord 34 = .ok (.getfield 112, 3) := by decide +kernel
theorem d_Mo_readWord_37 : decode c_Mo_readWord 37 = .ok (.iaload, 1) := by decide +kernel
theorem d_Mo_readWord_38 : decode c_Mo_readWord 38 = .ok (.i2l, 1) := by decide +kernel
theorem d_Mo_readWord_39 : decode c_Mo_readWord 39 = .ok (.ldc2_w 115, 3) := by decide +kernel
theorem d_Mo_readWord_42 : decode c_Mo_readWord 42 = .ok (.ldc2_w 117, 3) := by decide +kernel
theorem d_Mo_readWord_45 : decode c_Mo_readWord 45 = .ok (.invokestatic 66, 3) := by decide +kernel
theorem d_Mo_readWord_48 : decode c_Mo_readWord 48 = .ok (.ifCond .eq 60, 3) := by decide +kernel
theorem d_Mo_readWord_51 : decode c_Mo_readWord 51 = .ok (.aload_n 0, 1) := by decide +kernel
theorem d_Mo_readWord_52 : decode c_Mo_readWord 52 = .ok (.aload_n 0, 1) := by decide +kernel
theorem d_Mo_readWord_53 : decode c_Mo_readWord 53 = .ok (.getfield 108, 3) := by decide +kernel
theorem d_Mo_readWord_56 : decode c_Mo_readWord 56 = .ok (.ldc2_w 119, 3) := by decide +kernel
theorem d_Mo_readWord_59 : decode c_Mo_readWord 59 = .ok (.lcmp, 1) := by decide +kernel
theorem d_Mo_readWord_60 : decode c_Mo_readWord 60 = .ok (.ifCond .le 9, 3) := by decide +kernel
theorem d_Mo_readWord_63 : decode c_Mo_readWord 63 = .ok (.ldc2_w 121, 3) := by decide +kernel
theorem d_Mo_readWord_66 : decode c_Mo_readWord 66 = .ok (.goto 26, 3) := by decide +kernel
theorem d_Mo_readWord_69 : decode c_Mo_readWord 69 = .ok (.ldc2_w 123, 3) := by decide +kernel
theorem d_Mo_readWord_72 : decode c_Mo_readWord 72 = .ok (.aload_n 0, 1) := by decide +kernel
theorem d_Mo_readWord_73 : decode c_Mo_readWord 73 = .ok (.getfield 108, 3) := by decide +kernel
theorem d_Mo_readWord_76 : decode c_Mo_readWord 76 = .ok (.lmul, 1) := by decide +kernel
theorem d_Mo_readWord_77 : decode c_Mo_readWord 77 = .ok (.aload_n 0, 1) := by decide +kernel
theorem d_Mo_readWord_78 : decode c_Mo_readWord 78 = .ok (.getfield 23, 3) := by decide +kernel
theorem d_Mo_readWord_81 : decode c_Mo_readWord 81 = .ok (.aload_n 0, 1) := by decide +kernel
theorem d_Mo_readWord_82 : decode c_Mo_readWord 82 = .ok (.getfield 112, 3) := by decide +kernel
theorem d_Mo_readWord_85 : decode c_Mo_readWord 85 = .ok (.iaload, 1) := by decide +kernel
theorem d_Mo_readWord_86 : decode c_Mo_readWord 86 = .ok (.i2l, 1) := by decide +kernel
theorem d_Mo_readWord_87 : decode c_Mo_readWord 87 = .ok (.ladd, 1) := by decide +kernel
theorem d_Mo_readWord_88 : decode c_Mo_readWord 88 = .ok (.ldc2_w 125, 3) := by decide +kernel
theorem d_Mo_readWord_91 : decode c_Mo_readWord 91 = .ok (.lsub, 1) := by decide +kernel
theorem d_Mo_readWord_92 : decode c_Mo_readWord 92 = .ok (.putfield 108, 3) := by decide +kernel
theorem d_Mo_readWord_95 : decode c_Mo_readWord 95 = .ok (.aload_n 0, 1) := by decide +kernel
theorem d_Mo_readWord_96 : decode c_Mo_readWord 96 = .ok (.dup, 1) := by decide +kernel
theorem d_Mo_readWord_97 : decode c_Mo_readWord 97 = .ok (.getfield 112, 3) := by decide +kernel
theorem d_Mo_readWord_100 : decode c_Mo_readWord 100 = .ok (.iconst 1, 1) := by decide +kernel
theorem d_Mo_readWord_101 : decode c_Mo_readWord 101 = .ok (.iadd, 1) := by decide +kernel
theorem d_Mo_readWord_102 : decode c_Mo_readWord 102 = .ok (.putfield 112, 3) := by decide +kernel
theorem d_Mo_readWord_105 : decode c_Mo_readWord 105 = .ok (.goto (-87), 3) := by decide +kernel
theorem d_Mo_readWord_108 : decode c_Mo_readWord 108 = .ok (.return_, 1) := by decide +kernel
theorem d_Mo_code_0 : decode c_Mo_code 0 = .ok (.ldc2_w 123, 3) := by decide +kernel
theorem d_Mo_code_3 : decode c_Mo_code 3 = .ok (.ldc2_w 123, 3) := by decide +kernel
theorem d_Mo_code_6 : decode c_Mo_code 6 = .ok (.ldc2_w 123, 3) := by decide +kernel
theorem d_Mo_code_9 : decode c_Mo_code 9 = .ok (.iload_n 0, 1) := by decide +kernel
theorem d_Mo_code_10 : decode c_Mo_code 10 = .ok (.i2l, 1) := by decide +kernel
theorem d_Mo_code_11 : decode c_Mo_code 11 = .ok (.ldc2_w 125, 3) := by decide +kernel
theorem d_Mo_code_14 : decode c_Mo_code 14 = .ok (.lsub, 1) := by decide +kernel
theorem d_Mo_code_15 : decode c_Mo_code 15 = .ok (.lmul, 1) := by decide +kernel
theorem d_Mo_code_16 : decode c_Mo_code 16 = .ok (.iload_n 1, 1) := by decide +kernel
theorem d_Mo_code_17 : decode c_Mo_code 17 = .ok (.i2l, 1) := by decide +kernel
theorem d_Mo_code_18 : decode c_Mo_code 18 = .ok (.ladd, 1) := by decide +kernel
theorem d_Mo_code_19 : decode c_Mo_code 19 = .ok (.ldc2_w 125, 3) := by decide +kernel
theorem d_Mo_code_22 : decode c_Mo_code 22 = .ok (.lsub, 1) := by decide +kernel
theorem d_Mo_code_23 : decode c_Mo_code 23 = .ok (.lmul, 1) := by decide +kernel
theorem d_Mo_code_24 : decode c_Mo_code 24 = .ok (.iload_n 2, 1) := by decide +kernel
theorem d_Mo_code_25 : decode c_Mo_code 25 = .ok (.i2l, 1) := by decide +kernel
theorem d_Mo_code_26 : decode c_Mo_code 26 = .ok (.ladd, 1) := by decide +kernel
theorem d_Mo_code_27 : decode c_Mo_code 27 = .ok (.ldc2_w 125, 3) := by decide +kernel
theorem d_Mo_code_30 : decode c_Mo_code 30 = .ok (.lsub, 1) := by decide +kernel
theorem d_Mo_code_31 : decode c_Mo_code 31 = .ok (.lmul, 1) := by decide +kernel
theorem d_Mo_code_32 : decode c_Mo_code 32 = .ok (.iload_n 3, 1) := by decide +kernel
theorem d_Mo_code_33 : decode c_Mo_code 33 = .ok (.i2l, 1) := by decide +kernel
theorem d_Mo_code_34 : decode c_Mo_code 34 = .ok (.ladd, 1) := by decide +kernel
theorem d_Mo_code_35 : decode c_Mo_code 35 = .ok (.ldc2_w 125, 3) := by decide +kernel
theorem d_Mo_code_38 : decode c_Mo_code 38 = .ok (.lsub, 1) := by decide +kernel
theorem d_Mo_code_39 : decode c_Mo_code 39 = .ok (.lreturn, 1) := by decide +kernel
theorem d_Mo_longer_0 : decode c_Mo_longer 0 = .ok (.ldc2_w 123, 3) := by decide +kernel
theorem d_Mo_longer_3 : decode c_Mo_longer 3 = .ok (.ldc2_w 123, 3) := by decide +kernel
theorem d_Mo_longer_6 : decode c_Mo_longer 6 = .ok (.lload_n 0, 1) := by decide +kernel
theorem d_Mo_longer_7 : decode c_Mo_longer 7 = .ok (.lmul, 1) := by decide +kernel
theorem d_Mo_longer_8 : decode c_Mo_longer 8 = .ok (.iload_n 2, 1) := by decide +kernel
theorem d_Mo_longer_9 : decode c_Mo_longer 9 = .ok (.i2l, 1) := by decide +kernel
theorem d_Mo_longer_10 : decode c_Mo_longer 10 = .ok (.ladd, 1) := by decide +kernel
theorem d_Mo_longer_11 : decode c_Mo_longer 11 = .ok (.ldc2_w 125, 3) := by decide +kernel
theorem d_Mo_longer_14 : decode c_Mo_longer 14 = .ok (.lsub, 1) := by decide +kernel
theorem d_Mo_longer_15 : decode c_Mo_longer 15 = .ok (.lmul, 1) := by decide +kernel
theorem d_Mo_longer_16 : decode c_Mo_longer 16 = .ok (.iload_n 3, 1) := by decide +kernel
theorem d_Mo_longer_17 : decode c_Mo_longer 17 = .ok (.i2l, 1) := by decide +kernel
theorem d_Mo_longer_18 : decode c_Mo_longer 18 = .ok (.ladd, 1) := by decide +kernel
theorem d_Mo_longer_19 : decode c_Mo_longer 19 = .ok (.ldc2_w 125, 3) := by decide +kernel
theorem d_Mo_longer_22 : decode c_Mo_longer 22 = .ok (.lsub, 1) := by decide +kernel
theorem d_Mo_longer_23 : decode c_Mo_longer 23 = .ok (.lreturn, 1) := by decide +kernel
theorem d_Mo_takeNumber_0 : decode c_Mo_takeNumber 0 = .ok (.aload_n 0, 1) := by decide +kernel
theorem d_Mo_takeNumber_1 : decode c_Mo_takeNumber 1 = .ok (.invokevirtual 104, 3) := by decide +kernel
theorem d_Mo_takeNumber_4 : decode c_Mo_takeNumber 4 = .ok (.istore_n 3, 1) := by decide +kernel
theorem d_Mo_takeNumber_5 : decode c_Mo_takeNumber 5 = .ok (.iload_n 3, 1) := by decide +kernel
theorem d_Mo_takeNumber_6 : decode c_Mo_takeNumber 6 = .ok (.i2l, 1) := by decide +kernel
theorem d_Mo_takeNumber_7 : decode c_Mo_takeNumber 7 = .ok (.ldc2_w 127, 3) := by decide +kernel
theorem d_Mo_takeNumber_10 : decode c_Mo_takeNumber 10 = .ok (.ldc2_w 129, 3) := by decide +kernel
theorem d_Mo_takeNumber_13 : decode c_Mo_takeNumber 13 = .ok (.invokestatic 66, 3) := by decide +kernel
theorem d_Mo_takeNumber_16 : decode c_Mo_takeNumber 16 = .ok (.ifCond .ne 13, 3) := by decide +kernel
theorem d_Mo_takeNumber_19 : decode c_Mo_takeNumber 19 = .ok (.aload_n 0, 1) := by decide +kernel
theorem d_Mo_takeNumber_20 : decode c_Mo_takeNumber 20 = .ok (.iconst 1, 1) := by decide +kernel
theorem d_Mo_takeNumber_21 : decode c_Mo_takeNumber 21 = .ok (.aload_n 0, 1) := by decide +kernel
theorem d_Mo_takeNumber_22 : decode c_Mo_takeNumber 22 = .ok (.getfield 101, 3) := by decide +kernel
theorem d_Mo_takeNumber_25 : decode c_Mo_takeNumber 25 = .ok (.invokevirtual 131, 3) := by decide +kernel
theorem d_Mo_takeNumber_28 : decode c_Mo_takeNumber 28 = .ok (.ireturn, 1) := by decide +kernel
theorem d_Mo_takeNumber_29 : decode c_Mo_takeNumber 29 = .ok (.aload_n 0, 1) := by decide +kernel
theorem d_Mo_takeNumber_30 : decode c_Mo_takeNumber 30 = .ok (.aload_n 0, 1) := by decide +kernel
theorem d_Mo_takeNumber_31 : decode c_Mo_takeNumber 31 = .ok (.getfield 101, 3) := by decide +kernel
theorem d_Mo_takeNumber_34 : decode c_Mo_takeNumber 34 = .ok (.putfield 135, 3) := by decide +kernel
theorem d_Mo_takeNumber_37 : decode c_Mo_takeNumber 37 = .ok (.aload_n 0, 1) := by decide +kernel
theorem d_Mo_takeNumber_38 : decode c_Mo_takeNumber 38 = .ok (.iconst 0, 1) := by decide +kernel
theorem d_Mo_takeNumber_39 : decode c_Mo_takeNumber 39 = .ok (.putfield 138, 3) := by decide +kernel
theorem d_Mo_takeNumber_42 : decode c_Mo_takeNumber 42 = .ok (.aload_n 0, 1) := by decide +kernel
theorem d_Mo_takeNumber_43 : decode c_Mo_takeNumber 43 = .ok (.getfield 101, 3) := by decide +kernel
theorem d_Mo_takeNumber_46 : decode c_Mo_takeNumber 46 = .ok (.aload_n 0, 1) := by decide +kernel
theorem d_Mo_takeNumber_47 : decode c_Mo_takeNumber 47 = .ok (.getfield 95, 3) := by decide +kernel
theorem d_Mo_takeNumber_50 : decode c_Mo_takeNumber 50 = .ok (.if_icmp .ge 79, 3) := by decide +kernel
theorem d_Mo_takeNumber_53 : decode c_Mo_takeNumber 53 = .ok (.aload_n 0, 1) := by decide +kernel
theorem d_Mo_takeNumber_54 : decode c_Mo_takeNumber 54 = .ok (.getfield 23, 3) := by decide +kernel
theorem d_Mo_takeNumber_57 : decode c_Mo_takeNumber 57 = .ok (.aload_n 0, 1) := by decide +kernel
theorem d_Mo_takeNumber_58 : decode c_Mo_takeNumber 58 = .ok (.getfield 101, 3) := by decide +kernel
theorem d_Mo_takeNumber_61 : decode c_Mo_takeNumber 61 = .ok (.iaload, 1) := by decide +kernel
theorem d_Mo_takeNumber_62 : decode c_Mo_takeNumber 62 = .ok (.i2l, 1) := by decide +kernel
theorem d_Mo_takeNumber_63 : decode c_Mo_takeNumber 63 = .ok (.ldc2_w 127, 3) := by decide +kernel
theorem d_Mo_takeNumber_66 : decode c_Mo_takeNumber 66 = .ok (.ldc2_w 129, 3) := by decide +kernel
theorem d_Mo_takeNumber_69 : decode c_Mo_takeNumber 69 = .ok (.invokestatic 66, 3) := by decide +kernel
theorem d_Mo_takeNumber_72 : decode c_Mo_takeNumber 72 = .ok (.ifCond .eq 57, 3) := by decide +kernel
theorem d_Mo_takeNumber_75 : decode c_Mo_takeNumber 75 = .ok (.aload_n 0, 1) := by decide +kernel
theorem d_Mo_takeNumber_76 : decode c_Mo_takeNumber 76 = .ok (.aload_n 0, 1) := by decide +kernel
theorem d_Mo_takeNumber_77 : decode c_Mo_takeNumber 77 = .ok (.getfield 138, 3) := by decide +kernel
theorem d_Mo_takeNumber_80 : decode c_Mo_takeNumber 80 = .ok (.sipush 10000, 3) := by decide +kernel
theorem d_Mo_takeNumber_83 : decode c_Mo_takeNumber 83 = .ok (.if_icmp .le 10, 3) := by decide +kernel
theorem d_Mo_takeNumber_86 : decode c_Mo_takeNumber 86 = .ok (.aload_n 0, 1) := by decide +kernel
theorem d_Mo_takeNumber_87 : decode c_Mo_takeNumber 87 = .ok (.getfield 138, 3) := by decide +kernel
theorem d_Mo_takeNumber_90 : decode c_Mo_takeNumber 90 = .ok (.goto 23, 3) := by decide +kernel
theorem d_Mo_takeNumber_93 : decode c_Mo_takeNumber 93 = .ok (.bipush 10, 2) := by decide +kernel
theorem d_Mo_takeNumber_95 : decode c_Mo_takeNumber 95 = .ok (.aload_n 0, 1) := by decide +kernel
theorem d_Mo_takeNumber_96 : decode c_Mo_takeNumber 96 = .ok (.getfield 138, 3) := by decide +kernel
theorem d_Mo_takeNumber_99 : decode c_Mo_takeNumber 99 = .ok (.imul, 1) := by decide +kernel
theorem d_Mo_takeNumber_100 : decode c_Mo_takeNumber 100 = .ok (.aload_n 0, 1) := by decide +kernel
theorem d_Mo_takeNumber_101 : decode c_Mo_takeNumber 101 = .ok (.getfield 23, 3) := by decide +kernel
theorem d_Mo_takeNumber_104 : decode c_Mo_takeNumber 104 = .ok (.aload_n 0, 1) := by decide +kernel
theorem d_Mo_takeNumber_105 : decode c_Mo_takeNumber 105 = .ok (.getfield 101, 3) := by decide +kernel
theorem d_Mo_takeNumber_108 : decode c_Mo_takeNumber 108 = .ok (.iaload, 1) := by decide +kernel
theorem d_Mo_takeNumber_109 : decode c_Mo_takeNumber 109 = .ok (.iadd, 1) := by decide +kernel
theorem d_Mo_takeNumber_110 : decode c_Mo_takeNumber 110 = .ok (.bipush 48, 2) := by decide +kernel
theorem d_Mo_takeNumber_112 : decode c_Mo_takeNumber 112 = .ok (.isub, 1) := by decide +kernel
theorem d_Mo_takeNumber_113 : decode c_Mo_takeNumber 113 = .ok (.putfield 138, 3) := by decide +kernel
theorem d_Mo_takeNumber_116 : decode c_Mo_takeNumber 116 = .ok (.aload_n 0, 1) := by decide +kernel
theorem d_Mo_takeNumber_117 : decode c_Mo_takeNumber 117 = .ok (.dup, 1) := by decide +kernel
theorem d_Mo_takeNumber_118 : decode c_Mo_takeNumber 118 = .ok (.getfield 101, 3) := by decide +kernel
theorem d_Mo_takeNumber_121 : decode c_Mo_takeNumber 121 = .ok (.iconst 1, 1) := by decide +kernel
theorem d_Mo_takeNumber_122 : decode c_Mo_takeNumber 122 = .ok (.iadd, 1) := by decide +kernel
theorem d_Mo_takeNumber_123 : decode c_Mo_takeNumber 123 = .ok (.putfield 101, 3) := by decide +kernel
theorem d_Mo_takeNumber_126 : decode c_Mo_takeNumber 126 = .ok (.goto (-84), 3) := by decide +kernel
theorem d_Mo_takeNumber_129 : decode c_Mo_takeNumber 129 = .ok (.aload_n 0, 1) := by decide +kernel
theorem d_Mo_takeNumber_130 : decode c_Mo_takeNumber 130 = .ok (.getfield 101, 3) := by decide +kernel
theorem d_Mo_takeNumber_133 : decode c_Mo_takeNumber 133 = .ok (.aload_n 0, 1) := by decide +kernel
theorem d_Mo_takeNumber_134 : decode c_Mo_takeNumber 134 = .ok (.getfield 135, 3) := by decide +kernel
theorem d_Mo_takeNumber_137 : decode c_Mo_takeNumber 137 = .ok (.isub, 1) := by decide +kernel
theorem d_Mo_takeNumber_138 : decode c_Mo_takeNumber 138 = .ok (.iconst 3, 1) := by decide +kernel
theorem d_Mo_takeNumber_139 : decode c_Mo_takeNumber 139 = .ok (.if_icmp .gt 18, 3) := by decide +kernel
theorem d_Mo_takeNumber_142 : decode c_Mo_takeNumber 142 = .ok (.aload_n 0, 1) := by decide +kernel
theorem d_Mo_takeNumber_143 : decode c_Mo_takeNumber 143 = .ok (.getfield 138, 3) := by decide +kernel
theorem d_Mo_takeNumber_146 : decode c_Mo_takeNumber 146 = .ok (.i2l, 1) := by decide +kernel
theorem d_Mo_takeNumber_147 : decode c_Mo_takeNumber 147 = .ok (.iload_n 1, 1) := by decide +kernel
theorem d_Mo_takeNumber_148 : decode c_Mo_takeNumber 148 = .ok (.i2l, 1) := by decide +kernel
theorem d_Mo_takeNumber_149 : decode c_Mo_takeNumber 149 = .ok (.iload_n 2, 1) := by decide +kernel
theorem d_Mo_takeNumber_150 : decode c_Mo_takeNumber 150 = .ok (.i2l, 1) := by decide +kernel
theorem d_Mo_takeNumber_151 : decode c_Mo_takeNumber 151 = .ok (.invokestatic 66, 3) := by decide +kernel
theorem d_Mo_takeNumber_154 : decode c_Mo_takeNumber 154 = .ok (.ifCond .ne 15, 3) := by decide +kernel
theorem d_Mo_takeNumber_157 : decode c_Mo_takeNumber 157 = .ok (.aload_n 0, 1) := by decide +kernel
theorem d_Mo_takeNumber_158 : decode c_Mo_takeNumber 158 = .ok (.iconst 2, 1) := by decide +kernel
theorem d_Mo_takeNumber_159 : decode c_Mo_takeNumber 159 = .ok (.aload_n 0, 1) := by decide +kernel
theorem d_Mo_takeNumber_160 : decode c_Mo_takeNumber 160 = .ok (.getfield 135, 3) := by decide +kernel
theorem d_Mo_takeNumber_163 : decode c_Mo_takeNumber 163 = .ok (.invokevirtual 131, 3) := by decide +kernel
theorem d_Mo_takeNumber_166 : decode c_Mo_takeNumber 166 = .ok (.goto 4, 3) := by decide +kernel
theorem d_Mo_takeNumber_169 : decode c_Mo_takeNumber 169 = .ok (.iconst 0, 1) := by decide +kernel
theorem d_Mo_takeNumber_170 : decode c_Mo_takeNumber 170 = .ok (.ireturn, 1) := by decide +kernel
theorem d_Mo_takeTwo_0 : decode c_Mo_takeTwo 0 = .ok (.aload_n 0, 1) := by decide +kernel
theorem d_Mo_takeTwo_1 : decode c_Mo_takeTwo 1 = .ok (.iconst 0, 1) := by decide +kernel
theorem d_Mo_takeTwo_2 : decode c_Mo_takeTwo 2 = .ok (.aload_n 0, 1) := by decide +kernel
theorem d_Mo_takeTwo_3 : decode c_Mo_takeTwo 3 = .ok (.getfield 141, 3) := by decide +kernel
theorem d_Mo_takeTwo_6 : decode c_Mo_takeTwo 6 = .ok (.iconst 1, 1) := by decide +kernel
theorem d_Mo_takeTwo_7 : decode c_Mo_takeTwo 7 = .ok (.isub, 1) := by decide +kernel
theorem d_Mo_takeTwo_8 : decode c_Mo_takeTwo 8 = .ok (.invokevirtual 144, 3) := by decide +kernel
theorem d_Mo_takeTwo_11 : decode c_Mo_takeTwo 11 = .ok (.istore_n 2, 1) := by decide +kernel
theorem d_Mo_takeTwo_12 : decode c_Mo_takeTwo 12 = .ok (.aload_n 0, 1) := by decide +kernel
theorem d_Mo_takeTwo_13 : decode c_Mo_takeTwo 13 = .ok (.getfield 138, 3) := by decide +kernel
theorem d_Mo_takeTwo_16 : decode c_Mo_takeTwo 16 = .ok (.istore_n 3, 1) := by decide +kernel
theorem d_Mo_takeTwo_17 : decode c_Mo_takeTwo 17 = .ok (.iload_n 2, 1) := by decide +kernel
theorem d_Mo_takeTwo_18 : decode c_Mo_takeTwo 18 = .ok (.ifCond .le 7, 3) := by decide +kernel
theorem d_Mo_takeTwo_21 : decode c_Mo_takeTwo 21 = .ok (.iload_n 2, 1) := by decide +kernel
theorem d_Mo_takeTwo_22 : decode c_Mo_takeTwo 22 = .ok (.goto 14, 3) := by decide +kernel
theorem d_Mo_takeTwo_25 : decode c_Mo_takeTwo 25 = .ok (.aload_n 0, 1) := by decide +kernel
theorem d_Mo_takeTwo_26 : decode c_Mo_takeTwo 26 = .ok (.iconst 0, 1) := by decide +kernel
theorem d_Mo_takeTwo_27 : decode c_Mo_takeTwo 27 = .ok (.aload_n 0, 1) := by decide +kernel
theorem d_Mo_takeTwo_28 : decode c_Mo_takeTwo 28 = .ok (.getfield 141, 3) := by decide +kernel
theorem d_Mo_takeTwo_31 : decode c_Mo_takeTwo 31 = .ok (.iconst 1, 1) := by decide +kernel
theorem d_Mo_takeTwo_32 : decode c_Mo_takeTwo 32 = .ok (.isub, 1) := by decide +kernel
theorem d_Mo_takeTwo_33 : decode c_Mo_takeTwo 33 = .ok (.invokevirtual 144, 3) := by decide +kernel
theorem d_Mo_takeTwo_36 : decode c_Mo_takeTwo 36 = .ok (.istore_n 2, 1) := by decide +kernel
theorem d_Mo_takeTwo_37 : decode c_Mo_takeTwo 37 = .ok (.iload_n 2, 1) := by decide +kernel
theorem d_Mo_takeTwo_38 : decode c_Mo_takeTwo 38 = .ok (.ifCond .le 5, 3) := by decide +kernel
theorem d_Mo_takeTwo_41 : decode c_Mo_takeTwo 41 = .ok (.iload_n 2, 1) := by decide +kernel
theorem d_Mo_takeTwo_42 : decode c_Mo_takeTwo 42 = .ok (.ireturn, 1) := by decide +kernel
theorem d_Mo_takeTwo_43 : decode c_Mo_takeTwo 43 = .ok (.iload_n 3, 1) := by decide +kernel
theorem d_Mo_takeTwo_44 : decode c_Mo_takeTwo 44 = .ok (.aload_n 0, 1) := by decide +kernel
theorem d_Mo_takeTwo_45 : decode c_Mo_takeTwo 45 = .ok (.getfield 138, 3) := by decide +kernel
theorem d_Mo_takeTwo_48 : decode c_Mo_takeTwo 48 = .ok (.if_icmp .eq 30, 3) := by decide +kernel
theorem d_Mo_takeTwo_51 : decode c_Mo_takeTwo 51 = .ok (.aload_n 0, 1) := by decide +kernel
theorem d_Mo_takeTwo_52 : decode c_Mo_takeTwo 52 = .ok (.getfield 147, 3) := by decide +kernel
theorem d_Mo_takeTwo_55 : decode c_Mo_takeTwo 55 = .ok (.aload_n 0, 1) := by decide +kernel
theorem d_Mo_takeTwo_56 : decode c_Mo_takeTwo 56 = .ok (.getfield 150, 3) := by decide +kernel
theorem d_Mo_takeTwo_59 : decode c_Mo_takeTwo 59 = .ok (.ior, 1) := by decide +kernel
theorem d_Mo_takeTwo_60 : decode c_Mo_takeTwo 60 = .ok (.aload_n 0, 1) := by decide +kernel
theorem d_Mo_takeTwo_61 : decode c_Mo_takeTwo 61 = .ok (.getfield 141, 3) := by decide +kernel
theorem d_Mo_takeTwo_64 : decode c_Mo_takeTwo 64 = .ok (.iload_n 3, 1) := by decide +kernel
theorem d_Mo_takeTwo_65 : decode c_Mo_takeTwo 65 = .ok (.aload_n 0, 1) := by decide +kernel
theorem d_Mo_takeTwo_66 : decode c_Mo_takeTwo 66 = .ok (.getfield 138, 3) := by decide +kernel
theorem d_Mo_takeTwo_69 : decode c_Mo_takeTwo 69 = .ok (.invokestatic 74, 3) := by decide +kernel
theorem d_Mo_takeTwo_72 : decode c_Mo_takeTwo 72 = .ok (.invokestatic 78, 3) := by decide +kernel
theorem d_Mo_takeTwo_75 : decode c_Mo_takeTwo 75 = .ok (.ifCond .eq 13, 3) := by decide +kernel
theorem d_Mo_takeTwo_78 : decode c_Mo_takeTwo 78 = .ok (.aload_n 0, 1) := by decide +kernel
theorem d_Mo_takeTwo_79 : decode c_Mo_takeTwo 79 = .ok (.iconst 4, 1) := by decide +kernel
theorem d_Mo_takeTwo_80 : decode c_Mo_takeTwo 80 = .ok (.aload_n 0, 1) := by decide +kernel
theorem d_Mo_takeTwo_81 : decode c_Mo_takeTwo 81 = .ok (.getfield 135, 3) := by decide +kernel
theorem d_Mo_takeTwo_84 : decode c_Mo_takeTwo 84 = .ok (.invokevirtual 131, 3) := by decide +kernel
theorem d_Mo_takeTwo_87 : decode c_Mo_takeTwo 87 = .ok (.ireturn, 1) := by decide +kernel
theorem d_Mo_takeTwo_88 : decode c_Mo_takeTwo 88 = .ok (.iconst 1, 1) := by decide +kernel
theorem d_Mo_takeTwo_89 : decode c_Mo_takeTwo 89 = .ok (.aload_n 0, 1) := by decide +kernel
theorem d_Mo_takeTwo_90 : decode c_Mo_takeTwo 90 = .ok (.getfield 141, 3) := by decide +kernel
theorem d_Mo_takeTwo_93 : decode c_Mo_takeTwo 93 = .ok (.iload_n 3, 1) := by decide +kernel
theorem d_Mo_takeTwo_94 : decode c_Mo_takeTwo 94 = .ok (.aload_n 0, 1) := by decide +kernel
theorem d_Mo_takeTwo_95 : decode c_Mo_takeTwo 95 = .ok (.getfield 138, 3) := by decide +kernel
theorem d_Mo_takeTwo_98 : decode c_Mo_takeTwo 98 = .ok (.invokestatic 74, 3) := by decide +kernel
theorem d_Mo_takeTwo_101 : decode c_Mo_takeTwo 101 = .ok (.ishl, 1) := by decide +kernel
theorem d_Mo_takeTwo_102 : decode c_Mo_takeTwo 102 = .ok (.istore 4, 2) := by decide +kernel
theorem d_Mo_takeTwo_104 : decode c_Mo_takeTwo 104 = .ok (.aload_n 0, 1) := by decide +kernel
theorem d_Mo_takeTwo_105 : decode c_Mo_takeTwo 105 = .ok (.dup, 1) := by decide +kernel
theorem d_Mo_takeTwo_106 : decode c_Mo_takeTwo 106 = .ok (.getfield 147, 3) := by decide +kernel
theorem d_Mo_takeTwo_109 : decode c_Mo_takeTwo 109 = .ok (.iload_n 1, 1) := by decide +kernel
theorem d_Mo_takeTwo_110 : decode c_Mo_takeTwo 110 = .ok (.iconst 2, 1) := by decide +kernel
theorem d_Mo_takeTwo_111 : decode c_Mo_takeTwo 111 = .ok (.if_icmp .ne 7, 3) := by decide +kernel
theorem d_Mo_takeTwo_114 : decode c_Mo_takeTwo 114 = .ok (.iconst 0, 1) := by decide +kernel
theorem d_Mo_takeTwo_115 : decode c_Mo_takeTwo 115 = .ok (.goto 5, 3) := by decide +kernel
theorem d_Mo_takeTwo_118 : decode c_Mo_takeTwo 118 = .ok (.iload 4, 2) := by decide +kernel
theorem d_Mo_takeTwo_120 : decode c_Mo_takeTwo 120 = .ok (.ior, 1) := by decide +kernel
theorem d_Mo_takeTwo_121 : decode c_Mo_takeTwo 121 = .ok (.putfield 147, 3) := by decide +kernel
theorem d_Mo_takeTwo_124 : decode c_Mo_takeTwo 124 = .ok (.aload_n 0, 1) := by decide +kernel
theorem d_Mo_takeTwo_125 : decode c_Mo_takeTwo 125 = .ok (.dup, 1) := by decide +kernel
theorem d_Mo_takeTwo_126 : decode c_Mo_takeTwo 126 = .ok (.getfield 150, 3) := by decide +kernel
theorem d_Mo_takeTwo_129 : decode c_Mo_takeTwo 129 = .ok (.iload_n 1, 1) := by decide +kernel
theorem d_Mo_takeTwo_130 : decode c_Mo_takeTwo 130 = .ok (.iconst 2, 1) := by decide +kernel
theorem d_Mo_takeTwo_131 : decode c_Mo_takeTwo 131 = .ok (.if_icmp .ne 8, 3) := by decide +kernel
theorem d_Mo_takeTwo_134 : decode c_Mo_takeTwo 134 = .ok (.iload 4, 2) := by decide +kernel
theorem d_Mo_takeTwo_136 : decode c_Mo_takeTwo 136 = .ok (.goto 4, 3) := by decide +kernel
theorem d_Mo_takeTwo_139 : decode c_Mo_takeTwo 139 = .ok (.iconst 0, 1) := by decide +kernel
theorem d_Mo_takeTwo_140 : decode c_Mo_takeTwo 140 = .ok (.ior, 1) := by decide +kernel
theorem d_Mo_takeTwo_141 : decode c_Mo_takeTwo 141 = .ok (.putfield 150, 3) := by decide +kernel
theorem d_Mo_takeTwo_144 : decode c_Mo_takeTwo 144 = .ok (.aload_n 0, 1) := by decide +kernel
theorem d_Mo_takeTwo_145 : decode c_Mo_takeTwo 145 = .ok (.dup, 1) := by decide +kernel
theorem d_Mo_takeTwo_146 : decode c_Mo_takeTwo 146 = .ok (.getfield 153, 3) := by decide +kernel
theorem d_Mo_takeTwo_149 : decode c_Mo_takeTwo 149 = .ok (.iload_n 1, 1) := by decide +kernel
theorem d_Mo_takeTwo_150 : decode c_Mo_takeTwo 150 = .ok (.iconst 3, 1) := by decide +kernel
theorem d_Mo_takeTwo_151 : decode c_Mo_takeTwo 151 = .ok (.if_icmp .ne 8, 3) := by decide +kernel
theorem d_Mo_takeTwo_154 : decode c_Mo_takeTwo 154 = .ok (.iload 4, 2) := by decide +kernel
theorem d_Mo_takeTwo_156 : decode c_Mo_takeTwo 156 = .ok (.goto 4, 3) := by decide +kernel
theorem d_Mo_takeTwo_159 : decode c_Mo_takeTwo 159 = .ok (.iconst 0, 1) := by decide +kernel
theorem d_Mo_takeTwo_160 : decode c_Mo_takeTwo 160 = .ok (.ior, 1) := by decide +kernel
theorem d_Mo_takeTwo_161 : decode c_Mo_takeTwo 161 = .ok (.putfield 153, 3) := by decide +kernel
theorem d_Mo_takeTwo_164 : decode c_Mo_takeTwo 164 = .ok (.iconst 0, 1) := by decide +kernel
theorem d_Mo_takeTwo_165 : decode c_Mo_takeTwo 165 = .ok (.ireturn, 1) := by decide +kernel
theorem d_Mo_takeKind_0 : decode c_Mo_takeKind 0 = .ok (.iload_n 1, 1) := by decide +kernel
theorem d_Mo_takeKind_1 : decode c_Mo_takeKind 1 = .ok (.ifCond .ne 21, 3) := by decide +kernel
theorem d_Mo_takeKind_4 : decode c_Mo_takeKind 4 = .ok (.aload_n 0, 1) := by decide +kernel
theorem d_Mo_takeKind_5 : decode c_Mo_takeKind 5 = .ok (.iconst 1, 1) := by decide +kernel
theorem d_Mo_takeKind_6 : decode c_Mo_takeKind 6 = .ok (.bipush 8, 2) := by decide +kernel
theorem d_Mo_takeKind_8 : decode c_Mo_takeKind 8 = .ok (.invokevirtual 144, 3) := by decide +kernel
theorem d_Mo_takeKind_11 : decode c_Mo_takeKind 11 = .ok (.istore_n 2, 1) := by decide +kernel
theorem d_Mo_takeKind_12 : decode c_Mo_takeKind 12 = .ok (.aload_n 0, 1) := by decide +kernel
theorem d_Mo_takeKind_13 : decode c_Mo_takeKind 13 = .ok (.aload_n 0, 1) := by decide +kernel
theorem d_Mo_takeKind_14 : decode c_Mo_takeKind 14 = .ok (.getfield 138, 3) := by decide +kernel
theorem d_Mo_takeKind_17 : decode c_Mo_takeKind 17 = .ok (.putfield 141, 3) := by decide +kernel
theorem d_Mo_takeKind_20 : decode c_Mo_takeKind 20 = .ok (.iload_n 2, 1) := by decide +kernel
theorem d_Mo_takeKind_21 : decode c_Mo_takeKind 21 = .ok (.ireturn, 1) := by decide +kernel
theorem d_Mo_takeKind_22 : decode c_Mo_takeKind 22 = .ok (.iload_n 1, 1) := by decide +kernel
theorem d_Mo_takeKind_23 : decode c_Mo_takeKind 23 = .ok (.iconst 4, 1) := by decide +kernel
theorem d_Mo_takeKind_24 : decode c_Mo_takeKind 24 = .ok (.if_icmp .ne 45, 3) := by decide +kernel
theorem d_Mo_takeKind_27 : decode c_Mo_takeKind 27 = .ok (.aload_n 0, 1) := by decide +kernel
theorem d_Mo_takeKind_28 : decode c_Mo_takeKind 28 = .ok (.iconst 1, 1) := by decide +kernel
theorem d_Mo_takeKind_29 : decode c_Mo_takeKind 29 = .ok (.bipush 9, 2) := by decide +kernel
theorem d_Mo_takeKind_31 : decode c_Mo_takeKind 31 = .ok (.invokevirtual 144, 3) := by decide +kernel
theorem d_Mo_takeKind_34 : decode c_Mo_takeKind 34 = .ok (.istore_n 2, 1) := by decide +kernel
theorem d_Mo_takeKind_35 : decode c_Mo_takeKind 35 = .ok (.aload_n 0, 1) := by decide +kernel
theorem d_Mo_takeKind_36 : decode c_Mo_takeKind 36 = .ok (.aload_n 0, 1) := by decide +kernel
theorem d_Mo_takeKind_37 : decode c_Mo_takeKind 37 = .ok (.getfield 138, 3) := by decide +kernel
theorem d_Mo_takeKind_40 : decode c_Mo_takeKind 40 = .ok (.putfield 156, 3) := by decide +kernel
theorem d_Mo_takeKind_43 : decode c_Mo_takeKind 43 = .ok (.iload_n 2, 1) := by decide +kernel
theorem d_Mo_takeKind_44 : decode c_Mo_takeKind 44 = .ok (.ifCond .le 7, 3) := by decide +kernel
theorem d_Mo_takeKind_47 : decode c_Mo_takeKind 47 = .ok (.iload_n 2, 1) := by decide +kernel
theorem d_Mo_takeKind_48 : decode c_Mo_takeKind 48 = .ok (.goto 10, 3) := by decide +kernel
theorem d_Mo_takeKind_51 : decode c_Mo_takeKind 51 = .ok (.aload_n 0, 1) := by decide +kernel
theorem d_Mo_takeKind_52 : decode c_Mo_takeKind 52 = .ok (.iconst 1, 1) := by decide +kernel
theorem d_Mo_takeKind_53 : decode c_Mo_takeKind 53 = .ok (.bipush 9, 2) := by decide +kernel
theorem d_Mo_takeKind_55 : decode c_Mo_takeKind 55 = .ok (.invokevirtual 144, 3) := by decide +kernel
theorem d_Mo_takeKind_58 : decode c_Mo_takeKind 58 = .ok (.istore_n 2, 1) := by decide +kernel
theorem d_Mo_takeKind_59 : decode c_Mo_takeKind 59 = .ok (.aload_n 0, 1) := by decide +kernel
theorem d_Mo_takeKind_60 : decode c_Mo_takeKind 60 = .ok (.aload_n 0, 1) := by decide +kernel
theorem d_Mo_takeKind_61 : decode c_Mo_takeKind 61 = .ok (.getfield 138, 3) := by decide +kernel
theorem d_Mo_takeKind_64 : decode c_Mo_takeKind 64 = .ok (.putfield 159, 3) := by decide +kernel
theorem d_Mo_takeKind_67 : decode c_Mo_takeKind 67 = .ok (.iload_n 2, 1) := by decide +kernel
theorem d_Mo_takeKind_68 : decode c_Mo_takeKind 68 = .ok (.ireturn, 1) := by decide +kernel
theorem d_Mo_takeKind_69 : decode c_Mo_takeKind 69 = .ok (.aload_n 0, 1) := by decide +kernel
theorem d_Mo_takeKind_70 : decode c_Mo_takeKind 70 = .ok (.iload_n 1, 1) := by decide +kernel
theorem d_Mo_takeKind_71 : decode c_Mo_takeKind 71 = .ok (.invokevirtual 162, 3) := by decide +kernel
theorem d_Mo_takeKind_74 : decode c_Mo_takeKind 74 = .ok (.ireturn, 1) := by decide +kernel
theorem d_Mo_takeClause_0 : decode c_Mo_takeClause 0 = .ok (.aload_n 0, 1) := by decide +kernel
theorem d_Mo_takeClause_1 : decode c_Mo_takeClause 1 = .ok (.invokevirtual 166, 3) := by decide +kernel
theorem d_Mo_takeClause_4 : decode c_Mo_takeClause 4 = .ok (.aload_n 0, 1) := by decide +kernel
theorem d_Mo_takeClause_5 : decode c_Mo_takeClause 5 = .ok (.getfield 108, 3) := by decide +kernel
theorem d_Mo_takeClause_8 : decode c_Mo_takeClause 8 = .ok (.bipush 112, 2) := by decide +kernel
theorem d_Mo_takeClause_10 : decode c_Mo_takeClause 10 = .ok (.bipush 101, 2) := by decide +kernel
theorem d_Mo_takeClause_12 : decode c_Mo_takeClause 12 = .ok (.bipush 111, 2) := by decide +kernel
theorem d_Mo_takeClause_14 : decode c_Mo_takeClause 14 = .ok (.bipush 112, 2) := by decide +kernel
theorem d_Mo_takeClause_16 : decode c_Mo_takeClause 16 = .ok (.invokestatic 169, 3) := by decide +kernel
theorem d_Mo_takeClause_19 : decode c_Mo_takeClause 19 = .ok (.bipush 108, 2) := by decide +kernel
theorem d_Mo_takeClause_21 : decode c_Mo_takeClause 21 = .ok (.bipush 101, 2) := by decide +kernel
theorem d_Mo_takeClause_23 : decode c_Mo_takeClause 23 = .ok (.invokestatic 173, 3) := by decide +kernel
theorem d_Mo_takeClause_26 : decode c_Mo_takeClause 26 = .ok (.lcmp, 1) := by decide +kernel
theorem d_Mo_takeClause_27 : decode c_Mo_takeClause 27 = .ok (.ifCond .ne 7, 3) := by decide +kernel
theorem d_Mo_takeClause_30 : decode c_Mo_takeClause 30 = .ok (.iconst 0, 1) := by decide +kernel
theorem d_Mo_takeClause_31 : decode c_Mo_takeClause 31 = .ok (.goto 46, 3) := by decide +kernel
theorem d_Mo_takeClause_34 : decode c_Mo_takeClause 34 = .ok (.aload_n 0, 1) := by decide +kernel
theorem d_Mo_takeClause_35 : decode c_Mo_takeClause 35 = .ok (.getfield 108, 3) := by decide +kernel
theorem d_Mo_takeClause_38 : decode c_Mo_takeClause 38 = .ok (.ldc2_w 123, 3) := by decide +kernel
theorem d_Mo_takeClause_41 : decode c_Mo_takeClause 41 = .ok (.bipush 102, 2) := by decide +kernel
theorem d_Mo_takeClause_43 : decode c_Mo_takeClause 43 = .ok (.bipush 114, 2) := by decide +kernel
theorem d_Mo_takeClause_45 : decode c_Mo_takeClause 45 = .ok (.bipush 105, 2) := by decide +kernel
theorem d_Mo_takeClause_47 : decode c_Mo_takeClause 47 = .ok (.bipush 101, 2) := by decide +kernel
theorem d_Mo_takeClause_49 : decode c_Mo_takeClause 49 = .ok (.invokestatic 169, 3) := by decide +kernel
theorem d_Mo_takeClause_52 : decode c_Mo_takeClause 52 = .ok (.bipush 110, 2) := by decide +kernel
theorem d_Mo_takeClause_54 : decode c_Mo_takeClause 54 = .ok (.bipush 100, 2) := by decide +kernel
theorem d_Mo_takeClause_56 : decode c_Mo_takeClause 56 = .ok (.invokestatic 173, 3) := by decide +kernel
theorem d_Mo_takeClause_59 : decode c_Mo_takeClause 59 = .ok (.lmul, 1) := by decide +kernel
theorem d_Mo_takeClause_60 : decode c_Mo_takeClause 60 = .ok (.ldc2_w 177, 3) := by decide +kernel
theorem d_Mo_takeClause_63 : decode c_Mo_takeClause 63 = .ok (.ladd, 1) := by decide +kernel
theorem d_Mo_takeClause_64 : decode c_Mo_takeClause 64 = .ok (.ldc2_w 125, 3) := by decide +kernel
theorem d_Mo_takeClause_67 : decode c_Mo_takeClause 67 = .ok (.lsub, 1) := by decide +kernel
theorem d_Mo_takeClause_68 : decode c_Mo_takeClause 68 = .ok (.lcmp, 1) := by decide +kernel
theorem d_Mo_takeClause_69 : decode c_Mo_takeClause 69 = .ok (.ifCond .ne 7, 3) := by decide +kernel
theorem d_Mo_takeClause_72 : decode c_Mo_takeClause 72 = .ok (.iconst 1, 1) := by decide +kernel
theorem d_Mo_takeClause_73 : decode c_Mo_takeClause 73 = .ok (.goto 4, 3) := by decide +kernel
theorem d_Mo_takeClause_76 : decode c_Mo_takeClause 76 = .ok (.iconst (-1), 1) := by decide +kernel
theorem d_Mo_takeClause_77 : decode c_Mo_takeClause 77 = .ok (.istore_n 1, 1) := by decide +kernel
theorem d_Mo_takeClause_78 : decode c_Mo_takeClause 78 = .ok (.iload_n 1, 1) := by decide +kernel
theorem d_Mo_takeClause_79 : decode c_Mo_takeClause 79 = .ok (.ifCond .lt 7, 3) := by decide +kernel
theorem d_Mo_takeClause_82 : decode c_Mo_takeClause 82 = .ok (.iload_n 1, 1) := by decide +kernel
theorem d_Mo_takeClause_83 : decode c_Mo_takeClause 83 = .ok (.goto 80, 3) := by decide +kernel
theorem d_Mo_takeClause_86 : decode c_Mo_takeClause 86 = .ok (.aload_n 0, 1) := by decide +kernel
theorem d_Mo_takeClause_87 : decode c_Mo_takeClause 87 = .ok (.getfield 108, 3) := by decide +kernel
theorem d_Mo_takeClause_90 : decode c_Mo_takeClause 90 = .ok (.bipush 98, 2) := by decide +kernel
theorem d_Mo_takeClause_92 : decode c_Mo_takeClause 92 = .ok (.bipush 97, 2) := by decide +kernel
theorem d_Mo_takeClause_94 : decode c_Mo_takeClause 94 = .ok (.bipush 114, 2) := by decide +kernel
theorem d_Mo_takeClause_96 : decode c_Mo_takeClause 96 = .ok (.bipush 114, 2) := by decide +kernel
theorem d_Mo_takeClause_98 : decode c_Mo_takeClause 98 = .ok (.invokestatic 169, 3) := by decide +kernel
theorem d_Mo_takeClause_101 : decode c_Mo_takeClause 101 = .ok (.bipush 101, 2) := by decide +kernel
theorem d_Mo_takeClause_103 : decode c_Mo_takeClause 103 = .ok (.bipush 100, 2) := by decide +kernel
theorem d_Mo_takeClause_105 : decode c_Mo_takeClause 105 = .ok (.invokestatic 173, 3) := by decide +kernel
theorem d_Mo_takeClause_108 : decode c_Mo_takeClause 108 = .ok (.lcmp, 1) := by decide +kernel
theorem d_Mo_takeClause_109 : decode c_Mo_takeClause 109 = .ok (.ifCond .ne 7, 3) := by decide +kernel
theorem d_Mo_takeClause_112 : decode c_Mo_takeClause 112 = .ok (.iconst 2, 1) := by decide +kernel
theorem d_Mo_takeClause_113 : decode c_Mo_takeClause 113 = .ok (.goto 50, 3) := by decide +kernel
theorem d_Mo_takeClause_116 : decode c_Mo_takeClause 116 = .ok (.aload_n 0, 1) := by decide +kernel
theorem d_Mo_takeClause_117 : decode c_Mo_takeClause 117 = .ok (.getfield 108, 3) := by decide +kernel
theorem d_Mo_takeClause_120 : decode c_Mo_takeClause 120 = .ok (.bipush 109, 2) := by decide +kernel
theorem d_Mo_takeClause_122 : decode c_Mo_takeClause 122 = .ok (.bipush 117, 2) := by decide +kernel
theorem d_Mo_takeClause_124 : decode c_Mo_takeClause 124 = .ok (.bipush 115, 2) := by decide +kernel
theorem d_Mo_takeClause_126 : decode c_Mo_takeClause 126 = .ok (.bipush 116, 2) := by decide +kernel
theorem d_Mo_takeClause_128 : decode c_Mo_takeClause 128 = .ok (.invokestatic 169, 3) := by decide +kernel
theorem d_Mo_takeClause_131 : decode c_Mo_takeClause 131 = .ok (.lcmp, 1) := by decide +kernel
theorem d_Mo_takeClause_132 : decode c_Mo_takeClause 132 = .ok (.ifCond .ne 7, 3) := by decide +kernel
theorem d_Mo_takeClause_135 : decode c_Mo_takeClause 135 = .ok (.iconst 3, 1) := by decide +kernel
theorem d_Mo_takeClause_136 : decode c_Mo_takeClause 136 = .ok (.goto 27, 3) := by decide +kernel
theorem d_Mo_takeClause_139 : decode c_Mo_takeClause 139 = .ok (.aload_n 0, 1) := by decide +kernel
theorem d_Mo_takeClause_140 : decode c_Mo_takeClause 140 = .ok (.getfield 108, 3) := by decide +kernel
theorem d_Mo_takeClause_143 : decode c_Mo_takeClause 143 = .ok (.bipush 99, 2) := by decide +kernel
theorem d_Mo_takeClause_145 : decode c_Mo_takeClause 145 = .ok (.bipush 111, 2) := by decide +kernel
theorem d_Mo_takeClause_147 : decode c_Mo_takeClause 147 = .ok (.bipush 115, 2) := by decide +kernel
theorem d_Mo_takeClause_149 : decode c_Mo_takeClause 149 = .ok (.bipush 116, 2) := by decide +kernel
theorem d_Mo_takeClause_151 : decode c_Mo_takeClause 151 = .ok (.invokestatic 169, 3) := by decide +kernel
theorem d_Mo_takeClause_154 : decode c_Mo_takeClause 154 = .ok (.lcmp, 1) := by decide +kernel
theorem d_Mo_takeClause_155 : decode c_Mo_takeClause 155 = .ok (.ifCond .ne 7, 3) := by decide +kernel
theorem d_Mo_takeClause_158 : decode c_Mo_takeClause 158 = .ok (.iconst 4, 1) := by decide +kernel
theorem d_Mo_takeClause_159 : decode c_Mo_takeClause 159 = .ok (.goto 4, 3) := by decide +kernel
theorem d_Mo_takeClause_162 : decode c_Mo_takeClause 162 = .ok (.iconst (-1), 1) := by decide +kernel
theorem d_Mo_takeClause_163 : decode c_Mo_takeClause 163 = .ok (.istore_n 2, 1) := by decide +kernel
theorem d_Mo_takeClause_164 : decode c_Mo_takeClause 164 = .ok (.iload_n 2, 1) := by decide +kernel
theorem d_Mo_takeClause_165 : decode c_Mo_takeClause 165 = .ok (.ifCond .lt 14, 3) := by decide +kernel
theorem d_Mo_takeClause_168 : decode c_Mo_takeClause 168 = .ok (.iload_n 2, 1) := by decide +kernel
theorem d_Mo_takeClause_169 : decode c_Mo_takeClause 169 = .ok (.ifCond .le 20, 3) := by decide +kernel
theorem d_Mo_takeClause_172 : decode c_Mo_takeClause 172 = .ok (.aload_n 0, 1) := by decide +kernel
theorem d_Mo_takeClause_173 : decode c_Mo_takeClause 173 = .ok (.getfield 141, 3) := by decide +kernel
theorem d_Mo_takeClause_176 : decode c_Mo_takeClause 176 = .ok (.ifCond .ne 13, 3) := by decide +kernel
theorem d_Mo_takeClause_179 : decode c_Mo_takeClause 179 = .ok (.aload_n 0, 1) := by decide +kernel
theorem d_Mo_takeClause_180 : decode c_Mo_takeClause 180 = .ok (.iconst 1, 1) := by decide +kernel
theorem d_Mo_takeClause_181 : decode c_Mo_takeClause 181 = .ok (.aload_n 0, 1) := by decide +kernel
theorem d_Mo_takeClause_182 : decode c_Mo_takeClause 182 = .ok (.getfield 101, 3) := by decide +kernel
theorem d_Mo_takeClause_185 : decode c_Mo_takeClause 185 = .ok (.invokevirtual 131, 3) := by decide +kernel
theorem d_Mo_takeClause_188 : decode c_Mo_takeClause 188 = .ok (.ireturn, 1) := by decide +kernel
theorem d_Mo_takeClause_189 : decode c_Mo_takeClause 189 = .ok (.iload_n 2, 1) := by decide +kernel
theorem d_Mo_takeClause_190 : decode c_Mo_takeClause 190 = .ok (.ifCond .ne 10, 3) := by decide +kernel
theorem d_Mo_takeClause_193 : decode c_Mo_takeClause 193 = .ok (.aload_n 0, 1) := by decide +kernel
theorem d_Mo_takeClause_194 : decode c_Mo_takeClause 194 = .ok (.getfield 141, 3) := by decide +kernel
theorem d_Mo_takeClause_197 : decode c_Mo_takeClause 197 = .ok (.ifCond .gt 15, 3) := by decide +kernel
theorem d_Mo_takeClause_200 : decode c_Mo_takeClause 200 = .ok (.iload_n 2, 1) := by decide +kernel
theorem d_Mo_takeClause_201 : decode c_Mo_takeClause 201 = .ok (.iconst 4, 1) := by decide +kernel
theorem d_Mo_takeClause_202 : decode c_Mo_takeClause 202 = .ok (.if_icmp .ne 20, 3) := by decide +kernel
theorem d_Mo_takeClause_205 : decode c_Mo_takeClause 205 = .ok (.aload_n 0, 1) := by decide +kernel
theorem d_Mo_takeClause_206 : decode c_Mo_takeClause 206 = .ok (.getfield 156, 3) := by decide +kernel
theorem d_Mo_takeClause_209 : decode c_Mo_takeClause 209 = .ok (.ifCond .le 13, 3) := by decide +kernel
theorem d_Mo_takeClause_212 : decode c_Mo_takeClause 212 = .ok (.aload_n 0, 1) := by decide +kernel
theorem d_Mo_takeClause_213 : decode c_Mo_takeClause 213 = .ok (.iconst 3, 1) := by decide +kernel
theorem d_Mo_takeClause_214 : decode c_Mo_takeClause 214 = .ok (.aload_n 0, 1) := by decide +kernel
theorem d_Mo_takeClause_215 : decode c_Mo_takeClause 215 = .ok (.getfield 101, 3) := by decide +kernel
theorem d_Mo_takeClause_218 : decode c_Mo_takeClause 218 = .ok (.invokevirtual 131, 3) := by decide +kernel
theorem d_Mo_takeClause_221 : decode c_Mo_takeClause 221 = .ok (.ireturn, 1) := by decide +kernel
theorem d_Mo_takeClause_222 : decode c_Mo_takeClause 222 = .ok (.aload_n 0, 1) := by decide +kernel
theorem d_Mo_takeClause_223 : decode c_Mo_takeClause 223 = .ok (.aload_n 0, 1) := by decide +kernel
theorem d_Mo_takeClause_224 : decode c_Mo_takeClause 224 = .ok (.getfield 112, 3) := by decide +kernel
theorem d_Mo_takeClause_227 : decode c_Mo_takeClause 227 = .ok (.putfield 101, 3) := by decide +kernel
theorem d_Mo_takeClause_230 : decode c_Mo_takeClause 230 = .ok (.aload_n 0, 1) := by decide +kernel
theorem d_Mo_takeClause_231 : decode c_Mo_takeClause 231 = .ok (.iload_n 2, 1) := by decide +kernel
theorem d_Mo_takeClause_232 : decode c_Mo_takeClause 232 = .ok (.invokevirtual 179, 3) := by decide +kernel
theorem d_Mo_takeClause_235 : decode c_Mo_takeClause 235 = .ok (.istore_n 3, 1) := by decide +kernel
theorem d_Mo_takeClause_236 : decode c_Mo_takeClause 236 = .ok (.iload_n 3, 1) := by decide +kernel
theorem d_Mo_takeClause_237 : decode c_Mo_takeClause 237 = .ok (.ifCond .ne 22, 3) := by decide +kernel
theorem d_Mo_takeClause_240 : decode c_Mo_takeClause 240 = .ok (.aload_n 0, 1) := by decide +kernel
theorem d_Mo_takeClause_241 : decode c_Mo_takeClause 241 = .ok (.invokevirtual 104, 3) := by decide +kernel
theorem d_Mo_takeClause_244 : decode c_Mo_takeClause 244 = .ok (.bipush 59, 2) := by decide +kernel
theorem d_Mo_takeClause_246 : decode c_Mo_takeClause 246 = .ok (.if_icmp .eq 13, 3) := by decide +kernel
theorem d_Mo_takeClause_249 : decode c_Mo_takeClause 249 = .ok (.aload_n 0, 1) := by decide +kernel
theorem d_Mo_takeClause_250 : decode c_Mo_takeClause 250 = .ok (.iconst 1, 1) := by decide +kernel
theorem d_Mo_takeClause_251 : decode c_Mo_takeClause 251 = .ok (.aload_n 0, 1) := by decide +kernel
theorem d_Mo_takeClause_252 : decode c_Mo_takeClause 252 = .ok (.getfield 101, 3) := by decide +kernel
theorem d_Mo_takeClause_255 : decode c_Mo_takeClause 255 = .ok (.invokevirtual 131, 3) := by decide +kernel
theorem d_Mo_takeClause_258 : decode c_Mo_takeClause 258 = .ok (.ireturn, 1) := by decide +kernel
theorem d_Mo_takeClause_259 : decode c_Mo_takeClause 259 = .ok (.aload_n 0, 1) := by decide +kernel
theorem d_Mo_takeClause_260 : decode c_Mo_takeClause 260 = .ok (.dup, 1) := by decide +kernel
theorem d_Mo_takeClause_261 : decode c_Mo_takeClause 261 = .ok (.getfield 101, 3) := by decide +kernel
theorem d_Mo_takeClause_264 : decode c_Mo_takeClause 264 = .ok (.iconst 1, 1) := by decide +kernel
theorem d_Mo_takeClause_265 : decode c_Mo_takeClause 265 = .ok (.iadd, 1) := by decide +kernel
theorem d_Mo_takeClause_266 : decode c_Mo_takeClause 266 = .ok (.putfield 101, 3) := by decide +kernel
theorem d_Mo_takeClause_269 : decode c_Mo_takeClause 269 = .ok (.iload_n 3, 1) := by decide +kernel
theorem d_Mo_takeClause_270 : decode c_Mo_takeClause 270 = .ok (.ireturn, 1) := by decide +kernel
theorem d_Mo_town_0 : decode c_Mo_town 0 = .ok (.aload_n 0, 1) := by decide +kernel
theorem d_Mo_town_1 : decode c_Mo_town 1 = .ok (.iconst (-1), 1) := by decide +kernel
theorem d_Mo_town_2 : decode c_Mo_town 2 = .ok (.putfield 26, 3) := by decide +kernel
theorem d_Mo_town_5 : decode c_Mo_town 5 = .ok (.aload_n 0, 1) := by decide +kernel
theorem d_Mo_town_6 : decode c_Mo_town 6 = .ok (.iconst 0, 1) := by decide +kernel
theorem d_Mo_town_7 : decode c_Mo_town 7 = .ok (.putfield 101, 3) := by decide +kernel
theorem d_Mo_town_10 : decode c_Mo_town 10 = .ok (.aload_n 0, 1) := by decide +kernel
theorem d_Mo_town_11 : decode c_Mo_town 11 = .ok (.iconst 0, 1) := by decide +kernel
theorem d_Mo_town_12 : decode c_Mo_town 12 = .ok (.putfield 141, 3) := by decide +kernel
theorem d_Mo_town_15 : decode c_Mo_town 15 = .ok (.aload_n 0, 1) := by decide +kernel
theorem d_Mo_town_16 : decode c_Mo_town 16 = .ok (.iconst 0, 1) := by decide +kernel
theorem d_Mo_town_17 : decode c_Mo_town 17 = .ok (.putfield 147, 3) := by decide +kernel
theorem d_Mo_town_20 : decode c_Mo_town 20 = .ok (.aload_n 0, 1) := by decide +kernel
theorem d_Mo_town_21 : decode c_Mo_town 21 = .ok (.iconst 0, 1) := by decide +kernel
theorem d_Mo_town_22 : decode c_Mo_town 22 = .ok (.putfield 150, 3) := by decide +kernel
theorem d_Mo_town_25 : decode c_Mo_town 25 = .ok (.aload_n 0, 1) := by decide +kernel
theorem d_Mo_town_26 : decode c_Mo_town 26 = .ok (.iconst 0, 1) := by decide +kernel
theorem d_Mo_town_27 : decode c_Mo_town 27 = .ok (.putfield 153, 3) := by decide +kernel
theorem d_Mo_town_30 : decode c_Mo_town 30 = .ok (.aload_n 0, 1) := by decide +kernel
theorem d_Mo_town_31 : decode c_Mo_town 31 = .ok (.iconst 0, 1) := by decide +kernel
theorem d_Mo_town_32 : decode c_Mo_town 32 = .ok (.putfield 156, 3) := by decide +kernel
theorem d_Mo_town_35 : decode c_Mo_town 35 = .ok (.iconst 0, 1) := by decide +kernel
theorem d_Mo_town_36 : decode c_Mo_town 36 = .ok (.istore_n 1, 1) := by decide +kernel
theorem d_Mo_town_37 : decode c_Mo_town 37 = .ok (.iload_n 1, 1) := by decide +kernel
theorem d_Mo_town_38 : decode c_Mo_town 38 = .ok (.ifCond .ne 18, 3) := by decide +kernel
theorem d_Mo_town_41 : decode c_Mo_town 41 = .ok (.aload_n 0, 1) := by decide +kernel
theorem d_Mo_town_42 : decode c_Mo_town 42 = .ok (.invokevirtual 104, 3) := by decide +kernel
theorem d_Mo_town_45 : decode c_Mo_town 45 = .ok (.ifCond .lt 11, 3) := by decide +kernel
theorem d_Mo_town_48 : decode c_Mo_town 48 = .ok (.aload_n 0, 1) := by decide +kernel
theorem d_Mo_town_49 : decode c_Mo_town 49 = .ok (.invokevirtual 182, 3) := by decide +kernel
theorem d_Mo_town_52 : decode c_Mo_town 52 = .ok (.istore_n 1, 1) := by decide +kernel
theorem d_Mo_town_53 : decode c_Mo_town 53 = .ok (.goto (-16), 3) := by decide +kernel
theorem d_Mo_town_56 : decode c_Mo_town 56 = .ok (.aload_n 0, 1) := by decide +kernel
theorem d_Mo_town_57 : decode c_Mo_town 57 = .ok (.iconst 0, 1) := by decide +kernel
theorem d_Mo_town_58 : decode c_Mo_town 58 = .ok (.putfield 95, 3) := by decide +kernel
theorem d_Mo_town_61 : decode c_Mo_town 61 = .ok (.iload_n 1, 1) := by decide +kernel
theorem d_Mo_town_62 : decode c_Mo_town 62 = .ok (.ifCond .le 8, 3) := by decide +kernel
theorem d_Mo_town_65 : decode c_Mo_town 65 = .ok (.bipush (-10), 2) := by decide +kernel
theorem d_Mo_town_67 : decode c_Mo_town 67 = .ok (.iload_n 1, 1) := by decide +kernel
theorem d_Mo_town_68 : decode c_Mo_town 68 = .ok (.isub, 1) := by decide +kernel
theorem d_Mo_town_69 : decode c_Mo_town 69 = .ok (.ireturn, 1) := by decide +kernel
theorem d_Mo_town_70 : decode c_Mo_town 70 = .ok (.aload_n 0, 1) := by decide +kernel
theorem d_Mo_town_71 : decode c_Mo_town 71 = .ok (.aload_n 0, 1) := by decide +kernel
theorem d_Mo_town_72 : decode c_Mo_town 72 = .ok (.getfield 141, 3) := by decide +kernel
theorem d_Mo_town_75 : decode c_Mo_town 75 = .ok (.putfield 63, 3) := by decide +kernel
theorem d_Mo_town_78 : decode c_Mo_town 78 = .ok (.aload_n 0, 1) := by decide +kernel
theorem d_Mo_town_79 : decode c_Mo_town 79 = .ok (.aload_n 0, 1) := by decide +kernel
theorem d_Mo_town_80 : decode c_Mo_town 80 = .ok (.getfield 147, 3) := by decide +kernel
theorem d_Mo_town_83 : decode c_Mo_town 83 = .ok (.putfield 86, 3) := by decide +kernel
theorem d_Mo_town_86 : decode c_Mo_town 86 = .ok (.aload_n 0, 1) := by decide +kernel
theorem d_Mo_town_87 : decode c_Mo_town 87 = .ok (.aload_n 0, 1) := by decide +kernel
theorem d_Mo_town_88 : decode c_Mo_town 88 = .ok (.getfield 150, 3) := by decide +kernel
theorem d_Mo_town_91 : decode c_Mo_town 91 = .ok (.putfield 185, 3) := by decide +kernel
theorem d_Mo_town_94 : decode c_Mo_town 94 = .ok (.aload_n 0, 1) := by decide +kernel
theorem d_Mo_town_95 : decode c_Mo_town 95 = .ok (.aload_n 0, 1) := by decide +kernel
theorem d_Mo_town_96 : decode c_Mo_town 96 = .ok (.getfield 153, 3) := by decide +kernel
theorem d_Mo_town_99 : decode c_Mo_town 99 = .ok (.putfield 188, 3) := by decide +kernel
theorem d_Mo_town_102 : decode c_Mo_town 102 = .ok (.aload_n 0, 1) := by decide +kernel
theorem d_Mo_town_103 : decode c_Mo_town 103 = .ok (.aload_n 0, 1) := by decide +kernel
theorem d_Mo_town_104 : decode c_Mo_town 104 = .ok (.getfield 156, 3) := by decide +kernel
theorem d_Mo_town_107 : decode c_Mo_town 107 = .ok (.ifCond .le 10, 3) := by decide +kernel
theorem d_Mo_town_110 : decode c_Mo_town 110 = .ok (.aload_n 0, 1) := by decide +kernel
theorem d_Mo_town_111 : decode c_Mo_town 111 = .ok (.getfield 156, 3) := by decide +kernel
theorem d_Mo_town_114 : decode c_Mo_town 114 = .ok (.goto 4, 3) := by decide +kernel
theorem d_Mo_town_117 : decode c_Mo_town 117 = .ok (.iconst 1, 1) := by decide +kernel
theorem d_Mo_town_118 : decode c_Mo_town 118 = .ok (.putfield 7, 3) := by decide +kernel
theorem d_Mo_town_121 : decode c_Mo_town 121 = .ok (.aload_n 0, 1) := by decide +kernel
theorem d_Mo_town_122 : decode c_Mo_town 122 = .ok (.aload_n 0, 1) := by decide +kernel
theorem d_Mo_town_123 : decode c_Mo_town 123 = .ok (.getfield 156, 3) := by decide +kernel
theorem d_Mo_town_126 : decode c_Mo_town 126 = .ok (.ifCond .le 10, 3) := by decide +kernel
theorem d_Mo_town_129 : decode c_Mo_town 129 = .ok (.aload_n 0, 1) := by decide +kernel
theorem d_Mo_town_130 : decode c_Mo_town 130 = .ok (.getfield 159, 3) := by decide +kernel
theorem d_Mo_town_133 : decode c_Mo_town 133 = .ok (.goto 4, 3) := by decide +kernel
theorem d_Mo_town_136 : decode c_Mo_town 136 = .ok (.iconst 1, 1) := by decide +kernel
theorem d_Mo_town_137 : decode c_Mo_town 137 = .ok (.putfield 13, 3) := by decide +kernel
theorem d_Mo_town_140 : decode c_Mo_town 140 = .ok (.aload_n 0, 1) := by decide +kernel
theorem d_Mo_town_141 : decode c_Mo_town 141 = .ok (.invokevirtual 191, 3) := by decide +kernel
theorem d_Mo_town_144 : decode c_Mo_town 144 = .ok (.aload_n 0, 1) := by decide +kernel
theorem d_Mo_town_145 : decode c_Mo_town 145 = .ok (.iconst 0, 1) := by decide +kernel
theorem d_Mo_town_146 : decode c_Mo_town 146 = .ok (.putfield 194, 3) := by decide +kernel
theorem d_Mo_town_149 : decode c_Mo_town 149 = .ok (.aload_n 0, 1) := by decide +kernel
theorem d_Mo_town_150 : decode c_Mo_town 150 = .ok (.getfield 60, 3) := by decide +kernel
theorem d_Mo_town_153 : decode c_Mo_town 153 = .ok (.iconst 0, 1) := by decide +kernel
theorem d_Mo_town_154 : decode c_Mo_town 154 = .ok (.iconst 0, 1) := by decide +kernel
theorem d_Mo_town_155 : decode c_Mo_town 155 = .ok (.bastore, 1) := by decide +kernel
theorem d_Mo_town_156 : decode c_Mo_town 156 = .ok (.aload_n 0, 1) := by decide +kernel
theorem d_Mo_town_157 : decode c_Mo_town 157 = .ok (.getfield 60, 3) := by decide +kernel
theorem d_Mo_town_160 : decode c_Mo_town 160 = .ok (.iconst 1, 1) := by decide +kernel
theorem d_Mo_town_161 : decode c_Mo_town 161 = .ok (.iconst 0, 1) := by decide +kernel
theorem d_Mo_town_162 : decode c_Mo_town 162 = .ok (.bastore, 1) := by decide +kernel
theorem d_Mo_town_163 : decode c_Mo_town 163 = .ok (.aload_n 0, 1) := by decide +kernel
theorem d_Mo_town_164 : decode c_Mo_town 164 = .ok (.getfield 63, 3) := by decide +kernel
theorem d_Mo_town_167 : decode c_Mo_town 167 = .ok (.ireturn, 1) := by decide +kernel
theorem d_Mo_fault_0 : decode c_Mo_fault 0 = .ok (.aload_n 0, 1) := by decide +kernel
theorem d_Mo_fault_1 : decode c_Mo_fault 1 = .ok (.getfield 26, 3) := by decide +kernel
theorem d_Mo_fault_4 : decode c_Mo_fault 4 = .ok (.ireturn, 1) := by decide +kernel
theorem d_Mo_told_0 : decode c_Mo_told 0 = .ok (.iload_n 1, 1) := by decide +kernel
theorem d_Mo_told_1 : decode c_Mo_told 1 = .ok (.tableswitch 150 0 10 #[59, 64, 72, 77, 82, 87, 92, 97, 110, 140, 145], 59) := by decide +kernel
theorem d_Mo_told_60 : decode c_Mo_told 60 = .ok (.aload_n 0, 1) := by decide +kernel
theorem d_Mo_told_61 : decode c_Mo_told 61 = .ok (.getfield 63, 3) := by decide +kernel
theorem d_Mo_told_64 : decode c_Mo_told 64 = .ok (.ireturn, 1) := by decide +kernel
theorem d_Mo_told_65 : decode c_Mo_told 65 = .ok (.aload_n 0, 1) := by decide +kernel
theorem d_Mo_told_66 : decode c_Mo_told 66 = .ok (.getfield 86, 3) := by decide +kernel
theorem d_Mo_told_69 : decode c_Mo_told 69 = .ok (.invokestatic 197, 3) := by decide +kernel
theorem d_Mo_told_72 : decode c_Mo_told 72 = .ok (.ireturn, 1) := by decide +kernel
theorem d_Mo_told_73 : decode c_Mo_told 73 = .ok (.aload_n 0, 1) := by decide +kernel
theorem d_Mo_told_74 : decode c_Mo_told 74 = .ok (.getfield 86, 3) := by decide +kernel
theorem d_Mo_told_77 : decode c_Mo_told 77 = .ok (.ireturn, 1) := by decide +kernel
theorem d_Mo_told_78 : decode c_Mo_told 78 = .ok (.aload_n 0, 1) := by decide +kernel
theorem d_Mo_told_79 : decode c_Mo_told 79 = .ok (.getfield 185, 3) := by decide +kernel
theorem d_Mo_told_82 : decode c_Mo_told 82 = .ok (.ireturn, 1) := by decide +kernel
theorem d_Mo_told_83 : decode c_Mo_told 83 = .ok (.aload_n 0, 1) := by decide +kernel
theorem d_Mo_told_84 : decode c_Mo_told 84 = .ok (.getfield 188, 3) := by decide +kernel
theorem d_Mo_told_87 : decode c_Mo_told 87 = .ok (.ireturn, 1) := by decide +kernel
theorem d_Mo_told_88 : decode c_Mo_told 88 = .ok (.aload_n 0, 1) := by decide +kernel
theorem d_Mo_told_89 : decode c_Mo_told 89 = .ok (.getfield 7, 3) := by decide +kernel
theorem d_Mo_told_92 : decode c_Mo_told 92 = .ok (.ireturn, 1) := by decide +kernel
theorem d_Mo_told_93 : decode c_Mo_told 93 = .ok (.aload_n 0, 1) := by decide +kernel
theorem d_Mo_told_94 : decode c_Mo_told 94 = .ok (.getfield 13, 3) := by decide +kernel
theorem d_Mo_told_97 : decode c_Mo_told 97 = .ok (.ireturn, 1) := by decide +kernel
theorem d_Mo_told_98 : decode c_Mo_told 98 = .ok (.aload_n 0, 1) := by decide +kernel
theorem d_Mo_told_99 : decode c_Mo_told 99 = .ok (.aload_n 0, 1) := by decide +kernel
theorem d_Mo_told_100 : decode c_Mo_told 100 = .ok (.getfield 63, 3) := by decide +kernel
theorem d_Mo_told_103 : decode c_Mo_told 103 = .ok (.aload_n 0, 1) := by decide +kernel
theorem d_Mo_told_104 : decode c_Mo_told 104 = .ok (.getfield 86, 3) := by decide +kernel
theorem d_Mo_told_107 : decode c_Mo_told 107 = .ok (.invokevirtual 200, 3) := by decide +kernel
theorem d_Mo_told_110 : decode c_Mo_told 110 = .ok (.ireturn, 1) := by decide +kernel
theorem d_Mo_told_111 : decode c_Mo_told 111 = .ok (.aload_n 0, 1) := by decide +kernel
theorem d_Mo_told_112 : decode c_Mo_told 112 = .ok (.getfield 63, 3) := by decide +kernel
theorem d_Mo_told_115 : decode c_Mo_told 115 = .ok (.iconst 1, 1) := by decide +kernel
theorem d_Mo_told_116 : decode c_Mo_told 116 = .ok (.if_icmp .le 23, 3) := by decide +kernel
theorem d_Mo_told_119 : decode c_Mo_told 119 = .ok (.aload_n 0, 1) := by decide +kernel
theorem d_Mo_told_120 : decode c_Mo_told 120 = .ok (.aload_n 0, 1) := by decide +kernel
theorem d_Mo_told_121 : decode c_Mo_told 121 = .ok (.getfield 63, 3) := by decide +kernel
theorem d_Mo_told_124 : decode c_Mo_told 124 = .ok (.aload_n 0, 1) := by decide +kernel
theorem d_Mo_told_125 : decode c_Mo_told 125 = .ok (.getfield 86, 3) := by decide +kernel
theorem d_Mo_told_128 : decode c_Mo_told 128 = .ok (.invokevirtual 200, 3) := by decide +kernel
theorem d_Mo_told_131 : decode c_Mo_told 131 = .ok (.iconst 1, 1) := by decide +kernel
theorem d_Mo_told_132 : decode c_Mo_told 132 = .ok (.if_icmp .ne 7, 3) := by decide +kernel
theorem d_Mo_told_135 : decode c_Mo_told 135 = .ok (.iconst 1, 1) := by decide +kernel
theorem d_Mo_told_136 : decode c_Mo_told 136 = .ok (.goto 4, 3) := by decide +kernel
theorem d_Mo_told_139 : decode c_Mo_told 139 = .ok (.iconst 0, 1) := by decide +kernel
theorem d_Mo_told_140 : decode c_Mo_told 140 = .ok (.ireturn, 1) := by decide +kernel
theorem d_Mo_told_141 : decode c_Mo_told 141 = .ok (.aload_n 0, 1) := by decide +kernel
theorem d_Mo_told_142 : decode c_Mo_told 142 = .ok (.getfield 95, 3) := by decide +kernel
theorem d_Mo_told_145 : decode c_Mo_told 145 = .ok (.ireturn, 1) := by decide +kernel
theorem d_Mo_told_146 : decode c_Mo_told 146 = .ok (.aload_n 0, 1) := by decide +kernel
theorem d_Mo_told_147 : decode c_Mo_told 147 = .ok (.getfield 194, 3) := by decide +kernel
theorem d_Mo_told_150 : decode c_Mo_told 150 = .ok (.ireturn, 1) := by decide +kernel
theorem d_Mo_told_151 : decode c_Mo_told 151 = .ok (.ldc 94, 2) := by decide +kernel
theorem d_Mo_told_153 : decode c_Mo_told 153 = .ok (.ireturn, 1) := by decide +kernel
theorem d_Mo_count_0 : decode c_Mo_count 0 = .ok (.aload_n 0, 1) := by decide +kernel
theorem d_Mo_count_1 : decode c_Mo_count 1 = .ok (.iload_n 1, 1) := by decide +kernel
theorem d_Mo_count_2 : decode c_Mo_count 2 = .ok (.invokevirtual 70, 3) := by decide +kernel
theorem d_Mo_count_5 : decode c_Mo_count 5 = .ok (.ifCond .eq 18, 3) := by decide +kernel
theorem d_Mo_count_8 : decode c_Mo_count 8 = .ok (.aload_n 0, 1) := by decide +kernel
theorem d_Mo_count_9 : decode c_Mo_count 9 = .ok (.getfield 63, 3) := by decide +kernel
theorem d_Mo_count_12 : decode c_Mo_count 12 = .ok (.aload_n 0, 1) := by decide +kernel
theorem d_Mo_count_13 : decode c_Mo_count 13 = .ok (.getfield 86, 3) := by decide +kernel
theorem d_Mo_count_16 : decode c_Mo_count 16 = .ok (.iload_n 1, 1) := by decide +kernel
theorem d_Mo_count_17 : decode c_Mo_count 17 = .ok (.invokestatic 89, 3) := by decide +kernel
theorem d_Mo_count_20 : decode c_Mo_count 20 = .ok (.goto 5, 3) := by decide +kernel
theorem d_Mo_count_23 : decode c_Mo_count 23 = .ok (.ldc 203, 2) := by decide +kernel
theorem d_Mo_count_25 : decode c_Mo_count 25 = .ok (.ireturn, 1) := by decide +kernel
theorem d_Mo_friendsIn_0 : decode c_Mo_friendsIn 0 = .ok (.iconst 0, 1) := by decide +kernel
theorem d_Mo_friendsIn_1 : decode c_Mo_friendsIn 1 = .ok (.istore 4, 2) := by decide +kernel
theorem d_Mo_friendsIn_3 : decode c_Mo_friendsIn 3 = .ok (.iconst 0, 1) := by decide +kernel
theorem d_Mo_friendsIn_4 : decode c_Mo_friendsIn 4 = .ok (.istore 5, 2) := by decide +kernel
theorem d_Mo_friendsIn_6 : decode c_Mo_friendsIn 6 = .ok (.iload 5, 2) := by decide +kernel
theorem d_Mo_friendsIn_8 : decode c_Mo_friendsIn 8 = .ok (.iload_n 1, 1) := by decide +kernel
theorem d_Mo_friendsIn_9 : decode c_Mo_friendsIn 9 = .ok (.if_icmp .ge 42, 3) := by decide +kernel
theorem d_Mo_friendsIn_12 : decode c_Mo_friendsIn 12 = .ok (.iload 4, 2) := by decide +kernel
theorem d_Mo_friendsIn_14 : decode c_Mo_friendsIn 14 = .ok (.iload 5, 2) := by decide +kernel
theorem d_Mo_friendsIn_16 : decode c_Mo_friendsIn 16 = .ok (.iload_n 3, 1) := by decide +kernel
theorem d_Mo_friendsIn_17 : decode c_Mo_friendsIn 17 = .ok (.if_icmp .eq 24, 3) := by decide +kernel
theorem d_Mo_friendsIn_20 : decode c_Mo_friendsIn 20 = .ok (.iload_n 2, 1) := by decide +kernel
theorem d_Mo_friendsIn_21 : decode c_Mo_friendsIn 21 = .ok (.iload_n 1, 1) := by decide +kernel
theorem d_Mo_friendsIn_22 : decode c_Mo_friendsIn 22 = .ok (.iload_n 3, 1) := by decide +kernel
theorem d_Mo_friendsIn_23 : decode c_Mo_friendsIn 23 = .ok (.iload 5, 2) := by decide +kernel
theorem d_Mo_friendsIn_25 : decode c_Mo_friendsIn 25 = .ok (.invokestatic 74, 3) := by decide +kernel
theorem d_Mo_friendsIn_28 : decode c_Mo_friendsIn 28 = .ok (.invokestatic 78, 3) := by decide +kernel
theorem d_Mo_friendsIn_31 : decode c_Mo_friendsIn 31 = .ok (.ifCond .eq 10, 3) := by decide +kernel
theorem d_Mo_friendsIn_34 : decode c_Mo_friendsIn 34 = .ok (.iconst 1, 1) := by decide +kernel
theorem d_Mo_friendsIn_35 : decode c_Mo_friendsIn 35 = .ok (.iload 5, 2) := by decide +kernel
theorem d_Mo_friendsIn_37 : decode c_Mo_friendsIn 37 = .ok (.ishl, 1) := by decide +kernel
theorem d_Mo_friendsIn_38 : decode c_Mo_friendsIn 38 = .ok (.goto 4, 3) := by decide +kernel
theorem d_Mo_friendsIn_41 : decode c_Mo_friendsIn 41 = .ok (.iconst 0, 1) := by decide +kernel
theorem d_Mo_friendsIn_42 : decode c_Mo_friendsIn 42 = .ok (.ior, 1) := by decide +kernel
theorem d_Mo_friendsIn_43 : decode c_Mo_friendsIn 43 = .ok (.istore 4, 2) := by decide +kernel
theorem d_Mo_friendsIn_45 : decode c_Mo_friendsIn 45 = .ok (.iinc 5 1, 3) := by decide +kernel
theorem d_Mo_friendsIn_48 : decode c_Mo_friendsIn 48 = .ok (.goto (-42), 3) := by decide +kernel
theorem d_Mo_friendsIn_51 : decode c_Mo_friendsIn 51 = .ok (.iload 4, 2) := by decide +kernel
theorem d_Mo_friendsIn_53 : decode c_Mo_friendsIn 53 = .ok (.ireturn, 1) := by decide +kernel
theorem d_Mo_friends_0 : decode c_Mo_friends 0 = .ok (.aload_n 0, 1) := by decide +kernel
theorem d_Mo_friends_1 : decode c_Mo_friends 1 = .ok (.iload_n 1, 1) := by decide +kernel
theorem d_Mo_friends_2 : decode c_Mo_friends 2 = .ok (.invokevirtual 70, 3) := by decide +kernel
theorem d_Mo_friends_5 : decode c_Mo_friends 5 = .ok (.ifCond .eq 19, 3) := by decide +kernel
theorem d_Mo_friends_8 : decode c_Mo_friends 8 = .ok (.aload_n 0, 1) := by decide +kernel
theorem d_Mo_friends_9 : decode c_Mo_friends 9 = .ok (.aload_n 0, 1) := by decide +kernel
theorem d_Mo_friends_10 : decode c_Mo_friends 10 = .ok (.getfield 63, 3) := by decide +kernel
theorem d_Mo_friends_13 : decode c_Mo_friends 13 = .ok (.aload_n 0, 1) := by decide +kernel
theorem d_Mo_friends_14 : decode c_Mo_friends 14 = .ok (.getfield 86, 3) := by decide +kernel
theorem d_Mo_friends_17 : decode c_Mo_friends 17 = .ok (.iload_n 1, 1) := by decide +kernel
theorem d_Mo_friends_18 : decode c_Mo_friends 18 = .ok (.invokevirtual 204, 3) := by decide +kernel
theorem d_Mo_friends_21 : decode c_Mo_friends 21 = .ok (.goto 5, 3) := by decide +kernel
theorem d_Mo_friends_24 : decode c_Mo_friends 24 = .ok (.ldc 203, 2) := by decide +kernel
theorem d_Mo_friends_26 : decode c_Mo_friends 26 = .ok (.ireturn, 1) := by decide +kernel
theorem d_Mo_alike_0 : decode c_Mo_alike 0 = .ok (.aload_n 0, 1) := by decide +kernel
theorem d_Mo_alike_1 : decode c_Mo_alike 1 = .ok (.iload_n 1, 1) := by decide +kernel
theorem d_Mo_alike_2 : decode c_Mo_alike 2 = .ok (.invokevirtual 70, 3) := by decide +kernel
theorem d_Mo_alike_5 : decode c_Mo_alike 5 = .ok (.ifCond .ne 6, 3) := by decide +kernel
theorem d_Mo_alike_8 : decode c_Mo_alike 8 = .ok (.ldc 203, 2) := by decide +kernel
theorem d_Mo_alike_10 : decode c_Mo_alike 10 = .ok (.ireturn, 1) := by decide +kernel
theorem d_Mo_alike_11 : decode c_Mo_alike 11 = .ok (.aload_n 0, 1) := by decide +kernel
theorem d_Mo_alike_12 : decode c_Mo_alike 12 = .ok (.aload_n 0, 1) := by decide +kernel
theorem d_Mo_alike_13 : decode c_Mo_alike 13 = .ok (.getfield 63, 3) := by decide +kernel
theorem d_Mo_alike_16 : decode c_Mo_alike 16 = .ok (.aload_n 0, 1) := by decide +kernel
theorem d_Mo_alike_17 : decode c_Mo_alike 17 = .ok (.getfield 86, 3) := by decide +kernel
theorem d_Mo_alike_20 : decode c_Mo_alike 20 = .ok (.invokevirtual 82, 3) := by decide +kernel
theorem d_Mo_alike_23 : decode c_Mo_alike 23 = .ok (.iconst 0, 1) := by decide +kernel
theorem d_Mo_alike_24 : decode c_Mo_alike 24 = .ok (.istore_n 2, 1) := by decide +kernel
theorem d_Mo_alike_25 : decode c_Mo_alike 25 = .ok (.iconst 0, 1) := by decide +kernel
theorem d_Mo_alike_26 : decode c_Mo_alike 26 = .ok (.istore_n 3, 1) := by decide +kernel
theorem d_Mo_alike_27 : decode c_Mo_alike 27 = .ok (.iload_n 3, 1) := by decide +kernel
theorem d_Mo_alike_28 : decode c_Mo_alike 28 = .ok (.aload_n 0, 1) := by decide +kernel
theorem d_Mo_alike_29 : decode c_Mo_alike 29 = .ok (.getfield 63, 3) := by decide +kernel
theorem d_Mo_alike_32 : decode c_Mo_alike 32 = .ok (.if_icmp .ge 39, 3) := by decide +kernel
theorem d_Mo_alike_35 : decode c_Mo_alike 35 = .ok (.iload_n 2, 1) := by decide +kernel
theorem d_Mo_alike_36 : decode c_Mo_alike 36 = .ok (.iload_n 3, 1) := by decide +kernel
theorem d_Mo_alike_37 : decode c_Mo_alike 37 = .ok (.iload_n 1, 1) := by decide +kernel
theorem d_Mo_alike_38 : decode c_Mo_alike 38 = .ok (.if_icmp .eq 24, 3) := by decide +kernel
theorem d_Mo_alike_41 : decode c_Mo_alike 41 = .ok (.aload_n 0, 1) := by decide +kernel
theorem d_Mo_alike_42 : decode c_Mo_alike 42 = .ok (.getfield 20, 3) := by decide +kernel
theorem d_Mo_alike_45 : decode c_Mo_alike 45 = .ok (.iload_n 3, 1) := by decide +kernel
theorem d_Mo_alike_46 : decode c_Mo_alike 46 = .ok (.iaload, 1) := by decide +kernel
theorem d_Mo_alike_47 : decode c_Mo_alike 47 = .ok (.aload_n 0, 1) := by decide +kernel
theorem d_Mo_alike_48 : decode c_Mo_alike 48 = .ok (.getfield 20, 3) := by decide +kernel
theorem d_Mo_alike_51 : decode c_Mo_alike 51 = .ok (.iload_n 1, 1) := by decide +kernel
theorem d_Mo_alike_52 : decode c_Mo_alike 52 = .ok (.iaload, 1) := by decide +kernel
theorem d_Mo_alike_53 : decode c_Mo_alike 53 = .ok (.if_icmp .ne 9, 3) := by decide +kernel
theorem d_Mo_alike_56 : decode c_Mo_alike 56 = .ok (.iconst 1, 1) := by decide +kernel
theorem d_Mo_alike_57 : decode c_Mo_alike 57 = .ok (.iload_n 3, 1) := by decide +kernel
theorem d_Mo_alike_58 : decode c_Mo_alike 58 = .ok (.ishl, 1) := by decide +kernel
theorem d_Mo_alike_59 : decode c_Mo_alike 59 = .ok (.goto 4, 3) := by decide +kernel
theorem d_Mo_alike_62 : decode c_Mo_alike 62 = .ok (.iconst 0, 1) := by decide +kernel
theorem d_Mo_alike_63 : decode c_Mo_alike 63 = .ok (.ior, 1) := by decide +kernel
theorem d_Mo_alike_64 : decode c_Mo_alike 64 = .ok (.istore_n 2, 1) := by decide +kernel
theorem d_Mo_alike_65 : decode c_Mo_alike 65 = .ok (.iinc 3 1, 3) := by decide +kernel
theorem d_Mo_alike_68 : decode c_Mo_alike 68 = .ok (.goto (-41), 3) := by decide +kernel
theorem d_Mo_alike_71 : decode c_Mo_alike 71 = .ok (.iload_n 2, 1) := by decide +kernel
theorem d_Mo_alike_72 : decode c_Mo_alike 72 = .ok (.ireturn, 1) := by decide +kernel
theorem d_Mo_pair_0 : decode c_Mo_pair 0 = .ok (.aload_n 0, 1) := by decide +kernel
theorem d_Mo_pair_1 : decode c_Mo_pair 1 = .ok (.iload_n 1, 1) := by decide +kernel
theorem d_Mo_pair_2 : decode c_Mo_pair 2 = .ok (.iload_n 2, 1) := by decide +kernel
theorem d_Mo_pair_3 : decode c_Mo_pair 3 = .ok (.invokevirtual 207, 3) := by decide +kernel
theorem d_Mo_pair_6 : decode c_Mo_pair 6 = .ok (.ifCond .eq 15, 3) := by decide +kernel
theorem d_Mo_pair_9 : decode c_Mo_pair 9 = .ok (.aload_n 0, 1) := by decide +kernel
theorem d_Mo_pair_10 : decode c_Mo_pair 10 = .ok (.getfield 63, 3) := by decide +kernel
theorem d_Mo_pair_13 : decode c_Mo_pair 13 = .ok (.iload_n 1, 1) := by decide +kernel
theorem d_Mo_pair_14 : decode c_Mo_pair 14 = .ok (.iload_n 2, 1) := by decide +kernel
theorem d_Mo_pair_15 : decode c_Mo_pair 15 = .ok (.invokestatic 74, 3) := by decide +kernel
theorem d_Mo_pair_18 : decode c_Mo_pair 18 = .ok (.goto 5, 3) := by decide +kernel
theorem d_Mo_pair_21 : decode c_Mo_pair 21 = .ok (.ldc 203, 2) := by decide +kernel
theorem d_Mo_pair_23 : decode c_Mo_pair 23 = .ok (.ireturn, 1) := by decide +kernel
theorem d_Mo_tie_0 : decode c_Mo_tie 0 = .ok (.aload_n 0, 1) := by decide +kernel
theorem d_Mo_tie_1 : decode c_Mo_tie 1 = .ok (.iload_n 1, 1) := by decide +kernel
theorem d_Mo_tie_2 : decode c_Mo_tie 2 = .ok (.iload_n 2, 1) := by decide +kernel
theorem d_Mo_tie_3 : decode c_Mo_tie 3 = .ok (.invokevirtual 207, 3) := by decide +kernel
theorem d_Mo_tie_6 : decode c_Mo_tie 6 = .ok (.ifCond .ne 6, 3) := by decide +kernel
theorem d_Mo_tie_9 : decode c_Mo_tie 9 = .ok (.ldc 203, 2) := by decide +kernel
theorem d_Mo_tie_11 : decode c_Mo_tie 11 = .ok (.ireturn, 1) := by decide +kernel
theorem d_Mo_tie_12 : decode c_Mo_tie 12 = .ok (.aload_n 0, 1) := by decide +kernel
theorem d_Mo_tie_13 : decode c_Mo_tie 13 = .ok (.getfield 63, 3) := by decide +kernel
theorem d_Mo_tie_16 : decode c_Mo_tie 16 = .ok (.iload_n 1, 1) := by decide +kernel
theorem d_Mo_tie_17 : decode c_Mo_tie 17 = .ok (.iload_n 2, 1) := by decide +kernel
theorem d_Mo_tie_18 : decode c_Mo_tie 18 = .ok (.invokestatic 74, 3) := by decide +kernel
theorem d_Mo_tie_21 : decode c_Mo_tie 21 = .ok (.istore 4, 2) := by decide +kernel
theorem d_Mo_tie_23 : decode c_Mo_tie 23 = .ok (.iload_n 3, 1) := by decide +kernel
theorem d_Mo_tie_24 : decode c_Mo_tie 24 = .ok (.ifCond .eq 18, 3) := by decide +kernel
theorem d_Mo_tie_27 : decode c_Mo_tie 27 = .ok (.aload_n 0, 1) := by decide +kernel
theorem d_Mo_tie_28 : decode c_Mo_tie 28 = .ok (.getfield 185, 3) := by decide +kernel
theorem d_Mo_tie_31 : decode c_Mo_tie 31 = .ok (.iload 4, 2) := by decide +kernel
theorem d_Mo_tie_33 : decode c_Mo_tie 33 = .ok (.invokestatic 78, 3) := by decide +kernel
theorem d_Mo_tie_36 : decode c_Mo_tie 36 = .ok (.ifCond .eq 21, 3) := by decide +kernel
theorem d_Mo_tie_39 : decode c_Mo_tie 39 = .ok (.goto 15, 3) := by decide +kernel
theorem d_Mo_tie_42 : decode c_Mo_tie 42 = .ok (.aload_n 0, 1) := by decide +kernel
theorem d_Mo_tie_43 : decode c_Mo_tie 43 = .ok (.getfield 188, 3) := by decide +kernel
theorem d_Mo_tie_46 : decode c_Mo_tie 46 = .ok (.iload 4, 2) := by decide +kernel
theorem d_Mo_tie_48 : decode c_Mo_tie 48 = .ok (.invokestatic 78, 3) := by decide +kernel
theorem d_Mo_tie_51 : decode c_Mo_tie 51 = .ok (.ifCond .eq 6, 3) := by decide +kernel
theorem d_Mo_tie_54 : decode c_Mo_tie 54 = .ok (.ldc 210, 2) := by decide +kernel
theorem d_Mo_tie_56 : decode c_Mo_tie 56 = .ok (.ireturn, 1) := by decide +kernel
theorem d_Mo_tie_57 : decode c_Mo_tie 57 = .ok (.aload_n 0, 1) := by decide +kernel
theorem d_Mo_tie_58 : decode c_Mo_tie 58 = .ok (.getfield 86, 3) := by decide +kernel
theorem d_Mo_tie_61 : decode c_Mo_tie 61 = .ok (.istore 5, 2) := by decide +kernel
theorem d_Mo_tie_63 : decode c_Mo_tie 63 = .ok (.aload_n 0, 1) := by decide +kernel
theorem d_Mo_tie_64 : decode c_Mo_tie 64 = .ok (.iload_n 3, 1) := by decide +kernel
theorem d_Mo_tie_65 : decode c_Mo_tie 65 = .ok (.ifCond .eq 15, 3) := by decide +kernel
theorem d_Mo_tie_68 : decode c_Mo_tie 68 = .ok (.aload_n 0, 1) := by decide +kernel
theorem d_Mo_tie_69 : decode c_Mo_tie 69 = .ok (.getfield 86, 3) := by decide +kernel
theorem d_Mo_tie_72 : decode c_Mo_tie 72 = .ok (.iconst 1, 1) := by decide +kernel
theorem d_Mo_tie_73 : decode c_Mo_tie 73 = .ok (.iload 4, 2) := by decide +kernel
theorem d_Mo_tie_75 : decode c_Mo_tie 75 = .ok (.ishl, 1) := by decide +kernel
theorem d_Mo_tie_76 : decode c_Mo_tie 76 = .ok (.ior, 1) := by decide +kernel
theorem d_Mo_tie_77 : decode c_Mo_tie 77 = .ok (.goto 14, 3) := by decide +kernel
theorem d_Mo_tie_80 : decode c_Mo_tie 80 = .ok (.aload_n 0, 1) := by decide +kernel
theorem d_Mo_tie_81 : decode c_Mo_tie 81 = .ok (.getfield 86, 3) := by decide +kernel
theorem d_Mo_tie_84 : decode c_Mo_tie 84 = .ok (.iconst 1, 1) := by decide +kernel
theorem d_Mo_tie_85 : decode c_Mo_tie 85 = .ok (.iload 4, 2) := by decide +kernel
theorem d_Mo_tie_87 : decode c_Mo_tie 87 = .ok (.ishl, 1) := by decide +kernel
theorem d_Mo_tie_88 : decode c_Mo_tie 88 = .ok (.iconst (-1), 1) := by decide +kernel
theorem d_Mo_tie_89 : decode c_Mo_tie 89 = .ok (.ixor, 1) := by decide +kernel
theorem d_Mo_tie_90 : decode c_Mo_tie 90 = .ok (.iand, 1) := by decide +kernel
theorem d_Mo_tie_91 : decode c_Mo_tie 91 = .ok (.putfield 86, 3) := by decide +kernel
theorem d_Mo_tie_94 : decode c_Mo_tie 94 = .ok (.iload 5, 2) := by decide +kernel
theorem d_Mo_tie_96 : decode c_Mo_tie 96 = .ok (.aload_n 0, 1) := by decide +kernel
theorem d_Mo_tie_97 : decode c_Mo_tie 97 = .ok (.getfield 86, 3) := by decide +kernel
theorem d_Mo_tie_100 : decode c_Mo_tie 100 = .ok (.if_icmp .ne 7, 3) := by decide +kernel
theorem d_Mo_tie_103 : decode c_Mo_tie 103 = .ok (.iconst 0, 1) := by decide +kernel
theorem d_Mo_tie_104 : decode c_Mo_tie 104 = .ok (.goto 4, 3) := by decide +kernel
theorem d_Mo_tie_107 : decode c_Mo_tie 107 = .ok (.iconst 1, 1) := by decide +kernel
theorem d_Mo_tie_108 : decode c_Mo_tie 108 = .ok (.ireturn, 1) := by decide +kernel
theorem d_Mo_bar_0 : decode c_Mo_bar 0 = .ok (.aload_n 0, 1) := by decide +kernel
theorem d_Mo_bar_1 : decode c_Mo_bar 1 = .ok (.iload_n 1, 1) := by decide +kernel
theorem d_Mo_bar_2 : decode c_Mo_bar 2 = .ok (.iload_n 2, 1) := by decide +kernel
theorem d_Mo_bar_3 : decode c_Mo_bar 3 = .ok (.invokevirtual 207, 3) := by decide +kernel
theorem d_Mo_bar_6 : decode c_Mo_bar 6 = .ok (.ifCond .ne 6, 3) := by decide +kernel
theorem d_Mo_bar_9 : decode c_Mo_bar 9 = .ok (.ldc 203, 2) := by decide +kernel
theorem d_Mo_bar_11 : decode c_Mo_bar 11 = .ok (.ireturn, 1) := by decide +kernel
theorem d_Mo_bar_12 : decode c_Mo_bar 12 = .ok (.iload_n 3, 1) := by decide +kernel
theorem d_Mo_bar_13 : decode c_Mo_bar 13 = .ok (.i2l, 1) := by decide +kernel
theorem d_Mo_bar_14 : decode c_Mo_bar 14 = .ok (.lconst 0, 1) := by decide +kernel
theorem d_Mo_bar_15 : decode c_Mo_bar 15 = .ok (.ldc2_w 211, 3) := by decide +kernel
theorem d_Mo_bar_18 : decode c_Mo_bar 18 = .ok (.invokestatic 66, 3) := by decide +kernel
theorem d_Mo_bar_21 : decode c_Mo_bar 21 = .ok (.ifCond .ne 6, 3) := by decide +kernel
theorem d_Mo_bar_24 : decode c_Mo_bar 24 = .ok (.ldc 94, 2) := by decide +kernel
theorem d_Mo_bar_26 : decode c_Mo_bar 26 = .ok (.ireturn, 1) := by decide +kernel
theorem d_Mo_bar_27 : decode c_Mo_bar 27 = .ok (.aload_n 0, 1) := by decide +kernel
theorem d_Mo_bar_28 : decode c_Mo_bar 28 = .ok (.getfield 63, 3) := by decide +kernel
theorem d_Mo_bar_31 : decode c_Mo_bar 31 = .ok (.iload_n 1, 1) := by decide +kernel
theorem d_Mo_bar_32 : decode c_Mo_bar 32 = .ok (.iload_n 2, 1) := by decide +kernel
theorem d_Mo_bar_33 : decode c_Mo_bar 33 = .ok (.invokestatic 74, 3) := by decide +kernel
theorem d_Mo_bar_36 : decode c_Mo_bar 36 = .ok (.istore 4, 2) := by decide +kernel
theorem d_Mo_bar_38 : decode c_Mo_bar 38 = .ok (.aload_n 0, 1) := by decide +kernel
theorem d_Mo_bar_39 : decode c_Mo_bar 39 = .ok (.getfield 185, 3) := by decide +kernel
theorem d_Mo_bar_42 : decode c_Mo_bar 42 = .ok (.iload 4, 2) := by decide +kernel
theorem d_Mo_bar_44 : decode c_Mo_bar 44 = .ok (.invokestatic 78, 3) := by decide +kernel
theorem d_Mo_bar_47 : decode c_Mo_bar 47 = .ok (.ifCond .eq 7, 3) := by decide +kernel
theorem d_Mo_bar_50 : decode c_Mo_bar 50 = .ok (.iconst 1, 1) := by decide +kernel
theorem d_Mo_bar_51 : decode c_Mo_bar 51 = .ok (.goto 20, 3) := by decide +kernel
theorem d_Mo_bar_54 : decode c_Mo_bar 54 = .ok (.aload_n 0, 1) := by decide +kernel
theorem d_Mo_bar_55 : decode c_Mo_bar 55 = .ok (.getfield 188, 3) := by decide +kernel
theorem d_Mo_bar_58 : decode c_Mo_bar 58 = .ok (.iload 4, 2) := by decide +kernel
theorem d_Mo_bar_60 : decode c_Mo_bar 60 = .ok (.invokestatic 78, 3) := by decide +kernel
theorem d_Mo_bar_63 : decode c_Mo_bar 63 = .ok (.ifCond .eq 7, 3) := by decide +kernel
theorem d_Mo_bar_66 : decode c_Mo_bar 66 = .ok (.iconst 2, 1) := by decide +kernel
theorem d_Mo_bar_67 : decode c_Mo_bar 67 = .ok (.goto 4, 3) := by decide +kernel
theorem d_Mo_bar_70 : decode c_Mo_bar 70 = .ok (.iconst 0, 1) := by decide +kernel
theorem d_Mo_bar_71 : decode c_Mo_bar 71 = .ok (.istore 5, 2) := by decide +kernel
theorem d_Mo_bar_73 : decode c_Mo_bar 73 = .ok (.aload_n 0, 1) := by decide +kernel
theorem d_Mo_bar_74 : decode c_Mo_bar 74 = .ok (.iload_n 3, 1) := by decide +kernel
theorem d_Mo_bar_75 : decode c_Mo_bar 75 = .ok (.iconst 1, 1) := by decide +kernel
theorem d_Mo_bar_76 : decode c_Mo_bar 76 = .ok (.if_icmp .ne 15, 3) := by decide +kernel
theorem d_Mo_bar_79 : decode c_Mo_bar 79 = .ok (.aload_n 0, 1) := by decide +kernel
theorem d_Mo_bar_80 : decode c_Mo_bar 80 = .ok (.getfield 185, 3) := by decide +kernel
theorem d_Mo_bar_83 : decode c_Mo_bar 83 = .ok (.iconst 1, 1) := by decide +kernel
theorem d_Mo_bar_84 : decode c_Mo_bar 84 = .ok (.iload 4, 2) := by decide +kernel
theorem d_Mo_bar_86 : decode c_Mo_bar 86 = .ok (.ishl, 1) := by decide +kernel
theorem d_Mo_bar_87 : decode c_Mo_bar 87 = .ok (.ior, 1) := by decide +kernel
theorem d_Mo_bar_88 : decode c_Mo_bar 88 = .ok (.goto 14, 3) := by decide +kernel
theorem d_Mo_bar_91 : decode c_Mo_bar 91 = .ok (.aload_n 0, 1) := by decide +kernel
theorem d_Mo_bar_92 : decode c_Mo_bar 92 = .ok (.getfield 185, 3) := by decide +kernel
theorem d_Mo_bar_95 : decode c_Mo_bar 95 = .ok (.iconst 1, 1) := by decide +kernel
theorem d_Mo_bar_96 : decode c_Mo_bar 96 = .ok (.iload 4, 2) := by decide +kernel
theorem d_Mo_bar_98 : decode c_Mo_bar 98 = .ok (.ishl, 1) := by decide +kernel
theorem d_Mo_bar_99 : decode c_Mo_bar 99 = .ok (.iconst (-1), 1) := by decide +kernel
theorem d_Mo_bar_100 : decode c_Mo_bar 100 = .ok (.ixor, 1) := by decide +kernel
theorem d_Mo_bar_101 : decode c_Mo_bar 101 = .ok (.iand, 1) := by decide +kernel
theorem d_Mo_bar_102 : decode c_Mo_bar 102 = .ok (.putfield 185, 3) := by decide +kernel
theorem d_Mo_bar_105 : decode c_Mo_bar 105 = .ok (.aload_n 0, 1) := by decide +kernel
theorem d_Mo_bar_106 : decode c_Mo_bar 106 = .ok (.iload_n 3, 1) := by decide +kernel
theorem d_Mo_bar_107 : decode c_Mo_bar 107 = .ok (.iconst 2, 1) := by decide +kernel
theorem d_Mo_bar_108 : decode c_Mo_bar 108 = .ok (.if_icmp .ne 15, 3) := by decide +kernel
theorem d_Mo_bar_111 : decode c_Mo_bar 111 = .ok (.aload_n 0, 1) := by decide +kernel
theorem d_Mo_bar_112 : decode c_Mo_bar 112 = .ok (.getfield 188, 3) := by decide +kernel
theorem d_Mo_bar_115 : decode c_Mo_bar 115 = .ok (.iconst 1, 1) := by decide +kernel
theorem d_Mo_bar_116 : decode c_Mo_bar 116 = .ok (.iload 4, 2) := by decide +kernel
theorem d_Mo_bar_118 : decode c_Mo_bar 118 = .ok (.ishl, 1) := by decide +kernel
theorem d_Mo_bar_119 : decode c_Mo_bar 119 = .ok (.ior, 1) := by decide +kernel
theorem d_Mo_bar_120 : decode c_Mo_bar 120 = .ok (.goto 14, 3) := by decide +kernel
theorem d_Mo_bar_123 : decode c_Mo_bar 123 = .ok (.aload_n 0, 1) := by decide +kernel
theorem d_Mo_bar_124 : decode c_Mo_bar 124 = .ok (.getfield 188, 3) := by decide +kernel
theorem d_Mo_bar_127 : decode c_Mo_bar 127 = .ok (.iconst 1, 1) := by decide +kernel
theorem d_Mo_bar_128 : decode c_Mo_bar 128 = .ok (.iload 4, 2) := by decide +kernel
theorem d_Mo_bar_130 : decode c_Mo_bar 130 = .ok (.ishl, 1) := by decide +kernel
theorem d_Mo_bar_131 : decode c_Mo_bar 131 = .ok (.iconst (-1), 1) := by decide +kernel
theorem d_Mo_bar_132 : decode c_Mo_bar 132 = .ok (.ixor, 1) := by decide +kernel
theorem d_Mo_bar_133 : decode c_Mo_bar 133 = .ok (.iand, 1) := by decide +kernel
theorem d_Mo_bar_134 : decode c_Mo_bar 134 = .ok (.putfield 188, 3) := by decide +kernel
theorem d_Mo_bar_137 : decode c_Mo_bar 137 = .ok (.aload_n 0, 1) := by decide +kernel
theorem d_Mo_bar_138 : decode c_Mo_bar 138 = .ok (.iload_n 3, 1) := by decide +kernel
theorem d_Mo_bar_139 : decode c_Mo_bar 139 = .ok (.iconst 2, 1) := by decide +kernel
theorem d_Mo_bar_140 : decode c_Mo_bar 140 = .ok (.if_icmp .ne 15, 3) := by decide +kernel
theorem d_Mo_bar_143 : decode c_Mo_bar 143 = .ok (.aload_n 0, 1) := by decide +kernel
theorem d_Mo_bar_144 : decode c_Mo_bar 144 = .ok (.getfield 86, 3) := by decide +kernel
theorem d_Mo_bar_147 : decode c_Mo_bar 147 = .ok (.iconst 1, 1) := by decide +kernel
theorem d_Mo_bar_148 : decode c_Mo_bar 148 = .ok (.iload 4, 2) := by decide +kernel
theorem d_Mo_bar_150 : decode c_Mo_bar 150 = .ok (.ishl, 1) := by decide +kernel
theorem d_Mo_bar_151 : decode c_Mo_bar 151 = .ok (.ior, 1) := by decide +kernel
theorem d_Mo_bar_152 : decode c_Mo_bar 152 = .ok (.goto 26, 3) := by decide +kernel
theorem d_Mo_bar_155 : decode c_Mo_bar 155 = .ok (.iload_n 3, 1) := by decide +kernel
theorem d_Mo_bar_156 : decode c_Mo_bar 156 = .ok (.iconst 1, 1) := by decide +kernel
theorem d_Mo_bar_157 : decode c_Mo_bar 157 = .ok (.if_icmp .ne 17, 3) := by decide +kernel
theorem d_Mo_bar_160 : decode c_Mo_bar 160 = .ok (.aload_n 0, 1) := by decide +kernel
theorem d_Mo_bar_161 : decode c_Mo_bar 161 = .ok (.getfield 86, 3) := by decide +kernel
theorem d_Mo_bar_164 : decode c_Mo_bar 164 = .ok (.iconst 1, 1) := by decide +kernel
theorem d_Mo_bar_165 : decode c_Mo_bar 165 = .ok (.iload 4, 2) := by decide +kernel
theorem d_Mo_bar_167 : decode c_Mo_bar 167 = .ok (.ishl, 1) := by decide +kernel
theorem d_Mo_bar_168 : decode c_Mo_bar 168 = .ok (.iconst (-1), 1) := by decide +kernel
theorem d_Mo_bar_169 : decode c_Mo_bar 169 = .ok (.ixor, 1) := by decide +kernel
theorem d_Mo_bar_170 : decode c_Mo_bar 170 = .ok (.iand, 1) := by decide +kernel
theorem d_Mo_bar_171 : decode c_Mo_bar 171 = .ok (.goto 7, 3) := by decide +kernel
theorem d_Mo_bar_174 : decode c_Mo_bar 174 = .ok (.aload_n 0, 1) := by decide +kernel
theorem d_Mo_bar_175 : decode c_Mo_bar 175 = .ok (.getfield 86, 3) := by decide +kernel
theorem d_Mo_bar_178 : decode c_Mo_bar 178 = .ok (.putfield 86, 3) := by decide +kernel
theorem d_Mo_bar_181 : decode c_Mo_bar 181 = .ok (.iload 5, 2) := by decide +kernel
theorem d_Mo_bar_183 : decode c_Mo_bar 183 = .ok (.ireturn, 1) := by decide +kernel
theorem d_Mo_withMore_0 : decode c_Mo_withMore 0 = .ok (.iconst 0, 1) := by decide +kernel
theorem d_Mo_withMore_1 : decode c_Mo_withMore 1 = .ok (.istore_n 2, 1) := by decide +kernel
theorem d_Mo_withMore_2 : decode c_Mo_withMore 2 = .ok (.iconst 0, 1) := by decide +kernel
theorem d_Mo_withMore_3 : decode c_Mo_withMore 3 = .ok (.istore_n 3, 1) := by decide +kernel
theorem d_Mo_withMore_4 : decode c_Mo_withMore 4 = .ok (.iload_n 3, 1) := by decide +kernel
theorem d_Mo_withMore_5 : decode c_Mo_withMore 5 = .ok (.iload_n 0, 1) := by decide +kernel
theorem d_Mo_withMore_6 : decode c_Mo_withMore 6 = .ok (.if_icmp .ge 58, 3) := by decide +kernel
theorem d_Mo_withMore_9 : decode c_Mo_withMore 9 = .ok (.iload_n 3, 1) := by decide +kernel
theorem d_Mo_withMore_10 : decode c_Mo_withMore 10 = .ok (.iconst 1, 1) := by decide +kernel
theorem d_Mo_withMore_11 : decode c_Mo_withMore 11 = .ok (.iadd, 1) := by decide +kernel
theorem d_Mo_withMore_12 : decode c_Mo_withMore 12 = .ok (.istore 4, 2) := by decide +kernel
theorem d_Mo_withMore_14 : decode c_Mo_withMore 14 = .ok (.iload 4, 2) := by decide +kernel
theorem d_Mo_withMore_16 : decode c_Mo_withMore 16 = .ok (.iload_n 0, 1) := by decide +kernel
theorem d_Mo_withMore_17 : decode c_Mo_withMore 17 = .ok (.if_icmp .ge 41, 3) := by decide +kernel
theorem d_Mo_withMore_20 : decode c_Mo_withMore 20 = .ok (.iload_n 2, 1) := by decide +kernel
theorem d_Mo_withMore_21 : decode c_Mo_withMore 21 = .ok (.iload_n 1, 1) := by decide +kernel
theorem d_Mo_withMore_22 : decode c_Mo_withMore 22 = .ok (.iload_n 0, 1) := by decide +kernel
theorem d_Mo_withMore_23 : decode c_Mo_withMore 23 = .ok (.iload_n 3, 1) := by decide +kernel
theorem d_Mo_withMore_24 : decode c_Mo_withMore 24 = .ok (.iload 4, 2) := by decide +kernel
theorem d_Mo_withMore_26 : decode c_Mo_withMore 26 = .ok (.invokestatic 74, 3) := by decide +kernel
theorem d_Mo_withMore_29 : decode c_Mo_withMore 29 = .ok (.invokestatic 78, 3) := by decide +kernel
theorem d_Mo_withMore_32 : decode c_Mo_withMore 32 = .ok (.ifCond .eq 17, 3) := by decide +kernel
theorem d_Mo_withMore_35 : decode c_Mo_withMore 35 = .ok (.iconst 1, 1) := by decide +kernel
theorem d_Mo_withMore_36 : decode c_Mo_withMore 36 = .ok (.iload_n 0, 1) := by decide +kernel
theorem d_Mo_withMore_37 : decode c_Mo_withMore 37 = .ok (.iconst 1, 1) := by decide +kernel
theorem d_Mo_withMore_38 : decode c_Mo_withMore 38 = .ok (.iadd, 1) := by decide +kernel
theorem d_Mo_withMore_39 : decode c_Mo_withMore 39 = .ok (.iload_n 3, 1) := by decide +kernel
theorem d_Mo_withMore_40 : decode c_Mo_withMore 40 = .ok (.iload 4, 2) := by decide +kernel
theorem d_Mo_withMore_42 : decode c_Mo_withMore 42 = .ok (.invokestatic 74, 3) := by decide +kernel
theorem d_Mo_withMore_45 : decode c_Mo_withMore 45 = .ok (.ishl, 1) := by decide +kernel
theorem d_Mo_withMore_46 : decode c_Mo_withMore 46 = .ok (.goto 4, 3) := by decide +kernel
theorem d_Mo_withMore_49 : decode c_Mo_withMore 49 = .ok (.iconst 0, 1) := by decide +kernel
theorem d_Mo_withMore_50 : decode c_Mo_withMore 50 = .ok (.ior, 1) := by decide +kernel
theorem d_Mo_withMore_51 : decode c_Mo_withMore 51 = .ok (.istore_n 2, 1) := by decide +kernel
theorem d_Mo_withMore_52 : decode c_Mo_withMore 52 = .ok (.iinc 4 1, 3) := by decide +kernel
theorem d_Mo_withMore_55 : decode c_Mo_withMore 55 = .ok (.goto (-41), 3) := by decide +kernel
theorem d_Mo_withMore_58 : decode c_Mo_withMore 58 = .ok (.iinc 3 1, 3) := by decide +kernel
theorem d_Mo_withMore_61 : decode c_Mo_withMore 61 = .ok (.goto (-57), 3) := by decide +kernel
theorem d_Mo_withMore_64 : decode c_Mo_withMore 64 = .ok (.iload_n 2, 1) := by decide +kernel
theorem d_Mo_withMore_65 : decode c_Mo_withMore 65 = .ok (.ireturn, 1) := by decide +kernel
theorem d_Mo_without_0 : decode c_Mo_without 0 = .ok (.iconst 0, 1) := by decide +kernel
theorem d_Mo_without_1 : decode c_Mo_without 1 = .ok (.istore_n 3, 1) := by decide +kernel
theorem d_Mo_without_2 : decode c_Mo_without 2 = .ok (.iconst 0, 1) := by decide +kernel
theorem d_Mo_without_3 : decode c_Mo_without 3 = .ok (.istore 4, 2) := by decide +kernel
theorem d_Mo_without_5 : decode c_Mo_without 5 = .ok (.iload 4, 2) := by decide +kernel
theorem d_Mo_without_7 : decode c_Mo_without 7 = .ok (.iload_n 0, 1) := by decide +kernel
theorem d_Mo_without_8 : decode c_Mo_without 8 = .ok (.if_icmp .ge 119, 3) := by decide +kernel
theorem d_Mo_without_11 : decode c_Mo_without 11 = .ok (.iload 4, 2) := by decide +kernel
theorem d_Mo_without_13 : decode c_Mo_without 13 = .ok (.iconst 1, 1) := by decide +kernel
theorem d_Mo_without_14 : decode c_Mo_without 14 = .ok (.iadd, 1) := by decide +kernel
theorem d_Mo_without_15 : decode c_Mo_without 15 = .ok (.istore 5, 2) := by decide +kernel
theorem d_Mo_without_17 : decode c_Mo_without 17 = .ok (.iload 5, 2) := by decide +kernel
theorem d_Mo_without_19 : decode c_Mo_without 19 = .ok (.iload_n 0, 1) := by decide +kernel
theorem d_Mo_without_20 : decode c_Mo_without 20 = .ok (.if_icmp .ge 101, 3) := by decide +kernel
theorem d_Mo_without_23 : decode c_Mo_without 23 = .ok (.iload 4, 2) := by decide +kernel
theorem d_Mo_without_25 : decode c_Mo_without 25 = .ok (.iload_n 2, 1) := by decide +kernel
theorem d_Mo_without_26 : decode c_Mo_without 26 = .ok (.if_icmp .le 10, 3) := by decide +kernel
theorem d_Mo_without_29 : decode c_Mo_without 29 = .ok (.iload 4, 2) := by decide +kernel
theorem d_Mo_without_31 : decode c_Mo_without 31 = .ok (.iconst 1, 1) := by decide +kernel
theorem d_Mo_without_32 : decode c_Mo_without 32 = .ok (.isub, 1) := by decide +kernel
theorem d_Mo_without_33 : decode c_Mo_without 33 = .ok (.goto 5, 3) := by decide +kernel
theorem d_Mo_without_36 : decode c_Mo_without 36 = .ok (.iload 4, 2) := by decide +kernel
theorem d_Mo_without_38 : decode c_Mo_without 38 = .ok (.istore 6, 2) := by decide +kernel
theorem d_Mo_without_40 : decode c_Mo_without 40 = .ok (.iload 5, 2) := by decide +kernel
theorem d_Mo_without_42 : decode c_Mo_without 42 = .ok (.iload_n 2, 1) := by decide +kernel
theorem d_Mo_without_43 : decode c_Mo_without 43 = .ok (.if_icmp .le 10, 3) := by decide +kernel
theorem d_Mo_without_46 : decode c_Mo_without 46 = .ok (.iload 5, 2) := by decide +kernel
theorem d_Mo_without_48 : decode c_Mo_without 48 = .ok (.iconst 1, 1) := by decide +kernel
theorem d_Mo_without_49 : decode c_Mo_without 49 = .ok (.isub, 1) := by decide +kernel
theorem d_Mo_without_50 : decode c_Mo_without 50 = .ok (.goto 5, 3) := by decide +kernel
theorem d_Mo_without_53 : decode c_Mo_without 53 = .ok (.iload 5, 2) := by decide +kernel
theorem d_Mo_without_55 : decode c_Mo_without 55 = .ok (.istore 7, 2) := by decide +kernel
theorem d_Mo_without_57 : decode c_Mo_without 57 = .ok (.iload 4, 2) := by decide +kernel
theorem d_Mo_without_59 : decode c_Mo_without 59 = .ok (.iload_n 2, 1) := by decide +kernel
theorem d_Mo_without_60 : decode c_Mo_without 60 = .ok (.if_icmp .eq 28, 3) := by decide +kernel
theorem d_Mo_without_63 : decode c_Mo_without 63 = .ok (.iload 5, 2) := by decide +kernel
theorem d_Mo_without_65 : decode c_Mo_without 65 = .ok (.iload_n 2, 1) := by decide +kernel
theorem d_Mo_without_66 : decode c_Mo_without 66 = .ok (.if_icmp .eq 22, 3) := by decide +kernel
theorem d_Mo_without_69 : decode c_Mo_without 69 = .ok (.iload_n 1, 1) := by decide +kernel
theorem d_Mo_without_70 : decode c_Mo_without 70 = .ok (.iload_n 0, 1) := by decide +kernel
theorem d_Mo_without_71 : decode c_Mo_without 71 = .ok (.iload 4, 2) := by decide +kernel
theorem d_Mo_without_73 : decode c_Mo_without 73 = .ok (.iload 5, 2) := by decide +kernel
theorem d_Mo_without_75 : decode c_Mo_without 75 = .ok (.invokestatic 74, 3) := by decide +kernel
theorem d_Mo_without_78 : decode c_Mo_without 78 = .ok (.invokestatic 78, 3) := by decide +kernel
theorem d_Mo_without_81 : decode c_Mo_without 81 = .ok (.ifCond .eq 7, 3) := by decide +kernel
theorem d_Mo_without_84 : decode c_Mo_without 84 = .ok (.iconst 1, 1) := by decide +kernel
theorem d_Mo_without_85 : decode c_Mo_without 85 = .ok (.goto 4, 3) := by decide +kernel
theorem d_Mo_without_88 : decode c_Mo_without 88 = .ok (.iconst 0, 1) := by decide +kernel
theorem d_Mo_without_89 : decode c_Mo_without 89 = .ok (.istore 8, 2) := by decide +kernel
theorem d_Mo_without_91 : decode c_Mo_without 91 = .ok (.iload_n 3, 1) := by decide +kernel
theorem d_Mo_without_92 : decode c_Mo_without 92 = .ok (.iload 8, 2) := by decide +kernel
theorem d_Mo_without_94 : decode c_Mo_without 94 = .ok (.ifCond .eq 18, 3) := by decide +kernel
theorem d_Mo_without_97 : decode c_Mo_without 97 = .ok (.iconst 1, 1) := by decide +kernel
theorem d_Mo_without_98 : decode c_Mo_without 98 = .ok (.iload_n 0, 1) := by decide +kernel
theorem d_Mo_without_99 : decode c_Mo_without 99 = .ok (.iconst 1, 1) := by decide +kernel
theorem d_Mo_without_100 : decode c_Mo_without 100 = .ok (.isub, 1) := by decide +kernel
theorem d_Mo_without_101 : decode c_Mo_without 101 = .ok (.iload 6, 2) := by decide +kernel
theorem d_Mo_without_103 : decode c_Mo_without 103 = .ok (.iload 7, 2) := by decide +kernel
theorem d_Mo_without_105 : decode c_Mo_without 105 = .ok (.invokestatic 74, 3) := by decide +kernel
theorem d_Mo_without_108 : decode c_Mo_without 108 = .ok (.ishl, 1) := by decide +kernel
theorem d_Mo_without_109 : decode c_Mo_without 109 = .ok (.goto 4, 3) := by decide +kernel
theorem d_Mo_without_112 : decode c_Mo_without 112 = .ok (.iconst 0, 1) := by decide +kernel
theorem d_Mo_without_113 : decode c_Mo_without 113 = .ok (.ior, 1) := by decide +kernel
theorem d_Mo_without_114 : decode c_Mo_without 114 = .ok (.istore_n 3, 1) := by decide +kernel
theorem d_Mo_without_115 : decode c_Mo_without 115 = .ok (.iinc 5 1, 3) := by decide +kernel
theorem d_Mo_without_118 : decode c_Mo_without 118 = .ok (.goto (-101), 3) := by decide +kernel
theorem d_Mo_without_121 : decode c_Mo_without 121 = .ok (.iinc 4 1, 3) := by decide +kernel
theorem d_Mo_without_124 : decode c_Mo_without 124 = .ok (.goto (-119), 3) := by decide +kernel
theorem d_Mo_without_127 : decode c_Mo_without 127 = .ok (.iload_n 3, 1) := by decide +kernel
theorem d_Mo_without_128 : decode c_Mo_without 128 = .ok (.ireturn, 1) := by decide +kernel
theorem d_Mo_birth_0 : decode c_Mo_birth 0 = .ok (.aload_n 0, 1) := by decide +kernel
theorem d_Mo_birth_1 : decode c_Mo_birth 1 = .ok (.getfield 63, 3) := by decide +kernel
theorem d_Mo_birth_4 : decode c_Mo_birth 4 = .ok (.bipush 8, 2) := by decide +kernel
theorem d_Mo_birth_6 : decode c_Mo_birth 6 = .ok (.if_icmp .ne 6, 3) := by decide +kernel
theorem d_Mo_birth_9 : decode c_Mo_birth 9 = .ok (.ldc 98, 2) := by decide +kernel
theorem d_Mo_birth_11 : decode c_Mo_birth 11 = .ok (.ireturn, 1) := by decide +kernel
theorem d_Mo_birth_12 : decode c_Mo_birth 12 = .ok (.aload_n 0, 1) := by decide +kernel
theorem d_Mo_birth_13 : decode c_Mo_birth 13 = .ok (.aload_n 0, 1) := by decide +kernel
theorem d_Mo_birth_14 : decode c_Mo_birth 14 = .ok (.getfield 63, 3) := by decide +kernel
theorem d_Mo_birth_17 : decode c_Mo_birth 17 = .ok (.aload_n 0, 1) := by decide +kernel
theorem d_Mo_birth_18 : decode c_Mo_birth 18 = .ok (.getfield 86, 3) := by decide +kernel
theorem d_Mo_birth_21 : decode c_Mo_birth 21 = .ok (.invokestatic 213, 3) := by decide +kernel
theorem d_Mo_birth_24 : decode c_Mo_birth 24 = .ok (.putfield 86, 3) := by decide +kernel
theorem d_Mo_birth_27 : decode c_Mo_birth 27 = .ok (.aload_n 0, 1) := by decide +kernel
theorem d_Mo_birth_28 : decode c_Mo_birth 28 = .ok (.aload_n 0, 1) := by decide +kernel
theorem d_Mo_birth_29 : decode c_Mo_birth 29 = .ok (.getfield 63, 3) := by decide +kernel
theorem d_Mo_birth_32 : decode c_Mo_birth 32 = .ok (.aload_n 0, 1) := by decide +kernel
theorem d_Mo_birth_33 : decode c_Mo_birth 33 = .ok (.getfield 185, 3) := by decide +kernel
theorem d_Mo_birth_36 : decode c_Mo_birth 36 = .ok (.invokestatic 213, 3) := by decide +kernel
theorem d_Mo_birth_39 : decode c_Mo_birth 39 = .ok (.putfield 185, 3) := by decide +kernel
theorem d_Mo_birth_42 : decode c_Mo_birth 42 = .ok (.aload_n 0, 1) := by decide +kernel
theorem d_Mo_birth_43 : decode c_Mo_birth 43 = .ok (.aload_n 0, 1) := by decide +kernel
theorem d_Mo_birth_44 : decode c_Mo_birth 44 = .ok (.getfield 63, 3) := by decide +kernel
theorem d_Mo_birth_47 : decode c_Mo_birth 47 = .ok (.aload_n 0, 1) := by decide +kernel
theorem d_Mo_birth_48 : decode c_Mo_birth 48 = .ok (.getfield 188, 3) := by decide +kernel
theorem d_Mo_birth_51 : decode c_Mo_birth 51 = .ok (.invokestatic 213, 3) := by decide +kernel
theorem d_Mo_birth_54 : decode c_Mo_birth 54 = .ok (.putfield 188, 3) := by decide +kernel
theorem d_Mo_birth_57 : decode c_Mo_birth 57 = .ok (.aload_n 0, 1) := by decide +kernel
theorem d_Mo_birth_58 : decode c_Mo_birth 58 = .ok (.dup, 1) := by decide +kernel
theorem d_Mo_birth_59 : decode c_Mo_birth 59 = .ok (.getfield 63, 3) := by decide +kernel
theorem d_Mo_birth_62 : decode c_Mo_birth 62 = .ok (.iconst 1, 1) := by decide +kernel
theorem d_Mo_birth_63 : decode c_Mo_birth 63 = .ok (.iadd, 1) := by decide +kernel
theorem d_Mo_birth_64 : decode c_Mo_birth 64 = .ok (.putfield 63, 3) := by decide +kernel
theorem d_Mo_birth_67 : decode c_Mo_birth 67 = .ok (.aload_n 0, 1) := by decide +kernel
theorem d_Mo_birth_68 : decode c_Mo_birth 68 = .ok (.invokevirtual 191, 3) := by decide +kernel
theorem d_Mo_birth_71 : decode c_Mo_birth 71 = .ok (.aload_n 0, 1) := by decide +kernel
theorem d_Mo_birth_72 : decode c_Mo_birth 72 = .ok (.getfield 63, 3) := by decide +kernel
theorem d_Mo_birth_75 : decode c_Mo_birth 75 = .ok (.iconst 1, 1) := by decide +kernel
theorem d_Mo_birth_76 : decode c_Mo_birth 76 = .ok (.isub, 1) := by decide +kernel
theorem d_Mo_birth_77 : decode c_Mo_birth 77 = .ok (.ireturn, 1) := by decide +kernel
theorem d_Mo_death_0 : decode c_Mo_death 0 = .ok (.aload_n 0, 1) := by decide +kernel
theorem d_Mo_death_1 : decode c_Mo_death 1 = .ok (.iload_n 1, 1) := by decide +kernel
theorem d_Mo_death_2 : decode c_Mo_death 2 = .ok (.invokevirtual 70, 3) := by decide +kernel
theorem d_Mo_death_5 : decode c_Mo_death 5 = .ok (.ifCond .ne 6, 3) := by decide +kernel
theorem d_Mo_death_8 : decode c_Mo_death 8 = .ok (.ldc 203, 2) := by decide +kernel
theorem d_Mo_death_10 : decode c_Mo_death 10 = .ok (.ireturn, 1) := by decide +kernel
theorem d_Mo_death_11 : decode c_Mo_death 11 = .ok (.aload_n 0, 1) := by decide +kernel
theorem d_Mo_death_12 : decode c_Mo_death 12 = .ok (.aload_n 0, 1) := by decide +kernel
theorem d_Mo_death_13 : decode c_Mo_death 13 = .ok (.getfield 63, 3) := by decide +kernel
theorem d_Mo_death_16 : decode c_Mo_death 16 = .ok (.aload_n 0, 1) := by decide +kernel
theorem d_Mo_death_17 : decode c_Mo_death 17 = .ok (.getfield 86, 3) := by decide +kernel
theorem d_Mo_death_20 : decode c_Mo_death 20 = .ok (.iload_n 1, 1) := by decide +kernel
theorem d_Mo_death_21 : decode c_Mo_death 21 = .ok (.invokestatic 216, 3) := by decide +kernel
theorem d_Mo_death_24 : decode c_Mo_death 24 = .ok (.putfield 86, 3) := by decide +kernel
theorem d_Mo_death_27 : decode c_Mo_death 27 = .ok (.aload_n 0, 1) := by decide +kernel
theorem d_Mo_death_28 : decode c_Mo_death 28 = .ok (.aload_n 0, 1) := by decide +kernel
theorem d_Mo_death_29 : decode c_Mo_death 29 = .ok (.getfield 63, 3) := by decide +kernel
theorem d_Mo_death_32 : decode c_Mo_death 32 = .ok (.aload_n 0, 1) := by decide +kernel
theorem d_Mo_death_33 : decode c_Mo_death 33 = .ok (.getfield 185, 3) := by decide +kernel
theorem d_Mo_death_36 : decode c_Mo_death 36 = .ok (.iload_n 1, 1) := by decide +kernel
theorem d_Mo_death_37 : decode c_Mo_death 37 = .ok (.invokestatic 216, 3) := by decide +kernel
theorem d_Mo_death_40 : decode c_Mo_death 40 = .ok (.putfield 185, 3) := by decide +kernel
theorem d_Mo_death_43 : decode c_Mo_death 43 = .ok (.aload_n 0, 1) := by decide +kernel
theorem d_Mo_death_44 : decode c_Mo_death 44 = .ok (.aload_n 0, 1) := by decide +kernel
theorem d_Mo_death_45 : decode c_Mo_death 45 = .ok (.getfield 63, 3) := by decide +kernel
theorem d_Mo_death_48 : decode c_Mo_death 48 = .ok (.aload_n 0, 1) := by decide +kernel
theorem d_Mo_death_49 : decode c_Mo_death 49 = .ok (.getfield 188, 3) := by decide +kernel
theorem d_Mo_death_52 : decode c_Mo_death 52 = .ok (.iload_n 1, 1) := by decide +kernel
theorem d_Mo_death_53 : decode c_Mo_death 53 = .ok (.invokestatic 216, 3) := by decide +kernel
theorem d_Mo_death_56 : decode c_Mo_death 56 = .ok (.putfield 188, 3) := by decide +kernel
theorem d_Mo_death_59 : decode c_Mo_death 59 = .ok (.aload_n 0, 1) := by decide +kernel
theorem d_Mo_death_60 : decode c_Mo_death 60 = .ok (.dup, 1) := by decide +kernel
theorem d_Mo_death_61 : decode c_Mo_death 61 = .ok (.getfield 63, 3) := by decide +kernel
theorem d_Mo_death_64 : decode c_Mo_death 64 = .ok (.iconst 1, 1) := by decide +kernel
theorem d_Mo_death_65 : decode c_Mo_death 65 = .ok (.isub, 1) := by decide +kernel
theorem d_Mo_death_66 : decode c_Mo_death 66 = .ok (.putfield 63, 3) := by decide +kernel
theorem d_Mo_death_69 : decode c_Mo_death 69 = .ok (.aload_n 0, 1) := by decide +kernel
theorem d_Mo_death_70 : decode c_Mo_death 70 = .ok (.invokevirtual 191, 3) := by decide +kernel
theorem d_Mo_death_73 : decode c_Mo_death 73 = .ok (.aload_n 0, 1) := by decide +kernel
theorem d_Mo_death_74 : decode c_Mo_death 74 = .ok (.getfield 63, 3) := by decide +kernel
theorem d_Mo_death_77 : decode c_Mo_death 77 = .ok (.ireturn, 1) := by decide +kernel
theorem d_Mo_isMade_0 : decode c_Mo_isMade 0 = .ok (.iload_n 1, 1) := by decide +kernel
theorem d_Mo_isMade_1 : decode c_Mo_isMade 1 = .ok (.ifCond .ne 18, 3) := by decide +kernel
theorem d_Mo_isMade_4 : decode c_Mo_isMade 4 = .ok (.iload_n 2, 1) := by decide +kernel
theorem d_Mo_isMade_5 : decode c_Mo_isMade 5 = .ok (.iload_n 3, 1) := by decide +kernel
theorem d_Mo_isMade_6 : decode c_Mo_isMade 6 = .ok (.iadd, 1) := by decide +kernel
theorem d_Mo_isMade_7 : decode c_Mo_isMade 7 = .ok (.iload_n 0, 1) := by decide +kernel
theorem d_Mo_isMade_8 : decode c_Mo_isMade 8 = .ok (.if_icmp .lt 7, 3) := by decide +kernel
theorem d_Mo_isMade_11 : decode c_Mo_isMade 11 = .ok (.iconst 1, 1) := by decide +kernel
theorem d_Mo_isMade_12 : decode c_Mo_isMade 12 = .ok (.goto 19, 3) := by decide +kernel
theorem d_Mo_isMade_15 : decode c_Mo_isMade 15 = .ok (.iconst 0, 1) := by decide +kernel
theorem d_Mo_isMade_16 : decode c_Mo_isMade 16 = .ok (.goto 15, 3) := by decide +kernel
theorem d_Mo_isMade_19 : decode c_Mo_isMade 19 = .ok (.iload_n 2, 1) := by decide +kernel
theorem d_Mo_isMade_20 : decode c_Mo_isMade 20 = .ok (.iload_n 3, 1) := by decide +kernel
theorem d_Mo_isMade_21 : decode c_Mo_isMade 21 = .ok (.iadd, 1) := by decide +kernel
theorem d_Mo_isMade_22 : decode c_Mo_isMade 22 = .ok (.iload_n 0, 1) := by decide +kernel
theorem d_Mo_isMade_23 : decode c_Mo_isMade 23 = .ok (.if_icmp .ge 7, 3) := by decide +kernel
theorem d_Mo_isMade_26 : decode c_Mo_isMade 26 = .ok (.iconst 1, 1) := by decide +kernel
theorem d_Mo_isMade_27 : decode c_Mo_isMade 27 = .ok (.goto 4, 3) := by decide +kernel
theorem d_Mo_isMade_30 : decode c_Mo_isMade 30 = .ok (.iconst 0, 1) := by decide +kernel
theorem d_Mo_isMade_31 : decode c_Mo_isMade 31 = .ok (.ireturn, 1) := by decide +kernel
theorem d_Mo_made_0 : decode c_Mo_made 0 = .ok (.iload_n 1, 1) := by decide +kernel
theorem d_Mo_made_1 : decode c_Mo_made 1 = .ok (.i2l, 1) := by decide +kernel
theorem d_Mo_made_2 : decode c_Mo_made 2 = .ok (.ldc2_w 211, 3) := by decide +kernel
theorem d_Mo_made_5 : decode c_Mo_made 5 = .ok (.ldc2_w 92, 3) := by decide +kernel
theorem d_Mo_made_8 : decode c_Mo_made 8 = .ok (.invokestatic 66, 3) := by decide +kernel
theorem d_Mo_made_11 : decode c_Mo_made 11 = .ok (.ifCond .eq 46, 3) := by decide +kernel
theorem d_Mo_made_14 : decode c_Mo_made 14 = .ok (.iload_n 2, 1) := by decide +kernel
theorem d_Mo_made_15 : decode c_Mo_made 15 = .ok (.i2l, 1) := by decide +kernel
theorem d_Mo_made_16 : decode c_Mo_made 16 = .ok (.lconst 0, 1) := by decide +kernel
theorem d_Mo_made_17 : decode c_Mo_made 17 = .ok (.lconst 1, 1) := by decide +kernel
theorem d_Mo_made_18 : decode c_Mo_made 18 = .ok (.invokestatic 66, 3) := by decide +kernel
theorem d_Mo_made_21 : decode c_Mo_made 21 = .ok (.ifCond .eq 36, 3) := by decide +kernel
theorem d_Mo_made_24 : decode c_Mo_made 24 = .ok (.iload_n 3, 1) := by decide +kernel
theorem d_Mo_made_25 : decode c_Mo_made 25 = .ok (.i2l, 1) := by decide +kernel
theorem d_Mo_made_26 : decode c_Mo_made 26 = .ok (.lconst 0, 1) := by decide +kernel
theorem d_Mo_made_27 : decode c_Mo_made 27 = .ok (.iload_n 1, 1) := by decide +kernel
theorem d_Mo_made_28 : decode c_Mo_made 28 = .ok (.iconst 1, 1) := by decide +kernel
theorem d_Mo_made_29 : decode c_Mo_made 29 = .ok (.isub, 1) := by decide +kernel
theorem d_Mo_made_30 : decode c_Mo_made 30 = .ok (.i2l, 1) := by decide +kernel
theorem d_Mo_made_31 : decode c_Mo_made 31 = .ok (.invokestatic 66, 3) := by decide +kernel
theorem d_Mo_made_34 : decode c_Mo_made 34 = .ok (.ifCond .eq 23, 3) := by decide +kernel
theorem d_Mo_made_37 : decode c_Mo_made 37 = .ok (.iload 4, 2) := by decide +kernel
theorem d_Mo_made_39 : decode c_Mo_made 39 = .ok (.i2l, 1) := by decide +kernel
theorem d_Mo_made_40 : decode c_Mo_made 40 = .ok (.lconst 0, 1) := by decide +kernel
theorem d_Mo_made_41 : decode c_Mo_made 41 = .ok (.iload_n 1, 1) := by decide +kernel
theorem d_Mo_made_42 : decode c_Mo_made 42 = .ok (.iconst 1, 1) := by decide +kernel
theorem d_Mo_made_43 : decode c_Mo_made 43 = .ok (.isub, 1) := by decide +kernel
theorem d_Mo_made_44 : decode c_Mo_made 44 = .ok (.i2l, 1) := by decide +kernel
theorem d_Mo_made_45 : decode c_Mo_made 45 = .ok (.invokestatic 66, 3) := by decide +kernel
theorem d_Mo_made_48 : decode c_Mo_made 48 = .ok (.ifCond .eq 9, 3) := by decide +kernel
theorem d_Mo_made_51 : decode c_Mo_made 51 = .ok (.iload_n 3, 1) := by decide +kernel
theorem d_Mo_made_52 : decode c_Mo_made 52 = .ok (.iload 4, 2) := by decide +kernel
theorem d_Mo_made_54 : decode c_Mo_made 54 = .ok (.if_icmp .ne 6, 3) := by decide +kernel
theorem d_Mo_made_57 : decode c_Mo_made 57 = .ok (.ldc 94, 2) := by decide +kernel
theorem d_Mo_made_59 : decode c_Mo_made 59 = .ok (.ireturn, 1) := by decide +kernel
theorem d_Mo_made_60 : decode c_Mo_made 60 = .ok (.iload_n 1, 1) := by decide +kernel
theorem d_Mo_made_61 : decode c_Mo_made 61 = .ok (.iload_n 2, 1) := by decide +kernel
theorem d_Mo_made_62 : decode c_Mo_made 62 = .ok (.iload_n 3, 1) := by decide +kernel
theorem d_Mo_made_63 : decode c_Mo_made 63 = .ok (.iload 4, 2) := by decide +kernel
theorem d_Mo_made_65 : decode c_Mo_made 65 = .ok (.invokestatic 219, 3) := by decide +kernel
theorem d_Mo_made_68 : decode c_Mo_made 68 = .ok (.ifCond .eq 7, 3) := by decide +kernel
theorem d_Mo_made_71 : decode c_Mo_made 71 = .ok (.iconst 1, 1) := by decide +kernel
theorem d_Mo_made_72 : decode c_Mo_made 72 = .ok (.goto 4, 3) := by decide +kernel
theorem d_Mo_made_75 : decode c_Mo_made 75 = .ok (.iconst 0, 1) := by decide +kernel
theorem d_Mo_made_76 : decode c_Mo_made 76 = .ok (.ireturn, 1) := by decide +kernel
theorem d_Mo_priceOf_0 : decode c_Mo_priceOf 0 = .ok (.aload_n 0, 1) := by decide +kernel
theorem d_Mo_priceOf_1 : decode c_Mo_priceOf 1 = .ok (.getfield 7, 3) := by decide +kernel
theorem d_Mo_priceOf_4 : decode c_Mo_priceOf 4 = .ok (.iload_n 2, 1) := by decide +kernel
theorem d_Mo_priceOf_5 : decode c_Mo_priceOf 5 = .ok (.iload_n 1, 1) := by decide +kernel
theorem d_Mo_priceOf_6 : decode c_Mo_priceOf 6 = .ok (.iconst (-1), 1) := by decide +kernel
theorem d_Mo_priceOf_7 : decode c_Mo_priceOf 7 = .ok (.ixor, 1) := by decide +kernel
theorem d_Mo_priceOf_8 : decode c_Mo_priceOf 8 = .ok (.iand, 1) := by decide +kernel
theorem d_Mo_priceOf_9 : decode c_Mo_priceOf 9 = .ok (.invokestatic 197, 3) := by decide +kernel
theorem d_Mo_priceOf_12 : decode c_Mo_priceOf 12 = .ok (.imul, 1) := by decide +kernel
theorem d_Mo_priceOf_13 : decode c_Mo_priceOf 13 = .ok (.aload_n 0, 1) := by decide +kernel
theorem d_Mo_priceOf_14 : decode c_Mo_priceOf 14 = .ok (.getfield 13, 3) := by decide +kernel
theorem d_Mo_priceOf_17 : decode c_Mo_priceOf 17 = .ok (.iload_n 1, 1) := by decide +kernel
theorem d_Mo_priceOf_18 : decode c_Mo_priceOf 18 = .ok (.iload_n 2, 1) := by decide +kernel
theorem d_Mo_priceOf_19 : decode c_Mo_priceOf 19 = .ok (.iconst (-1), 1) := by decide +kernel
theorem d_Mo_priceOf_20 : decode c_Mo_priceOf 20 = .ok (.ixor, 1) := by decide +kernel
theorem d_Mo_priceOf_21 : decode c_Mo_priceOf 21 = .ok (.iand, 1) := by decide +kernel
theorem d_Mo_priceOf_22 : decode c_Mo_priceOf 22 = .ok (.invokestatic 197, 3) := by decide +kernel
theorem d_Mo_priceOf_25 : decode c_Mo_priceOf 25 = .ok (.imul, 1) := by decide +kernel
theorem d_Mo_priceOf_26 : decode c_Mo_priceOf 26 = .ok (.iadd, 1) := by decide +kernel
theorem d_Mo_priceOf_27 : decode c_Mo_priceOf 27 = .ok (.ireturn, 1) := by decide +kernel
theorem d_Mo_priceAt_0 : decode c_Mo_priceAt 0 = .ok (.iconst 0, 1) := by decide +kernel
theorem d_Mo_priceAt_1 : decode c_Mo_priceAt 1 = .ok (.istore 7, 2) := by decide +kernel
theorem d_Mo_priceAt_3 : decode c_Mo_priceAt 3 = .ok (.iconst 0, 1) := by decide +kernel
theorem d_Mo_priceAt_4 : decode c_Mo_priceAt 4 = .ok (.istore 8, 2) := by decide +kernel
theorem d_Mo_priceAt_6 : decode c_Mo_priceAt 6 = .ok (.iload 8, 2) := by decide +kernel
theorem d_Mo_priceAt_8 : decode c_Mo_priceAt 8 = .ok (.iload 6, 2) := by decide +kernel
theorem d_Mo_priceAt_10 : decode c_Mo_priceAt 10 = .ok (.if_icmp .ge 110, 3) := by decide +kernel
theorem d_Mo_priceAt_13 : decode c_Mo_priceAt 13 = .ok (.iload_n 1, 1) := by decide +kernel
theorem d_Mo_priceAt_14 : decode c_Mo_priceAt 14 = .ok (.iload 8, 2) := by decide +kernel
theorem d_Mo_priceAt_16 : decode c_Mo_priceAt 16 = .ok (.iload 6, 2) := by decide +kernel
theorem d_Mo_priceAt_18 : decode c_Mo_priceAt 18 = .ok (.invokestatic 74, 3) := by decide +kernel
theorem d_Mo_priceAt_21 : decode c_Mo_priceAt 21 = .ok (.istore 9, 2) := by decide +kernel
theorem d_Mo_priceAt_23 : decode c_Mo_priceAt 23 = .ok (.iload_n 1, 1) := by decide +kernel
theorem d_Mo_priceAt_24 : decode c_Mo_priceAt 24 = .ok (.iload 5, 2) := by decide +kernel
theorem d_Mo_priceAt_26 : decode c_Mo_priceAt 26 = .ok (.aload_n 0, 1) := by decide +kernel
theorem d_Mo_priceAt_27 : decode c_Mo_priceAt 27 = .ok (.getfield 29, 3) := by decide +kernel
theorem d_Mo_priceAt_30 : decode c_Mo_priceAt 30 = .ok (.iload 6, 2) := by decide +kernel
theorem d_Mo_priceAt_32 : decode c_Mo_priceAt 32 = .ok (.iaload, 1) := by decide +kernel
theorem d_Mo_priceAt_33 : decode c_Mo_priceAt 33 = .ok (.aload_n 0, 1) := by decide +kernel
theorem d_Mo_priceAt_34 : decode c_Mo_priceAt 34 = .ok (.getfield 29, 3) := by decide +kernel
theorem d_Mo_priceAt_37 : decode c_Mo_priceAt 37 = .ok (.iload 8, 2) := by decide +kernel
theorem d_Mo_priceAt_39 : decode c_Mo_priceAt 39 = .ok (.iaload, 1) := by decide +kernel
theorem d_Mo_priceAt_40 : decode c_Mo_priceAt 40 = .ok (.invokestatic 219, 3) := by decide +kernel
theorem d_Mo_priceAt_43 : decode c_Mo_priceAt 43 = .ok (.istore 10, 2) := by decide +kernel
theorem d_Mo_priceAt_45 : decode c_Mo_priceAt 45 = .ok (.iload 10, 2) := by decide +kernel
theorem d_Mo_priceAt_47 : decode c_Mo_priceAt 47 = .ok (.ifCond .eq 12, 3) := by decide +kernel
theorem d_Mo_priceAt_50 : decode c_Mo_priceAt 50 = .ok (.iload_n 3, 1) := by decide +kernel
theorem d_Mo_priceAt_51 : decode c_Mo_priceAt 51 = .ok (.iload 9, 2) := by decide +kernel
theorem d_Mo_priceAt_53 : decode c_Mo_priceAt 53 = .ok (.invokestatic 78, 3) := by decide +kernel
theorem d_Mo_priceAt_56 : decode c_Mo_priceAt 56 = .ok (.goto 10, 3) := by decide +kernel
theorem d_Mo_priceAt_59 : decode c_Mo_priceAt 59 = .ok (.iload 4, 2) := by decide +kernel
theorem d_Mo_priceAt_61 : decode c_Mo_priceAt 61 = .ok (.iload 9, 2) := by decide +kernel
theorem d_Mo_priceAt_63 : decode c_Mo_priceAt 63 = .ok (.invokestatic 78, 3) := by decide +kernel
theorem d_Mo_priceAt_66 : decode c_Mo_priceAt 66 = .ok (.istore 11, 2) := by decide +kernel
theorem d_Mo_priceAt_68 : decode c_Mo_priceAt 68 = .ok (.iload 7, 2) := by decide +kernel
theorem d_Mo_priceAt_70 : decode c_Mo_priceAt 70 = .ok (.iload 11, 2) := by decide +kernel
theorem d_Mo_priceAt_72 : decode c_Mo_priceAt 72 = .ok (.ifCond .eq 8, 3) := by decide +kernel
theorem d_Mo_priceAt_75 : decode c_Mo_priceAt 75 = .ok (.ldc 223, 2) := by decide +kernel
theorem d_Mo_priceAt_77 : decode c_Mo_priceAt 77 = .ok (.goto 34, 3) := by decide +kernel
theorem d_Mo_priceAt_80 : decode c_Mo_priceAt 80 = .ok (.iload 10, 2) := by decide +kernel
theorem d_Mo_priceAt_82 : decode c_Mo_priceAt 82 = .ok (.iload_n 2, 1) := by decide +kernel
theorem d_Mo_priceAt_83 : decode c_Mo_priceAt 83 = .ok (.iload 9, 2) := by decide +kernel
theorem d_Mo_priceAt_85 : decode c_Mo_priceAt 85 = .ok (.invokestatic 78, 3) := by decide +kernel
theorem d_Mo_priceAt_88 : decode c_Mo_priceAt 88 = .ok (.if_icmp .ne 7, 3) := by decide +kernel
theorem d_Mo_priceAt_91 : decode c_Mo_priceAt 91 = .ok (.iconst 0, 1) := by decide +kernel
theorem d_Mo_priceAt_92 : decode c_Mo_priceAt 92 = .ok (.goto 19, 3) := by decide +kernel
theorem d_Mo_priceAt_95 : decode c_Mo_priceAt 95 = .ok (.iload 10, 2) := by decide +kernel
theorem d_Mo_priceAt_97 : decode c_Mo_priceAt 97 = .ok (.ifCond .eq 10, 3) := by decide +kernel
theorem d_Mo_priceAt_100 : decode c_Mo_priceAt 100 = .ok (.aload_n 0, 1) := by decide +kernel
theorem d_Mo_priceAt_101 : decode c_Mo_priceAt 101 = .ok (.getfield 7, 3) := by decide +kernel
theorem d_Mo_priceAt_104 : decode c_Mo_priceAt 104 = .ok (.goto 7, 3) := by decide +kernel
theorem d_Mo_priceAt_107 : decode c_Mo_priceAt 107 = .ok (.aload_n 0, 1) := by decide +kernel
theorem d_Mo_priceAt_108 : decode c_Mo_priceAt 108 = .ok (.getfield 13, 3) := by decide +kernel
theorem d_Mo_priceAt_111 : decode c_Mo_priceAt 111 = .ok (.iadd, 1) := by decide +kernel
theorem d_Mo_priceAt_112 : decode c_Mo_priceAt 112 = .ok (.istore 7, 2) := by decide +kernel
theorem d_Mo_priceAt_114 : decode c_Mo_priceAt 114 = .ok (.iinc 8 1, 3) := by decide +kernel
theorem d_Mo_priceAt_117 : decode c_Mo_priceAt 117 = .ok (.goto (-111), 3) := by decide +kernel
theorem d_Mo_priceAt_120 : decode c_Mo_priceAt 120 = .ok (.iload 7, 2) := by decide +kernel
theorem d_Mo_priceAt_122 : decode c_Mo_priceAt 122 = .ok (.ireturn, 1) := by decide +kernel
theorem d_Mo_isTaken_0 : decode c_Mo_isTaken 0 = .ok (.iconst 0, 1) := by decide +kernel
theorem d_Mo_isTaken_1 : decode c_Mo_isTaken 1 = .ok (.istore_n 2, 1) := by decide +kernel
theorem d_Mo_isTaken_2 : decode c_Mo_isTaken 2 = .ok (.iconst 0, 1) := by decide +kernel
theorem d_Mo_isTaken_3 : decode c_Mo_isTaken 3 = .ok (.istore_n 3, 1) := by decide +kernel
theorem d_Mo_isTaken_4 : decode c_Mo_isTaken 4 = .ok (.iload_n 3, 1) := by decide +kernel
theorem d_Mo_isTaken_5 : decode c_Mo_isTaken 5 = .ok (.iload_n 1, 1) := by decide +kernel
theorem d_Mo_isTaken_6 : decode c_Mo_isTaken 6 = .ok (.if_icmp .ge 34, 3) := by decide +kernel
theorem d_Mo_isTaken_9 : decode c_Mo_isTaken 9 = .ok (.iload_n 2, 1) := by decide +kernel
theorem d_Mo_isTaken_10 : decode c_Mo_isTaken 10 = .ok (.ifCond .ne 18, 3) := by decide +kernel
theorem d_Mo_isTaken_13 : decode c_Mo_isTaken 13 = .ok (.aload_n 0, 1) := by decide +kernel
theorem d_Mo_isTaken_14 : decode c_Mo_isTaken 14 = .ok (.getfield 29, 3) := by decide +kernel
theorem d_Mo_isTaken_17 : decode c_Mo_isTaken 17 = .ok (.iload_n 3, 1) := by decide +kernel
theorem d_Mo_isTaken_18 : decode c_Mo_isTaken 18 = .ok (.iaload, 1) := by decide +kernel
theorem d_Mo_isTaken_19 : decode c_Mo_isTaken 19 = .ok (.aload_n 0, 1) := by decide +kernel
theorem d_Mo_isTaken_20 : decode c_Mo_isTaken 20 = .ok (.getfield 29, 3) := by decide +kernel
theorem d_Mo_isTaken_23 : decode c_Mo_isTaken 23 = .ok (.iload_n 1, 1) := by decide +kernel
theorem d_Mo_isTaken_24 : decode c_Mo_isTaken 24 = .ok (.iaload, 1) := by decide +kernel
theorem d_Mo_isTaken_25 : decode c_Mo_isTaken 25 = .ok (.if_icmp .ne 7, 3) := by decide +kernel
theorem d_Mo_isTaken_28 : decode c_Mo_isTaken 28 = .ok (.iconst 1, 1) := by decide +kernel
theorem d_Mo_isTaken_29 : decode c_Mo_isTaken 29 = .ok (.goto 4, 3) := by decide +kernel
theorem d_Mo_isTaken_32 : decode c_Mo_isTaken 32 = .ok (.iconst 0, 1) := by decide +kernel
theorem d_Mo_isTaken_33 : decode c_Mo_isTaken 33 = .ok (.istore_n 2, 1) := by decide +kernel
theorem d_Mo_isTaken_34 : decode c_Mo_isTaken 34 = .ok (.iinc 3 1, 3) := by decide +kernel
theorem d_Mo_isTaken_37 : decode c_Mo_isTaken 37 = .ok (.goto (-33), 3) := by decide +kernel
theorem d_Mo_isTaken_40 : decode c_Mo_isTaken 40 = .ok (.iload_n 2, 1) := by decide +kernel
theorem d_Mo_isTaken_41 : decode c_Mo_isTaken 41 = .ok (.ireturn, 1) := by decide +kernel
theorem d_Mo_findPlaces_0 : decode c_Mo_findPlaces 0 = .ok (.iconst 0, 1) := by decide +kernel
theorem d_Mo_findPlaces_1 : decode c_Mo_findPlaces 1 = .ok (.istore 6, 2) := by decide +kernel
theorem d_Mo_findPlaces_3 : decode c_Mo_findPlaces 3 = .ok (.aload_n 0, 1) := by decide +kernel
theorem d_Mo_findPlaces_4 : decode c_Mo_findPlaces 4 = .ok (.getfield 32, 3) := by decide +kernel
theorem d_Mo_findPlaces_7 : decode c_Mo_findPlaces 7 = .ok (.iconst 0, 1) := by decide +kernel
theorem d_Mo_findPlaces_8 : decode c_Mo_findPlaces 8 = .ok (.iconst 0, 1) := by decide +kernel
theorem d_Mo_findPlaces_9 : decode c_Mo_findPlaces 9 = .ok (.iastore, 1) := by decide +kernel
theorem d_Mo_findPlaces_10 : decode c_Mo_findPlaces 10 = .ok (.aload_n 0, 1) := by decide +kernel
theorem d_Mo_findPlaces_11 : decode c_Mo_findPlaces 11 = .ok (.getfield 29, 3) := by decide +kernel
theorem d_Mo_findPlaces_14 : decode c_Mo_findPlaces 14 = .ok (.iconst 0, 1) := by decide +kernel
theorem d_Mo_findPlaces_15 : decode c_Mo_findPlaces 15 = .ok (.iconst (-1), 1) := by decide +kernel
theorem d_Mo_findPlaces_16 : decode c_Mo_findPlaces 16 = .ok (.iastore, 1) := by decide +kernel
theorem d_Mo_findPlaces_17 : decode c_Mo_findPlaces 17 = .ok (.iload 6, 2) := by decide +kernel
theorem d_Mo_findPlaces_19 : decode c_Mo_findPlaces 19 = .ok (.ifCond .lt 156, 3) := by decide +kernel
theorem d_Mo_findPlaces_22 : decode c_Mo_findPlaces 22 = .ok (.aload_n 0, 1) := by decide +kernel
theorem d_Mo_findPlaces_23 : decode c_Mo_findPlaces 23 = .ok (.getfield 29, 3) := by decide +kernel
theorem d_Mo_findPlaces_26 : decode c_Mo_findPlaces 26 = .ok (.iload 6, 2) := by decide +kernel
theorem d_Mo_findPlaces_28 : decode c_Mo_findPlaces 28 = .ok (.dup2, 1) := by decide +kernel
theorem d_Mo_findPlaces_29 : decode c_Mo_findPlaces 29 = .ok (.iaload, 1) := by decide +kernel
theorem d_Mo_findPlaces_30 : decode c_Mo_findPlaces 30 = .ok (.iconst 1, 1) := by decide +kernel
theorem d_Mo_findPlaces_31 : decode c_Mo_findPlaces 31 = .ok (.iadd, 1) := by decide +kernel
theorem d_Mo_findPlaces_32 : decode c_Mo_findPlaces 32 = .ok (.iastore, 1) := by decide +kernel
theorem d_Mo_findPlaces_33 : decode c_Mo_findPlaces 33 = .ok (.aload_n 0, 1) := by decide +kernel
theorem d_Mo_findPlaces_34 : decode c_Mo_findPlaces 34 = .ok (.getfield 29, 3) := by decide +kernel
theorem d_Mo_findPlaces_37 : decode c_Mo_findPlaces 37 = .ok (.iload 6, 2) := by decide +kernel
theorem d_Mo_findPlaces_39 : decode c_Mo_findPlaces 39 = .ok (.iaload, 1) := by decide +kernel
theorem d_Mo_findPlaces_40 : decode c_Mo_findPlaces 40 = .ok (.iload_n 1, 1) := by decide +kernel
theorem d_Mo_findPlaces_41 : decode c_Mo_findPlaces 41 = .ok (.if_icmp .lt 9, 3) := by decide +kernel
theorem d_Mo_findPlaces_44 : decode c_Mo_findPlaces 44 = .ok (.iinc 6 (-1), 3) := by decide +kernel
theorem d_Mo_findPlaces_47 : decode c_Mo_findPlaces 47 = .ok (.goto (-30), 3) := by decide +kernel
theorem d_Mo_findPlaces_50 : decode c_Mo_findPlaces 50 = .ok (.aload_n 0, 1) := by decide +kernel
theorem d_Mo_findPlaces_51 : decode c_Mo_findPlaces 51 = .ok (.iload 6, 2) := by decide +kernel
theorem d_Mo_findPlaces_53 : decode c_Mo_findPlaces 53 = .ok (.invokevirtual 224, 3) := by decide +kernel
theorem d_Mo_findPlaces_56 : decode c_Mo_findPlaces 56 = .ok (.ifCond .ne (-39), 3) := by decide +kernel
theorem d_Mo_findPlaces_59 : decode c_Mo_findPlaces 59 = .ok (.aload_n 0, 1) := by decide +kernel
theorem d_Mo_findPlaces_60 : decode c_Mo_findPlaces 60 = .ok (.getfield 32, 3) := by decide +kernel
theorem d_Mo_findPlaces_63 : decode c_Mo_findPlaces 63 = .ok (.iload 6, 2) := by decide +kernel
theorem d_Mo_findPlaces_65 : decode c_Mo_findPlaces 65 = .ok (.iaload, 1) := by decide +kernel
theorem d_Mo_findPlaces_66 : decode c_Mo_findPlaces 66 = .ok (.aload_n 0, 1) := by decide +kernel
theorem d_Mo_findPlaces_67 : decode c_Mo_findPlaces 67 = .ok (.iload_n 1, 1) := by decide +kernel
theorem d_Mo_findPlaces_68 : decode c_Mo_findPlaces 68 = .ok (.iload_n 2, 1) := by decide +kernel
theorem d_Mo_findPlaces_69 : decode c_Mo_findPlaces 69 = .ok (.iload_n 3, 1) := by decide +kernel
theorem d_Mo_findPlaces_70 : decode c_Mo_findPlaces 70 = .ok (.iload 4, 2) := by decide +kernel
theorem d_Mo_findPlaces_72 : decode c_Mo_findPlaces 72 = .ok (.iload 5, 2) := by decide +kernel
theorem d_Mo_findPlaces_74 : decode c_Mo_findPlaces 74 = .ok (.iload 6, 2) := by decide +kernel
theorem d_Mo_findPlaces_76 : decode c_Mo_findPlaces 76 = .ok (.invokevirtual 227, 3) := by decide +kernel
theorem d_Mo_findPlaces_79 : decode c_Mo_findPlaces 79 = .ok (.iadd, 1) := by decide +kernel
theorem d_Mo_findPlaces_80 : decode c_Mo_findPlaces 80 = .ok (.istore 7, 2) := by decide +kernel
theorem d_Mo_findPlaces_82 : decode c_Mo_findPlaces 82 = .ok (.iload 7, 2) := by decide +kernel
theorem d_Mo_findPlaces_84 : decode c_Mo_findPlaces 84 = .ok (.aload_n 0, 1) := by decide +kernel
theorem d_Mo_findPlaces_85 : decode c_Mo_findPlaces 85 = .ok (.getfield 231, 3) := by decide +kernel
theorem d_Mo_findPlaces_88 : decode c_Mo_findPlaces 88 = .ok (.if_icmp .ge 55, 3) := by decide +kernel
theorem d_Mo_findPlaces_91 : decode c_Mo_findPlaces 91 = .ok (.iload 6, 2) := by decide +kernel
theorem d_Mo_findPlaces_93 : decode c_Mo_findPlaces 93 = .ok (.iload_n 1, 1) := by decide +kernel
theorem d_Mo_findPlaces_94 : decode c_Mo_findPlaces 94 = .ok (.iconst 1, 1) := by decide +kernel
theorem d_Mo_findPlaces_95 : decode c_Mo_findPlaces 95 = .ok (.isub, 1) := by decide +kernel
theorem d_Mo_findPlaces_96 : decode c_Mo_findPlaces 96 = .ok (.if_icmp .ne 47, 3) := by decide +kernel
theorem d_Mo_findPlaces_99 : decode c_Mo_findPlaces 99 = .ok (.aload_n 0, 1) := by decide +kernel
theorem d_Mo_findPlaces_100 : decode c_Mo_findPlaces 100 = .ok (.iload 7, 2) := by decide +kernel
theorem d_Mo_findPlaces_102 : decode c_Mo_findPlaces 102 = .ok (.putfield 231, 3) := by decide +kernel
theorem d_Mo_findPlaces_105 : decode c_Mo_findPlaces 105 = .ok (.aload_n 0, 1) := by decide +kernel
theorem d_Mo_findPlaces_106 : decode c_Mo_findPlaces 106 = .ok (.iload 5, 2) := by decide +kernel
theorem d_Mo_findPlaces_108 : decode c_Mo_findPlaces 108 = .ok (.putfield 234, 3) := by decide +kernel
theorem d_Mo_findPlaces_111 : decode c_Mo_findPlaces 111 = .ok (.iconst 0, 1) := by decide +kernel
theorem d_Mo_findPlaces_112 : decode c_Mo_findPlaces 112 = .ok (.istore 8, 2) := by decide +kernel
theorem d_Mo_findPlaces_114 : decode c_Mo_findPlaces 114 = .ok (.iload 8, 2) := by decide +kernel
theorem d_Mo_findPlaces_116 : decode c_Mo_findPlaces 116 = .ok (.iload_n 1, 1) := by decide +kernel
theorem d_Mo_findPlaces_117 : decode c_Mo_findPlaces 117 = .ok (.if_icmp .ge 23, 3) := by decide +kernel
theorem d_Mo_findPlaces_120 : decode c_Mo_findPlaces 120 = .ok (.aload_n 0, 1) := by decide +kernel
theorem d_Mo_findPlaces_121 : decode c_Mo_findPlaces 121 = .ok (.getfield 35, 3) := by decide +kernel
theorem d_Mo_findPlaces_124 : decode c_Mo_findPlaces 124 = .ok (.iload 8, 2) := by decide +kernel
theorem d_Mo_findPlaces_126 : decode c_Mo_findPlaces 126 = .ok (.aload_n 0, 1) := by decide +kernel
theorem d_Mo_findPlaces_127 : decode c_Mo_findPlaces 127 = .ok (.getfield 29, 3) := by decide +kernel
theorem d_Mo_findPlaces_130 : decode c_Mo_findPlaces 130 = .ok (.iload 8, 2) := by decide +kernel
theorem d_Mo_findPlaces_132 : decode c_Mo_findPlaces 132 = .ok (.iaload, 1) := by decide +kernel
theorem d_Mo_findPlaces_133 : decode c_Mo_findPlaces 133 = .ok (.iastore, 1) := by decide +kernel
theorem d_Mo_findPlaces_134 : decode c_Mo_findPlaces 134 = .ok (.iinc 8 1, 3) := by decide +kernel
theorem d_Mo_findPlaces_137 : decode c_Mo_findPlaces 137 = .ok (.goto (-23), 3) := by decide +kernel
theorem d_Mo_findPlaces_140 : decode c_Mo_findPlaces 140 = .ok (.goto 32, 3) := by decide +kernel
theorem d_Mo_findPlaces_143 : decode c_Mo_findPlaces 143 = .ok (.iload 7, 2) := by decide +kernel
theorem d_Mo_findPlaces_145 : decode c_Mo_findPlaces 145 = .ok (.aload_n 0, 1) := by decide +kernel
theorem d_Mo_findPlaces_146 : decode c_Mo_findPlaces 146 = .ok (.getfield 231, 3) := by decide +kernel
theorem d_Mo_findPlaces_149 : decode c_Mo_findPlaces 149 = .ok (.if_icmp .ge 23, 3) := by decide +kernel
theorem d_Mo_findPlaces_152 : decode c_Mo_findPlaces 152 = .ok (.iinc 6 1, 3) := by decide +kernel
theorem d_Mo_findPlaces_155 : decode c_Mo_findPlaces 155 = .ok (.aload_n 0, 1) := by decide +kernel
theorem d_Mo_findPlaces_156 : decode c_Mo_findPlaces 156 = .ok (.getfield 32, 3) := by decide +kernel
theorem d_Mo_findPlaces_159 : decode c_Mo_findPlaces 159 = .ok (.iload 6, 2) := by decide +kernel
theorem d_Mo_findPlaces_161 : decode c_Mo_findPlaces 161 = .ok (.iload 7, 2) := by decide +kernel
theorem d_Mo_findPlaces_163 : decode c_Mo_findPlaces 163 = .ok (.iastore, 1) := by decide +kernel
theorem d_Mo_findPlaces_164 : decode c_Mo_findPlaces 164 = .ok (.aload_n 0, 1) := by decide +kernel
theorem d_Mo_findPlaces_165 : decode c_Mo_findPlaces 165 = .ok (.getfield 29, 3) := by decide +kernel
theorem d_Mo_findPlaces_168 : decode c_Mo_findPlaces 168 = .ok (.iload 6, 2) := by decide +kernel
theorem d_Mo_findPlaces_170 : decode c_Mo_findPlaces 170 = .ok (.iconst (-1), 1) := by decide +kernel
theorem d_Mo_findPlaces_171 : decode c_Mo_findPlaces 171 = .ok (.iastore, 1) := by decide +kernel
theorem d_Mo_findPlaces_172 : decode c_Mo_findPlaces 172 = .ok (.goto (-155), 3) := by decide +kernel
theorem d_Mo_findPlaces_175 : decode c_Mo_findPlaces 175 = .ok (.return_, 1) := by decide +kernel
theorem d_Mo_makeGood_0 : decode c_Mo_makeGood 0 = .ok (.aload_n 0, 1) := by decide +kernel
theorem d_Mo_makeGood_1 : decode c_Mo_makeGood 1 = .ok (.ldc 223, 2) := by decide +kernel
theorem d_Mo_makeGood_3 : decode c_Mo_makeGood 3 = .ok (.putfield 231, 3) := by decide +kernel
theorem d_Mo_makeGood_6 : decode c_Mo_makeGood 6 = .ok (.aload_n 0, 1) := by decide +kernel
theorem d_Mo_makeGood_7 : decode c_Mo_makeGood 7 = .ok (.iload_n 1, 1) := by decide +kernel
theorem d_Mo_makeGood_8 : decode c_Mo_makeGood 8 = .ok (.iload_n 2, 1) := by decide +kernel
theorem d_Mo_makeGood_9 : decode c_Mo_makeGood 9 = .ok (.iload_n 3, 1) := by decide +kernel
theorem d_Mo_makeGood_10 : decode c_Mo_makeGood 10 = .ok (.iload 4, 2) := by decide +kernel
theorem d_Mo_makeGood_12 : decode c_Mo_makeGood 12 = .ok (.iconst 0, 1) := by decide +kernel
theorem d_Mo_makeGood_13 : decode c_Mo_makeGood 13 = .ok (.invokevirtual 237, 3) := by decide +kernel
theorem d_Mo_makeGood_16 : decode c_Mo_makeGood 16 = .ok (.aload_n 0, 1) := by decide +kernel
theorem d_Mo_makeGood_17 : decode c_Mo_makeGood 17 = .ok (.iload_n 1, 1) := by decide +kernel
theorem d_Mo_makeGood_18 : decode c_Mo_makeGood 18 = .ok (.iload_n 2, 1) := by decide +kernel
theorem d_Mo_makeGood_19 : decode c_Mo_makeGood 19 = .ok (.iload_n 3, 1) := by decide +kernel
theorem d_Mo_makeGood_20 : decode c_Mo_makeGood 20 = .ok (.iload 4, 2) := by decide +kernel
theorem d_Mo_makeGood_22 : decode c_Mo_makeGood 22 = .ok (.iconst 1, 1) := by decide +kernel
theorem d_Mo_makeGood_23 : decode c_Mo_makeGood 23 = .ok (.invokevirtual 237, 3) := by decide +kernel
theorem d_Mo_makeGood_26 : decode c_Mo_makeGood 26 = .ok (.aload_n 0, 1) := by decide +kernel
theorem d_Mo_makeGood_27 : decode c_Mo_makeGood 27 = .ok (.getfield 231, 3) := by decide +kernel
theorem d_Mo_makeGood_30 : decode c_Mo_makeGood 30 = .ok (.ldc 223, 2) := by decide +kernel
theorem d_Mo_makeGood_32 : decode c_Mo_makeGood 32 = .ok (.if_icmp .lt 7, 3) := by decide +kernel
theorem d_Mo_makeGood_35 : decode c_Mo_makeGood 35 = .ok (.iconst (-1), 1) := by decide +kernel
theorem d_Mo_makeGood_36 : decode c_Mo_makeGood 36 = .ok (.goto 7, 3) := by decide +kernel
theorem d_Mo_makeGood_39 : decode c_Mo_makeGood 39 = .ok (.aload_n 0, 1) := by decide +kernel
theorem d_Mo_makeGood_40 : decode c_Mo_makeGood 40 = .ok (.getfield 231, 3) := by decide +kernel
theorem d_Mo_makeGood_43 : decode c_Mo_makeGood 43 = .ok (.ireturn, 1) := by decide +kernel
theorem d_Mo_bestTown_0 : decode c_Mo_bestTown 0 = .ok (.iconst 0, 1) := by decide +kernel
theorem d_Mo_bestTown_1 : decode c_Mo_bestTown 1 = .ok (.istore_n 1, 1) := by decide +kernel
theorem d_Mo_bestTown_2 : decode c_Mo_bestTown 2 = .ok (.iconst 0, 1) := by decide +kernel
theorem d_Mo_bestTown_3 : decode c_Mo_bestTown 3 = .ok (.istore_n 2, 1) := by decide +kernel
theorem d_Mo_bestTown_4 : decode c_Mo_bestTown 4 = .ok (.iload_n 2, 1) := by decide +kernel
theorem d_Mo_bestTown_5 : decode c_Mo_bestTown 5 = .ok (.aload_n 0, 1) := by decide +kernel
theorem d_Mo_bestTown_6 : decode c_Mo_bestTown 6 = .ok (.getfield 63, 3) := by decide +kernel
theorem d_Mo_bestTown_9 : decode c_Mo_bestTown 9 = .ok (.if_icmp .ge 71, 3) := by decide +kernel
theorem d_Mo_bestTown_12 : decode c_Mo_bestTown 12 = .ok (.iload_n 2, 1) := by decide +kernel
theorem d_Mo_bestTown_13 : decode c_Mo_bestTown 13 = .ok (.iconst 1, 1) := by decide +kernel
theorem d_Mo_bestTown_14 : decode c_Mo_bestTown 14 = .ok (.iadd, 1) := by decide +kernel
theorem d_Mo_bestTown_15 : decode c_Mo_bestTown 15 = .ok (.istore_n 3, 1) := by decide +kernel
theorem d_Mo_bestTown_16 : decode c_Mo_bestTown 16 = .ok (.iload_n 3, 1) := by decide +kernel
theorem d_Mo_bestTown_17 : decode c_Mo_bestTown 17 = .ok (.aload_n 0, 1) := by decide +kernel
theorem d_Mo_bestTown_18 : decode c_Mo_bestTown 18 = .ok (.getfield 63, 3) := by decide +kernel
theorem d_Mo_bestTown_21 : decode c_Mo_bestTown 21 = .ok (.if_icmp .ge 53, 3) := by decide +kernel
theorem d_Mo_bestTown_24 : decode c_Mo_bestTown 24 = .ok (.iload_n 1, 1) := by decide +kernel
theorem d_Mo_bestTown_25 : decode c_Mo_bestTown 25 = .ok (.aload_n 0, 1) := by decide +kernel
theorem d_Mo_bestTown_26 : decode c_Mo_bestTown 26 = .ok (.getfield 63, 3) := by decide +kernel
theorem d_Mo_bestTown_29 : decode c_Mo_bestTown 29 = .ok (.aload_n 0, 1) := by decide +kernel
theorem d_Mo_bestTown_30 : decode c_Mo_bestTown 30 = .ok (.getfield 234, 3) := by decide +kernel
theorem d_Mo_bestTown_33 : decode c_Mo_bestTown 33 = .ok (.aload_n 0, 1) := by decide +kernel
theorem d_Mo_bestTown_34 : decode c_Mo_bestTown 34 = .ok (.getfield 35, 3) := by decide +kernel
theorem d_Mo_bestTown_37 : decode c_Mo_bestTown 37 = .ok (.iload_n 2, 1) := by decide +kernel
theorem d_Mo_bestTown_38 : decode c_Mo_bestTown 38 = .ok (.iaload, 1) := by decide +kernel
theorem d_Mo_bestTown_39 : decode c_Mo_bestTown 39 = .ok (.aload_n 0, 1) := by decide +kernel
theorem d_Mo_bestTown_40 : decode c_Mo_bestTown 40 = .ok (.getfield 35, 3) := by decide +kernel
theorem d_Mo_bestTown_43 : decode c_Mo_bestTown 43 = .ok (.iload_n 3, 1) := by decide +kernel
theorem d_Mo_bestTown_44 : decode c_Mo_bestTown 44 = .ok (.iaload, 1) := by decide +kernel
theorem d_Mo_bestTown_45 : decode c_Mo_bestTown 45 = .ok (.invokestatic 219, 3) := by decide +kernel
theorem d_Mo_bestTown_48 : decode c_Mo_bestTown 48 = .ok (.ifCond .eq 17, 3) := by decide +kernel
theorem d_Mo_bestTown_51 : decode c_Mo_bestTown 51 = .ok (.iconst 1, 1) := by decide +kernel
theorem d_Mo_bestTown_52 : decode c_Mo_bestTown 52 = .ok (.aload_n 0, 1) := by decide +kernel
theorem d_Mo_bestTown_53 : decode c_Mo_bestTown 53 = .ok (.getfield 63, 3) := by decide +kernel
theorem d_Mo_bestTown_56 : decode c_Mo_bestTown 56 = .ok (.iload_n 2, 1) := by decide +kernel
theorem d_Mo_bestTown_57 : decode c_Mo_bestTown 57 = .ok (.iload_n 3, 1) := by decide +kernel
theorem d_Mo_bestTown_58 : decode c_Mo_bestTown 58 = .ok (.invokestatic 74, 3) := by decide +kernel
theorem d_Mo_bestTown_61 : decode c_Mo_bestTown 61 = .ok (.ishl, 1) := by decide +kernel
theorem d_Mo_bestTown_62 : decode c_Mo_bestTown 62 = .ok (.goto 4, 3) := by decide +kernel
theorem d_Mo_bestTown_65 : decode c_Mo_bestTown 65 = .ok (.iconst 0, 1) := by decide +kernel
theorem d_Mo_bestTown_66 : decode c_Mo_bestTown 66 = .ok (.ior, 1) := by decide +kernel
theorem d_Mo_bestTown_67 : decode c_Mo_bestTown 67 = .ok (.istore_n 1, 1) := by decide +kernel
theorem d_Mo_bestTown_68 : decode c_Mo_bestTown 68 = .ok (.iinc 3 1, 3) := by decide +kernel
theorem d_Mo_bestTown_71 : decode c_Mo_bestTown 71 = .ok (.goto (-55), 3) := by decide +kernel
theorem d_Mo_bestTown_74 : decode c_Mo_bestTown 74 = .ok (.iinc 2 1, 3) := by decide +kernel
theorem d_Mo_bestTown_77 : decode c_Mo_bestTown 77 = .ok (.goto (-73), 3) := by decide +kernel
theorem d_Mo_bestTown_80 : decode c_Mo_bestTown 80 = .ok (.iload_n 1, 1) := by decide +kernel
theorem d_Mo_bestTown_81 : decode c_Mo_bestTown 81 = .ok (.ireturn, 1) := by decide +kernel
theorem d_Mo_good_0 : decode c_Mo_good 0 = .ok (.iload_n 1, 1) := by decide +kernel
theorem d_Mo_good_1 : decode c_Mo_good 1 = .ok (.i2l, 1) := by decide +kernel
theorem d_Mo_good_2 : decode c_Mo_good 2 = .ok (.ldc2_w 241, 3) := by decide +kernel
theorem d_Mo_good_5 : decode c_Mo_good 5 = .ok (.ldc2_w 243, 3) := by decide +kernel
theorem d_Mo_good_8 : decode c_Mo_good 8 = .ok (.invokestatic 66, 3) := by decide +kernel
theorem d_Mo_good_11 : decode c_Mo_good 11 = .ok (.ifCond .ne 14, 3) := by decide +kernel
theorem d_Mo_good_14 : decode c_Mo_good 14 = .ok (.aload_n 0, 1) := by decide +kernel
theorem d_Mo_good_15 : decode c_Mo_good 15 = .ok (.iload_n 1, 1) := by decide +kernel
theorem d_Mo_good_16 : decode c_Mo_good 16 = .ok (.invokevirtual 70, 3) := by decide +kernel
theorem d_Mo_good_19 : decode c_Mo_good 19 = .ok (.ifCond .ne 6, 3) := by decide +kernel
theorem d_Mo_good_22 : decode c_Mo_good 22 = .ok (.ldc 203, 2) := by decide +kernel
theorem d_Mo_good_24 : decode c_Mo_good 24 = .ok (.ireturn, 1) := by decide +kernel
theorem d_Mo_good_25 : decode c_Mo_good 25 = .ok (.aload_n 0, 1) := by decide +kernel
theorem d_Mo_good_26 : decode c_Mo_good 26 = .ok (.getfield 63, 3) := by decide +kernel
theorem d_Mo_good_29 : decode c_Mo_good 29 = .ok (.iconst 2, 1) := by decide +kernel
theorem d_Mo_good_30 : decode c_Mo_good 30 = .ok (.if_icmp .ge 6, 3) := by decide +kernel
theorem d_Mo_good_33 : decode c_Mo_good 33 = .ok (.ldc 210, 2) := by decide +kernel
theorem d_Mo_good_35 : decode c_Mo_good 35 = .ok (.ireturn, 1) := by decide +kernel
theorem d_Mo_good_36 : decode c_Mo_good 36 = .ok (.aload_n 0, 1) := by decide +kernel
theorem d_Mo_good_37 : decode c_Mo_good 37 = .ok (.aload_n 0, 1) := by decide +kernel
theorem d_Mo_good_38 : decode c_Mo_good 38 = .ok (.getfield 63, 3) := by decide +kernel
theorem d_Mo_good_41 : decode c_Mo_good 41 = .ok (.aload_n 0, 1) := by decide +kernel
theorem d_Mo_good_42 : decode c_Mo_good 42 = .ok (.getfield 86, 3) := by decide +kernel
theorem d_Mo_good_45 : decode c_Mo_good 45 = .ok (.aload_n 0, 1) := by decide +kernel
theorem d_Mo_good_46 : decode c_Mo_good 46 = .ok (.getfield 185, 3) := by decide +kernel
theorem d_Mo_good_49 : decode c_Mo_good 49 = .ok (.aload_n 0, 1) := by decide +kernel
theorem d_Mo_good_50 : decode c_Mo_good 50 = .ok (.getfield 188, 3) := by decide +kernel
theorem d_Mo_good_53 : decode c_Mo_good 53 = .ok (.invokevirtual 245, 3) := by decide +kernel
theorem d_Mo_good_56 : decode c_Mo_good 56 = .ok (.istore_n 2, 1) := by decide +kernel
theorem d_Mo_good_57 : decode c_Mo_good 57 = .ok (.iload_n 2, 1) := by decide +kernel
theorem d_Mo_good_58 : decode c_Mo_good 58 = .ok (.ifCond .lt 8, 3) := by decide +kernel
theorem d_Mo_good_61 : decode c_Mo_good 61 = .ok (.iload_n 1, 1) := by decide +kernel
theorem d_Mo_good_62 : decode c_Mo_good 62 = .ok (.iconst (-1), 1) := by decide +kernel
theorem d_Mo_good_63 : decode c_Mo_good 63 = .ok (.if_icmp .ne 5, 3) := by decide +kernel
theorem d_Mo_good_66 : decode c_Mo_good 66 = .ok (.iload_n 2, 1) := by decide +kernel
theorem d_Mo_good_67 : decode c_Mo_good 67 = .ok (.ireturn, 1) := by decide +kernel
theorem d_Mo_good_68 : decode c_Mo_good 68 = .ok (.iload_n 1, 1) := by decide +kernel
theorem d_Mo_good_69 : decode c_Mo_good 69 = .ok (.bipush (-2), 2) := by decide +kernel
theorem d_Mo_good_71 : decode c_Mo_good 71 = .ok (.if_icmp .ne 10, 3) := by decide +kernel
theorem d_Mo_good_74 : decode c_Mo_good 74 = .ok (.aload_n 0, 1) := by decide +kernel
theorem d_Mo_good_75 : decode c_Mo_good 75 = .ok (.getfield 234, 3) := by decide +kernel
theorem d_Mo_good_78 : decode c_Mo_good 78 = .ok (.goto 22, 3) := by decide +kernel
theorem d_Mo_good_81 : decode c_Mo_good 81 = .ok (.iload_n 1, 1) := by decide +kernel
theorem d_Mo_good_82 : decode c_Mo_good 82 = .ok (.bipush (-3), 2) := by decide +kernel
theorem d_Mo_good_84 : decode c_Mo_good 84 = .ok (.if_icmp .ne 10, 3) := by decide +kernel
theorem d_Mo_good_87 : decode c_Mo_good 87 = .ok (.aload_n 0, 1) := by decide +kernel
theorem d_Mo_good_88 : decode c_Mo_good 88 = .ok (.invokevirtual 249, 3) := by decide +kernel
theorem d_Mo_good_91 : decode c_Mo_good 91 = .ok (.goto 9, 3) := by decide +kernel
theorem d_Mo_good_94 : decode c_Mo_good 94 = .ok (.aload_n 0, 1) := by decide +kernel
theorem d_Mo_good_95 : decode c_Mo_good 95 = .ok (.getfield 35, 3) := by decide +kernel
theorem d_Mo_good_98 : decode c_Mo_good 98 = .ok (.iload_n 1, 1) := by decide +kernel
theorem d_Mo_good_99 : decode c_Mo_good 99 = .ok (.iaload, 1) := by decide +kernel
theorem d_Mo_good_100 : decode c_Mo_good 100 = .ok (.ireturn, 1) := by decide +kernel
theorem d_Mo_born_0 : decode c_Mo_born 0 = .ok (.aload_n 0, 1) := by decide +kernel
theorem d_Mo_born_1 : decode c_Mo_born 1 = .ok (.getfield 63, 3) := by decide +kernel
theorem d_Mo_born_4 : decode c_Mo_born 4 = .ok (.i2l, 1) := by decide +kernel
theorem d_Mo_born_5 : decode c_Mo_born 5 = .ok (.lconst 1, 1) := by decide +kernel
theorem d_Mo_born_6 : decode c_Mo_born 6 = .ok (.ldc2_w 252, 3) := by decide +kernel
theorem d_Mo_born_9 : decode c_Mo_born 9 = .ok (.invokestatic 66, 3) := by decide +kernel
theorem d_Mo_born_12 : decode c_Mo_born 12 = .ok (.ifCond .ne 6, 3) := by decide +kernel
theorem d_Mo_born_15 : decode c_Mo_born 15 = .ok (.ldc 210, 2) := by decide +kernel
theorem d_Mo_born_17 : decode c_Mo_born 17 = .ok (.ireturn, 1) := by decide +kernel
theorem d_Mo_born_18 : decode c_Mo_born 18 = .ok (.aload_n 0, 1) := by decide +kernel
theorem d_Mo_born_19 : decode c_Mo_born 19 = .ok (.aload_n 0, 1) := by decide +kernel
theorem d_Mo_born_20 : decode c_Mo_born 20 = .ok (.getfield 63, 3) := by decide +kernel
theorem d_Mo_born_23 : decode c_Mo_born 23 = .ok (.iconst 1, 1) := by decide +kernel
theorem d_Mo_born_24 : decode c_Mo_born 24 = .ok (.iadd, 1) := by decide +kernel
theorem d_Mo_born_25 : decode c_Mo_born 25 = .ok (.aload_n 0, 1) := by decide +kernel
theorem d_Mo_born_26 : decode c_Mo_born 26 = .ok (.getfield 63, 3) := by decide +kernel
theorem d_Mo_born_29 : decode c_Mo_born 29 = .ok (.aload_n 0, 1) := by decide +kernel
theorem d_Mo_born_30 : decode c_Mo_born 30 = .ok (.getfield 86, 3) := by decide +kernel
theorem d_Mo_born_33 : decode c_Mo_born 33 = .ok (.invokestatic 213, 3) := by decide +kernel
theorem d_Mo_born_36 : decode c_Mo_born 36 = .ok (.aload_n 0, 1) := by decide +kernel
theorem d_Mo_born_37 : decode c_Mo_born 37 = .ok (.getfield 63, 3) := by decide +kernel
theorem d_Mo_born_40 : decode c_Mo_born 40 = .ok (.aload_n 0, 1) := by decide +kernel
theorem d_Mo_born_41 : decode c_Mo_born 41 = .ok (.getfield 185, 3) := by decide +kernel
theorem d_Mo_born_44 : decode c_Mo_born 44 = .ok (.invokestatic 213, 3) := by decide +kernel
theorem d_Mo_born_47 : decode c_Mo_born 47 = .ok (.aload_n 0, 1) := by decide +kernel
theorem d_Mo_born_48 : decode c_Mo_born 48 = .ok (.getfield 63, 3) := by decide +kernel
theorem d_Mo_born_51 : decode c_Mo_born 51 = .ok (.aload_n 0, 1) := by decide +kernel
theorem d_Mo_born_52 : decode c_Mo_born 52 = .ok (.getfield 188, 3) := by decide +kernel
theorem d_Mo_born_55 : decode c_Mo_born 55 = .ok (.invokestatic 213, 3) := by decide +kernel
theorem d_Mo_born_58 : decode c_Mo_born 58 = .ok (.invokevirtual 245, 3) := by decide +kernel
theorem d_Mo_born_61 : decode c_Mo_born 61 = .ok (.ireturn, 1) := by decide +kernel
theorem d_Mo_dies_0 : decode c_Mo_dies 0 = .ok (.aload_n 0, 1) := by decide +kernel
theorem d_Mo_dies_1 : decode c_Mo_dies 1 = .ok (.iload_n 1, 1) := by decide +kernel
theorem d_Mo_dies_2 : decode c_Mo_dies 2 = .ok (.invokevirtual 70, 3) := by decide +kernel
theorem d_Mo_dies_5 : decode c_Mo_dies 5 = .ok (.ifCond .ne 6, 3) := by decide +kernel
theorem d_Mo_dies_8 : decode c_Mo_dies 8 = .ok (.ldc 203, 2) := by decide +kernel
theorem d_Mo_dies_10 : decode c_Mo_dies 10 = .ok (.ireturn, 1) := by decide +kernel
theorem d_Mo_dies_11 : decode c_Mo_dies 11 = .ok (.aload_n 0, 1) := by decide +kernel
theorem d_Mo_dies_12 : decode c_Mo_dies 12 = .ok (.getfield 63, 3) := by decide +kernel
theorem d_Mo_dies_15 : decode c_Mo_dies 15 = .ok (.iconst 3, 1) := by decide +kernel
theorem d_Mo_dies_16 : decode c_Mo_dies 16 = .ok (.if_icmp .ge 6, 3) := by decide +kernel
theorem d_Mo_dies_19 : decode c_Mo_dies 19 = .ok (.ldc 210, 2) := by decide +kernel
theorem d_Mo_dies_21 : decode c_Mo_dies 21 = .ok (.ireturn, 1) := by decide +kernel
theorem d_Mo_dies_22 : decode c_Mo_dies 22 = .ok (.aload_n 0, 1) := by decide +kernel
theorem d_Mo_dies_23 : decode c_Mo_dies 23 = .ok (.aload_n 0, 1) := by decide +kernel
theorem d_Mo_dies_24 : decode c_Mo_dies 24 = .ok (.getfield 63, 3) := by decide +kernel
theorem d_Mo_dies_27 : decode c_Mo_dies 27 = .ok (.iconst 1, 1) := by decide +kernel
theorem d_Mo_dies_28 : decode c_Mo_dies 28 = .ok (.isub, 1) := by decide +kernel
theorem d_Mo_dies_29 : decode c_Mo_dies 29 = .ok (.aload_n 0, 1) := by decide +kernel
theorem d_Mo_dies_30 : decode c_Mo_dies 30 = .ok (.getfield 63, 3) := by decide +kernel
theorem d_Mo_dies_33 : decode c_Mo_dies 33 = .ok (.aload_n 0, 1) := by decide +kernel
theorem d_Mo_dies_34 : decode c_Mo_dies 34 = .ok (.getfield 86, 3) := by decide +kernel
theorem d_Mo_dies_37 : decode c_Mo_dies 37 = .ok (.iload_n 1, 1) := by decide +kernel
theorem d_Mo_dies_38 : decode c_Mo_dies 38 = .ok (.invokestatic 216, 3) := by decide +kernel
theorem d_Mo_dies_41 : decode c_Mo_dies 41 = .ok (.aload_n 0, 1) := by decide +kernel
theorem d_Mo_dies_42 : decode c_Mo_dies 42 = .ok (.getfield 63, 3) := by decide +kernel
theorem d_Mo_dies_45 : decode c_Mo_dies 45 = .ok (.aload_n 0, 1) := by decide +kernel
theorem d_Mo_dies_46 : decode c_Mo_dies 46 = .ok (.getfield 185, 3) := by decide +kernel
theorem d_Mo_dies_49 : decode c_Mo_dies 49 = .ok (.iload_n 1, 1) := by decide +kernel
theorem d_Mo_dies_50 : decode c_Mo_dies 50 = .ok (.invokestatic 216, 3) := by decide +kernel
theorem d_Mo_dies_53 : decode c_Mo_dies 53 = .ok (.aload_n 0, 1) := by decide +kernel
theorem d_Mo_dies_54 : decode c_Mo_dies 54 = .ok (.getfield 63, 3) := by decide +kernel
theorem d_Mo_dies_57 : decode c_Mo_dies 57 = .ok (.aload_n 0, 1) := by decide +kernel
theorem d_Mo_dies_58 : decode c_Mo_dies 58 = .ok (.getfield 188, 3) := by decide +kernel
theorem d_Mo_dies_61 : decode c_Mo_dies 61 = .ok (.iload_n 1, 1) := by decide +kernel
theorem d_Mo_dies_62 : decode c_Mo_dies 62 = .ok (.invokestatic 216, 3) := by decide +kernel
theorem d_Mo_dies_65 : decode c_Mo_dies 65 = .ok (.invokevirtual 245, 3) := by decide +kernel
theorem d_Mo_dies_68 : decode c_Mo_dies 68 = .ok (.ireturn, 1) := by decide +kernel
theorem d_Mo_keepsBars_0 : decode c_Mo_keepsBars 0 = .ok (.iload_n 1, 1) := by decide +kernel
theorem d_Mo_keepsBars_1 : decode c_Mo_keepsBars 1 = .ok (.aload_n 0, 1) := by decide +kernel
theorem d_Mo_keepsBars_2 : decode c_Mo_keepsBars 2 = .ok (.getfield 185, 3) := by decide +kernel
theorem d_Mo_keepsBars_5 : decode c_Mo_keepsBars 5 = .ok (.iand, 1) := by decide +kernel
theorem d_Mo_keepsBars_6 : decode c_Mo_keepsBars 6 = .ok (.ifCond .ne 18, 3) := by decide +kernel
theorem d_Mo_keepsBars_9 : decode c_Mo_keepsBars 9 = .ok (.aload_n 0, 1) := by decide +kernel
theorem d_Mo_keepsBars_10 : decode c_Mo_keepsBars 10 = .ok (.getfield 188, 3) := by decide +kernel
theorem d_Mo_keepsBars_13 : decode c_Mo_keepsBars 13 = .ok (.iload_n 1, 1) := by decide +kernel
theorem d_Mo_keepsBars_14 : decode c_Mo_keepsBars 14 = .ok (.iconst (-1), 1) := by decide +kernel
theorem d_Mo_keepsBars_15 : decode c_Mo_keepsBars 15 = .ok (.ixor, 1) := by decide +kernel
theorem d_Mo_keepsBars_16 : decode c_Mo_keepsBars 16 = .ok (.iand, 1) := by decide +kernel
theorem d_Mo_keepsBars_17 : decode c_Mo_keepsBars 17 = .ok (.ifCond .ne 7, 3) := by decide +kernel
theorem d_Mo_keepsBars_20 : decode c_Mo_keepsBars 20 = .ok (.iconst 1, 1) := by decide +kernel
theorem d_Mo_keepsBars_21 : decode c_Mo_keepsBars 21 = .ok (.goto 4, 3) := by decide +kernel
theorem d_Mo_keepsBars_24 : decode c_Mo_keepsBars 24 = .ok (.iconst 0, 1) := by decide +kernel
theorem d_Mo_keepsBars_25 : decode c_Mo_keepsBars 25 = .ok (.ireturn, 1) := by decide +kernel
theorem d_Mo_nearest_0 : decode c_Mo_nearest 0 = .ok (.iload_n 1, 1) := by decide +kernel
theorem d_Mo_nearest_1 : decode c_Mo_nearest 1 = .ok (.i2l, 1) := by decide +kernel
theorem d_Mo_nearest_2 : decode c_Mo_nearest 2 = .ok (.lconst 0, 1) := by decide +kernel
theorem d_Mo_nearest_3 : decode c_Mo_nearest 3 = .ok (.ldc2_w 211, 3) := by decide +kernel
theorem d_Mo_nearest_6 : decode c_Mo_nearest 6 = .ok (.invokestatic 66, 3) := by decide +kernel
theorem d_Mo_nearest_9 : decode c_Mo_nearest 9 = .ok (.ifCond .ne 6, 3) := by decide +kernel
theorem d_Mo_nearest_12 : decode c_Mo_nearest 12 = .ok (.ldc 94, 2) := by decide +kernel
theorem d_Mo_nearest_14 : decode c_Mo_nearest 14 = .ok (.ireturn, 1) := by decide +kernel
theorem d_Mo_nearest_15 : decode c_Mo_nearest 15 = .ok (.aload_n 0, 1) := by decide +kernel
theorem d_Mo_nearest_16 : decode c_Mo_nearest 16 = .ok (.getfield 63, 3) := by decide +kernel
theorem d_Mo_nearest_19 : decode c_Mo_nearest 19 = .ok (.bipush 6, 2) := by decide +kernel
theorem d_Mo_nearest_21 : decode c_Mo_nearest 21 = .ok (.if_icmp .le 6, 3) := by decide +kernel
theorem d_Mo_nearest_24 : decode c_Mo_nearest 24 = .ok (.ldc 210, 2) := by decide +kernel
theorem d_Mo_nearest_26 : decode c_Mo_nearest 26 = .ok (.ireturn, 1) := by decide +kernel
theorem d_Mo_nearest_27 : decode c_Mo_nearest 27 = .ok (.iconst (-1), 1) := by decide +kernel
theorem d_Mo_nearest_28 : decode c_Mo_nearest 28 = .ok (.istore_n 2, 1) := by decide +kernel
theorem d_Mo_nearest_29 : decode c_Mo_nearest 29 = .ok (.iconst 0, 1) := by decide +kernel
theorem d_Mo_nearest_30 : decode c_Mo_nearest 30 = .ok (.istore_n 3, 1) := by decide +kernel
theorem d_Mo_nearest_31 : decode c_Mo_nearest 31 = .ok (.iconst 0, 1) := by decide +kernel
theorem d_Mo_nearest_32 : decode c_Mo_nearest 32 = .ok (.istore 4, 2) := by decide +kernel
theorem d_Mo_nearest_34 : decode c_Mo_nearest 34 = .ok (.iconst 0, 1) := by decide +kernel
theorem d_Mo_nearest_35 : decode c_Mo_nearest 35 = .ok (.istore 5, 2) := by decide +kernel
theorem d_Mo_nearest_37 : decode c_Mo_nearest 37 = .ok (.iload 5, 2) := by decide +kernel
theorem d_Mo_nearest_39 : decode c_Mo_nearest 39 = .ok (.iconst 1, 1) := by decide +kernel
theorem d_Mo_nearest_40 : decode c_Mo_nearest 40 = .ok (.aload_n 0, 1) := by decide +kernel
theorem d_Mo_nearest_41 : decode c_Mo_nearest 41 = .ok (.getfield 63, 3) := by decide +kernel
theorem d_Mo_nearest_44 : decode c_Mo_nearest 44 = .ok (.invokestatic 254, 3) := by decide +kernel
theorem d_Mo_nearest_47 : decode c_Mo_nearest 47 = .ok (.ishl, 1) := by decide +kernel
theorem d_Mo_nearest_48 : decode c_Mo_nearest 48 = .ok (.if_icmp .ge 124, 3) := by decide +kernel
theorem d_Mo_nearest_51 : decode c_Mo_nearest 51 = .ok (.aload_n 0, 1) := by decide +kernel
theorem d_Mo_nearest_52 : decode c_Mo_nearest 52 = .ok (.iload 5, 2) := by decide +kernel
theorem d_Mo_nearest_54 : decode c_Mo_nearest 54 = .ok (.invokevirtual 257, 3) := by decide +kernel
theorem d_Mo_nearest_57 : decode c_Mo_nearest 57 = .ok (.ifCond .eq 109, 3) := by decide +kernel
theorem d_Mo_nearest_60 : decode c_Mo_nearest 60 = .ok (.aload_n 0, 1) := by decide +kernel
theorem d_Mo_nearest_61 : decode c_Mo_nearest 61 = .ok (.aload_n 0, 1) := by decide +kernel
theorem d_Mo_nearest_62 : decode c_Mo_nearest 62 = .ok (.getfield 63, 3) := by decide +kernel
theorem d_Mo_nearest_65 : decode c_Mo_nearest 65 = .ok (.iload 5, 2) := by decide +kernel
theorem d_Mo_nearest_67 : decode c_Mo_nearest 67 = .ok (.invokevirtual 200, 3) := by decide +kernel
theorem d_Mo_nearest_70 : decode c_Mo_nearest 70 = .ok (.istore 6, 2) := by decide +kernel
theorem d_Mo_nearest_72 : decode c_Mo_nearest 72 = .ok (.iload_n 2, 1) := by decide +kernel
theorem d_Mo_nearest_73 : decode c_Mo_nearest 73 = .ok (.ifCond .lt 13, 3) := by decide +kernel
theorem d_Mo_nearest_76 : decode c_Mo_nearest 76 = .ok (.iload 6, 2) := by decide +kernel
theorem d_Mo_nearest_78 : decode c_Mo_nearest 78 = .ok (.iload_n 3, 1) := by decide +kernel
theorem d_Mo_nearest_79 : decode c_Mo_nearest 79 = .ok (.if_icmp .le 7, 3) := by decide +kernel
theorem d_Mo_nearest_82 : decode c_Mo_nearest 82 = .ok (.iconst 0, 1) := by decide +kernel
theorem d_Mo_nearest_83 : decode c_Mo_nearest 83 = .ok (.goto 13, 3) := by decide +kernel
theorem d_Mo_nearest_86 : decode c_Mo_nearest 86 = .ok (.aload_n 0, 1) := by decide +kernel
theorem d_Mo_nearest_87 : decode c_Mo_nearest 87 = .ok (.aload_n 0, 1) := by decide +kernel
theorem d_Mo_nearest_88 : decode c_Mo_nearest 88 = .ok (.getfield 86, 3) := by decide +kernel
theorem d_Mo_nearest_91 : decode c_Mo_nearest 91 = .ok (.iload 5, 2) := by decide +kernel
theorem d_Mo_nearest_93 : decode c_Mo_nearest 93 = .ok (.invokevirtual 260, 3) := by decide +kernel
theorem d_Mo_nearest_96 : decode c_Mo_nearest 96 = .ok (.istore 7, 2) := by decide +kernel
theorem d_Mo_nearest_98 : decode c_Mo_nearest 98 = .ok (.iload_n 2, 1) := by decide +kernel
theorem d_Mo_nearest_99 : decode c_Mo_nearest 99 = .ok (.ifCond .lt 22, 3) := by decide +kernel
theorem d_Mo_nearest_102 : decode c_Mo_nearest 102 = .ok (.iload 6, 2) := by decide +kernel
theorem d_Mo_nearest_104 : decode c_Mo_nearest 104 = .ok (.iload_n 3, 1) := by decide +kernel
theorem d_Mo_nearest_105 : decode c_Mo_nearest 105 = .ok (.if_icmp .lt 16, 3) := by decide +kernel
theorem d_Mo_nearest_108 : decode c_Mo_nearest 108 = .ok (.iload 6, 2) := by decide +kernel
theorem d_Mo_nearest_110 : decode c_Mo_nearest 110 = .ok (.iload_n 3, 1) := by decide +kernel
theorem d_Mo_nearest_111 : decode c_Mo_nearest 111 = .ok (.if_icmp .ne 14, 3) := by decide +kernel
theorem d_Mo_nearest_114 : decode c_Mo_nearest 114 = .ok (.iload 7, 2) := by decide +kernel
theorem d_Mo_nearest_116 : decode c_Mo_nearest 116 = .ok (.iload 4, 2) := by decide +kernel
theorem d_Mo_nearest_118 : decode c_Mo_nearest 118 = .ok (.if_icmp .ge 7, 3) := by decide +kernel
theorem d_Mo_nearest_121 : decode c_Mo_nearest 121 = .ok (.iconst 1, 1) := by decide +kernel
theorem d_Mo_nearest_122 : decode c_Mo_nearest 122 = .ok (.goto 4, 3) := by decide +kernel
theorem d_Mo_nearest_125 : decode c_Mo_nearest 125 = .ok (.iconst 0, 1) := by decide +kernel
theorem d_Mo_nearest_126 : decode c_Mo_nearest 126 = .ok (.istore 8, 2) := by decide +kernel
theorem d_Mo_nearest_128 : decode c_Mo_nearest 128 = .ok (.iload 8, 2) := by decide +kernel
theorem d_Mo_nearest_130 : decode c_Mo_nearest 130 = .ok (.ifCond .eq 8, 3) := by decide +kernel
theorem d_Mo_nearest_133 : decode c_Mo_nearest 133 = .ok (.iload 5, 2) := by decide +kernel
theorem d_Mo_nearest_135 : decode c_Mo_nearest 135 = .ok (.goto 4, 3) := by decide +kernel
theorem d_Mo_nearest_138 : decode c_Mo_nearest 138 = .ok (.iload_n 2, 1) := by decide +kernel
theorem d_Mo_nearest_139 : decode c_Mo_nearest 139 = .ok (.istore_n 2, 1) := by decide +kernel
theorem d_Mo_nearest_140 : decode c_Mo_nearest 140 = .ok (.iload 8, 2) := by decide +kernel
theorem d_Mo_nearest_142 : decode c_Mo_nearest 142 = .ok (.ifCond .eq 8, 3) := by decide +kernel
theorem d_Mo_nearest_145 : decode c_Mo_nearest 145 = .ok (.iload 6, 2) := by decide +kernel
theorem d_Mo_nearest_147 : decode c_Mo_nearest 147 = .ok (.goto 4, 3) := by decide +kernel
theorem d_Mo_nearest_150 : decode c_Mo_nearest 150 = .ok (.iload_n 3, 1) := by decide +kernel
theorem d_Mo_nearest_151 : decode c_Mo_nearest 151 = .ok (.istore_n 3, 1) := by decide +kernel
theorem d_Mo_nearest_152 : decode c_Mo_nearest 152 = .ok (.iload 8, 2) := by decide +kernel
theorem d_Mo_nearest_154 : decode c_Mo_nearest 154 = .ok (.ifCond .eq 8, 3) := by decide +kernel
theorem d_Mo_nearest_157 : decode c_Mo_nearest 157 = .ok (.iload 7, 2) := by decide +kernel
theorem d_Mo_nearest_159 : decode c_Mo_nearest 159 = .ok (.goto 5, 3) := by decide +kernel
theorem d_Mo_nearest_162 : decode c_Mo_nearest 162 = .ok (.iload 4, 2) := by decide +kernel
theorem d_Mo_nearest_164 : decode c_Mo_nearest 164 = .ok (.istore 4, 2) := by decide +kernel
theorem d_Mo_nearest_166 : decode c_Mo_nearest 166 = .ok (.iinc 5 1, 3) := by decide +kernel
theorem d_Mo_nearest_169 : decode c_Mo_nearest 169 = .ok (.goto (-132), 3) := by decide +kernel
theorem d_Mo_nearest_172 : decode c_Mo_nearest 172 = .ok (.iload_n 1, 1) := by decide +kernel
theorem d_Mo_nearest_173 : decode c_Mo_nearest 173 = .ok (.ifCond .ne 7, 3) := by decide +kernel
theorem d_Mo_nearest_176 : decode c_Mo_nearest 176 = .ok (.iload_n 3, 1) := by decide +kernel
theorem d_Mo_nearest_177 : decode c_Mo_nearest 177 = .ok (.goto 14, 3) := by decide +kernel
theorem d_Mo_nearest_180 : decode c_Mo_nearest 180 = .ok (.iload_n 1, 1) := by decide +kernel
theorem d_Mo_nearest_181 : decode c_Mo_nearest 181 = .ok (.iconst 1, 1) := by decide +kernel
theorem d_Mo_nearest_182 : decode c_Mo_nearest 182 = .ok (.if_icmp .ne 8, 3) := by decide +kernel
theorem d_Mo_nearest_185 : decode c_Mo_nearest 185 = .ok (.iload 4, 2) := by decide +kernel
theorem d_Mo_nearest_187 : decode c_Mo_nearest 187 = .ok (.goto 4, 3) := by decide +kernel
theorem d_Mo_nearest_190 : decode c_Mo_nearest 190 = .ok (.iload_n 2, 1) := by decide +kernel
theorem d_Mo_nearest_191 : decode c_Mo_nearest 191 = .ok (.ireturn, 1) := by decide +kernel
theorem d_Mo_even_0 : decode c_Mo_even 0 = .ok (.iload_n 1, 1) := by decide +kernel
theorem d_Mo_even_1 : decode c_Mo_even 1 = .ok (.i2l, 1) := by decide +kernel
theorem d_Mo_even_2 : decode c_Mo_even 2 = .ok (.lconst 0, 1) := by decide +kernel
theorem d_Mo_even_3 : decode c_Mo_even 3 = .ok (.ldc2_w 263, 3) := by decide +kernel
theorem d_Mo_even_6 : decode c_Mo_even 6 = .ok (.invokestatic 66, 3) := by decide +kernel
theorem d_Mo_even_9 : decode c_Mo_even 9 = .ok (.ifCond .eq 13, 3) := by decide +kernel
theorem d_Mo_even_12 : decode c_Mo_even 12 = .ok (.iload_n 2, 1) := by decide +kernel
theorem d_Mo_even_13 : decode c_Mo_even 13 = .ok (.i2l, 1) := by decide +kernel
theorem d_Mo_even_14 : decode c_Mo_even 14 = .ok (.lconst 0, 1) := by decide +kernel
theorem d_Mo_even_15 : decode c_Mo_even 15 = .ok (.lconst 1, 1) := by decide +kernel
theorem d_Mo_even_16 : decode c_Mo_even 16 = .ok (.invokestatic 66, 3) := by decide +kernel
theorem d_Mo_even_19 : decode c_Mo_even 19 = .ok (.ifCond .ne 6, 3) := by decide +kernel
theorem d_Mo_even_22 : decode c_Mo_even 22 = .ok (.ldc 94, 2) := by decide +kernel
theorem d_Mo_even_24 : decode c_Mo_even 24 = .ok (.ireturn, 1) := by decide +kernel
theorem d_Mo_even_25 : decode c_Mo_even 25 = .ok (.aload_n 0, 1) := by decide +kernel
theorem d_Mo_even_26 : decode c_Mo_even 26 = .ok (.getfield 63, 3) := by decide +kernel
theorem d_Mo_even_29 : decode c_Mo_even 29 = .ok (.bipush 6, 2) := by decide +kernel
theorem d_Mo_even_31 : decode c_Mo_even 31 = .ok (.if_icmp .le 6, 3) := by decide +kernel
theorem d_Mo_even_34 : decode c_Mo_even 34 = .ok (.ldc 210, 2) := by decide +kernel
theorem d_Mo_even_36 : decode c_Mo_even 36 = .ok (.ireturn, 1) := by decide +kernel
theorem d_Mo_even_37 : decode c_Mo_even 37 = .ok (.iconst (-1), 1) := by decide +kernel
theorem d_Mo_even_38 : decode c_Mo_even 38 = .ok (.istore_n 3, 1) := by decide +kernel
theorem d_Mo_even_39 : decode c_Mo_even 39 = .ok (.iconst 0, 1) := by decide +kernel
theorem d_Mo_even_40 : decode c_Mo_even 40 = .ok (.istore 4, 2) := by decide +kernel
theorem d_Mo_even_42 : decode c_Mo_even 42 = .ok (.iconst 0, 1) := by decide +kernel
theorem d_Mo_even_43 : decode c_Mo_even 43 = .ok (.istore 5, 2) := by decide +kernel
theorem d_Mo_even_45 : decode c_Mo_even 45 = .ok (.iload 5, 2) := by decide +kernel
theorem d_Mo_even_47 : decode c_Mo_even 47 = .ok (.iconst 1, 1) := by decide +kernel
theorem d_Mo_even_48 : decode c_Mo_even 48 = .ok (.aload_n 0, 1) := by decide +kernel
theorem d_Mo_even_49 : decode c_Mo_even 49 = .ok (.getfield 63, 3) := by decide +kernel
theorem d_Mo_even_52 : decode c_Mo_even 52 = .ok (.invokestatic 254, 3) := by decide +kernel
theorem d_Mo_even_55 : decode c_Mo_even 55 = .ok (.ishl, 1) := by decide +kernel
theorem d_Mo_even_56 : decode c_Mo_even 56 = .ok (.if_icmp .ge 142, 3) := by decide +kernel
theorem d_Mo_even_59 : decode c_Mo_even 59 = .ok (.aload_n 0, 1) := by decide +kernel
theorem d_Mo_even_60 : decode c_Mo_even 60 = .ok (.iload 5, 2) := by decide +kernel
theorem d_Mo_even_62 : decode c_Mo_even 62 = .ok (.invokevirtual 257, 3) := by decide +kernel
theorem d_Mo_even_65 : decode c_Mo_even 65 = .ok (.ifCond .eq 127, 3) := by decide +kernel
theorem d_Mo_even_68 : decode c_Mo_even 68 = .ok (.aload_n 0, 1) := by decide +kernel
theorem d_Mo_even_69 : decode c_Mo_even 69 = .ok (.aload_n 0, 1) := by decide +kernel
theorem d_Mo_even_70 : decode c_Mo_even 70 = .ok (.getfield 63, 3) := by decide +kernel
theorem d_Mo_even_73 : decode c_Mo_even 73 = .ok (.iload 5, 2) := by decide +kernel
theorem d_Mo_even_75 : decode c_Mo_even 75 = .ok (.invokevirtual 82, 3) := by decide +kernel
theorem d_Mo_even_78 : decode c_Mo_even 78 = .ok (.iconst 1, 1) := by decide +kernel
theorem d_Mo_even_79 : decode c_Mo_even 79 = .ok (.istore 6, 2) := by decide +kernel
theorem d_Mo_even_81 : decode c_Mo_even 81 = .ok (.iconst 0, 1) := by decide +kernel
theorem d_Mo_even_82 : decode c_Mo_even 82 = .ok (.istore 7, 2) := by decide +kernel
theorem d_Mo_even_84 : decode c_Mo_even 84 = .ok (.iload 7, 2) := by decide +kernel
theorem d_Mo_even_86 : decode c_Mo_even 86 = .ok (.aload_n 0, 1) := by decide +kernel
theorem d_Mo_even_87 : decode c_Mo_even 87 = .ok (.getfield 63, 3) := by decide +kernel
theorem d_Mo_even_90 : decode c_Mo_even 90 = .ok (.if_icmp .ge 32, 3) := by decide +kernel
theorem d_Mo_even_93 : decode c_Mo_even 93 = .ok (.iload 6, 2) := by decide +kernel
theorem d_Mo_even_95 : decode c_Mo_even 95 = .ok (.ifCond .eq 18, 3) := by decide +kernel
theorem d_Mo_even_98 : decode c_Mo_even 98 = .ok (.aload_n 0, 1) := by decide +kernel
theorem d_Mo_even_99 : decode c_Mo_even 99 = .ok (.getfield 20, 3) := by decide +kernel
theorem d_Mo_even_102 : decode c_Mo_even 102 = .ok (.iload 7, 2) := by decide +kernel
theorem d_Mo_even_104 : decode c_Mo_even 104 = .ok (.iaload, 1) := by decide +kernel
theorem d_Mo_even_105 : decode c_Mo_even 105 = .ok (.iload_n 1, 1) := by decide +kernel
theorem d_Mo_even_106 : decode c_Mo_even 106 = .ok (.if_icmp .ne 7, 3) := by decide +kernel
theorem d_Mo_even_109 : decode c_Mo_even 109 = .ok (.iconst 1, 1) := by decide +kernel
theorem d_Mo_even_110 : decode c_Mo_even 110 = .ok (.goto 4, 3) := by decide +kernel
theorem d_Mo_even_113 : decode c_Mo_even 113 = .ok (.iconst 0, 1) := by decide +kernel
theorem d_Mo_even_114 : decode c_Mo_even 114 = .ok (.istore 6, 2) := by decide +kernel
theorem d_Mo_even_116 : decode c_Mo_even 116 = .ok (.iinc 7 1, 3) := by decide +kernel
theorem d_Mo_even_119 : decode c_Mo_even 119 = .ok (.goto (-35), 3) := by decide +kernel
theorem d_Mo_even_122 : decode c_Mo_even 122 = .ok (.iload 6, 2) := by decide +kernel
theorem d_Mo_even_124 : decode c_Mo_even 124 = .ok (.ifCond .eq 16, 3) := by decide +kernel
theorem d_Mo_even_127 : decode c_Mo_even 127 = .ok (.aload_n 0, 1) := by decide +kernel
theorem d_Mo_even_128 : decode c_Mo_even 128 = .ok (.aload_n 0, 1) := by decide +kernel
theorem d_Mo_even_129 : decode c_Mo_even 129 = .ok (.getfield 86, 3) := by decide +kernel
theorem d_Mo_even_132 : decode c_Mo_even 132 = .ok (.iload 5, 2) := by decide +kernel
theorem d_Mo_even_134 : decode c_Mo_even 134 = .ok (.invokevirtual 260, 3) := by decide +kernel
theorem d_Mo_even_137 : decode c_Mo_even 137 = .ok (.goto 4, 3) := by decide +kernel
theorem d_Mo_even_140 : decode c_Mo_even 140 = .ok (.iconst 0, 1) := by decide +kernel
theorem d_Mo_even_141 : decode c_Mo_even 141 = .ok (.istore 7, 2) := by decide +kernel
theorem d_Mo_even_143 : decode c_Mo_even 143 = .ok (.iload 6, 2) := by decide +kernel
theorem d_Mo_even_145 : decode c_Mo_even 145 = .ok (.ifCond .eq 18, 3) := by decide +kernel
theorem d_Mo_even_148 : decode c_Mo_even 148 = .ok (.iload_n 3, 1) := by decide +kernel
theorem d_Mo_even_149 : decode c_Mo_even 149 = .ok (.ifCond .lt 10, 3) := by decide +kernel
theorem d_Mo_even_152 : decode c_Mo_even 152 = .ok (.iload 7, 2) := by decide +kernel
theorem d_Mo_even_154 : decode c_Mo_even 154 = .ok (.iload 4, 2) := by decide +kernel
theorem d_Mo_even_156 : decode c_Mo_even 156 = .ok (.if_icmp .ge 7, 3) := by decide +kernel
theorem d_Mo_even_159 : decode c_Mo_even 159 = .ok (.iconst 1, 1) := by decide +kernel
theorem d_Mo_even_160 : decode c_Mo_even 160 = .ok (.goto 4, 3) := by decide +kernel
theorem d_Mo_even_163 : decode c_Mo_even 163 = .ok (.iconst 0, 1) := by decide +kernel
theorem d_Mo_even_164 : decode c_Mo_even 164 = .ok (.istore 8, 2) := by decide +kernel
theorem d_Mo_even_166 : decode c_Mo_even 166 = .ok (.iload 8, 2) := by decide +kernel
theorem d_Mo_even_168 : decode c_Mo_even 168 = .ok (.ifCond .eq 8, 3) := by decide +kernel
theorem d_Mo_even_171 : decode c_Mo_even 171 = .ok (.iload 5, 2) := by decide +kernel
theorem d_Mo_even_173 : decode c_Mo_even 173 = .ok (.goto 4, 3) := by decide +kernel
theorem d_Mo_even_176 : decode c_Mo_even 176 = .ok (.iload_n 3, 1) := by decide +kernel
theorem d_Mo_even_177 : decode c_Mo_even 177 = .ok (.istore_n 3, 1) := by decide +kernel
theorem d_Mo_even_178 : decode c_Mo_even 178 = .ok (.iload 8, 2) := by decide +kernel
theorem d_Mo_even_180 : decode c_Mo_even 180 = .ok (.ifCond .eq 8, 3) := by decide +kernel
theorem d_Mo_even_183 : decode c_Mo_even 183 = .ok (.iload 7, 2) := by decide +kernel
theorem d_Mo_even_185 : decode c_Mo_even 185 = .ok (.goto 5, 3) := by decide +kernel
theorem d_Mo_even_188 : decode c_Mo_even 188 = .ok (.iload 4, 2) := by decide +kernel
theorem d_Mo_even_190 : decode c_Mo_even 190 = .ok (.istore 4, 2) := by decide +kernel
theorem d_Mo_even_192 : decode c_Mo_even 192 = .ok (.iinc 5 1, 3) := by decide +kernel
theorem d_Mo_even_195 : decode c_Mo_even 195 = .ok (.goto (-150), 3) := by decide +kernel
theorem d_Mo_even_198 : decode c_Mo_even 198 = .ok (.iload_n 3, 1) := by decide +kernel
theorem d_Mo_even_199 : decode c_Mo_even 199 = .ok (.ifCond .ge 7, 3) := by decide +kernel
theorem d_Mo_even_202 : decode c_Mo_even 202 = .ok (.iconst (-1), 1) := by decide +kernel
theorem d_Mo_even_203 : decode c_Mo_even 203 = .ok (.goto 13, 3) := by decide +kernel
theorem d_Mo_even_206 : decode c_Mo_even 206 = .ok (.iload_n 2, 1) := by decide +kernel
theorem d_Mo_even_207 : decode c_Mo_even 207 = .ok (.ifCond .ne 8, 3) := by decide +kernel
theorem d_Mo_even_210 : decode c_Mo_even 210 = .ok (.iload 4, 2) := by decide +kernel
theorem d_Mo_even_212 : decode c_Mo_even 212 = .ok (.goto 4, 3) := by decide +kernel
theorem d_Mo_even_215 : decode c_Mo_even 215 = .ok (.iload_n 3, 1) := by decide +kernel
theorem d_Mo_even_216 : decode c_Mo_even 216 = .ok (.ireturn, 1) := by decide +kernel
theorem d_Mo_tell_0 : decode c_Mo_tell 0 = .ok (.aload_n 0, 1) := by decide +kernel
theorem d_Mo_tell_1 : decode c_Mo_tell 1 = .ok (.iload_n 1, 1) := by decide +kernel
theorem d_Mo_tell_2 : decode c_Mo_tell 2 = .ok (.invokevirtual 70, 3) := by decide +kernel
theorem d_Mo_tell_5 : decode c_Mo_tell 5 = .ok (.ifCond .ne 6, 3) := by decide +kernel
theorem d_Mo_tell_8 : decode c_Mo_tell 8 = .ok (.ldc 203, 2) := by decide +kernel
theorem d_Mo_tell_10 : decode c_Mo_tell 10 = .ok (.ireturn, 1) := by decide +kernel
theorem d_Mo_tell_11 : decode c_Mo_tell 11 = .ok (.iload_n 2, 1) := by decide +kernel
theorem d_Mo_tell_12 : decode c_Mo_tell 12 = .ok (.i2l, 1) := by decide +kernel
theorem d_Mo_tell_13 : decode c_Mo_tell 13 = .ok (.lconst 0, 1) := by decide +kernel
theorem d_Mo_tell_14 : decode c_Mo_tell 14 = .ok (.ldc2_w 252, 3) := by decide +kernel
theorem d_Mo_tell_17 : decode c_Mo_tell 17 = .ok (.invokestatic 66, 3) := by decide +kernel
theorem d_Mo_tell_20 : decode c_Mo_tell 20 = .ok (.ifCond .ne 6, 3) := by decide +kernel
theorem d_Mo_tell_23 : decode c_Mo_tell 23 = .ok (.ldc 94, 2) := by decide +kernel
theorem d_Mo_tell_25 : decode c_Mo_tell 25 = .ok (.ireturn, 1) := by decide +kernel
theorem d_Mo_tell_26 : decode c_Mo_tell 26 = .ok (.aload_n 0, 1) := by decide +kernel
theorem d_Mo_tell_27 : decode c_Mo_tell 27 = .ok (.getfield 16, 3) := by decide +kernel
theorem d_Mo_tell_30 : decode c_Mo_tell 30 = .ok (.iload_n 1, 1) := by decide +kernel
theorem d_Mo_tell_31 : decode c_Mo_tell 31 = .ok (.iaload, 1) := by decide +kernel
theorem d_Mo_tell_32 : decode c_Mo_tell 32 = .ok (.istore_n 3, 1) := by decide +kernel
theorem d_Mo_tell_33 : decode c_Mo_tell 33 = .ok (.aload_n 0, 1) := by decide +kernel
theorem d_Mo_tell_34 : decode c_Mo_tell 34 = .ok (.getfield 16, 3) := by decide +kernel
theorem d_Mo_tell_37 : decode c_Mo_tell 37 = .ok (.iload_n 1, 1) := by decide +kernel
theorem d_Mo_tell_38 : decode c_Mo_tell 38 = .ok (.iload_n 2, 1) := by decide +kernel
theorem d_Mo_tell_39 : decode c_Mo_tell 39 = .ok (.iastore, 1) := by decide +kernel
theorem d_Mo_tell_40 : decode c_Mo_tell 40 = .ok (.iload_n 3, 1) := by decide +kernel
theorem d_Mo_tell_41 : decode c_Mo_tell 41 = .ok (.ireturn, 1) := by decide +kernel
theorem d_Mo_countTowns_0 : decode c_Mo_countTowns 0 = .ok (.iconst 0, 1) := by decide +kernel
theorem d_Mo_countTowns_1 : decode c_Mo_countTowns 1 = .ok (.istore_n 1, 1) := by decide +kernel
theorem d_Mo_countTowns_2 : decode c_Mo_countTowns 2 = .ok (.aload_n 0, 1) := by decide +kernel
theorem d_Mo_countTowns_3 : decode c_Mo_countTowns 3 = .ok (.iconst 0, 1) := by decide +kernel
theorem d_Mo_countTowns_4 : decode c_Mo_countTowns 4 = .ok (.putfield 265, 3) := by decide +kernel
theorem d_Mo_countTowns_7 : decode c_Mo_countTowns 7 = .ok (.aload_n 0, 1) := by decide +kernel
theorem d_Mo_countTowns_8 : decode c_Mo_countTowns 8 = .ok (.iconst (-1), 1) := by decide +kernel
theorem d_Mo_countTowns_9 : decode c_Mo_countTowns 9 = .ok (.putfield 268, 3) := by decide +kernel
theorem d_Mo_countTowns_12 : decode c_Mo_countTowns 12 = .ok (.iconst 0, 1) := by decide +kernel
theorem d_Mo_countTowns_13 : decode c_Mo_countTowns 13 = .ok (.istore_n 2, 1) := by decide +kernel
theorem d_Mo_countTowns_14 : decode c_Mo_countTowns 14 = .ok (.iload_n 2, 1) := by decide +kernel
theorem d_Mo_countTowns_15 : decode c_Mo_countTowns 15 = .ok (.iconst 1, 1) := by decide +kernel
theorem d_Mo_countTowns_16 : decode c_Mo_countTowns 16 = .ok (.aload_n 0, 1) := by decide +kernel
theorem d_Mo_countTowns_17 : decode c_Mo_countTowns 17 = .ok (.getfield 63, 3) := by decide +kernel
theorem d_Mo_countTowns_20 : decode c_Mo_countTowns 20 = .ok (.invokestatic 254, 3) := by decide +kernel
theorem d_Mo_countTowns_23 : decode c_Mo_countTowns 23 = .ok (.ishl, 1) := by decide +kernel
theorem d_Mo_countTowns_24 : decode c_Mo_countTowns 24 = .ok (.if_icmp .ge 113, 3) := by decide +kernel
theorem d_Mo_countTowns_27 : decode c_Mo_countTowns 27 = .ok (.aload_n 0, 1) := by decide +kernel
theorem d_Mo_countTowns_28 : decode c_Mo_countTowns 28 = .ok (.aload_n 0, 1) := by decide +kernel
theorem d_Mo_countTowns_29 : decode c_Mo_countTowns 29 = .ok (.getfield 63, 3) := by decide +kernel
theorem d_Mo_countTowns_32 : decode c_Mo_countTowns 32 = .ok (.iload_n 2, 1) := by decide +kernel
theorem d_Mo_countTowns_33 : decode c_Mo_countTowns 33 = .ok (.invokevirtual 82, 3) := by decide +kernel
theorem d_Mo_countTowns_36 : decode c_Mo_countTowns 36 = .ok (.iconst 1, 1) := by decide +kernel
theorem d_Mo_countTowns_37 : decode c_Mo_countTowns 37 = .ok (.istore_n 3, 1) := by decide +kernel
theorem d_Mo_countTowns_38 : decode c_Mo_countTowns 38 = .ok (.iconst 0, 1) := by decide +kernel
theorem d_Mo_countTowns_39 : decode c_Mo_countTowns 39 = .ok (.istore 4, 2) := by decide +kernel
theorem d_Mo_countTowns_41 : decode c_Mo_countTowns 41 = .ok (.iload 4, 2) := by decide +kernel
theorem d_Mo_countTowns_43 : decode c_Mo_countTowns 43 = .ok (.aload_n 0, 1) := by decide +kernel
theorem d_Mo_countTowns_44 : decode c_Mo_countTowns 44 = .ok (.getfield 63, 3) := by decide +kernel
theorem d_Mo_countTowns_47 : decode c_Mo_countTowns 47 = .ok (.if_icmp .ge 36, 3) := by decide +kernel
theorem d_Mo_countTowns_50 : decode c_Mo_countTowns 50 = .ok (.iload_n 3, 1) := by decide +kernel
theorem d_Mo_countTowns_51 : decode c_Mo_countTowns 51 = .ok (.ifCond .eq 24, 3) := by decide +kernel
theorem d_Mo_countTowns_54 : decode c_Mo_countTowns 54 = .ok (.aload_n 0, 1) := by decide +kernel
theorem d_Mo_countTowns_55 : decode c_Mo_countTowns 55 = .ok (.getfield 20, 3) := by decide +kernel
theorem d_Mo_countTowns_58 : decode c_Mo_countTowns 58 = .ok (.iload 4, 2) := by decide +kernel
theorem d_Mo_countTowns_60 : decode c_Mo_countTowns 60 = .ok (.iaload, 1) := by decide +kernel
theorem d_Mo_countTowns_61 : decode c_Mo_countTowns 61 = .ok (.aload_n 0, 1) := by decide +kernel
theorem d_Mo_countTowns_62 : decode c_Mo_countTowns 62 = .ok (.getfield 16, 3) := by decide +kernel
theorem d_Mo_countTowns_65 : decode c_Mo_countTowns 65 = .ok (.iload 4, 2) := by decide +kernel
theorem d_Mo_countTowns_67 : decode c_Mo_countTowns 67 = .ok (.iaload, 1) := by decide +kernel
theorem d_Mo_countTowns_68 : decode c_Mo_countTowns 68 = .ok (.if_icmp .ne 7, 3) := by decide +kernel
theorem d_Mo_countTowns_71 : decode c_Mo_countTowns 71 = .ok (.iconst 1, 1) := by decide +kernel
theorem d_Mo_countTowns_72 : decode c_Mo_countTowns 72 = .ok (.goto 4, 3) := by decide +kernel
theorem d_Mo_countTowns_75 : decode c_Mo_countTowns 75 = .ok (.iconst 0, 1) := by decide +kernel
theorem d_Mo_countTowns_76 : decode c_Mo_countTowns 76 = .ok (.istore_n 3, 1) := by decide +kernel
theorem d_Mo_countTowns_77 : decode c_Mo_countTowns 77 = .ok (.iinc 4 1, 3) := by decide +kernel
theorem d_Mo_countTowns_80 : decode c_Mo_countTowns 80 = .ok (.goto (-39), 3) := by decide +kernel
theorem d_Mo_countTowns_83 : decode c_Mo_countTowns 83 = .ok (.iload_n 1, 1) := by decide +kernel
theorem d_Mo_countTowns_84 : decode c_Mo_countTowns 84 = .ok (.iload_n 3, 1) := by decide +kernel
theorem d_Mo_countTowns_85 : decode c_Mo_countTowns 85 = .ok (.ifCond .eq 7, 3) := by decide +kernel
theorem d_Mo_countTowns_88 : decode c_Mo_countTowns 88 = .ok (.iconst 1, 1) := by decide +kernel
theorem d_Mo_countTowns_89 : decode c_Mo_countTowns 89 = .ok (.goto 4, 3) := by decide +kernel
theorem d_Mo_countTowns_92 : decode c_Mo_countTowns 92 = .ok (.iconst 0, 1) := by decide +kernel
theorem d_Mo_countTowns_93 : decode c_Mo_countTowns 93 = .ok (.iadd, 1) := by decide +kernel
theorem d_Mo_countTowns_94 : decode c_Mo_countTowns 94 = .ok (.istore_n 1, 1) := by decide +kernel
theorem d_Mo_countTowns_95 : decode c_Mo_countTowns 95 = .ok (.aload_n 0, 1) := by decide +kernel
theorem d_Mo_countTowns_96 : decode c_Mo_countTowns 96 = .ok (.dup, 1) := by decide +kernel
theorem d_Mo_countTowns_97 : decode c_Mo_countTowns 97 = .ok (.getfield 265, 3) := by decide +kernel
theorem d_Mo_countTowns_100 : decode c_Mo_countTowns 100 = .ok (.iload_n 3, 1) := by decide +kernel
theorem d_Mo_countTowns_101 : decode c_Mo_countTowns 101 = .ok (.ifCond .eq 7, 3) := by decide +kernel
theorem d_Mo_countTowns_104 : decode c_Mo_countTowns 104 = .ok (.iload_n 2, 1) := by decide +kernel
theorem d_Mo_countTowns_105 : decode c_Mo_countTowns 105 = .ok (.goto 4, 3) := by decide +kernel
theorem d_Mo_countTowns_108 : decode c_Mo_countTowns 108 = .ok (.iconst 0, 1) := by decide +kernel
theorem d_Mo_countTowns_109 : decode c_Mo_countTowns 109 = .ok (.ior, 1) := by decide +kernel
theorem d_Mo_countTowns_110 : decode c_Mo_countTowns 110 = .ok (.putfield 265, 3) := by decide +kernel
theorem d_Mo_countTowns_113 : decode c_Mo_countTowns 113 = .ok (.aload_n 0, 1) := by decide +kernel
theorem d_Mo_countTowns_114 : decode c_Mo_countTowns 114 = .ok (.dup, 1) := by decide +kernel
theorem d_Mo_countTowns_115 : decode c_Mo_countTowns 115 = .ok (.getfield 268, 3) := by decide +kernel
theorem d_Mo_countTowns_118 : decode c_Mo_countTowns 118 = .ok (.iload_n 3, 1) := by decide +kernel
theorem d_Mo_countTowns_119 : decode c_Mo_countTowns 119 = .ok (.ifCond .eq 7, 3) := by decide +kernel
theorem d_Mo_countTowns_122 : decode c_Mo_countTowns 122 = .ok (.iload_n 2, 1) := by decide +kernel
theorem d_Mo_countTowns_123 : decode c_Mo_countTowns 123 = .ok (.goto 4, 3) := by decide +kernel
theorem d_Mo_countTowns_126 : decode c_Mo_countTowns 126 = .ok (.iconst (-1), 1) := by decide +kernel
theorem d_Mo_countTowns_127 : decode c_Mo_countTowns 127 = .ok (.iand, 1) := by decide +kernel
theorem d_Mo_countTowns_128 : decode c_Mo_countTowns 128 = .ok (.putfield 268, 3) := by decide +kernel
theorem d_Mo_countTowns_131 : decode c_Mo_countTowns 131 = .ok (.iinc 2 1, 3) := by decide +kernel
theorem d_Mo_countTowns_134 : decode c_Mo_countTowns 134 = .ok (.goto (-120), 3) := by decide +kernel
theorem d_Mo_countTowns_137 : decode c_Mo_countTowns 137 = .ok (.iload_n 1, 1) := by decide +kernel
theorem d_Mo_countTowns_138 : decode c_Mo_countTowns 138 = .ok (.ireturn, 1) := by decide +kernel
theorem d_Mo_canBe_0 : decode c_Mo_canBe 0 = .ok (.aload_n 0, 1) := by decide +kernel
theorem d_Mo_canBe_1 : decode c_Mo_canBe 1 = .ok (.getfield 63, 3) := by decide +kernel
theorem d_Mo_canBe_4 : decode c_Mo_canBe 4 = .ok (.bipush 6, 2) := by decide +kernel
theorem d_Mo_canBe_6 : decode c_Mo_canBe 6 = .ok (.if_icmp .le 8, 3) := by decide +kernel
theorem d_Mo_canBe_9 : decode c_Mo_canBe 9 = .ok (.ldc 210, 2) := by decide +kernel
theorem d_Mo_canBe_11 : decode c_Mo_canBe 11 = .ok (.goto 7, 3) := by decide +kernel
theorem d_Mo_canBe_14 : decode c_Mo_canBe 14 = .ok (.aload_n 0, 1) := by decide +kernel
theorem d_Mo_canBe_15 : decode c_Mo_canBe 15 = .ok (.invokevirtual 271, 3) := by decide +kernel
theorem d_Mo_canBe_18 : decode c_Mo_canBe 18 = .ok (.ireturn, 1) := by decide +kernel
theorem d_Mo_sure_0 : decode c_Mo_sure 0 = .ok (.aload_n 0, 1) := by decide +kernel
theorem d_Mo_sure_1 : decode c_Mo_sure 1 = .ok (.iload_n 1, 1) := by decide +kernel
theorem d_Mo_sure_2 : decode c_Mo_sure 2 = .ok (.invokevirtual 70, 3) := by decide +kernel
theorem d_Mo_sure_5 : decode c_Mo_sure 5 = .ok (.ifCond .ne 6, 3) := by decide +kernel
theorem d_Mo_sure_8 : decode c_Mo_sure 8 = .ok (.ldc 203, 2) := by decide +kernel
theorem d_Mo_sure_10 : decode c_Mo_sure 10 = .ok (.ireturn, 1) := by decide +kernel
theorem d_Mo_sure_11 : decode c_Mo_sure 11 = .ok (.iload_n 2, 1) := by decide +kernel
theorem d_Mo_sure_12 : decode c_Mo_sure 12 = .ok (.i2l, 1) := by decide +kernel
theorem d_Mo_sure_13 : decode c_Mo_sure 13 = .ok (.lconst 0, 1) := by decide +kernel
theorem d_Mo_sure_14 : decode c_Mo_sure 14 = .ok (.lconst 1, 1) := by decide +kernel
theorem d_Mo_sure_15 : decode c_Mo_sure 15 = .ok (.invokestatic 66, 3) := by decide +kernel
theorem d_Mo_sure_18 : decode c_Mo_sure 18 = .ok (.ifCond .ne 6, 3) := by decide +kernel
theorem d_Mo_sure_21 : decode c_Mo_sure 21 = .ok (.ldc 94, 2) := by decide +kernel
theorem d_Mo_sure_23 : decode c_Mo_sure 23 = .ok (.ireturn, 1) := by decide +kernel
theorem d_Mo_sure_24 : decode c_Mo_sure 24 = .ok (.aload_n 0, 1) := by decide +kernel
theorem d_Mo_sure_25 : decode c_Mo_sure 25 = .ok (.getfield 63, 3) := by decide +kernel
theorem d_Mo_sure_28 : decode c_Mo_sure 28 = .ok (.bipush 6, 2) := by decide +kernel
theorem d_Mo_sure_30 : decode c_Mo_sure 30 = .ok (.if_icmp .le 6, 3) := by decide +kernel
theorem d_Mo_sure_33 : decode c_Mo_sure 33 = .ok (.ldc 210, 2) := by decide +kernel
theorem d_Mo_sure_35 : decode c_Mo_sure 35 = .ok (.ireturn, 1) := by decide +kernel
theorem d_Mo_sure_36 : decode c_Mo_sure 36 = .ok (.aload_n 0, 1) := by decide +kernel
theorem d_Mo_sure_37 : decode c_Mo_sure 37 = .ok (.invokevirtual 271, 3) := by decide +kernel
theorem d_Mo_sure_40 : decode c_Mo_sure 40 = .ok (.istore_n 3, 1) := by decide +kernel
theorem d_Mo_sure_41 : decode c_Mo_sure 41 = .ok (.iload_n 3, 1) := by decide +kernel
theorem d_Mo_sure_42 : decode c_Mo_sure 42 = .ok (.ifCond .ne 7, 3) := by decide +kernel
theorem d_Mo_sure_45 : decode c_Mo_sure 45 = .ok (.iconst 0, 1) := by decide +kernel
theorem d_Mo_sure_46 : decode c_Mo_sure 46 = .ok (.goto 27, 3) := by decide +kernel
theorem d_Mo_sure_49 : decode c_Mo_sure 49 = .ok (.aload_n 0, 1) := by decide +kernel
theorem d_Mo_sure_50 : decode c_Mo_sure 50 = .ok (.aload_n 0, 1) := by decide +kernel
theorem d_Mo_sure_51 : decode c_Mo_sure 51 = .ok (.getfield 63, 3) := by decide +kernel
theorem d_Mo_sure_54 : decode c_Mo_sure 54 = .ok (.iload_n 2, 1) := by decide +kernel
theorem d_Mo_sure_55 : decode c_Mo_sure 55 = .ok (.ifCond .ne 10, 3) := by decide +kernel
theorem d_Mo_sure_58 : decode c_Mo_sure 58 = .ok (.aload_n 0, 1) := by decide +kernel
theorem d_Mo_sure_59 : decode c_Mo_sure 59 = .ok (.getfield 268, 3) := by decide +kernel
theorem d_Mo_sure_62 : decode c_Mo_sure 62 = .ok (.goto 7, 3) := by decide +kernel
theorem d_Mo_sure_65 : decode c_Mo_sure 65 = .ok (.aload_n 0, 1) := by decide +kernel
theorem d_Mo_sure_66 : decode c_Mo_sure 66 = .ok (.getfield 265, 3) := by decide +kernel
theorem d_Mo_sure_69 : decode c_Mo_sure 69 = .ok (.iload_n 1, 1) := by decide +kernel
theorem d_Mo_sure_70 : decode c_Mo_sure 70 = .ok (.invokevirtual 204, 3) := by decide +kernel
theorem d_Mo_sure_73 : decode c_Mo_sure 73 = .ok (.ireturn, 1) := by decide +kernel
theorem d_Mo_liarIn_0 : decode c_Mo_liarIn 0 = .ok (.aload_n 0, 1) := by decide +kernel
theorem d_Mo_liarIn_1 : decode c_Mo_liarIn 1 = .ok (.aload_n 0, 1) := by decide +kernel
theorem d_Mo_liarIn_2 : decode c_Mo_liarIn 2 = .ok (.getfield 63, 3) := by decide +kernel
theorem d_Mo_liarIn_5 : decode c_Mo_liarIn 5 = .ok (.iload_n 1, 1) := by decide +kernel
theorem d_Mo_liarIn_6 : decode c_Mo_liarIn 6 = .ok (.invokevirtual 82, 3) := by decide +kernel
theorem d_Mo_liarIn_9 : decode c_Mo_liarIn 9 = .ok (.iconst 0, 1) := by decide +kernel
theorem d_Mo_liarIn_10 : decode c_Mo_liarIn 10 = .ok (.istore_n 2, 1) := by decide +kernel
theorem d_Mo_liarIn_11 : decode c_Mo_liarIn 11 = .ok (.iconst 0, 1) := by decide +kernel
theorem d_Mo_liarIn_12 : decode c_Mo_liarIn 12 = .ok (.istore_n 3, 1) := by decide +kernel
theorem d_Mo_liarIn_13 : decode c_Mo_liarIn 13 = .ok (.iload_n 3, 1) := by decide +kernel
theorem d_Mo_liarIn_14 : decode c_Mo_liarIn 14 = .ok (.aload_n 0, 1) := by decide +kernel
theorem d_Mo_liarIn_15 : decode c_Mo_liarIn 15 = .ok (.getfield 63, 3) := by decide +kernel
theorem d_Mo_liarIn_18 : decode c_Mo_liarIn 18 = .ok (.if_icmp .ge 34, 3) := by decide +kernel
theorem d_Mo_liarIn_21 : decode c_Mo_liarIn 21 = .ok (.iload_n 2, 1) := by decide +kernel
theorem d_Mo_liarIn_22 : decode c_Mo_liarIn 22 = .ok (.aload_n 0, 1) := by decide +kernel
theorem d_Mo_liarIn_23 : decode c_Mo_liarIn 23 = .ok (.getfield 20, 3) := by decide +kernel
theorem d_Mo_liarIn_26 : decode c_Mo_liarIn 26 = .ok (.iload_n 3, 1) := by decide +kernel
theorem d_Mo_liarIn_27 : decode c_Mo_liarIn 27 = .ok (.iaload, 1) := by decide +kernel
theorem d_Mo_liarIn_28 : decode c_Mo_liarIn 28 = .ok (.aload_n 0, 1) := by decide +kernel
theorem d_Mo_liarIn_29 : decode c_Mo_liarIn 29 = .ok (.getfield 16, 3) := by decide +kernel
theorem d_Mo_liarIn_32 : decode c_Mo_liarIn 32 = .ok (.iload_n 3, 1) := by decide +kernel
theorem d_Mo_liarIn_33 : decode c_Mo_liarIn 33 = .ok (.iaload, 1) := by decide +kernel
theorem d_Mo_liarIn_34 : decode c_Mo_liarIn 34 = .ok (.if_icmp .ne 7, 3) := by decide +kernel
theorem d_Mo_liarIn_37 : decode c_Mo_liarIn 37 = .ok (.iconst 0, 1) := by decide +kernel
theorem d_Mo_liarIn_38 : decode c_Mo_liarIn 38 = .ok (.goto 6, 3) := by decide +kernel
theorem d_Mo_liarIn_41 : decode c_Mo_liarIn 41 = .ok (.iconst 1, 1) := by decide +kernel
theorem d_Mo_liarIn_42 : decode c_Mo_liarIn 42 = .ok (.iload_n 3, 1) := by decide +kernel
theorem d_Mo_liarIn_43 : decode c_Mo_liarIn 43 = .ok (.ishl, 1) := by decide +kernel
theorem d_Mo_liarIn_44 : decode c_Mo_liarIn 44 = .ok (.ior, 1) := by decide +kernel
theorem d_Mo_liarIn_45 : decode c_Mo_liarIn 45 = .ok (.istore_n 2, 1) := by decide +kernel
theorem d_Mo_liarIn_46 : decode c_Mo_liarIn 46 = .ok (.iinc 3 1, 3) := by decide +kernel
theorem d_Mo_liarIn_49 : decode c_Mo_liarIn 49 = .ok (.goto (-36), 3) := by decide +kernel
theorem d_Mo_liarIn_52 : decode c_Mo_liarIn 52 = .ok (.iload_n 2, 1) := by decide +kernel
theorem d_Mo_liarIn_53 : decode c_Mo_liarIn 53 = .ok (.invokestatic 197, 3) := by decide +kernel
theorem d_Mo_liarIn_56 : decode c_Mo_liarIn 56 = .ok (.iconst 1, 1) := by decide +kernel
theorem d_Mo_liarIn_57 : decode c_Mo_liarIn 57 = .ok (.if_icmp .ne 7, 3) := by decide +kernel
theorem d_Mo_liarIn_60 : decode c_Mo_liarIn 60 = .ok (.iload_n 2, 1) := by decide +kernel
theorem d_Mo_liarIn_61 : decode c_Mo_liarIn 61 = .ok (.goto 4, 3) := by decide +kernel
theorem d_Mo_liarIn_64 : decode c_Mo_liarIn 64 = .ok (.iconst 0, 1) := by decide +kernel
theorem d_Mo_liarIn_65 : decode c_Mo_liarIn 65 = .ok (.ireturn, 1) := by decide +kernel
theorem d_Mo_liar_0 : decode c_Mo_liar 0 = .ok (.aload_n 0, 1) := by decide +kernel
theorem d_Mo_liar_1 : decode c_Mo_liar 1 = .ok (.getfield 63, 3) := by decide +kernel
theorem d_Mo_liar_4 : decode c_Mo_liar 4 = .ok (.bipush 6, 2) := by decide +kernel
theorem d_Mo_liar_6 : decode c_Mo_liar 6 = .ok (.if_icmp .le 6, 3) := by decide +kernel
theorem d_Mo_liar_9 : decode c_Mo_liar 9 = .ok (.ldc 210, 2) := by decide +kernel
theorem d_Mo_liar_11 : decode c_Mo_liar 11 = .ok (.ireturn, 1) := by decide +kernel
theorem d_Mo_liar_12 : decode c_Mo_liar 12 = .ok (.aload_n 0, 1) := by decide +kernel
theorem d_Mo_liar_13 : decode c_Mo_liar 13 = .ok (.invokevirtual 271, 3) := by decide +kernel
theorem d_Mo_liar_16 : decode c_Mo_liar 16 = .ok (.ifCond .le 5, 3) := by decide +kernel
theorem d_Mo_liar_19 : decode c_Mo_liar 19 = .ok (.iconst 0, 1) := by decide +kernel
theorem d_Mo_liar_20 : decode c_Mo_liar 20 = .ok (.ireturn, 1) := by decide +kernel
theorem d_Mo_liar_21 : decode c_Mo_liar 21 = .ok (.iconst 0, 1) := by decide +kernel
theorem d_Mo_liar_22 : decode c_Mo_liar 22 = .ok (.istore_n 1, 1) := by decide +kernel
theorem d_Mo_liar_23 : decode c_Mo_liar 23 = .ok (.iconst 0, 1) := by decide +kernel
theorem d_Mo_liar_24 : decode c_Mo_liar 24 = .ok (.istore_n 2, 1) := by decide +kernel
theorem d_Mo_liar_25 : decode c_Mo_liar 25 = .ok (.iload_n 2, 1) := by decide +kernel
theorem d_Mo_liar_26 : decode c_Mo_liar 26 = .ok (.iconst 1, 1) := by decide +kernel
theorem d_Mo_liar_27 : decode c_Mo_liar 27 = .ok (.aload_n 0, 1) := by decide +kernel
theorem d_Mo_liar_28 : decode c_Mo_liar 28 = .ok (.getfield 63, 3) := by decide +kernel
theorem d_Mo_liar_31 : decode c_Mo_liar 31 = .ok (.invokestatic 254, 3) := by decide +kernel
theorem d_Mo_liar_34 : decode c_Mo_liar 34 = .ok (.ishl, 1) := by decide +kernel
theorem d_Mo_liar_35 : decode c_Mo_liar 35 = .ok (.if_icmp .ge 17, 3) := by decide +kernel
theorem d_Mo_liar_38 : decode c_Mo_liar 38 = .ok (.iload_n 1, 1) := by decide +kernel
theorem d_Mo_liar_39 : decode c_Mo_liar 39 = .ok (.aload_n 0, 1) := by decide +kernel
theorem d_Mo_liar_40 : decode c_Mo_liar 40 = .ok (.iload_n 2, 1) := by decide +kernel
theorem d_Mo_liar_41 : decode c_Mo_liar 41 = .ok (.invokevirtual 274, 3) := by decide +kernel
theorem d_Mo_liar_44 : decode c_Mo_liar 44 = .ok (.ior, 1) := by decide +kernel
theorem d_Mo_liar_45 : decode c_Mo_liar 45 = .ok (.istore_n 1, 1) := by decide +kernel
theorem d_Mo_liar_46 : decode c_Mo_liar 46 = .ok (.iinc 2 1, 3) := by decide +kernel
theorem d_Mo_liar_49 : decode c_Mo_liar 49 = .ok (.goto (-24), 3) := by decide +kernel
theorem d_Mo_liar_52 : decode c_Mo_liar 52 = .ok (.iload_n 1, 1) := by decide +kernel
theorem d_Mo_liar_53 : decode c_Mo_liar 53 = .ok (.ireturn, 1) := by decide +kernel
theorem d_Mo_areUnlike_0 : decode c_Mo_areUnlike 0 = .ok (.iconst 1, 1) := by decide +kernel
theorem d_Mo_areUnlike_1 : decode c_Mo_areUnlike 1 = .ok (.istore_n 2, 1) := by decide +kernel
theorem d_Mo_areUnlike_2 : decode c_Mo_areUnlike 2 = .ok (.iconst 0, 1) := by decide +kernel
theorem d_Mo_areUnlike_3 : decode c_Mo_areUnlike 3 = .ok (.istore_n 3, 1) := by decide +kernel
theorem d_Mo_areUnlike_4 : decode c_Mo_areUnlike 4 = .ok (.iload_n 3, 1) := by decide +kernel
theorem d_Mo_areUnlike_5 : decode c_Mo_areUnlike 5 = .ok (.iload_n 1, 1) := by decide +kernel
theorem d_Mo_areUnlike_6 : decode c_Mo_areUnlike 6 = .ok (.if_icmp .ge 50, 3) := by decide +kernel
theorem d_Mo_areUnlike_9 : decode c_Mo_areUnlike 9 = .ok (.iconst 0, 1) := by decide +kernel
theorem d_Mo_areUnlike_10 : decode c_Mo_areUnlike 10 = .ok (.istore 4, 2) := by decide +kernel
theorem d_Mo_areUnlike_12 : decode c_Mo_areUnlike 12 = .ok (.iload 4, 2) := by decide +kernel
theorem d_Mo_areUnlike_14 : decode c_Mo_areUnlike 14 = .ok (.iload_n 3, 1) := by decide +kernel
theorem d_Mo_areUnlike_15 : decode c_Mo_areUnlike 15 = .ok (.if_icmp .ge 35, 3) := by decide +kernel
theorem d_Mo_areUnlike_18 : decode c_Mo_areUnlike 18 = .ok (.iload_n 2, 1) := by decide +kernel
theorem d_Mo_areUnlike_19 : decode c_Mo_areUnlike 19 = .ok (.ifCond .eq 23, 3) := by decide +kernel
theorem d_Mo_areUnlike_22 : decode c_Mo_areUnlike 22 = .ok (.aload_n 0, 1) := by decide +kernel
theorem d_Mo_areUnlike_23 : decode c_Mo_areUnlike 23 = .ok (.getfield 38, 3) := by decide +kernel
theorem d_Mo_areUnlike_26 : decode c_Mo_areUnlike 26 = .ok (.iload_n 3, 1) := by decide +kernel
theorem d_Mo_areUnlike_27 : decode c_Mo_areUnlike 27 = .ok (.iaload, 1) := by decide +kernel
theorem d_Mo_areUnlike_28 : decode c_Mo_areUnlike 28 = .ok (.aload_n 0, 1) := by decide +kernel
theorem d_Mo_areUnlike_29 : decode c_Mo_areUnlike 29 = .ok (.getfield 38, 3) := by decide +kernel
theorem d_Mo_areUnlike_32 : decode c_Mo_areUnlike 32 = .ok (.iload 4, 2) := by decide +kernel
theorem d_Mo_areUnlike_34 : decode c_Mo_areUnlike 34 = .ok (.iaload, 1) := by decide +kernel
theorem d_Mo_areUnlike_35 : decode c_Mo_areUnlike 35 = .ok (.if_icmp .eq 7, 3) := by decide +kernel
theorem d_Mo_areUnlike_38 : decode c_Mo_areUnlike 38 = .ok (.iconst 1, 1) := by decide +kernel
theorem d_Mo_areUnlike_39 : decode c_Mo_areUnlike 39 = .ok (.goto 4, 3) := by decide +kernel
theorem d_Mo_areUnlike_42 : decode c_Mo_areUnlike 42 = .ok (.iconst 0, 1) := by decide +kernel
theorem d_Mo_areUnlike_43 : decode c_Mo_areUnlike 43 = .ok (.istore_n 2, 1) := by decide +kernel
theorem d_Mo_areUnlike_44 : decode c_Mo_areUnlike 44 = .ok (.iinc 4 1, 3) := by decide +kernel
theorem d_Mo_areUnlike_47 : decode c_Mo_areUnlike 47 = .ok (.goto (-35), 3) := by decide +kernel
theorem d_Mo_areUnlike_50 : decode c_Mo_areUnlike 50 = .ok (.iinc 3 1, 3) := by decide +kernel
theorem d_Mo_areUnlike_53 : decode c_Mo_areUnlike 53 = .ok (.goto (-49), 3) := by decide +kernel
theorem d_Mo_areUnlike_56 : decode c_Mo_areUnlike 56 = .ok (.iload_n 2, 1) := by decide +kernel
theorem d_Mo_areUnlike_57 : decode c_Mo_areUnlike 57 = .ok (.ireturn, 1) := by decide +kernel
theorem d_Mo_isWeighed_0 : decode c_Mo_isWeighed 0 = .ok (.iload_n 3, 1) := by decide +kernel
theorem d_Mo_isWeighed_1 : decode c_Mo_isWeighed 1 = .ok (.istore 4, 2) := by decide +kernel
theorem d_Mo_isWeighed_3 : decode c_Mo_isWeighed 3 = .ok (.iload_n 1, 1) := by decide +kernel
theorem d_Mo_isWeighed_4 : decode c_Mo_isWeighed 4 = .ok (.iconst 1, 1) := by decide +kernel
theorem d_Mo_isWeighed_5 : decode c_Mo_isWeighed 5 = .ok (.isub, 1) := by decide +kernel
theorem d_Mo_isWeighed_6 : decode c_Mo_isWeighed 6 = .ok (.istore 5, 2) := by decide +kernel
theorem d_Mo_isWeighed_8 : decode c_Mo_isWeighed 8 = .ok (.iload 5, 2) := by decide +kernel
theorem d_Mo_isWeighed_10 : decode c_Mo_isWeighed 10 = .ok (.ifCond .lt 28, 3) := by decide +kernel
theorem d_Mo_isWeighed_13 : decode c_Mo_isWeighed 13 = .ok (.aload_n 0, 1) := by decide +kernel
theorem d_Mo_isWeighed_14 : decode c_Mo_isWeighed 14 = .ok (.getfield 44, 3) := by decide +kernel
theorem d_Mo_isWeighed_17 : decode c_Mo_isWeighed 17 = .ok (.iload 5, 2) := by decide +kernel
theorem d_Mo_isWeighed_19 : decode c_Mo_isWeighed 19 = .ok (.iconst 1, 1) := by decide +kernel
theorem d_Mo_isWeighed_20 : decode c_Mo_isWeighed 20 = .ok (.iload 4, 2) := by decide +kernel
theorem d_Mo_isWeighed_22 : decode c_Mo_isWeighed 22 = .ok (.iload_n 2, 1) := by decide +kernel
theorem d_Mo_isWeighed_23 : decode c_Mo_isWeighed 23 = .ok (.irem, 1) := by decide +kernel
theorem d_Mo_isWeighed_24 : decode c_Mo_isWeighed 24 = .ok (.iadd, 1) := by decide +kernel
theorem d_Mo_isWeighed_25 : decode c_Mo_isWeighed 25 = .ok (.iastore, 1) := by decide +kernel
theorem d_Mo_isWeighed_26 : decode c_Mo_isWeighed 26 = .ok (.iload 4, 2) := by decide +kernel
theorem d_Mo_isWeighed_28 : decode c_Mo_isWeighed 28 = .ok (.iload_n 2, 1) := by decide +kernel
theorem d_Mo_isWeighed_29 : decode c_Mo_isWeighed 29 = .ok (.idiv, 1) := by decide +kernel
theorem d_Mo_isWeighed_30 : decode c_Mo_isWeighed 30 = .ok (.istore 4, 2) := by decide +kernel
theorem d_Mo_isWeighed_32 : decode c_Mo_isWeighed 32 = .ok (.iinc 5 (-1), 3) := by decide +kernel
theorem d_Mo_isWeighed_35 : decode c_Mo_isWeighed 35 = .ok (.goto (-27), 3) := by decide +kernel
theorem d_Mo_isWeighed_38 : decode c_Mo_isWeighed 38 = .ok (.iconst 0, 1) := by decide +kernel
theorem d_Mo_isWeighed_39 : decode c_Mo_isWeighed 39 = .ok (.istore 5, 2) := by decide +kernel
theorem d_Mo_isWeighed_41 : decode c_Mo_isWeighed 41 = .ok (.iload 5, 2) := by decide +kernel
theorem d_Mo_isWeighed_43 : decode c_Mo_isWeighed 43 = .ok (.aload_n 0, 1) := by decide +kernel
theorem d_Mo_isWeighed_44 : decode c_Mo_isWeighed 44 = .ok (.getfield 63, 3) := by decide +kernel
theorem d_Mo_isWeighed_47 : decode c_Mo_isWeighed 47 = .ok (.if_icmp .ge 17, 3) := by decide +kernel
theorem d_Mo_isWeighed_50 : decode c_Mo_isWeighed 50 = .ok (.aload_n 0, 1) := by decide +kernel
theorem d_Mo_isWeighed_51 : decode c_Mo_isWeighed 51 = .ok (.getfield 38, 3) := by decide +kernel
theorem d_Mo_isWeighed_54 : decode c_Mo_isWeighed 54 = .ok (.iload 5, 2) := by decide +kernel
theorem d_Mo_isWeighed_56 : decode c_Mo_isWeighed 56 = .ok (.iconst 0, 1) := by decide +kernel
theorem d_Mo_isWeighed_57 : decode c_Mo_isWeighed 57 = .ok (.iastore, 1) := by decide +kernel
theorem d_Mo_isWeighed_58 : decode c_Mo_isWeighed 58 = .ok (.iinc 5 1, 3) := by decide +kernel
theorem d_Mo_isWeighed_61 : decode c_Mo_isWeighed 61 = .ok (.goto (-20), 3) := by decide +kernel
theorem d_Mo_isWeighed_64 : decode c_Mo_isWeighed 64 = .ok (.iconst 0, 1) := by decide +kernel
theorem d_Mo_isWeighed_65 : decode c_Mo_isWeighed 65 = .ok (.istore 5, 2) := by decide +kernel
theorem d_Mo_isWeighed_67 : decode c_Mo_isWeighed 67 = .ok (.iconst 0, 1) := by decide +kernel
theorem d_Mo_isWeighed_68 : decode c_Mo_isWeighed 68 = .ok (.istore 6, 2) := by decide +kernel
theorem d_Mo_isWeighed_70 : decode c_Mo_isWeighed 70 = .ok (.iconst 0, 1) := by decide +kernel
theorem d_Mo_isWeighed_71 : decode c_Mo_isWeighed 71 = .ok (.istore 7, 2) := by decide +kernel
theorem d_Mo_isWeighed_73 : decode c_Mo_isWeighed 73 = .ok (.iload 7, 2) := by decide +kernel
theorem d_Mo_isWeighed_75 : decode c_Mo_isWeighed 75 = .ok (.aload_n 0, 1) := by decide +kernel
theorem d_Mo_isWeighed_76 : decode c_Mo_isWeighed 76 = .ok (.getfield 63, 3) := by decide +kernel
theorem d_Mo_isWeighed_79 : decode c_Mo_isWeighed 79 = .ok (.if_icmp .ge 91, 3) := by decide +kernel
theorem d_Mo_isWeighed_82 : decode c_Mo_isWeighed 82 = .ok (.iload 7, 2) := by decide +kernel
theorem d_Mo_isWeighed_84 : decode c_Mo_isWeighed 84 = .ok (.iconst 1, 1) := by decide +kernel
theorem d_Mo_isWeighed_85 : decode c_Mo_isWeighed 85 = .ok (.iadd, 1) := by decide +kernel
theorem d_Mo_isWeighed_86 : decode c_Mo_isWeighed 86 = .ok (.istore 8, 2) := by decide +kernel
theorem d_Mo_isWeighed_88 : decode c_Mo_isWeighed 88 = .ok (.iload 8, 2) := by decide +kernel
theorem d_Mo_isWeighed_90 : decode c_Mo_isWeighed 90 = .ok (.aload_n 0, 1) := by decide +kernel
theorem d_Mo_isWeighed_91 : decode c_Mo_isWeighed 91 = .ok (.getfield 63, 3) := by decide +kernel
theorem d_Mo_isWeighed_94 : decode c_Mo_isWeighed 94 = .ok (.if_icmp .ge 70, 3) := by decide +kernel
theorem d_Mo_isWeighed_97 : decode c_Mo_isWeighed 97 = .ok (.aload_n 0, 1) := by decide +kernel
theorem d_Mo_isWeighed_98 : decode c_Mo_isWeighed 98 = .ok (.getfield 86, 3) := by decide +kernel
theorem d_Mo_isWeighed_101 : decode c_Mo_isWeighed 101 = .ok (.iload 5, 2) := by decide +kernel
theorem d_Mo_isWeighed_103 : decode c_Mo_isWeighed 103 = .ok (.invokestatic 78, 3) := by decide +kernel
theorem d_Mo_isWeighed_106 : decode c_Mo_isWeighed 106 = .ok (.ifCond .eq 49, 3) := by decide +kernel
theorem d_Mo_isWeighed_109 : decode c_Mo_isWeighed 109 = .ok (.aload_n 0, 1) := by decide +kernel
theorem d_Mo_isWeighed_110 : decode c_Mo_isWeighed 110 = .ok (.getfield 38, 3) := by decide +kernel
theorem d_Mo_isWeighed_113 : decode c_Mo_isWeighed 113 = .ok (.iload 7, 2) := by decide +kernel
theorem d_Mo_isWeighed_115 : decode c_Mo_isWeighed 115 = .ok (.dup2, 1) := by decide +kernel
theorem d_Mo_isWeighed_116 : decode c_Mo_isWeighed 116 = .ok (.iaload, 1) := by decide +kernel
theorem d_Mo_isWeighed_117 : decode c_Mo_isWeighed 117 = .ok (.aload_n 0, 1) := by decide +kernel
theorem d_Mo_isWeighed_118 : decode c_Mo_isWeighed 118 = .ok (.getfield 44, 3) := by decide +kernel
theorem d_Mo_isWeighed_121 : decode c_Mo_isWeighed 121 = .ok (.iload 6, 2) := by decide +kernel
theorem d_Mo_isWeighed_123 : decode c_Mo_isWeighed 123 = .ok (.iaload, 1) := by decide +kernel
theorem d_Mo_isWeighed_124 : decode c_Mo_isWeighed 124 = .ok (.iadd, 1) := by decide +kernel
theorem d_Mo_isWeighed_125 : decode c_Mo_isWeighed 125 = .ok (.iastore, 1) := by decide +kernel
theorem d_Mo_isWeighed_126 : decode c_Mo_isWeighed 126 = .ok (.aload_n 0, 1) := by decide +kernel
theorem d_Mo_isWeighed_127 : decode c_Mo_isWeighed 127 = .ok (.getfield 38, 3) := by decide +kernel
theorem d_Mo_isWeighed_130 : decode c_Mo_isWeighed 130 = .ok (.iload 8, 2) := by decide +kernel
theorem d_Mo_isWeighed_132 : decode c_Mo_isWeighed 132 = .ok (.dup2, 1) := by decide +kernel
theorem d_Mo_isWeighed_133 : decode c_Mo_isWeighed 133 = .ok (.iaload, 1) := by decide +kernel
theorem d_Mo_isWeighed_134 : decode c_Mo_isWeighed 134 = .ok (.aload_n 0, 1) := by decide +kernel
theorem d_Mo_isWeighed_135 : decode c_Mo_isWeighed 135 = .ok (.getfield 44, 3) := by decide +kernel
theorem d_Mo_isWeighed_138 : decode c_Mo_isWeighed 138 = .ok (.iload 6, 2) := by decide +kernel
theorem d_Mo_isWeighed_140 : decode c_Mo_isWeighed 140 = .ok (.iaload, 1) := by decide +kernel
theorem d_Mo_isWeighed_141 : decode c_Mo_isWeighed 141 = .ok (.iadd, 1) := by decide +kernel
theorem d_Mo_isWeighed_142 : decode c_Mo_isWeighed 142 = .ok (.iastore, 1) := by decide +kernel
theorem d_Mo_isWeighed_143 : decode c_Mo_isWeighed 143 = .ok (.aload_n 0, 1) := by decide +kernel
theorem d_Mo_isWeighed_144 : decode c_Mo_isWeighed 144 = .ok (.getfield 41, 3) := by decide +kernel
theorem d_Mo_isWeighed_147 : decode c_Mo_isWeighed 147 = .ok (.iload 6, 2) := by decide +kernel
theorem d_Mo_isWeighed_149 : decode c_Mo_isWeighed 149 = .ok (.iload 5, 2) := by decide +kernel
theorem d_Mo_isWeighed_151 : decode c_Mo_isWeighed 151 = .ok (.iastore, 1) := by decide +kernel
theorem d_Mo_isWeighed_152 : decode c_Mo_isWeighed 152 = .ok (.iinc 6 1, 3) := by decide +kernel
theorem d_Mo_isWeighed_155 : decode c_Mo_isWeighed 155 = .ok (.iinc 5 1, 3) := by decide +kernel
theorem d_Mo_isWeighed_158 : decode c_Mo_isWeighed 158 = .ok (.iinc 8 1, 3) := by decide +kernel
theorem d_Mo_isWeighed_161 : decode c_Mo_isWeighed 161 = .ok (.goto (-73), 3) := by decide +kernel
theorem d_Mo_isWeighed_164 : decode c_Mo_isWeighed 164 = .ok (.iinc 7 1, 3) := by decide +kernel
theorem d_Mo_isWeighed_167 : decode c_Mo_isWeighed 167 = .ok (.goto (-94), 3) := by decide +kernel
theorem d_Mo_isWeighed_170 : decode c_Mo_isWeighed 170 = .ok (.aload_n 0, 1) := by decide +kernel
theorem d_Mo_isWeighed_171 : decode c_Mo_isWeighed 171 = .ok (.aload_n 0, 1) := by decide +kernel
theorem d_Mo_isWeighed_172 : decode c_Mo_isWeighed 172 = .ok (.getfield 63, 3) := by decide +kernel
theorem d_Mo_isWeighed_175 : decode c_Mo_isWeighed 175 = .ok (.invokevirtual 277, 3) := by decide +kernel
theorem d_Mo_isWeighed_178 : decode c_Mo_isWeighed 178 = .ok (.ireturn, 1) := by decide +kernel
theorem d_Mo_findWeights_0 : decode c_Mo_findWeights 0 = .ok (.aload_n 0, 1) := by decide +kernel
theorem d_Mo_findWeights_1 : decode c_Mo_findWeights 1 = .ok (.getfield 86, 3) := by decide +kernel
theorem d_Mo_findWeights_4 : decode c_Mo_findWeights 4 = .ok (.invokestatic 197, 3) := by decide +kernel
theorem d_Mo_findWeights_7 : decode c_Mo_findWeights 7 = .ok (.istore_n 1, 1) := by decide +kernel
theorem d_Mo_findWeights_8 : decode c_Mo_findWeights 8 = .ok (.iconst 1, 1) := by decide +kernel
theorem d_Mo_findWeights_9 : decode c_Mo_findWeights 9 = .ok (.istore_n 2, 1) := by decide +kernel
theorem d_Mo_findWeights_10 : decode c_Mo_findWeights 10 = .ok (.iload_n 2, 1) := by decide +kernel
theorem d_Mo_findWeights_11 : decode c_Mo_findWeights 11 = .ok (.iconst 5, 1) := by decide +kernel
theorem d_Mo_findWeights_12 : decode c_Mo_findWeights 12 = .ok (.if_icmp .ge 58, 3) := by decide +kernel
theorem d_Mo_findWeights_15 : decode c_Mo_findWeights 15 = .ok (.iconst 1, 1) := by decide +kernel
theorem d_Mo_findWeights_16 : decode c_Mo_findWeights 16 = .ok (.istore_n 3, 1) := by decide +kernel
theorem d_Mo_findWeights_17 : decode c_Mo_findWeights 17 = .ok (.iconst 0, 1) := by decide +kernel
theorem d_Mo_findWeights_18 : decode c_Mo_findWeights 18 = .ok (.istore 4, 2) := by decide +kernel
theorem d_Mo_findWeights_20 : decode c_Mo_findWeights 20 = .ok (.iload 4, 2) := by decide +kernel
theorem d_Mo_findWeights_22 : decode c_Mo_findWeights 22 = .ok (.iload_n 1, 1) := by decide +kernel
theorem d_Mo_findWeights_23 : decode c_Mo_findWeights 23 = .ok (.if_icmp .ge 13, 3) := by decide +kernel
theorem d_Mo_findWeights_26 : decode c_Mo_findWeights 26 = .ok (.iload_n 3, 1) := by decide +kernel
theorem d_Mo_findWeights_27 : decode c_Mo_findWeights 27 = .ok (.iload_n 2, 1) := by decide +kernel
theorem d_Mo_findWeights_28 : decode c_Mo_findWeights 28 = .ok (.imul, 1) := by decide +kernel
theorem d_Mo_findWeights_29 : decode c_Mo_findWeights 29 = .ok (.istore_n 3, 1) := by decide +kernel
theorem d_Mo_findWeights_30 : decode c_Mo_findWeights 30 = .ok (.iinc 4 1, 3) := by decide +kernel
theorem d_Mo_findWeights_33 : decode c_Mo_findWeights 33 = .ok (.goto (-13), 3) := by decide +kernel
theorem d_Mo_findWeights_36 : decode c_Mo_findWeights 36 = .ok (.iconst 0, 1) := by decide +kernel
theorem d_Mo_findWeights_37 : decode c_Mo_findWeights 37 = .ok (.istore 4, 2) := by decide +kernel
theorem d_Mo_findWeights_39 : decode c_Mo_findWeights 39 = .ok (.iload 4, 2) := by decide +kernel
theorem d_Mo_findWeights_41 : decode c_Mo_findWeights 41 = .ok (.iload_n 3, 1) := by decide +kernel
theorem d_Mo_findWeights_42 : decode c_Mo_findWeights 42 = .ok (.if_icmp .ge 22, 3) := by decide +kernel
theorem d_Mo_findWeights_45 : decode c_Mo_findWeights 45 = .ok (.aload_n 0, 1) := by decide +kernel
theorem d_Mo_findWeights_46 : decode c_Mo_findWeights 46 = .ok (.iload_n 1, 1) := by decide +kernel
theorem d_Mo_findWeights_47 : decode c_Mo_findWeights 47 = .ok (.iload_n 2, 1) := by decide +kernel
theorem d_Mo_findWeights_48 : decode c_Mo_findWeights 48 = .ok (.iload 4, 2) := by decide +kernel
theorem d_Mo_findWeights_50 : decode c_Mo_findWeights 50 = .ok (.invokevirtual 280, 3) := by decide +kernel
theorem d_Mo_findWeights_53 : decode c_Mo_findWeights 53 = .ok (.ifCond .eq 5, 3) := by decide +kernel
theorem d_Mo_findWeights_56 : decode c_Mo_findWeights 56 = .ok (.iload_n 2, 1) := by decide +kernel
theorem d_Mo_findWeights_57 : decode c_Mo_findWeights 57 = .ok (.ireturn, 1) := by decide +kernel
theorem d_Mo_findWeights_58 : decode c_Mo_findWeights 58 = .ok (.iinc 4 1, 3) := by decide +kernel
theorem d_Mo_findWeights_61 : decode c_Mo_findWeights 61 = .ok (.goto (-22), 3) := by decide +kernel
theorem d_Mo_findWeights_64 : decode c_Mo_findWeights 64 = .ok (.iinc 2 1, 3) := by decide +kernel
theorem d_Mo_findWeights_67 : decode c_Mo_findWeights 67 = .ok (.goto (-57), 3) := by decide +kernel
theorem d_Mo_findWeights_70 : decode c_Mo_findWeights 70 = .ok (.iconst (-1), 1) := by decide +kernel
theorem d_Mo_findWeights_71 : decode c_Mo_findWeights 71 = .ok (.ireturn, 1) := by decide +kernel
theorem d_Mo_weight_0 : decode c_Mo_weight 0 = .ok (.iload_n 1, 1) := by decide +kernel
theorem d_Mo_weight_1 : decode c_Mo_weight 1 = .ok (.iconst (-1), 1) := by decide +kernel
theorem d_Mo_weight_2 : decode c_Mo_weight 2 = .ok (.if_icmp .eq 15, 3) := by decide +kernel
theorem d_Mo_weight_5 : decode c_Mo_weight 5 = .ok (.aload_n 0, 1) := by decide +kernel
theorem d_Mo_weight_6 : decode c_Mo_weight 6 = .ok (.iload_n 1, 1) := by decide +kernel
theorem d_Mo_weight_7 : decode c_Mo_weight 7 = .ok (.iload_n 2, 1) := by decide +kernel
theorem d_Mo_weight_8 : decode c_Mo_weight 8 = .ok (.invokevirtual 207, 3) := by decide +kernel
theorem d_Mo_weight_11 : decode c_Mo_weight 11 = .ok (.ifCond .ne 6, 3) := by decide +kernel
theorem d_Mo_weight_14 : decode c_Mo_weight 14 = .ok (.ldc 203, 2) := by decide +kernel
theorem d_Mo_weight_16 : decode c_Mo_weight 16 = .ok (.ireturn, 1) := by decide +kernel
theorem d_Mo_weight_17 : decode c_Mo_weight 17 = .ok (.aload_n 0, 1) := by decide +kernel
theorem d_Mo_weight_18 : decode c_Mo_weight 18 = .ok (.getfield 86, 3) := by decide +kernel
theorem d_Mo_weight_21 : decode c_Mo_weight 21 = .ok (.invokestatic 197, 3) := by decide +kernel
theorem d_Mo_weight_24 : decode c_Mo_weight 24 = .ok (.bipush 8, 2) := by decide +kernel
theorem d_Mo_weight_26 : decode c_Mo_weight 26 = .ok (.if_icmp .le 6, 3) := by decide +kernel
theorem d_Mo_weight_29 : decode c_Mo_weight 29 = .ok (.ldc 210, 2) := by decide +kernel
theorem d_Mo_weight_31 : decode c_Mo_weight 31 = .ok (.ireturn, 1) := by decide +kernel
theorem d_Mo_weight_32 : decode c_Mo_weight 32 = .ok (.aload_n 0, 1) := by decide +kernel
theorem d_Mo_weight_33 : decode c_Mo_weight 33 = .ok (.invokevirtual 284, 3) := by decide +kernel
theorem d_Mo_weight_36 : decode c_Mo_weight 36 = .ok (.istore_n 3, 1) := by decide +kernel
theorem d_Mo_weight_37 : decode c_Mo_weight 37 = .ok (.iload_n 1, 1) := by decide +kernel
theorem d_Mo_weight_38 : decode c_Mo_weight 38 = .ok (.iconst (-1), 1) := by decide +kernel
theorem d_Mo_weight_39 : decode c_Mo_weight 39 = .ok (.if_icmp .eq 7, 3) := by decide +kernel
theorem d_Mo_weight_42 : decode c_Mo_weight 42 = .ok (.iload_n 3, 1) := by decide +kernel
theorem d_Mo_weight_43 : decode c_Mo_weight 43 = .ok (.ifCond .ge 5, 3) := by decide +kernel
theorem d_Mo_weight_46 : decode c_Mo_weight 46 = .ok (.iload_n 3, 1) := by decide +kernel
theorem d_Mo_weight_47 : decode c_Mo_weight 47 = .ok (.ireturn, 1) := by decide +kernel
theorem d_Mo_weight_48 : decode c_Mo_weight 48 = .ok (.iconst 0, 1) := by decide +kernel
theorem d_Mo_weight_49 : decode c_Mo_weight 49 = .ok (.istore 4, 2) := by decide +kernel
theorem d_Mo_weight_51 : decode c_Mo_weight 51 = .ok (.iconst 0, 1) := by decide +kernel
theorem d_Mo_weight_52 : decode c_Mo_weight 52 = .ok (.istore 5, 2) := by decide +kernel
theorem d_Mo_weight_54 : decode c_Mo_weight 54 = .ok (.iload 5, 2) := by decide +kernel
theorem d_Mo_weight_56 : decode c_Mo_weight 56 = .ok (.aload_n 0, 1) := by decide +kernel
theorem d_Mo_weight_57 : decode c_Mo_weight 57 = .ok (.getfield 86, 3) := by decide +kernel
theorem d_Mo_weight_60 : decode c_Mo_weight 60 = .ok (.invokestatic 197, 3) := by decide +kernel
theorem d_Mo_weight_63 : decode c_Mo_weight 63 = .ok (.if_icmp .ge 42, 3) := by decide +kernel
theorem d_Mo_weight_66 : decode c_Mo_weight 66 = .ok (.aload_n 0, 1) := by decide +kernel
theorem d_Mo_weight_67 : decode c_Mo_weight 67 = .ok (.getfield 41, 3) := by decide +kernel
theorem d_Mo_weight_70 : decode c_Mo_weight 70 = .ok (.iload 5, 2) := by decide +kernel
theorem d_Mo_weight_72 : decode c_Mo_weight 72 = .ok (.iaload, 1) := by decide +kernel
theorem d_Mo_weight_73 : decode c_Mo_weight 73 = .ok (.aload_n 0, 1) := by decide +kernel
theorem d_Mo_weight_74 : decode c_Mo_weight 74 = .ok (.getfield 63, 3) := by decide +kernel
theorem d_Mo_weight_77 : decode c_Mo_weight 77 = .ok (.iload_n 1, 1) := by decide +kernel
theorem d_Mo_weight_78 : decode c_Mo_weight 78 = .ok (.iload_n 2, 1) := by decide +kernel
theorem d_Mo_weight_79 : decode c_Mo_weight 79 = .ok (.invokestatic 74, 3) := by decide +kernel
theorem d_Mo_weight_82 : decode c_Mo_weight 82 = .ok (.if_icmp .ne 13, 3) := by decide +kernel
theorem d_Mo_weight_85 : decode c_Mo_weight 85 = .ok (.aload_n 0, 1) := by decide +kernel
theorem d_Mo_weight_86 : decode c_Mo_weight 86 = .ok (.getfield 44, 3) := by decide +kernel
theorem d_Mo_weight_89 : decode c_Mo_weight 89 = .ok (.iload 5, 2) := by decide +kernel
theorem d_Mo_weight_91 : decode c_Mo_weight 91 = .ok (.iaload, 1) := by decide +kernel
theorem d_Mo_weight_92 : decode c_Mo_weight 92 = .ok (.goto 5, 3) := by decide +kernel
theorem d_Mo_weight_95 : decode c_Mo_weight 95 = .ok (.iload 4, 2) := by decide +kernel
theorem d_Mo_weight_97 : decode c_Mo_weight 97 = .ok (.istore 4, 2) := by decide +kernel
theorem d_Mo_weight_99 : decode c_Mo_weight 99 = .ok (.iinc 5 1, 3) := by decide +kernel
theorem d_Mo_weight_102 : decode c_Mo_weight 102 = .ok (.goto (-48), 3) := by decide +kernel
theorem d_Mo_weight_105 : decode c_Mo_weight 105 = .ok (.iload 4, 2) := by decide +kernel
theorem d_Mo_weight_107 : decode c_Mo_weight 107 = .ok (.ireturn, 1) := by decide +kernel
theorem d_Mo_sides_0 : decode c_Mo_sides 0 = .ok (.iload_n 1, 1) := by decide +kernel
theorem d_Mo_sides_1 : decode c_Mo_sides 1 = .ok (.i2l, 1) := by decide +kernel
theorem d_Mo_sides_2 : decode c_Mo_sides 2 = .ok (.lconst 1, 1) := by decide +kernel
theorem d_Mo_sides_3 : decode c_Mo_sides 3 = .ok (.ldc2_w 287, 3) := by decide +kernel
theorem d_Mo_sides_6 : decode c_Mo_sides 6 = .ok (.invokestatic 66, 3) := by decide +kernel
theorem d_Mo_sides_9 : decode c_Mo_sides 9 = .ok (.ifCond .eq 15, 3) := by decide +kernel
theorem d_Mo_sides_12 : decode c_Mo_sides 12 = .ok (.iload_n 2, 1) := by decide +kernel
theorem d_Mo_sides_13 : decode c_Mo_sides 13 = .ok (.i2l, 1) := by decide +kernel
theorem d_Mo_sides_14 : decode c_Mo_sides 14 = .ok (.lconst 1, 1) := by decide +kernel
theorem d_Mo_sides_15 : decode c_Mo_sides 15 = .ok (.ldc2_w 287, 3) := by decide +kernel
theorem d_Mo_sides_18 : decode c_Mo_sides 18 = .ok (.invokestatic 66, 3) := by decide +kernel
theorem d_Mo_sides_21 : decode c_Mo_sides 21 = .ok (.ifCond .ne 6, 3) := by decide +kernel
theorem d_Mo_sides_24 : decode c_Mo_sides 24 = .ok (.ldc 94, 2) := by decide +kernel
theorem d_Mo_sides_26 : decode c_Mo_sides 26 = .ok (.ireturn, 1) := by decide +kernel
theorem d_Mo_sides_27 : decode c_Mo_sides 27 = .ok (.iconst 0, 1) := by decide +kernel
theorem d_Mo_sides_28 : decode c_Mo_sides 28 = .ok (.istore_n 3, 1) := by decide +kernel
theorem d_Mo_sides_29 : decode c_Mo_sides 29 = .ok (.iconst 0, 1) := by decide +kernel
theorem d_Mo_sides_30 : decode c_Mo_sides 30 = .ok (.istore 4, 2) := by decide +kernel
theorem d_Mo_sides_32 : decode c_Mo_sides 32 = .ok (.iload 4, 2) := by decide +kernel
theorem d_Mo_sides_34 : decode c_Mo_sides 34 = .ok (.iconst 1, 1) := by decide +kernel
theorem d_Mo_sides_35 : decode c_Mo_sides 35 = .ok (.iload_n 1, 1) := by decide +kernel
theorem d_Mo_sides_36 : decode c_Mo_sides 36 = .ok (.iload_n 2, 1) := by decide +kernel
theorem d_Mo_sides_37 : decode c_Mo_sides 37 = .ok (.imul, 1) := by decide +kernel
theorem d_Mo_sides_38 : decode c_Mo_sides 38 = .ok (.ishl, 1) := by decide +kernel
theorem d_Mo_sides_39 : decode c_Mo_sides 39 = .ok (.if_icmp .ge 193, 3) := by decide +kernel
theorem d_Mo_sides_42 : decode c_Mo_sides 42 = .ok (.iconst 0, 1) := by decide +kernel
theorem d_Mo_sides_43 : decode c_Mo_sides 43 = .ok (.istore 5, 2) := by decide +kernel
theorem d_Mo_sides_45 : decode c_Mo_sides 45 = .ok (.iconst 0, 1) := by decide +kernel
theorem d_Mo_sides_46 : decode c_Mo_sides 46 = .ok (.istore 6, 2) := by decide +kernel
theorem d_Mo_sides_48 : decode c_Mo_sides 48 = .ok (.iconst 1, 1) := by decide +kernel
theorem d_Mo_sides_49 : decode c_Mo_sides 49 = .ok (.istore 7, 2) := by decide +kernel
theorem d_Mo_sides_51 : decode c_Mo_sides 51 = .ok (.iconst 0, 1) := by decide +kernel
theorem d_Mo_sides_52 : decode c_Mo_sides 52 = .ok (.istore 8, 2) := by decide +kernel
theorem d_Mo_sides_54 : decode c_Mo_sides 54 = .ok (.iload 8, 2) := by decide +kernel
theorem d_Mo_sides_56 : decode c_Mo_sides 56 = .ok (.iload_n 1, 1) := by decide +kernel
theorem d_Mo_sides_57 : decode c_Mo_sides 57 = .ok (.if_icmp .ge 75, 3) := by decide +kernel
theorem d_Mo_sides_60 : decode c_Mo_sides 60 = .ok (.iconst 0, 1) := by decide +kernel
theorem d_Mo_sides_61 : decode c_Mo_sides 61 = .ok (.istore 9, 2) := by decide +kernel
theorem d_Mo_sides_63 : decode c_Mo_sides 63 = .ok (.iconst 0, 1) := by decide +kernel
theorem d_Mo_sides_64 : decode c_Mo_sides 64 = .ok (.istore 10, 2) := by decide +kernel
theorem d_Mo_sides_66 : decode c_Mo_sides 66 = .ok (.iload 10, 2) := by decide +kernel
theorem d_Mo_sides_68 : decode c_Mo_sides 68 = .ok (.iload_n 2, 1) := by decide +kernel
theorem d_Mo_sides_69 : decode c_Mo_sides 69 = .ok (.if_icmp .ge 26, 3) := by decide +kernel
theorem d_Mo_sides_72 : decode c_Mo_sides 72 = .ok (.iload 9, 2) := by decide +kernel
theorem d_Mo_sides_74 : decode c_Mo_sides 74 = .ok (.iload 4, 2) := by decide +kernel
theorem d_Mo_sides_76 : decode c_Mo_sides 76 = .ok (.iload_n 2, 1) := by decide +kernel
theorem d_Mo_sides_77 : decode c_Mo_sides 77 = .ok (.iload 8, 2) := by decide +kernel
theorem d_Mo_sides_79 : decode c_Mo_sides 79 = .ok (.imul, 1) := by decide +kernel
theorem d_Mo_sides_80 : decode c_Mo_sides 80 = .ok (.iload 10, 2) := by decide +kernel
theorem d_Mo_sides_82 : decode c_Mo_sides 82 = .ok (.iadd, 1) := by decide +kernel
theorem d_Mo_sides_83 : decode c_Mo_sides 83 = .ok (.ishr, 1) := by decide +kernel
theorem d_Mo_sides_84 : decode c_Mo_sides 84 = .ok (.iconst 1, 1) := by decide +kernel
theorem d_Mo_sides_85 : decode c_Mo_sides 85 = .ok (.iand, 1) := by decide +kernel
theorem d_Mo_sides_86 : decode c_Mo_sides 86 = .ok (.iadd, 1) := by decide +kernel
theorem d_Mo_sides_87 : decode c_Mo_sides 87 = .ok (.istore 9, 2) := by decide +kernel
theorem d_Mo_sides_89 : decode c_Mo_sides 89 = .ok (.iinc 10 1, 3) := by decide +kernel
theorem d_Mo_sides_92 : decode c_Mo_sides 92 = .ok (.goto (-26), 3) := by decide +kernel
theorem d_Mo_sides_95 : decode c_Mo_sides 95 = .ok (.iload 7, 2) := by decide +kernel
theorem d_Mo_sides_97 : decode c_Mo_sides 97 = .ok (.ifCond .eq 17, 3) := by decide +kernel
theorem d_Mo_sides_100 : decode c_Mo_sides 100 = .ok (.iload 5, 2) := by decide +kernel
theorem d_Mo_sides_102 : decode c_Mo_sides 102 = .ok (.iload 9, 2) := by decide +kernel
theorem d_Mo_sides_104 : decode c_Mo_sides 104 = .ok (.invokestatic 78, 3) := by decide +kernel
theorem d_Mo_sides_107 : decode c_Mo_sides 107 = .ok (.ifCond .ne 7, 3) := by decide +kernel
theorem d_Mo_sides_110 : decode c_Mo_sides 110 = .ok (.iconst 1, 1) := by decide +kernel
theorem d_Mo_sides_111 : decode c_Mo_sides 111 = .ok (.goto 4, 3) := by decide +kernel
theorem d_Mo_sides_114 : decode c_Mo_sides 114 = .ok (.iconst 0, 1) := by decide +kernel
theorem d_Mo_sides_115 : decode c_Mo_sides 115 = .ok (.istore 7, 2) := by decide +kernel
theorem d_Mo_sides_117 : decode c_Mo_sides 117 = .ok (.iload 5, 2) := by decide +kernel
theorem d_Mo_sides_119 : decode c_Mo_sides 119 = .ok (.iconst 1, 1) := by decide +kernel
theorem d_Mo_sides_120 : decode c_Mo_sides 120 = .ok (.iload 9, 2) := by decide +kernel
theorem d_Mo_sides_122 : decode c_Mo_sides 122 = .ok (.ishl, 1) := by decide +kernel
theorem d_Mo_sides_123 : decode c_Mo_sides 123 = .ok (.ior, 1) := by decide +kernel
theorem d_Mo_sides_124 : decode c_Mo_sides 124 = .ok (.istore 5, 2) := by decide +kernel
theorem d_Mo_sides_126 : decode c_Mo_sides 126 = .ok (.iinc 8 1, 3) := by decide +kernel
theorem d_Mo_sides_129 : decode c_Mo_sides 129 = .ok (.goto (-75), 3) := by decide +kernel
theorem d_Mo_sides_132 : decode c_Mo_sides 132 = .ok (.iconst 0, 1) := by decide +kernel
theorem d_Mo_sides_133 : decode c_Mo_sides 133 = .ok (.istore 8, 2) := by decide +kernel
theorem d_Mo_sides_135 : decode c_Mo_sides 135 = .ok (.iload 8, 2) := by decide +kernel
theorem d_Mo_sides_137 : decode c_Mo_sides 137 = .ok (.iload_n 2, 1) := by decide +kernel
theorem d_Mo_sides_138 : decode c_Mo_sides 138 = .ok (.if_icmp .ge 75, 3) := by decide +kernel
theorem d_Mo_sides_141 : decode c_Mo_sides 141 = .ok (.iconst 0, 1) := by decide +kernel
theorem d_Mo_sides_142 : decode c_Mo_sides 142 = .ok (.istore 9, 2) := by decide +kernel
theorem d_Mo_sides_144 : decode c_Mo_sides 144 = .ok (.iconst 0, 1) := by decide +kernel
theorem d_Mo_sides_145 : decode c_Mo_sides 145 = .ok (.istore 10, 2) := by decide +kernel
theorem d_Mo_sides_147 : decode c_Mo_sides 147 = .ok (.iload 10, 2) := by decide +kernel
theorem d_Mo_sides_149 : decode c_Mo_sides 149 = .ok (.iload_n 1, 1) := by decide +kernel
theorem d_Mo_sides_150 : decode c_Mo_sides 150 = .ok (.if_icmp .ge 26, 3) := by decide +kernel
theorem d_Mo_sides_153 : decode c_Mo_sides 153 = .ok (.iload 9, 2) := by decide +kernel
theorem d_Mo_sides_155 : decode c_Mo_sides 155 = .ok (.iload 4, 2) := by decide +kernel
theorem d_Mo_sides_157 : decode c_Mo_sides 157 = .ok (.iload_n 2, 1) := by decide +kernel
theorem d_Mo_sides_158 : decode c_Mo_sides 158 = .ok (.iload 10, 2) := by decide +kernel
theorem d_Mo_sides_160 : decode c_Mo_sides 160 = .ok (.imul, 1) := by decide +kernel
theorem d_Mo_sides_161 : decode c_Mo_sides 161 = .ok (.iload 8, 2) := by decide +kernel
theorem d_Mo_sides_163 : decode c_Mo_sides 163 = .ok (.iadd, 1) := by decide +kernel
theorem d_Mo_sides_164 : decode c_Mo_sides 164 = .ok (.ishr, 1) := by decide +kernel
theorem d_Mo_sides_165 : decode c_Mo_sides 165 = .ok (.iconst 1, 1) := by decide +kernel
theorem d_Mo_sides_166 : decode c_Mo_sides 166 = .ok (.iand, 1) := by decide +kernel
theorem d_Mo_sides_167 : decode c_Mo_sides 167 = .ok (.iadd, 1) := by decide +kernel
theorem d_Mo_sides_168 : decode c_Mo_sides 168 = .ok (.istore 9, 2) := by decide +kernel
theorem d_Mo_sides_170 : decode c_Mo_sides 170 = .ok (.iinc 10 1, 3) := by decide +kernel
theorem d_Mo_sides_173 : decode c_Mo_sides 173 = .ok (.goto (-26), 3) := by decide +kernel
theorem d_Mo_sides_176 : decode c_Mo_sides 176 = .ok (.iload 7, 2) := by decide +kernel
theorem d_Mo_sides_178 : decode c_Mo_sides 178 = .ok (.ifCond .eq 17, 3) := by decide +kernel
theorem d_Mo_sides_181 : decode c_Mo_sides 181 = .ok (.iload 6, 2) := by decide +kernel
theorem d_Mo_sides_183 : decode c_Mo_sides 183 = .ok (.iload 9, 2) := by decide +kernel
theorem d_Mo_sides_185 : decode c_Mo_sides 185 = .ok (.invokestatic 78, 3) := by decide +kernel
theorem d_Mo_sides_188 : decode c_Mo_sides 188 = .ok (.ifCond .ne 7, 3) := by decide +kernel
theorem d_Mo_sides_191 : decode c_Mo_sides 191 = .ok (.iconst 1, 1) := by decide +kernel
theorem d_Mo_sides_192 : decode c_Mo_sides 192 = .ok (.goto 4, 3) := by decide +kernel
theorem d_Mo_sides_195 : decode c_Mo_sides 195 = .ok (.iconst 0, 1) := by decide +kernel
theorem d_Mo_sides_196 : decode c_Mo_sides 196 = .ok (.istore 7, 2) := by decide +kernel
theorem d_Mo_sides_198 : decode c_Mo_sides 198 = .ok (.iload 6, 2) := by decide +kernel
theorem d_Mo_sides_200 : decode c_Mo_sides 200 = .ok (.iconst 1, 1) := by decide +kernel
theorem d_Mo_sides_201 : decode c_Mo_sides 201 = .ok (.iload 9, 2) := by decide +kernel
theorem d_Mo_sides_203 : decode c_Mo_sides 203 = .ok (.ishl, 1) := by decide +kernel
theorem d_Mo_sides_204 : decode c_Mo_sides 204 = .ok (.ior, 1) := by decide +kernel
theorem d_Mo_sides_205 : decode c_Mo_sides 205 = .ok (.istore 6, 2) := by decide +kernel
theorem d_Mo_sides_207 : decode c_Mo_sides 207 = .ok (.iinc 8 1, 3) := by decide +kernel
theorem d_Mo_sides_210 : decode c_Mo_sides 210 = .ok (.goto (-75), 3) := by decide +kernel
theorem d_Mo_sides_213 : decode c_Mo_sides 213 = .ok (.iload_n 3, 1) := by decide +kernel
theorem d_Mo_sides_214 : decode c_Mo_sides 214 = .ok (.iload 7, 2) := by decide +kernel
theorem d_Mo_sides_216 : decode c_Mo_sides 216 = .ok (.ifCond .eq 7, 3) := by decide +kernel
theorem d_Mo_sides_219 : decode c_Mo_sides 219 = .ok (.iconst 1, 1) := by decide +kernel
theorem d_Mo_sides_220 : decode c_Mo_sides 220 = .ok (.goto 4, 3) := by decide +kernel
theorem d_Mo_sides_223 : decode c_Mo_sides 223 = .ok (.iconst 0, 1) := by decide +kernel
theorem d_Mo_sides_224 : decode c_Mo_sides 224 = .ok (.iadd, 1) := by decide +kernel
theorem d_Mo_sides_225 : decode c_Mo_sides 225 = .ok (.istore_n 3, 1) := by decide +kernel
theorem d_Mo_sides_226 : decode c_Mo_sides 226 = .ok (.iinc 4 1, 3) := by decide +kernel
theorem d_Mo_sides_229 : decode c_Mo_sides 229 = .ok (.goto (-197), 3) := by decide +kernel
theorem d_Mo_sides_232 : decode c_Mo_sides 232 = .ok (.iload_n 3, 1) := by decide +kernel
theorem d_Mo_sides_233 : decode c_Mo_sides 233 = .ok (.ireturn, 1) := by decide +kernel
theorem d_Mo_sorts_0 : decode c_Mo_sorts 0 = .ok (.iload_n 1, 1) := by decide +kernel
theorem d_Mo_sorts_1 : decode c_Mo_sorts 1 = .ok (.i2l, 1) := by decide +kernel
theorem d_Mo_sorts_2 : decode c_Mo_sorts 2 = .ok (.lconst 1, 1) := by decide +kernel
theorem d_Mo_sorts_3 : decode c_Mo_sorts 3 = .ok (.ldc2_w 263, 3) := by decide +kernel
theorem d_Mo_sorts_6 : decode c_Mo_sorts 6 = .ok (.invokestatic 66, 3) := by decide +kernel
theorem d_Mo_sorts_9 : decode c_Mo_sorts 9 = .ok (.ifCond .ne 6, 3) := by decide +kernel
theorem d_Mo_sorts_12 : decode c_Mo_sorts 12 = .ok (.ldc 94, 2) := by decide +kernel
theorem d_Mo_sorts_14 : decode c_Mo_sorts 14 = .ok (.ireturn, 1) := by decide +kernel
theorem d_Mo_sorts_15 : decode c_Mo_sorts 15 = .ok (.iconst 1, 1) := by decide +kernel
theorem d_Mo_sorts_16 : decode c_Mo_sorts 16 = .ok (.istore_n 2, 1) := by decide +kernel
theorem d_Mo_sorts_17 : decode c_Mo_sorts 17 = .ok (.iconst 0, 1) := by decide +kernel
theorem d_Mo_sorts_18 : decode c_Mo_sorts 18 = .ok (.istore_n 3, 1) := by decide +kernel
theorem d_Mo_sorts_19 : decode c_Mo_sorts 19 = .ok (.iload_n 3, 1) := by decide +kernel
theorem d_Mo_sorts_20 : decode c_Mo_sorts 20 = .ok (.iload_n 1, 1) := by decide +kernel
theorem d_Mo_sorts_21 : decode c_Mo_sorts 21 = .ok (.invokestatic 254, 3) := by decide +kernel
theorem d_Mo_sorts_24 : decode c_Mo_sorts 24 = .ok (.if_icmp .ge 13, 3) := by decide +kernel
theorem d_Mo_sorts_27 : decode c_Mo_sorts 27 = .ok (.iload_n 2, 1) := by decide +kernel
theorem d_Mo_sorts_28 : decode c_Mo_sorts 28 = .ok (.iconst 3, 1) := by decide +kernel
theorem d_Mo_sorts_29 : decode c_Mo_sorts 29 = .ok (.imul, 1) := by decide +kernel
theorem d_Mo_sorts_30 : decode c_Mo_sorts 30 = .ok (.istore_n 2, 1) := by decide +kernel
theorem d_Mo_sorts_31 : decode c_Mo_sorts 31 = .ok (.iinc 3 1, 3) := by decide +kernel
theorem d_Mo_sorts_34 : decode c_Mo_sorts 34 = .ok (.goto (-15), 3) := by decide +kernel
theorem d_Mo_sorts_37 : decode c_Mo_sorts 37 = .ok (.iconst 0, 1) := by decide +kernel
theorem d_Mo_sorts_38 : decode c_Mo_sorts 38 = .ok (.istore_n 3, 1) := by decide +kernel
theorem d_Mo_sorts_39 : decode c_Mo_sorts 39 = .ok (.iconst 0, 1) := by decide +kernel
theorem d_Mo_sorts_40 : decode c_Mo_sorts 40 = .ok (.istore 4, 2) := by decide +kernel
theorem d_Mo_sorts_42 : decode c_Mo_sorts 42 = .ok (.iload 4, 2) := by decide +kernel
theorem d_Mo_sorts_44 : decode c_Mo_sorts 44 = .ok (.iload_n 2, 1) := by decide +kernel
theorem d_Mo_sorts_45 : decode c_Mo_sorts 45 = .ok (.if_icmp .ge 142, 3) := by decide +kernel
theorem d_Mo_sorts_48 : decode c_Mo_sorts 48 = .ok (.iload 4, 2) := by decide +kernel
theorem d_Mo_sorts_50 : decode c_Mo_sorts 50 = .ok (.istore 5, 2) := by decide +kernel
theorem d_Mo_sorts_52 : decode c_Mo_sorts 52 = .ok (.iconst 0, 1) := by decide +kernel
theorem d_Mo_sorts_53 : decode c_Mo_sorts 53 = .ok (.istore 6, 2) := by decide +kernel
theorem d_Mo_sorts_55 : decode c_Mo_sorts 55 = .ok (.iload 6, 2) := by decide +kernel
theorem d_Mo_sorts_57 : decode c_Mo_sorts 57 = .ok (.iload_n 1, 1) := by decide +kernel
theorem d_Mo_sorts_58 : decode c_Mo_sorts 58 = .ok (.if_icmp .ge 17, 3) := by decide +kernel
theorem d_Mo_sorts_61 : decode c_Mo_sorts 61 = .ok (.aload_n 0, 1) := by decide +kernel
theorem d_Mo_sorts_62 : decode c_Mo_sorts 62 = .ok (.getfield 38, 3) := by decide +kernel
theorem d_Mo_sorts_65 : decode c_Mo_sorts 65 = .ok (.iload 6, 2) := by decide +kernel
theorem d_Mo_sorts_67 : decode c_Mo_sorts 67 = .ok (.iconst 0, 1) := by decide +kernel
theorem d_Mo_sorts_68 : decode c_Mo_sorts 68 = .ok (.iastore, 1) := by decide +kernel
theorem d_Mo_sorts_69 : decode c_Mo_sorts 69 = .ok (.iinc 6 1, 3) := by decide +kernel
theorem d_Mo_sorts_72 : decode c_Mo_sorts 72 = .ok (.goto (-17), 3) := by decide +kernel
theorem d_Mo_sorts_75 : decode c_Mo_sorts 75 = .ok (.iconst 0, 1) := by decide +kernel
theorem d_Mo_sorts_76 : decode c_Mo_sorts 76 = .ok (.istore 6, 2) := by decide +kernel
theorem d_Mo_sorts_78 : decode c_Mo_sorts 78 = .ok (.iload 6, 2) := by decide +kernel
theorem d_Mo_sorts_80 : decode c_Mo_sorts 80 = .ok (.iload_n 1, 1) := by decide +kernel
theorem d_Mo_sorts_81 : decode c_Mo_sorts 81 = .ok (.if_icmp .ge 84, 3) := by decide +kernel
theorem d_Mo_sorts_84 : decode c_Mo_sorts 84 = .ok (.iload 6, 2) := by decide +kernel
theorem d_Mo_sorts_86 : decode c_Mo_sorts 86 = .ok (.iconst 1, 1) := by decide +kernel
theorem d_Mo_sorts_87 : decode c_Mo_sorts 87 = .ok (.iadd, 1) := by decide +kernel
theorem d_Mo_sorts_88 : decode c_Mo_sorts 88 = .ok (.istore 7, 2) := by decide +kernel
theorem d_Mo_sorts_90 : decode c_Mo_sorts 90 = .ok (.iload 7, 2) := by decide +kernel
theorem d_Mo_sorts_92 : decode c_Mo_sorts 92 = .ok (.iload_n 1, 1) := by decide +kernel
theorem d_Mo_sorts_93 : decode c_Mo_sorts 93 = .ok (.if_icmp .ge 66, 3) := by decide +kernel
theorem d_Mo_sorts_96 : decode c_Mo_sorts 96 = .ok (.iload 5, 2) := by decide +kernel
theorem d_Mo_sorts_98 : decode c_Mo_sorts 98 = .ok (.iconst 3, 1) := by decide +kernel
theorem d_Mo_sorts_99 : decode c_Mo_sorts 99 = .ok (.irem, 1) := by decide +kernel
theorem d_Mo_sorts_100 : decode c_Mo_sorts 100 = .ok (.ifCond .ne 7, 3) := by decide +kernel
theorem d_Mo_sorts_103 : decode c_Mo_sorts 103 = .ok (.iconst 0, 1) := by decide +kernel
theorem d_Mo_sorts_104 : decode c_Mo_sorts 104 = .ok (.goto 17, 3) := by decide +kernel
theorem d_Mo_sorts_107 : decode c_Mo_sorts 107 = .ok (.iload 5, 2) := by decide +kernel
theorem d_Mo_sorts_109 : decode c_Mo_sorts 109 = .ok (.iconst 3, 1) := by decide +kernel
theorem d_Mo_sorts_110 : decode c_Mo_sorts 110 = .ok (.irem, 1) := by decide +kernel
theorem d_Mo_sorts_111 : decode c_Mo_sorts 111 = .ok (.iconst 1, 1) := by decide +kernel
theorem d_Mo_sorts_112 : decode c_Mo_sorts 112 = .ok (.if_icmp .ne 7, 3) := by decide +kernel
theorem d_Mo_sorts_115 : decode c_Mo_sorts 115 = .ok (.iconst 1, 1) := by decide +kernel
theorem d_Mo_sorts_116 : decode c_Mo_sorts 116 = .ok (.goto 5, 3) := by decide +kernel
theorem d_Mo_sorts_119 : decode c_Mo_sorts 119 = .ok (.bipush 10, 2) := by decide +kernel
theorem d_Mo_sorts_121 : decode c_Mo_sorts 121 = .ok (.istore 8, 2) := by decide +kernel
theorem d_Mo_sorts_123 : decode c_Mo_sorts 123 = .ok (.aload_n 0, 1) := by decide +kernel
theorem d_Mo_sorts_124 : decode c_Mo_sorts 124 = .ok (.getfield 38, 3) := by decide +kernel
theorem d_Mo_sorts_127 : decode c_Mo_sorts 127 = .ok (.iload 6, 2) := by decide +kernel
theorem d_Mo_sorts_129 : decode c_Mo_sorts 129 = .ok (.dup2, 1) := by decide +kernel
theorem d_Mo_sorts_130 : decode c_Mo_sorts 130 = .ok (.iaload, 1) := by decide +kernel
theorem d_Mo_sorts_131 : decode c_Mo_sorts 131 = .ok (.iload 8, 2) := by decide +kernel
theorem d_Mo_sorts_133 : decode c_Mo_sorts 133 = .ok (.iadd, 1) := by decide +kernel
theorem d_Mo_sorts_134 : decode c_Mo_sorts 134 = .ok (.iastore, 1) := by decide +kernel
theorem d_Mo_sorts_135 : decode c_Mo_sorts 135 = .ok (.aload_n 0, 1) := by decide +kernel
theorem d_Mo_sorts_136 : decode c_Mo_sorts 136 = .ok (.getfield 38, 3) := by decide +kernel
theorem d_Mo_sorts_139 : decode c_Mo_sorts 139 = .ok (.iload 7, 2) := by decide +kernel
theorem d_Mo_sorts_141 : decode c_Mo_sorts 141 = .ok (.dup2, 1) := by decide +kernel
theorem d_Mo_sorts_142 : decode c_Mo_sorts 142 = .ok (.iaload, 1) := by decide +kernel
theorem d_Mo_sorts_143 : decode c_Mo_sorts 143 = .ok (.iload 8, 2) := by decide +kernel
theorem d_Mo_sorts_145 : decode c_Mo_sorts 145 = .ok (.iadd, 1) := by decide +kernel
theorem d_Mo_sorts_146 : decode c_Mo_sorts 146 = .ok (.iastore, 1) := by decide +kernel
theorem d_Mo_sorts_147 : decode c_Mo_sorts 147 = .ok (.iload 5, 2) := by decide +kernel
theorem d_Mo_sorts_149 : decode c_Mo_sorts 149 = .ok (.iconst 3, 1) := by decide +kernel
theorem d_Mo_sorts_150 : decode c_Mo_sorts 150 = .ok (.idiv, 1) := by decide +kernel
theorem d_Mo_sorts_151 : decode c_Mo_sorts 151 = .ok (.istore 5, 2) := by decide +kernel
theorem d_Mo_sorts_153 : decode c_Mo_sorts 153 = .ok (.iinc 7 1, 3) := by decide +kernel
theorem d_Mo_sorts_156 : decode c_Mo_sorts 156 = .ok (.goto (-66), 3) := by decide +kernel
theorem d_Mo_sorts_159 : decode c_Mo_sorts 159 = .ok (.iinc 6 1, 3) := by decide +kernel
theorem d_Mo_sorts_162 : decode c_Mo_sorts 162 = .ok (.goto (-84), 3) := by decide +kernel
theorem d_Mo_sorts_165 : decode c_Mo_sorts 165 = .ok (.iload_n 3, 1) := by decide +kernel
theorem d_Mo_sorts_166 : decode c_Mo_sorts 166 = .ok (.aload_n 0, 1) := by decide +kernel
theorem d_Mo_sorts_167 : decode c_Mo_sorts 167 = .ok (.iload_n 1, 1) := by decide +kernel
theorem d_Mo_sorts_168 : decode c_Mo_sorts 168 = .ok (.invokevirtual 277, 3) := by decide +kernel
theorem d_Mo_sorts_171 : decode c_Mo_sorts 171 = .ok (.ifCond .eq 7, 3) := by decide +kernel
theorem d_Mo_sorts_174 : decode c_Mo_sorts 174 = .ok (.iconst 1, 1) := by decide +kernel
theorem d_Mo_sorts_175 : decode c_Mo_sorts 175 = .ok (.goto 4, 3) := by decide +kernel
theorem d_Mo_sorts_178 : decode c_Mo_sorts 178 = .ok (.iconst 0, 1) := by decide +kernel
theorem d_Mo_sorts_179 : decode c_Mo_sorts 179 = .ok (.iadd, 1) := by decide +kernel
theorem d_Mo_sorts_180 : decode c_Mo_sorts 180 = .ok (.istore_n 3, 1) := by decide +kernel
theorem d_Mo_sorts_181 : decode c_Mo_sorts 181 = .ok (.iinc 4 1, 3) := by decide +kernel
theorem d_Mo_sorts_184 : decode c_Mo_sorts 184 = .ok (.goto (-142), 3) := by decide +kernel
theorem d_Mo_sorts_187 : decode c_Mo_sorts 187 = .ok (.iload_n 3, 1) := by decide +kernel
theorem d_Mo_sorts_188 : decode c_Mo_sorts 188 = .ok (.ireturn, 1) := by decide +kernel
theorem d_Mo_write_0 : decode c_Mo_write 0 = .ok (.aload_n 0, 1) := by decide +kernel
theorem d_Mo_write_1 : decode c_Mo_write 1 = .ok (.iload_n 1, 1) := by decide +kernel
theorem d_Mo_write_2 : decode c_Mo_write 2 = .ok (.iload_n 2, 1) := by decide +kernel
theorem d_Mo_write_3 : decode c_Mo_write 3 = .ok (.invokevirtual 207, 3) := by decide +kernel
theorem d_Mo_write_6 : decode c_Mo_write 6 = .ok (.ifCond .ne 6, 3) := by decide +kernel
theorem d_Mo_write_9 : decode c_Mo_write 9 = .ok (.ldc 203, 2) := by decide +kernel
theorem d_Mo_write_11 : decode c_Mo_write 11 = .ok (.ireturn, 1) := by decide +kernel
theorem d_Mo_write_12 : decode c_Mo_write 12 = .ok (.aload_n 0, 1) := by decide +kernel
theorem d_Mo_write_13 : decode c_Mo_write 13 = .ok (.getfield 194, 3) := by decide +kernel
theorem d_Mo_write_16 : decode c_Mo_write 16 = .ok (.bipush 30, 2) := by decide +kernel
theorem d_Mo_write_18 : decode c_Mo_write 18 = .ok (.if_icmp .ne 6, 3) := by decide +kernel
theorem d_Mo_write_21 : decode c_Mo_write 21 = .ok (.ldc 98, 2) := by decide +kernel
theorem d_Mo_write_23 : decode c_Mo_write 23 = .ok (.ireturn, 1) := by decide +kernel
theorem d_Mo_write_24 : decode c_Mo_write 24 = .ok (.aload_n 0, 1) := by decide +kernel
theorem d_Mo_write_25 : decode c_Mo_write 25 = .ok (.getfield 47, 3) := by decide +kernel
theorem d_Mo_write_28 : decode c_Mo_write 28 = .ok (.aload_n 0, 1) := by decide +kernel
theorem d_Mo_write_29 : decode c_Mo_write 29 = .ok (.getfield 194, 3) := by decide +kernel
theorem d_Mo_write_32 : decode c_Mo_write 32 = .ok (.iload_n 1, 1) := by decide +kernel
theorem d_Mo_write_33 : decode c_Mo_write 33 = .ok (.iastore, 1) := by decide +kernel
theorem d_Mo_write_34 : decode c_Mo_write 34 = .ok (.aload_n 0, 1) := by decide +kernel
theorem d_Mo_write_35 : decode c_Mo_write 35 = .ok (.getfield 50, 3) := by decide +kernel
theorem d_Mo_write_38 : decode c_Mo_write 38 = .ok (.aload_n 0, 1) := by decide +kernel
theorem d_Mo_write_39 : decode c_Mo_write 39 = .ok (.getfield 194, 3) := by decide +kernel
theorem d_Mo_write_42 : decode c_Mo_write 42 = .ok (.iload_n 2, 1) := by decide +kernel
theorem d_Mo_write_43 : decode c_Mo_write 43 = .ok (.iastore, 1) := by decide +kernel
theorem d_Mo_write_44 : decode c_Mo_write 44 = .ok (.aload_n 0, 1) := by decide +kernel
theorem d_Mo_write_45 : decode c_Mo_write 45 = .ok (.getfield 53, 3) := by decide +kernel
theorem d_Mo_write_48 : decode c_Mo_write 48 = .ok (.aload_n 0, 1) := by decide +kernel
theorem d_Mo_write_49 : decode c_Mo_write 49 = .ok (.getfield 194, 3) := by decide +kernel
theorem d_Mo_write_52 : decode c_Mo_write 52 = .ok (.iload_n 3, 1) := by decide +kernel
theorem d_Mo_write_53 : decode c_Mo_write 53 = .ok (.bastore, 1) := by decide +kernel
theorem d_Mo_write_54 : decode c_Mo_write 54 = .ok (.aload_n 0, 1) := by decide +kernel
theorem d_Mo_write_55 : decode c_Mo_write 55 = .ok (.dup, 1) := by decide +kernel
theorem d_Mo_write_56 : decode c_Mo_write 56 = .ok (.getfield 194, 3) := by decide +kernel
theorem d_Mo_write_59 : decode c_Mo_write 59 = .ok (.iconst 1, 1) := by decide +kernel
theorem d_Mo_write_60 : decode c_Mo_write 60 = .ok (.iadd, 1) := by decide +kernel
theorem d_Mo_write_61 : decode c_Mo_write 61 = .ok (.putfield 194, 3) := by decide +kernel
theorem d_Mo_write_64 : decode c_Mo_write 64 = .ok (.aload_n 0, 1) := by decide +kernel
theorem d_Mo_write_65 : decode c_Mo_write 65 = .ok (.getfield 194, 3) := by decide +kernel
theorem d_Mo_write_68 : decode c_Mo_write 68 = .ok (.ireturn, 1) := by decide +kernel
theorem d_Mo_tear_0 : decode c_Mo_tear 0 = .ok (.aload_n 0, 1) := by decide +kernel
theorem d_Mo_tear_1 : decode c_Mo_tear 1 = .ok (.getfield 194, 3) := by decide +kernel
theorem d_Mo_tear_4 : decode c_Mo_tear 4 = .ok (.istore_n 1, 1) := by decide +kernel
theorem d_Mo_tear_5 : decode c_Mo_tear 5 = .ok (.aload_n 0, 1) := by decide +kernel
theorem d_Mo_tear_6 : decode c_Mo_tear 6 = .ok (.iconst 0, 1) := by decide +kernel
theorem d_Mo_tear_7 : decode c_Mo_tear 7 = .ok (.putfield 194, 3) := by decide +kernel
theorem d_Mo_tear_10 : decode c_Mo_tear 10 = .ok (.iload_n 1, 1) := by decide +kernel
theorem d_Mo_tear_11 : decode c_Mo_tear 11 = .ok (.ireturn, 1) := by decide +kernel
theorem d_Mo_judge_0 : decode c_Mo_judge 0 = .ok (.iload_n 1, 1) := by decide +kernel
theorem d_Mo_judge_1 : decode c_Mo_judge 1 = .ok (.i2l, 1) := by decide +kernel
theorem d_Mo_judge_2 : decode c_Mo_judge 2 = .ok (.lconst 0, 1) := by decide +kernel
theorem d_Mo_judge_3 : decode c_Mo_judge 3 = .ok (.lconst 1, 1) := by decide +kernel
theorem d_Mo_judge_4 : decode c_Mo_judge 4 = .ok (.invokestatic 66, 3) := by decide +kernel
theorem d_Mo_judge_7 : decode c_Mo_judge 7 = .ok (.ifCond .ne 6, 3) := by decide +kernel
theorem d_Mo_judge_10 : decode c_Mo_judge 10 = .ok (.ldc 94, 2) := by decide +kernel
theorem d_Mo_judge_12 : decode c_Mo_judge 12 = .ok (.ireturn, 1) := by decide +kernel
theorem d_Mo_judge_13 : decode c_Mo_judge 13 = .ok (.aload_n 0, 1) := by decide +kernel
theorem d_Mo_judge_14 : decode c_Mo_judge 14 = .ok (.getfield 86, 3) := by decide +kernel
theorem d_Mo_judge_17 : decode c_Mo_judge 17 = .ok (.istore_n 2, 1) := by decide +kernel
theorem d_Mo_judge_18 : decode c_Mo_judge 18 = .ok (.iconst (-1), 1) := by decide +kernel
theorem d_Mo_judge_19 : decode c_Mo_judge 19 = .ok (.istore_n 3, 1) := by decide +kernel
theorem d_Mo_judge_20 : decode c_Mo_judge 20 = .ok (.iconst 0, 1) := by decide +kernel
theorem d_Mo_judge_21 : decode c_Mo_judge 21 = .ok (.istore 4, 2) := by decide +kernel
theorem d_Mo_judge_23 : decode c_Mo_judge 23 = .ok (.iload 4, 2) := by decide +kernel
theorem d_Mo_judge_25 : decode c_Mo_judge 25 = .ok (.aload_n 0, 1) := by decide +kernel
theorem d_Mo_judge_26 : decode c_Mo_judge 26 = .ok (.getfield 194, 3) := by decide +kernel
theorem d_Mo_judge_29 : decode c_Mo_judge 29 = .ok (.if_icmp .ge 178, 3) := by decide +kernel
theorem d_Mo_judge_32 : decode c_Mo_judge 32 = .ok (.iload_n 3, 1) := by decide +kernel
theorem d_Mo_judge_33 : decode c_Mo_judge 33 = .ok (.ifCond .ge 174, 3) := by decide +kernel
theorem d_Mo_judge_36 : decode c_Mo_judge 36 = .ok (.aload_n 0, 1) := by decide +kernel
theorem d_Mo_judge_37 : decode c_Mo_judge 37 = .ok (.aload_n 0, 1) := by decide +kernel
theorem d_Mo_judge_38 : decode c_Mo_judge 38 = .ok (.getfield 47, 3) := by decide +kernel
theorem d_Mo_judge_41 : decode c_Mo_judge 41 = .ok (.iload 4, 2) := by decide +kernel
theorem d_Mo_judge_43 : decode c_Mo_judge 43 = .ok (.iaload, 1) := by decide +kernel
theorem d_Mo_judge_44 : decode c_Mo_judge 44 = .ok (.invokevirtual 70, 3) := by decide +kernel
theorem d_Mo_judge_47 : decode c_Mo_judge 47 = .ok (.ifCond .eq 21, 3) := by decide +kernel
theorem d_Mo_judge_50 : decode c_Mo_judge 50 = .ok (.aload_n 0, 1) := by decide +kernel
theorem d_Mo_judge_51 : decode c_Mo_judge 51 = .ok (.aload_n 0, 1) := by decide +kernel
theorem d_Mo_judge_52 : decode c_Mo_judge 52 = .ok (.getfield 50, 3) := by decide +kernel
theorem d_Mo_judge_55 : decode c_Mo_judge 55 = .ok (.iload 4, 2) := by decide +kernel
theorem d_Mo_judge_57 : decode c_Mo_judge 57 = .ok (.iaload, 1) := by decide +kernel
theorem d_Mo_judge_58 : decode c_Mo_judge 58 = .ok (.invokevirtual 70, 3) := by decide +kernel
theorem d_Mo_judge_61 : decode c_Mo_judge 61 = .ok (.ifCond .eq 7, 3) := by decide +kernel
theorem d_Mo_judge_64 : decode c_Mo_judge 64 = .ok (.iconst 1, 1) := by decide +kernel
theorem d_Mo_judge_65 : decode c_Mo_judge 65 = .ok (.goto 4, 3) := by decide +kernel
theorem d_Mo_judge_68 : decode c_Mo_judge 68 = .ok (.iconst 0, 1) := by decide +kernel
theorem d_Mo_judge_69 : decode c_Mo_judge 69 = .ok (.istore 5, 2) := by decide +kernel
theorem d_Mo_judge_71 : decode c_Mo_judge 71 = .ok (.iload 5, 2) := by decide +kernel
theorem d_Mo_judge_73 : decode c_Mo_judge 73 = .ok (.ifCond .eq 27, 3) := by decide +kernel
theorem d_Mo_judge_76 : decode c_Mo_judge 76 = .ok (.aload_n 0, 1) := by decide +kernel
theorem d_Mo_judge_77 : decode c_Mo_judge 77 = .ok (.getfield 63, 3) := by decide +kernel
theorem d_Mo_judge_80 : decode c_Mo_judge 80 = .ok (.aload_n 0, 1) := by decide +kernel
theorem d_Mo_judge_81 : decode c_Mo_judge 81 = .ok (.getfield 47, 3) := by decide +kernel
theorem d_Mo_judge_84 : decode c_Mo_judge 84 = .ok (.iload 4, 2) := by decide +kernel
theorem d_Mo_judge_86 : decode c_Mo_judge 86 = .ok (.iaload, 1) := by decide +kernel
theorem d_Mo_judge_87 : decode c_Mo_judge 87 = .ok (.aload_n 0, 1) := by decide +kernel
theorem d_Mo_judge_88 : decode c_Mo_judge 88 = .ok (.getfield 50, 3) := by decide +kernel
theorem d_Mo_judge_91 : decode c_Mo_judge 91 = .ok (.iload 4, 2) := by decide +kernel
theorem d_Mo_judge_93 : decode c_Mo_judge 93 = .ok (.iaload, 1) := by decide +kernel
theorem d_Mo_judge_94 : decode c_Mo_judge 94 = .ok (.invokestatic 74, 3) := by decide +kernel
theorem d_Mo_judge_97 : decode c_Mo_judge 97 = .ok (.goto 4, 3) := by decide +kernel
theorem d_Mo_judge_100 : decode c_Mo_judge 100 = .ok (.iconst 0, 1) := by decide +kernel
theorem d_Mo_judge_101 : decode c_Mo_judge 101 = .ok (.istore 6, 2) := by decide +kernel
theorem d_Mo_judge_103 : decode c_Mo_judge 103 = .ok (.iload 5, 2) := by decide +kernel
theorem d_Mo_judge_105 : decode c_Mo_judge 105 = .ok (.ifCond .eq 44, 3) := by decide +kernel
theorem d_Mo_judge_108 : decode c_Mo_judge 108 = .ok (.aload_n 0, 1) := by decide +kernel
theorem d_Mo_judge_109 : decode c_Mo_judge 109 = .ok (.getfield 53, 3) := by decide +kernel
theorem d_Mo_judge_112 : decode c_Mo_judge 112 = .ok (.iload 4, 2) := by decide +kernel
theorem d_Mo_judge_114 : decode c_Mo_judge 114 = .ok (.baload, 1) := by decide +kernel
theorem d_Mo_judge_115 : decode c_Mo_judge 115 = .ok (.ifCond .eq 18, 3) := by decide +kernel
theorem d_Mo_judge_118 : decode c_Mo_judge 118 = .ok (.aload_n 0, 1) := by decide +kernel
theorem d_Mo_judge_119 : decode c_Mo_judge 119 = .ok (.getfield 185, 3) := by decide +kernel
theorem d_Mo_judge_122 : decode c_Mo_judge 122 = .ok (.iload 6, 2) := by decide +kernel
theorem d_Mo_judge_124 : decode c_Mo_judge 124 = .ok (.invokestatic 78, 3) := by decide +kernel
theorem d_Mo_judge_127 : decode c_Mo_judge 127 = .ok (.ifCond .eq 18, 3) := by decide +kernel
theorem d_Mo_judge_130 : decode c_Mo_judge 130 = .ok (.goto 19, 3) := by decide +kernel
theorem d_Mo_judge_133 : decode c_Mo_judge 133 = .ok (.aload_n 0, 1) := by decide +kernel
theorem d_Mo_judge_134 : decode c_Mo_judge 134 = .ok (.getfield 188, 3) := by decide +kernel
theorem d_Mo_judge_137 : decode c_Mo_judge 137 = .ok (.iload 6, 2) := by decide +kernel
theorem d_Mo_judge_139 : decode c_Mo_judge 139 = .ok (.invokestatic 78, 3) := by decide +kernel
theorem d_Mo_judge_142 : decode c_Mo_judge 142 = .ok (.ifCond .ne 7, 3) := by decide +kernel
theorem d_Mo_judge_145 : decode c_Mo_judge 145 = .ok (.iconst 1, 1) := by decide +kernel
theorem d_Mo_judge_146 : decode c_Mo_judge 146 = .ok (.goto 4, 3) := by decide +kernel
theorem d_Mo_judge_149 : decode c_Mo_judge 149 = .ok (.iconst 0, 1) := by decide +kernel
theorem d_Mo_judge_150 : decode c_Mo_judge 150 = .ok (.istore 7, 2) := by decide +kernel
theorem d_Mo_judge_152 : decode c_Mo_judge 152 = .ok (.iload 7, 2) := by decide +kernel
theorem d_Mo_judge_154 : decode c_Mo_judge 154 = .ok (.ifCond .eq 7, 3) := by decide +kernel
theorem d_Mo_judge_157 : decode c_Mo_judge 157 = .ok (.iconst (-1), 1) := by decide +kernel
theorem d_Mo_judge_158 : decode c_Mo_judge 158 = .ok (.goto 5, 3) := by decide +kernel
theorem d_Mo_judge_161 : decode c_Mo_judge 161 = .ok (.iload 4, 2) := by decide +kernel
theorem d_Mo_judge_163 : decode c_Mo_judge 163 = .ok (.istore_n 3, 1) := by decide +kernel
theorem d_Mo_judge_164 : decode c_Mo_judge 164 = .ok (.iload 7, 2) := by decide +kernel
theorem d_Mo_judge_166 : decode c_Mo_judge 166 = .ok (.ifCond .ne 7, 3) := by decide +kernel
theorem d_Mo_judge_169 : decode c_Mo_judge 169 = .ok (.iload_n 2, 1) := by decide +kernel
theorem d_Mo_judge_170 : decode c_Mo_judge 170 = .ok (.goto 30, 3) := by decide +kernel
theorem d_Mo_judge_173 : decode c_Mo_judge 173 = .ok (.aload_n 0, 1) := by decide +kernel
theorem d_Mo_judge_174 : decode c_Mo_judge 174 = .ok (.getfield 53, 3) := by decide +kernel
theorem d_Mo_judge_177 : decode c_Mo_judge 177 = .ok (.iload 4, 2) := by decide +kernel
theorem d_Mo_judge_179 : decode c_Mo_judge 179 = .ok (.baload, 1) := by decide +kernel
theorem d_Mo_judge_180 : decode c_Mo_judge 180 = .ok (.ifCond .eq 12, 3) := by decide +kernel
theorem d_Mo_judge_183 : decode c_Mo_judge 183 = .ok (.iload_n 2, 1) := by decide +kernel
theorem d_Mo_judge_184 : decode c_Mo_judge 184 = .ok (.iconst 1, 1) := by decide +kernel
theorem d_Mo_judge_185 : decode c_Mo_judge 185 = .ok (.iload 6, 2) := by decide +kernel
theorem d_Mo_judge_187 : decode c_Mo_judge 187 = .ok (.ishl, 1) := by decide +kernel
theorem d_Mo_judge_188 : decode c_Mo_judge 188 = .ok (.ior, 1) := by decide +kernel
theorem d_Mo_judge_189 : decode c_Mo_judge 189 = .ok (.goto 11, 3) := by decide +kernel
theorem d_Mo_judge_192 : decode c_Mo_judge 192 = .ok (.iload_n 2, 1) := by decide +kernel
theorem d_Mo_judge_193 : decode c_Mo_judge 193 = .ok (.iconst 1, 1) := by decide +kernel
theorem d_Mo_judge_194 : decode c_Mo_judge 194 = .ok (.iload 6, 2) := by decide +kernel
theorem d_Mo_judge_196 : decode c_Mo_judge 196 = .ok (.ishl, 1) := by decide +kernel
theorem d_Mo_judge_197 : decode c_Mo_judge 197 = .ok (.iconst (-1), 1) := by decide +kernel
theorem d_Mo_judge_198 : decode c_Mo_judge 198 = .ok (.ixor, 1) := by decide +kernel
theorem d_Mo_judge_199 : decode c_Mo_judge 199 = .ok (.iand, 1) := by decide +kernel
theorem d_Mo_judge_200 : decode c_Mo_judge 200 = .ok (.istore_n 2, 1) := by decide +kernel
theorem d_Mo_judge_201 : decode c_Mo_judge 201 = .ok (.iinc 4 1, 3) := by decide +kernel
theorem d_Mo_judge_204 : decode c_Mo_judge 204 = .ok (.goto (-181), 3) := by decide +kernel
theorem d_Mo_judge_207 : decode c_Mo_judge 207 = .ok (.iload_n 1, 1) := by decide +kernel
theorem d_Mo_judge_208 : decode c_Mo_judge 208 = .ok (.ifCond .ne 7, 3) := by decide +kernel
theorem d_Mo_judge_211 : decode c_Mo_judge 211 = .ok (.iload_n 3, 1) := by decide +kernel
theorem d_Mo_judge_212 : decode c_Mo_judge 212 = .ok (.goto 12, 3) := by decide +kernel
theorem d_Mo_judge_215 : decode c_Mo_judge 215 = .ok (.aload_n 0, 1) := by decide +kernel
theorem d_Mo_judge_216 : decode c_Mo_judge 216 = .ok (.aload_n 0, 1) := by decide +kernel
theorem d_Mo_judge_217 : decode c_Mo_judge 217 = .ok (.getfield 63, 3) := by decide +kernel
theorem d_Mo_judge_220 : decode c_Mo_judge 220 = .ok (.iload_n 2, 1) := by decide +kernel
theorem d_Mo_judge_221 : decode c_Mo_judge 221 = .ok (.invokevirtual 200, 3) := by decide +kernel
theorem d_Mo_judge_224 : decode c_Mo_judge 224 = .ok (.ireturn, 1) := by decide +kernel
theorem d_Mo_draw_0 : decode c_Mo_draw 0 = .ok (.aload_n 0, 1) := by decide +kernel
theorem d_Mo_draw_1 : decode c_Mo_draw 1 = .ok (.aload_n 0, 1) := by decide +kernel
theorem d_Mo_draw_2 : decode c_Mo_draw 2 = .ok (.getfield 289, 3) := by decide +kernel
theorem d_Mo_draw_5 : decode c_Mo_draw 5 = .ok (.i2l, 1) := by decide +kernel
theorem d_Mo_draw_6 : decode c_Mo_draw 6 = .ok (.ldc2_w 292, 3) := by decide +kernel
theorem d_Mo_draw_9 : decode c_Mo_draw 9 = .ok (.lmul, 1) := by decide +kernel
theorem d_Mo_draw_10 : decode c_Mo_draw 10 = .ok (.ldc2_w 294, 3) := by decide +kernel
theorem d_Mo_draw_13 : decode c_Mo_draw 13 = .ok (.ladd, 1) := by decide +kernel
theorem d_Mo_draw_14 : decode c_Mo_draw 14 = .ok (.ldc2_w 296, 3) := by decide +kernel
theorem d_Mo_draw_17 : decode c_Mo_draw 17 = .ok (.lrem, 1) := by decide +kernel
theorem d_Mo_draw_18 : decode c_Mo_draw 18 = .ok (.l2i, 1) := by decide +kernel
theorem d_Mo_draw_19 : decode c_Mo_draw 19 = .ok (.putfield 289, 3) := by decide +kernel
theorem d_Mo_draw_22 : decode c_Mo_draw 22 = .ok (.aload_n 0, 1) := by decide +kernel
theorem d_Mo_draw_23 : decode c_Mo_draw 23 = .ok (.getfield 289, 3) := by decide +kernel
theorem d_Mo_draw_26 : decode c_Mo_draw 26 = .ok (.ldc_w 298, 3) := by decide +kernel
theorem d_Mo_draw_29 : decode c_Mo_draw 29 = .ok (.idiv, 1) := by decide +kernel
theorem d_Mo_draw_30 : decode c_Mo_draw 30 = .ok (.iload_n 1, 1) := by decide +kernel
theorem d_Mo_draw_31 : decode c_Mo_draw 31 = .ok (.irem, 1) := by decide +kernel
theorem d_Mo_draw_32 : decode c_Mo_draw 32 = .ok (.ireturn, 1) := by decide +kernel
theorem d_Mo_weekNow_0 : decode c_Mo_weekNow 0 = .ok (.aload_n 0, 1) := by decide +kernel
theorem d_Mo_weekNow_1 : decode c_Mo_weekNow 1 = .ok (.bipush 8, 2) := by decide +kernel
theorem d_Mo_weekNow_3 : decode c_Mo_weekNow 3 = .ok (.invokevirtual 299, 3) := by decide +kernel
theorem d_Mo_weekNow_6 : decode c_Mo_weekNow 6 = .ok (.istore_n 1, 1) := by decide +kernel
theorem d_Mo_weekNow_7 : decode c_Mo_weekNow 7 = .ok (.iload_n 1, 1) := by decide +kernel
theorem d_Mo_weekNow_8 : decode c_Mo_weekNow 8 = .ok (.ifCond .ne 11, 3) := by decide +kernel
theorem d_Mo_weekNow_11 : decode c_Mo_weekNow 11 = .ok (.aload_n 0, 1) := by decide +kernel
theorem d_Mo_weekNow_12 : decode c_Mo_weekNow 12 = .ok (.invokevirtual 302, 3) := by decide +kernel
theorem d_Mo_weekNow_15 : decode c_Mo_weekNow 15 = .ok (.istore_n 2, 1) := by decide +kernel
theorem d_Mo_weekNow_16 : decode c_Mo_weekNow 16 = .ok (.goto 123, 3) := by decide +kernel
theorem d_Mo_weekNow_19 : decode c_Mo_weekNow 19 = .ok (.iload_n 1, 1) := by decide +kernel
theorem d_Mo_weekNow_20 : decode c_Mo_weekNow 20 = .ok (.iconst 1, 1) := by decide +kernel
theorem d_Mo_weekNow_21 : decode c_Mo_weekNow 21 = .ok (.if_icmp .ne 31, 3) := by decide +kernel
theorem d_Mo_weekNow_24 : decode c_Mo_weekNow 24 = .ok (.aload_n 0, 1) := by decide +kernel
theorem d_Mo_weekNow_25 : decode c_Mo_weekNow 25 = .ok (.getfield 63, 3) := by decide +kernel
theorem d_Mo_weekNow_28 : decode c_Mo_weekNow 28 = .ok (.iconst 1, 1) := by decide +kernel
theorem d_Mo_weekNow_29 : decode c_Mo_weekNow 29 = .ok (.if_icmp .le 18, 3) := by decide +kernel
theorem d_Mo_weekNow_32 : decode c_Mo_weekNow 32 = .ok (.aload_n 0, 1) := by decide +kernel
theorem d_Mo_weekNow_33 : decode c_Mo_weekNow 33 = .ok (.aload_n 0, 1) := by decide +kernel
theorem d_Mo_weekNow_34 : decode c_Mo_weekNow 34 = .ok (.aload_n 0, 1) := by decide +kernel
theorem d_Mo_weekNow_35 : decode c_Mo_weekNow 35 = .ok (.getfield 63, 3) := by decide +kernel
theorem d_Mo_weekNow_38 : decode c_Mo_weekNow 38 = .ok (.invokevirtual 299, 3) := by decide +kernel
theorem d_Mo_weekNow_41 : decode c_Mo_weekNow 41 = .ok (.invokevirtual 305, 3) := by decide +kernel
theorem d_Mo_weekNow_44 : decode c_Mo_weekNow 44 = .ok (.goto 4, 3) := by decide +kernel
theorem d_Mo_weekNow_47 : decode c_Mo_weekNow 47 = .ok (.iconst 0, 1) := by decide +kernel
theorem d_Mo_weekNow_48 : decode c_Mo_weekNow 48 = .ok (.istore_n 2, 1) := by decide +kernel
theorem d_Mo_weekNow_49 : decode c_Mo_weekNow 49 = .ok (.goto 90, 3) := by decide +kernel
theorem d_Mo_weekNow_52 : decode c_Mo_weekNow 52 = .ok (.aload_n 0, 1) := by decide +kernel
theorem d_Mo_weekNow_53 : decode c_Mo_weekNow 53 = .ok (.getfield 63, 3) := by decide +kernel
theorem d_Mo_weekNow_56 : decode c_Mo_weekNow 56 = .ok (.iconst 1, 1) := by decide +kernel
theorem d_Mo_weekNow_57 : decode c_Mo_weekNow 57 = .ok (.if_icmp .le 82, 3) := by decide +kernel
theorem d_Mo_weekNow_60 : decode c_Mo_weekNow 60 = .ok (.aload_n 0, 1) := by decide +kernel
theorem d_Mo_weekNow_61 : decode c_Mo_weekNow 61 = .ok (.aload_n 0, 1) := by decide +kernel
theorem d_Mo_weekNow_62 : decode c_Mo_weekNow 62 = .ok (.getfield 63, 3) := by decide +kernel
theorem d_Mo_weekNow_65 : decode c_Mo_weekNow 65 = .ok (.invokestatic 254, 3) := by decide +kernel
theorem d_Mo_weekNow_68 : decode c_Mo_weekNow 68 = .ok (.invokevirtual 299, 3) := by decide +kernel
theorem d_Mo_weekNow_71 : decode c_Mo_weekNow 71 = .ok (.istore_n 2, 1) := by decide +kernel
theorem d_Mo_weekNow_72 : decode c_Mo_weekNow 72 = .ok (.aload_n 0, 1) := by decide +kernel
theorem d_Mo_weekNow_73 : decode c_Mo_weekNow 73 = .ok (.getfield 86, 3) := by decide +kernel
theorem d_Mo_weekNow_76 : decode c_Mo_weekNow 76 = .ok (.iload_n 2, 1) := by decide +kernel
theorem d_Mo_weekNow_77 : decode c_Mo_weekNow 77 = .ok (.invokestatic 78, 3) := by decide +kernel
theorem d_Mo_weekNow_80 : decode c_Mo_weekNow 80 = .ok (.ifCond .eq 22, 3) := by decide +kernel
theorem d_Mo_weekNow_83 : decode c_Mo_weekNow 83 = .ok (.aload_n 0, 1) := by decide +kernel
theorem d_Mo_weekNow_84 : decode c_Mo_weekNow 84 = .ok (.getfield 188, 3) := by decide +kernel
theorem d_Mo_weekNow_87 : decode c_Mo_weekNow 87 = .ok (.iload_n 2, 1) := by decide +kernel
theorem d_Mo_weekNow_88 : decode c_Mo_weekNow 88 = .ok (.invokestatic 78, 3) := by decide +kernel
theorem d_Mo_weekNow_91 : decode c_Mo_weekNow 91 = .ok (.ifCond .ne 7, 3) := by decide +kernel
theorem d_Mo_weekNow_94 : decode c_Mo_weekNow 94 = .ok (.iconst 1, 1) := by decide +kernel
theorem d_Mo_weekNow_95 : decode c_Mo_weekNow 95 = .ok (.goto 23, 3) := by decide +kernel
theorem d_Mo_weekNow_98 : decode c_Mo_weekNow 98 = .ok (.iconst 0, 1) := by decide +kernel
theorem d_Mo_weekNow_99 : decode c_Mo_weekNow 99 = .ok (.goto 19, 3) := by decide +kernel
theorem d_Mo_weekNow_102 : decode c_Mo_weekNow 102 = .ok (.aload_n 0, 1) := by decide +kernel
theorem d_Mo_weekNow_103 : decode c_Mo_weekNow 103 = .ok (.getfield 185, 3) := by decide +kernel
theorem d_Mo_weekNow_106 : decode c_Mo_weekNow 106 = .ok (.iload_n 2, 1) := by decide +kernel
theorem d_Mo_weekNow_107 : decode c_Mo_weekNow 107 = .ok (.invokestatic 78, 3) := by decide +kernel
theorem d_Mo_weekNow_110 : decode c_Mo_weekNow 110 = .ok (.ifCond .ne 7, 3) := by decide +kernel
theorem d_Mo_weekNow_113 : decode c_Mo_weekNow 113 = .ok (.iconst 1, 1) := by decide +kernel
theorem d_Mo_weekNow_114 : decode c_Mo_weekNow 114 = .ok (.goto 4, 3) := by decide +kernel
theorem d_Mo_weekNow_117 : decode c_Mo_weekNow 117 = .ok (.iconst 0, 1) := by decide +kernel
theorem d_Mo_weekNow_118 : decode c_Mo_weekNow 118 = .ok (.istore_n 3, 1) := by decide +kernel
theorem d_Mo_weekNow_119 : decode c_Mo_weekNow 119 = .ok (.aload_n 0, 1) := by decide +kernel
theorem d_Mo_weekNow_120 : decode c_Mo_weekNow 120 = .ok (.dup, 1) := by decide +kernel
theorem d_Mo_weekNow_121 : decode c_Mo_weekNow 121 = .ok (.getfield 86, 3) := by decide +kernel
theorem d_Mo_weekNow_124 : decode c_Mo_weekNow 124 = .ok (.iload_n 3, 1) := by decide +kernel
theorem d_Mo_weekNow_125 : decode c_Mo_weekNow 125 = .ok (.ifCond .eq 9, 3) := by decide +kernel
theorem d_Mo_weekNow_128 : decode c_Mo_weekNow 128 = .ok (.iconst 1, 1) := by decide +kernel
theorem d_Mo_weekNow_129 : decode c_Mo_weekNow 129 = .ok (.iload_n 2, 1) := by decide +kernel
theorem d_Mo_weekNow_130 : decode c_Mo_weekNow 130 = .ok (.ishl, 1) := by decide +kernel
theorem d_Mo_weekNow_131 : decode c_Mo_weekNow 131 = .ok (.goto 4, 3) := by decide +kernel
theorem d_Mo_weekNow_134 : decode c_Mo_weekNow 134 = .ok (.iconst 0, 1) := by decide +kernel
theorem d_Mo_weekNow_135 : decode c_Mo_weekNow 135 = .ok (.ixor, 1) := by decide +kernel
theorem d_Mo_weekNow_136 : decode c_Mo_weekNow 136 = .ok (.putfield 86, 3) := by decide +kernel
theorem d_Mo_weekNow_139 : decode c_Mo_weekNow 139 = .ok (.return_, 1) := by decide +kernel
theorem d_Mo_drift_0 : decode c_Mo_drift 0 = .ok (.iload_n 1, 1) := by decide +kernel
theorem d_Mo_drift_1 : decode c_Mo_drift 1 = .ok (.i2l, 1) := by decide +kernel
theorem d_Mo_drift_2 : decode c_Mo_drift 2 = .ok (.lconst 1, 1) := by decide +kernel
theorem d_Mo_drift_3 : decode c_Mo_drift 3 = .ok (.ldc2_w 308, 3) := by decide +kernel
theorem d_Mo_drift_6 : decode c_Mo_drift 6 = .ok (.invokestatic 66, 3) := by decide +kernel
theorem d_Mo_drift_9 : decode c_Mo_drift 9 = .ok (.ifCond .ne 6, 3) := by decide +kernel
theorem d_Mo_drift_12 : decode c_Mo_drift 12 = .ok (.ldc 94, 2) := by decide +kernel
theorem d_Mo_drift_14 : decode c_Mo_drift 14 = .ok (.ireturn, 1) := by decide +kernel
theorem d_Mo_drift_15 : decode c_Mo_drift 15 = .ok (.aload_n 0, 1) := by decide +kernel
theorem d_Mo_drift_16 : decode c_Mo_drift 16 = .ok (.getfield 63, 3) := by decide +kernel
theorem d_Mo_drift_19 : decode c_Mo_drift 19 = .ok (.ifCond .ne 6, 3) := by decide +kernel
theorem d_Mo_drift_22 : decode c_Mo_drift 22 = .ok (.ldc 210, 2) := by decide +kernel
theorem d_Mo_drift_24 : decode c_Mo_drift 24 = .ok (.ireturn, 1) := by decide +kernel
theorem d_Mo_drift_25 : decode c_Mo_drift 25 = .ok (.iconst 0, 1) := by decide +kernel
theorem d_Mo_drift_26 : decode c_Mo_drift 26 = .ok (.istore_n 2, 1) := by decide +kernel
theorem d_Mo_drift_27 : decode c_Mo_drift 27 = .ok (.iload_n 2, 1) := by decide +kernel
theorem d_Mo_drift_28 : decode c_Mo_drift 28 = .ok (.iload_n 1, 1) := by decide +kernel
theorem d_Mo_drift_29 : decode c_Mo_drift 29 = .ok (.if_icmp .ge 13, 3) := by decide +kernel
theorem d_Mo_drift_32 : decode c_Mo_drift 32 = .ok (.aload_n 0, 1) := by decide +kernel
theorem d_Mo_drift_33 : decode c_Mo_drift 33 = .ok (.invokevirtual 310, 3) := by decide +kernel
theorem d_Mo_drift_36 : decode c_Mo_drift 36 = .ok (.iinc 2 1, 3) := by decide +kernel
theorem d_Mo_drift_39 : decode c_Mo_drift 39 = .ok (.goto (-12), 3) := by decide +kernel
theorem d_Mo_drift_42 : decode c_Mo_drift 42 = .ok (.aload_n 0, 1) := by decide +kernel
theorem d_Mo_drift_43 : decode c_Mo_drift 43 = .ok (.getfield 86, 3) := by decide +kernel
theorem d_Mo_drift_46 : decode c_Mo_drift 46 = .ok (.ireturn, 1) := by decide +kernel
theorem d_Mo_seed_0 : decode c_Mo_seed 0 = .ok (.iload_n 1, 1) := by decide +kernel
theorem d_Mo_seed_1 : decode c_Mo_seed 1 = .ok (.ifCond .ge 6, 3) := by decide +kernel
theorem d_Mo_seed_4 : decode c_Mo_seed 4 = .ok (.ldc 94, 2) := by decide +kernel
theorem d_Mo_seed_6 : decode c_Mo_seed 6 = .ok (.ireturn, 1) := by decide +kernel
theorem d_Mo_seed_7 : decode c_Mo_seed 7 = .ok (.aload_n 0, 1) := by decide +kernel
theorem d_Mo_seed_8 : decode c_Mo_seed 8 = .ok (.getfield 289, 3) := by decide +kernel
theorem d_Mo_seed_11 : decode c_Mo_seed 11 = .ok (.istore_n 2, 1) := by decide +kernel
theorem d_Mo_seed_12 : decode c_Mo_seed 12 = .ok (.aload_n 0, 1) := by decide +kernel
theorem d_Mo_seed_13 : decode c_Mo_seed 13 = .ok (.iload_n 1, 1) := by decide +kernel
theorem d_Mo_seed_14 : decode c_Mo_seed 14 = .ok (.putfield 289, 3) := by decide +kernel
theorem d_Mo_seed_17 : decode c_Mo_seed 17 = .ok (.iload_n 2, 1) := by decide +kernel
theorem d_Mo_seed_18 : decode c_Mo_seed 18 = .ok (.ireturn, 1) := by decide +kernel
theorem d_Mo_keep_0 : decode c_Mo_keep 0 = .ok (.iload_n 1, 1) := by decide +kernel
theorem d_Mo_keep_1 : decode c_Mo_keep 1 = .ok (.i2l, 1) := by decide +kernel
theorem d_Mo_keep_2 : decode c_Mo_keep 2 = .ok (.lconst 0, 1) := by decide +kernel
theorem d_Mo_keep_3 : decode c_Mo_keep 3 = .ok (.lconst 1, 1) := by decide +kernel
theorem d_Mo_keep_4 : decode c_Mo_keep 4 = .ok (.invokestatic 66, 3) := by decide +kernel
theorem d_Mo_keep_7 : decode c_Mo_keep 7 = .ok (.ifCond .ne 6, 3) := by decide +kernel
theorem d_Mo_keep_10 : decode c_Mo_keep 10 = .ok (.ldc 203, 2) := by decide +kernel
theorem d_Mo_keep_12 : decode c_Mo_keep 12 = .ok (.ireturn, 1) := by decide +kernel
theorem d_Mo_keep_13 : decode c_Mo_keep 13 = .ok (.bipush 20, 2) := by decide +kernel
theorem d_Mo_keep_15 : decode c_Mo_keep 15 = .ok (.iload_n 1, 1) := by decide +kernel
theorem d_Mo_keep_16 : decode c_Mo_keep 16 = .ok (.imul, 1) := by decide +kernel
theorem d_Mo_keep_17 : decode c_Mo_keep 17 = .ok (.istore_n 2, 1) := by decide +kernel
theorem d_Mo_keep_18 : decode c_Mo_keep 18 = .ok (.aload_n 0, 1) := by decide +kernel
theorem d_Mo_keep_19 : decode c_Mo_keep 19 = .ok (.getfield 57, 3) := by decide +kernel
theorem d_Mo_keep_22 : decode c_Mo_keep 22 = .ok (.iload_n 2, 1) := by decide +kernel
theorem d_Mo_keep_23 : decode c_Mo_keep 23 = .ok (.aload_n 0, 1) := by decide +kernel
theorem d_Mo_keep_24 : decode c_Mo_keep 24 = .ok (.getfield 63, 3) := by decide +kernel
theorem d_Mo_keep_27 : decode c_Mo_keep 27 = .ok (.iastore, 1) := by decide +kernel
theorem d_Mo_keep_28 : decode c_Mo_keep 28 = .ok (.aload_n 0, 1) := by decide +kernel
theorem d_Mo_keep_29 : decode c_Mo_keep 29 = .ok (.getfield 57, 3) := by decide +kernel
theorem d_Mo_keep_32 : decode c_Mo_keep 32 = .ok (.iload_n 2, 1) := by decide +kernel
theorem d_Mo_keep_33 : decode c_Mo_keep 33 = .ok (.iconst 1, 1) := by decide +kernel
theorem d_Mo_keep_34 : decode c_Mo_keep 34 = .ok (.iadd, 1) := by decide +kernel
theorem d_Mo_keep_35 : decode c_Mo_keep 35 = .ok (.aload_n 0, 1) := by decide +kernel
theorem d_Mo_keep_36 : decode c_Mo_keep 36 = .ok (.getfield 86, 3) := by decide +kernel
theorem d_Mo_keep_39 : decode c_Mo_keep 39 = .ok (.iastore, 1) := by decide +kernel
theorem d_Mo_keep_40 : decode c_Mo_keep 40 = .ok (.aload_n 0, 1) := by decide +kernel
theorem d_Mo_keep_41 : decode c_Mo_keep 41 = .ok (.getfield 57, 3) := by decide +kernel
theorem d_Mo_keep_44 : decode c_Mo_keep 44 = .ok (.iload_n 2, 1) := by decide +kernel
theorem d_Mo_keep_45 : decode c_Mo_keep 45 = .ok (.iconst 2, 1) := by decide +kernel
theorem d_Mo_keep_46 : decode c_Mo_keep 46 = .ok (.iadd, 1) := by decide +kernel
theorem d_Mo_keep_47 : decode c_Mo_keep 47 = .ok (.aload_n 0, 1) := by decide +kernel
theorem d_Mo_keep_48 : decode c_Mo_keep 48 = .ok (.getfield 185, 3) := by decide +kernel
theorem d_Mo_keep_51 : decode c_Mo_keep 51 = .ok (.iastore, 1) := by decide +kernel
theorem d_Mo_keep_52 : decode c_Mo_keep 52 = .ok (.aload_n 0, 1) := by decide +kernel
theorem d_Mo_keep_53 : decode c_Mo_keep 53 = .ok (.getfield 57, 3) := by decide +kernel
theorem d_Mo_keep_56 : decode c_Mo_keep 56 = .ok (.iload_n 2, 1) := by decide +kernel
theorem d_Mo_keep_57 : decode c_Mo_keep 57 = .ok (.iconst 3, 1) := by decide +kernel
theorem d_Mo_keep_58 : decode c_Mo_keep 58 = .ok (.iadd, 1) := by decide +kernel
theorem d_Mo_keep_59 : decode c_Mo_keep 59 = .ok (.aload_n 0, 1) := by decide +kernel
theorem d_Mo_keep_60 : decode c_Mo_keep 60 = .ok (.getfield 188, 3) := by decide +kernel
theorem d_Mo_keep_63 : decode c_Mo_keep 63 = .ok (.iastore, 1) := by decide +kernel
theorem d_Mo_keep_64 : decode c_Mo_keep 64 = .ok (.aload_n 0, 1) := by decide +kernel
theorem d_Mo_keep_65 : decode c_Mo_keep 65 = .ok (.getfield 57, 3) := by decide +kernel
theorem d_Mo_keep_68 : decode c_Mo_keep 68 = .ok (.iload_n 2, 1) := by decide +kernel
theorem d_Mo_keep_69 : decode c_Mo_keep 69 = .ok (.iconst 4, 1) := by decide +kernel
theorem d_Mo_keep_70 : decode c_Mo_keep 70 = .ok (.iadd, 1) := by decide +kernel
theorem d_Mo_keep_71 : decode c_Mo_keep 71 = .ok (.aload_n 0, 1) := by decide +kernel
theorem d_Mo_keep_72 : decode c_Mo_keep 72 = .ok (.getfield 289, 3) := by decide +kernel
theorem d_Mo_keep_75 : decode c_Mo_keep 75 = .ok (.iastore, 1) := by decide +kernel
theorem d_Mo_keep_76 : decode c_Mo_keep 76 = .ok (.iconst 0, 1) := by decide +kernel
theorem d_Mo_keep_77 : decode c_Mo_keep 77 = .ok (.istore_n 3, 1) := by decide +kernel
theorem d_Mo_keep_78 : decode c_Mo_keep 78 = .ok (.iload_n 3, 1) := by decide +kernel
theorem d_Mo_keep_79 : decode c_Mo_keep 79 = .ok (.bipush 8, 2) := by decide +kernel
theorem d_Mo_keep_81 : decode c_Mo_keep 81 = .ok (.if_icmp .ge 25, 3) := by decide +kernel
theorem d_Mo_keep_84 : decode c_Mo_keep 84 = .ok (.aload_n 0, 1) := by decide +kernel
theorem d_Mo_keep_85 : decode c_Mo_keep 85 = .ok (.getfield 57, 3) := by decide +kernel
theorem d_Mo_keep_88 : decode c_Mo_keep 88 = .ok (.iload_n 2, 1) := by decide +kernel
theorem d_Mo_keep_89 : decode c_Mo_keep 89 = .ok (.iconst 5, 1) := by decide +kernel
theorem d_Mo_keep_90 : decode c_Mo_keep 90 = .ok (.iadd, 1) := by decide +kernel
theorem d_Mo_keep_91 : decode c_Mo_keep 91 = .ok (.iload_n 3, 1) := by decide +kernel
theorem d_Mo_keep_92 : decode c_Mo_keep 92 = .ok (.iadd, 1) := by decide +kernel
theorem d_Mo_keep_93 : decode c_Mo_keep 93 = .ok (.aload_n 0, 1) := by decide +kernel
theorem d_Mo_keep_94 : decode c_Mo_keep 94 = .ok (.getfield 16, 3) := by decide +kernel
theorem d_Mo_keep_97 : decode c_Mo_keep 97 = .ok (.iload_n 3, 1) := by decide +kernel
theorem d_Mo_keep_98 : decode c_Mo_keep 98 = .ok (.iaload, 1) := by decide +kernel
theorem d_Mo_keep_99 : decode c_Mo_keep 99 = .ok (.iastore, 1) := by decide +kernel
theorem d_Mo_keep_100 : decode c_Mo_keep 100 = .ok (.iinc 3 1, 3) := by decide +kernel
theorem d_Mo_keep_103 : decode c_Mo_keep 103 = .ok (.goto (-25), 3) := by decide +kernel
theorem d_Mo_keep_106 : decode c_Mo_keep 106 = .ok (.aload_n 0, 1) := by decide +kernel
theorem d_Mo_keep_107 : decode c_Mo_keep 107 = .ok (.getfield 60, 3) := by decide +kernel
theorem d_Mo_keep_110 : decode c_Mo_keep 110 = .ok (.iload_n 1, 1) := by decide +kernel
theorem d_Mo_keep_111 : decode c_Mo_keep 111 = .ok (.iconst 1, 1) := by decide +kernel
theorem d_Mo_keep_112 : decode c_Mo_keep 112 = .ok (.bastore, 1) := by decide +kernel
theorem d_Mo_keep_113 : decode c_Mo_keep 113 = .ok (.iconst 1, 1) := by decide +kernel
theorem d_Mo_keep_114 : decode c_Mo_keep 114 = .ok (.ireturn, 1) := by decide +kernel
theorem d_Mo_goBack_0 : decode c_Mo_goBack 0 = .ok (.iload_n 1, 1) := by decide +kernel
theorem d_Mo_goBack_1 : decode c_Mo_goBack 1 = .ok (.i2l, 1) := by decide +kernel
theorem d_Mo_goBack_2 : decode c_Mo_goBack 2 = .ok (.lconst 0, 1) := by decide +kernel
theorem d_Mo_goBack_3 : decode c_Mo_goBack 3 = .ok (.lconst 1, 1) := by decide +kernel
theorem d_Mo_goBack_4 : decode c_Mo_goBack 4 = .ok (.invokestatic 66, 3) := by decide +kernel
theorem d_Mo_goBack_7 : decode c_Mo_goBack 7 = .ok (.ifCond .ne 6, 3) := by decide +kernel
theorem d_Mo_goBack_10 : decode c_Mo_goBack 10 = .ok (.ldc 203, 2) := by decide +kernel
theorem d_Mo_goBack_12 : decode c_Mo_goBack 12 = .ok (.ireturn, 1) := by decide +kernel
theorem d_Mo_goBack_13 : decode c_Mo_goBack 13 = .ok (.aload_n 0, 1) := by decide +kernel
theorem d_Mo_goBack_14 : decode c_Mo_goBack 14 = .ok (.getfield 60, 3) := by decide +kernel
theorem d_Mo_goBack_17 : decode c_Mo_goBack 17 = .ok (.iload_n 1, 1) := by decide +kernel
theorem d_Mo_goBack_18 : decode c_Mo_goBack 18 = .ok (.baload, 1) := by decide +kernel
theorem d_Mo_goBack_19 : decode c_Mo_goBack 19 = .ok (.ifCond .ne 6, 3) := by decide +kernel
theorem d_Mo_goBack_22 : decode c_Mo_goBack 22 = .ok (.ldc 210, 2) := by decide +kernel
theorem d_Mo_goBack_24 : decode c_Mo_goBack 24 = .ok (.ireturn, 1) := by decide +kernel
theorem d_Mo_goBack_25 : decode c_Mo_goBack 25 = .ok (.bipush 20, 2) := by decide +kernel
theorem d_Mo_goBack_27 : decode c_Mo_goBack 27 = .ok (.iload_n 1, 1) := by decide +kernel
theorem d_Mo_goBack_28 : decode c_Mo_goBack 28 = .ok (.imul, 1) := by decide +kernel
theorem d_Mo_goBack_29 : decode c_Mo_goBack 29 = .ok (.istore_n 2, 1) := by decide +kernel
theorem d_Mo_goBack_30 : decode c_Mo_goBack 30 = .ok (.aload_n 0, 1) := by decide +kernel
theorem d_Mo_goBack_31 : decode c_Mo_goBack 31 = .ok (.aload_n 0, 1) := by decide +kernel
theorem d_Mo_goBack_32 : decode c_Mo_goBack 32 = .ok (.getfield 57, 3) := by decide +kernel
theorem d_Mo_goBack_35 : decode c_Mo_goBack 35 = .ok (.iload_n 2, 1) := by decide +kernel
theorem d_Mo_goBack_36 : decode c_Mo_goBack 36 = .ok (.iaload, 1) := by decide +kernel
theorem d_Mo_goBack_37 : decode c_Mo_goBack 37 = .ok (.putfield 63, 3) := by decide +kernel
theorem d_Mo_goBack_40 : decode c_Mo_goBack 40 = .ok (.aload_n 0, 1) := by decide +kernel
theorem d_Mo_goBack_41 : decode c_Mo_goBack 41 = .ok (.aload_n 0, 1) := by decide +kernel
theorem d_Mo_goBack_42 : decode c_Mo_goBack 42 = .ok (.getfield 57, 3) := by decide +kernel
theorem d_Mo_goBack_45 : decode c_Mo_goBack 45 = .ok (.iload_n 2, 1) := by decide +kernel
theorem d_Mo_goBack_46 : decode c_Mo_goBack 46 = .ok (.iconst 1, 1) := by decide +kernel
theorem d_Mo_goBack_47 : decode c_Mo_goBack 47 = .ok (.iadd, 1) := by decide +kernel
theorem d_Mo_goBack_48 : decode c_Mo_goBack 48 = .ok (.iaload, 1) := by decide +kernel
theorem d_Mo_goBack_49 : decode c_Mo_goBack 49 = .ok (.putfield 86, 3) := by decide +kernel
theorem d_Mo_goBack_52 : decode c_Mo_goBack 52 = .ok (.aload_n 0, 1) := by decide +kernel
theorem d_Mo_goBack_53 : decode c_Mo_goBack 53 = .ok (.aload_n 0, 1) := by decide +kernel
theorem d_Mo_goBack_54 : decode c_Mo_goBack 54 = .ok (.getfield 57, 3) := by decide +kernel
theorem d_Mo_goBack_57 : decode c_Mo_goBack 57 = .ok (.iload_n 2, 1) := by decide +kernel
theorem d_Mo_goBack_58 : decode c_Mo_goBack 58 = .ok (.iconst 2, 1) := by decide +kernel
theorem d_Mo_goBack_59 : decode c_Mo_goBack 59 = .ok (.iadd, 1) := by decide +kernel
theorem d_Mo_goBack_60 : decode c_Mo_goBack 60 = .ok (.iaload, 1) := by decide +kernel
theorem d_Mo_goBack_61 : decode c_Mo_goBack 61 = .ok (.putfield 185, 3) := by decide +kernel
theorem d_Mo_goBack_64 : decode c_Mo_goBack 64 = .ok (.aload_n 0, 1) := by decide +kernel
theorem d_Mo_goBack_65 : decode c_Mo_goBack 65 = .ok (.aload_n 0, 1) := by decide +kernel
theorem d_Mo_goBack_66 : decode c_Mo_goBack 66 = .ok (.getfield 57, 3) := by decide +kernel
theorem d_Mo_goBack_69 : decode c_Mo_goBack 69 = .ok (.iload_n 2, 1) := by decide +kernel
theorem d_Mo_goBack_70 : decode c_Mo_goBack 70 = .ok (.iconst 3, 1) := by decide +kernel
theorem d_Mo_goBack_71 : decode c_Mo_goBack 71 = .ok (.iadd, 1) := by decide +kernel
theorem d_Mo_goBack_72 : decode c_Mo_goBack 72 = .ok (.iaload, 1) := by decide +kernel
theorem d_Mo_goBack_73 : decode c_Mo_goBack 73 = .ok (.putfield 188, 3) := by decide +kernel
theorem d_Mo_goBack_76 : decode c_Mo_goBack 76 = .ok (.aload_n 0, 1) := by decide +kernel
theorem d_Mo_goBack_77 : decode c_Mo_goBack 77 = .ok (.aload_n 0, 1) := by decide +kernel
theorem d_Mo_goBack_78 : decode c_Mo_goBack 78 = .ok (.getfield 57, 3) := by decide +kernel
theorem d_Mo_goBack_81 : decode c_Mo_goBack 81 = .ok (.iload_n 2, 1) := by decide +kernel
theorem d_Mo_goBack_82 : decode c_Mo_goBack 82 = .ok (.iconst 4, 1) := by decide +kernel
theorem d_Mo_goBack_83 : decode c_Mo_goBack 83 = .ok (.iadd, 1) := by decide +kernel
theorem d_Mo_goBack_84 : decode c_Mo_goBack 84 = .ok (.iaload, 1) := by decide +kernel
theorem d_Mo_goBack_85 : decode c_Mo_goBack 85 = .ok (.putfield 289, 3) := by decide +kernel
theorem d_Mo_goBack_88 : decode c_Mo_goBack 88 = .ok (.iconst 0, 1) := by decide +kernel
theorem d_Mo_goBack_89 : decode c_Mo_goBack 89 = .ok (.istore_n 3, 1) := by decide +kernel
theorem d_Mo_goBack_90 : decode c_Mo_goBack 90 = .ok (.iload_n 3, 1) := by decide +kernel
theorem d_Mo_goBack_91 : decode c_Mo_goBack 91 = .ok (.bipush 8, 2) := by decide +kernel
theorem d_Mo_goBack_93 : decode c_Mo_goBack 93 = .ok (.if_icmp .ge 25, 3) := by decide +kernel
theorem d_Mo_goBack_96 : decode c_Mo_goBack 96 = .ok (.aload_n 0, 1) := by decide +kernel
theorem d_Mo_goBack_97 : decode c_Mo_goBack 97 = .ok (.getfield 16, 3) := by decide +kernel
theorem d_Mo_goBack_100 : decode c_Mo_goBack 100 = .ok (.iload_n 3, 1) := by decide +kernel
theorem d_Mo_goBack_101 : decode c_Mo_goBack 101 = .ok (.aload_n 0, 1) := by decide +kernel
theorem d_Mo_goBack_102 : decode c_Mo_goBack 102 = .ok (.getfield 57, 3) := by decide +kernel
theorem d_Mo_goBack_105 : decode c_Mo_goBack 105 = .ok (.iload_n 2, 1) := by decide +kernel
theorem d_Mo_goBack_106 : decode c_Mo_goBack 106 = .ok (.iconst 5, 1) := by decide +kernel
theorem d_Mo_goBack_107 : decode c_Mo_goBack 107 = .ok (.iadd, 1) := by decide +kernel
theorem d_Mo_goBack_108 : decode c_Mo_goBack 108 = .ok (.iload_n 3, 1) := by decide +kernel
theorem d_Mo_goBack_109 : decode c_Mo_goBack 109 = .ok (.iadd, 1) := by decide +kernel
theorem d_Mo_goBack_110 : decode c_Mo_goBack 110 = .ok (.iaload, 1) := by decide +kernel
theorem d_Mo_goBack_111 : decode c_Mo_goBack 111 = .ok (.iastore, 1) := by decide +kernel
theorem d_Mo_goBack_112 : decode c_Mo_goBack 112 = .ok (.iinc 3 1, 3) := by decide +kernel
theorem d_Mo_goBack_115 : decode c_Mo_goBack 115 = .ok (.goto (-25), 3) := by decide +kernel
theorem d_Mo_goBack_118 : decode c_Mo_goBack 118 = .ok (.iconst 1, 1) := by decide +kernel
theorem d_Mo_goBack_119 : decode c_Mo_goBack 119 = .ok (.ireturn, 1) := by decide +kernel

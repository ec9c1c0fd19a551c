theorem d_Bk_init_0 : decode c_Bk_init 0 = .ok (.aload_n 0, 1) := by decide +kernel
theorem d_Bk_init_1 : decode c_Bk_init 1 = .ok (.invokespecial 3, 3) := by decide +kernel
theorem d_Bk_init_4 : decode c_Bk_init 4 = .ok (.aload_n 0, 1) := by decide +kernel
theorem d_Bk_init_5 : decode c_Bk_init 5 = .ok (.bipush 30, 2) := by decide +kernel
theorem d_Bk_init_7 : decode c_Bk_init 7 = .ok (.newarray .int, 2) := by decide +kernel
theorem d_Bk_init_9 : decode c_Bk_init 9 = .ok (.putfield 9, 3) := by decide +kernel
theorem d_Bk_init_12 : decode c_Bk_init 12 = .ok (.aload_n 0, 1) := by decide +kernel
theorem d_Bk_init_13 : decode c_Bk_init 13 = .ok (.bipush 30, 2) := by decide +kernel
theorem d_Bk_init_15 : decode c_Bk_init 15 = .ok (.newarray .int, 2) := by decide +kernel
theorem d_Bk_init_17 : decode c_Bk_init 17 = .ok (.putfield 15, 3) := by decide +kernel
theorem d_Bk_init_20 : decode c_Bk_init 20 = .ok (.aload_n 0, 1) := by decide +kernel
theorem d_Bk_init_21 : decode c_Bk_init 21 = .ok (.bipush 30, 2) := by decide +kernel
theorem d_Bk_init_23 : decode c_Bk_init 23 = .ok (.newarray .boolean, 2) := by decide +kernel
theorem d_Bk_init_25 : decode c_Bk_init 25 = .ok (.putfield 18, 3) := by decide +kernel
theorem d_Bk_init_28 : decode c_Bk_init 28 = .ok (.return_, 1) := by decide +kernel
theorem d_Bk_empty_0 : decode c_Bk_empty 0 = .ok (.aload_n 0, 1) := by decide +kernel
theorem d_Bk_empty_1 : decode c_Bk_empty 1 = .ok (.iconst 0, 1) := by decide +kernel
theorem d_Bk_empty_2 : decode c_Bk_empty 2 = .ok (.putfield 22, 3) := by decide +kernel
theorem d_Bk_empty_5 : decode c_Bk_empty 5 = .ok (.return_, 1) := by decide +kernel
theorem d_Bk_add_0 : decode c_Bk_add 0 = .ok (.aload_n 0, 1) := by decide +kernel
theorem d_Bk_add_1 : decode c_Bk_add 1 = .ok (.getfield 22, 3) := by decide +kernel
theorem d_Bk_add_4 : decode c_Bk_add 4 = .ok (.bipush 30, 2) := by decide +kernel
theorem d_Bk_add_6 : decode c_Bk_add 6 = .ok (.if_icmp .ge 43, 3) := by decide +kernel
theorem d_Bk_add_9 : decode c_Bk_add 9 = .ok (.aload_n 0, 1) := by decide +kernel
theorem d_Bk_add_10 : decode c_Bk_add 10 = .ok (.getfield 9, 3) := by decide +kernel
theorem d_Bk_add_13 : decode c_Bk_add 13 = .ok (.aload_n 0, 1) := by decide +kernel
theorem d_Bk_add_14 : decode c_Bk_add 14 = .ok (.getfield 22, 3) := by decide +kernel
theorem d_Bk_add_17 : decode c_Bk_add 17 = .ok (.iload_n 1, 1) := by decide +kernel
theorem d_Bk_add_18 : decode c_Bk_add 18 = .ok (.iastore, 1) := by decide +kernel
theorem d_Bk_add_19 : decode c_Bk_add 19 = .ok (.aload_n 0, 1) := by decide +kernel
theorem d_Bk_add_20 : decode c_Bk_add 20 = .ok (.getfield 15, 3) := by decide +kernel
theorem d_Bk_add_23 : decode c_Bk_add 23 = .ok (.aload_n 0, 1) := by decide +kernel
theorem d_Bk_add_24 : decode c_Bk_add 24 = .ok (.getfield 22, 3) := by decide +kernel
theorem d_Bk_add_27 : decode c_Bk_add 27 = .ok (.iload_n 2, 1) := by decide +kernel
theorem d_Bk_add_28 : decode c_Bk_add 28 = .ok (.iastore, 1) := by decide +kernel
theorem d_Bk_add_29 : decode c_Bk_add 29 = .ok (.aload_n 0, 1) := by decide +kernel
theorem d_Bk_add_30 : decode c_Bk_add 30 = .ok (.getfield 18, 3) := by decide +kernel
theorem d_Bk_add_33 : decode c_Bk_add 33 = .ok (.aload_n 0, 1) := by decide +kernel
theorem d_Bk_add_34 : decode c_Bk_add 34 = .ok (.getfield 22, 3) := by decide +kernel
theorem d_Bk_add_37 : decode c_Bk_add 37 = .ok (.iload_n 3, 1) := by decide +kernel
theorem d_Bk_add_38 : decode c_Bk_add 38 = .ok (.bastore, 1) := by decide +kernel
theorem d_Bk_add_39 : decode c_Bk_add 39 = .ok (.aload_n 0, 1) := by decide +kernel
theorem d_Bk_add_40 : decode c_Bk_add 40 = .ok (.dup, 1) := by decide +kernel
theorem d_Bk_add_41 : decode c_Bk_add 41 = .ok (.getfield 22, 3) := by decide +kernel
theorem d_Bk_add_44 : decode c_Bk_add 44 = .ok (.iconst 1, 1) := by decide +kernel
theorem d_Bk_add_45 : decode c_Bk_add 45 = .ok (.iadd, 1) := by decide +kernel
theorem d_Bk_add_46 : decode c_Bk_add 46 = .ok (.putfield 22, 3) := by decide +kernel
theorem d_Bk_add_49 : decode c_Bk_add 49 = .ok (.return_, 1) := by decide +kernel
theorem d_Bk_tryOn_0 : decode c_Bk_tryOn 0 = .ok (.iconst 0, 1) := by decide +kernel
theorem d_Bk_tryOn_1 : decode c_Bk_tryOn 1 = .ok (.istore_n 2, 1) := by decide +kernel
theorem d_Bk_tryOn_2 : decode c_Bk_tryOn 2 = .ok (.iload_n 2, 1) := by decide +kernel
theorem d_Bk_tryOn_3 : decode c_Bk_tryOn 3 = .ok (.aload_n 0, 1) := by decide +kernel
theorem d_Bk_tryOn_4 : decode c_Bk_tryOn 4 = .ok (.getfield 22, 3) := by decide +kernel
theorem d_Bk_tryOn_7 : decode c_Bk_tryOn 7 = .ok (.if_icmp .ge 69, 3) := by decide +kernel
theorem d_Bk_tryOn_10 : decode c_Bk_tryOn 10 = .ok (.aload_n 0, 1) := by decide +kernel
theorem d_Bk_tryOn_11 : decode c_Bk_tryOn 11 = .ok (.getfield 9, 3) := by decide +kernel
theorem d_Bk_tryOn_14 : decode c_Bk_tryOn 14 = .ok (.iload_n 2, 1) := by decide +kernel
theorem d_Bk_tryOn_15 : decode c_Bk_tryOn 15 = .ok (.iaload, 1) := by decide +kernel
theorem d_Bk_tryOn_16 : decode c_Bk_tryOn 16 = .ok (.istore_n 3, 1) := by decide +kernel
theorem d_Bk_tryOn_17 : decode c_Bk_tryOn 17 = .ok (.aload_n 0, 1) := by decide +kernel
theorem d_Bk_tryOn_18 : decode c_Bk_tryOn 18 = .ok (.getfield 15, 3) := by decide +kernel
theorem d_Bk_tryOn_21 : decode c_Bk_tryOn 21 = .ok (.iload_n 2, 1) := by decide +kernel
theorem d_Bk_tryOn_22 : decode c_Bk_tryOn 22 = .ok (.iaload, 1) := by decide +kernel
theorem d_Bk_tryOn_23 : decode c_Bk_tryOn 23 = .ok (.istore 4, 2) := by decide +kernel
theorem d_Bk_tryOn_25 : decode c_Bk_tryOn 25 = .ok (.aload_n 1, 1) := by decide +kernel
theorem d_Bk_tryOn_26 : decode c_Bk_tryOn 26 = .ok (.iload_n 3, 1) := by decide +kernel
theorem d_Bk_tryOn_27 : decode c_Bk_tryOn 27 = .ok (.iload 4, 2) := by decide +kernel
theorem d_Bk_tryOn_29 : decode c_Bk_tryOn 29 = .ok (.invokevirtual 26, 3) := by decide +kernel
theorem d_Bk_tryOn_32 : decode c_Bk_tryOn 32 = .ok (.ifCond .eq 19, 3) := by decide +kernel
theorem d_Bk_tryOn_35 : decode c_Bk_tryOn 35 = .ok (.aload_n 1, 1) := by decide +kernel
theorem d_Bk_tryOn_36 : decode c_Bk_tryOn 36 = .ok (.iload_n 3, 1) := by decide +kernel
theorem d_Bk_tryOn_37 : decode c_Bk_tryOn 37 = .ok (.iload 4, 2) := by decide +kernel
theorem d_Bk_tryOn_39 : decode c_Bk_tryOn 39 = .ok (.aload_n 0, 1) := by decide +kernel
theorem d_Bk_tryOn_40 : decode c_Bk_tryOn 40 = .ok (.getfield 18, 3) := by decide +kernel
theorem d_Bk_tryOn_43 : decode c_Bk_tryOn 43 = .ok (.iload_n 2, 1) := by decide +kernel
theorem d_Bk_tryOn_44 : decode c_Bk_tryOn 44 = .ok (.baload, 1) := by decide +kernel
theorem d_Bk_tryOn_45 : decode c_Bk_tryOn 45 = .ok (.invokevirtual 32, 3) := by decide +kernel
theorem d_Bk_tryOn_48 : decode c_Bk_tryOn 48 = .ok (.ifCond .ne 5, 3) := by decide +kernel
theorem d_Bk_tryOn_51 : decode c_Bk_tryOn 51 = .ok (.iload_n 2, 1) := by decide +kernel
theorem d_Bk_tryOn_52 : decode c_Bk_tryOn 52 = .ok (.ireturn, 1) := by decide +kernel
theorem d_Bk_tryOn_53 : decode c_Bk_tryOn 53 = .ok (.aload_n 1, 1) := by decide +kernel
theorem d_Bk_tryOn_54 : decode c_Bk_tryOn 54 = .ok (.aload_n 1, 1) := by decide +kernel
theorem d_Bk_tryOn_55 : decode c_Bk_tryOn 55 = .ok (.getfield 36, 3) := by decide +kernel
theorem d_Bk_tryOn_58 : decode c_Bk_tryOn 58 = .ok (.iload_n 3, 1) := by decide +kernel
theorem d_Bk_tryOn_59 : decode c_Bk_tryOn 59 = .ok (.iload 4, 2) := by decide +kernel
theorem d_Bk_tryOn_61 : decode c_Bk_tryOn 61 = .ok (.aload_n 0, 1) := by decide +kernel
theorem d_Bk_tryOn_62 : decode c_Bk_tryOn 62 = .ok (.getfield 18, 3) := by decide +kernel
theorem d_Bk_tryOn_65 : decode c_Bk_tryOn 65 = .ok (.iload_n 2, 1) := by decide +kernel
theorem d_Bk_tryOn_66 : decode c_Bk_tryOn 66 = .ok (.baload, 1) := by decide +kernel
theorem d_Bk_tryOn_67 : decode c_Bk_tryOn 67 = .ok (.invokevirtual 39, 3) := by decide +kernel
theorem d_Bk_tryOn_70 : decode c_Bk_tryOn 70 = .ok (.iinc 2 1, 3) := by decide +kernel
theorem d_Bk_tryOn_73 : decode c_Bk_tryOn 73 = .ok (.goto (-71), 3) := by decide +kernel
theorem d_Bk_tryOn_76 : decode c_Bk_tryOn 76 = .ok (.iconst (-1), 1) := by decide +kernel
theorem d_Bk_tryOn_77 : decode c_Bk_tryOn 77 = .ok (.ireturn, 1) := by decide +kernel
theorem d_Im_init_0 : decode c_Im_init 0 = .ok (.aload_n 0, 1) := by decide +kernel
theorem d_Im_init_1 : decode c_Im_init 1 = .ok (.invokespecial 1, 3) := by decide +kernel
theorem d_Im_init_4 : decode c_Im_init 4 = .ok (.aload_n 0, 1) := by decide +kernel
theorem d_Im_init_5 : decode c_Im_init 5 = .ok (.new 7, 3) := by decide +kernel
theorem d_Im_init_8 : decode c_Im_init 8 = .ok (.dup, 1) := by decide +kernel
theorem d_Im_init_9 : decode c_Im_init 9 = .ok (.invokespecial 9, 3) := by decide +kernel
theorem d_Im_init_12 : decode c_Im_init 12 = .ok (.putfield 10, 3) := by decide +kernel
theorem d_Im_init_15 : decode c_Im_init 15 = .ok (.return_, 1) := by decide +kernel
theorem d_Mk_init_0 : decode c_Mk_init 0 = .ok (.aload_n 0, 1) := by decide +kernel
theorem d_Mk_init_1 : decode c_Mk_init 1 = .ok (.invokespecial 5, 3) := by decide +kernel
theorem d_Mk_init_4 : decode c_Mk_init 4 = .ok (.aload_n 0, 1) := by decide +kernel
theorem d_Mk_init_5 : decode c_Mk_init 5 = .ok (.sipush 256, 3) := by decide +kernel
theorem d_Mk_init_8 : decode c_Mk_init 8 = .ok (.newarray .long, 2) := by decide +kernel
theorem d_Mk_init_10 : decode c_Mk_init 10 = .ok (.putfield 11, 3) := by decide +kernel
theorem d_Mk_init_13 : decode c_Mk_init 13 = .ok (.return_, 1) := by decide +kernel
theorem d_Mk_solve_0 : decode c_Mk_solve 0 = .ok (.aload_n 0, 1) := by decide +kernel
theorem d_Mk_solve_1 : decode c_Mk_solve 1 = .ok (.aload_n 1, 1) := by decide +kernel
theorem d_Mk_solve_2 : decode c_Mk_solve 2 = .ok (.getfield 15, 3) := by decide +kernel
theorem d_Mk_solve_5 : decode c_Mk_solve 5 = .ok (.putfield 21, 3) := by decide +kernel
theorem d_Mk_solve_8 : decode c_Mk_solve 8 = .ok (.aload_n 0, 1) := by decide +kernel
theorem d_Mk_solve_9 : decode c_Mk_solve 9 = .ok (.aload_n 1, 1) := by decide +kernel
theorem d_Mk_solve_10 : decode c_Mk_solve 10 = .ok (.iconst 0, 1) := by decide +kernel
theorem d_Mk_solve_11 : decode c_Mk_solve 11 = .ok (.invokevirtual 22, 3) := by decide +kernel
theorem d_Mk_solve_14 : decode c_Mk_solve 14 = .ok (.lstore_n 2, 1) := by decide +kernel
theorem d_Mk_solve_15 : decode c_Mk_solve 15 = .ok (.aload_n 0, 1) := by decide +kernel
theorem d_Mk_solve_16 : decode c_Mk_solve 16 = .ok (.aload_n 1, 1) := by decide +kernel
theorem d_Mk_solve_17 : decode c_Mk_solve 17 = .ok (.iconst 1, 1) := by decide +kernel
theorem d_Mk_solve_18 : decode c_Mk_solve 18 = .ok (.invokevirtual 22, 3) := by decide +kernel
theorem d_Mk_solve_21 : decode c_Mk_solve 21 = .ok (.lstore 4, 2) := by decide +kernel
theorem d_Mk_solve_23 : decode c_Mk_solve 23 = .ok (.aload_n 0, 1) := by decide +kernel
theorem d_Mk_solve_24 : decode c_Mk_solve 24 = .ok (.lload 4, 2) := by decide +kernel
theorem d_Mk_solve_26 : decode c_Mk_solve 26 = .ok (.bipush 24, 2) := by decide +kernel
theorem d_Mk_solve_28 : decode c_Mk_solve 28 = .ok (.lshr, 1) := by decide +kernel
theorem d_Mk_solve_29 : decode c_Mk_solve 29 = .ok (.lload_n 2, 1) := by decide +kernel
theorem d_Mk_solve_30 : decode c_Mk_solve 30 = .ok (.bipush 24, 2) := by decide +kernel
theorem d_Mk_solve_32 : decode c_Mk_solve 32 = .ok (.lshr, 1) := by decide +kernel
theorem d_Mk_solve_33 : decode c_Mk_solve 33 = .ok (.lcmp, 1) := by decide +kernel
theorem d_Mk_solve_34 : decode c_Mk_solve 34 = .ok (.ifCond .ge 7, 3) := by decide +kernel
theorem d_Mk_solve_37 : decode c_Mk_solve 37 = .ok (.iconst 1, 1) := by decide +kernel
theorem d_Mk_solve_38 : decode c_Mk_solve 38 = .ok (.goto 4, 3) := by decide +kernel
theorem d_Mk_solve_41 : decode c_Mk_solve 41 = .ok (.iconst 0, 1) := by decide +kernel
theorem d_Mk_solve_42 : decode c_Mk_solve 42 = .ok (.putfield 26, 3) := by decide +kernel
theorem d_Mk_solve_45 : decode c_Mk_solve 45 = .ok (.aload_n 0, 1) := by decide +kernel
theorem d_Mk_solve_46 : decode c_Mk_solve 46 = .ok (.getfield 26, 3) := by decide +kernel
theorem d_Mk_solve_49 : decode c_Mk_solve 49 = .ok (.ifCond .ne 7, 3) := by decide +kernel
theorem d_Mk_solve_52 : decode c_Mk_solve 52 = .ok (.lload_n 2, 1) := by decide +kernel
theorem d_Mk_solve_53 : decode c_Mk_solve 53 = .ok (.goto 5, 3) := by decide +kernel
theorem d_Mk_solve_56 : decode c_Mk_solve 56 = .ok (.lload 4, 2) := by decide +kernel
theorem d_Mk_solve_58 : decode c_Mk_solve 58 = .ok (.lstore 6, 2) := by decide +kernel
theorem d_Mk_solve_60 : decode c_Mk_solve 60 = .ok (.aload_n 0, 1) := by decide +kernel
theorem d_Mk_solve_61 : decode c_Mk_solve 61 = .ok (.lload 6, 2) := by decide +kernel
theorem d_Mk_solve_63 : decode c_Mk_solve 63 = .ok (.ldc2_w 29, 3) := by decide +kernel
theorem d_Mk_solve_66 : decode c_Mk_solve 66 = .ok (.lcmp, 1) := by decide +kernel
theorem d_Mk_solve_67 : decode c_Mk_solve 67 = .ok (.ifCond .ne 7, 3) := by decide +kernel
theorem d_Mk_solve_70 : decode c_Mk_solve 70 = .ok (.iconst (-1), 1) := by decide +kernel
theorem d_Mk_solve_71 : decode c_Mk_solve 71 = .ok (.goto 9, 3) := by decide +kernel
theorem d_Mk_solve_74 : decode c_Mk_solve 74 = .ok (.lload 6, 2) := by decide +kernel
theorem d_Mk_solve_76 : decode c_Mk_solve 76 = .ok (.bipush 24, 2) := by decide +kernel
theorem d_Mk_solve_78 : decode c_Mk_solve 78 = .ok (.lshr, 1) := by decide +kernel
theorem d_Mk_solve_79 : decode c_Mk_solve 79 = .ok (.l2i, 1) := by decide +kernel
theorem d_Mk_solve_80 : decode c_Mk_solve 80 = .ok (.putfield 31, 3) := by decide +kernel
theorem d_Mk_solve_83 : decode c_Mk_solve 83 = .ok (.aload_n 0, 1) := by decide +kernel
theorem d_Mk_solve_84 : decode c_Mk_solve 84 = .ok (.lload 6, 2) := by decide +kernel
theorem d_Mk_solve_86 : decode c_Mk_solve 86 = .ok (.ldc2_w 34, 3) := by decide +kernel
theorem d_Mk_solve_89 : decode c_Mk_solve 89 = .ok (.land, 1) := by decide +kernel
theorem d_Mk_solve_90 : decode c_Mk_solve 90 = .ok (.putfield 36, 3) := by decide +kernel
theorem d_Mk_solve_93 : decode c_Mk_solve 93 = .ok (.return_, 1) := by decide +kernel
theorem d_Mk_placeOf_0 : decode c_Mk_placeOf 0 = .ok (.aload_n 0, 1) := by decide +kernel
theorem d_Mk_placeOf_1 : decode c_Mk_placeOf 1 = .ok (.getfield 36, 3) := by decide +kernel
theorem d_Mk_placeOf_4 : decode c_Mk_placeOf 4 = .ok (.iload_n 1, 1) := by decide +kernel
theorem d_Mk_placeOf_5 : decode c_Mk_placeOf 5 = .ok (.invokestatic 40, 3) := by decide +kernel
theorem d_Mk_placeOf_8 : decode c_Mk_placeOf 8 = .ok (.lshr, 1) := by decide +kernel
theorem d_Mk_placeOf_9 : decode c_Mk_placeOf 9 = .ok (.l2i, 1) := by decide +kernel
theorem d_Mk_placeOf_10 : decode c_Mk_placeOf 10 = .ok (.bipush 7, 2) := by decide +kernel
theorem d_Mk_placeOf_12 : decode c_Mk_placeOf 12 = .ok (.iand, 1) := by decide +kernel
theorem d_Mk_placeOf_13 : decode c_Mk_placeOf 13 = .ok (.ireturn, 1) := by decide +kernel
theorem d_Mk_townMade_0 : decode c_Mk_townMade 0 = .ok (.iconst 0, 1) := by decide +kernel
theorem d_Mk_townMade_1 : decode c_Mk_townMade 1 = .ok (.istore_n 1, 1) := by decide +kernel
theorem d_Mk_townMade_2 : decode c_Mk_townMade 2 = .ok (.iconst 1, 1) := by decide +kernel
theorem d_Mk_townMade_3 : decode c_Mk_townMade 3 = .ok (.istore_n 2, 1) := by decide +kernel
theorem d_Mk_townMade_4 : decode c_Mk_townMade 4 = .ok (.iconst 0, 1) := by decide +kernel
theorem d_Mk_townMade_5 : decode c_Mk_townMade 5 = .ok (.istore_n 3, 1) := by decide +kernel
theorem d_Mk_townMade_6 : decode c_Mk_townMade 6 = .ok (.iload_n 3, 1) := by decide +kernel
theorem d_Mk_townMade_7 : decode c_Mk_townMade 7 = .ok (.aload_n 0, 1) := by decide +kernel
theorem d_Mk_townMade_8 : decode c_Mk_townMade 8 = .ok (.getfield 21, 3) := by decide +kernel
theorem d_Mk_townMade_11 : decode c_Mk_townMade 11 = .ok (.if_icmp .ge 62, 3) := by decide +kernel
theorem d_Mk_townMade_14 : decode c_Mk_townMade 14 = .ok (.iload_n 3, 1) := by decide +kernel
theorem d_Mk_townMade_15 : decode c_Mk_townMade 15 = .ok (.iconst 1, 1) := by decide +kernel
theorem d_Mk_townMade_16 : decode c_Mk_townMade 16 = .ok (.iadd, 1) := by decide +kernel
theorem d_Mk_townMade_17 : decode c_Mk_townMade 17 = .ok (.istore 4, 2) := by decide +kernel
theorem d_Mk_townMade_19 : decode c_Mk_townMade 19 = .ok (.iload 4, 2) := by decide +kernel
theorem d_Mk_townMade_21 : decode c_Mk_townMade 21 = .ok (.aload_n 0, 1) := by decide +kernel
theorem d_Mk_townMade_22 : decode c_Mk_townMade 22 = .ok (.getfield 21, 3) := by decide +kernel
theorem d_Mk_townMade_25 : decode c_Mk_townMade 25 = .ok (.if_icmp .ge 42, 3) := by decide +kernel
theorem d_Mk_townMade_28 : decode c_Mk_townMade 28 = .ok (.aload_n 0, 1) := by decide +kernel
theorem d_Mk_townMade_29 : decode c_Mk_townMade 29 = .ok (.getfield 21, 3) := by decide +kernel
theorem d_Mk_townMade_32 : decode c_Mk_townMade 32 = .ok (.aload_n 0, 1) := by decide +kernel
theorem d_Mk_townMade_33 : decode c_Mk_townMade 33 = .ok (.getfield 26, 3) := by decide +kernel
theorem d_Mk_townMade_36 : decode c_Mk_townMade 36 = .ok (.aload_n 0, 1) := by decide +kernel
theorem d_Mk_townMade_37 : decode c_Mk_townMade 37 = .ok (.iload_n 3, 1) := by decide +kernel
theorem d_Mk_townMade_38 : decode c_Mk_townMade 38 = .ok (.invokevirtual 44, 3) := by decide +kernel
theorem d_Mk_townMade_41 : decode c_Mk_townMade 41 = .ok (.aload_n 0, 1) := by decide +kernel
theorem d_Mk_townMade_42 : decode c_Mk_townMade 42 = .ok (.iload 4, 2) := by decide +kernel
theorem d_Mk_townMade_44 : decode c_Mk_townMade 44 = .ok (.invokevirtual 44, 3) := by decide +kernel
theorem d_Mk_townMade_47 : decode c_Mk_townMade 47 = .ok (.invokestatic 47, 3) := by decide +kernel
theorem d_Mk_townMade_50 : decode c_Mk_townMade 50 = .ok (.ifCond .eq 7, 3) := by decide +kernel
theorem d_Mk_townMade_53 : decode c_Mk_townMade 53 = .ok (.iload_n 1, 1) := by decide +kernel
theorem d_Mk_townMade_54 : decode c_Mk_townMade 54 = .ok (.iload_n 2, 1) := by decide +kernel
theorem d_Mk_townMade_55 : decode c_Mk_townMade 55 = .ok (.ior, 1) := by decide +kernel
theorem d_Mk_townMade_56 : decode c_Mk_townMade 56 = .ok (.istore_n 1, 1) := by decide +kernel
theorem d_Mk_townMade_57 : decode c_Mk_townMade 57 = .ok (.iload_n 2, 1) := by decide +kernel
theorem d_Mk_townMade_58 : decode c_Mk_townMade 58 = .ok (.iconst 1, 1) := by decide +kernel
theorem d_Mk_townMade_59 : decode c_Mk_townMade 59 = .ok (.ishl, 1) := by decide +kernel
theorem d_Mk_townMade_60 : decode c_Mk_townMade 60 = .ok (.istore_n 2, 1) := by decide +kernel
theorem d_Mk_townMade_61 : decode c_Mk_townMade 61 = .ok (.iinc 4 1, 3) := by decide +kernel
theorem d_Mk_townMade_64 : decode c_Mk_townMade 64 = .ok (.goto (-45), 3) := by decide +kernel
theorem d_Mk_townMade_67 : decode c_Mk_townMade 67 = .ok (.iinc 3 1, 3) := by decide +kernel
theorem d_Mk_townMade_70 : decode c_Mk_townMade 70 = .ok (.goto (-64), 3) := by decide +kernel
theorem d_Mk_townMade_73 : decode c_Mk_townMade 73 = .ok (.iload_n 1, 1) := by decide +kernel
theorem d_Mk_townMade_74 : decode c_Mk_townMade 74 = .ok (.ireturn, 1) := by decide +kernel
theorem d_Mk_shiftOf_0 : decode c_Mk_shiftOf 0 = .ok (.iconst 3, 1) := by decide +kernel
theorem d_Mk_shiftOf_1 : decode c_Mk_shiftOf 1 = .ok (.bipush 7, 2) := by decide +kernel
theorem d_Mk_shiftOf_3 : decode c_Mk_shiftOf 3 = .ok (.iload_n 0, 1) := by decide +kernel
theorem d_Mk_shiftOf_4 : decode c_Mk_shiftOf 4 = .ok (.isub, 1) := by decide +kernel
theorem d_Mk_shiftOf_5 : decode c_Mk_shiftOf 5 = .ok (.imul, 1) := by decide +kernel
theorem d_Mk_shiftOf_6 : decode c_Mk_shiftOf 6 = .ok (.ireturn, 1) := by decide +kernel
theorem d_Mk_leastByWay_0 : decode c_Mk_leastByWay 0 = .ok (.aload_n 0, 1) := by decide +kernel
theorem d_Mk_leastByWay_1 : decode c_Mk_leastByWay 1 = .ok (.getfield 11, 3) := by decide +kernel
theorem d_Mk_leastByWay_4 : decode c_Mk_leastByWay 4 = .ok (.iconst 0, 1) := by decide +kernel
theorem d_Mk_leastByWay_5 : decode c_Mk_leastByWay 5 = .ok (.lconst 0, 1) := by decide +kernel
theorem d_Mk_leastByWay_6 : decode c_Mk_leastByWay 6 = .ok (.lastore, 1) := by decide +kernel
theorem d_Mk_leastByWay_7 : decode c_Mk_leastByWay 7 = .ok (.iconst 1, 1) := by decide +kernel
theorem d_Mk_leastByWay_8 : decode c_Mk_leastByWay 8 = .ok (.aload_n 0, 1) := by decide +kernel
theorem d_Mk_leastByWay_9 : decode c_Mk_leastByWay 9 = .ok (.getfield 21, 3) := by decide +kernel
theorem d_Mk_leastByWay_12 : decode c_Mk_leastByWay 12 = .ok (.ishl, 1) := by decide +kernel
theorem d_Mk_leastByWay_13 : decode c_Mk_leastByWay 13 = .ok (.iconst 1, 1) := by decide +kernel
theorem d_Mk_leastByWay_14 : decode c_Mk_leastByWay 14 = .ok (.isub, 1) := by decide +kernel
theorem d_Mk_leastByWay_15 : decode c_Mk_leastByWay 15 = .ok (.istore_n 3, 1) := by decide +kernel
theorem d_Mk_leastByWay_16 : decode c_Mk_leastByWay 16 = .ok (.iconst 1, 1) := by decide +kernel
theorem d_Mk_leastByWay_17 : decode c_Mk_leastByWay 17 = .ok (.istore 4, 2) := by decide +kernel
theorem d_Mk_leastByWay_19 : decode c_Mk_leastByWay 19 = .ok (.iload 4, 2) := by decide +kernel
theorem d_Mk_leastByWay_21 : decode c_Mk_leastByWay 21 = .ok (.iload_n 3, 1) := by decide +kernel
theorem d_Mk_leastByWay_22 : decode c_Mk_leastByWay 22 = .ok (.if_icmp .gt 135, 3) := by decide +kernel
theorem d_Mk_leastByWay_25 : decode c_Mk_leastByWay 25 = .ok (.aload_n 0, 1) := by decide +kernel
theorem d_Mk_leastByWay_26 : decode c_Mk_leastByWay 26 = .ok (.getfield 21, 3) := by decide +kernel
theorem d_Mk_leastByWay_29 : decode c_Mk_leastByWay 29 = .ok (.iload 4, 2) := by decide +kernel
theorem d_Mk_leastByWay_31 : decode c_Mk_leastByWay 31 = .ok (.invokestatic 51, 3) := by decide +kernel
theorem d_Mk_leastByWay_34 : decode c_Mk_leastByWay 34 = .ok (.isub, 1) := by decide +kernel
theorem d_Mk_leastByWay_35 : decode c_Mk_leastByWay 35 = .ok (.istore 5, 2) := by decide +kernel
theorem d_Mk_leastByWay_37 : decode c_Mk_leastByWay 37 = .ok (.iload 5, 2) := by decide +kernel
theorem d_Mk_leastByWay_39 : decode c_Mk_leastByWay 39 = .ok (.iconst 2, 1) := by decide +kernel
theorem d_Mk_leastByWay_40 : decode c_Mk_leastByWay 40 = .ok (.irem, 1) := by decide +kernel
theorem d_Mk_leastByWay_41 : decode c_Mk_leastByWay 41 = .ok (.ifCond .ne 10, 3) := by decide +kernel
theorem d_Mk_leastByWay_44 : decode c_Mk_leastByWay 44 = .ok (.iload 5, 2) := by decide +kernel
theorem d_Mk_leastByWay_46 : decode c_Mk_leastByWay 46 = .ok (.iconst 2, 1) := by decide +kernel
theorem d_Mk_leastByWay_47 : decode c_Mk_leastByWay 47 = .ok (.idiv, 1) := by decide +kernel
theorem d_Mk_leastByWay_48 : decode c_Mk_leastByWay 48 = .ok (.goto 14, 3) := by decide +kernel
theorem d_Mk_leastByWay_51 : decode c_Mk_leastByWay 51 = .ok (.aload_n 0, 1) := by decide +kernel
theorem d_Mk_leastByWay_52 : decode c_Mk_leastByWay 52 = .ok (.getfield 21, 3) := by decide +kernel
theorem d_Mk_leastByWay_55 : decode c_Mk_leastByWay 55 = .ok (.iconst 1, 1) := by decide +kernel
theorem d_Mk_leastByWay_56 : decode c_Mk_leastByWay 56 = .ok (.isub, 1) := by decide +kernel
theorem d_Mk_leastByWay_57 : decode c_Mk_leastByWay 57 = .ok (.iload 5, 2) := by decide +kernel
theorem d_Mk_leastByWay_59 : decode c_Mk_leastByWay 59 = .ok (.iconst 2, 1) := by decide +kernel
theorem d_Mk_leastByWay_60 : decode c_Mk_leastByWay 60 = .ok (.idiv, 1) := by decide +kernel
theorem d_Mk_leastByWay_61 : decode c_Mk_leastByWay 61 = .ok (.isub, 1) := by decide +kernel
theorem d_Mk_leastByWay_62 : decode c_Mk_leastByWay 62 = .ok (.istore 6, 2) := by decide +kernel
theorem d_Mk_leastByWay_64 : decode c_Mk_leastByWay 64 = .ok (.iload 5, 2) := by decide +kernel
theorem d_Mk_leastByWay_66 : decode c_Mk_leastByWay 66 = .ok (.iload_n 2, 1) := by decide +kernel
theorem d_Mk_leastByWay_67 : decode c_Mk_leastByWay 67 = .ok (.iadd, 1) := by decide +kernel
theorem d_Mk_leastByWay_68 : decode c_Mk_leastByWay 68 = .ok (.iconst 2, 1) := by decide +kernel
theorem d_Mk_leastByWay_69 : decode c_Mk_leastByWay 69 = .ok (.irem, 1) := by decide +kernel
theorem d_Mk_leastByWay_70 : decode c_Mk_leastByWay 70 = .ok (.iconst 1, 1) := by decide +kernel
theorem d_Mk_leastByWay_71 : decode c_Mk_leastByWay 71 = .ok (.if_icmp .ne 7, 3) := by decide +kernel
theorem d_Mk_leastByWay_74 : decode c_Mk_leastByWay 74 = .ok (.iconst 1, 1) := by decide +kernel
theorem d_Mk_leastByWay_75 : decode c_Mk_leastByWay 75 = .ok (.goto 4, 3) := by decide +kernel
theorem d_Mk_leastByWay_78 : decode c_Mk_leastByWay 78 = .ok (.iconst 0, 1) := by decide +kernel
theorem d_Mk_leastByWay_79 : decode c_Mk_leastByWay 79 = .ok (.istore 7, 2) := by decide +kernel
theorem d_Mk_leastByWay_81 : decode c_Mk_leastByWay 81 = .ok (.ldc2_w 29, 3) := by decide +kernel
theorem d_Mk_leastByWay_84 : decode c_Mk_leastByWay 84 = .ok (.lstore 8, 2) := by decide +kernel
theorem d_Mk_leastByWay_86 : decode c_Mk_leastByWay 86 = .ok (.iconst 0, 1) := by decide +kernel
theorem d_Mk_leastByWay_87 : decode c_Mk_leastByWay 87 = .ok (.istore 10, 2) := by decide +kernel
theorem d_Mk_leastByWay_89 : decode c_Mk_leastByWay 89 = .ok (.iload 10, 2) := by decide +kernel
theorem d_Mk_leastByWay_91 : decode c_Mk_leastByWay 91 = .ok (.aload_n 0, 1) := by decide +kernel
theorem d_Mk_leastByWay_92 : decode c_Mk_leastByWay 92 = .ok (.getfield 21, 3) := by decide +kernel
theorem d_Mk_leastByWay_95 : decode c_Mk_leastByWay 95 = .ok (.if_icmp .ge 47, 3) := by decide +kernel
theorem d_Mk_leastByWay_98 : decode c_Mk_leastByWay 98 = .ok (.iload 4, 2) := by decide +kernel
theorem d_Mk_leastByWay_100 : decode c_Mk_leastByWay 100 = .ok (.iload 10, 2) := by decide +kernel
theorem d_Mk_leastByWay_102 : decode c_Mk_leastByWay 102 = .ok (.ishr, 1) := by decide +kernel
theorem d_Mk_leastByWay_103 : decode c_Mk_leastByWay 103 = .ok (.iconst 1, 1) := by decide +kernel
theorem d_Mk_leastByWay_104 : decode c_Mk_leastByWay 104 = .ok (.iand, 1) := by decide +kernel
theorem d_Mk_leastByWay_105 : decode c_Mk_leastByWay 105 = .ok (.iconst 1, 1) := by decide +kernel
theorem d_Mk_leastByWay_106 : decode c_Mk_leastByWay 106 = .ok (.if_icmp .ne 30, 3) := by decide +kernel
theorem d_Mk_leastByWay_109 : decode c_Mk_leastByWay 109 = .ok (.lload 8, 2) := by decide +kernel
theorem d_Mk_leastByWay_111 : decode c_Mk_leastByWay 111 = .ok (.aload_n 0, 1) := by decide +kernel
theorem d_Mk_leastByWay_112 : decode c_Mk_leastByWay 112 = .ok (.aload_n 1, 1) := by decide +kernel
theorem d_Mk_leastByWay_113 : decode c_Mk_leastByWay 113 = .ok (.iload 10, 2) := by decide +kernel
theorem d_Mk_leastByWay_115 : decode c_Mk_leastByWay 115 = .ok (.iload 4, 2) := by decide +kernel
theorem d_Mk_leastByWay_117 : decode c_Mk_leastByWay 117 = .ok (.iconst 1, 1) := by decide +kernel
theorem d_Mk_leastByWay_118 : decode c_Mk_leastByWay 118 = .ok (.iload 10, 2) := by decide +kernel
theorem d_Mk_leastByWay_120 : decode c_Mk_leastByWay 120 = .ok (.ishl, 1) := by decide +kernel
theorem d_Mk_leastByWay_121 : decode c_Mk_leastByWay 121 = .ok (.iconst (-1), 1) := by decide +kernel
theorem d_Mk_leastByWay_122 : decode c_Mk_leastByWay 122 = .ok (.ixor, 1) := by decide +kernel
theorem d_Mk_leastByWay_123 : decode c_Mk_leastByWay 123 = .ok (.iand, 1) := by decide +kernel
theorem d_Mk_leastByWay_124 : decode c_Mk_leastByWay 124 = .ok (.iload 7, 2) := by decide +kernel
theorem d_Mk_leastByWay_126 : decode c_Mk_leastByWay 126 = .ok (.iload 6, 2) := by decide +kernel
theorem d_Mk_leastByWay_128 : decode c_Mk_leastByWay 128 = .ok (.invokevirtual 56, 3) := by decide +kernel
theorem d_Mk_leastByWay_131 : decode c_Mk_leastByWay 131 = .ok (.invokestatic 60, 3) := by decide +kernel
theorem d_Mk_leastByWay_134 : decode c_Mk_leastByWay 134 = .ok (.lstore 8, 2) := by decide +kernel
theorem d_Mk_leastByWay_136 : decode c_Mk_leastByWay 136 = .ok (.iinc 10 1, 3) := by decide +kernel
theorem d_Mk_leastByWay_139 : decode c_Mk_leastByWay 139 = .ok (.goto (-50), 3) := by decide +kernel
theorem d_Mk_leastByWay_142 : decode c_Mk_leastByWay 142 = .ok (.aload_n 0, 1) := by decide +kernel
theorem d_Mk_leastByWay_143 : decode c_Mk_leastByWay 143 = .ok (.getfield 11, 3) := by decide +kernel
theorem d_Mk_leastByWay_146 : decode c_Mk_leastByWay 146 = .ok (.iload 4, 2) := by decide +kernel
theorem d_Mk_leastByWay_148 : decode c_Mk_leastByWay 148 = .ok (.lload 8, 2) := by decide +kernel
theorem d_Mk_leastByWay_150 : decode c_Mk_leastByWay 150 = .ok (.lastore, 1) := by decide +kernel
theorem d_Mk_leastByWay_151 : decode c_Mk_leastByWay 151 = .ok (.iinc 4 1, 3) := by decide +kernel
theorem d_Mk_leastByWay_154 : decode c_Mk_leastByWay 154 = .ok (.goto (-135), 3) := by decide +kernel
theorem d_Mk_leastByWay_157 : decode c_Mk_leastByWay 157 = .ok (.aload_n 0, 1) := by decide +kernel
theorem d_Mk_leastByWay_158 : decode c_Mk_leastByWay 158 = .ok (.getfield 11, 3) := by decide +kernel
theorem d_Mk_leastByWay_161 : decode c_Mk_leastByWay 161 = .ok (.iload_n 3, 1) := by decide +kernel
theorem d_Mk_leastByWay_162 : decode c_Mk_leastByWay 162 = .ok (.laload, 1) := by decide +kernel
theorem d_Mk_leastByWay_163 : decode c_Mk_leastByWay 163 = .ok (.lreturn, 1) := by decide +kernel
theorem d_Mk_withNext_0 : decode c_Mk_withNext 0 = .ok (.iload 4, 2) := by decide +kernel
theorem d_Mk_withNext_2 : decode c_Mk_withNext 2 = .ok (.ifCond .eq 12, 3) := by decide +kernel
theorem d_Mk_withNext_5 : decode c_Mk_withNext 5 = .ok (.aload_n 1, 1) := by decide +kernel
theorem d_Mk_withNext_6 : decode c_Mk_withNext 6 = .ok (.getfield 66, 3) := by decide +kernel
theorem d_Mk_withNext_9 : decode c_Mk_withNext 9 = .ok (.iload_n 2, 1) := by decide +kernel
theorem d_Mk_withNext_10 : decode c_Mk_withNext 10 = .ok (.iaload, 1) := by decide +kernel
theorem d_Mk_withNext_11 : decode c_Mk_withNext 11 = .ok (.goto 9, 3) := by decide +kernel
theorem d_Mk_withNext_14 : decode c_Mk_withNext 14 = .ok (.aload_n 1, 1) := by decide +kernel
theorem d_Mk_withNext_15 : decode c_Mk_withNext 15 = .ok (.getfield 70, 3) := by decide +kernel
theorem d_Mk_withNext_18 : decode c_Mk_withNext 18 = .ok (.iload_n 2, 1) := by decide +kernel
theorem d_Mk_withNext_19 : decode c_Mk_withNext 19 = .ok (.iaload, 1) := by decide +kernel
theorem d_Mk_withNext_20 : decode c_Mk_withNext 20 = .ok (.istore 6, 2) := by decide +kernel
theorem d_Mk_withNext_22 : decode c_Mk_withNext 22 = .ok (.iload 6, 2) := by decide +kernel
theorem d_Mk_withNext_24 : decode c_Mk_withNext 24 = .ok (.iload_n 3, 1) := by decide +kernel
theorem d_Mk_withNext_25 : decode c_Mk_withNext 25 = .ok (.iand, 1) := by decide +kernel
theorem d_Mk_withNext_26 : decode c_Mk_withNext 26 = .ok (.ifCond .ne 16, 3) := by decide +kernel
theorem d_Mk_withNext_29 : decode c_Mk_withNext 29 = .ok (.aload_n 0, 1) := by decide +kernel
theorem d_Mk_withNext_30 : decode c_Mk_withNext 30 = .ok (.getfield 11, 3) := by decide +kernel
theorem d_Mk_withNext_33 : decode c_Mk_withNext 33 = .ok (.iload_n 3, 1) := by decide +kernel
theorem d_Mk_withNext_34 : decode c_Mk_withNext 34 = .ok (.laload, 1) := by decide +kernel
theorem d_Mk_withNext_35 : decode c_Mk_withNext 35 = .ok (.ldc2_w 29, 3) := by decide +kernel
theorem d_Mk_withNext_38 : decode c_Mk_withNext 38 = .ok (.lcmp, 1) := by decide +kernel
theorem d_Mk_withNext_39 : decode c_Mk_withNext 39 = .ok (.ifCond .ne 7, 3) := by decide +kernel
theorem d_Mk_withNext_42 : decode c_Mk_withNext 42 = .ok (.ldc2_w 29, 3) := by decide +kernel
theorem d_Mk_withNext_45 : decode c_Mk_withNext 45 = .ok (.lreturn, 1) := by decide +kernel
theorem d_Mk_withNext_46 : decode c_Mk_withNext 46 = .ok (.iload 4, 2) := by decide +kernel
theorem d_Mk_withNext_48 : decode c_Mk_withNext 48 = .ok (.ifCond .eq 25, 3) := by decide +kernel
theorem d_Mk_withNext_51 : decode c_Mk_withNext 51 = .ok (.aload_n 1, 1) := by decide +kernel
theorem d_Mk_withNext_52 : decode c_Mk_withNext 52 = .ok (.getfield 73, 3) := by decide +kernel
theorem d_Mk_withNext_55 : decode c_Mk_withNext 55 = .ok (.iload_n 3, 1) := by decide +kernel
theorem d_Mk_withNext_56 : decode c_Mk_withNext 56 = .ok (.aload_n 1, 1) := by decide +kernel
theorem d_Mk_withNext_57 : decode c_Mk_withNext 57 = .ok (.getfield 76, 3) := by decide +kernel
theorem d_Mk_withNext_60 : decode c_Mk_withNext 60 = .ok (.iload_n 2, 1) := by decide +kernel
theorem d_Mk_withNext_61 : decode c_Mk_withNext 61 = .ok (.iaload, 1) := by decide +kernel
theorem d_Mk_withNext_62 : decode c_Mk_withNext 62 = .ok (.iconst (-1), 1) := by decide +kernel
theorem d_Mk_withNext_63 : decode c_Mk_withNext 63 = .ok (.ixor, 1) := by decide +kernel
theorem d_Mk_withNext_64 : decode c_Mk_withNext 64 = .ok (.iand, 1) := by decide +kernel
theorem d_Mk_withNext_65 : decode c_Mk_withNext 65 = .ok (.invokestatic 51, 3) := by decide +kernel
theorem d_Mk_withNext_68 : decode c_Mk_withNext 68 = .ok (.imul, 1) := by decide +kernel
theorem d_Mk_withNext_69 : decode c_Mk_withNext 69 = .ok (.i2l, 1) := by decide +kernel
theorem d_Mk_withNext_70 : decode c_Mk_withNext 70 = .ok (.goto 20, 3) := by decide +kernel
theorem d_Mk_withNext_73 : decode c_Mk_withNext 73 = .ok (.aload_n 1, 1) := by decide +kernel
theorem d_Mk_withNext_74 : decode c_Mk_withNext 74 = .ok (.getfield 79, 3) := by decide +kernel
theorem d_Mk_withNext_77 : decode c_Mk_withNext 77 = .ok (.iload_n 3, 1) := by decide +kernel
theorem d_Mk_withNext_78 : decode c_Mk_withNext 78 = .ok (.aload_n 1, 1) := by decide +kernel
theorem d_Mk_withNext_79 : decode c_Mk_withNext 79 = .ok (.getfield 76, 3) := by decide +kernel
theorem d_Mk_withNext_82 : decode c_Mk_withNext 82 = .ok (.iload_n 2, 1) := by decide +kernel
theorem d_Mk_withNext_83 : decode c_Mk_withNext 83 = .ok (.iaload, 1) := by decide +kernel
theorem d_Mk_withNext_84 : decode c_Mk_withNext 84 = .ok (.iand, 1) := by decide +kernel
theorem d_Mk_withNext_85 : decode c_Mk_withNext 85 = .ok (.invokestatic 51, 3) := by decide +kernel
theorem d_Mk_withNext_88 : decode c_Mk_withNext 88 = .ok (.imul, 1) := by decide +kernel
theorem d_Mk_withNext_89 : decode c_Mk_withNext 89 = .ok (.i2l, 1) := by decide +kernel
theorem d_Mk_withNext_90 : decode c_Mk_withNext 90 = .ok (.lstore 7, 2) := by decide +kernel
theorem d_Mk_withNext_92 : decode c_Mk_withNext 92 = .ok (.aload_n 0, 1) := by decide +kernel
theorem d_Mk_withNext_93 : decode c_Mk_withNext 93 = .ok (.getfield 11, 3) := by decide +kernel
theorem d_Mk_withNext_96 : decode c_Mk_withNext 96 = .ok (.iload_n 3, 1) := by decide +kernel
theorem d_Mk_withNext_97 : decode c_Mk_withNext 97 = .ok (.laload, 1) := by decide +kernel
theorem d_Mk_withNext_98 : decode c_Mk_withNext 98 = .ok (.lload 7, 2) := by decide +kernel
theorem d_Mk_withNext_100 : decode c_Mk_withNext 100 = .ok (.bipush 24, 2) := by decide +kernel
theorem d_Mk_withNext_102 : decode c_Mk_withNext 102 = .ok (.lshl, 1) := by decide +kernel
theorem d_Mk_withNext_103 : decode c_Mk_withNext 103 = .ok (.ladd, 1) := by decide +kernel
theorem d_Mk_withNext_104 : decode c_Mk_withNext 104 = .ok (.iload 5, 2) := by decide +kernel
theorem d_Mk_withNext_106 : decode c_Mk_withNext 106 = .ok (.i2l, 1) := by decide +kernel
theorem d_Mk_withNext_107 : decode c_Mk_withNext 107 = .ok (.iload_n 2, 1) := by decide +kernel
theorem d_Mk_withNext_108 : decode c_Mk_withNext 108 = .ok (.invokestatic 40, 3) := by decide +kernel
theorem d_Mk_withNext_111 : decode c_Mk_withNext 111 = .ok (.lshl, 1) := by decide +kernel
theorem d_Mk_withNext_112 : decode c_Mk_withNext 112 = .ok (.ladd, 1) := by decide +kernel
theorem d_Mk_withNext_113 : decode c_Mk_withNext 113 = .ok (.lreturn, 1) := by decide +kernel
theorem d_Se_init_0 : decode c_Se_init 0 = .ok (.aload_n 0, 1) := by decide +kernel
theorem d_Se_init_1 : decode c_Se_init 1 = .ok (.invokespecial 3, 3) := by decide +kernel
theorem d_Se_init_4 : decode c_Se_init 4 = .ok (.aload_n 0, 1) := by decide +kernel
theorem d_Se_init_5 : decode c_Se_init 5 = .ok (.bipush 6, 2) := by decide +kernel
theorem d_Se_init_7 : decode c_Se_init 7 = .ok (.newarray .int, 2) := by decide +kernel
theorem d_Se_init_9 : decode c_Se_init 9 = .ok (.putfield 9, 3) := by decide +kernel
theorem d_Se_init_12 : decode c_Se_init 12 = .ok (.aload_n 0, 1) := by decide +kernel
theorem d_Se_init_13 : decode c_Se_init 13 = .ok (.bipush 7, 2) := by decide +kernel
theorem d_Se_init_15 : decode c_Se_init 15 = .ok (.newarray .int, 2) := by decide +kernel
theorem d_Se_init_17 : decode c_Se_init 17 = .ok (.putfield 15, 3) := by decide +kernel
theorem d_Se_init_20 : decode c_Se_init 20 = .ok (.aload_n 0, 1) := by decide +kernel
theorem d_Se_init_21 : decode c_Se_init 21 = .ok (.bipush 6, 2) := by decide +kernel
theorem d_Se_init_23 : decode c_Se_init 23 = .ok (.newarray .int, 2) := by decide +kernel
theorem d_Se_init_25 : decode c_Se_init 25 = .ok (.putfield 18, 3) := by decide +kernel
theorem d_Se_init_28 : decode c_Se_init 28 = .ok (.return_, 1) := by decide +kernel
theorem d_Se_findNearest_0 : decode c_Se_findNearest 0 = .ok (.aload_n 0, 1) := by decide +kernel
theorem d_Se_findNearest_1 : decode c_Se_findNearest 1 = .ok (.aload_n 1, 1) := by decide +kernel
theorem d_Se_findNearest_2 : decode c_Se_findNearest 2 = .ok (.invokevirtual 21, 3) := by decide +kernel
theorem d_Se_findNearest_5 : decode c_Se_findNearest 5 = .ok (.aload_n 0, 1) := by decide +kernel
theorem d_Se_findNearest_6 : decode c_Se_findNearest 6 = .ok (.iconst 0, 1) := by decide +kernel
theorem d_Se_findNearest_7 : decode c_Se_findNearest 7 = .ok (.iconst 0, 1) := by decide +kernel
theorem d_Se_findNearest_8 : decode c_Se_findNearest 8 = .ok (.iconst 0, 1) := by decide +kernel
theorem d_Se_findNearest_9 : decode c_Se_findNearest 9 = .ok (.invokestatic 25, 3) := by decide +kernel
theorem d_Se_findNearest_12 : decode c_Se_findNearest 12 = .ok (.return_, 1) := by decide +kernel
theorem d_Se_findEven_0 : decode c_Se_findEven 0 = .ok (.aload_n 0, 1) := by decide +kernel
theorem d_Se_findEven_1 : decode c_Se_findEven 1 = .ok (.aload_n 1, 1) := by decide +kernel
theorem d_Se_findEven_2 : decode c_Se_findEven 2 = .ok (.invokevirtual 21, 3) := by decide +kernel
theorem d_Se_findEven_5 : decode c_Se_findEven 5 = .ok (.aload_n 0, 1) := by decide +kernel
theorem d_Se_findEven_6 : decode c_Se_findEven 6 = .ok (.iconst 0, 1) := by decide +kernel
theorem d_Se_findEven_7 : decode c_Se_findEven 7 = .ok (.iconst 0, 1) := by decide +kernel
theorem d_Se_findEven_8 : decode c_Se_findEven 8 = .ok (.iload_n 2, 1) := by decide +kernel
theorem d_Se_findEven_9 : decode c_Se_findEven 9 = .ok (.invokestatic 29, 3) := by decide +kernel
theorem d_Se_findEven_12 : decode c_Se_findEven 12 = .ok (.aload_n 0, 1) := by decide +kernel
theorem d_Se_findEven_13 : decode c_Se_findEven 13 = .ok (.getfield 32, 3) := by decide +kernel
theorem d_Se_findEven_16 : decode c_Se_findEven 16 = .ok (.ldc 36, 2) := by decide +kernel
theorem d_Se_findEven_18 : decode c_Se_findEven 18 = .ok (.if_icmp .ne 13, 3) := by decide +kernel
theorem d_Se_findEven_21 : decode c_Se_findEven 21 = .ok (.aload_n 0, 1) := by decide +kernel
theorem d_Se_findEven_22 : decode c_Se_findEven 22 = .ok (.iconst (-1), 1) := by decide +kernel
theorem d_Se_findEven_23 : decode c_Se_findEven 23 = .ok (.putfield 32, 3) := by decide +kernel
theorem d_Se_findEven_26 : decode c_Se_findEven 26 = .ok (.aload_n 0, 1) := by decide +kernel
theorem d_Se_findEven_27 : decode c_Se_findEven 27 = .ok (.iconst (-1), 1) := by decide +kernel
theorem d_Se_findEven_28 : decode c_Se_findEven 28 = .ok (.putfield 37, 3) := by decide +kernel
theorem d_Se_findEven_31 : decode c_Se_findEven 31 = .ok (.return_, 1) := by decide +kernel
theorem d_Se_findTold_0 : decode c_Se_findTold 0 = .ok (.aload_n 0, 1) := by decide +kernel
theorem d_Se_findTold_1 : decode c_Se_findTold 1 = .ok (.aload_n 1, 1) := by decide +kernel
theorem d_Se_findTold_2 : decode c_Se_findTold 2 = .ok (.invokevirtual 21, 3) := by decide +kernel
theorem d_Se_findTold_5 : decode c_Se_findTold 5 = .ok (.aload_n 0, 1) := by decide +kernel
theorem d_Se_findTold_6 : decode c_Se_findTold 6 = .ok (.iload_n 2, 1) := by decide +kernel
theorem d_Se_findTold_7 : decode c_Se_findTold 7 = .ok (.putfield 40, 3) := by decide +kernel
theorem d_Se_findTold_10 : decode c_Se_findTold 10 = .ok (.aload_n 0, 1) := by decide +kernel
theorem d_Se_findTold_11 : decode c_Se_findTold 11 = .ok (.iconst 0, 1) := by decide +kernel
theorem d_Se_findTold_12 : decode c_Se_findTold 12 = .ok (.iconst 0, 1) := by decide +kernel
theorem d_Se_findTold_13 : decode c_Se_findTold 13 = .ok (.iconst 0, 1) := by decide +kernel
theorem d_Se_findTold_14 : decode c_Se_findTold 14 = .ok (.invokestatic 43, 3) := by decide +kernel
theorem d_Se_findTold_17 : decode c_Se_findTold 17 = .ok (.return_, 1) := by decide +kernel
theorem d_Se_begin_0 : decode c_Se_begin 0 = .ok (.aload_n 0, 1) := by decide +kernel
theorem d_Se_begin_1 : decode c_Se_begin 1 = .ok (.aload_n 1, 1) := by decide +kernel
theorem d_Se_begin_2 : decode c_Se_begin 2 = .ok (.getfield 46, 3) := by decide +kernel
theorem d_Se_begin_5 : decode c_Se_begin 5 = .ok (.bipush 6, 2) := by decide +kernel
theorem d_Se_begin_7 : decode c_Se_begin 7 = .ok (.invokestatic 51, 3) := by decide +kernel
theorem d_Se_begin_10 : decode c_Se_begin 10 = .ok (.putfield 57, 3) := by decide +kernel
theorem d_Se_begin_13 : decode c_Se_begin 13 = .ok (.aload_n 0, 1) := by decide +kernel
theorem d_Se_begin_14 : decode c_Se_begin 14 = .ok (.aload_n 1, 1) := by decide +kernel
theorem d_Se_begin_15 : decode c_Se_begin 15 = .ok (.getfield 58, 3) := by decide +kernel
theorem d_Se_begin_18 : decode c_Se_begin 18 = .ok (.putfield 61, 3) := by decide +kernel
theorem d_Se_begin_21 : decode c_Se_begin 21 = .ok (.aload_n 0, 1) := by decide +kernel
theorem d_Se_begin_22 : decode c_Se_begin 22 = .ok (.aload_n 1, 1) := by decide +kernel
theorem d_Se_begin_23 : decode c_Se_begin 23 = .ok (.getfield 62, 3) := by decide +kernel
theorem d_Se_begin_26 : decode c_Se_begin 26 = .ok (.putfield 65, 3) := by decide +kernel
theorem d_Se_begin_29 : decode c_Se_begin 29 = .ok (.iconst 0, 1) := by decide +kernel
theorem d_Se_begin_30 : decode c_Se_begin 30 = .ok (.istore_n 2, 1) := by decide +kernel
theorem d_Se_begin_31 : decode c_Se_begin 31 = .ok (.iload_n 2, 1) := by decide +kernel
theorem d_Se_begin_32 : decode c_Se_begin 32 = .ok (.aload_n 0, 1) := by decide +kernel
theorem d_Se_begin_33 : decode c_Se_begin 33 = .ok (.getfield 57, 3) := by decide +kernel
theorem d_Se_begin_36 : decode c_Se_begin 36 = .ok (.if_icmp .ge 21, 3) := by decide +kernel
theorem d_Se_begin_39 : decode c_Se_begin 39 = .ok (.aload_n 0, 1) := by decide +kernel
theorem d_Se_begin_40 : decode c_Se_begin 40 = .ok (.getfield 18, 3) := by decide +kernel
theorem d_Se_begin_43 : decode c_Se_begin 43 = .ok (.iload_n 2, 1) := by decide +kernel
theorem d_Se_begin_44 : decode c_Se_begin 44 = .ok (.aload_n 1, 1) := by decide +kernel
theorem d_Se_begin_45 : decode c_Se_begin 45 = .ok (.getfield 66, 3) := by decide +kernel
theorem d_Se_begin_48 : decode c_Se_begin 48 = .ok (.iload_n 2, 1) := by decide +kernel
theorem d_Se_begin_49 : decode c_Se_begin 49 = .ok (.iaload, 1) := by decide +kernel
theorem d_Se_begin_50 : decode c_Se_begin 50 = .ok (.iastore, 1) := by decide +kernel
theorem d_Se_begin_51 : decode c_Se_begin 51 = .ok (.iinc 2 1, 3) := by decide +kernel
theorem d_Se_begin_54 : decode c_Se_begin 54 = .ok (.goto (-23), 3) := by decide +kernel
theorem d_Se_begin_57 : decode c_Se_begin 57 = .ok (.aload_n 0, 1) := by decide +kernel
theorem d_Se_begin_58 : decode c_Se_begin 58 = .ok (.aload_n 1, 1) := by decide +kernel
theorem d_Se_begin_59 : decode c_Se_begin 59 = .ok (.aload_n 1, 1) := by decide +kernel
theorem d_Se_begin_60 : decode c_Se_begin 60 = .ok (.getfield 67, 3) := by decide +kernel
theorem d_Se_begin_63 : decode c_Se_begin 63 = .ok (.invokevirtual 70, 3) := by decide +kernel
theorem d_Se_begin_66 : decode c_Se_begin 66 = .ok (.putfield 74, 3) := by decide +kernel
theorem d_Se_begin_69 : decode c_Se_begin 69 = .ok (.aload_n 0, 1) := by decide +kernel
theorem d_Se_begin_70 : decode c_Se_begin 70 = .ok (.aload_n 1, 1) := by decide +kernel
theorem d_Se_begin_71 : decode c_Se_begin 71 = .ok (.aload_n 1, 1) := by decide +kernel
theorem d_Se_begin_72 : decode c_Se_begin 72 = .ok (.getfield 76, 3) := by decide +kernel
theorem d_Se_begin_75 : decode c_Se_begin 75 = .ok (.invokevirtual 70, 3) := by decide +kernel
theorem d_Se_begin_78 : decode c_Se_begin 78 = .ok (.putfield 79, 3) := by decide +kernel
theorem d_Se_begin_81 : decode c_Se_begin 81 = .ok (.aload_n 0, 1) := by decide +kernel
theorem d_Se_begin_82 : decode c_Se_begin 82 = .ok (.aload_n 1, 1) := by decide +kernel
theorem d_Se_begin_83 : decode c_Se_begin 83 = .ok (.aload_n 1, 1) := by decide +kernel
theorem d_Se_begin_84 : decode c_Se_begin 84 = .ok (.getfield 81, 3) := by decide +kernel
theorem d_Se_begin_87 : decode c_Se_begin 87 = .ok (.invokevirtual 70, 3) := by decide +kernel
theorem d_Se_begin_90 : decode c_Se_begin 90 = .ok (.putfield 84, 3) := by decide +kernel
theorem d_Se_begin_93 : decode c_Se_begin 93 = .ok (.aload_n 0, 1) := by decide +kernel
theorem d_Se_begin_94 : decode c_Se_begin 94 = .ok (.ldc 36, 2) := by decide +kernel
theorem d_Se_begin_96 : decode c_Se_begin 96 = .ok (.putfield 86, 3) := by decide +kernel
theorem d_Se_begin_99 : decode c_Se_begin 99 = .ok (.aload_n 0, 1) := by decide +kernel
theorem d_Se_begin_100 : decode c_Se_begin 100 = .ok (.ldc 36, 2) := by decide +kernel
theorem d_Se_begin_102 : decode c_Se_begin 102 = .ok (.putfield 32, 3) := by decide +kernel
theorem d_Se_begin_105 : decode c_Se_begin 105 = .ok (.aload_n 0, 1) := by decide +kernel
theorem d_Se_begin_106 : decode c_Se_begin 106 = .ok (.ldc 36, 2) := by decide +kernel
theorem d_Se_begin_108 : decode c_Se_begin 108 = .ok (.putfield 37, 3) := by decide +kernel
theorem d_Se_begin_111 : decode c_Se_begin 111 = .ok (.aload_n 0, 1) := by decide +kernel
theorem d_Se_begin_112 : decode c_Se_begin 112 = .ok (.iconst 0, 1) := by decide +kernel
theorem d_Se_begin_113 : decode c_Se_begin 113 = .ok (.putfield 89, 3) := by decide +kernel
theorem d_Se_begin_116 : decode c_Se_begin 116 = .ok (.aload_n 0, 1) := by decide +kernel
theorem d_Se_begin_117 : decode c_Se_begin 117 = .ok (.iconst (-1), 1) := by decide +kernel
theorem d_Se_begin_118 : decode c_Se_begin 118 = .ok (.putfield 92, 3) := by decide +kernel
theorem d_Se_begin_121 : decode c_Se_begin 121 = .ok (.aload_n 0, 1) := by decide +kernel
theorem d_Se_begin_122 : decode c_Se_begin 122 = .ok (.iconst 0, 1) := by decide +kernel
theorem d_Se_begin_123 : decode c_Se_begin 123 = .ok (.putfield 95, 3) := by decide +kernel
theorem d_Se_begin_126 : decode c_Se_begin 126 = .ok (.aload_n 0, 1) := by decide +kernel
theorem d_Se_begin_127 : decode c_Se_begin 127 = .ok (.iconst 0, 1) := by decide +kernel
theorem d_Se_begin_128 : decode c_Se_begin 128 = .ok (.putfield 98, 3) := by decide +kernel
theorem d_Se_begin_131 : decode c_Se_begin 131 = .ok (.aload_n 0, 1) := by decide +kernel
theorem d_Se_begin_132 : decode c_Se_begin 132 = .ok (.invokevirtual 101, 3) := by decide +kernel
theorem d_Se_begin_135 : decode c_Se_begin 135 = .ok (.return_, 1) := by decide +kernel
theorem d_Se_layOutPairs_0 : decode c_Se_layOutPairs 0 = .ok (.iconst 0, 1) := by decide +kernel
theorem d_Se_layOutPairs_1 : decode c_Se_layOutPairs 1 = .ok (.istore_n 1, 1) := by decide +kernel
theorem d_Se_layOutPairs_2 : decode c_Se_layOutPairs 2 = .ok (.iload_n 1, 1) := by decide +kernel
theorem d_Se_layOutPairs_3 : decode c_Se_layOutPairs 3 = .ok (.aload_n 0, 1) := by decide +kernel
theorem d_Se_layOutPairs_4 : decode c_Se_layOutPairs 4 = .ok (.getfield 57, 3) := by decide +kernel
theorem d_Se_layOutPairs_7 : decode c_Se_layOutPairs 7 = .ok (.if_icmp .ge 16, 3) := by decide +kernel
theorem d_Se_layOutPairs_10 : decode c_Se_layOutPairs 10 = .ok (.aload_n 0, 1) := by decide +kernel
theorem d_Se_layOutPairs_11 : decode c_Se_layOutPairs 11 = .ok (.getfield 9, 3) := by decide +kernel
theorem d_Se_layOutPairs_14 : decode c_Se_layOutPairs 14 = .ok (.iload_n 1, 1) := by decide +kernel
theorem d_Se_layOutPairs_15 : decode c_Se_layOutPairs 15 = .ok (.iconst 0, 1) := by decide +kernel
theorem d_Se_layOutPairs_16 : decode c_Se_layOutPairs 16 = .ok (.iastore, 1) := by decide +kernel
theorem d_Se_layOutPairs_17 : decode c_Se_layOutPairs 17 = .ok (.iinc 1 1, 3) := by decide +kernel
theorem d_Se_layOutPairs_20 : decode c_Se_layOutPairs 20 = .ok (.goto (-18), 3) := by decide +kernel
theorem d_Se_layOutPairs_23 : decode c_Se_layOutPairs 23 = .ok (.iconst 0, 1) := by decide +kernel
theorem d_Se_layOutPairs_24 : decode c_Se_layOutPairs 24 = .ok (.istore_n 1, 1) := by decide +kernel
theorem d_Se_layOutPairs_25 : decode c_Se_layOutPairs 25 = .ok (.iconst 0, 1) := by decide +kernel
theorem d_Se_layOutPairs_26 : decode c_Se_layOutPairs 26 = .ok (.istore_n 2, 1) := by decide +kernel
theorem d_Se_layOutPairs_27 : decode c_Se_layOutPairs 27 = .ok (.iload_n 2, 1) := by decide +kernel
theorem d_Se_layOutPairs_28 : decode c_Se_layOutPairs 28 = .ok (.aload_n 0, 1) := by decide +kernel
theorem d_Se_layOutPairs_29 : decode c_Se_layOutPairs 29 = .ok (.getfield 57, 3) := by decide +kernel
theorem d_Se_layOutPairs_32 : decode c_Se_layOutPairs 32 = .ok (.if_icmp .ge 61, 3) := by decide +kernel
theorem d_Se_layOutPairs_35 : decode c_Se_layOutPairs 35 = .ok (.aload_n 0, 1) := by decide +kernel
theorem d_Se_layOutPairs_36 : decode c_Se_layOutPairs 36 = .ok (.getfield 15, 3) := by decide +kernel
theorem d_Se_layOutPairs_39 : decode c_Se_layOutPairs 39 = .ok (.iload_n 2, 1) := by decide +kernel
theorem d_Se_layOutPairs_40 : decode c_Se_layOutPairs 40 = .ok (.iload_n 1, 1) := by decide +kernel
theorem d_Se_layOutPairs_41 : decode c_Se_layOutPairs 41 = .ok (.iastore, 1) := by decide +kernel
theorem d_Se_layOutPairs_42 : decode c_Se_layOutPairs 42 = .ok (.iload_n 2, 1) := by decide +kernel
theorem d_Se_layOutPairs_43 : decode c_Se_layOutPairs 43 = .ok (.iconst 1, 1) := by decide +kernel
theorem d_Se_layOutPairs_44 : decode c_Se_layOutPairs 44 = .ok (.iadd, 1) := by decide +kernel
theorem d_Se_layOutPairs_45 : decode c_Se_layOutPairs 45 = .ok (.istore_n 3, 1) := by decide +kernel
theorem d_Se_layOutPairs_46 : decode c_Se_layOutPairs 46 = .ok (.iload_n 3, 1) := by decide +kernel
theorem d_Se_layOutPairs_47 : decode c_Se_layOutPairs 47 = .ok (.aload_n 0, 1) := by decide +kernel
theorem d_Se_layOutPairs_48 : decode c_Se_layOutPairs 48 = .ok (.getfield 57, 3) := by decide +kernel
theorem d_Se_layOutPairs_51 : decode c_Se_layOutPairs 51 = .ok (.if_icmp .ge 36, 3) := by decide +kernel
theorem d_Se_layOutPairs_54 : decode c_Se_layOutPairs 54 = .ok (.aload_n 0, 1) := by decide +kernel
theorem d_Se_layOutPairs_55 : decode c_Se_layOutPairs 55 = .ok (.getfield 9, 3) := by decide +kernel
theorem d_Se_layOutPairs_58 : decode c_Se_layOutPairs 58 = .ok (.iload_n 2, 1) := by decide +kernel
theorem d_Se_layOutPairs_59 : decode c_Se_layOutPairs 59 = .ok (.dup2, 1) := by decide +kernel
theorem d_Se_layOutPairs_60 : decode c_Se_layOutPairs 60 = .ok (.iaload, 1) := by decide +kernel
theorem d_Se_layOutPairs_61 : decode c_Se_layOutPairs 61 = .ok (.iconst 1, 1) := by decide +kernel
theorem d_Se_layOutPairs_62 : decode c_Se_layOutPairs 62 = .ok (.iload_n 1, 1) := by decide +kernel
theorem d_Se_layOutPairs_63 : decode c_Se_layOutPairs 63 = .ok (.ishl, 1) := by decide +kernel
theorem d_Se_layOutPairs_64 : decode c_Se_layOutPairs 64 = .ok (.ior, 1) := by decide +kernel
theorem d_Se_layOutPairs_65 : decode c_Se_layOutPairs 65 = .ok (.iastore, 1) := by decide +kernel
theorem d_Se_layOutPairs_66 : decode c_Se_layOutPairs 66 = .ok (.aload_n 0, 1) := by decide +kernel
theorem d_Se_layOutPairs_67 : decode c_Se_layOutPairs 67 = .ok (.getfield 9, 3) := by decide +kernel
theorem d_Se_layOutPairs_70 : decode c_Se_layOutPairs 70 = .ok (.iload_n 3, 1) := by decide +kernel
theorem d_Se_layOutPairs_71 : decode c_Se_layOutPairs 71 = .ok (.dup2, 1) := by decide +kernel
theorem d_Se_layOutPairs_72 : decode c_Se_layOutPairs 72 = .ok (.iaload, 1) := by decide +kernel
theorem d_Se_layOutPairs_73 : decode c_Se_layOutPairs 73 = .ok (.iconst 1, 1) := by decide +kernel
theorem d_Se_layOutPairs_74 : decode c_Se_layOutPairs 74 = .ok (.iload_n 1, 1) := by decide +kernel
theorem d_Se_layOutPairs_75 : decode c_Se_layOutPairs 75 = .ok (.ishl, 1) := by decide +kernel
theorem d_Se_layOutPairs_76 : decode c_Se_layOutPairs 76 = .ok (.ior, 1) := by decide +kernel
theorem d_Se_layOutPairs_77 : decode c_Se_layOutPairs 77 = .ok (.iastore, 1) := by decide +kernel
theorem d_Se_layOutPairs_78 : decode c_Se_layOutPairs 78 = .ok (.iinc 1 1, 3) := by decide +kernel
theorem d_Se_layOutPairs_81 : decode c_Se_layOutPairs 81 = .ok (.iinc 3 1, 3) := by decide +kernel
theorem d_Se_layOutPairs_84 : decode c_Se_layOutPairs 84 = .ok (.goto (-38), 3) := by decide +kernel
theorem d_Se_layOutPairs_87 : decode c_Se_layOutPairs 87 = .ok (.iinc 2 1, 3) := by decide +kernel
theorem d_Se_layOutPairs_90 : decode c_Se_layOutPairs 90 = .ok (.goto (-63), 3) := by decide +kernel
theorem d_Se_layOutPairs_93 : decode c_Se_layOutPairs 93 = .ok (.aload_n 0, 1) := by decide +kernel
theorem d_Se_layOutPairs_94 : decode c_Se_layOutPairs 94 = .ok (.getfield 15, 3) := by decide +kernel
theorem d_Se_layOutPairs_97 : decode c_Se_layOutPairs 97 = .ok (.aload_n 0, 1) := by decide +kernel
theorem d_Se_layOutPairs_98 : decode c_Se_layOutPairs 98 = .ok (.getfield 57, 3) := by decide +kernel
theorem d_Se_layOutPairs_101 : decode c_Se_layOutPairs 101 = .ok (.iload_n 1, 1) := by decide +kernel
theorem d_Se_layOutPairs_102 : decode c_Se_layOutPairs 102 = .ok (.iastore, 1) := by decide +kernel
theorem d_Se_layOutPairs_103 : decode c_Se_layOutPairs 103 = .ok (.return_, 1) := by decide +kernel
theorem d_Se_nearestFrom_0 : decode c_Se_nearestFrom 0 = .ok (.iload_n 1, 1) := by decide +kernel
theorem d_Se_nearestFrom_1 : decode c_Se_nearestFrom 1 = .ok (.aload_n 0, 1) := by decide +kernel
theorem d_Se_nearestFrom_2 : decode c_Se_nearestFrom 2 = .ok (.getfield 57, 3) := by decide +kernel
theorem d_Se_nearestFrom_5 : decode c_Se_nearestFrom 5 = .ok (.if_icmp .lt 10, 3) := by decide +kernel
theorem d_Se_nearestFrom_8 : decode c_Se_nearestFrom 8 = .ok (.aload_n 0, 1) := by decide +kernel
theorem d_Se_nearestFrom_9 : decode c_Se_nearestFrom 9 = .ok (.iload_n 2, 1) := by decide +kernel
theorem d_Se_nearestFrom_10 : decode c_Se_nearestFrom 10 = .ok (.iload_n 3, 1) := by decide +kernel
theorem d_Se_nearestFrom_11 : decode c_Se_nearestFrom 11 = .ok (.invokevirtual 104, 3) := by decide +kernel
theorem d_Se_nearestFrom_14 : decode c_Se_nearestFrom 14 = .ok (.return_, 1) := by decide +kernel
theorem d_Se_nearestFrom_15 : decode c_Se_nearestFrom 15 = .ok (.aload_n 0, 1) := by decide +kernel
theorem d_Se_nearestFrom_16 : decode c_Se_nearestFrom 16 = .ok (.iload_n 1, 1) := by decide +kernel
theorem d_Se_nearestFrom_17 : decode c_Se_nearestFrom 17 = .ok (.invokevirtual 108, 3) := by decide +kernel
theorem d_Se_nearestFrom_20 : decode c_Se_nearestFrom 20 = .ok (.istore 4, 2) := by decide +kernel
theorem d_Se_nearestFrom_22 : decode c_Se_nearestFrom 22 = .ok (.iconst 0, 1) := by decide +kernel
theorem d_Se_nearestFrom_23 : decode c_Se_nearestFrom 23 = .ok (.istore 5, 2) := by decide +kernel
theorem d_Se_nearestFrom_25 : decode c_Se_nearestFrom 25 = .ok (.iload 5, 2) := by decide +kernel
theorem d_Se_nearestFrom_27 : decode c_Se_nearestFrom 27 = .ok (.iload 4, 2) := by decide +kernel
theorem d_Se_nearestFrom_29 : decode c_Se_nearestFrom 29 = .ok (.if_icmp .ge 66, 3) := by decide +kernel
theorem d_Se_nearestFrom_32 : decode c_Se_nearestFrom 32 = .ok (.iload_n 2, 1) := by decide +kernel
theorem d_Se_nearestFrom_33 : decode c_Se_nearestFrom 33 = .ok (.iload 5, 2) := by decide +kernel
theorem d_Se_nearestFrom_35 : decode c_Se_nearestFrom 35 = .ok (.aload_n 0, 1) := by decide +kernel
theorem d_Se_nearestFrom_36 : decode c_Se_nearestFrom 36 = .ok (.getfield 15, 3) := by decide +kernel
theorem d_Se_nearestFrom_39 : decode c_Se_nearestFrom 39 = .ok (.iload_n 1, 1) := by decide +kernel
theorem d_Se_nearestFrom_40 : decode c_Se_nearestFrom 40 = .ok (.iaload, 1) := by decide +kernel
theorem d_Se_nearestFrom_41 : decode c_Se_nearestFrom 41 = .ok (.ishl, 1) := by decide +kernel
theorem d_Se_nearestFrom_42 : decode c_Se_nearestFrom 42 = .ok (.ior, 1) := by decide +kernel
theorem d_Se_nearestFrom_43 : decode c_Se_nearestFrom 43 = .ok (.istore 6, 2) := by decide +kernel
theorem d_Se_nearestFrom_45 : decode c_Se_nearestFrom 45 = .ok (.aload_n 0, 1) := by decide +kernel
theorem d_Se_nearestFrom_46 : decode c_Se_nearestFrom 46 = .ok (.iload 6, 2) := by decide +kernel
theorem d_Se_nearestFrom_48 : decode c_Se_nearestFrom 48 = .ok (.iload_n 1, 1) := by decide +kernel
theorem d_Se_nearestFrom_49 : decode c_Se_nearestFrom 49 = .ok (.invokevirtual 112, 3) := by decide +kernel
theorem d_Se_nearestFrom_52 : decode c_Se_nearestFrom 52 = .ok (.ifCond .eq 37, 3) := by decide +kernel
theorem d_Se_nearestFrom_55 : decode c_Se_nearestFrom 55 = .ok (.iload_n 3, 1) := by decide +kernel
theorem d_Se_nearestFrom_56 : decode c_Se_nearestFrom 56 = .ok (.aload_n 0, 1) := by decide +kernel
theorem d_Se_nearestFrom_57 : decode c_Se_nearestFrom 57 = .ok (.iload 6, 2) := by decide +kernel
theorem d_Se_nearestFrom_59 : decode c_Se_nearestFrom 59 = .ok (.iload_n 1, 1) := by decide +kernel
theorem d_Se_nearestFrom_60 : decode c_Se_nearestFrom 60 = .ok (.invokevirtual 116, 3) := by decide +kernel
theorem d_Se_nearestFrom_63 : decode c_Se_nearestFrom 63 = .ok (.iadd, 1) := by decide +kernel
theorem d_Se_nearestFrom_64 : decode c_Se_nearestFrom 64 = .ok (.istore 7, 2) := by decide +kernel
theorem d_Se_nearestFrom_66 : decode c_Se_nearestFrom 66 = .ok (.aload_n 0, 1) := by decide +kernel
theorem d_Se_nearestFrom_67 : decode c_Se_nearestFrom 67 = .ok (.iload 6, 2) := by decide +kernel
theorem d_Se_nearestFrom_69 : decode c_Se_nearestFrom 69 = .ok (.iload_n 1, 1) := by decide +kernel
theorem d_Se_nearestFrom_70 : decode c_Se_nearestFrom 70 = .ok (.iload 7, 2) := by decide +kernel
theorem d_Se_nearestFrom_72 : decode c_Se_nearestFrom 72 = .ok (.invokevirtual 119, 3) := by decide +kernel
theorem d_Se_nearestFrom_75 : decode c_Se_nearestFrom 75 = .ok (.ifCond .eq 14, 3) := by decide +kernel
theorem d_Se_nearestFrom_78 : decode c_Se_nearestFrom 78 = .ok (.aload_n 0, 1) := by decide +kernel
theorem d_Se_nearestFrom_79 : decode c_Se_nearestFrom 79 = .ok (.iload_n 1, 1) := by decide +kernel
theorem d_Se_nearestFrom_80 : decode c_Se_nearestFrom 80 = .ok (.iconst 1, 1) := by decide +kernel
theorem d_Se_nearestFrom_81 : decode c_Se_nearestFrom 81 = .ok (.iadd, 1) := by decide +kernel
theorem d_Se_nearestFrom_82 : decode c_Se_nearestFrom 82 = .ok (.iload 6, 2) := by decide +kernel
theorem d_Se_nearestFrom_84 : decode c_Se_nearestFrom 84 = .ok (.iload 7, 2) := by decide +kernel
theorem d_Se_nearestFrom_86 : decode c_Se_nearestFrom 86 = .ok (.invokestatic 25, 3) := by decide +kernel
theorem d_Se_nearestFrom_89 : decode c_Se_nearestFrom 89 = .ok (.iinc 5 1, 3) := by decide +kernel
theorem d_Se_nearestFrom_92 : decode c_Se_nearestFrom 92 = .ok (.goto (-67), 3) := by decide +kernel
theorem d_Se_nearestFrom_95 : decode c_Se_nearestFrom 95 = .ok (.return_, 1) := by decide +kernel
theorem d_Se_evenFrom_0 : decode c_Se_evenFrom 0 = .ok (.iload_n 1, 1) := by decide +kernel
theorem d_Se_evenFrom_1 : decode c_Se_evenFrom 1 = .ok (.aload_n 0, 1) := by decide +kernel
theorem d_Se_evenFrom_2 : decode c_Se_evenFrom 2 = .ok (.getfield 57, 3) := by decide +kernel
theorem d_Se_evenFrom_5 : decode c_Se_evenFrom 5 = .ok (.if_icmp .lt 10, 3) := by decide +kernel
theorem d_Se_evenFrom_8 : decode c_Se_evenFrom 8 = .ok (.aload_n 0, 1) := by decide +kernel
theorem d_Se_evenFrom_9 : decode c_Se_evenFrom 9 = .ok (.iload_n 2, 1) := by decide +kernel
theorem d_Se_evenFrom_10 : decode c_Se_evenFrom 10 = .ok (.iconst 0, 1) := by decide +kernel
theorem d_Se_evenFrom_11 : decode c_Se_evenFrom 11 = .ok (.invokevirtual 104, 3) := by decide +kernel
theorem d_Se_evenFrom_14 : decode c_Se_evenFrom 14 = .ok (.return_, 1) := by decide +kernel
theorem d_Se_evenFrom_15 : decode c_Se_evenFrom 15 = .ok (.aload_n 0, 1) := by decide +kernel
theorem d_Se_evenFrom_16 : decode c_Se_evenFrom 16 = .ok (.iload_n 1, 1) := by decide +kernel
theorem d_Se_evenFrom_17 : decode c_Se_evenFrom 17 = .ok (.invokevirtual 108, 3) := by decide +kernel
theorem d_Se_evenFrom_20 : decode c_Se_evenFrom 20 = .ok (.istore 4, 2) := by decide +kernel
theorem d_Se_evenFrom_22 : decode c_Se_evenFrom 22 = .ok (.iconst 0, 1) := by decide +kernel
theorem d_Se_evenFrom_23 : decode c_Se_evenFrom 23 = .ok (.istore 5, 2) := by decide +kernel
theorem d_Se_evenFrom_25 : decode c_Se_evenFrom 25 = .ok (.iload 5, 2) := by decide +kernel
theorem d_Se_evenFrom_27 : decode c_Se_evenFrom 27 = .ok (.iload 4, 2) := by decide +kernel
theorem d_Se_evenFrom_29 : decode c_Se_evenFrom 29 = .ok (.if_icmp .ge 67, 3) := by decide +kernel
theorem d_Se_evenFrom_32 : decode c_Se_evenFrom 32 = .ok (.iload_n 2, 1) := by decide +kernel
theorem d_Se_evenFrom_33 : decode c_Se_evenFrom 33 = .ok (.iload 5, 2) := by decide +kernel
theorem d_Se_evenFrom_35 : decode c_Se_evenFrom 35 = .ok (.aload_n 0, 1) := by decide +kernel
theorem d_Se_evenFrom_36 : decode c_Se_evenFrom 36 = .ok (.getfield 15, 3) := by decide +kernel
theorem d_Se_evenFrom_39 : decode c_Se_evenFrom 39 = .ok (.iload_n 1, 1) := by decide +kernel
theorem d_Se_evenFrom_40 : decode c_Se_evenFrom 40 = .ok (.iaload, 1) := by decide +kernel
theorem d_Se_evenFrom_41 : decode c_Se_evenFrom 41 = .ok (.ishl, 1) := by decide +kernel
theorem d_Se_evenFrom_42 : decode c_Se_evenFrom 42 = .ok (.ior, 1) := by decide +kernel
theorem d_Se_evenFrom_43 : decode c_Se_evenFrom 43 = .ok (.istore 6, 2) := by decide +kernel
theorem d_Se_evenFrom_45 : decode c_Se_evenFrom 45 = .ok (.aload_n 0, 1) := by decide +kernel
theorem d_Se_evenFrom_46 : decode c_Se_evenFrom 46 = .ok (.iload 6, 2) := by decide +kernel
theorem d_Se_evenFrom_48 : decode c_Se_evenFrom 48 = .ok (.iload_n 1, 1) := by decide +kernel
theorem d_Se_evenFrom_49 : decode c_Se_evenFrom 49 = .ok (.invokevirtual 123, 3) := by decide +kernel
theorem d_Se_evenFrom_52 : decode c_Se_evenFrom 52 = .ok (.iload_n 3, 1) := by decide +kernel
theorem d_Se_evenFrom_53 : decode c_Se_evenFrom 53 = .ok (.if_icmp .ne 37, 3) := by decide +kernel
theorem d_Se_evenFrom_56 : decode c_Se_evenFrom 56 = .ok (.aload_n 0, 1) := by decide +kernel
theorem d_Se_evenFrom_57 : decode c_Se_evenFrom 57 = .ok (.iload 6, 2) := by decide +kernel
theorem d_Se_evenFrom_59 : decode c_Se_evenFrom 59 = .ok (.iload_n 1, 1) := by decide +kernel
theorem d_Se_evenFrom_60 : decode c_Se_evenFrom 60 = .ok (.invokevirtual 112, 3) := by decide +kernel
theorem d_Se_evenFrom_63 : decode c_Se_evenFrom 63 = .ok (.ifCond .eq 27, 3) := by decide +kernel
theorem d_Se_evenFrom_66 : decode c_Se_evenFrom 66 = .ok (.aload_n 0, 1) := by decide +kernel
theorem d_Se_evenFrom_67 : decode c_Se_evenFrom 67 = .ok (.iload 6, 2) := by decide +kernel
theorem d_Se_evenFrom_69 : decode c_Se_evenFrom 69 = .ok (.iload_n 1, 1) := by decide +kernel
theorem d_Se_evenFrom_70 : decode c_Se_evenFrom 70 = .ok (.invokevirtual 126, 3) := by decide +kernel
theorem d_Se_evenFrom_73 : decode c_Se_evenFrom 73 = .ok (.aload_n 0, 1) := by decide +kernel
theorem d_Se_evenFrom_74 : decode c_Se_evenFrom 74 = .ok (.getfield 32, 3) := by decide +kernel
theorem d_Se_evenFrom_77 : decode c_Se_evenFrom 77 = .ok (.if_icmp .gt 13, 3) := by decide +kernel
theorem d_Se_evenFrom_80 : decode c_Se_evenFrom 80 = .ok (.aload_n 0, 1) := by decide +kernel
theorem d_Se_evenFrom_81 : decode c_Se_evenFrom 81 = .ok (.iload_n 1, 1) := by decide +kernel
theorem d_Se_evenFrom_82 : decode c_Se_evenFrom 82 = .ok (.iconst 1, 1) := by decide +kernel
theorem d_Se_evenFrom_83 : decode c_Se_evenFrom 83 = .ok (.iadd, 1) := by decide +kernel
theorem d_Se_evenFrom_84 : decode c_Se_evenFrom 84 = .ok (.iload 6, 2) := by decide +kernel
theorem d_Se_evenFrom_86 : decode c_Se_evenFrom 86 = .ok (.iload_n 3, 1) := by decide +kernel
theorem d_Se_evenFrom_87 : decode c_Se_evenFrom 87 = .ok (.invokestatic 29, 3) := by decide +kernel
theorem d_Se_evenFrom_90 : decode c_Se_evenFrom 90 = .ok (.iinc 5 1, 3) := by decide +kernel
theorem d_Se_evenFrom_93 : decode c_Se_evenFrom 93 = .ok (.goto (-68), 3) := by decide +kernel
theorem d_Se_evenFrom_96 : decode c_Se_evenFrom 96 = .ok (.return_, 1) := by decide +kernel
theorem d_Se_toldFrom_0 : decode c_Se_toldFrom 0 = .ok (.iload_n 1, 1) := by decide +kernel
theorem d_Se_toldFrom_1 : decode c_Se_toldFrom 1 = .ok (.aload_n 0, 1) := by decide +kernel
theorem d_Se_toldFrom_2 : decode c_Se_toldFrom 2 = .ok (.getfield 57, 3) := by decide +kernel
theorem d_Se_toldFrom_5 : decode c_Se_toldFrom 5 = .ok (.if_icmp .lt 10, 3) := by decide +kernel
theorem d_Se_toldFrom_8 : decode c_Se_toldFrom 8 = .ok (.aload_n 0, 1) := by decide +kernel
theorem d_Se_toldFrom_9 : decode c_Se_toldFrom 9 = .ok (.iload_n 2, 1) := by decide +kernel
theorem d_Se_toldFrom_10 : decode c_Se_toldFrom 10 = .ok (.iload_n 3, 1) := by decide +kernel
theorem d_Se_toldFrom_11 : decode c_Se_toldFrom 11 = .ok (.invokevirtual 129, 3) := by decide +kernel
theorem d_Se_toldFrom_14 : decode c_Se_toldFrom 14 = .ok (.return_, 1) := by decide +kernel
theorem d_Se_toldFrom_15 : decode c_Se_toldFrom 15 = .ok (.aload_n 0, 1) := by decide +kernel
theorem d_Se_toldFrom_16 : decode c_Se_toldFrom 16 = .ok (.iload_n 1, 1) := by decide +kernel
theorem d_Se_toldFrom_17 : decode c_Se_toldFrom 17 = .ok (.invokevirtual 108, 3) := by decide +kernel
theorem d_Se_toldFrom_20 : decode c_Se_toldFrom 20 = .ok (.istore 4, 2) := by decide +kernel
theorem d_Se_toldFrom_22 : decode c_Se_toldFrom 22 = .ok (.iconst 0, 1) := by decide +kernel
theorem d_Se_toldFrom_23 : decode c_Se_toldFrom 23 = .ok (.istore 5, 2) := by decide +kernel
theorem d_Se_toldFrom_25 : decode c_Se_toldFrom 25 = .ok (.iload 5, 2) := by decide +kernel
theorem d_Se_toldFrom_27 : decode c_Se_toldFrom 27 = .ok (.iload 4, 2) := by decide +kernel
theorem d_Se_toldFrom_29 : decode c_Se_toldFrom 29 = .ok (.if_icmp .ge 72, 3) := by decide +kernel
theorem d_Se_toldFrom_32 : decode c_Se_toldFrom 32 = .ok (.iload_n 2, 1) := by decide +kernel
theorem d_Se_toldFrom_33 : decode c_Se_toldFrom 33 = .ok (.iload 5, 2) := by decide +kernel
theorem d_Se_toldFrom_35 : decode c_Se_toldFrom 35 = .ok (.aload_n 0, 1) := by decide +kernel
theorem d_Se_toldFrom_36 : decode c_Se_toldFrom 36 = .ok (.getfield 15, 3) := by decide +kernel
theorem d_Se_toldFrom_39 : decode c_Se_toldFrom 39 = .ok (.iload_n 1, 1) := by decide +kernel
theorem d_Se_toldFrom_40 : decode c_Se_toldFrom 40 = .ok (.iaload, 1) := by decide +kernel
theorem d_Se_toldFrom_41 : decode c_Se_toldFrom 41 = .ok (.ishl, 1) := by decide +kernel
theorem d_Se_toldFrom_42 : decode c_Se_toldFrom 42 = .ok (.ior, 1) := by decide +kernel
theorem d_Se_toldFrom_43 : decode c_Se_toldFrom 43 = .ok (.istore 6, 2) := by decide +kernel
theorem d_Se_toldFrom_45 : decode c_Se_toldFrom 45 = .ok (.aload_n 0, 1) := by decide +kernel
theorem d_Se_toldFrom_46 : decode c_Se_toldFrom 46 = .ok (.iload 6, 2) := by decide +kernel
theorem d_Se_toldFrom_48 : decode c_Se_toldFrom 48 = .ok (.iload_n 1, 1) := by decide +kernel
theorem d_Se_toldFrom_49 : decode c_Se_toldFrom 49 = .ok (.invokevirtual 123, 3) := by decide +kernel
theorem d_Se_toldFrom_52 : decode c_Se_toldFrom 52 = .ok (.aload_n 0, 1) := by decide +kernel
theorem d_Se_toldFrom_53 : decode c_Se_toldFrom 53 = .ok (.getfield 18, 3) := by decide +kernel
theorem d_Se_toldFrom_56 : decode c_Se_toldFrom 56 = .ok (.iload_n 1, 1) := by decide +kernel
theorem d_Se_toldFrom_57 : decode c_Se_toldFrom 57 = .ok (.iaload, 1) := by decide +kernel
theorem d_Se_toldFrom_58 : decode c_Se_toldFrom 58 = .ok (.if_icmp .ne 7, 3) := by decide +kernel
theorem d_Se_toldFrom_61 : decode c_Se_toldFrom 61 = .ok (.iload_n 3, 1) := by decide +kernel
theorem d_Se_toldFrom_62 : decode c_Se_toldFrom 62 = .ok (.goto 8, 3) := by decide +kernel
theorem d_Se_toldFrom_65 : decode c_Se_toldFrom 65 = .ok (.iload_n 3, 1) := by decide +kernel
theorem d_Se_toldFrom_66 : decode c_Se_toldFrom 66 = .ok (.iconst 1, 1) := by decide +kernel
theorem d_Se_toldFrom_67 : decode c_Se_toldFrom 67 = .ok (.iload_n 1, 1) := by decide +kernel
theorem d_Se_toldFrom_68 : decode c_Se_toldFrom 68 = .ok (.ishl, 1) := by decide +kernel
theorem d_Se_toldFrom_69 : decode c_Se_toldFrom 69 = .ok (.ior, 1) := by decide +kernel
theorem d_Se_toldFrom_70 : decode c_Se_toldFrom 70 = .ok (.istore 7, 2) := by decide +kernel
theorem d_Se_toldFrom_72 : decode c_Se_toldFrom 72 = .ok (.iload 7, 2) := by decide +kernel
theorem d_Se_toldFrom_74 : decode c_Se_toldFrom 74 = .ok (.invokestatic 132, 3) := by decide +kernel
theorem d_Se_toldFrom_77 : decode c_Se_toldFrom 77 = .ok (.aload_n 0, 1) := by decide +kernel
theorem d_Se_toldFrom_78 : decode c_Se_toldFrom 78 = .ok (.getfield 40, 3) := by decide +kernel
theorem d_Se_toldFrom_81 : decode c_Se_toldFrom 81 = .ok (.if_icmp .gt 14, 3) := by decide +kernel
theorem d_Se_toldFrom_84 : decode c_Se_toldFrom 84 = .ok (.aload_n 0, 1) := by decide +kernel
theorem d_Se_toldFrom_85 : decode c_Se_toldFrom 85 = .ok (.iload_n 1, 1) := by decide +kernel
theorem d_Se_toldFrom_86 : decode c_Se_toldFrom 86 = .ok (.iconst 1, 1) := by decide +kernel
theorem d_Se_toldFrom_87 : decode c_Se_toldFrom 87 = .ok (.iadd, 1) := by decide +kernel
theorem d_Se_toldFrom_88 : decode c_Se_toldFrom 88 = .ok (.iload 6, 2) := by decide +kernel
theorem d_Se_toldFrom_90 : decode c_Se_toldFrom 90 = .ok (.iload 7, 2) := by decide +kernel
theorem d_Se_toldFrom_92 : decode c_Se_toldFrom 92 = .ok (.invokestatic 43, 3) := by decide +kernel
theorem d_Se_toldFrom_95 : decode c_Se_toldFrom 95 = .ok (.iinc 5 1, 3) := by decide +kernel
theorem d_Se_toldFrom_98 : decode c_Se_toldFrom 98 = .ok (.goto (-73), 3) := by decide +kernel
theorem d_Se_toldFrom_101 : decode c_Se_toldFrom 101 = .ok (.return_, 1) := by decide +kernel
theorem d_Se_rowsOf_0 : decode c_Se_rowsOf 0 = .ok (.iconst 1, 1) := by decide +kernel
theorem d_Se_rowsOf_1 : decode c_Se_rowsOf 1 = .ok (.aload_n 0, 1) := by decide +kernel
theorem d_Se_rowsOf_2 : decode c_Se_rowsOf 2 = .ok (.getfield 57, 3) := by decide +kernel
theorem d_Se_rowsOf_5 : decode c_Se_rowsOf 5 = .ok (.iconst 1, 1) := by decide +kernel
theorem d_Se_rowsOf_6 : decode c_Se_rowsOf 6 = .ok (.isub, 1) := by decide +kernel
theorem d_Se_rowsOf_7 : decode c_Se_rowsOf 7 = .ok (.iload_n 1, 1) := by decide +kernel
theorem d_Se_rowsOf_8 : decode c_Se_rowsOf 8 = .ok (.isub, 1) := by decide +kernel
theorem d_Se_rowsOf_9 : decode c_Se_rowsOf 9 = .ok (.ishl, 1) := by decide +kernel
theorem d_Se_rowsOf_10 : decode c_Se_rowsOf 10 = .ok (.ireturn, 1) := by decide +kernel
theorem d_Se_noteTold_0 : decode c_Se_noteTold 0 = .ok (.iload_n 2, 1) := by decide +kernel
theorem d_Se_noteTold_1 : decode c_Se_noteTold 1 = .ok (.ifCond .ne 36, 3) := by decide +kernel
theorem d_Se_noteTold_4 : decode c_Se_noteTold 4 = .ok (.aload_n 0, 1) := by decide +kernel
theorem d_Se_noteTold_5 : decode c_Se_noteTold 5 = .ok (.dup, 1) := by decide +kernel
theorem d_Se_noteTold_6 : decode c_Se_noteTold 6 = .ok (.getfield 89, 3) := by decide +kernel
theorem d_Se_noteTold_9 : decode c_Se_noteTold 9 = .ok (.iconst 1, 1) := by decide +kernel
theorem d_Se_noteTold_10 : decode c_Se_noteTold 10 = .ok (.iadd, 1) := by decide +kernel
theorem d_Se_noteTold_11 : decode c_Se_noteTold 11 = .ok (.putfield 89, 3) := by decide +kernel
theorem d_Se_noteTold_14 : decode c_Se_noteTold 14 = .ok (.aload_n 0, 1) := by decide +kernel
theorem d_Se_noteTold_15 : decode c_Se_noteTold 15 = .ok (.dup, 1) := by decide +kernel
theorem d_Se_noteTold_16 : decode c_Se_noteTold 16 = .ok (.getfield 92, 3) := by decide +kernel
theorem d_Se_noteTold_19 : decode c_Se_noteTold 19 = .ok (.iload_n 1, 1) := by decide +kernel
theorem d_Se_noteTold_20 : decode c_Se_noteTold 20 = .ok (.iand, 1) := by decide +kernel
theorem d_Se_noteTold_21 : decode c_Se_noteTold 21 = .ok (.putfield 92, 3) := by decide +kernel
theorem d_Se_noteTold_24 : decode c_Se_noteTold 24 = .ok (.aload_n 0, 1) := by decide +kernel
theorem d_Se_noteTold_25 : decode c_Se_noteTold 25 = .ok (.dup, 1) := by decide +kernel
theorem d_Se_noteTold_26 : decode c_Se_noteTold 26 = .ok (.getfield 95, 3) := by decide +kernel
theorem d_Se_noteTold_29 : decode c_Se_noteTold 29 = .ok (.iload_n 1, 1) := by decide +kernel
theorem d_Se_noteTold_30 : decode c_Se_noteTold 30 = .ok (.ior, 1) := by decide +kernel
theorem d_Se_noteTold_31 : decode c_Se_noteTold 31 = .ok (.putfield 95, 3) := by decide +kernel
theorem d_Se_noteTold_34 : decode c_Se_noteTold 34 = .ok (.goto 13, 3) := by decide +kernel
theorem d_Se_noteTold_37 : decode c_Se_noteTold 37 = .ok (.aload_n 0, 1) := by decide +kernel
theorem d_Se_noteTold_38 : decode c_Se_noteTold 38 = .ok (.dup, 1) := by decide +kernel
theorem d_Se_noteTold_39 : decode c_Se_noteTold 39 = .ok (.getfield 98, 3) := by decide +kernel
theorem d_Se_noteTold_42 : decode c_Se_noteTold 42 = .ok (.iload_n 2, 1) := by decide +kernel
theorem d_Se_noteTold_43 : decode c_Se_noteTold 43 = .ok (.ior, 1) := by decide +kernel
theorem d_Se_noteTold_44 : decode c_Se_noteTold 44 = .ok (.putfield 98, 3) := by decide +kernel
theorem d_Se_noteTold_47 : decode c_Se_noteTold 47 = .ok (.return_, 1) := by decide +kernel
theorem d_Se_take_0 : decode c_Se_take 0 = .ok (.aload_n 0, 1) := by decide +kernel
theorem d_Se_take_1 : decode c_Se_take 1 = .ok (.iload_n 1, 1) := by decide +kernel
theorem d_Se_take_2 : decode c_Se_take 2 = .ok (.aload_n 0, 1) := by decide +kernel
theorem d_Se_take_3 : decode c_Se_take 3 = .ok (.getfield 57, 3) := by decide +kernel
theorem d_Se_take_6 : decode c_Se_take 6 = .ok (.iconst 1, 1) := by decide +kernel
theorem d_Se_take_7 : decode c_Se_take 7 = .ok (.isub, 1) := by decide +kernel
theorem d_Se_take_8 : decode c_Se_take 8 = .ok (.invokevirtual 126, 3) := by decide +kernel
theorem d_Se_take_11 : decode c_Se_take 11 = .ok (.istore_n 3, 1) := by decide +kernel
theorem d_Se_take_12 : decode c_Se_take 12 = .ok (.iload_n 2, 1) := by decide +kernel
theorem d_Se_take_13 : decode c_Se_take 13 = .ok (.aload_n 0, 1) := by decide +kernel
theorem d_Se_take_14 : decode c_Se_take 14 = .ok (.getfield 86, 3) := by decide +kernel
theorem d_Se_take_17 : decode c_Se_take 17 = .ok (.if_icmp .lt 35, 3) := by decide +kernel
theorem d_Se_take_20 : decode c_Se_take 20 = .ok (.iload_n 2, 1) := by decide +kernel
theorem d_Se_take_21 : decode c_Se_take 21 = .ok (.aload_n 0, 1) := by decide +kernel
theorem d_Se_take_22 : decode c_Se_take 22 = .ok (.getfield 86, 3) := by decide +kernel
theorem d_Se_take_25 : decode c_Se_take 25 = .ok (.if_icmp .ne 31, 3) := by decide +kernel
theorem d_Se_take_28 : decode c_Se_take 28 = .ok (.iload_n 3, 1) := by decide +kernel
theorem d_Se_take_29 : decode c_Se_take 29 = .ok (.aload_n 0, 1) := by decide +kernel
theorem d_Se_take_30 : decode c_Se_take 30 = .ok (.getfield 32, 3) := by decide +kernel
theorem d_Se_take_33 : decode c_Se_take 33 = .ok (.if_icmp .lt 19, 3) := by decide +kernel
theorem d_Se_take_36 : decode c_Se_take 36 = .ok (.iload_n 3, 1) := by decide +kernel
theorem d_Se_take_37 : decode c_Se_take 37 = .ok (.aload_n 0, 1) := by decide +kernel
theorem d_Se_take_38 : decode c_Se_take 38 = .ok (.getfield 32, 3) := by decide +kernel
theorem d_Se_take_41 : decode c_Se_take 41 = .ok (.if_icmp .ne 15, 3) := by decide +kernel
theorem d_Se_take_44 : decode c_Se_take 44 = .ok (.iload_n 1, 1) := by decide +kernel
theorem d_Se_take_45 : decode c_Se_take 45 = .ok (.aload_n 0, 1) := by decide +kernel
theorem d_Se_take_46 : decode c_Se_take 46 = .ok (.getfield 37, 3) := by decide +kernel
theorem d_Se_take_49 : decode c_Se_take 49 = .ok (.if_icmp .ge 7, 3) := by decide +kernel
theorem d_Se_take_52 : decode c_Se_take 52 = .ok (.iconst 1, 1) := by decide +kernel
theorem d_Se_take_53 : decode c_Se_take 53 = .ok (.goto 4, 3) := by decide +kernel
theorem d_Se_take_56 : decode c_Se_take 56 = .ok (.iconst 0, 1) := by decide +kernel
theorem d_Se_take_57 : decode c_Se_take 57 = .ok (.istore 4, 2) := by decide +kernel
theorem d_Se_take_59 : decode c_Se_take 59 = .ok (.iload 4, 2) := by decide +kernel
theorem d_Se_take_61 : decode c_Se_take 61 = .ok (.ifCond .eq 18, 3) := by decide +kernel
theorem d_Se_take_64 : decode c_Se_take 64 = .ok (.aload_n 0, 1) := by decide +kernel
theorem d_Se_take_65 : decode c_Se_take 65 = .ok (.iload_n 2, 1) := by decide +kernel
theorem d_Se_take_66 : decode c_Se_take 66 = .ok (.putfield 86, 3) := by decide +kernel
theorem d_Se_take_69 : decode c_Se_take 69 = .ok (.aload_n 0, 1) := by decide +kernel
theorem d_Se_take_70 : decode c_Se_take 70 = .ok (.iload_n 3, 1) := by decide +kernel
theorem d_Se_take_71 : decode c_Se_take 71 = .ok (.putfield 32, 3) := by decide +kernel
theorem d_Se_take_74 : decode c_Se_take 74 = .ok (.aload_n 0, 1) := by decide +kernel
theorem d_Se_take_75 : decode c_Se_take 75 = .ok (.iload_n 1, 1) := by decide +kernel
theorem d_Se_take_76 : decode c_Se_take 76 = .ok (.putfield 37, 3) := by decide +kernel
theorem d_Se_take_79 : decode c_Se_take 79 = .ok (.return_, 1) := by decide +kernel
theorem d_Se_canWin_0 : decode c_Se_canWin 0 = .ok (.aload_n 0, 1) := by decide +kernel
theorem d_Se_canWin_1 : decode c_Se_canWin 1 = .ok (.getfield 57, 3) := by decide +kernel
theorem d_Se_canWin_4 : decode c_Se_canWin 4 = .ok (.iconst 1, 1) := by decide +kernel
theorem d_Se_canWin_5 : decode c_Se_canWin 5 = .ok (.if_icmp .le 11, 3) := by decide +kernel
theorem d_Se_canWin_8 : decode c_Se_canWin 8 = .ok (.iload_n 3, 1) := by decide +kernel
theorem d_Se_canWin_9 : decode c_Se_canWin 9 = .ok (.iconst 1, 1) := by decide +kernel
theorem d_Se_canWin_10 : decode c_Se_canWin 10 = .ok (.invokestatic 137, 3) := by decide +kernel
theorem d_Se_canWin_13 : decode c_Se_canWin 13 = .ok (.goto 4, 3) := by decide +kernel
theorem d_Se_canWin_16 : decode c_Se_canWin 16 = .ok (.iload_n 3, 1) := by decide +kernel
theorem d_Se_canWin_17 : decode c_Se_canWin 17 = .ok (.istore 4, 2) := by decide +kernel
theorem d_Se_canWin_19 : decode c_Se_canWin 19 = .ok (.iload 4, 2) := by decide +kernel
theorem d_Se_canWin_21 : decode c_Se_canWin 21 = .ok (.aload_n 0, 1) := by decide +kernel
theorem d_Se_canWin_22 : decode c_Se_canWin 22 = .ok (.getfield 86, 3) := by decide +kernel
theorem d_Se_canWin_25 : decode c_Se_canWin 25 = .ok (.if_icmp .lt 25, 3) := by decide +kernel
theorem d_Se_canWin_28 : decode c_Se_canWin 28 = .ok (.iload 4, 2) := by decide +kernel
theorem d_Se_canWin_30 : decode c_Se_canWin 30 = .ok (.aload_n 0, 1) := by decide +kernel
theorem d_Se_canWin_31 : decode c_Se_canWin 31 = .ok (.getfield 86, 3) := by decide +kernel
theorem d_Se_canWin_34 : decode c_Se_canWin 34 = .ok (.if_icmp .ne 20, 3) := by decide +kernel
theorem d_Se_canWin_37 : decode c_Se_canWin 37 = .ok (.aload_n 0, 1) := by decide +kernel
theorem d_Se_canWin_38 : decode c_Se_canWin 38 = .ok (.iload_n 1, 1) := by decide +kernel
theorem d_Se_canWin_39 : decode c_Se_canWin 39 = .ok (.iload_n 2, 1) := by decide +kernel
theorem d_Se_canWin_40 : decode c_Se_canWin 40 = .ok (.invokevirtual 126, 3) := by decide +kernel
theorem d_Se_canWin_43 : decode c_Se_canWin 43 = .ok (.aload_n 0, 1) := by decide +kernel
theorem d_Se_canWin_44 : decode c_Se_canWin 44 = .ok (.getfield 32, 3) := by decide +kernel
theorem d_Se_canWin_47 : decode c_Se_canWin 47 = .ok (.if_icmp .gt 7, 3) := by decide +kernel
theorem d_Se_canWin_50 : decode c_Se_canWin 50 = .ok (.iconst 1, 1) := by decide +kernel
theorem d_Se_canWin_51 : decode c_Se_canWin 51 = .ok (.goto 4, 3) := by decide +kernel
theorem d_Se_canWin_54 : decode c_Se_canWin 54 = .ok (.iconst 0, 1) := by decide +kernel
theorem d_Se_canWin_55 : decode c_Se_canWin 55 = .ok (.ireturn, 1) := by decide +kernel
theorem d_Se_countIn_0 : decode c_Se_countIn 0 = .ok (.iload_n 1, 1) := by decide +kernel
theorem d_Se_countIn_1 : decode c_Se_countIn 1 = .ok (.aload_n 0, 1) := by decide +kernel
theorem d_Se_countIn_2 : decode c_Se_countIn 2 = .ok (.getfield 9, 3) := by decide +kernel
theorem d_Se_countIn_5 : decode c_Se_countIn 5 = .ok (.iload_n 2, 1) := by decide +kernel
theorem d_Se_countIn_6 : decode c_Se_countIn 6 = .ok (.iaload, 1) := by decide +kernel
theorem d_Se_countIn_7 : decode c_Se_countIn 7 = .ok (.iand, 1) := by decide +kernel
theorem d_Se_countIn_8 : decode c_Se_countIn 8 = .ok (.invokestatic 132, 3) := by decide +kernel
theorem d_Se_countIn_11 : decode c_Se_countIn 11 = .ok (.ireturn, 1) := by decide +kernel
theorem d_Se_alikeBelow_0 : decode c_Se_alikeBelow 0 = .ok (.iconst 0, 1) := by decide +kernel
theorem d_Se_alikeBelow_1 : decode c_Se_alikeBelow 1 = .ok (.istore_n 3, 1) := by decide +kernel
theorem d_Se_alikeBelow_2 : decode c_Se_alikeBelow 2 = .ok (.iconst 0, 1) := by decide +kernel
theorem d_Se_alikeBelow_3 : decode c_Se_alikeBelow 3 = .ok (.istore 4, 2) := by decide +kernel
theorem d_Se_alikeBelow_5 : decode c_Se_alikeBelow 5 = .ok (.iload 4, 2) := by decide +kernel
theorem d_Se_alikeBelow_7 : decode c_Se_alikeBelow 7 = .ok (.iload_n 2, 1) := by decide +kernel
theorem d_Se_alikeBelow_8 : decode c_Se_alikeBelow 8 = .ok (.if_icmp .ge 28, 3) := by decide +kernel
theorem d_Se_alikeBelow_11 : decode c_Se_alikeBelow 11 = .ok (.aload_n 0, 1) := by decide +kernel
theorem d_Se_alikeBelow_12 : decode c_Se_alikeBelow 12 = .ok (.iload_n 1, 1) := by decide +kernel
theorem d_Se_alikeBelow_13 : decode c_Se_alikeBelow 13 = .ok (.iload 4, 2) := by decide +kernel
theorem d_Se_alikeBelow_15 : decode c_Se_alikeBelow 15 = .ok (.invokevirtual 123, 3) := by decide +kernel
theorem d_Se_alikeBelow_18 : decode c_Se_alikeBelow 18 = .ok (.aload_n 0, 1) := by decide +kernel
theorem d_Se_alikeBelow_19 : decode c_Se_alikeBelow 19 = .ok (.iload_n 1, 1) := by decide +kernel
theorem d_Se_alikeBelow_20 : decode c_Se_alikeBelow 20 = .ok (.iload_n 2, 1) := by decide +kernel
theorem d_Se_alikeBelow_21 : decode c_Se_alikeBelow 21 = .ok (.invokevirtual 123, 3) := by decide +kernel
theorem d_Se_alikeBelow_24 : decode c_Se_alikeBelow 24 = .ok (.if_icmp .ne 6, 3) := by decide +kernel
theorem d_Se_alikeBelow_27 : decode c_Se_alikeBelow 27 = .ok (.iinc 3 1, 3) := by decide +kernel
theorem d_Se_alikeBelow_30 : decode c_Se_alikeBelow 30 = .ok (.iinc 4 1, 3) := by decide +kernel
theorem d_Se_alikeBelow_33 : decode c_Se_alikeBelow 33 = .ok (.goto (-28), 3) := by decide +kernel
theorem d_Se_alikeBelow_36 : decode c_Se_alikeBelow 36 = .ok (.iload_n 3, 1) := by decide +kernel
theorem d_Se_alikeBelow_37 : decode c_Se_alikeBelow 37 = .ok (.ireturn, 1) := by decide +kernel
theorem d_Se_settled_0 : decode c_Se_settled 0 = .ok (.iload_n 1, 1) := by decide +kernel
theorem d_Se_settled_1 : decode c_Se_settled 1 = .ok (.ifCond .ge 7, 3) := by decide +kernel
theorem d_Se_settled_4 : decode c_Se_settled 4 = .ok (.iconst 0, 1) := by decide +kernel
theorem d_Se_settled_5 : decode c_Se_settled 5 = .ok (.goto 15, 3) := by decide +kernel
theorem d_Se_settled_8 : decode c_Se_settled 8 = .ok (.iconst 1, 1) := by decide +kernel
theorem d_Se_settled_9 : decode c_Se_settled 9 = .ok (.aload_n 0, 1) := by decide +kernel
theorem d_Se_settled_10 : decode c_Se_settled 10 = .ok (.getfield 15, 3) := by decide +kernel
theorem d_Se_settled_13 : decode c_Se_settled 13 = .ok (.iload_n 1, 1) := by decide +kernel
theorem d_Se_settled_14 : decode c_Se_settled 14 = .ok (.iconst 1, 1) := by decide +kernel
theorem d_Se_settled_15 : decode c_Se_settled 15 = .ok (.iadd, 1) := by decide +kernel
theorem d_Se_settled_16 : decode c_Se_settled 16 = .ok (.iaload, 1) := by decide +kernel
theorem d_Se_settled_17 : decode c_Se_settled 17 = .ok (.ishl, 1) := by decide +kernel
theorem d_Se_settled_18 : decode c_Se_settled 18 = .ok (.iconst 1, 1) := by decide +kernel
theorem d_Se_settled_19 : decode c_Se_settled 19 = .ok (.isub, 1) := by decide +kernel
theorem d_Se_settled_20 : decode c_Se_settled 20 = .ok (.ireturn, 1) := by decide +kernel
theorem d_Se_keepsBars_0 : decode c_Se_keepsBars 0 = .ok (.iload_n 1, 1) := by decide +kernel
theorem d_Se_keepsBars_1 : decode c_Se_keepsBars 1 = .ok (.aload_n 0, 1) := by decide +kernel
theorem d_Se_keepsBars_2 : decode c_Se_keepsBars 2 = .ok (.getfield 79, 3) := by decide +kernel
theorem d_Se_keepsBars_5 : decode c_Se_keepsBars 5 = .ok (.iand, 1) := by decide +kernel
theorem d_Se_keepsBars_6 : decode c_Se_keepsBars 6 = .ok (.ifCond .ne 24, 3) := by decide +kernel
theorem d_Se_keepsBars_9 : decode c_Se_keepsBars 9 = .ok (.aload_n 0, 1) := by decide +kernel
theorem d_Se_keepsBars_10 : decode c_Se_keepsBars 10 = .ok (.getfield 84, 3) := by decide +kernel
theorem d_Se_keepsBars_13 : decode c_Se_keepsBars 13 = .ok (.aload_n 0, 1) := by decide +kernel
theorem d_Se_keepsBars_14 : decode c_Se_keepsBars 14 = .ok (.iload_n 2, 1) := by decide +kernel
theorem d_Se_keepsBars_15 : decode c_Se_keepsBars 15 = .ok (.invokevirtual 140, 3) := by decide +kernel
theorem d_Se_keepsBars_18 : decode c_Se_keepsBars 18 = .ok (.iand, 1) := by decide +kernel
theorem d_Se_keepsBars_19 : decode c_Se_keepsBars 19 = .ok (.iload_n 1, 1) := by decide +kernel
theorem d_Se_keepsBars_20 : decode c_Se_keepsBars 20 = .ok (.iconst (-1), 1) := by decide +kernel
theorem d_Se_keepsBars_21 : decode c_Se_keepsBars 21 = .ok (.ixor, 1) := by decide +kernel
theorem d_Se_keepsBars_22 : decode c_Se_keepsBars 22 = .ok (.iand, 1) := by decide +kernel
theorem d_Se_keepsBars_23 : decode c_Se_keepsBars 23 = .ok (.ifCond .ne 7, 3) := by decide +kernel
theorem d_Se_keepsBars_26 : decode c_Se_keepsBars 26 = .ok (.iconst 1, 1) := by decide +kernel
theorem d_Se_keepsBars_27 : decode c_Se_keepsBars 27 = .ok (.goto 4, 3) := by decide +kernel
theorem d_Se_keepsBars_30 : decode c_Se_keepsBars 30 = .ok (.iconst 0, 1) := by decide +kernel
theorem d_Se_keepsBars_31 : decode c_Se_keepsBars 31 = .ok (.ireturn, 1) := by decide +kernel
theorem d_Se_priceTo_0 : decode c_Se_priceTo 0 = .ok (.iload_n 1, 1) := by decide +kernel
theorem d_Se_priceTo_1 : decode c_Se_priceTo 1 = .ok (.aload_n 0, 1) := by decide +kernel
theorem d_Se_priceTo_2 : decode c_Se_priceTo 2 = .ok (.getfield 74, 3) := by decide +kernel
theorem d_Se_priceTo_5 : decode c_Se_priceTo 5 = .ok (.ixor, 1) := by decide +kernel
theorem d_Se_priceTo_6 : decode c_Se_priceTo 6 = .ok (.aload_n 0, 1) := by decide +kernel
theorem d_Se_priceTo_7 : decode c_Se_priceTo 7 = .ok (.iload_n 2, 1) := by decide +kernel
theorem d_Se_priceTo_8 : decode c_Se_priceTo 8 = .ok (.invokevirtual 140, 3) := by decide +kernel
theorem d_Se_priceTo_11 : decode c_Se_priceTo 11 = .ok (.iand, 1) := by decide +kernel
theorem d_Se_priceTo_12 : decode c_Se_priceTo 12 = .ok (.istore_n 3, 1) := by decide +kernel
theorem d_Se_priceTo_13 : decode c_Se_priceTo 13 = .ok (.aload_n 0, 1) := by decide +kernel
theorem d_Se_priceTo_14 : decode c_Se_priceTo 14 = .ok (.getfield 61, 3) := by decide +kernel
theorem d_Se_priceTo_17 : decode c_Se_priceTo 17 = .ok (.iload_n 3, 1) := by decide +kernel
theorem d_Se_priceTo_18 : decode c_Se_priceTo 18 = .ok (.iload_n 1, 1) := by decide +kernel
theorem d_Se_priceTo_19 : decode c_Se_priceTo 19 = .ok (.iand, 1) := by decide +kernel
theorem d_Se_priceTo_20 : decode c_Se_priceTo 20 = .ok (.invokestatic 132, 3) := by decide +kernel
theorem d_Se_priceTo_23 : decode c_Se_priceTo 23 = .ok (.imul, 1) := by decide +kernel
theorem d_Se_priceTo_24 : decode c_Se_priceTo 24 = .ok (.aload_n 0, 1) := by decide +kernel
theorem d_Se_priceTo_25 : decode c_Se_priceTo 25 = .ok (.getfield 65, 3) := by decide +kernel
theorem d_Se_priceTo_28 : decode c_Se_priceTo 28 = .ok (.iload_n 3, 1) := by decide +kernel
theorem d_Se_priceTo_29 : decode c_Se_priceTo 29 = .ok (.aload_n 0, 1) := by decide +kernel
theorem d_Se_priceTo_30 : decode c_Se_priceTo 30 = .ok (.getfield 74, 3) := by decide +kernel
theorem d_Se_priceTo_33 : decode c_Se_priceTo 33 = .ok (.iand, 1) := by decide +kernel
theorem d_Se_priceTo_34 : decode c_Se_priceTo 34 = .ok (.invokestatic 132, 3) := by decide +kernel
theorem d_Se_priceTo_37 : decode c_Se_priceTo 37 = .ok (.imul, 1) := by decide +kernel
theorem d_Se_priceTo_38 : decode c_Se_priceTo 38 = .ok (.iadd, 1) := by decide +kernel
theorem d_Se_priceTo_39 : decode c_Se_priceTo 39 = .ok (.ireturn, 1) := by decide +kernel
theorem d_Te_init_0 : decode c_Te_init 0 = .ok (.aload_n 0, 1) := by decide +kernel
theorem d_Te_init_1 : decode c_Te_init 1 = .ok (.invokespecial 3, 3) := by decide +kernel
theorem d_Te_init_4 : decode c_Te_init 4 = .ok (.aload_n 0, 1) := by decide +kernel
theorem d_Te_init_5 : decode c_Te_init 5 = .ok (.sipush 400, 3) := by decide +kernel
theorem d_Te_init_8 : decode c_Te_init 8 = .ok (.newarray .byte, 2) := by decide +kernel
theorem d_Te_init_10 : decode c_Te_init 10 = .ok (.putfield 9, 3) := by decide +kernel
theorem d_Te_init_13 : decode c_Te_init 13 = .ok (.aload_n 0, 1) := by decide +kernel
theorem d_Te_init_14 : decode c_Te_init 14 = .ok (.new 15, 3) := by decide +kernel
theorem d_Te_init_17 : decode c_Te_init 17 = .ok (.dup, 1) := by decide +kernel
theorem d_Te_init_18 : decode c_Te_init 18 = .ok (.invokespecial 17, 3) := by decide +kernel
theorem d_Te_init_21 : decode c_Te_init 21 = .ok (.putfield 18, 3) := by decide +kernel
theorem d_Te_init_24 : decode c_Te_init 24 = .ok (.aload_n 0, 1) := by decide +kernel
theorem d_Te_init_25 : decode c_Te_init 25 = .ok (.iconst (-1), 1) := by decide +kernel
theorem d_Te_init_26 : decode c_Te_init 26 = .ok (.putfield 22, 3) := by decide +kernel
theorem d_Te_init_29 : decode c_Te_init 29 = .ok (.return_, 1) := by decide +kernel
theorem d_Te_length_0 : decode c_Te_length 0 = .ok (.aload_n 0, 1) := by decide +kernel
theorem d_Te_length_1 : decode c_Te_length 1 = .ok (.getfield 26, 3) := by decide +kernel
theorem d_Te_length_4 : decode c_Te_length 4 = .ok (.ireturn, 1) := by decide +kernel
theorem d_Te_draftTown_0 : decode c_Te_draftTown 0 = .ok (.aload_n 0, 1) := by decide +kernel
theorem d_Te_draftTown_1 : decode c_Te_draftTown 1 = .ok (.getfield 18, 3) := by decide +kernel
theorem d_Te_draftTown_4 : decode c_Te_draftTown 4 = .ok (.areturn, 1) := by decide +kernel
theorem d_Te_faultKind_0 : decode c_Te_faultKind 0 = .ok (.aload_n 0, 1) := by decide +kernel
theorem d_Te_faultKind_1 : decode c_Te_faultKind 1 = .ok (.getfield 29, 3) := by decide +kernel
theorem d_Te_faultKind_4 : decode c_Te_faultKind 4 = .ok (.ireturn, 1) := by decide +kernel
theorem d_Te_faultPlace_0 : decode c_Te_faultPlace 0 = .ok (.aload_n 0, 1) := by decide +kernel
theorem d_Te_faultPlace_1 : decode c_Te_faultPlace 1 = .ok (.getfield 22, 3) := by decide +kernel
theorem d_Te_faultPlace_4 : decode c_Te_faultPlace 4 = .ok (.ireturn, 1) := by decide +kernel
theorem d_Te_append_0 : decode c_Te_append 0 = .ok (.iload_n 1, 1) := by decide +kernel
theorem d_Te_append_1 : decode c_Te_append 1 = .ok (.iconst 1, 1) := by decide +kernel
theorem d_Te_append_2 : decode c_Te_append 2 = .ok (.isub, 1) := by decide +kernel
theorem d_Te_append_3 : decode c_Te_append 3 = .ok (.istore 4, 2) := by decide +kernel
theorem d_Te_append_5 : decode c_Te_append 5 = .ok (.iload 4, 2) := by decide +kernel
theorem d_Te_append_7 : decode c_Te_append 7 = .ok (.ifCond .lt 47, 3) := by decide +kernel
theorem d_Te_append_10 : decode c_Te_append 10 = .ok (.aload_n 0, 1) := by decide +kernel
theorem d_Te_append_11 : decode c_Te_append 11 = .ok (.getfield 26, 3) := by decide +kernel
theorem d_Te_append_14 : decode c_Te_append 14 = .ok (.sipush 400, 3) := by decide +kernel
theorem d_Te_append_17 : decode c_Te_append 17 = .ok (.if_icmp .ge 37, 3) := by decide +kernel
theorem d_Te_append_20 : decode c_Te_append 20 = .ok (.aload_n 0, 1) := by decide +kernel
theorem d_Te_append_21 : decode c_Te_append 21 = .ok (.getfield 9, 3) := by decide +kernel
theorem d_Te_append_24 : decode c_Te_append 24 = .ok (.aload_n 0, 1) := by decide +kernel
theorem d_Te_append_25 : decode c_Te_append 25 = .ok (.getfield 26, 3) := by decide +kernel
theorem d_Te_append_28 : decode c_Te_append 28 = .ok (.lload_n 2, 1) := by decide +kernel
theorem d_Te_append_29 : decode c_Te_append 29 = .ok (.bipush 8, 2) := by decide +kernel
theorem d_Te_append_31 : decode c_Te_append 31 = .ok (.iload 4, 2) := by decide +kernel
theorem d_Te_append_33 : decode c_Te_append 33 = .ok (.imul, 1) := by decide +kernel
theorem d_Te_append_34 : decode c_Te_append 34 = .ok (.lshr, 1) := by decide +kernel
theorem d_Te_append_35 : decode c_Te_append 35 = .ok (.l2i, 1) := by decide +kernel
theorem d_Te_append_36 : decode c_Te_append 36 = .ok (.i2b, 1) := by decide +kernel
theorem d_Te_append_37 : decode c_Te_append 37 = .ok (.bastore, 1) := by decide +kernel
theorem d_Te_append_38 : decode c_Te_append 38 = .ok (.aload_n 0, 1) := by decide +kernel
theorem d_Te_append_39 : decode c_Te_append 39 = .ok (.dup, 1) := by decide +kernel
theorem d_Te_append_40 : decode c_Te_append 40 = .ok (.getfield 26, 3) := by decide +kernel
theorem d_Te_append_43 : decode c_Te_append 43 = .ok (.iconst 1, 1) := by decide +kernel
theorem d_Te_append_44 : decode c_Te_append 44 = .ok (.iadd, 1) := by decide +kernel
theorem d_Te_append_45 : decode c_Te_append 45 = .ok (.putfield 26, 3) := by decide +kernel
theorem d_Te_append_48 : decode c_Te_append 48 = .ok (.iinc 4 (-1), 3) := by decide +kernel
theorem d_Te_append_51 : decode c_Te_append 51 = .ok (.goto (-46), 3) := by decide +kernel
theorem d_Te_append_54 : decode c_Te_append 54 = .ok (.return_, 1) := by decide +kernel
theorem d_Te_read_0 : decode c_Te_read 0 = .ok (.aload_n 0, 1) := by decide +kernel
theorem d_Te_read_1 : decode c_Te_read 1 = .ok (.iconst 0, 1) := by decide +kernel
theorem d_Te_read_2 : decode c_Te_read 2 = .ok (.putfield 32, 3) := by decide +kernel
theorem d_Te_read_5 : decode c_Te_read 5 = .ok (.aload_n 0, 1) := by decide +kernel
theorem d_Te_read_6 : decode c_Te_read 6 = .ok (.iconst 0, 1) := by decide +kernel
theorem d_Te_read_7 : decode c_Te_read 7 = .ok (.putfield 35, 3) := by decide +kernel
theorem d_Te_read_10 : decode c_Te_read 10 = .ok (.aload_n 0, 1) := by decide +kernel
theorem d_Te_read_11 : decode c_Te_read 11 = .ok (.iconst 0, 1) := by decide +kernel
theorem d_Te_read_12 : decode c_Te_read 12 = .ok (.putfield 29, 3) := by decide +kernel
theorem d_Te_read_15 : decode c_Te_read 15 = .ok (.aload_n 0, 1) := by decide +kernel
theorem d_Te_read_16 : decode c_Te_read 16 = .ok (.iconst (-1), 1) := by decide +kernel
theorem d_Te_read_17 : decode c_Te_read 17 = .ok (.putfield 22, 3) := by decide +kernel
theorem d_Te_read_20 : decode c_Te_read 20 = .ok (.aload_n 0, 1) := by decide +kernel
theorem d_Te_read_21 : decode c_Te_read 21 = .ok (.getfield 18, 3) := by decide +kernel
theorem d_Te_read_24 : decode c_Te_read 24 = .ok (.invokevirtual 39, 3) := by decide +kernel
theorem d_Te_read_27 : decode c_Te_read 27 = .ok (.aload_n 0, 1) := by decide +kernel
theorem d_Te_read_28 : decode c_Te_read 28 = .ok (.invokevirtual 42, 3) := by decide +kernel
theorem d_Te_read_31 : decode c_Te_read 31 = .ok (.iconst 0, 1) := by decide +kernel
theorem d_Te_read_32 : decode c_Te_read 32 = .ok (.istore_n 1, 1) := by decide +kernel
theorem d_Te_read_33 : decode c_Te_read 33 = .ok (.iload_n 1, 1) := by decide +kernel
theorem d_Te_read_34 : decode c_Te_read 34 = .ok (.sipush 400, 3) := by decide +kernel
theorem d_Te_read_37 : decode c_Te_read 37 = .ok (.if_icmp .ge 35, 3) := by decide +kernel
theorem d_Te_read_40 : decode c_Te_read 40 = .ok (.aload_n 0, 1) := by decide +kernel
theorem d_Te_read_41 : decode c_Te_read 41 = .ok (.getfield 32, 3) := by decide +kernel
theorem d_Te_read_44 : decode c_Te_read 44 = .ok (.aload_n 0, 1) := by decide +kernel
theorem d_Te_read_45 : decode c_Te_read 45 = .ok (.getfield 26, 3) := by decide +kernel
theorem d_Te_read_48 : decode c_Te_read 48 = .ok (.if_icmp .ge 24, 3) := by decide +kernel
theorem d_Te_read_51 : decode c_Te_read 51 = .ok (.aload_n 0, 1) := by decide +kernel
theorem d_Te_read_52 : decode c_Te_read 52 = .ok (.getfield 29, 3) := by decide +kernel
theorem d_Te_read_55 : decode c_Te_read 55 = .ok (.ifCond .ne 17, 3) := by decide +kernel
theorem d_Te_read_58 : decode c_Te_read 58 = .ok (.aload_n 0, 1) := by decide +kernel
theorem d_Te_read_59 : decode c_Te_read 59 = .ok (.invokevirtual 45, 3) := by decide +kernel
theorem d_Te_read_62 : decode c_Te_read 62 = .ok (.aload_n 0, 1) := by decide +kernel
theorem d_Te_read_63 : decode c_Te_read 63 = .ok (.invokevirtual 42, 3) := by decide +kernel
theorem d_Te_read_66 : decode c_Te_read 66 = .ok (.iinc 1 1, 3) := by decide +kernel
theorem d_Te_read_69 : decode c_Te_read 69 = .ok (.goto (-36), 3) := by decide +kernel
theorem d_Te_read_72 : decode c_Te_read 72 = .ok (.aload_n 0, 1) := by decide +kernel
theorem d_Te_read_73 : decode c_Te_read 73 = .ok (.iconst 0, 1) := by decide +kernel
theorem d_Te_read_74 : decode c_Te_read 74 = .ok (.putfield 26, 3) := by decide +kernel
theorem d_Te_read_77 : decode c_Te_read 77 = .ok (.return_, 1) := by decide +kernel
theorem d_Te_readClause_0 : decode c_Te_readClause 0 = .ok (.aload_n 0, 1) := by decide +kernel
theorem d_Te_readClause_1 : decode c_Te_readClause 1 = .ok (.getfield 32, 3) := by decide +kernel
theorem d_Te_readClause_4 : decode c_Te_readClause 4 = .ok (.istore_n 1, 1) := by decide +kernel
theorem d_Te_readClause_5 : decode c_Te_readClause 5 = .ok (.aload_n 0, 1) := by decide +kernel
theorem d_Te_readClause_6 : decode c_Te_readClause 6 = .ok (.invokevirtual 48, 3) := by decide +kernel
theorem d_Te_readClause_9 : decode c_Te_readClause 9 = .ok (.istore_n 2, 1) := by decide +kernel
theorem d_Te_readClause_10 : decode c_Te_readClause 10 = .ok (.aload_n 0, 1) := by decide +kernel
theorem d_Te_readClause_11 : decode c_Te_readClause 11 = .ok (.iload_n 2, 1) := by decide +kernel
theorem d_Te_readClause_12 : decode c_Te_readClause 12 = .ok (.invokevirtual 52, 3) := by decide +kernel
theorem d_Te_readClause_15 : decode c_Te_readClause 15 = .ok (.istore_n 3, 1) := by decide +kernel
theorem d_Te_readClause_16 : decode c_Te_readClause 16 = .ok (.iload_n 3, 1) := by decide +kernel
theorem d_Te_readClause_17 : decode c_Te_readClause 17 = .ok (.ifCond .eq 10, 3) := by decide +kernel
theorem d_Te_readClause_20 : decode c_Te_readClause 20 = .ok (.aload_n 0, 1) := by decide +kernel
theorem d_Te_readClause_21 : decode c_Te_readClause 21 = .ok (.iload_n 3, 1) := by decide +kernel
theorem d_Te_readClause_22 : decode c_Te_readClause 22 = .ok (.iload_n 1, 1) := by decide +kernel
theorem d_Te_readClause_23 : decode c_Te_readClause 23 = .ok (.invokevirtual 56, 3) := by decide +kernel
theorem d_Te_readClause_26 : decode c_Te_readClause 26 = .ok (.return_, 1) := by decide +kernel
theorem d_Te_readClause_27 : decode c_Te_readClause 27 = .ok (.iload_n 2, 1) := by decide +kernel
theorem d_Te_readClause_28 : decode c_Te_readClause 28 = .ok (.iconst 1, 1) := by decide +kernel
theorem d_Te_readClause_29 : decode c_Te_readClause 29 = .ok (.if_icmp .ne 10, 3) := by decide +kernel
theorem d_Te_readClause_32 : decode c_Te_readClause 32 = .ok (.aload_n 0, 1) := by decide +kernel
theorem d_Te_readClause_33 : decode c_Te_readClause 33 = .ok (.invokevirtual 60, 3) := by decide +kernel
theorem d_Te_readClause_36 : decode c_Te_readClause 36 = .ok (.goto 20, 3) := by decide +kernel
theorem d_Te_readClause_39 : decode c_Te_readClause 39 = .ok (.iload_n 2, 1) := by decide +kernel
theorem d_Te_readClause_40 : decode c_Te_readClause 40 = .ok (.iconst 5, 1) := by decide +kernel
theorem d_Te_readClause_41 : decode c_Te_readClause 41 = .ok (.if_icmp .ne 10, 3) := by decide +kernel
theorem d_Te_readClause_44 : decode c_Te_readClause 44 = .ok (.aload_n 0, 1) := by decide +kernel
theorem d_Te_readClause_45 : decode c_Te_readClause 45 = .ok (.invokevirtual 63, 3) := by decide +kernel
theorem d_Te_readClause_48 : decode c_Te_readClause 48 = .ok (.goto 8, 3) := by decide +kernel
theorem d_Te_readClause_51 : decode c_Te_readClause 51 = .ok (.aload_n 0, 1) := by decide +kernel
theorem d_Te_readClause_52 : decode c_Te_readClause 52 = .ok (.iload_n 2, 1) := by decide +kernel
theorem d_Te_readClause_53 : decode c_Te_readClause 53 = .ok (.invokevirtual 66, 3) := by decide +kernel
theorem d_Te_readClause_56 : decode c_Te_readClause 56 = .ok (.aload_n 0, 1) := by decide +kernel
theorem d_Te_readClause_57 : decode c_Te_readClause 57 = .ok (.getfield 29, 3) := by decide +kernel
theorem d_Te_readClause_60 : decode c_Te_readClause 60 = .ok (.ifCond .ne 7, 3) := by decide +kernel
theorem d_Te_readClause_63 : decode c_Te_readClause 63 = .ok (.aload_n 0, 1) := by decide +kernel
theorem d_Te_readClause_64 : decode c_Te_readClause 64 = .ok (.invokevirtual 70, 3) := by decide +kernel
theorem d_Te_readClause_67 : decode c_Te_readClause 67 = .ok (.return_, 1) := by decide +kernel
theorem d_Te_wordFault_0 : decode c_Te_wordFault 0 = .ok (.iload_n 1, 1) := by decide +kernel
theorem d_Te_wordFault_1 : decode c_Te_wordFault 1 = .ok (.ifCond .ne 5, 3) := by decide +kernel
theorem d_Te_wordFault_4 : decode c_Te_wordFault 4 = .ok (.iconst 1, 1) := by decide +kernel
theorem d_Te_wordFault_5 : decode c_Te_wordFault 5 = .ok (.ireturn, 1) := by decide +kernel
theorem d_Te_wordFault_6 : decode c_Te_wordFault 6 = .ok (.aload_n 0, 1) := by decide +kernel
theorem d_Te_wordFault_7 : decode c_Te_wordFault 7 = .ok (.getfield 18, 3) := by decide +kernel
theorem d_Te_wordFault_10 : decode c_Te_wordFault 10 = .ok (.getfield 73, 3) := by decide +kernel
theorem d_Te_wordFault_13 : decode c_Te_wordFault 13 = .ok (.ifCond .le 7, 3) := by decide +kernel
theorem d_Te_wordFault_16 : decode c_Te_wordFault 16 = .ok (.iconst 1, 1) := by decide +kernel
theorem d_Te_wordFault_17 : decode c_Te_wordFault 17 = .ok (.goto 4, 3) := by decide +kernel
theorem d_Te_wordFault_20 : decode c_Te_wordFault 20 = .ok (.iconst 0, 1) := by decide +kernel
theorem d_Te_wordFault_21 : decode c_Te_wordFault 21 = .ok (.istore_n 2, 1) := by decide +kernel
theorem d_Te_wordFault_22 : decode c_Te_wordFault 22 = .ok (.iload_n 2, 1) := by decide +kernel
theorem d_Te_wordFault_23 : decode c_Te_wordFault 23 = .ok (.ifCond .ne 14, 3) := by decide +kernel
theorem d_Te_wordFault_26 : decode c_Te_wordFault 26 = .ok (.iload_n 1, 1) := by decide +kernel
theorem d_Te_wordFault_27 : decode c_Te_wordFault 27 = .ok (.iconst 1, 1) := by decide +kernel
theorem d_Te_wordFault_28 : decode c_Te_wordFault 28 = .ok (.if_icmp .ne 7, 3) := by decide +kernel
theorem d_Te_wordFault_31 : decode c_Te_wordFault 31 = .ok (.iconst 0, 1) := by decide +kernel
theorem d_Te_wordFault_32 : decode c_Te_wordFault 32 = .ok (.goto 4, 3) := by decide +kernel
theorem d_Te_wordFault_35 : decode c_Te_wordFault 35 = .ok (.iconst 1, 1) := by decide +kernel
theorem d_Te_wordFault_36 : decode c_Te_wordFault 36 = .ok (.ireturn, 1) := by decide +kernel
theorem d_Te_wordFault_37 : decode c_Te_wordFault 37 = .ok (.iload_n 1, 1) := by decide +kernel
theorem d_Te_wordFault_38 : decode c_Te_wordFault 38 = .ok (.iconst 1, 1) := by decide +kernel
theorem d_Te_wordFault_39 : decode c_Te_wordFault 39 = .ok (.if_icmp .eq 15, 3) := by decide +kernel
theorem d_Te_wordFault_42 : decode c_Te_wordFault 42 = .ok (.iload_n 1, 1) := by decide +kernel
theorem d_Te_wordFault_43 : decode c_Te_wordFault 43 = .ok (.iconst 5, 1) := by decide +kernel
theorem d_Te_wordFault_44 : decode c_Te_wordFault 44 = .ok (.if_icmp .ne 14, 3) := by decide +kernel
theorem d_Te_wordFault_47 : decode c_Te_wordFault 47 = .ok (.aload_n 0, 1) := by decide +kernel
theorem d_Te_wordFault_48 : decode c_Te_wordFault 48 = .ok (.getfield 35, 3) := by decide +kernel
theorem d_Te_wordFault_51 : decode c_Te_wordFault 51 = .ok (.ifCond .eq 7, 3) := by decide +kernel
theorem d_Te_wordFault_54 : decode c_Te_wordFault 54 = .ok (.iconst 3, 1) := by decide +kernel
theorem d_Te_wordFault_55 : decode c_Te_wordFault 55 = .ok (.goto 4, 3) := by decide +kernel
theorem d_Te_wordFault_58 : decode c_Te_wordFault 58 = .ok (.iconst 0, 1) := by decide +kernel
theorem d_Te_wordFault_59 : decode c_Te_wordFault 59 = .ok (.ireturn, 1) := by decide +kernel
theorem d_Te_readPeople_0 : decode c_Te_readPeople 0 = .ok (.aload_n 0, 1) := by decide +kernel
theorem d_Te_readPeople_1 : decode c_Te_readPeople 1 = .ok (.iconst 1, 1) := by decide +kernel
theorem d_Te_readPeople_2 : decode c_Te_readPeople 2 = .ok (.bipush 8, 2) := by decide +kernel
theorem d_Te_readPeople_4 : decode c_Te_readPeople 4 = .ok (.invokevirtual 76, 3) := by decide +kernel
theorem d_Te_readPeople_7 : decode c_Te_readPeople 7 = .ok (.istore_n 1, 1) := by decide +kernel
theorem d_Te_readPeople_8 : decode c_Te_readPeople 8 = .ok (.aload_n 0, 1) := by decide +kernel
theorem d_Te_readPeople_9 : decode c_Te_readPeople 9 = .ok (.getfield 29, 3) := by decide +kernel
theorem d_Te_readPeople_12 : decode c_Te_readPeople 12 = .ok (.ifCond .ne 11, 3) := by decide +kernel
theorem d_Te_readPeople_15 : decode c_Te_readPeople 15 = .ok (.aload_n 0, 1) := by decide +kernel
theorem d_Te_readPeople_16 : decode c_Te_readPeople 16 = .ok (.getfield 18, 3) := by decide +kernel
theorem d_Te_readPeople_19 : decode c_Te_readPeople 19 = .ok (.iload_n 1, 1) := by decide +kernel
theorem d_Te_readPeople_20 : decode c_Te_readPeople 20 = .ok (.putfield 73, 3) := by decide +kernel
theorem d_Te_readPeople_23 : decode c_Te_readPeople 23 = .ok (.return_, 1) := by decide +kernel
theorem d_Te_readCost_0 : decode c_Te_readCost 0 = .ok (.aload_n 0, 1) := by decide +kernel
theorem d_Te_readCost_1 : decode c_Te_readCost 1 = .ok (.iconst 1, 1) := by decide +kernel
theorem d_Te_readCost_2 : decode c_Te_readCost 2 = .ok (.bipush 9, 2) := by decide +kernel
theorem d_Te_readCost_4 : decode c_Te_readCost 4 = .ok (.invokevirtual 76, 3) := by decide +kernel
theorem d_Te_readCost_7 : decode c_Te_readCost 7 = .ok (.istore_n 1, 1) := by decide +kernel
theorem d_Te_readCost_8 : decode c_Te_readCost 8 = .ok (.aload_n 0, 1) := by decide +kernel
theorem d_Te_readCost_9 : decode c_Te_readCost 9 = .ok (.getfield 29, 3) := by decide +kernel
theorem d_Te_readCost_12 : decode c_Te_readCost 12 = .ok (.ifCond .eq 4, 3) := by decide +kernel
theorem d_Te_readCost_15 : decode c_Te_readCost 15 = .ok (.return_, 1) := by decide +kernel
theorem d_Te_readCost_16 : decode c_Te_readCost 16 = .ok (.aload_n 0, 1) := by decide +kernel
theorem d_Te_readCost_17 : decode c_Te_readCost 17 = .ok (.iconst 1, 1) := by decide +kernel
theorem d_Te_readCost_18 : decode c_Te_readCost 18 = .ok (.bipush 9, 2) := by decide +kernel
theorem d_Te_readCost_20 : decode c_Te_readCost 20 = .ok (.invokevirtual 76, 3) := by decide +kernel
theorem d_Te_readCost_23 : decode c_Te_readCost 23 = .ok (.istore_n 2, 1) := by decide +kernel
theorem d_Te_readCost_24 : decode c_Te_readCost 24 = .ok (.aload_n 0, 1) := by decide +kernel
theorem d_Te_readCost_25 : decode c_Te_readCost 25 = .ok (.getfield 29, 3) := by decide +kernel
theorem d_Te_readCost_28 : decode c_Te_readCost 28 = .ok (.ifCond .ne 24, 3) := by decide +kernel
theorem d_Te_readCost_31 : decode c_Te_readCost 31 = .ok (.aload_n 0, 1) := by decide +kernel
theorem d_Te_readCost_32 : decode c_Te_readCost 32 = .ok (.getfield 18, 3) := by decide +kernel
theorem d_Te_readCost_35 : decode c_Te_readCost 35 = .ok (.iload_n 1, 1) := by decide +kernel
theorem d_Te_readCost_36 : decode c_Te_readCost 36 = .ok (.putfield 80, 3) := by decide +kernel
theorem d_Te_readCost_39 : decode c_Te_readCost 39 = .ok (.aload_n 0, 1) := by decide +kernel
theorem d_Te_readCost_40 : decode c_Te_readCost 40 = .ok (.getfield 18, 3) := by decide +kernel
theorem d_Te_readCost_43 : decode c_Te_readCost 43 = .ok (.iload_n 2, 1) := by decide +kernel
theorem d_Te_readCost_44 : decode c_Te_readCost 44 = .ok (.putfield 83, 3) := by decide +kernel
theorem d_Te_readCost_47 : decode c_Te_readCost 47 = .ok (.aload_n 0, 1) := by decide +kernel
theorem d_Te_readCost_48 : decode c_Te_readCost 48 = .ok (.iconst 1, 1) := by decide +kernel
theorem d_Te_readCost_49 : decode c_Te_readCost 49 = .ok (.putfield 35, 3) := by decide +kernel
theorem d_Te_readCost_52 : decode c_Te_readCost 52 = .ok (.return_, 1) := by decide +kernel
theorem d_Te_readTwo_0 : decode c_Te_readTwo 0 = .ok (.aload_n 0, 1) := by decide +kernel
theorem d_Te_readTwo_1 : decode c_Te_readTwo 1 = .ok (.iconst 0, 1) := by decide +kernel
theorem d_Te_readTwo_2 : decode c_Te_readTwo 2 = .ok (.aload_n 0, 1) := by decide +kernel
theorem d_Te_readTwo_3 : decode c_Te_readTwo 3 = .ok (.getfield 18, 3) := by decide +kernel
theorem d_Te_readTwo_6 : decode c_Te_readTwo 6 = .ok (.getfield 73, 3) := by decide +kernel
theorem d_Te_readTwo_9 : decode c_Te_readTwo 9 = .ok (.iconst 1, 1) := by decide +kernel
theorem d_Te_readTwo_10 : decode c_Te_readTwo 10 = .ok (.isub, 1) := by decide +kernel
theorem d_Te_readTwo_11 : decode c_Te_readTwo 11 = .ok (.invokevirtual 76, 3) := by decide +kernel
theorem d_Te_readTwo_14 : decode c_Te_readTwo 14 = .ok (.istore_n 2, 1) := by decide +kernel
theorem d_Te_readTwo_15 : decode c_Te_readTwo 15 = .ok (.aload_n 0, 1) := by decide +kernel
theorem d_Te_readTwo_16 : decode c_Te_readTwo 16 = .ok (.getfield 29, 3) := by decide +kernel
theorem d_Te_readTwo_19 : decode c_Te_readTwo 19 = .ok (.ifCond .eq 4, 3) := by decide +kernel
theorem d_Te_readTwo_22 : decode c_Te_readTwo 22 = .ok (.return_, 1) := by decide +kernel
theorem d_Te_readTwo_23 : decode c_Te_readTwo 23 = .ok (.aload_n 0, 1) := by decide +kernel
theorem d_Te_readTwo_24 : decode c_Te_readTwo 24 = .ok (.invokevirtual 42, 3) := by decide +kernel
theorem d_Te_readTwo_27 : decode c_Te_readTwo 27 = .ok (.aload_n 0, 1) := by decide +kernel
theorem d_Te_readTwo_28 : decode c_Te_readTwo 28 = .ok (.getfield 32, 3) := by decide +kernel
theorem d_Te_readTwo_31 : decode c_Te_readTwo 31 = .ok (.istore_n 3, 1) := by decide +kernel
theorem d_Te_readTwo_32 : decode c_Te_readTwo 32 = .ok (.aload_n 0, 1) := by decide +kernel
theorem d_Te_readTwo_33 : decode c_Te_readTwo 33 = .ok (.iconst 0, 1) := by decide +kernel
theorem d_Te_readTwo_34 : decode c_Te_readTwo 34 = .ok (.aload_n 0, 1) := by decide +kernel
theorem d_Te_readTwo_35 : decode c_Te_readTwo 35 = .ok (.getfield 18, 3) := by decide +kernel
theorem d_Te_readTwo_38 : decode c_Te_readTwo 38 = .ok (.getfield 73, 3) := by decide +kernel
theorem d_Te_readTwo_41 : decode c_Te_readTwo 41 = .ok (.iconst 1, 1) := by decide +kernel
theorem d_Te_readTwo_42 : decode c_Te_readTwo 42 = .ok (.isub, 1) := by decide +kernel
theorem d_Te_readTwo_43 : decode c_Te_readTwo 43 = .ok (.invokevirtual 76, 3) := by decide +kernel
theorem d_Te_readTwo_46 : decode c_Te_readTwo 46 = .ok (.istore 4, 2) := by decide +kernel
theorem d_Te_readTwo_48 : decode c_Te_readTwo 48 = .ok (.aload_n 0, 1) := by decide +kernel
theorem d_Te_readTwo_49 : decode c_Te_readTwo 49 = .ok (.getfield 29, 3) := by decide +kernel
theorem d_Te_readTwo_52 : decode c_Te_readTwo 52 = .ok (.ifCond .eq 4, 3) := by decide +kernel
theorem d_Te_readTwo_55 : decode c_Te_readTwo 55 = .ok (.return_, 1) := by decide +kernel
theorem d_Te_readTwo_56 : decode c_Te_readTwo 56 = .ok (.aload_n 0, 1) := by decide +kernel
theorem d_Te_readTwo_57 : decode c_Te_readTwo 57 = .ok (.getfield 18, 3) := by decide +kernel
theorem d_Te_readTwo_60 : decode c_Te_readTwo 60 = .ok (.iload_n 2, 1) := by decide +kernel
theorem d_Te_readTwo_61 : decode c_Te_readTwo 61 = .ok (.iload 4, 2) := by decide +kernel
theorem d_Te_readTwo_63 : decode c_Te_readTwo 63 = .ok (.invokevirtual 86, 3) := by decide +kernel
theorem d_Te_readTwo_66 : decode c_Te_readTwo 66 = .ok (.ifCond .eq 29, 3) := by decide +kernel
theorem d_Te_readTwo_69 : decode c_Te_readTwo 69 = .ok (.aload_n 0, 1) := by decide +kernel
theorem d_Te_readTwo_70 : decode c_Te_readTwo 70 = .ok (.getfield 18, 3) := by decide +kernel
theorem d_Te_readTwo_73 : decode c_Te_readTwo 73 = .ok (.iload_n 2, 1) := by decide +kernel
theorem d_Te_readTwo_74 : decode c_Te_readTwo 74 = .ok (.iload 4, 2) := by decide +kernel
theorem d_Te_readTwo_76 : decode c_Te_readTwo 76 = .ok (.invokevirtual 90, 3) := by decide +kernel
theorem d_Te_readTwo_79 : decode c_Te_readTwo 79 = .ok (.ifCond .ne 16, 3) := by decide +kernel
theorem d_Te_readTwo_82 : decode c_Te_readTwo 82 = .ok (.aload_n 0, 1) := by decide +kernel
theorem d_Te_readTwo_83 : decode c_Te_readTwo 83 = .ok (.getfield 18, 3) := by decide +kernel
theorem d_Te_readTwo_86 : decode c_Te_readTwo 86 = .ok (.iload_n 2, 1) := by decide +kernel
theorem d_Te_readTwo_87 : decode c_Te_readTwo 87 = .ok (.iload 4, 2) := by decide +kernel
theorem d_Te_readTwo_89 : decode c_Te_readTwo 89 = .ok (.invokevirtual 93, 3) := by decide +kernel
theorem d_Te_readTwo_92 : decode c_Te_readTwo 92 = .ok (.ifCond .eq 12, 3) := by decide +kernel
theorem d_Te_readTwo_95 : decode c_Te_readTwo 95 = .ok (.aload_n 0, 1) := by decide +kernel
theorem d_Te_readTwo_96 : decode c_Te_readTwo 96 = .ok (.iconst 4, 1) := by decide +kernel
theorem d_Te_readTwo_97 : decode c_Te_readTwo 97 = .ok (.iload_n 3, 1) := by decide +kernel
theorem d_Te_readTwo_98 : decode c_Te_readTwo 98 = .ok (.invokevirtual 56, 3) := by decide +kernel
theorem d_Te_readTwo_101 : decode c_Te_readTwo 101 = .ok (.goto 49, 3) := by decide +kernel
theorem d_Te_readTwo_104 : decode c_Te_readTwo 104 = .ok (.iload_n 1, 1) := by decide +kernel
theorem d_Te_readTwo_105 : decode c_Te_readTwo 105 = .ok (.iconst 2, 1) := by decide +kernel
theorem d_Te_readTwo_106 : decode c_Te_readTwo 106 = .ok (.if_icmp .ne 24, 3) := by decide +kernel
theorem d_Te_readTwo_109 : decode c_Te_readTwo 109 = .ok (.aload_n 0, 1) := by decide +kernel
theorem d_Te_readTwo_110 : decode c_Te_readTwo 110 = .ok (.getfield 18, 3) := by decide +kernel
theorem d_Te_readTwo_113 : decode c_Te_readTwo 113 = .ok (.aload_n 0, 1) := by decide +kernel
theorem d_Te_readTwo_114 : decode c_Te_readTwo 114 = .ok (.getfield 18, 3) := by decide +kernel
theorem d_Te_readTwo_117 : decode c_Te_readTwo 117 = .ok (.getfield 96, 3) := by decide +kernel
theorem d_Te_readTwo_120 : decode c_Te_readTwo 120 = .ok (.iload_n 2, 1) := by decide +kernel
theorem d_Te_readTwo_121 : decode c_Te_readTwo 121 = .ok (.iload 4, 2) := by decide +kernel
theorem d_Te_readTwo_123 : decode c_Te_readTwo 123 = .ok (.iconst 1, 1) := by decide +kernel
theorem d_Te_readTwo_124 : decode c_Te_readTwo 124 = .ok (.invokevirtual 100, 3) := by decide +kernel
theorem d_Te_readTwo_127 : decode c_Te_readTwo 127 = .ok (.goto 23, 3) := by decide +kernel
theorem d_Te_readTwo_130 : decode c_Te_readTwo 130 = .ok (.aload_n 0, 1) := by decide +kernel
theorem d_Te_readTwo_131 : decode c_Te_readTwo 131 = .ok (.getfield 18, 3) := by decide +kernel
theorem d_Te_readTwo_134 : decode c_Te_readTwo 134 = .ok (.iload_n 2, 1) := by decide +kernel
theorem d_Te_readTwo_135 : decode c_Te_readTwo 135 = .ok (.iload 4, 2) := by decide +kernel
theorem d_Te_readTwo_137 : decode c_Te_readTwo 137 = .ok (.iload_n 1, 1) := by decide +kernel
theorem d_Te_readTwo_138 : decode c_Te_readTwo 138 = .ok (.iconst 4, 1) := by decide +kernel
theorem d_Te_readTwo_139 : decode c_Te_readTwo 139 = .ok (.if_icmp .ne 7, 3) := by decide +kernel
theorem d_Te_readTwo_142 : decode c_Te_readTwo 142 = .ok (.iconst 2, 1) := by decide +kernel
theorem d_Te_readTwo_143 : decode c_Te_readTwo 143 = .ok (.goto 4, 3) := by decide +kernel
theorem d_Te_readTwo_146 : decode c_Te_readTwo 146 = .ok (.iconst 1, 1) := by decide +kernel
theorem d_Te_readTwo_147 : decode c_Te_readTwo 147 = .ok (.invokevirtual 104, 3) := by decide +kernel
theorem d_Te_readTwo_150 : decode c_Te_readTwo 150 = .ok (.return_, 1) := by decide +kernel
theorem d_Te_readEnd_0 : decode c_Te_readEnd 0 = .ok (.aload_n 0, 1) := by decide +kernel
theorem d_Te_readEnd_1 : decode c_Te_readEnd 1 = .ok (.invokevirtual 42, 3) := by decide +kernel
theorem d_Te_readEnd_4 : decode c_Te_readEnd 4 = .ok (.aload_n 0, 1) := by decide +kernel
theorem d_Te_readEnd_5 : decode c_Te_readEnd 5 = .ok (.getfield 32, 3) := by decide +kernel
theorem d_Te_readEnd_8 : decode c_Te_readEnd 8 = .ok (.aload_n 0, 1) := by decide +kernel
theorem d_Te_readEnd_9 : decode c_Te_readEnd 9 = .ok (.getfield 26, 3) := by decide +kernel
theorem d_Te_readEnd_12 : decode c_Te_readEnd 12 = .ok (.if_icmp .ge 30, 3) := by decide +kernel
theorem d_Te_readEnd_15 : decode c_Te_readEnd 15 = .ok (.aload_n 0, 1) := by decide +kernel
theorem d_Te_readEnd_16 : decode c_Te_readEnd 16 = .ok (.getfield 9, 3) := by decide +kernel
theorem d_Te_readEnd_19 : decode c_Te_readEnd 19 = .ok (.aload_n 0, 1) := by decide +kernel
theorem d_Te_readEnd_20 : decode c_Te_readEnd 20 = .ok (.getfield 32, 3) := by decide +kernel
theorem d_Te_readEnd_23 : decode c_Te_readEnd 23 = .ok (.baload, 1) := by decide +kernel
theorem d_Te_readEnd_24 : decode c_Te_readEnd 24 = .ok (.bipush 59, 2) := by decide +kernel
theorem d_Te_readEnd_26 : decode c_Te_readEnd 26 = .ok (.if_icmp .ne 16, 3) := by decide +kernel
theorem d_Te_readEnd_29 : decode c_Te_readEnd 29 = .ok (.aload_n 0, 1) := by decide +kernel
theorem d_Te_readEnd_30 : decode c_Te_readEnd 30 = .ok (.dup, 1) := by decide +kernel
theorem d_Te_readEnd_31 : decode c_Te_readEnd 31 = .ok (.getfield 32, 3) := by decide +kernel
theorem d_Te_readEnd_34 : decode c_Te_readEnd 34 = .ok (.iconst 1, 1) := by decide +kernel
theorem d_Te_readEnd_35 : decode c_Te_readEnd 35 = .ok (.iadd, 1) := by decide +kernel
theorem d_Te_readEnd_36 : decode c_Te_readEnd 36 = .ok (.putfield 32, 3) := by decide +kernel
theorem d_Te_readEnd_39 : decode c_Te_readEnd 39 = .ok (.goto 12, 3) := by decide +kernel
theorem d_Te_readEnd_42 : decode c_Te_readEnd 42 = .ok (.aload_n 0, 1) := by decide +kernel
theorem d_Te_readEnd_43 : decode c_Te_readEnd 43 = .ok (.iconst 1, 1) := by decide +kernel
theorem d_Te_readEnd_44 : decode c_Te_readEnd 44 = .ok (.aload_n 0, 1) := by decide +kernel
theorem d_Te_readEnd_45 : decode c_Te_readEnd 45 = .ok (.getfield 32, 3) := by decide +kernel
theorem d_Te_readEnd_48 : decode c_Te_readEnd 48 = .ok (.invokevirtual 56, 3) := by decide +kernel
theorem d_Te_readEnd_51 : decode c_Te_readEnd 51 = .ok (.return_, 1) := by decide +kernel
theorem d_Te_readWord_0 : decode c_Te_readWord 0 = .ok (.aload_n 0, 1) := by decide +kernel
theorem d_Te_readWord_1 : decode c_Te_readWord 1 = .ok (.getfield 32, 3) := by decide +kernel
theorem d_Te_readWord_4 : decode c_Te_readWord 4 = .ok (.istore_n 1, 1) := by decide +kernel
theorem d_Te_readWord_5 : decode c_Te_readWord 5 = .ok (.aload_n 0, 1) := by decide +kernel
theorem d_Te_readWord_6 : decode c_Te_readWord 6 = .ok (.getfield 32, 3) := by decide +kernel
theorem d_Te_readWord_9 : decode c_Te_readWord 9 = .ok (.aload_n 0, 1) := by decide +kernel
theorem d_Te_readWord_10 : decode c_Te_readWord 10 = .ok (.getfield 26, 3) := by decide +kernel
theorem d_Te_readWord_13 : decode c_Te_readWord 13 = .ok (.if_icmp .ge 44, 3) := by decide +kernel
theorem d_Te_readWord_16 : decode c_Te_readWord 16 = .ok (.aload_n 0, 1) := by decide +kernel
theorem d_Te_readWord_17 : decode c_Te_readWord 17 = .ok (.getfield 9, 3) := by decide +kernel
theorem d_Te_readWord_20 : decode c_Te_readWord 20 = .ok (.aload_n 0, 1) := by decide +kernel
theorem d_Te_readWord_21 : decode c_Te_readWord 21 = .ok (.getfield 32, 3) := by decide +kernel
theorem d_Te_readWord_24 : decode c_Te_readWord 24 = .ok (.baload, 1) := by decide +kernel
theorem d_Te_readWord_25 : decode c_Te_readWord 25 = .ok (.bipush 97, 2) := by decide +kernel
theorem d_Te_readWord_27 : decode c_Te_readWord 27 = .ok (.if_icmp .lt 30, 3) := by decide +kernel
theorem d_Te_readWord_30 : decode c_Te_readWord 30 = .ok (.aload_n 0, 1) := by decide +kernel
theorem d_Te_readWord_31 : decode c_Te_readWord 31 = .ok (.getfield 9, 3) := by decide +kernel
theorem d_Te_readWord_34 : decode c_Te_readWord 34 = .ok (.aload_n 0, 1) := by decide +kernel
theorem d_Te_readWord_35 : decode c_Te_readWord 35 = .ok (.getfield 32, 3) := by decide +kernel
theorem d_Te_readWord_38 : decode c_Te_readWord 38 = .ok (.baload, 1) := by decide +kernel
theorem d_Te_readWord_39 : decode c_Te_readWord 39 = .ok (.bipush 122, 2) := by decide +kernel
theorem d_Te_readWord_41 : decode c_Te_readWord 41 = .ok (.if_icmp .gt 16, 3) := by decide +kernel
theorem d_Te_readWord_44 : decode c_Te_readWord 44 = .ok (.aload_n 0, 1) := by decide +kernel
theorem d_Te_readWord_45 : decode c_Te_readWord 45 = .ok (.dup, 1) := by decide +kernel
theorem d_Te_readWord_46 : decode c_Te_readWord 46 = .ok (.getfield 32, 3) := by decide +kernel
theorem d_Te_readWord_49 : decode c_Te_readWord 49 = .ok (.iconst 1, 1) := by decide +kernel
theorem d_Te_readWord_50 : decode c_Te_readWord 50 = .ok (.iadd, 1) := by decide +kernel
theorem d_Te_readWord_51 : decode c_Te_readWord 51 = .ok (.putfield 32, 3) := by decide +kernel
theorem d_Te_readWord_54 : decode c_Te_readWord 54 = .ok (.goto (-49), 3) := by decide +kernel
theorem d_Te_readWord_57 : decode c_Te_readWord 57 = .ok (.aload_n 0, 1) := by decide +kernel
theorem d_Te_readWord_58 : decode c_Te_readWord 58 = .ok (.ldc 108, 2) := by decide +kernel
theorem d_Te_readWord_60 : decode c_Te_readWord 60 = .ok (.iload_n 1, 1) := by decide +kernel
theorem d_Te_readWord_61 : decode c_Te_readWord 61 = .ok (.invokevirtual 110, 3) := by decide +kernel
theorem d_Te_readWord_64 : decode c_Te_readWord 64 = .ok (.ifCond .eq 5, 3) := by decide +kernel
theorem d_Te_readWord_67 : decode c_Te_readWord 67 = .ok (.iconst 1, 1) := by decide +kernel
theorem d_Te_readWord_68 : decode c_Te_readWord 68 = .ok (.ireturn, 1) := by decide +kernel
theorem d_Te_readWord_69 : decode c_Te_readWord 69 = .ok (.aload_n 0, 1) := by decide +kernel
theorem d_Te_readWord_70 : decode c_Te_readWord 70 = .ok (.ldc 114, 2) := by decide +kernel
theorem d_Te_readWord_72 : decode c_Te_readWord 72 = .ok (.iload_n 1, 1) := by decide +kernel
theorem d_Te_readWord_73 : decode c_Te_readWord 73 = .ok (.invokevirtual 110, 3) := by decide +kernel
theorem d_Te_readWord_76 : decode c_Te_readWord 76 = .ok (.ifCond .eq 5, 3) := by decide +kernel
theorem d_Te_readWord_79 : decode c_Te_readWord 79 = .ok (.iconst 2, 1) := by decide +kernel
theorem d_Te_readWord_80 : decode c_Te_readWord 80 = .ok (.ireturn, 1) := by decide +kernel
theorem d_Te_readWord_81 : decode c_Te_readWord 81 = .ok (.aload_n 0, 1) := by decide +kernel
theorem d_Te_readWord_82 : decode c_Te_readWord 82 = .ok (.ldc 116, 2) := by decide +kernel
theorem d_Te_readWord_84 : decode c_Te_readWord 84 = .ok (.iload_n 1, 1) := by decide +kernel
theorem d_Te_readWord_85 : decode c_Te_readWord 85 = .ok (.invokevirtual 110, 3) := by decide +kernel
theorem d_Te_readWord_88 : decode c_Te_readWord 88 = .ok (.ifCond .eq 5, 3) := by decide +kernel
theorem d_Te_readWord_91 : decode c_Te_readWord 91 = .ok (.iconst 3, 1) := by decide +kernel
theorem d_Te_readWord_92 : decode c_Te_readWord 92 = .ok (.ireturn, 1) := by decide +kernel
theorem d_Te_readWord_93 : decode c_Te_readWord 93 = .ok (.aload_n 0, 1) := by decide +kernel
theorem d_Te_readWord_94 : decode c_Te_readWord 94 = .ok (.ldc 118, 2) := by decide +kernel
theorem d_Te_readWord_96 : decode c_Te_readWord 96 = .ok (.iload_n 1, 1) := by decide +kernel
theorem d_Te_readWord_97 : decode c_Te_readWord 97 = .ok (.invokevirtual 110, 3) := by decide +kernel
theorem d_Te_readWord_100 : decode c_Te_readWord 100 = .ok (.ifCond .eq 5, 3) := by decide +kernel
theorem d_Te_readWord_103 : decode c_Te_readWord 103 = .ok (.iconst 4, 1) := by decide +kernel
theorem d_Te_readWord_104 : decode c_Te_readWord 104 = .ok (.ireturn, 1) := by decide +kernel
theorem d_Te_readWord_105 : decode c_Te_readWord 105 = .ok (.aload_n 0, 1) := by decide +kernel
theorem d_Te_readWord_106 : decode c_Te_readWord 106 = .ok (.ldc 120, 2) := by decide +kernel
theorem d_Te_readWord_108 : decode c_Te_readWord 108 = .ok (.iload_n 1, 1) := by decide +kernel
theorem d_Te_readWord_109 : decode c_Te_readWord 109 = .ok (.invokevirtual 110, 3) := by decide +kernel
theorem d_Te_readWord_112 : decode c_Te_readWord 112 = .ok (.ifCond .eq 7, 3) := by decide +kernel
theorem d_Te_readWord_115 : decode c_Te_readWord 115 = .ok (.iconst 5, 1) := by decide +kernel
theorem d_Te_readWord_116 : decode c_Te_readWord 116 = .ok (.goto 4, 3) := by decide +kernel
theorem d_Te_readWord_119 : decode c_Te_readWord 119 = .ok (.iconst 0, 1) := by decide +kernel
theorem d_Te_readWord_120 : decode c_Te_readWord 120 = .ok (.ireturn, 1) := by decide +kernel
theorem d_Te_stands_0 : decode c_Te_stands 0 = .ok (.aload_n 0, 1) := by decide +kernel
theorem d_Te_stands_1 : decode c_Te_stands 1 = .ok (.getfield 32, 3) := by decide +kernel
theorem d_Te_stands_4 : decode c_Te_stands 4 = .ok (.iload_n 2, 1) := by decide +kernel
theorem d_Te_stands_5 : decode c_Te_stands 5 = .ok (.isub, 1) := by decide +kernel
theorem d_Te_stands_6 : decode c_Te_stands 6 = .ok (.aload_n 1, 1) := by decide +kernel
theorem d_Te_stands_7 : decode c_Te_stands 7 = .ok (.invokevirtual 122, 3) := by decide +kernel
theorem d_Te_stands_10 : decode c_Te_stands 10 = .ok (.if_icmp .eq 5, 3) := by decide +kernel
theorem d_Te_stands_13 : decode c_Te_stands 13 = .ok (.iconst 0, 1) := by decide +kernel
theorem d_Te_stands_14 : decode c_Te_stands 14 = .ok (.ireturn, 1) := by decide +kernel
theorem d_Te_stands_15 : decode c_Te_stands 15 = .ok (.iconst 0, 1) := by decide +kernel
theorem d_Te_stands_16 : decode c_Te_stands 16 = .ok (.istore_n 3, 1) := by decide +kernel
theorem d_Te_stands_17 : decode c_Te_stands 17 = .ok (.iload_n 3, 1) := by decide +kernel
theorem d_Te_stands_18 : decode c_Te_stands 18 = .ok (.aload_n 1, 1) := by decide +kernel
theorem d_Te_stands_19 : decode c_Te_stands 19 = .ok (.invokevirtual 122, 3) := by decide +kernel
theorem d_Te_stands_22 : decode c_Te_stands 22 = .ok (.if_icmp .ge 27, 3) := by decide +kernel
theorem d_Te_stands_25 : decode c_Te_stands 25 = .ok (.aload_n 0, 1) := by decide +kernel
theorem d_Te_stands_26 : decode c_Te_stands 26 = .ok (.getfield 9, 3) := by decide +kernel
theorem d_Te_stands_29 : decode c_Te_stands 29 = .ok (.iload_n 2, 1) := by decide +kernel
theorem d_Te_stands_30 : decode c_Te_stands 30 = .ok (.iload_n 3, 1) := by decide +kernel
theorem d_Te_stands_31 : decode c_Te_stands 31 = .ok (.iadd, 1) := by decide +kernel
theorem d_Te_stands_32 : decode c_Te_stands 32 = .ok (.baload, 1) := by decide +kernel
theorem d_Te_stands_33 : decode c_Te_stands 33 = .ok (.aload_n 1, 1) := by decide +kernel
theorem d_Te_stands_34 : decode c_Te_stands 34 = .ok (.iload_n 3, 1) := by decide +kernel
theorem d_Te_stands_35 : decode c_Te_stands 35 = .ok (.invokevirtual 126, 3) := by decide +kernel
theorem d_Te_stands_38 : decode c_Te_stands 38 = .ok (.if_icmp .eq 5, 3) := by decide +kernel
theorem d_Te_stands_41 : decode c_Te_stands 41 = .ok (.iconst 0, 1) := by decide +kernel
theorem d_Te_stands_42 : decode c_Te_stands 42 = .ok (.ireturn, 1) := by decide +kernel
theorem d_Te_stands_43 : decode c_Te_stands 43 = .ok (.iinc 3 1, 3) := by decide +kernel
theorem d_Te_stands_46 : decode c_Te_stands 46 = .ok (.goto (-29), 3) := by decide +kernel
theorem d_Te_stands_49 : decode c_Te_stands 49 = .ok (.iconst 1, 1) := by decide +kernel
theorem d_Te_stands_50 : decode c_Te_stands 50 = .ok (.ireturn, 1) := by decide +kernel
theorem d_Te_readNumber_0 : decode c_Te_readNumber 0 = .ok (.aload_n 0, 1) := by decide +kernel
theorem d_Te_readNumber_1 : decode c_Te_readNumber 1 = .ok (.invokevirtual 42, 3) := by decide +kernel
theorem d_Te_readNumber_4 : decode c_Te_readNumber 4 = .ok (.aload_n 0, 1) := by decide +kernel
theorem d_Te_readNumber_5 : decode c_Te_readNumber 5 = .ok (.getfield 32, 3) := by decide +kernel
theorem d_Te_readNumber_8 : decode c_Te_readNumber 8 = .ok (.istore_n 3, 1) := by decide +kernel
theorem d_Te_readNumber_9 : decode c_Te_readNumber 9 = .ok (.iconst 0, 1) := by decide +kernel
theorem d_Te_readNumber_10 : decode c_Te_readNumber 10 = .ok (.istore 4, 2) := by decide +kernel
theorem d_Te_readNumber_12 : decode c_Te_readNumber 12 = .ok (.aload_n 0, 1) := by decide +kernel
theorem d_Te_readNumber_13 : decode c_Te_readNumber 13 = .ok (.getfield 32, 3) := by decide +kernel
theorem d_Te_readNumber_16 : decode c_Te_readNumber 16 = .ok (.aload_n 0, 1) := by decide +kernel
theorem d_Te_readNumber_17 : decode c_Te_readNumber 17 = .ok (.getfield 26, 3) := by decide +kernel
theorem d_Te_readNumber_20 : decode c_Te_readNumber 20 = .ok (.if_icmp .ge 74, 3) := by decide +kernel
theorem d_Te_readNumber_23 : decode c_Te_readNumber 23 = .ok (.aload_n 0, 1) := by decide +kernel
theorem d_Te_readNumber_24 : decode c_Te_readNumber 24 = .ok (.getfield 9, 3) := by decide +kernel
theorem d_Te_readNumber_27 : decode c_Te_readNumber 27 = .ok (.aload_n 0, 1) := by decide +kernel
theorem d_Te_readNumber_28 : decode c_Te_readNumber 28 = .ok (.getfield 32, 3) := by decide +kernel
theorem d_Te_readNumber_31 : decode c_Te_readNumber 31 = .ok (.baload, 1) := by decide +kernel
theorem d_Te_readNumber_32 : decode c_Te_readNumber 32 = .ok (.bipush 48, 2) := by decide +kernel
theorem d_Te_readNumber_34 : decode c_Te_readNumber 34 = .ok (.if_icmp .lt 60, 3) := by decide +kernel
theorem d_Te_readNumber_37 : decode c_Te_readNumber 37 = .ok (.aload_n 0, 1) := by decide +kernel
theorem d_Te_readNumber_38 : decode c_Te_readNumber 38 = .ok (.getfield 9, 3) := by decide +kernel
theorem d_Te_readNumber_41 : decode c_Te_readNumber 41 = .ok (.aload_n 0, 1) := by decide +kernel
theorem d_Te_readNumber_42 : decode c_Te_readNumber 42 = .ok (.getfield 32, 3) := by decide +kernel
theorem d_Te_readNumber_45 : decode c_Te_readNumber 45 = .ok (.baload, 1) := by decide +kernel
theorem d_Te_readNumber_46 : decode c_Te_readNumber 46 = .ok (.bipush 57, 2) := by decide +kernel
theorem d_Te_readNumber_48 : decode c_Te_readNumber 48 = .ok (.if_icmp .gt 46, 3) := by decide +kernel
theorem d_Te_readNumber_51 : decode c_Te_readNumber 51 = .ok (.aload_n 0, 1) := by decide +kernel
theorem d_Te_readNumber_52 : decode c_Te_readNumber 52 = .ok (.getfield 32, 3) := by decide +kernel
theorem d_Te_readNumber_55 : decode c_Te_readNumber 55 = .ok (.iload_n 3, 1) := by decide +kernel
theorem d_Te_readNumber_56 : decode c_Te_readNumber 56 = .ok (.isub, 1) := by decide +kernel
theorem d_Te_readNumber_57 : decode c_Te_readNumber 57 = .ok (.iconst 3, 1) := by decide +kernel
theorem d_Te_readNumber_58 : decode c_Te_readNumber 58 = .ok (.if_icmp .ge 23, 3) := by decide +kernel
theorem d_Te_readNumber_61 : decode c_Te_readNumber 61 = .ok (.iload 4, 2) := by decide +kernel
theorem d_Te_readNumber_63 : decode c_Te_readNumber 63 = .ok (.bipush 10, 2) := by decide +kernel
theorem d_Te_readNumber_65 : decode c_Te_readNumber 65 = .ok (.imul, 1) := by decide +kernel
theorem d_Te_readNumber_66 : decode c_Te_readNumber 66 = .ok (.aload_n 0, 1) := by decide +kernel
theorem d_Te_readNumber_67 : decode c_Te_readNumber 67 = .ok (.getfield 9, 3) := by decide +kernel
theorem d_Te_readNumber_70 : decode c_Te_readNumber 70 = .ok (.aload_n 0, 1) := by decide +kernel
theorem d_Te_readNumber_71 : decode c_Te_readNumber 71 = .ok (.getfield 32, 3) := by decide +kernel
theorem d_Te_readNumber_74 : decode c_Te_readNumber 74 = .ok (.baload, 1) := by decide +kernel
theorem d_Te_readNumber_75 : decode c_Te_readNumber 75 = .ok (.iadd, 1) := by decide +kernel
theorem d_Te_readNumber_76 : decode c_Te_readNumber 76 = .ok (.bipush 48, 2) := by decide +kernel
theorem d_Te_readNumber_78 : decode c_Te_readNumber 78 = .ok (.isub, 1) := by decide +kernel
theorem d_Te_readNumber_79 : decode c_Te_readNumber 79 = .ok (.istore 4, 2) := by decide +kernel
theorem d_Te_readNumber_81 : decode c_Te_readNumber 81 = .ok (.aload_n 0, 1) := by decide +kernel
theorem d_Te_readNumber_82 : decode c_Te_readNumber 82 = .ok (.dup, 1) := by decide +kernel
theorem d_Te_readNumber_83 : decode c_Te_readNumber 83 = .ok (.getfield 32, 3) := by decide +kernel
theorem d_Te_readNumber_86 : decode c_Te_readNumber 86 = .ok (.iconst 1, 1) := by decide +kernel
theorem d_Te_readNumber_87 : decode c_Te_readNumber 87 = .ok (.iadd, 1) := by decide +kernel
theorem d_Te_readNumber_88 : decode c_Te_readNumber 88 = .ok (.putfield 32, 3) := by decide +kernel
theorem d_Te_readNumber_91 : decode c_Te_readNumber 91 = .ok (.goto (-79), 3) := by decide +kernel
theorem d_Te_readNumber_94 : decode c_Te_readNumber 94 = .ok (.aload_n 0, 1) := by decide +kernel
theorem d_Te_readNumber_95 : decode c_Te_readNumber 95 = .ok (.getfield 32, 3) := by decide +kernel
theorem d_Te_readNumber_98 : decode c_Te_readNumber 98 = .ok (.iload_n 3, 1) := by decide +kernel
theorem d_Te_readNumber_99 : decode c_Te_readNumber 99 = .ok (.if_icmp .ne 12, 3) := by decide +kernel
theorem d_Te_readNumber_102 : decode c_Te_readNumber 102 = .ok (.aload_n 0, 1) := by decide +kernel
theorem d_Te_readNumber_103 : decode c_Te_readNumber 103 = .ok (.iconst 1, 1) := by decide +kernel
theorem d_Te_readNumber_104 : decode c_Te_readNumber 104 = .ok (.iload_n 3, 1) := by decide +kernel
theorem d_Te_readNumber_105 : decode c_Te_readNumber 105 = .ok (.invokevirtual 56, 3) := by decide +kernel
theorem d_Te_readNumber_108 : decode c_Te_readNumber 108 = .ok (.goto 31, 3) := by decide +kernel
theorem d_Te_readNumber_111 : decode c_Te_readNumber 111 = .ok (.aload_n 0, 1) := by decide +kernel
theorem d_Te_readNumber_112 : decode c_Te_readNumber 112 = .ok (.getfield 32, 3) := by decide +kernel
theorem d_Te_readNumber_115 : decode c_Te_readNumber 115 = .ok (.iload_n 3, 1) := by decide +kernel
theorem d_Te_readNumber_116 : decode c_Te_readNumber 116 = .ok (.isub, 1) := by decide +kernel
theorem d_Te_readNumber_117 : decode c_Te_readNumber 117 = .ok (.iconst 3, 1) := by decide +kernel
theorem d_Te_readNumber_118 : decode c_Te_readNumber 118 = .ok (.if_icmp .gt 15, 3) := by decide +kernel
theorem d_Te_readNumber_121 : decode c_Te_readNumber 121 = .ok (.iload 4, 2) := by decide +kernel
theorem d_Te_readNumber_123 : decode c_Te_readNumber 123 = .ok (.iload_n 1, 1) := by decide +kernel
theorem d_Te_readNumber_124 : decode c_Te_readNumber 124 = .ok (.if_icmp .lt 9, 3) := by decide +kernel
theorem d_Te_readNumber_127 : decode c_Te_readNumber 127 = .ok (.iload 4, 2) := by decide +kernel
theorem d_Te_readNumber_129 : decode c_Te_readNumber 129 = .ok (.iload_n 2, 1) := by decide +kernel
theorem d_Te_readNumber_130 : decode c_Te_readNumber 130 = .ok (.if_icmp .le 9, 3) := by decide +kernel
theorem d_Te_readNumber_133 : decode c_Te_readNumber 133 = .ok (.aload_n 0, 1) := by decide +kernel
theorem d_Te_readNumber_134 : decode c_Te_readNumber 134 = .ok (.iconst 2, 1) := by decide +kernel
theorem d_Te_readNumber_135 : decode c_Te_readNumber 135 = .ok (.iload_n 3, 1) := by decide +kernel
theorem d_Te_readNumber_136 : decode c_Te_readNumber 136 = .ok (.invokevirtual 56, 3) := by decide +kernel
theorem d_Te_readNumber_139 : decode c_Te_readNumber 139 = .ok (.iload 4, 2) := by decide +kernel
theorem d_Te_readNumber_141 : decode c_Te_readNumber 141 = .ok (.ireturn, 1) := by decide +kernel
theorem d_Te_skipBlanks_0 : decode c_Te_skipBlanks 0 = .ok (.aload_n 0, 1) := by decide +kernel
theorem d_Te_skipBlanks_1 : decode c_Te_skipBlanks 1 = .ok (.getfield 32, 3) := by decide +kernel
theorem d_Te_skipBlanks_4 : decode c_Te_skipBlanks 4 = .ok (.aload_n 0, 1) := by decide +kernel
theorem d_Te_skipBlanks_5 : decode c_Te_skipBlanks 5 = .ok (.getfield 26, 3) := by decide +kernel
theorem d_Te_skipBlanks_8 : decode c_Te_skipBlanks 8 = .ok (.if_icmp .ge 30, 3) := by decide +kernel
theorem d_Te_skipBlanks_11 : decode c_Te_skipBlanks 11 = .ok (.aload_n 0, 1) := by decide +kernel
theorem d_Te_skipBlanks_12 : decode c_Te_skipBlanks 12 = .ok (.getfield 9, 3) := by decide +kernel
theorem d_Te_skipBlanks_15 : decode c_Te_skipBlanks 15 = .ok (.aload_n 0, 1) := by decide +kernel
theorem d_Te_skipBlanks_16 : decode c_Te_skipBlanks 16 = .ok (.getfield 32, 3) := by decide +kernel
theorem d_Te_skipBlanks_19 : decode c_Te_skipBlanks 19 = .ok (.baload, 1) := by decide +kernel
theorem d_Te_skipBlanks_20 : decode c_Te_skipBlanks 20 = .ok (.bipush 32, 2) := by decide +kernel
theorem d_Te_skipBlanks_22 : decode c_Te_skipBlanks 22 = .ok (.if_icmp .ne 16, 3) := by decide +kernel
theorem d_Te_skipBlanks_25 : decode c_Te_skipBlanks 25 = .ok (.aload_n 0, 1) := by decide +kernel
theorem d_Te_skipBlanks_26 : decode c_Te_skipBlanks 26 = .ok (.dup, 1) := by decide +kernel
theorem d_Te_skipBlanks_27 : decode c_Te_skipBlanks 27 = .ok (.getfield 32, 3) := by decide +kernel
theorem d_Te_skipBlanks_30 : decode c_Te_skipBlanks 30 = .ok (.iconst 1, 1) := by decide +kernel
theorem d_Te_skipBlanks_31 : decode c_Te_skipBlanks 31 = .ok (.iadd, 1) := by decide +kernel
theorem d_Te_skipBlanks_32 : decode c_Te_skipBlanks 32 = .ok (.putfield 32, 3) := by decide +kernel
theorem d_Te_skipBlanks_35 : decode c_Te_skipBlanks 35 = .ok (.goto (-35), 3) := by decide +kernel
theorem d_Te_skipBlanks_38 : decode c_Te_skipBlanks 38 = .ok (.return_, 1) := by decide +kernel
theorem d_Te_blame_0 : decode c_Te_blame 0 = .ok (.aload_n 0, 1) := by decide +kernel
theorem d_Te_blame_1 : decode c_Te_blame 1 = .ok (.iload_n 1, 1) := by decide +kernel
theorem d_Te_blame_2 : decode c_Te_blame 2 = .ok (.putfield 29, 3) := by decide +kernel
theorem d_Te_blame_5 : decode c_Te_blame 5 = .ok (.aload_n 0, 1) := by decide +kernel
theorem d_Te_blame_6 : decode c_Te_blame 6 = .ok (.iload_n 2, 1) := by decide +kernel
theorem d_Te_blame_7 : decode c_Te_blame 7 = .ok (.putfield 22, 3) := by decide +kernel
theorem d_Te_blame_10 : decode c_Te_blame 10 = .ok (.return_, 1) := by decide +kernel
theorem d_To_init_0 : decode c_To_init 0 = .ok (.aload_n 0, 1) := by decide +kernel
theorem d_To_init_1 : decode c_To_init 1 = .ok (.invokespecial 3, 3) := by decide +kernel
theorem d_To_init_4 : decode c_To_init 4 = .ok (.aload_n 0, 1) := by decide +kernel
theorem d_To_init_5 : decode c_To_init 5 = .ok (.iconst 1, 1) := by decide +kernel
theorem d_To_init_6 : decode c_To_init 6 = .ok (.putfield 9, 3) := by decide +kernel
theorem d_To_init_9 : decode c_To_init 9 = .ok (.aload_n 0, 1) := by decide +kernel
theorem d_To_init_10 : decode c_To_init 10 = .ok (.iconst 1, 1) := by decide +kernel
theorem d_To_init_11 : decode c_To_init 11 = .ok (.putfield 15, 3) := by decide +kernel
theorem d_To_init_14 : decode c_To_init 14 = .ok (.aload_n 0, 1) := by decide +kernel
theorem d_To_init_15 : decode c_To_init 15 = .ok (.bipush 8, 2) := by decide +kernel
theorem d_To_init_17 : decode c_To_init 17 = .ok (.newarray .int, 2) := by decide +kernel
theorem d_To_init_19 : decode c_To_init 19 = .ok (.putfield 18, 3) := by decide +kernel
theorem d_To_init_22 : decode c_To_init 22 = .ok (.aload_n 0, 1) := by decide +kernel
theorem d_To_init_23 : decode c_To_init 23 = .ok (.bipush 8, 2) := by decide +kernel
theorem d_To_init_25 : decode c_To_init 25 = .ok (.newarray .int, 2) := by decide +kernel
theorem d_To_init_27 : decode c_To_init 27 = .ok (.putfield 22, 3) := by decide +kernel
theorem d_To_init_30 : decode c_To_init 30 = .ok (.aload_n 0, 1) := by decide +kernel
theorem d_To_init_31 : decode c_To_init 31 = .ok (.bipush 8, 2) := by decide +kernel
theorem d_To_init_33 : decode c_To_init 33 = .ok (.newarray .int, 2) := by decide +kernel
theorem d_To_init_35 : decode c_To_init 35 = .ok (.putfield 25, 3) := by decide +kernel
theorem d_To_init_38 : decode c_To_init 38 = .ok (.aload_n 0, 1) := by decide +kernel
theorem d_To_init_39 : decode c_To_init 39 = .ok (.bipush 8, 2) := by decide +kernel
theorem d_To_init_41 : decode c_To_init 41 = .ok (.newarray .int, 2) := by decide +kernel
theorem d_To_init_43 : decode c_To_init 43 = .ok (.putfield 28, 3) := by decide +kernel
theorem d_To_init_46 : decode c_To_init 46 = .ok (.return_, 1) := by decide +kernel
theorem d_To_clear_0 : decode c_To_clear 0 = .ok (.aload_n 0, 1) := by decide +kernel
theorem d_To_clear_1 : decode c_To_clear 1 = .ok (.iconst 0, 1) := by decide +kernel
theorem d_To_clear_2 : decode c_To_clear 2 = .ok (.putfield 31, 3) := by decide +kernel
theorem d_To_clear_5 : decode c_To_clear 5 = .ok (.aload_n 0, 1) := by decide +kernel
theorem d_To_clear_6 : decode c_To_clear 6 = .ok (.iconst 1, 1) := by decide +kernel
theorem d_To_clear_7 : decode c_To_clear 7 = .ok (.putfield 9, 3) := by decide +kernel
theorem d_To_clear_10 : decode c_To_clear 10 = .ok (.aload_n 0, 1) := by decide +kernel
theorem d_To_clear_11 : decode c_To_clear 11 = .ok (.iconst 1, 1) := by decide +kernel
theorem d_To_clear_12 : decode c_To_clear 12 = .ok (.putfield 15, 3) := by decide +kernel
theorem d_To_clear_15 : decode c_To_clear 15 = .ok (.iconst 0, 1) := by decide +kernel
theorem d_To_clear_16 : decode c_To_clear 16 = .ok (.istore_n 1, 1) := by decide +kernel
theorem d_To_clear_17 : decode c_To_clear 17 = .ok (.iload_n 1, 1) := by decide +kernel
theorem d_To_clear_18 : decode c_To_clear 18 = .ok (.bipush 8, 2) := by decide +kernel
theorem d_To_clear_20 : decode c_To_clear 20 = .ok (.if_icmp .ge 14, 3) := by decide +kernel
theorem d_To_clear_23 : decode c_To_clear 23 = .ok (.aload_n 0, 1) := by decide +kernel
theorem d_To_clear_24 : decode c_To_clear 24 = .ok (.iload_n 1, 1) := by decide +kernel
theorem d_To_clear_25 : decode c_To_clear 25 = .ok (.invokevirtual 34, 3) := by decide +kernel
theorem d_To_clear_28 : decode c_To_clear 28 = .ok (.iinc 1 1, 3) := by decide +kernel
theorem d_To_clear_31 : decode c_To_clear 31 = .ok (.goto (-14), 3) := by decide +kernel
theorem d_To_clear_34 : decode c_To_clear 34 = .ok (.return_, 1) := by decide +kernel
theorem d_To_forget_0 : decode c_To_forget 0 = .ok (.aload_n 0, 1) := by decide +kernel
theorem d_To_forget_1 : decode c_To_forget 1 = .ok (.getfield 18, 3) := by decide +kernel
theorem d_To_forget_4 : decode c_To_forget 4 = .ok (.iload_n 1, 1) := by decide +kernel
theorem d_To_forget_5 : decode c_To_forget 5 = .ok (.iconst 0, 1) := by decide +kernel
theorem d_To_forget_6 : decode c_To_forget 6 = .ok (.iastore, 1) := by decide +kernel
theorem d_To_forget_7 : decode c_To_forget 7 = .ok (.aload_n 0, 1) := by decide +kernel
theorem d_To_forget_8 : decode c_To_forget 8 = .ok (.getfield 22, 3) := by decide +kernel
theorem d_To_forget_11 : decode c_To_forget 11 = .ok (.iload_n 1, 1) := by decide +kernel
theorem d_To_forget_12 : decode c_To_forget 12 = .ok (.iconst 0, 1) := by decide +kernel
theorem d_To_forget_13 : decode c_To_forget 13 = .ok (.iastore, 1) := by decide +kernel
theorem d_To_forget_14 : decode c_To_forget 14 = .ok (.aload_n 0, 1) := by decide +kernel
theorem d_To_forget_15 : decode c_To_forget 15 = .ok (.getfield 25, 3) := by decide +kernel
theorem d_To_forget_18 : decode c_To_forget 18 = .ok (.iload_n 1, 1) := by decide +kernel
theorem d_To_forget_19 : decode c_To_forget 19 = .ok (.iconst 0, 1) := by decide +kernel
theorem d_To_forget_20 : decode c_To_forget 20 = .ok (.iastore, 1) := by decide +kernel
theorem d_To_forget_21 : decode c_To_forget 21 = .ok (.aload_n 0, 1) := by decide +kernel
theorem d_To_forget_22 : decode c_To_forget 22 = .ok (.getfield 28, 3) := by decide +kernel
theorem d_To_forget_25 : decode c_To_forget 25 = .ok (.iload_n 1, 1) := by decide +kernel
theorem d_To_forget_26 : decode c_To_forget 26 = .ok (.iconst 0, 1) := by decide +kernel
theorem d_To_forget_27 : decode c_To_forget 27 = .ok (.iastore, 1) := by decide +kernel
theorem d_To_forget_28 : decode c_To_forget 28 = .ok (.return_, 1) := by decide +kernel
theorem d_To_copyFrom_0 : decode c_To_copyFrom 0 = .ok (.aload_n 0, 1) := by decide +kernel
theorem d_To_copyFrom_1 : decode c_To_copyFrom 1 = .ok (.aload_n 1, 1) := by decide +kernel
theorem d_To_copyFrom_2 : decode c_To_copyFrom 2 = .ok (.getfield 31, 3) := by decide +kernel
theorem d_To_copyFrom_5 : decode c_To_copyFrom 5 = .ok (.putfield 31, 3) := by decide +kernel
theorem d_To_copyFrom_8 : decode c_To_copyFrom 8 = .ok (.aload_n 0, 1) := by decide +kernel
theorem d_To_copyFrom_9 : decode c_To_copyFrom 9 = .ok (.aload_n 1, 1) := by decide +kernel
theorem d_To_copyFrom_10 : decode c_To_copyFrom 10 = .ok (.getfield 9, 3) := by decide +kernel
theorem d_To_copyFrom_13 : decode c_To_copyFrom 13 = .ok (.putfield 9, 3) := by decide +kernel
theorem d_To_copyFrom_16 : decode c_To_copyFrom 16 = .ok (.aload_n 0, 1) := by decide +kernel
theorem d_To_copyFrom_17 : decode c_To_copyFrom 17 = .ok (.aload_n 1, 1) := by decide +kernel
theorem d_To_copyFrom_18 : decode c_To_copyFrom 18 = .ok (.getfield 15, 3) := by decide +kernel
theorem d_To_copyFrom_21 : decode c_To_copyFrom 21 = .ok (.putfield 15, 3) := by decide +kernel
theorem d_To_copyFrom_24 : decode c_To_copyFrom 24 = .ok (.iconst 0, 1) := by decide +kernel
theorem d_To_copyFrom_25 : decode c_To_copyFrom 25 = .ok (.istore_n 2, 1) := by decide +kernel
theorem d_To_copyFrom_26 : decode c_To_copyFrom 26 = .ok (.iload_n 2, 1) := by decide +kernel
theorem d_To_copyFrom_27 : decode c_To_copyFrom 27 = .ok (.bipush 8, 2) := by decide +kernel
theorem d_To_copyFrom_29 : decode c_To_copyFrom 29 = .ok (.if_icmp .ge 57, 3) := by decide +kernel
theorem d_To_copyFrom_32 : decode c_To_copyFrom 32 = .ok (.aload_n 0, 1) := by decide +kernel
theorem d_To_copyFrom_33 : decode c_To_copyFrom 33 = .ok (.getfield 18, 3) := by decide +kernel
theorem d_To_copyFrom_36 : decode c_To_copyFrom 36 = .ok (.iload_n 2, 1) := by decide +kernel
theorem d_To_copyFrom_37 : decode c_To_copyFrom 37 = .ok (.aload_n 1, 1) := by decide +kernel
theorem d_To_copyFrom_38 : decode c_To_copyFrom 38 = .ok (.getfield 18, 3) := by decide +kernel
theorem d_To_copyFrom_41 : decode c_To_copyFrom 41 = .ok (.iload_n 2, 1) := by decide +kernel
theorem d_To_copyFrom_42 : decode c_To_copyFrom 42 = .ok (.iaload, 1) := by decide +kernel
theorem d_To_copyFrom_43 : decode c_To_copyFrom 43 = .ok (.iastore, 1) := by decide +kernel
theorem d_To_copyFrom_44 : decode c_To_copyFrom 44 = .ok (.aload_n 0, 1) := by decide +kernel
theorem d_To_copyFrom_45 : decode c_To_copyFrom 45 = .ok (.getfield 22, 3) := by decide +kernel
theorem d_To_copyFrom_48 : decode c_To_copyFrom 48 = .ok (.iload_n 2, 1) := by decide +kernel
theorem d_To_copyFrom_49 : decode c_To_copyFrom 49 = .ok (.aload_n 1, 1) := by decide +kernel
theorem d_To_copyFrom_50 : decode c_To_copyFrom 50 = .ok (.getfield 22, 3) := by decide +kernel
theorem d_To_copyFrom_53 : decode c_To_copyFrom 53 = .ok (.iload_n 2, 1) := by decide +kernel
theorem d_To_copyFrom_54 : decode c_To_copyFrom 54 = .ok (.iaload, 1) := by decide +kernel
theorem d_To_copyFrom_55 : decode c_To_copyFrom 55 = .ok (.iastore, 1) := by decide +kernel
theorem d_To_copyFrom_56 : decode c_To_copyFrom 56 = .ok (.aload_n 0, 1) := by decide +kernel
theorem d_To_copyFrom_57 : decode c_To_copyFrom 57 = .ok (.getfield 25, 3) := by decide +kernel
theorem d_To_copyFrom_60 : decode c_To_copyFrom 60 = .ok (.iload_n 2, 1) := by decide +kernel
theorem d_To_copyFrom_61 : decode c_To_copyFrom 61 = .ok (.aload_n 1, 1) := by decide +kernel
theorem d_To_copyFrom_62 : decode c_To_copyFrom 62 = .ok (.getfield 25, 3) := by decide +kernel
theorem d_To_copyFrom_65 : decode c_To_copyFrom 65 = .ok (.iload_n 2, 1) := by decide +kernel
theorem d_To_copyFrom_66 : decode c_To_copyFrom 66 = .ok (.iaload, 1) := by decide +kernel
theorem d_To_copyFrom_67 : decode c_To_copyFrom 67 = .ok (.iastore, 1) := by decide +kernel
theorem d_To_copyFrom_68 : decode c_To_copyFrom 68 = .ok (.aload_n 0, 1) := by decide +kernel
theorem d_To_copyFrom_69 : decode c_To_copyFrom 69 = .ok (.getfield 28, 3) := by decide +kernel
theorem d_To_copyFrom_72 : decode c_To_copyFrom 72 = .ok (.iload_n 2, 1) := by decide +kernel
theorem d_To_copyFrom_73 : decode c_To_copyFrom 73 = .ok (.aload_n 1, 1) := by decide +kernel
theorem d_To_copyFrom_74 : decode c_To_copyFrom 74 = .ok (.getfield 28, 3) := by decide +kernel
theorem d_To_copyFrom_77 : decode c_To_copyFrom 77 = .ok (.iload_n 2, 1) := by decide +kernel
theorem d_To_copyFrom_78 : decode c_To_copyFrom 78 = .ok (.iaload, 1) := by decide +kernel
theorem d_To_copyFrom_79 : decode c_To_copyFrom 79 = .ok (.iastore, 1) := by decide +kernel
theorem d_To_copyFrom_80 : decode c_To_copyFrom 80 = .ok (.iinc 2 1, 3) := by decide +kernel
theorem d_To_copyFrom_83 : decode c_To_copyFrom 83 = .ok (.goto (-57), 3) := by decide +kernel
theorem d_To_copyFrom_86 : decode c_To_copyFrom 86 = .ok (.return_, 1) := by decide +kernel
theorem d_To_has_0 : decode c_To_has 0 = .ok (.iload_n 1, 1) := by decide +kernel
theorem d_To_has_1 : decode c_To_has 1 = .ok (.ifCond .lt 15, 3) := by decide +kernel
theorem d_To_has_4 : decode c_To_has 4 = .ok (.iload_n 1, 1) := by decide +kernel
theorem d_To_has_5 : decode c_To_has 5 = .ok (.aload_n 0, 1) := by decide +kernel
theorem d_To_has_6 : decode c_To_has 6 = .ok (.getfield 31, 3) := by decide +kernel
theorem d_To_has_9 : decode c_To_has 9 = .ok (.if_icmp .ge 7, 3) := by decide +kernel
theorem d_To_has_12 : decode c_To_has 12 = .ok (.iconst 1, 1) := by decide +kernel
theorem d_To_has_13 : decode c_To_has 13 = .ok (.goto 4, 3) := by decide +kernel
theorem d_To_has_16 : decode c_To_has 16 = .ok (.iconst 0, 1) := by decide +kernel
theorem d_To_has_17 : decode c_To_has 17 = .ok (.ireturn, 1) := by decide +kernel
theorem d_To_hasTwo_0 : decode c_To_hasTwo 0 = .ok (.aload_n 0, 1) := by decide +kernel
theorem d_To_hasTwo_1 : decode c_To_hasTwo 1 = .ok (.iload_n 1, 1) := by decide +kernel
theorem d_To_hasTwo_2 : decode c_To_hasTwo 2 = .ok (.invokevirtual 38, 3) := by decide +kernel
theorem d_To_hasTwo_5 : decode c_To_hasTwo 5 = .ok (.ifCond .eq 20, 3) := by decide +kernel
theorem d_To_hasTwo_8 : decode c_To_hasTwo 8 = .ok (.aload_n 0, 1) := by decide +kernel
theorem d_To_hasTwo_9 : decode c_To_hasTwo 9 = .ok (.iload_n 2, 1) := by decide +kernel
theorem d_To_hasTwo_10 : decode c_To_hasTwo 10 = .ok (.invokevirtual 38, 3) := by decide +kernel
theorem d_To_hasTwo_13 : decode c_To_hasTwo 13 = .ok (.ifCond .eq 12, 3) := by decide +kernel
theorem d_To_hasTwo_16 : decode c_To_hasTwo 16 = .ok (.iload_n 1, 1) := by decide +kernel
theorem d_To_hasTwo_17 : decode c_To_hasTwo 17 = .ok (.iload_n 2, 1) := by decide +kernel
theorem d_To_hasTwo_18 : decode c_To_hasTwo 18 = .ok (.if_icmp .eq 7, 3) := by decide +kernel
theorem d_To_hasTwo_21 : decode c_To_hasTwo 21 = .ok (.iconst 1, 1) := by decide +kernel
theorem d_To_hasTwo_22 : decode c_To_hasTwo 22 = .ok (.goto 4, 3) := by decide +kernel
theorem d_To_hasTwo_25 : decode c_To_hasTwo 25 = .ok (.iconst 0, 1) := by decide +kernel
theorem d_To_hasTwo_26 : decode c_To_hasTwo 26 = .ok (.ireturn, 1) := by decide +kernel
theorem d_To_areFriends_0 : decode c_To_areFriends 0 = .ok (.aload_n 0, 1) := by decide +kernel
theorem d_To_areFriends_1 : decode c_To_areFriends 1 = .ok (.getfield 18, 3) := by decide +kernel
theorem d_To_areFriends_4 : decode c_To_areFriends 4 = .ok (.iload_n 1, 1) := by decide +kernel
theorem d_To_areFriends_5 : decode c_To_areFriends 5 = .ok (.iaload, 1) := by decide +kernel
theorem d_To_areFriends_6 : decode c_To_areFriends 6 = .ok (.iload_n 2, 1) := by decide +kernel
theorem d_To_areFriends_7 : decode c_To_areFriends 7 = .ok (.ishr, 1) := by decide +kernel
theorem d_To_areFriends_8 : decode c_To_areFriends 8 = .ok (.iconst 1, 1) := by decide +kernel
theorem d_To_areFriends_9 : decode c_To_areFriends 9 = .ok (.iand, 1) := by decide +kernel
theorem d_To_areFriends_10 : decode c_To_areFriends 10 = .ok (.iconst 1, 1) := by decide +kernel
theorem d_To_areFriends_11 : decode c_To_areFriends 11 = .ok (.if_icmp .ne 7, 3) := by decide +kernel
theorem d_To_areFriends_14 : decode c_To_areFriends 14 = .ok (.iconst 1, 1) := by decide +kernel
theorem d_To_areFriends_15 : decode c_To_areFriends 15 = .ok (.goto 4, 3) := by decide +kernel
theorem d_To_areFriends_18 : decode c_To_areFriends 18 = .ok (.iconst 0, 1) := by decide +kernel
theorem d_To_areFriends_19 : decode c_To_areFriends 19 = .ok (.ireturn, 1) := by decide +kernel
theorem d_To_countOf_0 : decode c_To_countOf 0 = .ok (.aload_n 0, 1) := by decide +kernel
theorem d_To_countOf_1 : decode c_To_countOf 1 = .ok (.getfield 18, 3) := by decide +kernel
theorem d_To_countOf_4 : decode c_To_countOf 4 = .ok (.iload_n 1, 1) := by decide +kernel
theorem d_To_countOf_5 : decode c_To_countOf 5 = .ok (.iaload, 1) := by decide +kernel
theorem d_To_countOf_6 : decode c_To_countOf 6 = .ok (.invokestatic 42, 3) := by decide +kernel
theorem d_To_countOf_9 : decode c_To_countOf 9 = .ok (.ireturn, 1) := by decide +kernel
theorem d_To_friendships_0 : decode c_To_friendships 0 = .ok (.iconst 0, 1) := by decide +kernel
theorem d_To_friendships_1 : decode c_To_friendships 1 = .ok (.istore_n 1, 1) := by decide +kernel
theorem d_To_friendships_2 : decode c_To_friendships 2 = .ok (.iconst 0, 1) := by decide +kernel
theorem d_To_friendships_3 : decode c_To_friendships 3 = .ok (.istore_n 2, 1) := by decide +kernel
theorem d_To_friendships_4 : decode c_To_friendships 4 = .ok (.iload_n 2, 1) := by decide +kernel
theorem d_To_friendships_5 : decode c_To_friendships 5 = .ok (.aload_n 0, 1) := by decide +kernel
theorem d_To_friendships_6 : decode c_To_friendships 6 = .ok (.getfield 31, 3) := by decide +kernel
theorem d_To_friendships_9 : decode c_To_friendships 9 = .ok (.if_icmp .ge 17, 3) := by decide +kernel
theorem d_To_friendships_12 : decode c_To_friendships 12 = .ok (.iload_n 1, 1) := by decide +kernel
theorem d_To_friendships_13 : decode c_To_friendships 13 = .ok (.aload_n 0, 1) := by decide +kernel
theorem d_To_friendships_14 : decode c_To_friendships 14 = .ok (.iload_n 2, 1) := by decide +kernel
theorem d_To_friendships_15 : decode c_To_friendships 15 = .ok (.invokevirtual 48, 3) := by decide +kernel
theorem d_To_friendships_18 : decode c_To_friendships 18 = .ok (.iadd, 1) := by decide +kernel
theorem d_To_friendships_19 : decode c_To_friendships 19 = .ok (.istore_n 1, 1) := by decide +kernel
theorem d_To_friendships_20 : decode c_To_friendships 20 = .ok (.iinc 2 1, 3) := by decide +kernel
theorem d_To_friendships_23 : decode c_To_friendships 23 = .ok (.goto (-19), 3) := by decide +kernel
theorem d_To_friendships_26 : decode c_To_friendships 26 = .ok (.iload_n 1, 1) := by decide +kernel
theorem d_To_friendships_27 : decode c_To_friendships 27 = .ok (.iconst 2, 1) := by decide +kernel
theorem d_To_friendships_28 : decode c_To_friendships 28 = .ok (.idiv, 1) := by decide +kernel
theorem d_To_friendships_29 : decode c_To_friendships 29 = .ok (.ireturn, 1) := by decide +kernel
theorem d_To_pairNumber_0 : decode c_To_pairNumber 0 = .ok (.iload_n 1, 1) := by decide +kernel
theorem d_To_pairNumber_1 : decode c_To_pairNumber 1 = .ok (.iload_n 2, 1) := by decide +kernel
theorem d_To_pairNumber_2 : decode c_To_pairNumber 2 = .ok (.invokestatic 51, 3) := by decide +kernel
theorem d_To_pairNumber_5 : decode c_To_pairNumber 5 = .ok (.istore_n 3, 1) := by decide +kernel
theorem d_To_pairNumber_6 : decode c_To_pairNumber 6 = .ok (.iload_n 1, 1) := by decide +kernel
theorem d_To_pairNumber_7 : decode c_To_pairNumber 7 = .ok (.iload_n 2, 1) := by decide +kernel
theorem d_To_pairNumber_8 : decode c_To_pairNumber 8 = .ok (.invokestatic 57, 3) := by decide +kernel
theorem d_To_pairNumber_11 : decode c_To_pairNumber 11 = .ok (.istore 4, 2) := by decide +kernel
theorem d_To_pairNumber_13 : decode c_To_pairNumber 13 = .ok (.iload_n 3, 1) := by decide +kernel
theorem d_To_pairNumber_14 : decode c_To_pairNumber 14 = .ok (.iconst 2, 1) := by decide +kernel
theorem d_To_pairNumber_15 : decode c_To_pairNumber 15 = .ok (.aload_n 0, 1) := by decide +kernel
theorem d_To_pairNumber_16 : decode c_To_pairNumber 16 = .ok (.getfield 31, 3) := by decide +kernel
theorem d_To_pairNumber_19 : decode c_To_pairNumber 19 = .ok (.imul, 1) := by decide +kernel
theorem d_To_pairNumber_20 : decode c_To_pairNumber 20 = .ok (.iload_n 3, 1) := by decide +kernel
theorem d_To_pairNumber_21 : decode c_To_pairNumber 21 = .ok (.isub, 1) := by decide +kernel
theorem d_To_pairNumber_22 : decode c_To_pairNumber 22 = .ok (.iconst 1, 1) := by decide +kernel
theorem d_To_pairNumber_23 : decode c_To_pairNumber 23 = .ok (.isub, 1) := by decide +kernel
theorem d_To_pairNumber_24 : decode c_To_pairNumber 24 = .ok (.imul, 1) := by decide +kernel
theorem d_To_pairNumber_25 : decode c_To_pairNumber 25 = .ok (.iconst 2, 1) := by decide +kernel
theorem d_To_pairNumber_26 : decode c_To_pairNumber 26 = .ok (.idiv, 1) := by decide +kernel
theorem d_To_pairNumber_27 : decode c_To_pairNumber 27 = .ok (.iload 4, 2) := by decide +kernel
theorem d_To_pairNumber_29 : decode c_To_pairNumber 29 = .ok (.iadd, 1) := by decide +kernel
theorem d_To_pairNumber_30 : decode c_To_pairNumber 30 = .ok (.iload_n 3, 1) := by decide +kernel
theorem d_To_pairNumber_31 : decode c_To_pairNumber 31 = .ok (.isub, 1) := by decide +kernel
theorem d_To_pairNumber_32 : decode c_To_pairNumber 32 = .ok (.iconst 1, 1) := by decide +kernel
theorem d_To_pairNumber_33 : decode c_To_pairNumber 33 = .ok (.isub, 1) := by decide +kernel
theorem d_To_pairNumber_34 : decode c_To_pairNumber 34 = .ok (.ireturn, 1) := by decide +kernel
theorem d_To_asNumber_0 : decode c_To_asNumber 0 = .ok (.iconst 0, 1) := by decide +kernel
theorem d_To_asNumber_1 : decode c_To_asNumber 1 = .ok (.istore_n 2, 1) := by decide +kernel
theorem d_To_asNumber_2 : decode c_To_asNumber 2 = .ok (.iconst 1, 1) := by decide +kernel
theorem d_To_asNumber_3 : decode c_To_asNumber 3 = .ok (.istore_n 3, 1) := by decide +kernel
theorem d_To_asNumber_4 : decode c_To_asNumber 4 = .ok (.iconst 0, 1) := by decide +kernel
theorem d_To_asNumber_5 : decode c_To_asNumber 5 = .ok (.istore 4, 2) := by decide +kernel
theorem d_To_asNumber_7 : decode c_To_asNumber 7 = .ok (.iload 4, 2) := by decide +kernel
theorem d_To_asNumber_9 : decode c_To_asNumber 9 = .ok (.aload_n 0, 1) := by decide +kernel
theorem d_To_asNumber_10 : decode c_To_asNumber 10 = .ok (.getfield 31, 3) := by decide +kernel
theorem d_To_asNumber_13 : decode c_To_asNumber 13 = .ok (.if_icmp .ge 51, 3) := by decide +kernel
theorem d_To_asNumber_16 : decode c_To_asNumber 16 = .ok (.iload 4, 2) := by decide +kernel
theorem d_To_asNumber_18 : decode c_To_asNumber 18 = .ok (.iconst 1, 1) := by decide +kernel
theorem d_To_asNumber_19 : decode c_To_asNumber 19 = .ok (.iadd, 1) := by decide +kernel
theorem d_To_asNumber_20 : decode c_To_asNumber 20 = .ok (.istore 5, 2) := by decide +kernel
theorem d_To_asNumber_22 : decode c_To_asNumber 22 = .ok (.iload 5, 2) := by decide +kernel
theorem d_To_asNumber_24 : decode c_To_asNumber 24 = .ok (.aload_n 0, 1) := by decide +kernel
theorem d_To_asNumber_25 : decode c_To_asNumber 25 = .ok (.getfield 31, 3) := by decide +kernel
theorem d_To_asNumber_28 : decode c_To_asNumber 28 = .ok (.if_icmp .ge 30, 3) := by decide +kernel
theorem d_To_asNumber_31 : decode c_To_asNumber 31 = .ok (.aload_n 1, 1) := by decide +kernel
theorem d_To_asNumber_32 : decode c_To_asNumber 32 = .ok (.iload 4, 2) := by decide +kernel
theorem d_To_asNumber_34 : decode c_To_asNumber 34 = .ok (.iaload, 1) := by decide +kernel
theorem d_To_asNumber_35 : decode c_To_asNumber 35 = .ok (.iload 5, 2) := by decide +kernel
theorem d_To_asNumber_37 : decode c_To_asNumber 37 = .ok (.ishr, 1) := by decide +kernel
theorem d_To_asNumber_38 : decode c_To_asNumber 38 = .ok (.iconst 1, 1) := by decide +kernel
theorem d_To_asNumber_39 : decode c_To_asNumber 39 = .ok (.iand, 1) := by decide +kernel
theorem d_To_asNumber_40 : decode c_To_asNumber 40 = .ok (.iconst 1, 1) := by decide +kernel
theorem d_To_asNumber_41 : decode c_To_asNumber 41 = .ok (.if_icmp .ne 7, 3) := by decide +kernel
theorem d_To_asNumber_44 : decode c_To_asNumber 44 = .ok (.iload_n 2, 1) := by decide +kernel
theorem d_To_asNumber_45 : decode c_To_asNumber 45 = .ok (.iload_n 3, 1) := by decide +kernel
theorem d_To_asNumber_46 : decode c_To_asNumber 46 = .ok (.ior, 1) := by decide +kernel
theorem d_To_asNumber_47 : decode c_To_asNumber 47 = .ok (.istore_n 2, 1) := by decide +kernel
theorem d_To_asNumber_48 : decode c_To_asNumber 48 = .ok (.iload_n 3, 1) := by decide +kernel
theorem d_To_asNumber_49 : decode c_To_asNumber 49 = .ok (.iconst 1, 1) := by decide +kernel
theorem d_To_asNumber_50 : decode c_To_asNumber 50 = .ok (.ishl, 1) := by decide +kernel
theorem d_To_asNumber_51 : decode c_To_asNumber 51 = .ok (.istore_n 3, 1) := by decide +kernel
theorem d_To_asNumber_52 : decode c_To_asNumber 52 = .ok (.iinc 5 1, 3) := by decide +kernel
theorem d_To_asNumber_55 : decode c_To_asNumber 55 = .ok (.goto (-33), 3) := by decide +kernel
theorem d_To_asNumber_58 : decode c_To_asNumber 58 = .ok (.iinc 4 1, 3) := by decide +kernel
theorem d_To_asNumber_61 : decode c_To_asNumber 61 = .ok (.goto (-54), 3) := by decide +kernel
theorem d_To_asNumber_64 : decode c_To_asNumber 64 = .ok (.iload_n 2, 1) := by decide +kernel
theorem d_To_asNumber_65 : decode c_To_asNumber 65 = .ok (.ireturn, 1) := by decide +kernel
theorem d_To_friendsIn_0 : decode c_To_friendsIn 0 = .ok (.iconst 0, 1) := by decide +kernel
theorem d_To_friendsIn_1 : decode c_To_friendsIn 1 = .ok (.istore_n 3, 1) := by decide +kernel
theorem d_To_friendsIn_2 : decode c_To_friendsIn 2 = .ok (.iconst 0, 1) := by decide +kernel
theorem d_To_friendsIn_3 : decode c_To_friendsIn 3 = .ok (.istore 4, 2) := by decide +kernel
theorem d_To_friendsIn_5 : decode c_To_friendsIn 5 = .ok (.iload 4, 2) := by decide +kernel
theorem d_To_friendsIn_7 : decode c_To_friendsIn 7 = .ok (.aload_n 0, 1) := by decide +kernel
theorem d_To_friendsIn_8 : decode c_To_friendsIn 8 = .ok (.getfield 31, 3) := by decide +kernel
theorem d_To_friendsIn_11 : decode c_To_friendsIn 11 = .ok (.if_icmp .ge 37, 3) := by decide +kernel
theorem d_To_friendsIn_14 : decode c_To_friendsIn 14 = .ok (.iload 4, 2) := by decide +kernel
theorem d_To_friendsIn_16 : decode c_To_friendsIn 16 = .ok (.iload_n 2, 1) := by decide +kernel
theorem d_To_friendsIn_17 : decode c_To_friendsIn 17 = .ok (.if_icmp .eq 25, 3) := by decide +kernel
theorem d_To_friendsIn_20 : decode c_To_friendsIn 20 = .ok (.iload_n 1, 1) := by decide +kernel
theorem d_To_friendsIn_21 : decode c_To_friendsIn 21 = .ok (.aload_n 0, 1) := by decide +kernel
theorem d_To_friendsIn_22 : decode c_To_friendsIn 22 = .ok (.iload_n 2, 1) := by decide +kernel
theorem d_To_friendsIn_23 : decode c_To_friendsIn 23 = .ok (.iload 4, 2) := by decide +kernel
theorem d_To_friendsIn_25 : decode c_To_friendsIn 25 = .ok (.invokevirtual 60, 3) := by decide +kernel
theorem d_To_friendsIn_28 : decode c_To_friendsIn 28 = .ok (.ishr, 1) := by decide +kernel
theorem d_To_friendsIn_29 : decode c_To_friendsIn 29 = .ok (.iconst 1, 1) := by decide +kernel
theorem d_To_friendsIn_30 : decode c_To_friendsIn 30 = .ok (.iand, 1) := by decide +kernel
theorem d_To_friendsIn_31 : decode c_To_friendsIn 31 = .ok (.iconst 1, 1) := by decide +kernel
theorem d_To_friendsIn_32 : decode c_To_friendsIn 32 = .ok (.if_icmp .ne 10, 3) := by decide +kernel
theorem d_To_friendsIn_35 : decode c_To_friendsIn 35 = .ok (.iload_n 3, 1) := by decide +kernel
theorem d_To_friendsIn_36 : decode c_To_friendsIn 36 = .ok (.iconst 1, 1) := by decide +kernel
theorem d_To_friendsIn_37 : decode c_To_friendsIn 37 = .ok (.iload 4, 2) := by decide +kernel
theorem d_To_friendsIn_39 : decode c_To_friendsIn 39 = .ok (.ishl, 1) := by decide +kernel
theorem d_To_friendsIn_40 : decode c_To_friendsIn 40 = .ok (.ior, 1) := by decide +kernel
theorem d_To_friendsIn_41 : decode c_To_friendsIn 41 = .ok (.istore_n 3, 1) := by decide +kernel
theorem d_To_friendsIn_42 : decode c_To_friendsIn 42 = .ok (.iinc 4 1, 3) := by decide +kernel
theorem d_To_friendsIn_45 : decode c_To_friendsIn 45 = .ok (.goto (-40), 3) := by decide +kernel
theorem d_To_friendsIn_48 : decode c_To_friendsIn 48 = .ok (.iload_n 3, 1) := by decide +kernel
theorem d_To_friendsIn_49 : decode c_To_friendsIn 49 = .ok (.ireturn, 1) := by decide +kernel
theorem d_To_alikeWith_0 : decode c_To_alikeWith 0 = .ok (.iconst 0, 1) := by decide +kernel
theorem d_To_alikeWith_1 : decode c_To_alikeWith 1 = .ok (.istore_n 2, 1) := by decide +kernel
theorem d_To_alikeWith_2 : decode c_To_alikeWith 2 = .ok (.iconst 0, 1) := by decide +kernel
theorem d_To_alikeWith_3 : decode c_To_alikeWith 3 = .ok (.istore_n 3, 1) := by decide +kernel
theorem d_To_alikeWith_4 : decode c_To_alikeWith 4 = .ok (.iload_n 3, 1) := by decide +kernel
theorem d_To_alikeWith_5 : decode c_To_alikeWith 5 = .ok (.aload_n 0, 1) := by decide +kernel
theorem d_To_alikeWith_6 : decode c_To_alikeWith 6 = .ok (.getfield 31, 3) := by decide +kernel
theorem d_To_alikeWith_9 : decode c_To_alikeWith 9 = .ok (.if_icmp .ge 33, 3) := by decide +kernel
theorem d_To_alikeWith_12 : decode c_To_alikeWith 12 = .ok (.iload_n 3, 1) := by decide +kernel
theorem d_To_alikeWith_13 : decode c_To_alikeWith 13 = .ok (.iload_n 1, 1) := by decide +kernel
theorem d_To_alikeWith_14 : decode c_To_alikeWith 14 = .ok (.if_icmp .eq 22, 3) := by decide +kernel
theorem d_To_alikeWith_17 : decode c_To_alikeWith 17 = .ok (.aload_n 0, 1) := by decide +kernel
theorem d_To_alikeWith_18 : decode c_To_alikeWith 18 = .ok (.iload_n 3, 1) := by decide +kernel
theorem d_To_alikeWith_19 : decode c_To_alikeWith 19 = .ok (.invokevirtual 48, 3) := by decide +kernel
theorem d_To_alikeWith_22 : decode c_To_alikeWith 22 = .ok (.aload_n 0, 1) := by decide +kernel
theorem d_To_alikeWith_23 : decode c_To_alikeWith 23 = .ok (.iload_n 1, 1) := by decide +kernel
theorem d_To_alikeWith_24 : decode c_To_alikeWith 24 = .ok (.invokevirtual 48, 3) := by decide +kernel
theorem d_To_alikeWith_27 : decode c_To_alikeWith 27 = .ok (.if_icmp .ne 9, 3) := by decide +kernel
theorem d_To_alikeWith_30 : decode c_To_alikeWith 30 = .ok (.iload_n 2, 1) := by decide +kernel
theorem d_To_alikeWith_31 : decode c_To_alikeWith 31 = .ok (.iconst 1, 1) := by decide +kernel
theorem d_To_alikeWith_32 : decode c_To_alikeWith 32 = .ok (.iload_n 3, 1) := by decide +kernel
theorem d_To_alikeWith_33 : decode c_To_alikeWith 33 = .ok (.ishl, 1) := by decide +kernel
theorem d_To_alikeWith_34 : decode c_To_alikeWith 34 = .ok (.ior, 1) := by decide +kernel
theorem d_To_alikeWith_35 : decode c_To_alikeWith 35 = .ok (.istore_n 2, 1) := by decide +kernel
theorem d_To_alikeWith_36 : decode c_To_alikeWith 36 = .ok (.iinc 3 1, 3) := by decide +kernel
theorem d_To_alikeWith_39 : decode c_To_alikeWith 39 = .ok (.goto (-35), 3) := by decide +kernel
theorem d_To_alikeWith_42 : decode c_To_alikeWith 42 = .ok (.iload_n 2, 1) := by decide +kernel
theorem d_To_alikeWith_43 : decode c_To_alikeWith 43 = .ok (.ireturn, 1) := by decide +kernel
theorem d_To_alikePairs_0 : decode c_To_alikePairs 0 = .ok (.iconst 0, 1) := by decide +kernel
theorem d_To_alikePairs_1 : decode c_To_alikePairs 1 = .ok (.istore_n 1, 1) := by decide +kernel
theorem d_To_alikePairs_2 : decode c_To_alikePairs 2 = .ok (.iconst 0, 1) := by decide +kernel
theorem d_To_alikePairs_3 : decode c_To_alikePairs 3 = .ok (.istore_n 2, 1) := by decide +kernel
theorem d_To_alikePairs_4 : decode c_To_alikePairs 4 = .ok (.iload_n 2, 1) := by decide +kernel
theorem d_To_alikePairs_5 : decode c_To_alikePairs 5 = .ok (.aload_n 0, 1) := by decide +kernel
theorem d_To_alikePairs_6 : decode c_To_alikePairs 6 = .ok (.getfield 31, 3) := by decide +kernel
theorem d_To_alikePairs_9 : decode c_To_alikePairs 9 = .ok (.if_icmp .ge 20, 3) := by decide +kernel
theorem d_To_alikePairs_12 : decode c_To_alikePairs 12 = .ok (.iload_n 1, 1) := by decide +kernel
theorem d_To_alikePairs_13 : decode c_To_alikePairs 13 = .ok (.aload_n 0, 1) := by decide +kernel
theorem d_To_alikePairs_14 : decode c_To_alikePairs 14 = .ok (.iload_n 2, 1) := by decide +kernel
theorem d_To_alikePairs_15 : decode c_To_alikePairs 15 = .ok (.invokevirtual 63, 3) := by decide +kernel
theorem d_To_alikePairs_18 : decode c_To_alikePairs 18 = .ok (.invokestatic 42, 3) := by decide +kernel
theorem d_To_alikePairs_21 : decode c_To_alikePairs 21 = .ok (.iadd, 1) := by decide +kernel
theorem d_To_alikePairs_22 : decode c_To_alikePairs 22 = .ok (.istore_n 1, 1) := by decide +kernel
theorem d_To_alikePairs_23 : decode c_To_alikePairs 23 = .ok (.iinc 2 1, 3) := by decide +kernel
theorem d_To_alikePairs_26 : decode c_To_alikePairs 26 = .ok (.goto (-22), 3) := by decide +kernel
theorem d_To_alikePairs_29 : decode c_To_alikePairs 29 = .ok (.iload_n 1, 1) := by decide +kernel
theorem d_To_alikePairs_30 : decode c_To_alikePairs 30 = .ok (.iconst 2, 1) := by decide +kernel
theorem d_To_alikePairs_31 : decode c_To_alikePairs 31 = .ok (.idiv, 1) := by decide +kernel
theorem d_To_alikePairs_32 : decode c_To_alikePairs 32 = .ok (.ireturn, 1) := by decide +kernel
theorem d_To_mark_0 : decode c_To_mark 0 = .ok (.iload 4, 2) := by decide +kernel
theorem d_To_mark_2 : decode c_To_mark 2 = .ok (.ifCond .eq 24, 3) := by decide +kernel
theorem d_To_mark_5 : decode c_To_mark 5 = .ok (.aload_n 1, 1) := by decide +kernel
theorem d_To_mark_6 : decode c_To_mark 6 = .ok (.iload_n 2, 1) := by decide +kernel
theorem d_To_mark_7 : decode c_To_mark 7 = .ok (.dup2, 1) := by decide +kernel
theorem d_To_mark_8 : decode c_To_mark 8 = .ok (.iaload, 1) := by decide +kernel
theorem d_To_mark_9 : decode c_To_mark 9 = .ok (.iconst 1, 1) := by decide +kernel
theorem d_To_mark_10 : decode c_To_mark 10 = .ok (.iload_n 3, 1) := by decide +kernel
theorem d_To_mark_11 : decode c_To_mark 11 = .ok (.ishl, 1) := by decide +kernel
theorem d_To_mark_12 : decode c_To_mark 12 = .ok (.ior, 1) := by decide +kernel
theorem d_To_mark_13 : decode c_To_mark 13 = .ok (.iastore, 1) := by decide +kernel
theorem d_To_mark_14 : decode c_To_mark 14 = .ok (.aload_n 1, 1) := by decide +kernel
theorem d_To_mark_15 : decode c_To_mark 15 = .ok (.iload_n 3, 1) := by decide +kernel
theorem d_To_mark_16 : decode c_To_mark 16 = .ok (.dup2, 1) := by decide +kernel
theorem d_To_mark_17 : decode c_To_mark 17 = .ok (.iaload, 1) := by decide +kernel
theorem d_To_mark_18 : decode c_To_mark 18 = .ok (.iconst 1, 1) := by decide +kernel
theorem d_To_mark_19 : decode c_To_mark 19 = .ok (.iload_n 2, 1) := by decide +kernel
theorem d_To_mark_20 : decode c_To_mark 20 = .ok (.ishl, 1) := by decide +kernel
theorem d_To_mark_21 : decode c_To_mark 21 = .ok (.ior, 1) := by decide +kernel
theorem d_To_mark_22 : decode c_To_mark 22 = .ok (.iastore, 1) := by decide +kernel
theorem d_To_mark_23 : decode c_To_mark 23 = .ok (.goto 25, 3) := by decide +kernel
theorem d_To_mark_26 : decode c_To_mark 26 = .ok (.aload_n 1, 1) := by decide +kernel
theorem d_To_mark_27 : decode c_To_mark 27 = .ok (.iload_n 2, 1) := by decide +kernel
theorem d_To_mark_28 : decode c_To_mark 28 = .ok (.dup2, 1) := by decide +kernel
theorem d_To_mark_29 : decode c_To_mark 29 = .ok (.iaload, 1) := by decide +kernel
theorem d_To_mark_30 : decode c_To_mark 30 = .ok (.iconst 1, 1) := by decide +kernel
theorem d_To_mark_31 : decode c_To_mark 31 = .ok (.iload_n 3, 1) := by decide +kernel
theorem d_To_mark_32 : decode c_To_mark 32 = .ok (.ishl, 1) := by decide +kernel
theorem d_To_mark_33 : decode c_To_mark 33 = .ok (.iconst (-1), 1) := by decide +kernel
theorem d_To_mark_34 : decode c_To_mark 34 = .ok (.ixor, 1) := by decide +kernel
theorem d_To_mark_35 : decode c_To_mark 35 = .ok (.iand, 1) := by decide +kernel
theorem d_To_mark_36 : decode c_To_mark 36 = .ok (.iastore, 1) := by decide +kernel
theorem d_To_mark_37 : decode c_To_mark 37 = .ok (.aload_n 1, 1) := by decide +kernel
theorem d_To_mark_38 : decode c_To_mark 38 = .ok (.iload_n 3, 1) := by decide +kernel
theorem d_To_mark_39 : decode c_To_mark 39 = .ok (.dup2, 1) := by decide +kernel
theorem d_To_mark_40 : decode c_To_mark 40 = .ok (.iaload, 1) := by decide +kernel
theorem d_To_mark_41 : decode c_To_mark 41 = .ok (.iconst 1, 1) := by decide +kernel
theorem d_To_mark_42 : decode c_To_mark 42 = .ok (.iload_n 2, 1) := by decide +kernel
theorem d_To_mark_43 : decode c_To_mark 43 = .ok (.ishl, 1) := by decide +kernel
theorem d_To_mark_44 : decode c_To_mark 44 = .ok (.iconst (-1), 1) := by decide +kernel
theorem d_To_mark_45 : decode c_To_mark 45 = .ok (.ixor, 1) := by decide +kernel
theorem d_To_mark_46 : decode c_To_mark 46 = .ok (.iand, 1) := by decide +kernel
theorem d_To_mark_47 : decode c_To_mark 47 = .ok (.iastore, 1) := by decide +kernel
theorem d_To_mark_48 : decode c_To_mark 48 = .ok (.return_, 1) := by decide +kernel
theorem d_To_barOf_0 : decode c_To_barOf 0 = .ok (.aload_n 0, 1) := by decide +kernel
theorem d_To_barOf_1 : decode c_To_barOf 1 = .ok (.getfield 22, 3) := by decide +kernel
theorem d_To_barOf_4 : decode c_To_barOf 4 = .ok (.iload_n 1, 1) := by decide +kernel
theorem d_To_barOf_5 : decode c_To_barOf 5 = .ok (.iaload, 1) := by decide +kernel
theorem d_To_barOf_6 : decode c_To_barOf 6 = .ok (.iload_n 2, 1) := by decide +kernel
theorem d_To_barOf_7 : decode c_To_barOf 7 = .ok (.ishr, 1) := by decide +kernel
theorem d_To_barOf_8 : decode c_To_barOf 8 = .ok (.iconst 1, 1) := by decide +kernel
theorem d_To_barOf_9 : decode c_To_barOf 9 = .ok (.iand, 1) := by decide +kernel
theorem d_To_barOf_10 : decode c_To_barOf 10 = .ok (.iconst 1, 1) := by decide +kernel
theorem d_To_barOf_11 : decode c_To_barOf 11 = .ok (.if_icmp .ne 5, 3) := by decide +kernel
theorem d_To_barOf_14 : decode c_To_barOf 14 = .ok (.iconst 1, 1) := by decide +kernel
theorem d_To_barOf_15 : decode c_To_barOf 15 = .ok (.ireturn, 1) := by decide +kernel
theorem d_To_barOf_16 : decode c_To_barOf 16 = .ok (.aload_n 0, 1) := by decide +kernel
theorem d_To_barOf_17 : decode c_To_barOf 17 = .ok (.getfield 25, 3) := by decide +kernel
theorem d_To_barOf_20 : decode c_To_barOf 20 = .ok (.iload_n 1, 1) := by decide +kernel
theorem d_To_barOf_21 : decode c_To_barOf 21 = .ok (.iaload, 1) := by decide +kernel
theorem d_To_barOf_22 : decode c_To_barOf 22 = .ok (.iload_n 2, 1) := by decide +kernel
theorem d_To_barOf_23 : decode c_To_barOf 23 = .ok (.ishr, 1) := by decide +kernel
theorem d_To_barOf_24 : decode c_To_barOf 24 = .ok (.iconst 1, 1) := by decide +kernel
theorem d_To_barOf_25 : decode c_To_barOf 25 = .ok (.iand, 1) := by decide +kernel
theorem d_To_barOf_26 : decode c_To_barOf 26 = .ok (.iconst 1, 1) := by decide +kernel
theorem d_To_barOf_27 : decode c_To_barOf 27 = .ok (.if_icmp .ne 7, 3) := by decide +kernel
theorem d_To_barOf_30 : decode c_To_barOf 30 = .ok (.iconst 2, 1) := by decide +kernel
theorem d_To_barOf_31 : decode c_To_barOf 31 = .ok (.goto 4, 3) := by decide +kernel
theorem d_To_barOf_34 : decode c_To_barOf 34 = .ok (.iconst 0, 1) := by decide +kernel
theorem d_To_barOf_35 : decode c_To_barOf 35 = .ok (.ireturn, 1) := by decide +kernel
theorem d_To_setBar_0 : decode c_To_setBar 0 = .ok (.aload_n 0, 1) := by decide +kernel
theorem d_To_setBar_1 : decode c_To_setBar 1 = .ok (.aload_n 0, 1) := by decide +kernel
theorem d_To_setBar_2 : decode c_To_setBar 2 = .ok (.getfield 22, 3) := by decide +kernel
theorem d_To_setBar_5 : decode c_To_setBar 5 = .ok (.iload_n 1, 1) := by decide +kernel
theorem d_To_setBar_6 : decode c_To_setBar 6 = .ok (.iload_n 2, 1) := by decide +kernel
theorem d_To_setBar_7 : decode c_To_setBar 7 = .ok (.iload_n 3, 1) := by decide +kernel
theorem d_To_setBar_8 : decode c_To_setBar 8 = .ok (.iconst 1, 1) := by decide +kernel
theorem d_To_setBar_9 : decode c_To_setBar 9 = .ok (.if_icmp .ne 7, 3) := by decide +kernel
theorem d_To_setBar_12 : decode c_To_setBar 12 = .ok (.iconst 1, 1) := by decide +kernel
theorem d_To_setBar_13 : decode c_To_setBar 13 = .ok (.goto 4, 3) := by decide +kernel
theorem d_To_setBar_16 : decode c_To_setBar 16 = .ok (.iconst 0, 1) := by decide +kernel
theorem d_To_setBar_17 : decode c_To_setBar 17 = .ok (.invokevirtual 66, 3) := by decide +kernel
theorem d_To_setBar_20 : decode c_To_setBar 20 = .ok (.aload_n 0, 1) := by decide +kernel
theorem d_To_setBar_21 : decode c_To_setBar 21 = .ok (.aload_n 0, 1) := by decide +kernel
theorem d_To_setBar_22 : decode c_To_setBar 22 = .ok (.getfield 25, 3) := by decide +kernel
theorem d_To_setBar_25 : decode c_To_setBar 25 = .ok (.iload_n 1, 1) := by decide +kernel
theorem d_To_setBar_26 : decode c_To_setBar 26 = .ok (.iload_n 2, 1) := by decide +kernel
theorem d_To_setBar_27 : decode c_To_setBar 27 = .ok (.iload_n 3, 1) := by decide +kernel
theorem d_To_setBar_28 : decode c_To_setBar 28 = .ok (.iconst 2, 1) := by decide +kernel
theorem d_To_setBar_29 : decode c_To_setBar 29 = .ok (.if_icmp .ne 7, 3) := by decide +kernel
theorem d_To_setBar_32 : decode c_To_setBar 32 = .ok (.iconst 1, 1) := by decide +kernel
theorem d_To_setBar_33 : decode c_To_setBar 33 = .ok (.goto 4, 3) := by decide +kernel
theorem d_To_setBar_36 : decode c_To_setBar 36 = .ok (.iconst 0, 1) := by decide +kernel
theorem d_To_setBar_37 : decode c_To_setBar 37 = .ok (.invokevirtual 66, 3) := by decide +kernel
theorem d_To_setBar_40 : decode c_To_setBar 40 = .ok (.iload_n 3, 1) := by decide +kernel
theorem d_To_setBar_41 : decode c_To_setBar 41 = .ok (.ifCond .eq 23, 3) := by decide +kernel
theorem d_To_setBar_44 : decode c_To_setBar 44 = .ok (.aload_n 0, 1) := by decide +kernel
theorem d_To_setBar_45 : decode c_To_setBar 45 = .ok (.aload_n 0, 1) := by decide +kernel
theorem d_To_setBar_46 : decode c_To_setBar 46 = .ok (.getfield 18, 3) := by decide +kernel
theorem d_To_setBar_49 : decode c_To_setBar 49 = .ok (.iload_n 1, 1) := by decide +kernel
theorem d_To_setBar_50 : decode c_To_setBar 50 = .ok (.iload_n 2, 1) := by decide +kernel
theorem d_To_setBar_51 : decode c_To_setBar 51 = .ok (.iload_n 3, 1) := by decide +kernel
theorem d_To_setBar_52 : decode c_To_setBar 52 = .ok (.iconst 2, 1) := by decide +kernel
theorem d_To_setBar_53 : decode c_To_setBar 53 = .ok (.if_icmp .ne 7, 3) := by decide +kernel
theorem d_To_setBar_56 : decode c_To_setBar 56 = .ok (.iconst 1, 1) := by decide +kernel
theorem d_To_setBar_57 : decode c_To_setBar 57 = .ok (.goto 4, 3) := by decide +kernel
theorem d_To_setBar_60 : decode c_To_setBar 60 = .ok (.iconst 0, 1) := by decide +kernel
theorem d_To_setBar_61 : decode c_To_setBar 61 = .ok (.invokevirtual 66, 3) := by decide +kernel
theorem d_To_setBar_64 : decode c_To_setBar 64 = .ok (.return_, 1) := by decide +kernel
theorem d_To_allows_0 : decode c_To_allows 0 = .ok (.aload_n 0, 1) := by decide +kernel
theorem d_To_allows_1 : decode c_To_allows 1 = .ok (.iload_n 1, 1) := by decide +kernel
theorem d_To_allows_2 : decode c_To_allows 2 = .ok (.iload_n 2, 1) := by decide +kernel
theorem d_To_allows_3 : decode c_To_allows 3 = .ok (.invokevirtual 70, 3) := by decide +kernel
theorem d_To_allows_6 : decode c_To_allows 6 = .ok (.iload_n 3, 1) := by decide +kernel
theorem d_To_allows_7 : decode c_To_allows 7 = .ok (.ifCond .eq 7, 3) := by decide +kernel
theorem d_To_allows_10 : decode c_To_allows 10 = .ok (.iconst 1, 1) := by decide +kernel
theorem d_To_allows_11 : decode c_To_allows 11 = .ok (.goto 4, 3) := by decide +kernel
theorem d_To_allows_14 : decode c_To_allows 14 = .ok (.iconst 2, 1) := by decide +kernel
theorem d_To_allows_15 : decode c_To_allows 15 = .ok (.if_icmp .eq 7, 3) := by decide +kernel
theorem d_To_allows_18 : decode c_To_allows 18 = .ok (.iconst 1, 1) := by decide +kernel
theorem d_To_allows_19 : decode c_To_allows 19 = .ok (.goto 4, 3) := by decide +kernel
theorem d_To_allows_22 : decode c_To_allows 22 = .ok (.iconst 0, 1) := by decide +kernel
theorem d_To_allows_23 : decode c_To_allows 23 = .ok (.ireturn, 1) := by decide +kernel
theorem d_To_addPerson_0 : decode c_To_addPerson 0 = .ok (.aload_n 0, 1) := by decide +kernel
theorem d_To_addPerson_1 : decode c_To_addPerson 1 = .ok (.getfield 31, 3) := by decide +kernel
theorem d_To_addPerson_4 : decode c_To_addPerson 4 = .ok (.bipush 8, 2) := by decide +kernel
theorem d_To_addPerson_6 : decode c_To_addPerson 6 = .ok (.if_icmp .ge 17, 3) := by decide +kernel
theorem d_To_addPerson_9 : decode c_To_addPerson 9 = .ok (.aload_n 0, 1) := by decide +kernel
theorem d_To_addPerson_10 : decode c_To_addPerson 10 = .ok (.dup, 1) := by decide +kernel
theorem d_To_addPerson_11 : decode c_To_addPerson 11 = .ok (.getfield 31, 3) := by decide +kernel
theorem d_To_addPerson_14 : decode c_To_addPerson 14 = .ok (.iconst 1, 1) := by decide +kernel
theorem d_To_addPerson_15 : decode c_To_addPerson 15 = .ok (.iadd, 1) := by decide +kernel
theorem d_To_addPerson_16 : decode c_To_addPerson 16 = .ok (.putfield 31, 3) := by decide +kernel
theorem d_To_addPerson_19 : decode c_To_addPerson 19 = .ok (.aload_n 0, 1) := by decide +kernel
theorem d_To_addPerson_20 : decode c_To_addPerson 20 = .ok (.invokevirtual 73, 3) := by decide +kernel
theorem d_To_addPerson_23 : decode c_To_addPerson 23 = .ok (.return_, 1) := by decide +kernel
theorem d_To_removePerson_0 : decode c_To_removePerson 0 = .ok (.aload_n 0, 1) := by decide +kernel
theorem d_To_removePerson_1 : decode c_To_removePerson 1 = .ok (.iload_n 1, 1) := by decide +kernel
theorem d_To_removePerson_2 : decode c_To_removePerson 2 = .ok (.invokevirtual 38, 3) := by decide +kernel
theorem d_To_removePerson_5 : decode c_To_removePerson 5 = .ok (.ifCond .ne 4, 3) := by decide +kernel
theorem d_To_removePerson_8 : decode c_To_removePerson 8 = .ok (.return_, 1) := by decide +kernel
theorem d_To_removePerson_9 : decode c_To_removePerson 9 = .ok (.aload_n 0, 1) := by decide +kernel
theorem d_To_removePerson_10 : decode c_To_removePerson 10 = .ok (.aload_n 0, 1) := by decide +kernel
theorem d_To_removePerson_11 : decode c_To_removePerson 11 = .ok (.getfield 18, 3) := by decide +kernel
theorem d_To_removePerson_14 : decode c_To_removePerson 14 = .ok (.iload_n 1, 1) := by decide +kernel
theorem d_To_removePerson_15 : decode c_To_removePerson 15 = .ok (.invokevirtual 76, 3) := by decide +kernel
theorem d_To_removePerson_18 : decode c_To_removePerson 18 = .ok (.aload_n 0, 1) := by decide +kernel
theorem d_To_removePerson_19 : decode c_To_removePerson 19 = .ok (.aload_n 0, 1) := by decide +kernel
theorem d_To_removePerson_20 : decode c_To_removePerson 20 = .ok (.getfield 22, 3) := by decide +kernel
theorem d_To_removePerson_23 : decode c_To_removePerson 23 = .ok (.iload_n 1, 1) := by decide +kernel
theorem d_To_removePerson_24 : decode c_To_removePerson 24 = .ok (.invokevirtual 76, 3) := by decide +kernel
theorem d_To_removePerson_27 : decode c_To_removePerson 27 = .ok (.aload_n 0, 1) := by decide +kernel
theorem d_To_removePerson_28 : decode c_To_removePerson 28 = .ok (.aload_n 0, 1) := by decide +kernel
theorem d_To_removePerson_29 : decode c_To_removePerson 29 = .ok (.getfield 25, 3) := by decide +kernel
theorem d_To_removePerson_32 : decode c_To_removePerson 32 = .ok (.iload_n 1, 1) := by decide +kernel
theorem d_To_removePerson_33 : decode c_To_removePerson 33 = .ok (.invokevirtual 76, 3) := by decide +kernel
theorem d_To_removePerson_36 : decode c_To_removePerson 36 = .ok (.aload_n 0, 1) := by decide +kernel
theorem d_To_removePerson_37 : decode c_To_removePerson 37 = .ok (.dup, 1) := by decide +kernel
theorem d_To_removePerson_38 : decode c_To_removePerson 38 = .ok (.getfield 31, 3) := by decide +kernel
theorem d_To_removePerson_41 : decode c_To_removePerson 41 = .ok (.iconst 1, 1) := by decide +kernel
theorem d_To_removePerson_42 : decode c_To_removePerson 42 = .ok (.isub, 1) := by decide +kernel
theorem d_To_removePerson_43 : decode c_To_removePerson 43 = .ok (.putfield 31, 3) := by decide +kernel
theorem d_To_removePerson_46 : decode c_To_removePerson 46 = .ok (.aload_n 0, 1) := by decide +kernel
theorem d_To_removePerson_47 : decode c_To_removePerson 47 = .ok (.aload_n 0, 1) := by decide +kernel
theorem d_To_removePerson_48 : decode c_To_removePerson 48 = .ok (.getfield 31, 3) := by decide +kernel
theorem d_To_removePerson_51 : decode c_To_removePerson 51 = .ok (.invokevirtual 34, 3) := by decide +kernel
theorem d_To_removePerson_54 : decode c_To_removePerson 54 = .ok (.aload_n 0, 1) := by decide +kernel
theorem d_To_removePerson_55 : decode c_To_removePerson 55 = .ok (.invokevirtual 73, 3) := by decide +kernel
theorem d_To_removePerson_58 : decode c_To_removePerson 58 = .ok (.return_, 1) := by decide +kernel
theorem d_To_closeGap_0 : decode c_To_closeGap 0 = .ok (.iload_n 2, 1) := by decide +kernel
theorem d_To_closeGap_1 : decode c_To_closeGap 1 = .ok (.istore_n 3, 1) := by decide +kernel
theorem d_To_closeGap_2 : decode c_To_closeGap 2 = .ok (.iload_n 3, 1) := by decide +kernel
theorem d_To_closeGap_3 : decode c_To_closeGap 3 = .ok (.aload_n 0, 1) := by decide +kernel
theorem d_To_closeGap_4 : decode c_To_closeGap 4 = .ok (.getfield 31, 3) := by decide +kernel
theorem d_To_closeGap_7 : decode c_To_closeGap 7 = .ok (.iconst 1, 1) := by decide +kernel
theorem d_To_closeGap_8 : decode c_To_closeGap 8 = .ok (.isub, 1) := by decide +kernel
theorem d_To_closeGap_9 : decode c_To_closeGap 9 = .ok (.if_icmp .ge 17, 3) := by decide +kernel
theorem d_To_closeGap_12 : decode c_To_closeGap 12 = .ok (.aload_n 1, 1) := by decide +kernel
theorem d_To_closeGap_13 : decode c_To_closeGap 13 = .ok (.iload_n 3, 1) := by decide +kernel
theorem d_To_closeGap_14 : decode c_To_closeGap 14 = .ok (.aload_n 1, 1) := by decide +kernel
theorem d_To_closeGap_15 : decode c_To_closeGap 15 = .ok (.iload_n 3, 1) := by decide +kernel
theorem d_To_closeGap_16 : decode c_To_closeGap 16 = .ok (.iconst 1, 1) := by decide +kernel
theorem d_To_closeGap_17 : decode c_To_closeGap 17 = .ok (.iadd, 1) := by decide +kernel
theorem d_To_closeGap_18 : decode c_To_closeGap 18 = .ok (.iaload, 1) := by decide +kernel
theorem d_To_closeGap_19 : decode c_To_closeGap 19 = .ok (.iastore, 1) := by decide +kernel
theorem d_To_closeGap_20 : decode c_To_closeGap 20 = .ok (.iinc 3 1, 3) := by decide +kernel
theorem d_To_closeGap_23 : decode c_To_closeGap 23 = .ok (.goto (-21), 3) := by decide +kernel
theorem d_To_closeGap_26 : decode c_To_closeGap 26 = .ok (.iconst 1, 1) := by decide +kernel
theorem d_To_closeGap_27 : decode c_To_closeGap 27 = .ok (.iload_n 2, 1) := by decide +kernel
theorem d_To_closeGap_28 : decode c_To_closeGap 28 = .ok (.ishl, 1) := by decide +kernel
theorem d_To_closeGap_29 : decode c_To_closeGap 29 = .ok (.iconst 1, 1) := by decide +kernel
theorem d_To_closeGap_30 : decode c_To_closeGap 30 = .ok (.isub, 1) := by decide +kernel
theorem d_To_closeGap_31 : decode c_To_closeGap 31 = .ok (.istore_n 3, 1) := by decide +kernel
theorem d_To_closeGap_32 : decode c_To_closeGap 32 = .ok (.iconst 0, 1) := by decide +kernel
theorem d_To_closeGap_33 : decode c_To_closeGap 33 = .ok (.istore 4, 2) := by decide +kernel
theorem d_To_closeGap_35 : decode c_To_closeGap 35 = .ok (.iload 4, 2) := by decide +kernel
theorem d_To_closeGap_37 : decode c_To_closeGap 37 = .ok (.aload_n 0, 1) := by decide +kernel
theorem d_To_closeGap_38 : decode c_To_closeGap 38 = .ok (.getfield 31, 3) := by decide +kernel
theorem d_To_closeGap_41 : decode c_To_closeGap 41 = .ok (.iconst 1, 1) := by decide +kernel
theorem d_To_closeGap_42 : decode c_To_closeGap 42 = .ok (.isub, 1) := by decide +kernel
theorem d_To_closeGap_43 : decode c_To_closeGap 43 = .ok (.if_icmp .ge 30, 3) := by decide +kernel
theorem d_To_closeGap_46 : decode c_To_closeGap 46 = .ok (.aload_n 1, 1) := by decide +kernel
theorem d_To_closeGap_47 : decode c_To_closeGap 47 = .ok (.iload 4, 2) := by decide +kernel
theorem d_To_closeGap_49 : decode c_To_closeGap 49 = .ok (.aload_n 1, 1) := by decide +kernel
theorem d_To_closeGap_50 : decode c_To_closeGap 50 = .ok (.iload 4, 2) := by decide +kernel
theorem d_To_closeGap_52 : decode c_To_closeGap 52 = .ok (.iaload, 1) := by decide +kernel
theorem d_To_closeGap_53 : decode c_To_closeGap 53 = .ok (.iload_n 3, 1) := by decide +kernel
theorem d_To_closeGap_54 : decode c_To_closeGap 54 = .ok (.iand, 1) := by decide +kernel
theorem d_To_closeGap_55 : decode c_To_closeGap 55 = .ok (.aload_n 1, 1) := by decide +kernel
theorem d_To_closeGap_56 : decode c_To_closeGap 56 = .ok (.iload 4, 2) := by decide +kernel
theorem d_To_closeGap_58 : decode c_To_closeGap 58 = .ok (.iaload, 1) := by decide +kernel
theorem d_To_closeGap_59 : decode c_To_closeGap 59 = .ok (.iconst 1, 1) := by decide +kernel
theorem d_To_closeGap_60 : decode c_To_closeGap 60 = .ok (.ishr, 1) := by decide +kernel
theorem d_To_closeGap_61 : decode c_To_closeGap 61 = .ok (.iload_n 3, 1) := by decide +kernel
theorem d_To_closeGap_62 : decode c_To_closeGap 62 = .ok (.iconst (-1), 1) := by decide +kernel
theorem d_To_closeGap_63 : decode c_To_closeGap 63 = .ok (.ixor, 1) := by decide +kernel
theorem d_To_closeGap_64 : decode c_To_closeGap 64 = .ok (.iand, 1) := by decide +kernel
theorem d_To_closeGap_65 : decode c_To_closeGap 65 = .ok (.ior, 1) := by decide +kernel
theorem d_To_closeGap_66 : decode c_To_closeGap 66 = .ok (.iastore, 1) := by decide +kernel
theorem d_To_closeGap_67 : decode c_To_closeGap 67 = .ok (.iinc 4 1, 3) := by decide +kernel
theorem d_To_closeGap_70 : decode c_To_closeGap 70 = .ok (.goto (-35), 3) := by decide +kernel
theorem d_To_closeGap_73 : decode c_To_closeGap 73 = .ok (.return_, 1) := by decide +kernel
theorem d_To_sayCounts_0 : decode c_To_sayCounts 0 = .ok (.iconst 0, 1) := by decide +kernel
theorem d_To_sayCounts_1 : decode c_To_sayCounts 1 = .ok (.istore_n 1, 1) := by decide +kernel
theorem d_To_sayCounts_2 : decode c_To_sayCounts 2 = .ok (.iload_n 1, 1) := by decide +kernel
theorem d_To_sayCounts_3 : decode c_To_sayCounts 3 = .ok (.aload_n 0, 1) := by decide +kernel
theorem d_To_sayCounts_4 : decode c_To_sayCounts 4 = .ok (.getfield 31, 3) := by decide +kernel
theorem d_To_sayCounts_7 : decode c_To_sayCounts 7 = .ok (.if_icmp .ge 20, 3) := by decide +kernel
theorem d_To_sayCounts_10 : decode c_To_sayCounts 10 = .ok (.aload_n 0, 1) := by decide +kernel
theorem d_To_sayCounts_11 : decode c_To_sayCounts 11 = .ok (.getfield 28, 3) := by decide +kernel
theorem d_To_sayCounts_14 : decode c_To_sayCounts 14 = .ok (.iload_n 1, 1) := by decide +kernel
theorem d_To_sayCounts_15 : decode c_To_sayCounts 15 = .ok (.aload_n 0, 1) := by decide +kernel
theorem d_To_sayCounts_16 : decode c_To_sayCounts 16 = .ok (.iload_n 1, 1) := by decide +kernel
theorem d_To_sayCounts_17 : decode c_To_sayCounts 17 = .ok (.invokevirtual 48, 3) := by decide +kernel
theorem d_To_sayCounts_20 : decode c_To_sayCounts 20 = .ok (.iastore, 1) := by decide +kernel
theorem d_To_sayCounts_21 : decode c_To_sayCounts 21 = .ok (.iinc 1 1, 3) := by decide +kernel
theorem d_To_sayCounts_24 : decode c_To_sayCounts 24 = .ok (.goto (-22), 3) := by decide +kernel
theorem d_To_sayCounts_27 : decode c_To_sayCounts 27 = .ok (.return_, 1) := by decide +kernel
theorem d_Wa_init_0 : decode c_Wa_init 0 = .ok (.aload_n 0, 1) := by decide +kernel
theorem d_Wa_init_1 : decode c_Wa_init 1 = .ok (.invokespecial 5, 3) := by decide +kernel
theorem d_Wa_init_4 : decode c_Wa_init 4 = .ok (.aload_n 0, 1) := by decide +kernel
theorem d_Wa_init_5 : decode c_Wa_init 5 = .ok (.bipush 25, 2) := by decide +kernel
theorem d_Wa_init_7 : decode c_Wa_init 7 = .ok (.newarray .int, 2) := by decide +kernel
theorem d_Wa_init_9 : decode c_Wa_init 9 = .ok (.putfield 11, 3) := by decide +kernel
theorem d_Wa_init_12 : decode c_Wa_init 12 = .ok (.aload_n 0, 1) := by decide +kernel
theorem d_Wa_init_13 : decode c_Wa_init 13 = .ok (.bipush 6, 2) := by decide +kernel
theorem d_Wa_init_15 : decode c_Wa_init 15 = .ok (.newarray .int, 2) := by decide +kernel
theorem d_Wa_init_17 : decode c_Wa_init 17 = .ok (.putfield 15, 3) := by decide +kernel
theorem d_Wa_init_20 : decode c_Wa_init 20 = .ok (.iconst 0, 1) := by decide +kernel
theorem d_Wa_init_21 : decode c_Wa_init 21 = .ok (.istore_n 1, 1) := by decide +kernel
theorem d_Wa_init_22 : decode c_Wa_init 22 = .ok (.iload_n 1, 1) := by decide +kernel
theorem d_Wa_init_23 : decode c_Wa_init 23 = .ok (.aload_n 0, 1) := by decide +kernel
theorem d_Wa_init_24 : decode c_Wa_init 24 = .ok (.getfield 11, 3) := by decide +kernel
theorem d_Wa_init_27 : decode c_Wa_init 27 = .ok (.arraylength, 1) := by decide +kernel
theorem d_Wa_init_28 : decode c_Wa_init 28 = .ok (.if_icmp .ge 16, 3) := by decide +kernel
theorem d_Wa_init_31 : decode c_Wa_init 31 = .ok (.aload_n 0, 1) := by decide +kernel
theorem d_Wa_init_32 : decode c_Wa_init 32 = .ok (.getfield 11, 3) := by decide +kernel
theorem d_Wa_init_35 : decode c_Wa_init 35 = .ok (.iload_n 1, 1) := by decide +kernel
theorem d_Wa_init_36 : decode c_Wa_init 36 = .ok (.iconst (-1), 1) := by decide +kernel
theorem d_Wa_init_37 : decode c_Wa_init 37 = .ok (.iastore, 1) := by decide +kernel
theorem d_Wa_init_38 : decode c_Wa_init 38 = .ok (.iinc 1 1, 3) := by decide +kernel
theorem d_Wa_init_41 : decode c_Wa_init 41 = .ok (.goto (-19), 3) := by decide +kernel
theorem d_Wa_init_44 : decode c_Wa_init 44 = .ok (.iconst 0, 1) := by decide +kernel
theorem d_Wa_init_45 : decode c_Wa_init 45 = .ok (.istore_n 1, 1) := by decide +kernel
theorem d_Wa_init_46 : decode c_Wa_init 46 = .ok (.iload_n 1, 1) := by decide +kernel
theorem d_Wa_init_47 : decode c_Wa_init 47 = .ok (.aload_n 0, 1) := by decide +kernel
theorem d_Wa_init_48 : decode c_Wa_init 48 = .ok (.getfield 15, 3) := by decide +kernel
theorem d_Wa_init_51 : decode c_Wa_init 51 = .ok (.arraylength, 1) := by decide +kernel
theorem d_Wa_init_52 : decode c_Wa_init 52 = .ok (.if_icmp .ge 16, 3) := by decide +kernel
theorem d_Wa_init_55 : decode c_Wa_init 55 = .ok (.aload_n 0, 1) := by decide +kernel
theorem d_Wa_init_56 : decode c_Wa_init 56 = .ok (.getfield 15, 3) := by decide +kernel
theorem d_Wa_init_59 : decode c_Wa_init 59 = .ok (.iload_n 1, 1) := by decide +kernel
theorem d_Wa_init_60 : decode c_Wa_init 60 = .ok (.iconst (-1), 1) := by decide +kernel
theorem d_Wa_init_61 : decode c_Wa_init 61 = .ok (.iastore, 1) := by decide +kernel
theorem d_Wa_init_62 : decode c_Wa_init 62 = .ok (.iinc 1 1, 3) := by decide +kernel
theorem d_Wa_init_65 : decode c_Wa_init 65 = .ok (.goto (-19), 3) := by decide +kernel
theorem d_Wa_init_68 : decode c_Wa_init 68 = .ok (.return_, 1) := by decide +kernel
theorem d_Wa_acrossSides_0 : decode c_Wa_acrossSides 0 = .ok (.iload_n 1, 1) := by decide +kernel
theorem d_Wa_acrossSides_1 : decode c_Wa_acrossSides 1 = .ok (.iconst 5, 1) := by decide +kernel
theorem d_Wa_acrossSides_2 : decode c_Wa_acrossSides 2 = .ok (.imul, 1) := by decide +kernel
theorem d_Wa_acrossSides_3 : decode c_Wa_acrossSides 3 = .ok (.iload_n 2, 1) := by decide +kernel
theorem d_Wa_acrossSides_4 : decode c_Wa_acrossSides 4 = .ok (.iadd, 1) := by decide +kernel
theorem d_Wa_acrossSides_5 : decode c_Wa_acrossSides 5 = .ok (.istore_n 3, 1) := by decide +kernel
theorem d_Wa_acrossSides_6 : decode c_Wa_acrossSides 6 = .ok (.aload_n 0, 1) := by decide +kernel
theorem d_Wa_acrossSides_7 : decode c_Wa_acrossSides 7 = .ok (.getfield 11, 3) := by decide +kernel
theorem d_Wa_acrossSides_10 : decode c_Wa_acrossSides 10 = .ok (.iload_n 3, 1) := by decide +kernel
theorem d_Wa_acrossSides_11 : decode c_Wa_acrossSides 11 = .ok (.iaload, 1) := by decide +kernel
theorem d_Wa_acrossSides_12 : decode c_Wa_acrossSides 12 = .ok (.iconst (-1), 1) := by decide +kernel
theorem d_Wa_acrossSides_13 : decode c_Wa_acrossSides 13 = .ok (.if_icmp .ne 17, 3) := by decide +kernel
theorem d_Wa_acrossSides_16 : decode c_Wa_acrossSides 16 = .ok (.aload_n 0, 1) := by decide +kernel
theorem d_Wa_acrossSides_17 : decode c_Wa_acrossSides 17 = .ok (.getfield 11, 3) := by decide +kernel
theorem d_Wa_acrossSides_20 : decode c_Wa_acrossSides 20 = .ok (.iload_n 3, 1) := by decide +kernel
theorem d_Wa_acrossSides_21 : decode c_Wa_acrossSides 21 = .ok (.iconst 0, 1) := by decide +kernel
theorem d_Wa_acrossSides_22 : decode c_Wa_acrossSides 22 = .ok (.iload_n 1, 1) := by decide +kernel
theorem d_Wa_acrossSides_23 : decode c_Wa_acrossSides 23 = .ok (.iload_n 2, 1) := by decide +kernel
theorem d_Wa_acrossSides_24 : decode c_Wa_acrossSides 24 = .ok (.iconst 0, 1) := by decide +kernel
theorem d_Wa_acrossSides_25 : decode c_Wa_acrossSides 25 = .ok (.iconst 0, 1) := by decide +kernel
theorem d_Wa_acrossSides_26 : decode c_Wa_acrossSides 26 = .ok (.invokestatic 18, 3) := by decide +kernel
theorem d_Wa_acrossSides_29 : decode c_Wa_acrossSides 29 = .ok (.iastore, 1) := by decide +kernel
theorem d_Wa_acrossSides_30 : decode c_Wa_acrossSides 30 = .ok (.aload_n 0, 1) := by decide +kernel
theorem d_Wa_acrossSides_31 : decode c_Wa_acrossSides 31 = .ok (.getfield 11, 3) := by decide +kernel
theorem d_Wa_acrossSides_34 : decode c_Wa_acrossSides 34 = .ok (.iload_n 3, 1) := by decide +kernel
theorem d_Wa_acrossSides_35 : decode c_Wa_acrossSides 35 = .ok (.iaload, 1) := by decide +kernel
theorem d_Wa_acrossSides_36 : decode c_Wa_acrossSides 36 = .ok (.ireturn, 1) := by decide +kernel
theorem d_Wa_ofTwoSorts_0 : decode c_Wa_ofTwoSorts 0 = .ok (.aload_n 0, 1) := by decide +kernel
theorem d_Wa_ofTwoSorts_1 : decode c_Wa_ofTwoSorts 1 = .ok (.getfield 15, 3) := by decide +kernel
theorem d_Wa_ofTwoSorts_4 : decode c_Wa_ofTwoSorts 4 = .ok (.iload_n 1, 1) := by decide +kernel
theorem d_Wa_ofTwoSorts_5 : decode c_Wa_ofTwoSorts 5 = .ok (.iaload, 1) := by decide +kernel
theorem d_Wa_ofTwoSorts_6 : decode c_Wa_ofTwoSorts 6 = .ok (.iconst (-1), 1) := by decide +kernel
theorem d_Wa_ofTwoSorts_7 : decode c_Wa_ofTwoSorts 7 = .ok (.if_icmp .ne 16, 3) := by decide +kernel
theorem d_Wa_ofTwoSorts_10 : decode c_Wa_ofTwoSorts 10 = .ok (.aload_n 0, 1) := by decide +kernel
theorem d_Wa_ofTwoSorts_11 : decode c_Wa_ofTwoSorts 11 = .ok (.getfield 15, 3) := by decide +kernel
theorem d_Wa_ofTwoSorts_14 : decode c_Wa_ofTwoSorts 14 = .ok (.iload_n 1, 1) := by decide +kernel
theorem d_Wa_ofTwoSorts_15 : decode c_Wa_ofTwoSorts 15 = .ok (.iload_n 1, 1) := by decide +kernel
theorem d_Wa_ofTwoSorts_16 : decode c_Wa_ofTwoSorts 16 = .ok (.iconst 0, 1) := by decide +kernel
theorem d_Wa_ofTwoSorts_17 : decode c_Wa_ofTwoSorts 17 = .ok (.iconst 1, 1) := by decide +kernel
theorem d_Wa_ofTwoSorts_18 : decode c_Wa_ofTwoSorts 18 = .ok (.iconst 0, 1) := by decide +kernel
theorem d_Wa_ofTwoSorts_19 : decode c_Wa_ofTwoSorts 19 = .ok (.invokestatic 22, 3) := by decide +kernel
theorem d_Wa_ofTwoSorts_22 : decode c_Wa_ofTwoSorts 22 = .ok (.iastore, 1) := by decide +kernel
theorem d_Wa_ofTwoSorts_23 : decode c_Wa_ofTwoSorts 23 = .ok (.aload_n 0, 1) := by decide +kernel
theorem d_Wa_ofTwoSorts_24 : decode c_Wa_ofTwoSorts 24 = .ok (.getfield 15, 3) := by decide +kernel
theorem d_Wa_ofTwoSorts_27 : decode c_Wa_ofTwoSorts 27 = .ok (.iload_n 1, 1) := by decide +kernel
theorem d_Wa_ofTwoSorts_28 : decode c_Wa_ofTwoSorts 28 = .ok (.iaload, 1) := by decide +kernel
theorem d_Wa_ofTwoSorts_29 : decode c_Wa_ofTwoSorts 29 = .ok (.ireturn, 1) := by decide +kernel
theorem d_Wa_acrossFrom_0 : decode c_Wa_acrossFrom 0 = .ok (.iload_n 0, 1) := by decide +kernel
theorem d_Wa_acrossFrom_1 : decode c_Wa_acrossFrom 1 = .ok (.iload_n 1, 1) := by decide +kernel
theorem d_Wa_acrossFrom_2 : decode c_Wa_acrossFrom 2 = .ok (.if_icmp .lt 19, 3) := by decide +kernel
theorem d_Wa_acrossFrom_5 : decode c_Wa_acrossFrom 5 = .ok (.iload 4, 2) := by decide +kernel
theorem d_Wa_acrossFrom_7 : decode c_Wa_acrossFrom 7 = .ok (.iload_n 2, 1) := by decide +kernel
theorem d_Wa_acrossFrom_8 : decode c_Wa_acrossFrom 8 = .ok (.iconst 4, 1) := by decide +kernel
theorem d_Wa_acrossFrom_9 : decode c_Wa_acrossFrom 9 = .ok (.invokestatic 26, 3) := by decide +kernel
theorem d_Wa_acrossFrom_12 : decode c_Wa_acrossFrom 12 = .ok (.ifCond .eq 7, 3) := by decide +kernel
theorem d_Wa_acrossFrom_15 : decode c_Wa_acrossFrom 15 = .ok (.iconst 1, 1) := by decide +kernel
theorem d_Wa_acrossFrom_16 : decode c_Wa_acrossFrom 16 = .ok (.goto 4, 3) := by decide +kernel
theorem d_Wa_acrossFrom_19 : decode c_Wa_acrossFrom 19 = .ok (.iconst 0, 1) := by decide +kernel
theorem d_Wa_acrossFrom_20 : decode c_Wa_acrossFrom 20 = .ok (.ireturn, 1) := by decide +kernel
theorem d_Wa_acrossFrom_21 : decode c_Wa_acrossFrom 21 = .ok (.iconst 0, 1) := by decide +kernel
theorem d_Wa_acrossFrom_22 : decode c_Wa_acrossFrom 22 = .ok (.istore 5, 2) := by decide +kernel
theorem d_Wa_acrossFrom_24 : decode c_Wa_acrossFrom 24 = .ok (.iconst 0, 1) := by decide +kernel
theorem d_Wa_acrossFrom_25 : decode c_Wa_acrossFrom 25 = .ok (.istore 6, 2) := by decide +kernel
theorem d_Wa_acrossFrom_27 : decode c_Wa_acrossFrom 27 = .ok (.iload 6, 2) := by decide +kernel
theorem d_Wa_acrossFrom_29 : decode c_Wa_acrossFrom 29 = .ok (.iconst 1, 1) := by decide +kernel
theorem d_Wa_acrossFrom_30 : decode c_Wa_acrossFrom 30 = .ok (.iload_n 2, 1) := by decide +kernel
theorem d_Wa_acrossFrom_31 : decode c_Wa_acrossFrom 31 = .ok (.ishl, 1) := by decide +kernel
theorem d_Wa_acrossFrom_32 : decode c_Wa_acrossFrom 32 = .ok (.if_icmp .ge 53, 3) := by decide +kernel
theorem d_Wa_acrossFrom_35 : decode c_Wa_acrossFrom 35 = .ok (.iload 6, 2) := by decide +kernel
theorem d_Wa_acrossFrom_37 : decode c_Wa_acrossFrom 37 = .ok (.invokestatic 30, 3) := by decide +kernel
theorem d_Wa_acrossFrom_40 : decode c_Wa_acrossFrom 40 = .ok (.istore 7, 2) := by decide +kernel
theorem d_Wa_acrossFrom_42 : decode c_Wa_acrossFrom 42 = .ok (.iload_n 3, 1) := by decide +kernel
theorem d_Wa_acrossFrom_43 : decode c_Wa_acrossFrom 43 = .ok (.iload 7, 2) := by decide +kernel
theorem d_Wa_acrossFrom_45 : decode c_Wa_acrossFrom 45 = .ok (.ishr, 1) := by decide +kernel
theorem d_Wa_acrossFrom_46 : decode c_Wa_acrossFrom 46 = .ok (.iconst 1, 1) := by decide +kernel
theorem d_Wa_acrossFrom_47 : decode c_Wa_acrossFrom 47 = .ok (.iand, 1) := by decide +kernel
theorem d_Wa_acrossFrom_48 : decode c_Wa_acrossFrom 48 = .ok (.ifCond .ne 31, 3) := by decide +kernel
theorem d_Wa_acrossFrom_51 : decode c_Wa_acrossFrom 51 = .ok (.iload 5, 2) := by decide +kernel
theorem d_Wa_acrossFrom_53 : decode c_Wa_acrossFrom 53 = .ok (.iload_n 0, 1) := by decide +kernel
theorem d_Wa_acrossFrom_54 : decode c_Wa_acrossFrom 54 = .ok (.iconst 1, 1) := by decide +kernel
theorem d_Wa_acrossFrom_55 : decode c_Wa_acrossFrom 55 = .ok (.iadd, 1) := by decide +kernel
theorem d_Wa_acrossFrom_56 : decode c_Wa_acrossFrom 56 = .ok (.iload_n 1, 1) := by decide +kernel
theorem d_Wa_acrossFrom_57 : decode c_Wa_acrossFrom 57 = .ok (.iload_n 2, 1) := by decide +kernel
theorem d_Wa_acrossFrom_58 : decode c_Wa_acrossFrom 58 = .ok (.iload_n 3, 1) := by decide +kernel
theorem d_Wa_acrossFrom_59 : decode c_Wa_acrossFrom 59 = .ok (.iconst 1, 1) := by decide +kernel
theorem d_Wa_acrossFrom_60 : decode c_Wa_acrossFrom 60 = .ok (.iload 7, 2) := by decide +kernel
theorem d_Wa_acrossFrom_62 : decode c_Wa_acrossFrom 62 = .ok (.ishl, 1) := by decide +kernel
theorem d_Wa_acrossFrom_63 : decode c_Wa_acrossFrom 63 = .ok (.ior, 1) := by decide +kernel
theorem d_Wa_acrossFrom_64 : decode c_Wa_acrossFrom 64 = .ok (.iload 4, 2) := by decide +kernel
theorem d_Wa_acrossFrom_66 : decode c_Wa_acrossFrom 66 = .ok (.iload 6, 2) := by decide +kernel
theorem d_Wa_acrossFrom_68 : decode c_Wa_acrossFrom 68 = .ok (.iload_n 2, 1) := by decide +kernel
theorem d_Wa_acrossFrom_69 : decode c_Wa_acrossFrom 69 = .ok (.invokestatic 36, 3) := by decide +kernel
theorem d_Wa_acrossFrom_72 : decode c_Wa_acrossFrom 72 = .ok (.iadd, 1) := by decide +kernel
theorem d_Wa_acrossFrom_73 : decode c_Wa_acrossFrom 73 = .ok (.invokestatic 18, 3) := by decide +kernel
theorem d_Wa_acrossFrom_76 : decode c_Wa_acrossFrom 76 = .ok (.iadd, 1) := by decide +kernel
theorem d_Wa_acrossFrom_77 : decode c_Wa_acrossFrom 77 = .ok (.istore 5, 2) := by decide +kernel
theorem d_Wa_acrossFrom_79 : decode c_Wa_acrossFrom 79 = .ok (.iinc 6 1, 3) := by decide +kernel
theorem d_Wa_acrossFrom_82 : decode c_Wa_acrossFrom 82 = .ok (.goto (-55), 3) := by decide +kernel
theorem d_Wa_acrossFrom_85 : decode c_Wa_acrossFrom 85 = .ok (.iload 5, 2) := by decide +kernel
theorem d_Wa_acrossFrom_87 : decode c_Wa_acrossFrom 87 = .ok (.ireturn, 1) := by decide +kernel
theorem d_Wa_spread_0 : decode c_Wa_spread 0 = .ok (.iconst 0, 1) := by decide +kernel
theorem d_Wa_spread_1 : decode c_Wa_spread 1 = .ok (.istore_n 2, 1) := by decide +kernel
theorem d_Wa_spread_2 : decode c_Wa_spread 2 = .ok (.iconst 0, 1) := by decide +kernel
theorem d_Wa_spread_3 : decode c_Wa_spread 3 = .ok (.istore_n 3, 1) := by decide +kernel
theorem d_Wa_spread_4 : decode c_Wa_spread 4 = .ok (.iload_n 3, 1) := by decide +kernel
theorem d_Wa_spread_5 : decode c_Wa_spread 5 = .ok (.iload_n 1, 1) := by decide +kernel
theorem d_Wa_spread_6 : decode c_Wa_spread 6 = .ok (.if_icmp .ge 21, 3) := by decide +kernel
theorem d_Wa_spread_9 : decode c_Wa_spread 9 = .ok (.iload_n 2, 1) := by decide +kernel
theorem d_Wa_spread_10 : decode c_Wa_spread 10 = .ok (.iload_n 0, 1) := by decide +kernel
theorem d_Wa_spread_11 : decode c_Wa_spread 11 = .ok (.iload_n 3, 1) := by decide +kernel
theorem d_Wa_spread_12 : decode c_Wa_spread 12 = .ok (.ishr, 1) := by decide +kernel
theorem d_Wa_spread_13 : decode c_Wa_spread 13 = .ok (.iconst 1, 1) := by decide +kernel
theorem d_Wa_spread_14 : decode c_Wa_spread 14 = .ok (.iand, 1) := by decide +kernel
theorem d_Wa_spread_15 : decode c_Wa_spread 15 = .ok (.iconst 4, 1) := by decide +kernel
theorem d_Wa_spread_16 : decode c_Wa_spread 16 = .ok (.iload_n 3, 1) := by decide +kernel
theorem d_Wa_spread_17 : decode c_Wa_spread 17 = .ok (.imul, 1) := by decide +kernel
theorem d_Wa_spread_18 : decode c_Wa_spread 18 = .ok (.ishl, 1) := by decide +kernel
theorem d_Wa_spread_19 : decode c_Wa_spread 19 = .ok (.ior, 1) := by decide +kernel
theorem d_Wa_spread_20 : decode c_Wa_spread 20 = .ok (.istore_n 2, 1) := by decide +kernel
theorem d_Wa_spread_21 : decode c_Wa_spread 21 = .ok (.iinc 3 1, 3) := by decide +kernel
theorem d_Wa_spread_24 : decode c_Wa_spread 24 = .ok (.goto (-20), 3) := by decide +kernel
theorem d_Wa_spread_27 : decode c_Wa_spread 27 = .ok (.iload_n 2, 1) := by decide +kernel
theorem d_Wa_spread_28 : decode c_Wa_spread 28 = .ok (.ireturn, 1) := by decide +kernel
theorem d_Wa_sortedFrom_0 : decode c_Wa_sortedFrom 0 = .ok (.iload_n 1, 1) := by decide +kernel
theorem d_Wa_sortedFrom_1 : decode c_Wa_sortedFrom 1 = .ok (.iload_n 0, 1) := by decide +kernel
theorem d_Wa_sortedFrom_2 : decode c_Wa_sortedFrom 2 = .ok (.iconst 1, 1) := by decide +kernel
theorem d_Wa_sortedFrom_3 : decode c_Wa_sortedFrom 3 = .ok (.isub, 1) := by decide +kernel
theorem d_Wa_sortedFrom_4 : decode c_Wa_sortedFrom 4 = .ok (.if_icmp .lt 19, 3) := by decide +kernel
theorem d_Wa_sortedFrom_7 : decode c_Wa_sortedFrom 7 = .ok (.iload_n 3, 1) := by decide +kernel
theorem d_Wa_sortedFrom_8 : decode c_Wa_sortedFrom 8 = .ok (.iload_n 1, 1) := by decide +kernel
theorem d_Wa_sortedFrom_9 : decode c_Wa_sortedFrom 9 = .ok (.bipush 6, 2) := by decide +kernel
theorem d_Wa_sortedFrom_11 : decode c_Wa_sortedFrom 11 = .ok (.invokestatic 40, 3) := by decide +kernel
theorem d_Wa_sortedFrom_14 : decode c_Wa_sortedFrom 14 = .ok (.ifCond .eq 7, 3) := by decide +kernel
theorem d_Wa_sortedFrom_17 : decode c_Wa_sortedFrom 17 = .ok (.iconst 1, 1) := by decide +kernel
theorem d_Wa_sortedFrom_18 : decode c_Wa_sortedFrom 18 = .ok (.goto 4, 3) := by decide +kernel
theorem d_Wa_sortedFrom_21 : decode c_Wa_sortedFrom 21 = .ok (.iconst 0, 1) := by decide +kernel
theorem d_Wa_sortedFrom_22 : decode c_Wa_sortedFrom 22 = .ok (.ireturn, 1) := by decide +kernel
theorem d_Wa_sortedFrom_23 : decode c_Wa_sortedFrom 23 = .ok (.iload_n 2, 1) := by decide +kernel
theorem d_Wa_sortedFrom_24 : decode c_Wa_sortedFrom 24 = .ok (.iload_n 0, 1) := by decide +kernel
theorem d_Wa_sortedFrom_25 : decode c_Wa_sortedFrom 25 = .ok (.if_icmp .lt 29, 3) := by decide +kernel
theorem d_Wa_sortedFrom_28 : decode c_Wa_sortedFrom 28 = .ok (.iload_n 3, 1) := by decide +kernel
theorem d_Wa_sortedFrom_29 : decode c_Wa_sortedFrom 29 = .ok (.iload_n 1, 1) := by decide +kernel
theorem d_Wa_sortedFrom_30 : decode c_Wa_sortedFrom 30 = .ok (.bipush 6, 2) := by decide +kernel
theorem d_Wa_sortedFrom_32 : decode c_Wa_sortedFrom 32 = .ok (.invokestatic 40, 3) := by decide +kernel
theorem d_Wa_sortedFrom_35 : decode c_Wa_sortedFrom 35 = .ok (.ifCond .eq 17, 3) := by decide +kernel
theorem d_Wa_sortedFrom_38 : decode c_Wa_sortedFrom 38 = .ok (.iload_n 0, 1) := by decide +kernel
theorem d_Wa_sortedFrom_39 : decode c_Wa_sortedFrom 39 = .ok (.iload_n 1, 1) := by decide +kernel
theorem d_Wa_sortedFrom_40 : decode c_Wa_sortedFrom 40 = .ok (.iconst 1, 1) := by decide +kernel
theorem d_Wa_sortedFrom_41 : decode c_Wa_sortedFrom 41 = .ok (.iadd, 1) := by decide +kernel
theorem d_Wa_sortedFrom_42 : decode c_Wa_sortedFrom 42 = .ok (.iload_n 1, 1) := by decide +kernel
theorem d_Wa_sortedFrom_43 : decode c_Wa_sortedFrom 43 = .ok (.iconst 2, 1) := by decide +kernel
theorem d_Wa_sortedFrom_44 : decode c_Wa_sortedFrom 44 = .ok (.iadd, 1) := by decide +kernel
theorem d_Wa_sortedFrom_45 : decode c_Wa_sortedFrom 45 = .ok (.iload_n 3, 1) := by decide +kernel
theorem d_Wa_sortedFrom_46 : decode c_Wa_sortedFrom 46 = .ok (.invokestatic 22, 3) := by decide +kernel
theorem d_Wa_sortedFrom_49 : decode c_Wa_sortedFrom 49 = .ok (.goto 4, 3) := by decide +kernel
theorem d_Wa_sortedFrom_52 : decode c_Wa_sortedFrom 52 = .ok (.iconst 0, 1) := by decide +kernel
theorem d_Wa_sortedFrom_53 : decode c_Wa_sortedFrom 53 = .ok (.ireturn, 1) := by decide +kernel
theorem d_Wa_sortedFrom_54 : decode c_Wa_sortedFrom 54 = .ok (.iconst 1, 1) := by decide +kernel
theorem d_Wa_sortedFrom_55 : decode c_Wa_sortedFrom 55 = .ok (.bipush 6, 2) := by decide +kernel
theorem d_Wa_sortedFrom_57 : decode c_Wa_sortedFrom 57 = .ok (.iload_n 1, 1) := by decide +kernel
theorem d_Wa_sortedFrom_58 : decode c_Wa_sortedFrom 58 = .ok (.imul, 1) := by decide +kernel
theorem d_Wa_sortedFrom_59 : decode c_Wa_sortedFrom 59 = .ok (.ishl, 1) := by decide +kernel
theorem d_Wa_sortedFrom_60 : decode c_Wa_sortedFrom 60 = .ok (.iconst 1, 1) := by decide +kernel
theorem d_Wa_sortedFrom_61 : decode c_Wa_sortedFrom 61 = .ok (.bipush 6, 2) := by decide +kernel
theorem d_Wa_sortedFrom_63 : decode c_Wa_sortedFrom 63 = .ok (.iload_n 2, 1) := by decide +kernel
theorem d_Wa_sortedFrom_64 : decode c_Wa_sortedFrom 64 = .ok (.imul, 1) := by decide +kernel
theorem d_Wa_sortedFrom_65 : decode c_Wa_sortedFrom 65 = .ok (.ishl, 1) := by decide +kernel
theorem d_Wa_sortedFrom_66 : decode c_Wa_sortedFrom 66 = .ok (.iadd, 1) := by decide +kernel
theorem d_Wa_sortedFrom_67 : decode c_Wa_sortedFrom 67 = .ok (.istore 4, 2) := by decide +kernel
theorem d_Wa_sortedFrom_69 : decode c_Wa_sortedFrom 69 = .ok (.iload_n 0, 1) := by decide +kernel
theorem d_Wa_sortedFrom_70 : decode c_Wa_sortedFrom 70 = .ok (.iload_n 1, 1) := by decide +kernel
theorem d_Wa_sortedFrom_71 : decode c_Wa_sortedFrom 71 = .ok (.iload_n 2, 1) := by decide +kernel
theorem d_Wa_sortedFrom_72 : decode c_Wa_sortedFrom 72 = .ok (.iconst 1, 1) := by decide +kernel
theorem d_Wa_sortedFrom_73 : decode c_Wa_sortedFrom 73 = .ok (.iadd, 1) := by decide +kernel
theorem d_Wa_sortedFrom_74 : decode c_Wa_sortedFrom 74 = .ok (.iload_n 3, 1) := by decide +kernel
theorem d_Wa_sortedFrom_75 : decode c_Wa_sortedFrom 75 = .ok (.invokestatic 22, 3) := by decide +kernel
theorem d_Wa_sortedFrom_78 : decode c_Wa_sortedFrom 78 = .ok (.iload_n 0, 1) := by decide +kernel
theorem d_Wa_sortedFrom_79 : decode c_Wa_sortedFrom 79 = .ok (.iload_n 1, 1) := by decide +kernel
theorem d_Wa_sortedFrom_80 : decode c_Wa_sortedFrom 80 = .ok (.iload_n 2, 1) := by decide +kernel
theorem d_Wa_sortedFrom_81 : decode c_Wa_sortedFrom 81 = .ok (.iconst 1, 1) := by decide +kernel
theorem d_Wa_sortedFrom_82 : decode c_Wa_sortedFrom 82 = .ok (.iadd, 1) := by decide +kernel
theorem d_Wa_sortedFrom_83 : decode c_Wa_sortedFrom 83 = .ok (.iload_n 3, 1) := by decide +kernel
theorem d_Wa_sortedFrom_84 : decode c_Wa_sortedFrom 84 = .ok (.iload 4, 2) := by decide +kernel
theorem d_Wa_sortedFrom_86 : decode c_Wa_sortedFrom 86 = .ok (.iadd, 1) := by decide +kernel
theorem d_Wa_sortedFrom_87 : decode c_Wa_sortedFrom 87 = .ok (.invokestatic 22, 3) := by decide +kernel
theorem d_Wa_sortedFrom_90 : decode c_Wa_sortedFrom 90 = .ok (.iadd, 1) := by decide +kernel
theorem d_Wa_sortedFrom_91 : decode c_Wa_sortedFrom 91 = .ok (.iload_n 0, 1) := by decide +kernel
theorem d_Wa_sortedFrom_92 : decode c_Wa_sortedFrom 92 = .ok (.iload_n 1, 1) := by decide +kernel
theorem d_Wa_sortedFrom_93 : decode c_Wa_sortedFrom 93 = .ok (.iload_n 2, 1) := by decide +kernel
theorem d_Wa_sortedFrom_94 : decode c_Wa_sortedFrom 94 = .ok (.iconst 1, 1) := by decide +kernel
theorem d_Wa_sortedFrom_95 : decode c_Wa_sortedFrom 95 = .ok (.iadd, 1) := by decide +kernel
theorem d_Wa_sortedFrom_96 : decode c_Wa_sortedFrom 96 = .ok (.iload_n 3, 1) := by decide +kernel
theorem d_Wa_sortedFrom_97 : decode c_Wa_sortedFrom 97 = .ok (.iload 4, 2) := by decide +kernel
theorem d_Wa_sortedFrom_99 : decode c_Wa_sortedFrom 99 = .ok (.iconst 3, 1) := by decide +kernel
theorem d_Wa_sortedFrom_100 : decode c_Wa_sortedFrom 100 = .ok (.ishl, 1) := by decide +kernel
theorem d_Wa_sortedFrom_101 : decode c_Wa_sortedFrom 101 = .ok (.iadd, 1) := by decide +kernel
theorem d_Wa_sortedFrom_102 : decode c_Wa_sortedFrom 102 = .ok (.invokestatic 22, 3) := by decide +kernel
theorem d_Wa_sortedFrom_105 : decode c_Wa_sortedFrom 105 = .ok (.iadd, 1) := by decide +kernel
theorem d_Wa_sortedFrom_106 : decode c_Wa_sortedFrom 106 = .ok (.ireturn, 1) := by decide +kernel
theorem d_Wa_allUnlike_0 : decode c_Wa_allUnlike 0 = .ok (.iconst 1, 1) := by decide +kernel
theorem d_Wa_allUnlike_1 : decode c_Wa_allUnlike 1 = .ok (.istore_n 3, 1) := by decide +kernel
theorem d_Wa_allUnlike_2 : decode c_Wa_allUnlike 2 = .ok (.iload_n 3, 1) := by decide +kernel
theorem d_Wa_allUnlike_3 : decode c_Wa_allUnlike 3 = .ok (.iload_n 1, 1) := by decide +kernel
theorem d_Wa_allUnlike_4 : decode c_Wa_allUnlike 4 = .ok (.if_icmp .ge 20, 3) := by decide +kernel
theorem d_Wa_allUnlike_7 : decode c_Wa_allUnlike 7 = .ok (.iload_n 0, 1) := by decide +kernel
theorem d_Wa_allUnlike_8 : decode c_Wa_allUnlike 8 = .ok (.iload_n 3, 1) := by decide +kernel
theorem d_Wa_allUnlike_9 : decode c_Wa_allUnlike 9 = .ok (.iload_n 2, 1) := by decide +kernel
theorem d_Wa_allUnlike_10 : decode c_Wa_allUnlike 10 = .ok (.invokestatic 40, 3) := by decide +kernel
theorem d_Wa_allUnlike_13 : decode c_Wa_allUnlike 13 = .ok (.ifCond .ne 5, 3) := by decide +kernel
theorem d_Wa_allUnlike_16 : decode c_Wa_allUnlike 16 = .ok (.iconst 0, 1) := by decide +kernel
theorem d_Wa_allUnlike_17 : decode c_Wa_allUnlike 17 = .ok (.ireturn, 1) := by decide +kernel
theorem d_Wa_allUnlike_18 : decode c_Wa_allUnlike 18 = .ok (.iinc 3 1, 3) := by decide +kernel
theorem d_Wa_allUnlike_21 : decode c_Wa_allUnlike 21 = .ok (.goto (-19), 3) := by decide +kernel
theorem d_Wa_allUnlike_24 : decode c_Wa_allUnlike 24 = .ok (.iconst 1, 1) := by decide +kernel
theorem d_Wa_allUnlike_25 : decode c_Wa_allUnlike 25 = .ok (.ireturn, 1) := by decide +kernel
theorem d_Wa_unlikeBelow_0 : decode c_Wa_unlikeBelow 0 = .ok (.iconst 1, 1) := by decide +kernel
theorem d_Wa_unlikeBelow_1 : decode c_Wa_unlikeBelow 1 = .ok (.iload_n 2, 1) := by decide +kernel
theorem d_Wa_unlikeBelow_2 : decode c_Wa_unlikeBelow 2 = .ok (.ishl, 1) := by decide +kernel
theorem d_Wa_unlikeBelow_3 : decode c_Wa_unlikeBelow 3 = .ok (.iconst 1, 1) := by decide +kernel
theorem d_Wa_unlikeBelow_4 : decode c_Wa_unlikeBelow 4 = .ok (.isub, 1) := by decide +kernel
theorem d_Wa_unlikeBelow_5 : decode c_Wa_unlikeBelow 5 = .ok (.istore_n 3, 1) := by decide +kernel
theorem d_Wa_unlikeBelow_6 : decode c_Wa_unlikeBelow 6 = .ok (.iconst 0, 1) := by decide +kernel
theorem d_Wa_unlikeBelow_7 : decode c_Wa_unlikeBelow 7 = .ok (.istore 4, 2) := by decide +kernel
theorem d_Wa_unlikeBelow_9 : decode c_Wa_unlikeBelow 9 = .ok (.iload 4, 2) := by decide +kernel
theorem d_Wa_unlikeBelow_11 : decode c_Wa_unlikeBelow 11 = .ok (.iload_n 1, 1) := by decide +kernel
theorem d_Wa_unlikeBelow_12 : decode c_Wa_unlikeBelow 12 = .ok (.if_icmp .ge 29, 3) := by decide +kernel
theorem d_Wa_unlikeBelow_15 : decode c_Wa_unlikeBelow 15 = .ok (.iload_n 0, 1) := by decide +kernel
theorem d_Wa_unlikeBelow_16 : decode c_Wa_unlikeBelow 16 = .ok (.iload_n 2, 1) := by decide +kernel
theorem d_Wa_unlikeBelow_17 : decode c_Wa_unlikeBelow 17 = .ok (.iload 4, 2) := by decide +kernel
theorem d_Wa_unlikeBelow_19 : decode c_Wa_unlikeBelow 19 = .ok (.imul, 1) := by decide +kernel
theorem d_Wa_unlikeBelow_20 : decode c_Wa_unlikeBelow 20 = .ok (.ishr, 1) := by decide +kernel
theorem d_Wa_unlikeBelow_21 : decode c_Wa_unlikeBelow 21 = .ok (.iload_n 3, 1) := by decide +kernel
theorem d_Wa_unlikeBelow_22 : decode c_Wa_unlikeBelow 22 = .ok (.iand, 1) := by decide +kernel
theorem d_Wa_unlikeBelow_23 : decode c_Wa_unlikeBelow 23 = .ok (.iload_n 0, 1) := by decide +kernel
theorem d_Wa_unlikeBelow_24 : decode c_Wa_unlikeBelow 24 = .ok (.iload_n 2, 1) := by decide +kernel
theorem d_Wa_unlikeBelow_25 : decode c_Wa_unlikeBelow 25 = .ok (.iload_n 1, 1) := by decide +kernel
theorem d_Wa_unlikeBelow_26 : decode c_Wa_unlikeBelow 26 = .ok (.imul, 1) := by decide +kernel
theorem d_Wa_unlikeBelow_27 : decode c_Wa_unlikeBelow 27 = .ok (.ishr, 1) := by decide +kernel
theorem d_Wa_unlikeBelow_28 : decode c_Wa_unlikeBelow 28 = .ok (.iload_n 3, 1) := by decide +kernel
theorem d_Wa_unlikeBelow_29 : decode c_Wa_unlikeBelow 29 = .ok (.iand, 1) := by decide +kernel
theorem d_Wa_unlikeBelow_30 : decode c_Wa_unlikeBelow 30 = .ok (.if_icmp .ne 5, 3) := by decide +kernel
theorem d_Wa_unlikeBelow_33 : decode c_Wa_unlikeBelow 33 = .ok (.iconst 0, 1) := by decide +kernel
theorem d_Wa_unlikeBelow_34 : decode c_Wa_unlikeBelow 34 = .ok (.ireturn, 1) := by decide +kernel
theorem d_Wa_unlikeBelow_35 : decode c_Wa_unlikeBelow 35 = .ok (.iinc 4 1, 3) := by decide +kernel
theorem d_Wa_unlikeBelow_38 : decode c_Wa_unlikeBelow 38 = .ok (.goto (-29), 3) := by decide +kernel
theorem d_Wa_unlikeBelow_41 : decode c_Wa_unlikeBelow 41 = .ok (.iconst 1, 1) := by decide +kernel
theorem d_Wa_unlikeBelow_42 : decode c_Wa_unlikeBelow 42 = .ok (.ireturn, 1) := by decide +kernel
theorem d_We_init_0 : decode c_We_init 0 = .ok (.aload_n 0, 1) := by decide +kernel
theorem d_We_init_1 : decode c_We_init 1 = .ok (.invokespecial 3, 3) := by decide +kernel
theorem d_We_init_4 : decode c_We_init 4 = .ok (.aload_n 0, 1) := by decide +kernel
theorem d_We_init_5 : decode c_We_init 5 = .ok (.bipush 8, 2) := by decide +kernel
theorem d_We_init_7 : decode c_We_init 7 = .ok (.newarray .int, 2) := by decide +kernel
theorem d_We_init_9 : decode c_We_init 9 = .ok (.putfield 9, 3) := by decide +kernel
theorem d_We_init_12 : decode c_We_init 12 = .ok (.aload_n 0, 1) := by decide +kernel
theorem d_We_init_13 : decode c_We_init 13 = .ok (.bipush 8, 2) := by decide +kernel
theorem d_We_init_15 : decode c_We_init 15 = .ok (.newarray .int, 2) := by decide +kernel
theorem d_We_init_17 : decode c_We_init 17 = .ok (.putfield 15, 3) := by decide +kernel
theorem d_We_init_20 : decode c_We_init 20 = .ok (.aload_n 0, 1) := by decide +kernel
theorem d_We_init_21 : decode c_We_init 21 = .ok (.bipush 8, 2) := by decide +kernel
theorem d_We_init_23 : decode c_We_init 23 = .ok (.newarray .int, 2) := by decide +kernel
theorem d_We_init_25 : decode c_We_init 25 = .ok (.putfield 18, 3) := by decide +kernel
theorem d_We_init_28 : decode c_We_init 28 = .ok (.aload_n 0, 1) := by decide +kernel
theorem d_We_init_29 : decode c_We_init 29 = .ok (.bipush 8, 2) := by decide +kernel
theorem d_We_init_31 : decode c_We_init 31 = .ok (.newarray .int, 2) := by decide +kernel
theorem d_We_init_33 : decode c_We_init 33 = .ok (.putfield 21, 3) := by decide +kernel
theorem d_We_init_36 : decode c_We_init 36 = .ok (.aload_n 0, 1) := by decide +kernel
theorem d_We_init_37 : decode c_We_init 37 = .ok (.bipush 8, 2) := by decide +kernel
theorem d_We_init_39 : decode c_We_init 39 = .ok (.newarray .int, 2) := by decide +kernel
theorem d_We_init_41 : decode c_We_init 41 = .ok (.putfield 24, 3) := by decide +kernel
theorem d_We_init_44 : decode c_We_init 44 = .ok (.return_, 1) := by decide +kernel
theorem d_We_solve_0 : decode c_We_solve 0 = .ok (.aload_n 0, 1) := by decide +kernel
theorem d_We_solve_1 : decode c_We_solve 1 = .ok (.aload_n 1, 1) := by decide +kernel
theorem d_We_solve_2 : decode c_We_solve 2 = .ok (.invokevirtual 27, 3) := by decide +kernel
theorem d_We_solve_5 : decode c_We_solve 5 = .ok (.iconst 0, 1) := by decide +kernel
theorem d_We_solve_6 : decode c_We_solve 6 = .ok (.istore_n 2, 1) := by decide +kernel
theorem d_We_solve_7 : decode c_We_solve 7 = .ok (.iconst 0, 1) := by decide +kernel
theorem d_We_solve_8 : decode c_We_solve 8 = .ok (.istore_n 3, 1) := by decide +kernel
theorem d_We_solve_9 : decode c_We_solve 9 = .ok (.iload_n 3, 1) := by decide +kernel
theorem d_We_solve_10 : decode c_We_solve 10 = .ok (.aload_n 1, 1) := by decide +kernel
theorem d_We_solve_11 : decode c_We_solve 11 = .ok (.getfield 31, 3) := by decide +kernel
theorem d_We_solve_14 : decode c_We_solve 14 = .ok (.if_icmp .ge 28, 3) := by decide +kernel
theorem d_We_solve_17 : decode c_We_solve 17 = .ok (.aload_n 0, 1) := by decide +kernel
theorem d_We_solve_18 : decode c_We_solve 18 = .ok (.getfield 24, 3) := by decide +kernel
theorem d_We_solve_21 : decode c_We_solve 21 = .ok (.iload_n 3, 1) := by decide +kernel
theorem d_We_solve_22 : decode c_We_solve 22 = .ok (.iconst 0, 1) := by decide +kernel
theorem d_We_solve_23 : decode c_We_solve 23 = .ok (.iastore, 1) := by decide +kernel
theorem d_We_solve_24 : decode c_We_solve 24 = .ok (.aload_n 1, 1) := by decide +kernel
theorem d_We_solve_25 : decode c_We_solve 25 = .ok (.getfield 37, 3) := by decide +kernel
theorem d_We_solve_28 : decode c_We_solve 28 = .ok (.iload_n 3, 1) := by decide +kernel
theorem d_We_solve_29 : decode c_We_solve 29 = .ok (.iaload, 1) := by decide +kernel
theorem d_We_solve_30 : decode c_We_solve 30 = .ok (.ifCond .ne 6, 3) := by decide +kernel
theorem d_We_solve_33 : decode c_We_solve 33 = .ok (.iinc 2 1, 3) := by decide +kernel
theorem d_We_solve_36 : decode c_We_solve 36 = .ok (.iinc 3 1, 3) := by decide +kernel
theorem d_We_solve_39 : decode c_We_solve 39 = .ok (.goto (-30), 3) := by decide +kernel
theorem d_We_solve_42 : decode c_We_solve 42 = .ok (.aload_n 0, 1) := by decide +kernel
theorem d_We_solve_43 : decode c_We_solve 43 = .ok (.iconst (-1), 1) := by decide +kernel
theorem d_We_solve_44 : decode c_We_solve 44 = .ok (.putfield 40, 3) := by decide +kernel
theorem d_We_solve_47 : decode c_We_solve 47 = .ok (.iconst 1, 1) := by decide +kernel
theorem d_We_solve_48 : decode c_We_solve 48 = .ok (.istore_n 3, 1) := by decide +kernel
theorem d_We_solve_49 : decode c_We_solve 49 = .ok (.iload_n 3, 1) := by decide +kernel
theorem d_We_solve_50 : decode c_We_solve 50 = .ok (.iconst 4, 1) := by decide +kernel
theorem d_We_solve_51 : decode c_We_solve 51 = .ok (.if_icmp .gt 37, 3) := by decide +kernel
theorem d_We_solve_54 : decode c_We_solve 54 = .ok (.iload_n 2, 1) := by decide +kernel
theorem d_We_solve_55 : decode c_We_solve 55 = .ok (.iconst 2, 1) := by decide +kernel
theorem d_We_solve_56 : decode c_We_solve 56 = .ok (.if_icmp .ge 32, 3) := by decide +kernel
theorem d_We_solve_59 : decode c_We_solve 59 = .ok (.aload_n 0, 1) := by decide +kernel
theorem d_We_solve_60 : decode c_We_solve 60 = .ok (.getfield 40, 3) := by decide +kernel
theorem d_We_solve_63 : decode c_We_solve 63 = .ok (.iconst (-1), 1) := by decide +kernel
theorem d_We_solve_64 : decode c_We_solve 64 = .ok (.if_icmp .ne 24, 3) := by decide +kernel
theorem d_We_solve_67 : decode c_We_solve 67 = .ok (.aload_n 0, 1) := by decide +kernel
theorem d_We_solve_68 : decode c_We_solve 68 = .ok (.iconst 0, 1) := by decide +kernel
theorem d_We_solve_69 : decode c_We_solve 69 = .ok (.iload_n 3, 1) := by decide +kernel
theorem d_We_solve_70 : decode c_We_solve 70 = .ok (.iconst 0, 1) := by decide +kernel
theorem d_We_solve_71 : decode c_We_solve 71 = .ok (.invokestatic 43, 3) := by decide +kernel
theorem d_We_solve_74 : decode c_We_solve 74 = .ok (.ifCond .eq 8, 3) := by decide +kernel
theorem d_We_solve_77 : decode c_We_solve 77 = .ok (.aload_n 0, 1) := by decide +kernel
theorem d_We_solve_78 : decode c_We_solve 78 = .ok (.iload_n 3, 1) := by decide +kernel
theorem d_We_solve_79 : decode c_We_solve 79 = .ok (.putfield 40, 3) := by decide +kernel
theorem d_We_solve_82 : decode c_We_solve 82 = .ok (.iinc 3 1, 3) := by decide +kernel
theorem d_We_solve_85 : decode c_We_solve 85 = .ok (.goto (-36), 3) := by decide +kernel
theorem d_We_solve_88 : decode c_We_solve 88 = .ok (.return_, 1) := by decide +kernel
theorem d_We_weightOf_0 : decode c_We_weightOf 0 = .ok (.iload_n 1, 1) := by decide +kernel
theorem d_We_weightOf_1 : decode c_We_weightOf 1 = .ok (.iload_n 2, 1) := by decide +kernel
theorem d_We_weightOf_2 : decode c_We_weightOf 2 = .ok (.invokestatic 47, 3) := by decide +kernel
theorem d_We_weightOf_5 : decode c_We_weightOf 5 = .ok (.istore_n 3, 1) := by decide +kernel
theorem d_We_weightOf_6 : decode c_We_weightOf 6 = .ok (.iload_n 1, 1) := by decide +kernel
theorem d_We_weightOf_7 : decode c_We_weightOf 7 = .ok (.iload_n 2, 1) := by decide +kernel
theorem d_We_weightOf_8 : decode c_We_weightOf 8 = .ok (.invokestatic 53, 3) := by decide +kernel
theorem d_We_weightOf_11 : decode c_We_weightOf 11 = .ok (.istore 4, 2) := by decide +kernel
theorem d_We_weightOf_13 : decode c_We_weightOf 13 = .ok (.iconst 0, 1) := by decide +kernel
theorem d_We_weightOf_14 : decode c_We_weightOf 14 = .ok (.istore 5, 2) := by decide +kernel
theorem d_We_weightOf_16 : decode c_We_weightOf 16 = .ok (.iload 5, 2) := by decide +kernel
theorem d_We_weightOf_18 : decode c_We_weightOf 18 = .ok (.aload_n 0, 1) := by decide +kernel
theorem d_We_weightOf_19 : decode c_We_weightOf 19 = .ok (.getfield 56, 3) := by decide +kernel
theorem d_We_weightOf_22 : decode c_We_weightOf 22 = .ok (.if_icmp .ge 40, 3) := by decide +kernel
theorem d_We_weightOf_25 : decode c_We_weightOf 25 = .ok (.aload_n 0, 1) := by decide +kernel
theorem d_We_weightOf_26 : decode c_We_weightOf 26 = .ok (.getfield 9, 3) := by decide +kernel
theorem d_We_weightOf_29 : decode c_We_weightOf 29 = .ok (.iload 5, 2) := by decide +kernel
theorem d_We_weightOf_31 : decode c_We_weightOf 31 = .ok (.iaload, 1) := by decide +kernel
theorem d_We_weightOf_32 : decode c_We_weightOf 32 = .ok (.iload_n 3, 1) := by decide +kernel
theorem d_We_weightOf_33 : decode c_We_weightOf 33 = .ok (.if_icmp .ne 23, 3) := by decide +kernel
theorem d_We_weightOf_36 : decode c_We_weightOf 36 = .ok (.aload_n 0, 1) := by decide +kernel
theorem d_We_weightOf_37 : decode c_We_weightOf 37 = .ok (.getfield 15, 3) := by decide +kernel
theorem d_We_weightOf_40 : decode c_We_weightOf 40 = .ok (.iload 5, 2) := by decide +kernel
theorem d_We_weightOf_42 : decode c_We_weightOf 42 = .ok (.iaload, 1) := by decide +kernel
theorem d_We_weightOf_43 : decode c_We_weightOf 43 = .ok (.iload 4, 2) := by decide +kernel
theorem d_We_weightOf_45 : decode c_We_weightOf 45 = .ok (.if_icmp .ne 11, 3) := by decide +kernel
theorem d_We_weightOf_48 : decode c_We_weightOf 48 = .ok (.aload_n 0, 1) := by decide +kernel
theorem d_We_weightOf_49 : decode c_We_weightOf 49 = .ok (.getfield 18, 3) := by decide +kernel
theorem d_We_weightOf_52 : decode c_We_weightOf 52 = .ok (.iload 5, 2) := by decide +kernel
theorem d_We_weightOf_54 : decode c_We_weightOf 54 = .ok (.iaload, 1) := by decide +kernel
theorem d_We_weightOf_55 : decode c_We_weightOf 55 = .ok (.ireturn, 1) := by decide +kernel
theorem d_We_weightOf_56 : decode c_We_weightOf 56 = .ok (.iinc 5 1, 3) := by decide +kernel
theorem d_We_weightOf_59 : decode c_We_weightOf 59 = .ok (.goto (-43), 3) := by decide +kernel
theorem d_We_weightOf_62 : decode c_We_weightOf 62 = .ok (.iconst 0, 1) := by decide +kernel
theorem d_We_weightOf_63 : decode c_We_weightOf 63 = .ok (.ireturn, 1) := by decide +kernel
theorem d_We_listFriendships_0 : decode c_We_listFriendships 0 = .ok (.aload_n 0, 1) := by decide +kernel
theorem d_We_listFriendships_1 : decode c_We_listFriendships 1 = .ok (.iconst 0, 1) := by decide +kernel
theorem d_We_listFriendships_2 : decode c_We_listFriendships 2 = .ok (.putfield 56, 3) := by decide +kernel
theorem d_We_listFriendships_5 : decode c_We_listFriendships 5 = .ok (.iconst 0, 1) := by decide +kernel
theorem d_We_listFriendships_6 : decode c_We_listFriendships 6 = .ok (.istore_n 2, 1) := by decide +kernel
theorem d_We_listFriendships_7 : decode c_We_listFriendships 7 = .ok (.iload_n 2, 1) := by decide +kernel
theorem d_We_listFriendships_8 : decode c_We_listFriendships 8 = .ok (.aload_n 1, 1) := by decide +kernel
theorem d_We_listFriendships_9 : decode c_We_listFriendships 9 = .ok (.getfield 31, 3) := by decide +kernel
theorem d_We_listFriendships_12 : decode c_We_listFriendships 12 = .ok (.if_icmp .ge 85, 3) := by decide +kernel
theorem d_We_listFriendships_15 : decode c_We_listFriendships 15 = .ok (.iload_n 2, 1) := by decide +kernel
theorem d_We_listFriendships_16 : decode c_We_listFriendships 16 = .ok (.iconst 1, 1) := by decide +kernel
theorem d_We_listFriendships_17 : decode c_We_listFriendships 17 = .ok (.iadd, 1) := by decide +kernel
theorem d_We_listFriendships_18 : decode c_We_listFriendships 18 = .ok (.istore_n 3, 1) := by decide +kernel
theorem d_We_listFriendships_19 : decode c_We_listFriendships 19 = .ok (.iload_n 3, 1) := by decide +kernel
theorem d_We_listFriendships_20 : decode c_We_listFriendships 20 = .ok (.aload_n 1, 1) := by decide +kernel
theorem d_We_listFriendships_21 : decode c_We_listFriendships 21 = .ok (.getfield 31, 3) := by decide +kernel
theorem d_We_listFriendships_24 : decode c_We_listFriendships 24 = .ok (.if_icmp .ge 67, 3) := by decide +kernel
theorem d_We_listFriendships_27 : decode c_We_listFriendships 27 = .ok (.aload_n 0, 1) := by decide +kernel
theorem d_We_listFriendships_28 : decode c_We_listFriendships 28 = .ok (.getfield 56, 3) := by decide +kernel
theorem d_We_listFriendships_31 : decode c_We_listFriendships 31 = .ok (.bipush 8, 2) := by decide +kernel
theorem d_We_listFriendships_33 : decode c_We_listFriendships 33 = .ok (.if_icmp .ge 58, 3) := by decide +kernel
theorem d_We_listFriendships_36 : decode c_We_listFriendships 36 = .ok (.aload_n 1, 1) := by decide +kernel
theorem d_We_listFriendships_37 : decode c_We_listFriendships 37 = .ok (.iload_n 2, 1) := by decide +kernel
theorem d_We_listFriendships_38 : decode c_We_listFriendships 38 = .ok (.iload_n 3, 1) := by decide +kernel
theorem d_We_listFriendships_39 : decode c_We_listFriendships 39 = .ok (.invokevirtual 59, 3) := by decide +kernel
theorem d_We_listFriendships_42 : decode c_We_listFriendships 42 = .ok (.ifCond .eq 43, 3) := by decide +kernel
theorem d_We_listFriendships_45 : decode c_We_listFriendships 45 = .ok (.aload_n 0, 1) := by decide +kernel
theorem d_We_listFriendships_46 : decode c_We_listFriendships 46 = .ok (.getfield 9, 3) := by decide +kernel
theorem d_We_listFriendships_49 : decode c_We_listFriendships 49 = .ok (.aload_n 0, 1) := by decide +kernel
theorem d_We_listFriendships_50 : decode c_We_listFriendships 50 = .ok (.getfield 56, 3) := by decide +kernel
theorem d_We_listFriendships_53 : decode c_We_listFriendships 53 = .ok (.iload_n 2, 1) := by decide +kernel
theorem d_We_listFriendships_54 : decode c_We_listFriendships 54 = .ok (.iastore, 1) := by decide +kernel
theorem d_We_listFriendships_55 : decode c_We_listFriendships 55 = .ok (.aload_n 0, 1) := by decide +kernel
theorem d_We_listFriendships_56 : decode c_We_listFriendships 56 = .ok (.getfield 15, 3) := by decide +kernel
theorem d_We_listFriendships_59 : decode c_We_listFriendships 59 = .ok (.aload_n 0, 1) := by decide +kernel
theorem d_We_listFriendships_60 : decode c_We_listFriendships 60 = .ok (.getfield 56, 3) := by decide +kernel
theorem d_We_listFriendships_63 : decode c_We_listFriendships 63 = .ok (.iload_n 3, 1) := by decide +kernel
theorem d_We_listFriendships_64 : decode c_We_listFriendships 64 = .ok (.iastore, 1) := by decide +kernel
theorem d_We_listFriendships_65 : decode c_We_listFriendships 65 = .ok (.aload_n 0, 1) := by decide +kernel
theorem d_We_listFriendships_66 : decode c_We_listFriendships 66 = .ok (.getfield 18, 3) := by decide +kernel
theorem d_We_listFriendships_69 : decode c_We_listFriendships 69 = .ok (.aload_n 0, 1) := by decide +kernel
theorem d_We_listFriendships_70 : decode c_We_listFriendships 70 = .ok (.getfield 56, 3) := by decide +kernel
theorem d_We_listFriendships_73 : decode c_We_listFriendships 73 = .ok (.iconst 0, 1) := by decide +kernel
theorem d_We_listFriendships_74 : decode c_We_listFriendships 74 = .ok (.iastore, 1) := by decide +kernel
theorem d_We_listFriendships_75 : decode c_We_listFriendships 75 = .ok (.aload_n 0, 1) := by decide +kernel
theorem d_We_listFriendships_76 : decode c_We_listFriendships 76 = .ok (.dup, 1) := by decide +kernel
theorem d_We_listFriendships_77 : decode c_We_listFriendships 77 = .ok (.getfield 56, 3) := by decide +kernel
theorem d_We_listFriendships_80 : decode c_We_listFriendships 80 = .ok (.iconst 1, 1) := by decide +kernel
theorem d_We_listFriendships_81 : decode c_We_listFriendships 81 = .ok (.iadd, 1) := by decide +kernel
theorem d_We_listFriendships_82 : decode c_We_listFriendships 82 = .ok (.putfield 56, 3) := by decide +kernel
theorem d_We_listFriendships_85 : decode c_We_listFriendships 85 = .ok (.iinc 3 1, 3) := by decide +kernel
theorem d_We_listFriendships_88 : decode c_We_listFriendships 88 = .ok (.goto (-69), 3) := by decide +kernel
theorem d_We_listFriendships_91 : decode c_We_listFriendships 91 = .ok (.iinc 2 1, 3) := by decide +kernel
theorem d_We_listFriendships_94 : decode c_We_listFriendships 94 = .ok (.goto (-87), 3) := by decide +kernel
theorem d_We_listFriendships_97 : decode c_We_listFriendships 97 = .ok (.iconst 0, 1) := by decide +kernel
theorem d_We_listFriendships_98 : decode c_We_listFriendships 98 = .ok (.istore_n 2, 1) := by decide +kernel
theorem d_We_listFriendships_99 : decode c_We_listFriendships 99 = .ok (.aload_n 0, 1) := by decide +kernel
theorem d_We_listFriendships_100 : decode c_We_listFriendships 100 = .ok (.getfield 56, 3) := by decide +kernel
theorem d_We_listFriendships_103 : decode c_We_listFriendships 103 = .ok (.iconst 1, 1) := by decide +kernel
theorem d_We_listFriendships_104 : decode c_We_listFriendships 104 = .ok (.isub, 1) := by decide +kernel
theorem d_We_listFriendships_105 : decode c_We_listFriendships 105 = .ok (.istore_n 3, 1) := by decide +kernel
theorem d_We_listFriendships_106 : decode c_We_listFriendships 106 = .ok (.iload_n 3, 1) := by decide +kernel
theorem d_We_listFriendships_107 : decode c_We_listFriendships 107 = .ok (.ifCond .lt 45, 3) := by decide +kernel
theorem d_We_listFriendships_110 : decode c_We_listFriendships 110 = .ok (.iconst 1, 1) := by decide +kernel
theorem d_We_listFriendships_111 : decode c_We_listFriendships 111 = .ok (.aload_n 0, 1) := by decide +kernel
theorem d_We_listFriendships_112 : decode c_We_listFriendships 112 = .ok (.getfield 9, 3) := by decide +kernel
theorem d_We_listFriendships_115 : decode c_We_listFriendships 115 = .ok (.iload_n 3, 1) := by decide +kernel
theorem d_We_listFriendships_116 : decode c_We_listFriendships 116 = .ok (.iaload, 1) := by decide +kernel
theorem d_We_listFriendships_117 : decode c_We_listFriendships 117 = .ok (.ishl, 1) := by decide +kernel
theorem d_We_listFriendships_118 : decode c_We_listFriendships 118 = .ok (.iconst 1, 1) := by decide +kernel
theorem d_We_listFriendships_119 : decode c_We_listFriendships 119 = .ok (.aload_n 0, 1) := by decide +kernel
theorem d_We_listFriendships_120 : decode c_We_listFriendships 120 = .ok (.getfield 15, 3) := by decide +kernel
theorem d_We_listFriendships_123 : decode c_We_listFriendships 123 = .ok (.iload_n 3, 1) := by decide +kernel
theorem d_We_listFriendships_124 : decode c_We_listFriendships 124 = .ok (.iaload, 1) := by decide +kernel
theorem d_We_listFriendships_125 : decode c_We_listFriendships 125 = .ok (.ishl, 1) := by decide +kernel
theorem d_We_listFriendships_126 : decode c_We_listFriendships 126 = .ok (.ior, 1) := by decide +kernel
theorem d_We_listFriendships_127 : decode c_We_listFriendships 127 = .ok (.istore 4, 2) := by decide +kernel
theorem d_We_listFriendships_129 : decode c_We_listFriendships 129 = .ok (.aload_n 0, 1) := by decide +kernel
theorem d_We_listFriendships_130 : decode c_We_listFriendships 130 = .ok (.getfield 21, 3) := by decide +kernel
theorem d_We_listFriendships_133 : decode c_We_listFriendships 133 = .ok (.iload_n 3, 1) := by decide +kernel
theorem d_We_listFriendships_134 : decode c_We_listFriendships 134 = .ok (.iload 4, 2) := by decide +kernel
theorem d_We_listFriendships_136 : decode c_We_listFriendships 136 = .ok (.iload_n 2, 1) := by decide +kernel
theorem d_We_listFriendships_137 : decode c_We_listFriendships 137 = .ok (.iconst (-1), 1) := by decide +kernel
theorem d_We_listFriendships_138 : decode c_We_listFriendships 138 = .ok (.ixor, 1) := by decide +kernel
theorem d_We_listFriendships_139 : decode c_We_listFriendships 139 = .ok (.iand, 1) := by decide +kernel
theorem d_We_listFriendships_140 : decode c_We_listFriendships 140 = .ok (.iastore, 1) := by decide +kernel
theorem d_We_listFriendships_141 : decode c_We_listFriendships 141 = .ok (.iload_n 2, 1) := by decide +kernel
theorem d_We_listFriendships_142 : decode c_We_listFriendships 142 = .ok (.iload 4, 2) := by decide +kernel
theorem d_We_listFriendships_144 : decode c_We_listFriendships 144 = .ok (.ior, 1) := by decide +kernel
theorem d_We_listFriendships_145 : decode c_We_listFriendships 145 = .ok (.istore_n 2, 1) := by decide +kernel
theorem d_We_listFriendships_146 : decode c_We_listFriendships 146 = .ok (.iinc 3 (-1), 3) := by decide +kernel
theorem d_We_listFriendships_149 : decode c_We_listFriendships 149 = .ok (.goto (-43), 3) := by decide +kernel
theorem d_We_listFriendships_152 : decode c_We_listFriendships 152 = .ok (.return_, 1) := by decide +kernel
theorem d_We_weighFrom_0 : decode c_We_weighFrom 0 = .ok (.iload_n 1, 1) := by decide +kernel
theorem d_We_weighFrom_1 : decode c_We_weighFrom 1 = .ok (.aload_n 0, 1) := by decide +kernel
theorem d_We_weighFrom_2 : decode c_We_weighFrom 2 = .ok (.getfield 56, 3) := by decide +kernel
theorem d_We_weighFrom_5 : decode c_We_weighFrom 5 = .ok (.if_icmp .lt 5, 3) := by decide +kernel
theorem d_We_weighFrom_8 : decode c_We_weighFrom 8 = .ok (.iconst 1, 1) := by decide +kernel
theorem d_We_weighFrom_9 : decode c_We_weighFrom 9 = .ok (.ireturn, 1) := by decide +kernel
theorem d_We_weighFrom_10 : decode c_We_weighFrom 10 = .ok (.iload_n 3, 1) := by decide +kernel
theorem d_We_weighFrom_11 : decode c_We_weighFrom 11 = .ok (.aload_n 0, 1) := by decide +kernel
theorem d_We_weighFrom_12 : decode c_We_weighFrom 12 = .ok (.getfield 21, 3) := by decide +kernel
theorem d_We_weighFrom_15 : decode c_We_weighFrom 15 = .ok (.iload_n 1, 1) := by decide +kernel
theorem d_We_weighFrom_16 : decode c_We_weighFrom 16 = .ok (.iaload, 1) := by decide +kernel
theorem d_We_weighFrom_17 : decode c_We_weighFrom 17 = .ok (.ior, 1) := by decide +kernel
theorem d_We_weighFrom_18 : decode c_We_weighFrom 18 = .ok (.istore 4, 2) := by decide +kernel
theorem d_We_weighFrom_20 : decode c_We_weighFrom 20 = .ok (.iconst 1, 1) := by decide +kernel
theorem d_We_weighFrom_21 : decode c_We_weighFrom 21 = .ok (.istore 5, 2) := by decide +kernel
theorem d_We_weighFrom_23 : decode c_We_weighFrom 23 = .ok (.iload 5, 2) := by decide +kernel
theorem d_We_weighFrom_25 : decode c_We_weighFrom 25 = .ok (.iload_n 2, 1) := by decide +kernel
theorem d_We_weighFrom_26 : decode c_We_weighFrom 26 = .ok (.if_icmp .gt 46, 3) := by decide +kernel
theorem d_We_weighFrom_29 : decode c_We_weighFrom 29 = .ok (.aload_n 0, 1) := by decide +kernel
theorem d_We_weighFrom_30 : decode c_We_weighFrom 30 = .ok (.iload_n 1, 1) := by decide +kernel
theorem d_We_weighFrom_31 : decode c_We_weighFrom 31 = .ok (.iload 5, 2) := by decide +kernel
theorem d_We_weighFrom_33 : decode c_We_weighFrom 33 = .ok (.invokevirtual 63, 3) := by decide +kernel
theorem d_We_weighFrom_36 : decode c_We_weighFrom 36 = .ok (.aload_n 0, 1) := by decide +kernel
theorem d_We_weighFrom_37 : decode c_We_weighFrom 37 = .ok (.aload_n 0, 1) := by decide +kernel
theorem d_We_weighFrom_38 : decode c_We_weighFrom 38 = .ok (.getfield 21, 3) := by decide +kernel
theorem d_We_weighFrom_41 : decode c_We_weighFrom 41 = .ok (.iload_n 1, 1) := by decide +kernel
theorem d_We_weighFrom_42 : decode c_We_weighFrom 42 = .ok (.iaload, 1) := by decide +kernel
theorem d_We_weighFrom_43 : decode c_We_weighFrom 43 = .ok (.iload 4, 2) := by decide +kernel
theorem d_We_weighFrom_45 : decode c_We_weighFrom 45 = .ok (.invokevirtual 67, 3) := by decide +kernel
theorem d_We_weighFrom_48 : decode c_We_weighFrom 48 = .ok (.ifCond .eq 18, 3) := by decide +kernel
theorem d_We_weighFrom_51 : decode c_We_weighFrom 51 = .ok (.aload_n 0, 1) := by decide +kernel
theorem d_We_weighFrom_52 : decode c_We_weighFrom 52 = .ok (.iload_n 1, 1) := by decide +kernel
theorem d_We_weighFrom_53 : decode c_We_weighFrom 53 = .ok (.iconst 1, 1) := by decide +kernel
theorem d_We_weighFrom_54 : decode c_We_weighFrom 54 = .ok (.iadd, 1) := by decide +kernel
theorem d_We_weighFrom_55 : decode c_We_weighFrom 55 = .ok (.iload_n 2, 1) := by decide +kernel
theorem d_We_weighFrom_56 : decode c_We_weighFrom 56 = .ok (.iload 4, 2) := by decide +kernel
theorem d_We_weighFrom_58 : decode c_We_weighFrom 58 = .ok (.invokestatic 43, 3) := by decide +kernel
theorem d_We_weighFrom_61 : decode c_We_weighFrom 61 = .ok (.ifCond .eq 5, 3) := by decide +kernel
theorem d_We_weighFrom_64 : decode c_We_weighFrom 64 = .ok (.iconst 1, 1) := by decide +kernel
theorem d_We_weighFrom_65 : decode c_We_weighFrom 65 = .ok (.ireturn, 1) := by decide +kernel
theorem d_We_weighFrom_66 : decode c_We_weighFrom 66 = .ok (.iinc 5 1, 3) := by decide +kernel
theorem d_We_weighFrom_69 : decode c_We_weighFrom 69 = .ok (.goto (-46), 3) := by decide +kernel
theorem d_We_weighFrom_72 : decode c_We_weighFrom 72 = .ok (.aload_n 0, 1) := by decide +kernel
theorem d_We_weighFrom_73 : decode c_We_weighFrom 73 = .ok (.iload_n 1, 1) := by decide +kernel
theorem d_We_weighFrom_74 : decode c_We_weighFrom 74 = .ok (.iconst 0, 1) := by decide +kernel
theorem d_We_weighFrom_75 : decode c_We_weighFrom 75 = .ok (.invokevirtual 63, 3) := by decide +kernel
theorem d_We_weighFrom_78 : decode c_We_weighFrom 78 = .ok (.iconst 0, 1) := by decide +kernel
theorem d_We_weighFrom_79 : decode c_We_weighFrom 79 = .ok (.ireturn, 1) := by decide +kernel
theorem d_We_putWeight_0 : decode c_We_putWeight 0 = .ok (.iload_n 2, 1) := by decide +kernel
theorem d_We_putWeight_1 : decode c_We_putWeight 1 = .ok (.aload_n 0, 1) := by decide +kernel
theorem d_We_putWeight_2 : decode c_We_putWeight 2 = .ok (.getfield 18, 3) := by decide +kernel
theorem d_We_putWeight_5 : decode c_We_putWeight 5 = .ok (.iload_n 1, 1) := by decide +kernel
theorem d_We_putWeight_6 : decode c_We_putWeight 6 = .ok (.iaload, 1) := by decide +kernel
theorem d_We_putWeight_7 : decode c_We_putWeight 7 = .ok (.isub, 1) := by decide +kernel
theorem d_We_putWeight_8 : decode c_We_putWeight 8 = .ok (.istore_n 3, 1) := by decide +kernel
theorem d_We_putWeight_9 : decode c_We_putWeight 9 = .ok (.aload_n 0, 1) := by decide +kernel
theorem d_We_putWeight_10 : decode c_We_putWeight 10 = .ok (.getfield 24, 3) := by decide +kernel
theorem d_We_putWeight_13 : decode c_We_putWeight 13 = .ok (.aload_n 0, 1) := by decide +kernel
theorem d_We_putWeight_14 : decode c_We_putWeight 14 = .ok (.getfield 9, 3) := by decide +kernel
theorem d_We_putWeight_17 : decode c_We_putWeight 17 = .ok (.iload_n 1, 1) := by decide +kernel
theorem d_We_putWeight_18 : decode c_We_putWeight 18 = .ok (.iaload, 1) := by decide +kernel
theorem d_We_putWeight_19 : decode c_We_putWeight 19 = .ok (.dup2, 1) := by decide +kernel
theorem d_We_putWeight_20 : decode c_We_putWeight 20 = .ok (.iaload, 1) := by decide +kernel
theorem d_We_putWeight_21 : decode c_We_putWeight 21 = .ok (.iload_n 3, 1) := by decide +kernel
theorem d_We_putWeight_22 : decode c_We_putWeight 22 = .ok (.iadd, 1) := by decide +kernel
theorem d_We_putWeight_23 : decode c_We_putWeight 23 = .ok (.iastore, 1) := by decide +kernel
theorem d_We_putWeight_24 : decode c_We_putWeight 24 = .ok (.aload_n 0, 1) := by decide +kernel
theorem d_We_putWeight_25 : decode c_We_putWeight 25 = .ok (.getfield 24, 3) := by decide +kernel
theorem d_We_putWeight_28 : decode c_We_putWeight 28 = .ok (.aload_n 0, 1) := by decide +kernel
theorem d_We_putWeight_29 : decode c_We_putWeight 29 = .ok (.getfield 15, 3) := by decide +kernel
theorem d_We_putWeight_32 : decode c_We_putWeight 32 = .ok (.iload_n 1, 1) := by decide +kernel
theorem d_We_putWeight_33 : decode c_We_putWeight 33 = .ok (.iaload, 1) := by decide +kernel
theorem d_We_putWeight_34 : decode c_We_putWeight 34 = .ok (.dup2, 1) := by decide +kernel
theorem d_We_putWeight_35 : decode c_We_putWeight 35 = .ok (.iaload, 1) := by decide +kernel
theorem d_We_putWeight_36 : decode c_We_putWeight 36 = .ok (.iload_n 3, 1) := by decide +kernel
theorem d_We_putWeight_37 : decode c_We_putWeight 37 = .ok (.iadd, 1) := by decide +kernel
theorem d_We_putWeight_38 : decode c_We_putWeight 38 = .ok (.iastore, 1) := by decide +kernel
theorem d_We_putWeight_39 : decode c_We_putWeight 39 = .ok (.aload_n 0, 1) := by decide +kernel
theorem d_We_putWeight_40 : decode c_We_putWeight 40 = .ok (.getfield 18, 3) := by decide +kernel
theorem d_We_putWeight_43 : decode c_We_putWeight 43 = .ok (.iload_n 1, 1) := by decide +kernel
theorem d_We_putWeight_44 : decode c_We_putWeight 44 = .ok (.iload_n 2, 1) := by decide +kernel
theorem d_We_putWeight_45 : decode c_We_putWeight 45 = .ok (.iastore, 1) := by decide +kernel
theorem d_We_putWeight_46 : decode c_We_putWeight 46 = .ok (.return_, 1) := by decide +kernel
theorem d_We_sumsDiffer_0 : decode c_We_sumsDiffer 0 = .ok (.iconst 0, 1) := by decide +kernel
theorem d_We_sumsDiffer_1 : decode c_We_sumsDiffer 1 = .ok (.istore_n 3, 1) := by decide +kernel
theorem d_We_sumsDiffer_2 : decode c_We_sumsDiffer 2 = .ok (.iload_n 3, 1) := by decide +kernel
theorem d_We_sumsDiffer_3 : decode c_We_sumsDiffer 3 = .ok (.bipush 8, 2) := by decide +kernel
theorem d_We_sumsDiffer_5 : decode c_We_sumsDiffer 5 = .ok (.if_icmp .ge 35, 3) := by decide +kernel
theorem d_We_sumsDiffer_8 : decode c_We_sumsDiffer 8 = .ok (.iload_n 1, 1) := by decide +kernel
theorem d_We_sumsDiffer_9 : decode c_We_sumsDiffer 9 = .ok (.iload_n 3, 1) := by decide +kernel
theorem d_We_sumsDiffer_10 : decode c_We_sumsDiffer 10 = .ok (.ishr, 1) := by decide +kernel
theorem d_We_sumsDiffer_11 : decode c_We_sumsDiffer 11 = .ok (.iconst 1, 1) := by decide +kernel
theorem d_We_sumsDiffer_12 : decode c_We_sumsDiffer 12 = .ok (.iand, 1) := by decide +kernel
theorem d_We_sumsDiffer_13 : decode c_We_sumsDiffer 13 = .ok (.iconst 1, 1) := by decide +kernel
theorem d_We_sumsDiffer_14 : decode c_We_sumsDiffer 14 = .ok (.if_icmp .ne 20, 3) := by decide +kernel
theorem d_We_sumsDiffer_17 : decode c_We_sumsDiffer 17 = .ok (.aload_n 0, 1) := by decide +kernel
theorem d_We_sumsDiffer_18 : decode c_We_sumsDiffer 18 = .ok (.iload_n 3, 1) := by decide +kernel
theorem d_We_sumsDiffer_19 : decode c_We_sumsDiffer 19 = .ok (.iload_n 2, 1) := by decide +kernel
theorem d_We_sumsDiffer_20 : decode c_We_sumsDiffer 20 = .ok (.iconst 1, 1) := by decide +kernel
theorem d_We_sumsDiffer_21 : decode c_We_sumsDiffer 21 = .ok (.iload_n 3, 1) := by decide +kernel
theorem d_We_sumsDiffer_22 : decode c_We_sumsDiffer 22 = .ok (.ishl, 1) := by decide +kernel
theorem d_We_sumsDiffer_23 : decode c_We_sumsDiffer 23 = .ok (.iconst (-1), 1) := by decide +kernel
theorem d_We_sumsDiffer_24 : decode c_We_sumsDiffer 24 = .ok (.ixor, 1) := by decide +kernel
theorem d_We_sumsDiffer_25 : decode c_We_sumsDiffer 25 = .ok (.iand, 1) := by decide +kernel
theorem d_We_sumsDiffer_26 : decode c_We_sumsDiffer 26 = .ok (.invokevirtual 70, 3) := by decide +kernel
theorem d_We_sumsDiffer_29 : decode c_We_sumsDiffer 29 = .ok (.ifCond .eq 5, 3) := by decide +kernel
theorem d_We_sumsDiffer_32 : decode c_We_sumsDiffer 32 = .ok (.iconst 0, 1) := by decide +kernel
theorem d_We_sumsDiffer_33 : decode c_We_sumsDiffer 33 = .ok (.ireturn, 1) := by decide +kernel
theorem d_We_sumsDiffer_34 : decode c_We_sumsDiffer 34 = .ok (.iinc 3 1, 3) := by decide +kernel
theorem d_We_sumsDiffer_37 : decode c_We_sumsDiffer 37 = .ok (.goto (-35), 3) := by decide +kernel
theorem d_We_sumsDiffer_40 : decode c_We_sumsDiffer 40 = .ok (.iconst 1, 1) := by decide +kernel
theorem d_We_sumsDiffer_41 : decode c_We_sumsDiffer 41 = .ok (.ireturn, 1) := by decide +kernel
theorem d_We_hasTwin_0 : decode c_We_hasTwin 0 = .ok (.iconst 0, 1) := by decide +kernel
theorem d_We_hasTwin_1 : decode c_We_hasTwin 1 = .ok (.istore_n 3, 1) := by decide +kernel
theorem d_We_hasTwin_2 : decode c_We_hasTwin 2 = .ok (.iload_n 3, 1) := by decide +kernel
theorem d_We_hasTwin_3 : decode c_We_hasTwin 3 = .ok (.bipush 8, 2) := by decide +kernel
theorem d_We_hasTwin_5 : decode c_We_hasTwin 5 = .ok (.if_icmp .ge 35, 3) := by decide +kernel
theorem d_We_hasTwin_8 : decode c_We_hasTwin 8 = .ok (.iload_n 2, 1) := by decide +kernel
theorem d_We_hasTwin_9 : decode c_We_hasTwin 9 = .ok (.iload_n 3, 1) := by decide +kernel
theorem d_We_hasTwin_10 : decode c_We_hasTwin 10 = .ok (.ishr, 1) := by decide +kernel
theorem d_We_hasTwin_11 : decode c_We_hasTwin 11 = .ok (.iconst 1, 1) := by decide +kernel
theorem d_We_hasTwin_12 : decode c_We_hasTwin 12 = .ok (.iand, 1) := by decide +kernel
theorem d_We_hasTwin_13 : decode c_We_hasTwin 13 = .ok (.iconst 1, 1) := by decide +kernel
theorem d_We_hasTwin_14 : decode c_We_hasTwin 14 = .ok (.if_icmp .ne 20, 3) := by decide +kernel
theorem d_We_hasTwin_17 : decode c_We_hasTwin 17 = .ok (.aload_n 0, 1) := by decide +kernel
theorem d_We_hasTwin_18 : decode c_We_hasTwin 18 = .ok (.getfield 24, 3) := by decide +kernel
theorem d_We_hasTwin_21 : decode c_We_hasTwin 21 = .ok (.iload_n 3, 1) := by decide +kernel
theorem d_We_hasTwin_22 : decode c_We_hasTwin 22 = .ok (.iaload, 1) := by decide +kernel
theorem d_We_hasTwin_23 : decode c_We_hasTwin 23 = .ok (.aload_n 0, 1) := by decide +kernel
theorem d_We_hasTwin_24 : decode c_We_hasTwin 24 = .ok (.getfield 24, 3) := by decide +kernel
theorem d_We_hasTwin_27 : decode c_We_hasTwin 27 = .ok (.iload_n 1, 1) := by decide +kernel
theorem d_We_hasTwin_28 : decode c_We_hasTwin 28 = .ok (.iaload, 1) := by decide +kernel
theorem d_We_hasTwin_29 : decode c_We_hasTwin 29 = .ok (.if_icmp .ne 5, 3) := by decide +kernel
theorem d_We_hasTwin_32 : decode c_We_hasTwin 32 = .ok (.iconst 1, 1) := by decide +kernel
theorem d_We_hasTwin_33 : decode c_We_hasTwin 33 = .ok (.ireturn, 1) := by decide +kernel
theorem d_We_hasTwin_34 : decode c_We_hasTwin 34 = .ok (.iinc 3 1, 3) := by decide +kernel
theorem d_We_hasTwin_37 : decode c_We_hasTwin 37 = .ok (.goto (-35), 3) := by decide +kernel
theorem d_We_hasTwin_40 : decode c_We_hasTwin 40 = .ok (.iconst 0, 1) := by decide +kernel
theorem d_We_hasTwin_41 : decode c_We_hasTwin 41 = .ok (.ireturn, 1) := by decide +kernel
theorem d_In_bitCount_0 : decode c_In_bitCount 0 = .ok (.iload_n 0, 1) := by decide +kernel
theorem d_In_bitCount_1 : decode c_In_bitCount 1 = .ok (.iload_n 0, 1) := by decide +kernel
theorem d_In_bitCount_2 : decode c_In_bitCount 2 = .ok (.iconst 1, 1) := by decide +kernel
theorem d_In_bitCount_3 : decode c_In_bitCount 3 = .ok (.iushr, 1) := by decide +kernel
theorem d_In_bitCount_4 : decode c_In_bitCount 4 = .ok (.ldc_w 265, 3) := by decide +kernel
theorem d_In_bitCount_7 : decode c_In_bitCount 7 = .ok (.iand, 1) := by decide +kernel
theorem d_In_bitCount_8 : decode c_In_bitCount 8 = .ok (.isub, 1) := by decide +kernel
theorem d_In_bitCount_9 : decode c_In_bitCount 9 = .ok (.istore_n 0, 1) := by decide +kernel
theorem d_In_bitCount_10 : decode c_In_bitCount 10 = .ok (.iload_n 0, 1) := by decide +kernel
theorem d_In_bitCount_11 : decode c_In_bitCount 11 = .ok (.ldc_w 266, 3) := by decide +kernel
theorem d_In_bitCount_14 : decode c_In_bitCount 14 = .ok (.iand, 1) := by decide +kernel
theorem d_In_bitCount_15 : decode c_In_bitCount 15 = .ok (.iload_n 0, 1) := by decide +kernel
theorem d_In_bitCount_16 : decode c_In_bitCount 16 = .ok (.iconst 2, 1) := by decide +kernel
theorem d_In_bitCount_17 : decode c_In_bitCount 17 = .ok (.iushr, 1) := by decide +kernel
theorem d_In_bitCount_18 : decode c_In_bitCount 18 = .ok (.ldc_w 266, 3) := by decide +kernel
theorem d_In_bitCount_21 : decode c_In_bitCount 21 = .ok (.iand, 1) := by decide +kernel
theorem d_In_bitCount_22 : decode c_In_bitCount 22 = .ok (.iadd, 1) := by decide +kernel
theorem d_In_bitCount_23 : decode c_In_bitCount 23 = .ok (.istore_n 0, 1) := by decide +kernel
theorem d_In_bitCount_24 : decode c_In_bitCount 24 = .ok (.iload_n 0, 1) := by decide +kernel
theorem d_In_bitCount_25 : decode c_In_bitCount 25 = .ok (.iload_n 0, 1) := by decide +kernel
theorem d_In_bitCount_26 : decode c_In_bitCount 26 = .ok (.iconst 4, 1) := by decide +kernel
theorem d_In_bitCount_27 : decode c_In_bitCount 27 = .ok (.iushr, 1) := by decide +kernel
theorem d_In_bitCount_28 : decode c_In_bitCount 28 = .ok (.iadd, 1) := by decide +kernel
theorem d_In_bitCount_29 : decode c_In_bitCount 29 = .ok (.ldc_w 267, 3) := by decide +kernel
theorem d_In_bitCount_32 : decode c_In_bitCount 32 = .ok (.iand, 1) := by decide +kernel
theorem d_In_bitCount_33 : decode c_In_bitCount 33 = .ok (.istore_n 0, 1) := by decide +kernel
theorem d_In_bitCount_34 : decode c_In_bitCount 34 = .ok (.iload_n 0, 1) := by decide +kernel
theorem d_In_bitCount_35 : decode c_In_bitCount 35 = .ok (.iload_n 0, 1) := by decide +kernel
theorem d_In_bitCount_36 : decode c_In_bitCount 36 = .ok (.bipush 8, 2) := by decide +kernel
theorem d_In_bitCount_38 : decode c_In_bitCount 38 = .ok (.iushr, 1) := by decide +kernel
theorem d_In_bitCount_39 : decode c_In_bitCount 39 = .ok (.iadd, 1) := by decide +kernel
theorem d_In_bitCount_40 : decode c_In_bitCount 40 = .ok (.istore_n 0, 1) := by decide +kernel
theorem d_In_bitCount_41 : decode c_In_bitCount 41 = .ok (.iload_n 0, 1) := by decide +kernel
theorem d_In_bitCount_42 : decode c_In_bitCount 42 = .ok (.iload_n 0, 1) := by decide +kernel
theorem d_In_bitCount_43 : decode c_In_bitCount 43 = .ok (.bipush 16, 2) := by decide +kernel
theorem d_In_bitCount_45 : decode c_In_bitCount 45 = .ok (.iushr, 1) := by decide +kernel
theorem d_In_bitCount_46 : decode c_In_bitCount 46 = .ok (.iadd, 1) := by decide +kernel
theorem d_In_bitCount_47 : decode c_In_bitCount 47 = .ok (.istore_n 0, 1) := by decide +kernel
theorem d_In_bitCount_48 : decode c_In_bitCount 48 = .ok (.iload_n 0, 1) := by decide +kernel
theorem d_In_bitCount_49 : decode c_In_bitCount 49 = .ok (.bipush 63, 2) := by decide +kernel
theorem d_In_bitCount_51 : decode c_In_bitCount 51 = .ok (.iand, 1) := by decide +kernel
theorem d_In_bitCount_52 : decode c_In_bitCount 52 = .ok (.ireturn, 1) := by decide +kernel
theorem d_Ma_max_0 : decode c_Ma_max 0 = .ok (.iload_n 0, 1) := by decide +kernel
theorem d_Ma_max_1 : decode c_Ma_max 1 = .ok (.iload_n 1, 1) := by decide +kernel
theorem d_Ma_max_2 : decode c_Ma_max 2 = .ok (.if_icmp .lt 7, 3) := by decide +kernel
theorem d_Ma_max_5 : decode c_Ma_max 5 = .ok (.iload_n 0, 1) := by decide +kernel
theorem d_Ma_max_6 : decode c_Ma_max 6 = .ok (.goto 4, 3) := by decide +kernel
theorem d_Ma_max_9 : decode c_Ma_max 9 = .ok (.iload_n 1, 1) := by decide +kernel
theorem d_Ma_max_10 : decode c_Ma_max 10 = .ok (.ireturn, 1) := by decide +kernel
theorem d_Ma_min_II_0 : decode c_Ma_min_II 0 = .ok (.iload_n 0, 1) := by decide +kernel
theorem d_Ma_min_II_1 : decode c_Ma_min_II 1 = .ok (.iload_n 1, 1) := by decide +kernel
theorem d_Ma_min_II_2 : decode c_Ma_min_II 2 = .ok (.if_icmp .gt 7, 3) := by decide +kernel
theorem d_Ma_min_II_5 : decode c_Ma_min_II 5 = .ok (.iload_n 0, 1) := by decide +kernel
theorem d_Ma_min_II_6 : decode c_Ma_min_II 6 = .ok (.goto 4, 3) := by decide +kernel
theorem d_Ma_min_II_9 : decode c_Ma_min_II 9 = .ok (.iload_n 1, 1) := by decide +kernel
theorem d_Ma_min_II_10 : decode c_Ma_min_II 10 = .ok (.ireturn, 1) := by decide +kernel
theorem d_Ma_min_JJ_0 : decode c_Ma_min_JJ 0 = .ok (.lload_n 0, 1) := by decide +kernel
theorem d_Ma_min_JJ_1 : decode c_Ma_min_JJ 1 = .ok (.lload_n 2, 1) := by decide +kernel
theorem d_Ma_min_JJ_2 : decode c_Ma_min_JJ 2 = .ok (.lcmp, 1) := by decide +kernel
theorem d_Ma_min_JJ_3 : decode c_Ma_min_JJ 3 = .ok (.ifCond .gt 7, 3) := by decide +kernel
theorem d_Ma_min_JJ_6 : decode c_Ma_min_JJ 6 = .ok (.lload_n 0, 1) := by decide +kernel
theorem d_Ma_min_JJ_7 : decode c_Ma_min_JJ 7 = .ok (.goto 4, 3) := by decide +kernel
theorem d_Ma_min_JJ_10 : decode c_Ma_min_JJ 10 = .ok (.lload_n 2, 1) := by decide +kernel
theorem d_Ma_min_JJ_11 : decode c_Ma_min_JJ 11 = .ok (.lreturn, 1) := by decide +kernel
theorem d_Sg_charAt_0 : decode c_Sg_charAt 0 = .ok (.aload_n 0, 1) := by decide +kernel
theorem d_Sg_charAt_1 : decode c_Sg_charAt 1 = .ok (.invokevirtual 492, 3) := by decide +kernel
theorem d_Sg_charAt_4 : decode c_Sg_charAt 4 = .ok (.ifCond .eq 12, 3) := by decide +kernel
theorem d_Sg_charAt_7 : decode c_Sg_charAt 7 = .ok (.aload_n 0, 1) := by decide +kernel
theorem d_Sg_charAt_8 : decode c_Sg_charAt 8 = .ok (.getfield 9, 3) := by decide +kernel
theorem d_Sg_charAt_11 : decode c_Sg_charAt 11 = .ok (.iload_n 1, 1) := by decide +kernel
theorem d_Sg_charAt_12 : decode c_Sg_charAt 12 = .ok (.invokestatic 495, 3) := by decide +kernel
theorem d_Sg_charAt_15 : decode c_Sg_charAt 15 = .ok (.ireturn, 1) := by decide +kernel
theorem d_Sg_charAt_16 : decode c_Sg_charAt 16 = .ok (.aload_n 0, 1) := by decide +kernel
theorem d_Sg_charAt_17 : decode c_Sg_charAt 17 = .ok (.getfield 9, 3) := by decide +kernel
theorem d_Sg_charAt_20 : decode c_Sg_charAt 20 = .ok (.iload_n 1, 1) := by decide +kernel
theorem d_Sg_charAt_21 : decode c_Sg_charAt 21 = .ok (.invokestatic 498, 3) := by decide +kernel
theorem d_Sg_charAt_24 : decode c_Sg_charAt 24 = .ok (.ireturn, 1) := by decide +kernel
theorem d_Sg_checkIndex_0 : decode c_Sg_checkIndex 0 = .ok (.iload_n 0, 1) := by decide +kernel
theorem d_Sg_checkIndex_1 : decode c_Sg_checkIndex 1 = .ok (.iload_n 1, 1) := by decide +kernel
theorem d_Sg_checkIndex_2 : decode c_Sg_checkIndex 2 = .ok (.getstatic 1053, 3) := by decide +kernel
theorem d_Sg_checkIndex_5 : decode c_Sg_checkIndex 5 = .ok (.invokestatic 1059, 3) := by decide +kernel
theorem d_Sg_checkIndex_8 : decode c_Sg_checkIndex 8 = .ok (.pop, 1) := by decide +kernel
theorem d_Sg_checkIndex_9 : decode c_Sg_checkIndex 9 = .ok (.return_, 1) := by decide +kernel
theorem d_Sg_coder_0 : decode c_Sg_coder 0 = .ok (.getstatic 38, 3) := by decide +kernel
theorem d_Sg_coder_3 : decode c_Sg_coder 3 = .ok (.ifCond .eq 10, 3) := by decide +kernel
theorem d_Sg_coder_6 : decode c_Sg_coder 6 = .ok (.aload_n 0, 1) := by decide +kernel
theorem d_Sg_coder_7 : decode c_Sg_coder 7 = .ok (.getfield 15, 3) := by decide +kernel
theorem d_Sg_coder_10 : decode c_Sg_coder 10 = .ok (.goto 4, 3) := by decide +kernel
theorem d_Sg_coder_13 : decode c_Sg_coder 13 = .ok (.iconst 1, 1) := by decide +kernel
theorem d_Sg_coder_14 : decode c_Sg_coder 14 = .ok (.ireturn, 1) := by decide +kernel
theorem d_Sg_isLatin1_0 : decode c_Sg_isLatin1 0 = .ok (.getstatic 38, 3) := by decide +kernel
theorem d_Sg_isLatin1_3 : decode c_Sg_isLatin1 3 = .ok (.ifCond .eq 14, 3) := by decide +kernel
theorem d_Sg_isLatin1_6 : decode c_Sg_isLatin1 6 = .ok (.aload_n 0, 1) := by decide +kernel
theorem d_Sg_isLatin1_7 : decode c_Sg_isLatin1 7 = .ok (.getfield 15, 3) := by decide +kernel
theorem d_Sg_isLatin1_10 : decode c_Sg_isLatin1 10 = .ok (.ifCond .ne 7, 3) := by decide +kernel
theorem d_Sg_isLatin1_13 : decode c_Sg_isLatin1 13 = .ok (.iconst 1, 1) := by decide +kernel
theorem d_Sg_isLatin1_14 : decode c_Sg_isLatin1 14 = .ok (.goto 4, 3) := by decide +kernel
theorem d_Sg_isLatin1_17 : decode c_Sg_isLatin1 17 = .ok (.iconst 0, 1) := by decide +kernel
theorem d_Sg_isLatin1_18 : decode c_Sg_isLatin1 18 = .ok (.ireturn, 1) := by decide +kernel
theorem d_Sg_length_0 : decode c_Sg_length 0 = .ok (.aload_n 0, 1) := by decide +kernel
theorem d_Sg_length_1 : decode c_Sg_length 1 = .ok (.getfield 9, 3) := by decide +kernel
theorem d_Sg_length_4 : decode c_Sg_length 4 = .ok (.arraylength, 1) := by decide +kernel
theorem d_Sg_length_5 : decode c_Sg_length 5 = .ok (.aload_n 0, 1) := by decide +kernel
theorem d_Sg_length_6 : decode c_Sg_length 6 = .ok (.invokevirtual 335, 3) := by decide +kernel
theorem d_Sg_length_9 : decode c_Sg_length 9 = .ok (.ishr, 1) := by decide +kernel
theorem d_Sg_length_10 : decode c_Sg_length 10 = .ok (.ireturn, 1) := by decide +kernel
theorem d_Sl_charAt_0 : decode c_Sl_charAt 0 = .ok (.iload_n 1, 1) := by decide +kernel
theorem d_Sl_charAt_1 : decode c_Sl_charAt 1 = .ok (.aload_n 0, 1) := by decide +kernel
theorem d_Sl_charAt_2 : decode c_Sl_charAt 2 = .ok (.arraylength, 1) := by decide +kernel
theorem d_Sl_charAt_3 : decode c_Sl_charAt 3 = .ok (.invokestatic 9, 3) := by decide +kernel
theorem d_Sl_charAt_6 : decode c_Sl_charAt 6 = .ok (.aload_n 0, 1) := by decide +kernel
theorem d_Sl_charAt_7 : decode c_Sl_charAt 7 = .ok (.iload_n 1, 1) := by decide +kernel
theorem d_Sl_charAt_8 : decode c_Sl_charAt 8 = .ok (.baload, 1) := by decide +kernel
theorem d_Sl_charAt_9 : decode c_Sl_charAt 9 = .ok (.sipush 255, 3) := by decide +kernel
theorem d_Sl_charAt_12 : decode c_Sl_charAt 12 = .ok (.iand, 1) := by decide +kernel
theorem d_Sl_charAt_13 : decode c_Sl_charAt 13 = .ok (.i2c, 1) := by decide +kernel
theorem d_Sl_charAt_14 : decode c_Sl_charAt 14 = .ok (.ireturn, 1) := by decide +kernel

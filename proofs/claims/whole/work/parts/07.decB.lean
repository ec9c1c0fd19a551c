theorem d_Uc_init_0 : decode c_Uc_init 0 = .ok (.aload_n 0, 1) := by decide +kernel
theorem d_Uc_init_1 : decode c_Uc_init 1 = .ok (.invokespecial 1, 3) := by decide +kernel
theorem d_Uc_init_4 : decode c_Uc_init 4 = .ok (.aload_n 0, 1) := by decide +kernel
theorem d_Uc_init_5 : decode c_Uc_init 5 = .ok (.new 7, 3) := by decide +kernel
theorem d_Uc_init_8 : decode c_Uc_init 8 = .ok (.dup, 1) := by decide +kernel
theorem d_Uc_init_9 : decode c_Uc_init 9 = .ok (.invokespecial 9, 3) := by decide +kernel
theorem d_Uc_init_12 : decode c_Uc_init 12 = .ok (.putfield 10, 3) := by decide +kernel
theorem d_Uc_init_15 : decode c_Uc_init 15 = .ok (.aload_n 0, 1) := by decide +kernel
theorem d_Uc_init_16 : decode c_Uc_init 16 = .ok (.new 7, 3) := by decide +kernel
theorem d_Uc_init_19 : decode c_Uc_init 19 = .ok (.dup, 1) := by decide +kernel
theorem d_Uc_init_20 : decode c_Uc_init 20 = .ok (.invokespecial 9, 3) := by decide +kernel
theorem d_Uc_init_23 : decode c_Uc_init 23 = .ok (.putfield 16, 3) := by decide +kernel
theorem d_Uc_init_26 : decode c_Uc_init 26 = .ok (.aload_n 0, 1) := by decide +kernel
theorem d_Uc_init_27 : decode c_Uc_init 27 = .ok (.new 19, 3) := by decide +kernel
theorem d_Uc_init_30 : decode c_Uc_init 30 = .ok (.dup, 1) := by decide +kernel
theorem d_Uc_init_31 : decode c_Uc_init 31 = .ok (.invokespecial 21, 3) := by decide +kernel
theorem d_Uc_init_34 : decode c_Uc_init 34 = .ok (.putfield 22, 3) := by decide +kernel
theorem d_Uc_init_37 : decode c_Uc_init 37 = .ok (.aload_n 0, 1) := by decide +kernel
theorem d_Uc_init_38 : decode c_Uc_init 38 = .ok (.new 26, 3) := by decide +kernel
theorem d_Uc_init_41 : decode c_Uc_init 41 = .ok (.dup, 1) := by decide +kernel
theorem d_Uc_init_42 : decode c_Uc_init 42 = .ok (.invokespecial 28, 3) := by decide +kernel
theorem d_Uc_init_45 : decode c_Uc_init 45 = .ok (.putfield 29, 3) := by decide +kernel
theorem d_Uc_init_48 : decode c_Uc_init 48 = .ok (.aload_n 0, 1) := by decide +kernel
theorem d_Uc_init_49 : decode c_Uc_init 49 = .ok (.new 33, 3) := by decide +kernel
theorem d_Uc_init_52 : decode c_Uc_init 52 = .ok (.dup, 1) := by decide +kernel
theorem d_Uc_init_53 : decode c_Uc_init 53 = .ok (.invokespecial 35, 3) := by decide +kernel
theorem d_Uc_init_56 : decode c_Uc_init 56 = .ok (.putfield 36, 3) := by decide +kernel
theorem d_Uc_init_59 : decode c_Uc_init 59 = .ok (.aload_n 0, 1) := by decide +kernel
theorem d_Uc_init_60 : decode c_Uc_init 60 = .ok (.new 40, 3) := by decide +kernel
theorem d_Uc_init_63 : decode c_Uc_init 63 = .ok (.dup, 1) := by decide +kernel
theorem d_Uc_init_64 : decode c_Uc_init 64 = .ok (.invokespecial 42, 3) := by decide +kernel
theorem d_Uc_init_67 : decode c_Uc_init 67 = .ok (.putfield 43, 3) := by decide +kernel
theorem d_Uc_init_70 : decode c_Uc_init 70 = .ok (.aload_n 0, 1) := by decide +kernel
theorem d_Uc_init_71 : decode c_Uc_init 71 = .ok (.new 47, 3) := by decide +kernel
theorem d_Uc_init_74 : decode c_Uc_init 74 = .ok (.dup, 1) := by decide +kernel
theorem d_Uc_init_75 : decode c_Uc_init 75 = .ok (.invokespecial 49, 3) := by decide +kernel
theorem d_Uc_init_78 : decode c_Uc_init 78 = .ok (.putfield 50, 3) := by decide +kernel
theorem d_Uc_init_81 : decode c_Uc_init 81 = .ok (.aload_n 0, 1) := by decide +kernel
theorem d_Uc_init_82 : decode c_Uc_init 82 = .ok (.new 54, 3) := by decide +kernel
theorem d_Uc_init_85 : decode c_Uc_init 85 = .ok (.dup, 1) := by decide +kernel
theorem d_Uc_init_86 : decode c_Uc_init 86 = .ok (.invokespecial 56, 3) := by decide +kernel
theorem d_Uc_init_89 : decode c_Uc_init 89 = .ok (.putfield 57, 3) := by decide +kernel
theorem d_Uc_init_92 : decode c_Uc_init 92 = .ok (.aload_n 0, 1) := by decide +kernel
theorem d_Uc_init_93 : decode c_Uc_init 93 = .ok (.new 61, 3) := by decide +kernel
theorem d_Uc_init_96 : decode c_Uc_init 96 = .ok (.dup, 1) := by decide +kernel
theorem d_Uc_init_97 : decode c_Uc_init 97 = .ok (.invokespecial 63, 3) := by decide +kernel
theorem d_Uc_init_100 : decode c_Uc_init 100 = .ok (.putfield 64, 3) := by decide +kernel
theorem d_Uc_init_103 : decode c_Uc_init 103 = .ok (.aload_n 0, 1) := by decide +kernel
theorem d_Uc_init_104 : decode c_Uc_init 104 = .ok (.new 61, 3) := by decide +kernel
theorem d_Uc_init_107 : decode c_Uc_init 107 = .ok (.dup, 1) := by decide +kernel
theorem d_Uc_init_108 : decode c_Uc_init 108 = .ok (.invokespecial 63, 3) := by decide +kernel
theorem d_Uc_init_111 : decode c_Uc_init 111 = .ok (.putfield 68, 3) := by decide +kernel
theorem d_Uc_init_114 : decode c_Uc_init 114 = .ok (.return_, 1) := by decide +kernel
theorem d_Uc_feed_0 : decode c_Uc_feed 0 = .ok (.iload_n 1, 1) := by decide +kernel
theorem d_Uc_feed_1 : decode c_Uc_feed 1 = .ok (.iconst 1, 1) := by decide +kernel
theorem d_Uc_feed_2 : decode c_Uc_feed 2 = .ok (.if_icmp .lt 9, 3) := by decide +kernel
theorem d_Uc_feed_5 : decode c_Uc_feed 5 = .ok (.iload_n 1, 1) := by decide +kernel
theorem d_Uc_feed_6 : decode c_Uc_feed 6 = .ok (.bipush 8, 2) := by decide +kernel
theorem d_Uc_feed_8 : decode c_Uc_feed 8 = .ok (.if_icmp .le 6, 3) := by decide +kernel
theorem d_Uc_feed_11 : decode c_Uc_feed 11 = .ok (.ldc 71, 2) := by decide +kernel
theorem d_Uc_feed_13 : decode c_Uc_feed 13 = .ok (.ireturn, 1) := by decide +kernel
theorem d_Uc_feed_14 : decode c_Uc_feed 14 = .ok (.aload_n 0, 1) := by decide +kernel
theorem d_Uc_feed_15 : decode c_Uc_feed 15 = .ok (.getfield 22, 3) := by decide +kernel
theorem d_Uc_feed_18 : decode c_Uc_feed 18 = .ok (.invokevirtual 72, 3) := by decide +kernel
theorem d_Uc_feed_21 : decode c_Uc_feed 21 = .ok (.iload_n 1, 1) := by decide +kernel
theorem d_Uc_feed_22 : decode c_Uc_feed 22 = .ok (.iadd, 1) := by decide +kernel
theorem d_Uc_feed_23 : decode c_Uc_feed 23 = .ok (.sipush 400, 3) := by decide +kernel
theorem d_Uc_feed_26 : decode c_Uc_feed 26 = .ok (.if_icmp .le 6, 3) := by decide +kernel
theorem d_Uc_feed_29 : decode c_Uc_feed 29 = .ok (.ldc 76, 2) := by decide +kernel
theorem d_Uc_feed_31 : decode c_Uc_feed 31 = .ok (.ireturn, 1) := by decide +kernel
theorem d_Uc_feed_32 : decode c_Uc_feed 32 = .ok (.aload_n 0, 1) := by decide +kernel
theorem d_Uc_feed_33 : decode c_Uc_feed 33 = .ok (.getfield 22, 3) := by decide +kernel
theorem d_Uc_feed_36 : decode c_Uc_feed 36 = .ok (.iload_n 1, 1) := by decide +kernel
theorem d_Uc_feed_37 : decode c_Uc_feed 37 = .ok (.lload_n 2, 1) := by decide +kernel
theorem d_Uc_feed_38 : decode c_Uc_feed 38 = .ok (.invokevirtual 77, 3) := by decide +kernel
theorem d_Uc_feed_41 : decode c_Uc_feed 41 = .ok (.aload_n 0, 1) := by decide +kernel
theorem d_Uc_feed_42 : decode c_Uc_feed 42 = .ok (.getfield 22, 3) := by decide +kernel
theorem d_Uc_feed_45 : decode c_Uc_feed 45 = .ok (.invokevirtual 72, 3) := by decide +kernel
theorem d_Uc_feed_48 : decode c_Uc_feed 48 = .ok (.ireturn, 1) := by decide +kernel
theorem d_Uc_town_0 : decode c_Uc_town 0 = .ok (.aload_n 0, 1) := by decide +kernel
theorem d_Uc_town_1 : decode c_Uc_town 1 = .ok (.getfield 22, 3) := by decide +kernel
theorem d_Uc_town_4 : decode c_Uc_town 4 = .ok (.invokevirtual 81, 3) := by decide +kernel
theorem d_Uc_town_7 : decode c_Uc_town 7 = .ok (.aload_n 0, 1) := by decide +kernel
theorem d_Uc_town_8 : decode c_Uc_town 8 = .ok (.getfield 22, 3) := by decide +kernel
theorem d_Uc_town_11 : decode c_Uc_town 11 = .ok (.invokevirtual 84, 3) := by decide +kernel
theorem d_Uc_town_14 : decode c_Uc_town 14 = .ok (.ifCond .eq 14, 3) := by decide +kernel
theorem d_Uc_town_17 : decode c_Uc_town 17 = .ok (.bipush (-10), 2) := by decide +kernel
theorem d_Uc_town_19 : decode c_Uc_town 19 = .ok (.aload_n 0, 1) := by decide +kernel
theorem d_Uc_town_20 : decode c_Uc_town 20 = .ok (.getfield 22, 3) := by decide +kernel
theorem d_Uc_town_23 : decode c_Uc_town 23 = .ok (.invokevirtual 84, 3) := by decide +kernel
theorem d_Uc_town_26 : decode c_Uc_town 26 = .ok (.isub, 1) := by decide +kernel
theorem d_Uc_town_27 : decode c_Uc_town 27 = .ok (.ireturn, 1) := by decide +kernel
theorem d_Uc_town_28 : decode c_Uc_town 28 = .ok (.aload_n 0, 1) := by decide +kernel
theorem d_Uc_town_29 : decode c_Uc_town 29 = .ok (.getfield 10, 3) := by decide +kernel
theorem d_Uc_town_32 : decode c_Uc_town 32 = .ok (.aload_n 0, 1) := by decide +kernel
theorem d_Uc_town_33 : decode c_Uc_town 33 = .ok (.getfield 22, 3) := by decide +kernel
theorem d_Uc_town_36 : decode c_Uc_town 36 = .ok (.invokevirtual 87, 3) := by decide +kernel
theorem d_Uc_town_39 : decode c_Uc_town 39 = .ok (.invokevirtual 91, 3) := by decide +kernel
theorem d_Uc_town_42 : decode c_Uc_town 42 = .ok (.aload_n 0, 1) := by decide +kernel
theorem d_Uc_town_43 : decode c_Uc_town 43 = .ok (.getfield 10, 3) := by decide +kernel
theorem d_Uc_town_46 : decode c_Uc_town 46 = .ok (.invokevirtual 95, 3) := by decide +kernel
theorem d_Uc_town_49 : decode c_Uc_town 49 = .ok (.aload_n 0, 1) := by decide +kernel
theorem d_Uc_town_50 : decode c_Uc_town 50 = .ok (.getfield 57, 3) := by decide +kernel
theorem d_Uc_town_53 : decode c_Uc_town 53 = .ok (.invokevirtual 98, 3) := by decide +kernel
theorem d_Uc_town_56 : decode c_Uc_town 56 = .ok (.aload_n 0, 1) := by decide +kernel
theorem d_Uc_town_57 : decode c_Uc_town 57 = .ok (.getfield 64, 3) := by decide +kernel
theorem d_Uc_town_60 : decode c_Uc_town 60 = .ok (.iconst 0, 1) := by decide +kernel
theorem d_Uc_town_61 : decode c_Uc_town 61 = .ok (.putfield 101, 3) := by decide +kernel
theorem d_Uc_town_64 : decode c_Uc_town 64 = .ok (.aload_n 0, 1) := by decide +kernel
theorem d_Uc_town_65 : decode c_Uc_town 65 = .ok (.getfield 68, 3) := by decide +kernel
theorem d_Uc_town_68 : decode c_Uc_town 68 = .ok (.iconst 0, 1) := by decide +kernel
theorem d_Uc_town_69 : decode c_Uc_town 69 = .ok (.putfield 101, 3) := by decide +kernel
theorem d_Uc_town_72 : decode c_Uc_town 72 = .ok (.aload_n 0, 1) := by decide +kernel
theorem d_Uc_town_73 : decode c_Uc_town 73 = .ok (.getfield 10, 3) := by decide +kernel
theorem d_Uc_town_76 : decode c_Uc_town 76 = .ok (.getfield 105, 3) := by decide +kernel
theorem d_Uc_town_79 : decode c_Uc_town 79 = .ok (.ireturn, 1) := by decide +kernel
theorem d_Uc_fault_0 : decode c_Uc_fault 0 = .ok (.aload_n 0, 1) := by decide +kernel
theorem d_Uc_fault_1 : decode c_Uc_fault 1 = .ok (.getfield 22, 3) := by decide +kernel
theorem d_Uc_fault_4 : decode c_Uc_fault 4 = .ok (.invokevirtual 109, 3) := by decide +kernel
theorem d_Uc_fault_7 : decode c_Uc_fault 7 = .ok (.ireturn, 1) := by decide +kernel
theorem d_Uc_told_0 : decode c_Uc_told 0 = .ok (.iload_n 1, 1) := by decide +kernel
theorem d_Uc_told_1 : decode c_Uc_told 1 = .ok (.tableswitch 188 0 10 #[59, 67, 75, 90, 105, 120, 128, 136, 144, 172, 180], 59) := by decide +kernel
theorem d_Uc_told_60 : decode c_Uc_told 60 = .ok (.aload_n 0, 1) := by decide +kernel
theorem d_Uc_told_61 : decode c_Uc_told 61 = .ok (.getfield 10, 3) := by decide +kernel
theorem d_Uc_told_64 : decode c_Uc_told 64 = .ok (.getfield 105, 3) := by decide +kernel
theorem d_Uc_told_67 : decode c_Uc_told 67 = .ok (.ireturn, 1) := by decide +kernel
theorem d_Uc_told_68 : decode c_Uc_told 68 = .ok (.aload_n 0, 1) := by decide +kernel
theorem d_Uc_told_69 : decode c_Uc_told 69 = .ok (.getfield 10, 3) := by decide +kernel
theorem d_Uc_told_72 : decode c_Uc_told 72 = .ok (.invokevirtual 112, 3) := by decide +kernel
theorem d_Uc_told_75 : decode c_Uc_told 75 = .ok (.ireturn, 1) := by decide +kernel
theorem d_Uc_told_76 : decode c_Uc_told 76 = .ok (.aload_n 0, 1) := by decide +kernel
theorem d_Uc_told_77 : decode c_Uc_told 77 = .ok (.getfield 10, 3) := by decide +kernel
theorem d_Uc_told_80 : decode c_Uc_told 80 = .ok (.aload_n 0, 1) := by decide +kernel
theorem d_Uc_told_81 : decode c_Uc_told 81 = .ok (.getfield 10, 3) := by decide +kernel
theorem d_Uc_told_84 : decode c_Uc_told 84 = .ok (.getfield 115, 3) := by decide +kernel
theorem d_Uc_told_87 : decode c_Uc_told 87 = .ok (.invokevirtual 119, 3) := by decide +kernel
theorem d_Uc_told_90 : decode c_Uc_told 90 = .ok (.ireturn, 1) := by decide +kernel
theorem d_Uc_told_91 : decode c_Uc_told 91 = .ok (.aload_n 0, 1) := by decide +kernel
theorem d_Uc_told_92 : decode c_Uc_told 92 = .ok (.getfield 10, 3) := by decide +kernel
theorem d_Uc_told_95 : decode c_Uc_told 95 = .ok (.aload_n 0, 1) := by decide +kernel
theorem d_Uc_told_96 : decode c_Uc_told 96 = .ok (.getfield 10, 3) := by decide +kernel
theorem d_Uc_told_99 : decode c_Uc_told 99 = .ok (.getfield 123, 3) := by decide +kernel
theorem d_Uc_told_102 : decode c_Uc_told 102 = .ok (.invokevirtual 119, 3) := by decide +kernel
theorem d_Uc_told_105 : decode c_Uc_told 105 = .ok (.ireturn, 1) := by decide +kernel
theorem d_Uc_told_106 : decode c_Uc_told 106 = .ok (.aload_n 0, 1) := by decide +kernel
theorem d_Uc_told_107 : decode c_Uc_told 107 = .ok (.getfield 10, 3) := by decide +kernel
theorem d_Uc_told_110 : decode c_Uc_told 110 = .ok (.aload_n 0, 1) := by decide +kernel
theorem d_Uc_told_111 : decode c_Uc_told 111 = .ok (.getfield 10, 3) := by decide +kernel
theorem d_Uc_told_114 : decode c_Uc_told 114 = .ok (.getfield 126, 3) := by decide +kernel
theorem d_Uc_told_117 : decode c_Uc_told 117 = .ok (.invokevirtual 119, 3) := by decide +kernel
theorem d_Uc_told_120 : decode c_Uc_told 120 = .ok (.ireturn, 1) := by decide +kernel
theorem d_Uc_told_121 : decode c_Uc_told 121 = .ok (.aload_n 0, 1) := by decide +kernel
theorem d_Uc_told_122 : decode c_Uc_told 122 = .ok (.getfield 10, 3) := by decide +kernel
theorem d_Uc_told_125 : decode c_Uc_told 125 = .ok (.getfield 129, 3) := by decide +kernel
theorem d_Uc_told_128 : decode c_Uc_told 128 = .ok (.ireturn, 1) := by decide +kernel
theorem d_Uc_told_129 : decode c_Uc_told 129 = .ok (.aload_n 0, 1) := by decide +kernel
theorem d_Uc_told_130 : decode c_Uc_told 130 = .ok (.getfield 10, 3) := by decide +kernel
theorem d_Uc_told_133 : decode c_Uc_told 133 = .ok (.getfield 132, 3) := by decide +kernel
theorem d_Uc_told_136 : decode c_Uc_told 136 = .ok (.ireturn, 1) := by decide +kernel
theorem d_Uc_told_137 : decode c_Uc_told 137 = .ok (.aload_n 0, 1) := by decide +kernel
theorem d_Uc_told_138 : decode c_Uc_told 138 = .ok (.getfield 10, 3) := by decide +kernel
theorem d_Uc_told_141 : decode c_Uc_told 141 = .ok (.invokevirtual 135, 3) := by decide +kernel
theorem d_Uc_told_144 : decode c_Uc_told 144 = .ok (.ireturn, 1) := by decide +kernel
theorem d_Uc_told_145 : decode c_Uc_told 145 = .ok (.aload_n 0, 1) := by decide +kernel
theorem d_Uc_told_146 : decode c_Uc_told 146 = .ok (.getfield 10, 3) := by decide +kernel
theorem d_Uc_told_149 : decode c_Uc_told 149 = .ok (.getfield 105, 3) := by decide +kernel
theorem d_Uc_told_152 : decode c_Uc_told 152 = .ok (.iconst 1, 1) := by decide +kernel
theorem d_Uc_told_153 : decode c_Uc_told 153 = .ok (.if_icmp .le 18, 3) := by decide +kernel
theorem d_Uc_told_156 : decode c_Uc_told 156 = .ok (.aload_n 0, 1) := by decide +kernel
theorem d_Uc_told_157 : decode c_Uc_told 157 = .ok (.getfield 10, 3) := by decide +kernel
theorem d_Uc_told_160 : decode c_Uc_told 160 = .ok (.invokevirtual 135, 3) := by decide +kernel
theorem d_Uc_told_163 : decode c_Uc_told 163 = .ok (.iconst 1, 1) := by decide +kernel
theorem d_Uc_told_164 : decode c_Uc_told 164 = .ok (.if_icmp .ne 7, 3) := by decide +kernel
theorem d_Uc_told_167 : decode c_Uc_told 167 = .ok (.iconst 1, 1) := by decide +kernel
theorem d_Uc_told_168 : decode c_Uc_told 168 = .ok (.goto 4, 3) := by decide +kernel
theorem d_Uc_told_171 : decode c_Uc_told 171 = .ok (.iconst 0, 1) := by decide +kernel
theorem d_Uc_told_172 : decode c_Uc_told 172 = .ok (.ireturn, 1) := by decide +kernel
theorem d_Uc_told_173 : decode c_Uc_told 173 = .ok (.aload_n 0, 1) := by decide +kernel
theorem d_Uc_told_174 : decode c_Uc_told 174 = .ok (.getfield 22, 3) := by decide +kernel
theorem d_Uc_told_177 : decode c_Uc_told 177 = .ok (.invokevirtual 72, 3) := by decide +kernel
theorem d_Uc_told_180 : decode c_Uc_told 180 = .ok (.ireturn, 1) := by decide +kernel
theorem d_Uc_told_181 : decode c_Uc_told 181 = .ok (.aload_n 0, 1) := by decide +kernel
theorem d_Uc_told_182 : decode c_Uc_told 182 = .ok (.getfield 57, 3) := by decide +kernel
theorem d_Uc_told_185 : decode c_Uc_told 185 = .ok (.getfield 138, 3) := by decide +kernel
theorem d_Uc_told_188 : decode c_Uc_told 188 = .ok (.ireturn, 1) := by decide +kernel
theorem d_Uc_told_189 : decode c_Uc_told 189 = .ok (.ldc 71, 2) := by decide +kernel
theorem d_Uc_told_191 : decode c_Uc_told 191 = .ok (.ireturn, 1) := by decide +kernel
theorem d_Uc_count_0 : decode c_Uc_count 0 = .ok (.aload_n 0, 1) := by decide +kernel
theorem d_Uc_count_1 : decode c_Uc_count 1 = .ok (.getfield 10, 3) := by decide +kernel
theorem d_Uc_count_4 : decode c_Uc_count 4 = .ok (.iload_n 1, 1) := by decide +kernel
theorem d_Uc_count_5 : decode c_Uc_count 5 = .ok (.invokevirtual 141, 3) := by decide +kernel
theorem d_Uc_count_8 : decode c_Uc_count 8 = .ok (.ifCond .eq 14, 3) := by decide +kernel
theorem d_Uc_count_11 : decode c_Uc_count 11 = .ok (.aload_n 0, 1) := by decide +kernel
theorem d_Uc_count_12 : decode c_Uc_count 12 = .ok (.getfield 10, 3) := by decide +kernel
theorem d_Uc_count_15 : decode c_Uc_count 15 = .ok (.iload_n 1, 1) := by decide +kernel
theorem d_Uc_count_16 : decode c_Uc_count 16 = .ok (.invokevirtual 145, 3) := by decide +kernel
theorem d_Uc_count_19 : decode c_Uc_count 19 = .ok (.goto 5, 3) := by decide +kernel
theorem d_Uc_count_22 : decode c_Uc_count 22 = .ok (.ldc 149, 2) := by decide +kernel
theorem d_Uc_count_24 : decode c_Uc_count 24 = .ok (.ireturn, 1) := by decide +kernel
theorem d_Uc_friends_0 : decode c_Uc_friends 0 = .ok (.aload_n 0, 1) := by decide +kernel
theorem d_Uc_friends_1 : decode c_Uc_friends 1 = .ok (.getfield 10, 3) := by decide +kernel
theorem d_Uc_friends_4 : decode c_Uc_friends 4 = .ok (.iload_n 1, 1) := by decide +kernel
theorem d_Uc_friends_5 : decode c_Uc_friends 5 = .ok (.invokevirtual 141, 3) := by decide +kernel
theorem d_Uc_friends_8 : decode c_Uc_friends 8 = .ok (.ifCond .eq 15, 3) := by decide +kernel
theorem d_Uc_friends_11 : decode c_Uc_friends 11 = .ok (.aload_n 0, 1) := by decide +kernel
theorem d_Uc_friends_12 : decode c_Uc_friends 12 = .ok (.getfield 10, 3) := by decide +kernel
theorem d_Uc_friends_15 : decode c_Uc_friends 15 = .ok (.getfield 115, 3) := by decide +kernel
theorem d_Uc_friends_18 : decode c_Uc_friends 18 = .ok (.iload_n 1, 1) := by decide +kernel
theorem d_Uc_friends_19 : decode c_Uc_friends 19 = .ok (.iaload, 1) := by decide +kernel
theorem d_Uc_friends_20 : decode c_Uc_friends 20 = .ok (.goto 5, 3) := by decide +kernel
theorem d_Uc_friends_23 : decode c_Uc_friends 23 = .ok (.ldc 149, 2) := by decide +kernel
theorem d_Uc_friends_25 : decode c_Uc_friends 25 = .ok (.ireturn, 1) := by decide +kernel
theorem d_Uc_alike_0 : decode c_Uc_alike 0 = .ok (.aload_n 0, 1) := by decide +kernel
theorem d_Uc_alike_1 : decode c_Uc_alike 1 = .ok (.getfield 10, 3) := by decide +kernel
theorem d_Uc_alike_4 : decode c_Uc_alike 4 = .ok (.iload_n 1, 1) := by decide +kernel
theorem d_Uc_alike_5 : decode c_Uc_alike 5 = .ok (.invokevirtual 141, 3) := by decide +kernel
theorem d_Uc_alike_8 : decode c_Uc_alike 8 = .ok (.ifCond .eq 14, 3) := by decide +kernel
theorem d_Uc_alike_11 : decode c_Uc_alike 11 = .ok (.aload_n 0, 1) := by decide +kernel
theorem d_Uc_alike_12 : decode c_Uc_alike 12 = .ok (.getfield 10, 3) := by decide +kernel
theorem d_Uc_alike_15 : decode c_Uc_alike 15 = .ok (.iload_n 1, 1) := by decide +kernel
theorem d_Uc_alike_16 : decode c_Uc_alike 16 = .ok (.invokevirtual 150, 3) := by decide +kernel
theorem d_Uc_alike_19 : decode c_Uc_alike 19 = .ok (.goto 5, 3) := by decide +kernel
theorem d_Uc_alike_22 : decode c_Uc_alike 22 = .ok (.ldc 149, 2) := by decide +kernel
theorem d_Uc_alike_24 : decode c_Uc_alike 24 = .ok (.ireturn, 1) := by decide +kernel
theorem d_Uc_pair_0 : decode c_Uc_pair 0 = .ok (.aload_n 0, 1) := by decide +kernel
theorem d_Uc_pair_1 : decode c_Uc_pair 1 = .ok (.getfield 10, 3) := by decide +kernel
theorem d_Uc_pair_4 : decode c_Uc_pair 4 = .ok (.iload_n 1, 1) := by decide +kernel
theorem d_Uc_pair_5 : decode c_Uc_pair 5 = .ok (.iload_n 2, 1) := by decide +kernel
theorem d_Uc_pair_6 : decode c_Uc_pair 6 = .ok (.invokevirtual 153, 3) := by decide +kernel
theorem d_Uc_pair_9 : decode c_Uc_pair 9 = .ok (.ifCond .eq 15, 3) := by decide +kernel
theorem d_Uc_pair_12 : decode c_Uc_pair 12 = .ok (.aload_n 0, 1) := by decide +kernel
theorem d_Uc_pair_13 : decode c_Uc_pair 13 = .ok (.getfield 10, 3) := by decide +kernel
theorem d_Uc_pair_16 : decode c_Uc_pair 16 = .ok (.iload_n 1, 1) := by decide +kernel
theorem d_Uc_pair_17 : decode c_Uc_pair 17 = .ok (.iload_n 2, 1) := by decide +kernel
theorem d_Uc_pair_18 : decode c_Uc_pair 18 = .ok (.invokevirtual 157, 3) := by decide +kernel
theorem d_Uc_pair_21 : decode c_Uc_pair 21 = .ok (.goto 5, 3) := by decide +kernel
theorem d_Uc_pair_24 : decode c_Uc_pair 24 = .ok (.ldc 149, 2) := by decide +kernel
theorem d_Uc_pair_26 : decode c_Uc_pair 26 = .ok (.ireturn, 1) := by decide +kernel
theorem d_Uc_tie_0 : decode c_Uc_tie 0 = .ok (.aload_n 0, 1) := by decide +kernel
theorem d_Uc_tie_1 : decode c_Uc_tie 1 = .ok (.getfield 10, 3) := by decide +kernel
theorem d_Uc_tie_4 : decode c_Uc_tie 4 = .ok (.iload_n 1, 1) := by decide +kernel
theorem d_Uc_tie_5 : decode c_Uc_tie 5 = .ok (.iload_n 2, 1) := by decide +kernel
theorem d_Uc_tie_6 : decode c_Uc_tie 6 = .ok (.invokevirtual 153, 3) := by decide +kernel
theorem d_Uc_tie_9 : decode c_Uc_tie 9 = .ok (.ifCond .ne 6, 3) := by decide +kernel
theorem d_Uc_tie_12 : decode c_Uc_tie 12 = .ok (.ldc 149, 2) := by decide +kernel
theorem d_Uc_tie_14 : decode c_Uc_tie 14 = .ok (.ireturn, 1) := by decide +kernel
theorem d_Uc_tie_15 : decode c_Uc_tie 15 = .ok (.aload_n 0, 1) := by decide +kernel
theorem d_Uc_tie_16 : decode c_Uc_tie 16 = .ok (.getfield 10, 3) := by decide +kernel
theorem d_Uc_tie_19 : decode c_Uc_tie 19 = .ok (.iload_n 1, 1) := by decide +kernel
theorem d_Uc_tie_20 : decode c_Uc_tie 20 = .ok (.iload_n 2, 1) := by decide +kernel
theorem d_Uc_tie_21 : decode c_Uc_tie 21 = .ok (.iload_n 3, 1) := by decide +kernel
theorem d_Uc_tie_22 : decode c_Uc_tie 22 = .ok (.invokevirtual 161, 3) := by decide +kernel
theorem d_Uc_tie_25 : decode c_Uc_tie 25 = .ok (.ifCond .ne 6, 3) := by decide +kernel
theorem d_Uc_tie_28 : decode c_Uc_tie 28 = .ok (.ldc 165, 2) := by decide +kernel
theorem d_Uc_tie_30 : decode c_Uc_tie 30 = .ok (.ireturn, 1) := by decide +kernel
theorem d_Uc_tie_31 : decode c_Uc_tie 31 = .ok (.aload_n 0, 1) := by decide +kernel
theorem d_Uc_tie_32 : decode c_Uc_tie 32 = .ok (.getfield 10, 3) := by decide +kernel
theorem d_Uc_tie_35 : decode c_Uc_tie 35 = .ok (.iload_n 1, 1) := by decide +kernel
theorem d_Uc_tie_36 : decode c_Uc_tie 36 = .ok (.iload_n 2, 1) := by decide +kernel
theorem d_Uc_tie_37 : decode c_Uc_tie 37 = .ok (.invokevirtual 166, 3) := by decide +kernel
theorem d_Uc_tie_40 : decode c_Uc_tie 40 = .ok (.istore 4, 2) := by decide +kernel
theorem d_Uc_tie_42 : decode c_Uc_tie 42 = .ok (.aload_n 0, 1) := by decide +kernel
theorem d_Uc_tie_43 : decode c_Uc_tie 43 = .ok (.getfield 10, 3) := by decide +kernel
theorem d_Uc_tie_46 : decode c_Uc_tie 46 = .ok (.aload_n 0, 1) := by decide +kernel
theorem d_Uc_tie_47 : decode c_Uc_tie 47 = .ok (.getfield 10, 3) := by decide +kernel
theorem d_Uc_tie_50 : decode c_Uc_tie 50 = .ok (.getfield 115, 3) := by decide +kernel
theorem d_Uc_tie_53 : decode c_Uc_tie 53 = .ok (.iload_n 1, 1) := by decide +kernel
theorem d_Uc_tie_54 : decode c_Uc_tie 54 = .ok (.iload_n 2, 1) := by decide +kernel
theorem d_Uc_tie_55 : decode c_Uc_tie 55 = .ok (.iload_n 3, 1) := by decide +kernel
theorem d_Uc_tie_56 : decode c_Uc_tie 56 = .ok (.invokevirtual 169, 3) := by decide +kernel
theorem d_Uc_tie_59 : decode c_Uc_tie 59 = .ok (.iload 4, 2) := by decide +kernel
theorem d_Uc_tie_61 : decode c_Uc_tie 61 = .ok (.iload_n 3, 1) := by decide +kernel
theorem d_Uc_tie_62 : decode c_Uc_tie 62 = .ok (.if_icmp .ne 7, 3) := by decide +kernel
theorem d_Uc_tie_65 : decode c_Uc_tie 65 = .ok (.iconst 0, 1) := by decide +kernel
theorem d_Uc_tie_66 : decode c_Uc_tie 66 = .ok (.goto 4, 3) := by decide +kernel
theorem d_Uc_tie_69 : decode c_Uc_tie 69 = .ok (.iconst 1, 1) := by decide +kernel
theorem d_Uc_tie_70 : decode c_Uc_tie 70 = .ok (.ireturn, 1) := by decide +kernel
theorem d_Uc_bar_0 : decode c_Uc_bar 0 = .ok (.aload_n 0, 1) := by decide +kernel
theorem d_Uc_bar_1 : decode c_Uc_bar 1 = .ok (.getfield 10, 3) := by decide +kernel
theorem d_Uc_bar_4 : decode c_Uc_bar 4 = .ok (.iload_n 1, 1) := by decide +kernel
theorem d_Uc_bar_5 : decode c_Uc_bar 5 = .ok (.iload_n 2, 1) := by decide +kernel
theorem d_Uc_bar_6 : decode c_Uc_bar 6 = .ok (.invokevirtual 153, 3) := by decide +kernel
theorem d_Uc_bar_9 : decode c_Uc_bar 9 = .ok (.ifCond .ne 6, 3) := by decide +kernel
theorem d_Uc_bar_12 : decode c_Uc_bar 12 = .ok (.ldc 149, 2) := by decide +kernel
theorem d_Uc_bar_14 : decode c_Uc_bar 14 = .ok (.ireturn, 1) := by decide +kernel
theorem d_Uc_bar_15 : decode c_Uc_bar 15 = .ok (.iload_n 3, 1) := by decide +kernel
theorem d_Uc_bar_16 : decode c_Uc_bar 16 = .ok (.ifCond .lt 8, 3) := by decide +kernel
theorem d_Uc_bar_19 : decode c_Uc_bar 19 = .ok (.iload_n 3, 1) := by decide +kernel
theorem d_Uc_bar_20 : decode c_Uc_bar 20 = .ok (.iconst 2, 1) := by decide +kernel
theorem d_Uc_bar_21 : decode c_Uc_bar 21 = .ok (.if_icmp .le 6, 3) := by decide +kernel
theorem d_Uc_bar_24 : decode c_Uc_bar 24 = .ok (.ldc 71, 2) := by decide +kernel
theorem d_Uc_bar_26 : decode c_Uc_bar 26 = .ok (.ireturn, 1) := by decide +kernel
theorem d_Uc_bar_27 : decode c_Uc_bar 27 = .ok (.aload_n 0, 1) := by decide +kernel
theorem d_Uc_bar_28 : decode c_Uc_bar 28 = .ok (.getfield 10, 3) := by decide +kernel
theorem d_Uc_bar_31 : decode c_Uc_bar 31 = .ok (.iload_n 1, 1) := by decide +kernel
theorem d_Uc_bar_32 : decode c_Uc_bar 32 = .ok (.iload_n 2, 1) := by decide +kernel
theorem d_Uc_bar_33 : decode c_Uc_bar 33 = .ok (.invokevirtual 173, 3) := by decide +kernel
theorem d_Uc_bar_36 : decode c_Uc_bar 36 = .ok (.istore 4, 2) := by decide +kernel
theorem d_Uc_bar_38 : decode c_Uc_bar 38 = .ok (.aload_n 0, 1) := by decide +kernel
theorem d_Uc_bar_39 : decode c_Uc_bar 39 = .ok (.getfield 10, 3) := by decide +kernel
theorem d_Uc_bar_42 : decode c_Uc_bar 42 = .ok (.iload_n 1, 1) := by decide +kernel
theorem d_Uc_bar_43 : decode c_Uc_bar 43 = .ok (.iload_n 2, 1) := by decide +kernel
theorem d_Uc_bar_44 : decode c_Uc_bar 44 = .ok (.iload_n 3, 1) := by decide +kernel
theorem d_Uc_bar_45 : decode c_Uc_bar 45 = .ok (.invokevirtual 176, 3) := by decide +kernel
theorem d_Uc_bar_48 : decode c_Uc_bar 48 = .ok (.iload 4, 2) := by decide +kernel
theorem d_Uc_bar_50 : decode c_Uc_bar 50 = .ok (.ireturn, 1) := by decide +kernel
theorem d_Uc_birth_0 : decode c_Uc_birth 0 = .ok (.aload_n 0, 1) := by decide +kernel
theorem d_Uc_birth_1 : decode c_Uc_birth 1 = .ok (.getfield 10, 3) := by decide +kernel
theorem d_Uc_birth_4 : decode c_Uc_birth 4 = .ok (.getfield 105, 3) := by decide +kernel
theorem d_Uc_birth_7 : decode c_Uc_birth 7 = .ok (.bipush 8, 2) := by decide +kernel
theorem d_Uc_birth_9 : decode c_Uc_birth 9 = .ok (.if_icmp .lt 6, 3) := by decide +kernel
theorem d_Uc_birth_12 : decode c_Uc_birth 12 = .ok (.ldc 76, 2) := by decide +kernel
theorem d_Uc_birth_14 : decode c_Uc_birth 14 = .ok (.ireturn, 1) := by decide +kernel
theorem d_Uc_birth_15 : decode c_Uc_birth 15 = .ok (.aload_n 0, 1) := by decide +kernel
theorem d_Uc_birth_16 : decode c_Uc_birth 16 = .ok (.getfield 10, 3) := by decide +kernel
theorem d_Uc_birth_19 : decode c_Uc_birth 19 = .ok (.invokevirtual 180, 3) := by decide +kernel
theorem d_Uc_birth_22 : decode c_Uc_birth 22 = .ok (.aload_n 0, 1) := by decide +kernel
theorem d_Uc_birth_23 : decode c_Uc_birth 23 = .ok (.getfield 10, 3) := by decide +kernel
theorem d_Uc_birth_26 : decode c_Uc_birth 26 = .ok (.getfield 105, 3) := by decide +kernel
theorem d_Uc_birth_29 : decode c_Uc_birth 29 = .ok (.iconst 1, 1) := by decide +kernel
theorem d_Uc_birth_30 : decode c_Uc_birth 30 = .ok (.isub, 1) := by decide +kernel
theorem d_Uc_birth_31 : decode c_Uc_birth 31 = .ok (.ireturn, 1) := by decide +kernel
theorem d_Uc_death_0 : decode c_Uc_death 0 = .ok (.aload_n 0, 1) := by decide +kernel
theorem d_Uc_death_1 : decode c_Uc_death 1 = .ok (.getfield 10, 3) := by decide +kernel
theorem d_Uc_death_4 : decode c_Uc_death 4 = .ok (.iload_n 1, 1) := by decide +kernel
theorem d_Uc_death_5 : decode c_Uc_death 5 = .ok (.invokevirtual 141, 3) := by decide +kernel
theorem d_Uc_death_8 : decode c_Uc_death 8 = .ok (.ifCond .ne 6, 3) := by decide +kernel
theorem d_Uc_death_11 : decode c_Uc_death 11 = .ok (.ldc 149, 2) := by decide +kernel
theorem d_Uc_death_13 : decode c_Uc_death 13 = .ok (.ireturn, 1) := by decide +kernel
theorem d_Uc_death_14 : decode c_Uc_death 14 = .ok (.aload_n 0, 1) := by decide +kernel
theorem d_Uc_death_15 : decode c_Uc_death 15 = .ok (.getfield 10, 3) := by decide +kernel
theorem d_Uc_death_18 : decode c_Uc_death 18 = .ok (.iload_n 1, 1) := by decide +kernel
theorem d_Uc_death_19 : decode c_Uc_death 19 = .ok (.invokevirtual 183, 3) := by decide +kernel
theorem d_Uc_death_22 : decode c_Uc_death 22 = .ok (.aload_n 0, 1) := by decide +kernel
theorem d_Uc_death_23 : decode c_Uc_death 23 = .ok (.getfield 10, 3) := by decide +kernel
theorem d_Uc_death_26 : decode c_Uc_death 26 = .ok (.getfield 105, 3) := by decide +kernel
theorem d_Uc_death_29 : decode c_Uc_death 29 = .ok (.ireturn, 1) := by decide +kernel
theorem d_Uc_made_0 : decode c_Uc_made 0 = .ok (.iload_n 1, 1) := by decide +kernel
theorem d_Uc_made_1 : decode c_Uc_made 1 = .ok (.iconst 2, 1) := by decide +kernel
theorem d_Uc_made_2 : decode c_Uc_made 2 = .ok (.if_icmp .lt 18, 3) := by decide +kernel
theorem d_Uc_made_5 : decode c_Uc_made 5 = .ok (.iload_n 1, 1) := by decide +kernel
theorem d_Uc_made_6 : decode c_Uc_made 6 = .ok (.bipush 8, 2) := by decide +kernel
theorem d_Uc_made_8 : decode c_Uc_made 8 = .ok (.if_icmp .gt 12, 3) := by decide +kernel
theorem d_Uc_made_11 : decode c_Uc_made 11 = .ok (.iload_n 2, 1) := by decide +kernel
theorem d_Uc_made_12 : decode c_Uc_made 12 = .ok (.ifCond .lt 8, 3) := by decide +kernel
theorem d_Uc_made_15 : decode c_Uc_made 15 = .ok (.iload_n 2, 1) := by decide +kernel
theorem d_Uc_made_16 : decode c_Uc_made 16 = .ok (.iconst 1, 1) := by decide +kernel
theorem d_Uc_made_17 : decode c_Uc_made 17 = .ok (.if_icmp .le 6, 3) := by decide +kernel
theorem d_Uc_made_20 : decode c_Uc_made 20 = .ok (.ldc 71, 2) := by decide +kernel
theorem d_Uc_made_22 : decode c_Uc_made 22 = .ok (.ireturn, 1) := by decide +kernel
theorem d_Uc_made_23 : decode c_Uc_made 23 = .ok (.iload_n 3, 1) := by decide +kernel
theorem d_Uc_made_24 : decode c_Uc_made 24 = .ok (.ifCond .lt 25, 3) := by decide +kernel
theorem d_Uc_made_27 : decode c_Uc_made 27 = .ok (.iload_n 3, 1) := by decide +kernel
theorem d_Uc_made_28 : decode c_Uc_made 28 = .ok (.iload_n 1, 1) := by decide +kernel
theorem d_Uc_made_29 : decode c_Uc_made 29 = .ok (.if_icmp .ge 20, 3) := by decide +kernel
theorem d_Uc_made_32 : decode c_Uc_made 32 = .ok (.iload 4, 2) := by decide +kernel
theorem d_Uc_made_34 : decode c_Uc_made 34 = .ok (.ifCond .lt 15, 3) := by decide +kernel
theorem d_Uc_made_37 : decode c_Uc_made 37 = .ok (.iload 4, 2) := by decide +kernel
theorem d_Uc_made_39 : decode c_Uc_made 39 = .ok (.iload_n 1, 1) := by decide +kernel
theorem d_Uc_made_40 : decode c_Uc_made 40 = .ok (.if_icmp .ge 9, 3) := by decide +kernel
theorem d_Uc_made_43 : decode c_Uc_made 43 = .ok (.iload_n 3, 1) := by decide +kernel
theorem d_Uc_made_44 : decode c_Uc_made 44 = .ok (.iload 4, 2) := by decide +kernel
theorem d_Uc_made_46 : decode c_Uc_made 46 = .ok (.if_icmp .ne 6, 3) := by decide +kernel
theorem d_Uc_made_49 : decode c_Uc_made 49 = .ok (.ldc 71, 2) := by decide +kernel
theorem d_Uc_made_51 : decode c_Uc_made 51 = .ok (.ireturn, 1) := by decide +kernel
theorem d_Uc_made_52 : decode c_Uc_made 52 = .ok (.iload_n 1, 1) := by decide +kernel
theorem d_Uc_made_53 : decode c_Uc_made 53 = .ok (.iload_n 2, 1) := by decide +kernel
theorem d_Uc_made_54 : decode c_Uc_made 54 = .ok (.iload_n 3, 1) := by decide +kernel
theorem d_Uc_made_55 : decode c_Uc_made 55 = .ok (.iload 4, 2) := by decide +kernel
theorem d_Uc_made_57 : decode c_Uc_made 57 = .ok (.invokestatic 187, 3) := by decide +kernel
theorem d_Uc_made_60 : decode c_Uc_made 60 = .ok (.ifCond .eq 7, 3) := by decide +kernel
theorem d_Uc_made_63 : decode c_Uc_made 63 = .ok (.iconst 1, 1) := by decide +kernel
theorem d_Uc_made_64 : decode c_Uc_made 64 = .ok (.goto 4, 3) := by decide +kernel
theorem d_Uc_made_67 : decode c_Uc_made 67 = .ok (.iconst 0, 1) := by decide +kernel
theorem d_Uc_made_68 : decode c_Uc_made 68 = .ok (.ireturn, 1) := by decide +kernel
theorem d_Uc_good_0 : decode c_Uc_good 0 = .ok (.iload_n 1, 1) := by decide +kernel
theorem d_Uc_good_1 : decode c_Uc_good 1 = .ok (.bipush (-3), 2) := by decide +kernel
theorem d_Uc_good_3 : decode c_Uc_good 3 = .ok (.if_icmp .lt 14, 3) := by decide +kernel
theorem d_Uc_good_6 : decode c_Uc_good 6 = .ok (.iload_n 1, 1) := by decide +kernel
theorem d_Uc_good_7 : decode c_Uc_good 7 = .ok (.aload_n 0, 1) := by decide +kernel
theorem d_Uc_good_8 : decode c_Uc_good 8 = .ok (.getfield 10, 3) := by decide +kernel
theorem d_Uc_good_11 : decode c_Uc_good 11 = .ok (.getfield 105, 3) := by decide +kernel
theorem d_Uc_good_14 : decode c_Uc_good 14 = .ok (.if_icmp .lt 6, 3) := by decide +kernel
theorem d_Uc_good_17 : decode c_Uc_good 17 = .ok (.ldc 149, 2) := by decide +kernel
theorem d_Uc_good_19 : decode c_Uc_good 19 = .ok (.ireturn, 1) := by decide +kernel
theorem d_Uc_good_20 : decode c_Uc_good 20 = .ok (.aload_n 0, 1) := by decide +kernel
theorem d_Uc_good_21 : decode c_Uc_good 21 = .ok (.getfield 10, 3) := by decide +kernel
theorem d_Uc_good_24 : decode c_Uc_good 24 = .ok (.getfield 105, 3) := by decide +kernel
theorem d_Uc_good_27 : decode c_Uc_good 27 = .ok (.iconst 2, 1) := by decide +kernel
theorem d_Uc_good_28 : decode c_Uc_good 28 = .ok (.if_icmp .ge 6, 3) := by decide +kernel
theorem d_Uc_good_31 : decode c_Uc_good 31 = .ok (.ldc 165, 2) := by decide +kernel
theorem d_Uc_good_33 : decode c_Uc_good 33 = .ok (.ireturn, 1) := by decide +kernel
theorem d_Uc_good_34 : decode c_Uc_good 34 = .ok (.aload_n 0, 1) := by decide +kernel
theorem d_Uc_good_35 : decode c_Uc_good 35 = .ok (.getfield 29, 3) := by decide +kernel
theorem d_Uc_good_38 : decode c_Uc_good 38 = .ok (.aload_n 0, 1) := by decide +kernel
theorem d_Uc_good_39 : decode c_Uc_good 39 = .ok (.getfield 10, 3) := by decide +kernel
theorem d_Uc_good_42 : decode c_Uc_good 42 = .ok (.invokevirtual 191, 3) := by decide +kernel
theorem d_Uc_good_45 : decode c_Uc_good 45 = .ok (.aload_n 0, 1) := by decide +kernel
theorem d_Uc_good_46 : decode c_Uc_good 46 = .ok (.getfield 29, 3) := by decide +kernel
theorem d_Uc_good_49 : decode c_Uc_good 49 = .ok (.getfield 194, 3) := by decide +kernel
theorem d_Uc_good_52 : decode c_Uc_good 52 = .ok (.iconst (-1), 1) := by decide +kernel
theorem d_Uc_good_53 : decode c_Uc_good 53 = .ok (.if_icmp .ne 5, 3) := by decide +kernel
theorem d_Uc_good_56 : decode c_Uc_good 56 = .ok (.iconst (-1), 1) := by decide +kernel
theorem d_Uc_good_57 : decode c_Uc_good 57 = .ok (.ireturn, 1) := by decide +kernel
theorem d_Uc_good_58 : decode c_Uc_good 58 = .ok (.iload_n 1, 1) := by decide +kernel
theorem d_Uc_good_59 : decode c_Uc_good 59 = .ok (.tableswitch 49 (-3) (-1) #[41, 33, 25], 25) := by decide +kernel
theorem d_Uc_good_84 : decode c_Uc_good 84 = .ok (.aload_n 0, 1) := by decide +kernel
theorem d_Uc_good_85 : decode c_Uc_good 85 = .ok (.getfield 29, 3) := by decide +kernel
theorem d_Uc_good_88 : decode c_Uc_good 88 = .ok (.getfield 194, 3) := by decide +kernel
theorem d_Uc_good_91 : decode c_Uc_good 91 = .ok (.ireturn, 1) := by decide +kernel
theorem d_Uc_good_92 : decode c_Uc_good 92 = .ok (.aload_n 0, 1) := by decide +kernel
theorem d_Uc_good_93 : decode c_Uc_good 93 = .ok (.getfield 29, 3) := by decide +kernel
theorem d_Uc_good_96 : decode c_Uc_good 96 = .ok (.getfield 197, 3) := by decide +kernel
theorem d_Uc_good_99 : decode c_Uc_good 99 = .ok (.ireturn, 1) := by decide +kernel
theorem d_Uc_good_100 : decode c_Uc_good 100 = .ok (.aload_n 0, 1) := by decide +kernel
theorem d_Uc_good_101 : decode c_Uc_good 101 = .ok (.getfield 29, 3) := by decide +kernel
theorem d_Uc_good_104 : decode c_Uc_good 104 = .ok (.invokevirtual 200, 3) := by decide +kernel
theorem d_Uc_good_107 : decode c_Uc_good 107 = .ok (.ireturn, 1) := by decide +kernel
theorem d_Uc_good_108 : decode c_Uc_good 108 = .ok (.aload_n 0, 1) := by decide +kernel
theorem d_Uc_good_109 : decode c_Uc_good 109 = .ok (.getfield 29, 3) := by decide +kernel
theorem d_Uc_good_112 : decode c_Uc_good 112 = .ok (.iload_n 1, 1) := by decide +kernel
theorem d_Uc_good_113 : decode c_Uc_good 113 = .ok (.invokevirtual 203, 3) := by decide +kernel
theorem d_Uc_good_116 : decode c_Uc_good 116 = .ok (.ireturn, 1) := by decide +kernel
theorem d_Uc_born_0 : decode c_Uc_born 0 = .ok (.aload_n 0, 1) := by decide +kernel
theorem d_Uc_born_1 : decode c_Uc_born 1 = .ok (.getfield 10, 3) := by decide +kernel
theorem d_Uc_born_4 : decode c_Uc_born 4 = .ok (.getfield 105, 3) := by decide +kernel
theorem d_Uc_born_7 : decode c_Uc_born 7 = .ok (.iconst 1, 1) := by decide +kernel
theorem d_Uc_born_8 : decode c_Uc_born 8 = .ok (.if_icmp .lt 15, 3) := by decide +kernel
theorem d_Uc_born_11 : decode c_Uc_born 11 = .ok (.aload_n 0, 1) := by decide +kernel
theorem d_Uc_born_12 : decode c_Uc_born 12 = .ok (.getfield 10, 3) := by decide +kernel
theorem d_Uc_born_15 : decode c_Uc_born 15 = .ok (.getfield 105, 3) := by decide +kernel
theorem d_Uc_born_18 : decode c_Uc_born 18 = .ok (.bipush 8, 2) := by decide +kernel
theorem d_Uc_born_20 : decode c_Uc_born 20 = .ok (.if_icmp .lt 6, 3) := by decide +kernel
theorem d_Uc_born_23 : decode c_Uc_born 23 = .ok (.ldc 165, 2) := by decide +kernel
theorem d_Uc_born_25 : decode c_Uc_born 25 = .ok (.ireturn, 1) := by decide +kernel
theorem d_Uc_born_26 : decode c_Uc_born 26 = .ok (.aload_n 0, 1) := by decide +kernel
theorem d_Uc_born_27 : decode c_Uc_born 27 = .ok (.getfield 16, 3) := by decide +kernel
theorem d_Uc_born_30 : decode c_Uc_born 30 = .ok (.aload_n 0, 1) := by decide +kernel
theorem d_Uc_born_31 : decode c_Uc_born 31 = .ok (.getfield 10, 3) := by decide +kernel
theorem d_Uc_born_34 : decode c_Uc_born 34 = .ok (.invokevirtual 91, 3) := by decide +kernel
theorem d_Uc_born_37 : decode c_Uc_born 37 = .ok (.aload_n 0, 1) := by decide +kernel
theorem d_Uc_born_38 : decode c_Uc_born 38 = .ok (.getfield 16, 3) := by decide +kernel
theorem d_Uc_born_41 : decode c_Uc_born 41 = .ok (.invokevirtual 180, 3) := by decide +kernel
theorem d_Uc_born_44 : decode c_Uc_born 44 = .ok (.aload_n 0, 1) := by decide +kernel
theorem d_Uc_born_45 : decode c_Uc_born 45 = .ok (.getfield 29, 3) := by decide +kernel
theorem d_Uc_born_48 : decode c_Uc_born 48 = .ok (.aload_n 0, 1) := by decide +kernel
theorem d_Uc_born_49 : decode c_Uc_born 49 = .ok (.getfield 16, 3) := by decide +kernel
theorem d_Uc_born_52 : decode c_Uc_born 52 = .ok (.invokevirtual 191, 3) := by decide +kernel
theorem d_Uc_born_55 : decode c_Uc_born 55 = .ok (.aload_n 0, 1) := by decide +kernel
theorem d_Uc_born_56 : decode c_Uc_born 56 = .ok (.getfield 29, 3) := by decide +kernel
theorem d_Uc_born_59 : decode c_Uc_born 59 = .ok (.getfield 194, 3) := by decide +kernel
theorem d_Uc_born_62 : decode c_Uc_born 62 = .ok (.ireturn, 1) := by decide +kernel
theorem d_Uc_dies_0 : decode c_Uc_dies 0 = .ok (.aload_n 0, 1) := by decide +kernel
theorem d_Uc_dies_1 : decode c_Uc_dies 1 = .ok (.getfield 10, 3) := by decide +kernel
theorem d_Uc_dies_4 : decode c_Uc_dies 4 = .ok (.iload_n 1, 1) := by decide +kernel
theorem d_Uc_dies_5 : decode c_Uc_dies 5 = .ok (.invokevirtual 141, 3) := by decide +kernel
theorem d_Uc_dies_8 : decode c_Uc_dies 8 = .ok (.ifCond .ne 6, 3) := by decide +kernel
theorem d_Uc_dies_11 : decode c_Uc_dies 11 = .ok (.ldc 149, 2) := by decide +kernel
theorem d_Uc_dies_13 : decode c_Uc_dies 13 = .ok (.ireturn, 1) := by decide +kernel
theorem d_Uc_dies_14 : decode c_Uc_dies 14 = .ok (.aload_n 0, 1) := by decide +kernel
theorem d_Uc_dies_15 : decode c_Uc_dies 15 = .ok (.getfield 10, 3) := by decide +kernel
theorem d_Uc_dies_18 : decode c_Uc_dies 18 = .ok (.getfield 105, 3) := by decide +kernel
theorem d_Uc_dies_21 : decode c_Uc_dies 21 = .ok (.iconst 3, 1) := by decide +kernel
theorem d_Uc_dies_22 : decode c_Uc_dies 22 = .ok (.if_icmp .ge 6, 3) := by decide +kernel
theorem d_Uc_dies_25 : decode c_Uc_dies 25 = .ok (.ldc 165, 2) := by decide +kernel
theorem d_Uc_dies_27 : decode c_Uc_dies 27 = .ok (.ireturn, 1) := by decide +kernel
theorem d_Uc_dies_28 : decode c_Uc_dies 28 = .ok (.aload_n 0, 1) := by decide +kernel
theorem d_Uc_dies_29 : decode c_Uc_dies 29 = .ok (.getfield 16, 3) := by decide +kernel
theorem d_Uc_dies_32 : decode c_Uc_dies 32 = .ok (.aload_n 0, 1) := by decide +kernel
theorem d_Uc_dies_33 : decode c_Uc_dies 33 = .ok (.getfield 10, 3) := by decide +kernel
theorem d_Uc_dies_36 : decode c_Uc_dies 36 = .ok (.invokevirtual 91, 3) := by decide +kernel
theorem d_Uc_dies_39 : decode c_Uc_dies 39 = .ok (.aload_n 0, 1) := by decide +kernel
theorem d_Uc_dies_40 : decode c_Uc_dies 40 = .ok (.getfield 16, 3) := by decide +kernel
theorem d_Uc_dies_43 : decode c_Uc_dies 43 = .ok (.iload_n 1, 1) := by decide +kernel
theorem d_Uc_dies_44 : decode c_Uc_dies 44 = .ok (.invokevirtual 183, 3) := by decide +kernel
theorem d_Uc_dies_47 : decode c_Uc_dies 47 = .ok (.aload_n 0, 1) := by decide +kernel
theorem d_Uc_dies_48 : decode c_Uc_dies 48 = .ok (.getfield 29, 3) := by decide +kernel
theorem d_Uc_dies_51 : decode c_Uc_dies 51 = .ok (.aload_n 0, 1) := by decide +kernel
theorem d_Uc_dies_52 : decode c_Uc_dies 52 = .ok (.getfield 16, 3) := by decide +kernel
theorem d_Uc_dies_55 : decode c_Uc_dies 55 = .ok (.invokevirtual 191, 3) := by decide +kernel
theorem d_Uc_dies_58 : decode c_Uc_dies 58 = .ok (.aload_n 0, 1) := by decide +kernel
theorem d_Uc_dies_59 : decode c_Uc_dies 59 = .ok (.getfield 29, 3) := by decide +kernel
theorem d_Uc_dies_62 : decode c_Uc_dies 62 = .ok (.getfield 194, 3) := by decide +kernel
theorem d_Uc_dies_65 : decode c_Uc_dies 65 = .ok (.ireturn, 1) := by decide +kernel
theorem d_Uc_nearest_0 : decode c_Uc_nearest 0 = .ok (.iload_n 1, 1) := by decide +kernel
theorem d_Uc_nearest_1 : decode c_Uc_nearest 1 = .ok (.ifCond .lt 8, 3) := by decide +kernel
theorem d_Uc_nearest_4 : decode c_Uc_nearest 4 = .ok (.iload_n 1, 1) := by decide +kernel
theorem d_Uc_nearest_5 : decode c_Uc_nearest 5 = .ok (.iconst 2, 1) := by decide +kernel
theorem d_Uc_nearest_6 : decode c_Uc_nearest 6 = .ok (.if_icmp .le 6, 3) := by decide +kernel
theorem d_Uc_nearest_9 : decode c_Uc_nearest 9 = .ok (.ldc 71, 2) := by decide +kernel
theorem d_Uc_nearest_11 : decode c_Uc_nearest 11 = .ok (.ireturn, 1) := by decide +kernel
theorem d_Uc_nearest_12 : decode c_Uc_nearest 12 = .ok (.aload_n 0, 1) := by decide +kernel
theorem d_Uc_nearest_13 : decode c_Uc_nearest 13 = .ok (.getfield 10, 3) := by decide +kernel
theorem d_Uc_nearest_16 : decode c_Uc_nearest 16 = .ok (.getfield 105, 3) := by decide +kernel
theorem d_Uc_nearest_19 : decode c_Uc_nearest 19 = .ok (.bipush 6, 2) := by decide +kernel
theorem d_Uc_nearest_21 : decode c_Uc_nearest 21 = .ok (.if_icmp .le 6, 3) := by decide +kernel
theorem d_Uc_nearest_24 : decode c_Uc_nearest 24 = .ok (.ldc 165, 2) := by decide +kernel
theorem d_Uc_nearest_26 : decode c_Uc_nearest 26 = .ok (.ireturn, 1) := by decide +kernel
theorem d_Uc_nearest_27 : decode c_Uc_nearest 27 = .ok (.aload_n 0, 1) := by decide +kernel
theorem d_Uc_nearest_28 : decode c_Uc_nearest 28 = .ok (.getfield 36, 3) := by decide +kernel
theorem d_Uc_nearest_31 : decode c_Uc_nearest 31 = .ok (.aload_n 0, 1) := by decide +kernel
theorem d_Uc_nearest_32 : decode c_Uc_nearest 32 = .ok (.getfield 10, 3) := by decide +kernel
theorem d_Uc_nearest_35 : decode c_Uc_nearest 35 = .ok (.invokevirtual 206, 3) := by decide +kernel
theorem d_Uc_nearest_38 : decode c_Uc_nearest 38 = .ok (.iload_n 1, 1) := by decide +kernel
theorem d_Uc_nearest_39 : decode c_Uc_nearest 39 = .ok (.lookupswitch 41 #[(0, 25), (1, 33)], 25) := by decide +kernel
theorem d_Uc_nearest_64 : decode c_Uc_nearest 64 = .ok (.aload_n 0, 1) := by decide +kernel
theorem d_Uc_nearest_65 : decode c_Uc_nearest 65 = .ok (.getfield 36, 3) := by decide +kernel
theorem d_Uc_nearest_68 : decode c_Uc_nearest 68 = .ok (.getfield 209, 3) := by decide +kernel
theorem d_Uc_nearest_71 : decode c_Uc_nearest 71 = .ok (.ireturn, 1) := by decide +kernel
theorem d_Uc_nearest_72 : decode c_Uc_nearest 72 = .ok (.aload_n 0, 1) := by decide +kernel
theorem d_Uc_nearest_73 : decode c_Uc_nearest 73 = .ok (.getfield 36, 3) := by decide +kernel
theorem d_Uc_nearest_76 : decode c_Uc_nearest 76 = .ok (.getfield 212, 3) := by decide +kernel
theorem d_Uc_nearest_79 : decode c_Uc_nearest 79 = .ok (.ireturn, 1) := by decide +kernel
theorem d_Uc_nearest_80 : decode c_Uc_nearest 80 = .ok (.aload_n 0, 1) := by decide +kernel
theorem d_Uc_nearest_81 : decode c_Uc_nearest 81 = .ok (.getfield 36, 3) := by decide +kernel
theorem d_Uc_nearest_84 : decode c_Uc_nearest 84 = .ok (.getfield 215, 3) := by decide +kernel
theorem d_Uc_nearest_87 : decode c_Uc_nearest 87 = .ok (.ireturn, 1) := by decide +kernel
theorem d_Uc_even_0 : decode c_Uc_even 0 = .ok (.iload_n 1, 1) := by decide +kernel
theorem d_Uc_even_1 : decode c_Uc_even 1 = .ok (.ifCond .lt 17, 3) := by decide +kernel
theorem d_Uc_even_4 : decode c_Uc_even 4 = .ok (.iload_n 1, 1) := by decide +kernel
theorem d_Uc_even_5 : decode c_Uc_even 5 = .ok (.iconst 5, 1) := by decide +kernel
theorem d_Uc_even_6 : decode c_Uc_even 6 = .ok (.if_icmp .gt 12, 3) := by decide +kernel
theorem d_Uc_even_9 : decode c_Uc_even 9 = .ok (.iload_n 2, 1) := by decide +kernel
theorem d_Uc_even_10 : decode c_Uc_even 10 = .ok (.ifCond .lt 8, 3) := by decide +kernel
theorem d_Uc_even_13 : decode c_Uc_even 13 = .ok (.iload_n 2, 1) := by decide +kernel
theorem d_Uc_even_14 : decode c_Uc_even 14 = .ok (.iconst 1, 1) := by decide +kernel
theorem d_Uc_even_15 : decode c_Uc_even 15 = .ok (.if_icmp .le 6, 3) := by decide +kernel
theorem d_Uc_even_18 : decode c_Uc_even 18 = .ok (.ldc 71, 2) := by decide +kernel
theorem d_Uc_even_20 : decode c_Uc_even 20 = .ok (.ireturn, 1) := by decide +kernel
theorem d_Uc_even_21 : decode c_Uc_even 21 = .ok (.aload_n 0, 1) := by decide +kernel
theorem d_Uc_even_22 : decode c_Uc_even 22 = .ok (.getfield 10, 3) := by decide +kernel
theorem d_Uc_even_25 : decode c_Uc_even 25 = .ok (.getfield 105, 3) := by decide +kernel
theorem d_Uc_even_28 : decode c_Uc_even 28 = .ok (.bipush 6, 2) := by decide +kernel
theorem d_Uc_even_30 : decode c_Uc_even 30 = .ok (.if_icmp .le 6, 3) := by decide +kernel
theorem d_Uc_even_33 : decode c_Uc_even 33 = .ok (.ldc 165, 2) := by decide +kernel
theorem d_Uc_even_35 : decode c_Uc_even 35 = .ok (.ireturn, 1) := by decide +kernel
theorem d_Uc_even_36 : decode c_Uc_even 36 = .ok (.aload_n 0, 1) := by decide +kernel
theorem d_Uc_even_37 : decode c_Uc_even 37 = .ok (.getfield 36, 3) := by decide +kernel
theorem d_Uc_even_40 : decode c_Uc_even 40 = .ok (.aload_n 0, 1) := by decide +kernel
theorem d_Uc_even_41 : decode c_Uc_even 41 = .ok (.getfield 10, 3) := by decide +kernel
theorem d_Uc_even_44 : decode c_Uc_even 44 = .ok (.iload_n 1, 1) := by decide +kernel
theorem d_Uc_even_45 : decode c_Uc_even 45 = .ok (.invokevirtual 218, 3) := by decide +kernel
theorem d_Uc_even_48 : decode c_Uc_even 48 = .ok (.iload_n 2, 1) := by decide +kernel
theorem d_Uc_even_49 : decode c_Uc_even 49 = .ok (.ifCond .ne 13, 3) := by decide +kernel
theorem d_Uc_even_52 : decode c_Uc_even 52 = .ok (.aload_n 0, 1) := by decide +kernel
theorem d_Uc_even_53 : decode c_Uc_even 53 = .ok (.getfield 36, 3) := by decide +kernel
theorem d_Uc_even_56 : decode c_Uc_even 56 = .ok (.getfield 212, 3) := by decide +kernel
theorem d_Uc_even_59 : decode c_Uc_even 59 = .ok (.goto 10, 3) := by decide +kernel
theorem d_Uc_even_62 : decode c_Uc_even 62 = .ok (.aload_n 0, 1) := by decide +kernel
theorem d_Uc_even_63 : decode c_Uc_even 63 = .ok (.getfield 36, 3) := by decide +kernel
theorem d_Uc_even_66 : decode c_Uc_even 66 = .ok (.getfield 215, 3) := by decide +kernel
theorem d_Uc_even_69 : decode c_Uc_even 69 = .ok (.ireturn, 1) := by decide +kernel
theorem d_Uc_tell_0 : decode c_Uc_tell 0 = .ok (.aload_n 0, 1) := by decide +kernel
theorem d_Uc_tell_1 : decode c_Uc_tell 1 = .ok (.getfield 10, 3) := by decide +kernel
theorem d_Uc_tell_4 : decode c_Uc_tell 4 = .ok (.iload_n 1, 1) := by decide +kernel
theorem d_Uc_tell_5 : decode c_Uc_tell 5 = .ok (.invokevirtual 141, 3) := by decide +kernel
theorem d_Uc_tell_8 : decode c_Uc_tell 8 = .ok (.ifCond .ne 6, 3) := by decide +kernel
theorem d_Uc_tell_11 : decode c_Uc_tell 11 = .ok (.ldc 149, 2) := by decide +kernel
theorem d_Uc_tell_13 : decode c_Uc_tell 13 = .ok (.ireturn, 1) := by decide +kernel
theorem d_Uc_tell_14 : decode c_Uc_tell 14 = .ok (.iload_n 2, 1) := by decide +kernel
theorem d_Uc_tell_15 : decode c_Uc_tell 15 = .ok (.ifCond .lt 9, 3) := by decide +kernel
theorem d_Uc_tell_18 : decode c_Uc_tell 18 = .ok (.iload_n 2, 1) := by decide +kernel
theorem d_Uc_tell_19 : decode c_Uc_tell 19 = .ok (.bipush 7, 2) := by decide +kernel
theorem d_Uc_tell_21 : decode c_Uc_tell 21 = .ok (.if_icmp .le 6, 3) := by decide +kernel
theorem d_Uc_tell_24 : decode c_Uc_tell 24 = .ok (.ldc 71, 2) := by decide +kernel
theorem d_Uc_tell_26 : decode c_Uc_tell 26 = .ok (.ireturn, 1) := by decide +kernel
theorem d_Uc_tell_27 : decode c_Uc_tell 27 = .ok (.aload_n 0, 1) := by decide +kernel
theorem d_Uc_tell_28 : decode c_Uc_tell 28 = .ok (.getfield 10, 3) := by decide +kernel
theorem d_Uc_tell_31 : decode c_Uc_tell 31 = .ok (.getfield 222, 3) := by decide +kernel
theorem d_Uc_tell_34 : decode c_Uc_tell 34 = .ok (.iload_n 1, 1) := by decide +kernel
theorem d_Uc_tell_35 : decode c_Uc_tell 35 = .ok (.iaload, 1) := by decide +kernel
theorem d_Uc_tell_36 : decode c_Uc_tell 36 = .ok (.istore_n 3, 1) := by decide +kernel
theorem d_Uc_tell_37 : decode c_Uc_tell 37 = .ok (.aload_n 0, 1) := by decide +kernel
theorem d_Uc_tell_38 : decode c_Uc_tell 38 = .ok (.getfield 10, 3) := by decide +kernel
theorem d_Uc_tell_41 : decode c_Uc_tell 41 = .ok (.getfield 222, 3) := by decide +kernel
theorem d_Uc_tell_44 : decode c_Uc_tell 44 = .ok (.iload_n 1, 1) := by decide +kernel
theorem d_Uc_tell_45 : decode c_Uc_tell 45 = .ok (.iload_n 2, 1) := by decide +kernel
theorem d_Uc_tell_46 : decode c_Uc_tell 46 = .ok (.iastore, 1) := by decide +kernel
theorem d_Uc_tell_47 : decode c_Uc_tell 47 = .ok (.iload_n 3, 1) := by decide +kernel
theorem d_Uc_tell_48 : decode c_Uc_tell 48 = .ok (.ireturn, 1) := by decide +kernel
theorem d_Uc_canBe_0 : decode c_Uc_canBe 0 = .ok (.aload_n 0, 1) := by decide +kernel
theorem d_Uc_canBe_1 : decode c_Uc_canBe 1 = .ok (.getfield 10, 3) := by decide +kernel
theorem d_Uc_canBe_4 : decode c_Uc_canBe 4 = .ok (.getfield 105, 3) := by decide +kernel
theorem d_Uc_canBe_7 : decode c_Uc_canBe 7 = .ok (.bipush 6, 2) := by decide +kernel
theorem d_Uc_canBe_9 : decode c_Uc_canBe 9 = .ok (.if_icmp .le 6, 3) := by decide +kernel
theorem d_Uc_canBe_12 : decode c_Uc_canBe 12 = .ok (.ldc 165, 2) := by decide +kernel
theorem d_Uc_canBe_14 : decode c_Uc_canBe 14 = .ok (.ireturn, 1) := by decide +kernel
theorem d_Uc_canBe_15 : decode c_Uc_canBe 15 = .ok (.aload_n 0, 1) := by decide +kernel
theorem d_Uc_canBe_16 : decode c_Uc_canBe 16 = .ok (.getfield 36, 3) := by decide +kernel
theorem d_Uc_canBe_19 : decode c_Uc_canBe 19 = .ok (.aload_n 0, 1) := by decide +kernel
theorem d_Uc_canBe_20 : decode c_Uc_canBe 20 = .ok (.getfield 10, 3) := by decide +kernel
theorem d_Uc_canBe_23 : decode c_Uc_canBe 23 = .ok (.iconst 0, 1) := by decide +kernel
theorem d_Uc_canBe_24 : decode c_Uc_canBe 24 = .ok (.invokevirtual 225, 3) := by decide +kernel
theorem d_Uc_canBe_27 : decode c_Uc_canBe 27 = .ok (.aload_n 0, 1) := by decide +kernel
theorem d_Uc_canBe_28 : decode c_Uc_canBe 28 = .ok (.getfield 36, 3) := by decide +kernel
theorem d_Uc_canBe_31 : decode c_Uc_canBe 31 = .ok (.getfield 228, 3) := by decide +kernel
theorem d_Uc_canBe_34 : decode c_Uc_canBe 34 = .ok (.ireturn, 1) := by decide +kernel
theorem d_Uc_sure_0 : decode c_Uc_sure 0 = .ok (.aload_n 0, 1) := by decide +kernel
theorem d_Uc_sure_1 : decode c_Uc_sure 1 = .ok (.getfield 10, 3) := by decide +kernel
theorem d_Uc_sure_4 : decode c_Uc_sure 4 = .ok (.iload_n 1, 1) := by decide +kernel
theorem d_Uc_sure_5 : decode c_Uc_sure 5 = .ok (.invokevirtual 141, 3) := by decide +kernel
theorem d_Uc_sure_8 : decode c_Uc_sure 8 = .ok (.ifCond .ne 6, 3) := by decide +kernel
theorem d_Uc_sure_11 : decode c_Uc_sure 11 = .ok (.ldc 149, 2) := by decide +kernel
theorem d_Uc_sure_13 : decode c_Uc_sure 13 = .ok (.ireturn, 1) := by decide +kernel
theorem d_Uc_sure_14 : decode c_Uc_sure 14 = .ok (.iload_n 2, 1) := by decide +kernel
theorem d_Uc_sure_15 : decode c_Uc_sure 15 = .ok (.ifCond .lt 8, 3) := by decide +kernel
theorem d_Uc_sure_18 : decode c_Uc_sure 18 = .ok (.iload_n 2, 1) := by decide +kernel
theorem d_Uc_sure_19 : decode c_Uc_sure 19 = .ok (.iconst 1, 1) := by decide +kernel
theorem d_Uc_sure_20 : decode c_Uc_sure 20 = .ok (.if_icmp .le 6, 3) := by decide +kernel
theorem d_Uc_sure_23 : decode c_Uc_sure 23 = .ok (.ldc 71, 2) := by decide +kernel
theorem d_Uc_sure_25 : decode c_Uc_sure 25 = .ok (.ireturn, 1) := by decide +kernel
theorem d_Uc_sure_26 : decode c_Uc_sure 26 = .ok (.aload_n 0, 1) := by decide +kernel
theorem d_Uc_sure_27 : decode c_Uc_sure 27 = .ok (.getfield 10, 3) := by decide +kernel
theorem d_Uc_sure_30 : decode c_Uc_sure 30 = .ok (.getfield 105, 3) := by decide +kernel
theorem d_Uc_sure_33 : decode c_Uc_sure 33 = .ok (.bipush 6, 2) := by decide +kernel
theorem d_Uc_sure_35 : decode c_Uc_sure 35 = .ok (.if_icmp .le 6, 3) := by decide +kernel
theorem d_Uc_sure_38 : decode c_Uc_sure 38 = .ok (.ldc 165, 2) := by decide +kernel
theorem d_Uc_sure_40 : decode c_Uc_sure 40 = .ok (.ireturn, 1) := by decide +kernel
theorem d_Uc_sure_41 : decode c_Uc_sure 41 = .ok (.aload_n 0, 1) := by decide +kernel
theorem d_Uc_sure_42 : decode c_Uc_sure 42 = .ok (.getfield 36, 3) := by decide +kernel
theorem d_Uc_sure_45 : decode c_Uc_sure 45 = .ok (.aload_n 0, 1) := by decide +kernel
theorem d_Uc_sure_46 : decode c_Uc_sure 46 = .ok (.getfield 10, 3) := by decide +kernel
theorem d_Uc_sure_49 : decode c_Uc_sure 49 = .ok (.iconst 0, 1) := by decide +kernel
theorem d_Uc_sure_50 : decode c_Uc_sure 50 = .ok (.invokevirtual 225, 3) := by decide +kernel
theorem d_Uc_sure_53 : decode c_Uc_sure 53 = .ok (.aload_n 0, 1) := by decide +kernel
theorem d_Uc_sure_54 : decode c_Uc_sure 54 = .ok (.getfield 36, 3) := by decide +kernel
theorem d_Uc_sure_57 : decode c_Uc_sure 57 = .ok (.getfield 228, 3) := by decide +kernel
theorem d_Uc_sure_60 : decode c_Uc_sure 60 = .ok (.ifCond .ne 5, 3) := by decide +kernel
theorem d_Uc_sure_63 : decode c_Uc_sure 63 = .ok (.iconst 0, 1) := by decide +kernel
theorem d_Uc_sure_64 : decode c_Uc_sure 64 = .ok (.ireturn, 1) := by decide +kernel
theorem d_Uc_sure_65 : decode c_Uc_sure 65 = .ok (.aload_n 0, 1) := by decide +kernel
theorem d_Uc_sure_66 : decode c_Uc_sure 66 = .ok (.getfield 10, 3) := by decide +kernel
theorem d_Uc_sure_69 : decode c_Uc_sure 69 = .ok (.iload_n 2, 1) := by decide +kernel
theorem d_Uc_sure_70 : decode c_Uc_sure 70 = .ok (.ifCond .ne 13, 3) := by decide +kernel
theorem d_Uc_sure_73 : decode c_Uc_sure 73 = .ok (.aload_n 0, 1) := by decide +kernel
theorem d_Uc_sure_74 : decode c_Uc_sure 74 = .ok (.getfield 36, 3) := by decide +kernel
theorem d_Uc_sure_77 : decode c_Uc_sure 77 = .ok (.getfield 231, 3) := by decide +kernel
theorem d_Uc_sure_80 : decode c_Uc_sure 80 = .ok (.goto 10, 3) := by decide +kernel
theorem d_Uc_sure_83 : decode c_Uc_sure 83 = .ok (.aload_n 0, 1) := by decide +kernel
theorem d_Uc_sure_84 : decode c_Uc_sure 84 = .ok (.getfield 36, 3) := by decide +kernel
theorem d_Uc_sure_87 : decode c_Uc_sure 87 = .ok (.getfield 234, 3) := by decide +kernel
theorem d_Uc_sure_90 : decode c_Uc_sure 90 = .ok (.iload_n 1, 1) := by decide +kernel
theorem d_Uc_sure_91 : decode c_Uc_sure 91 = .ok (.invokevirtual 237, 3) := by decide +kernel
theorem d_Uc_sure_94 : decode c_Uc_sure 94 = .ok (.ireturn, 1) := by decide +kernel
theorem d_Uc_liar_0 : decode c_Uc_liar 0 = .ok (.aload_n 0, 1) := by decide +kernel
theorem d_Uc_liar_1 : decode c_Uc_liar 1 = .ok (.getfield 10, 3) := by decide +kernel
theorem d_Uc_liar_4 : decode c_Uc_liar 4 = .ok (.getfield 105, 3) := by decide +kernel
theorem d_Uc_liar_7 : decode c_Uc_liar 7 = .ok (.bipush 6, 2) := by decide +kernel
theorem d_Uc_liar_9 : decode c_Uc_liar 9 = .ok (.if_icmp .le 6, 3) := by decide +kernel
theorem d_Uc_liar_12 : decode c_Uc_liar 12 = .ok (.ldc 165, 2) := by decide +kernel
theorem d_Uc_liar_14 : decode c_Uc_liar 14 = .ok (.ireturn, 1) := by decide +kernel
theorem d_Uc_liar_15 : decode c_Uc_liar 15 = .ok (.aload_n 0, 1) := by decide +kernel
theorem d_Uc_liar_16 : decode c_Uc_liar 16 = .ok (.getfield 36, 3) := by decide +kernel
theorem d_Uc_liar_19 : decode c_Uc_liar 19 = .ok (.aload_n 0, 1) := by decide +kernel
theorem d_Uc_liar_20 : decode c_Uc_liar 20 = .ok (.getfield 10, 3) := by decide +kernel
theorem d_Uc_liar_23 : decode c_Uc_liar 23 = .ok (.iconst 1, 1) := by decide +kernel
theorem d_Uc_liar_24 : decode c_Uc_liar 24 = .ok (.invokevirtual 225, 3) := by decide +kernel
theorem d_Uc_liar_27 : decode c_Uc_liar 27 = .ok (.aload_n 0, 1) := by decide +kernel
theorem d_Uc_liar_28 : decode c_Uc_liar 28 = .ok (.getfield 36, 3) := by decide +kernel
theorem d_Uc_liar_31 : decode c_Uc_liar 31 = .ok (.getfield 228, 3) := by decide +kernel
theorem d_Uc_liar_34 : decode c_Uc_liar 34 = .ok (.ifCond .le 7, 3) := by decide +kernel
theorem d_Uc_liar_37 : decode c_Uc_liar 37 = .ok (.iconst 0, 1) := by decide +kernel
theorem d_Uc_liar_38 : decode c_Uc_liar 38 = .ok (.goto 10, 3) := by decide +kernel
theorem d_Uc_liar_41 : decode c_Uc_liar 41 = .ok (.aload_n 0, 1) := by decide +kernel
theorem d_Uc_liar_42 : decode c_Uc_liar 42 = .ok (.getfield 36, 3) := by decide +kernel
theorem d_Uc_liar_45 : decode c_Uc_liar 45 = .ok (.getfield 240, 3) := by decide +kernel
theorem d_Uc_liar_48 : decode c_Uc_liar 48 = .ok (.ireturn, 1) := by decide +kernel
theorem d_Uc_weight_0 : decode c_Uc_weight 0 = .ok (.iload_n 1, 1) := by decide +kernel
theorem d_Uc_weight_1 : decode c_Uc_weight 1 = .ok (.iconst (-1), 1) := by decide +kernel
theorem d_Uc_weight_2 : decode c_Uc_weight 2 = .ok (.if_icmp .eq 18, 3) := by decide +kernel
theorem d_Uc_weight_5 : decode c_Uc_weight 5 = .ok (.aload_n 0, 1) := by decide +kernel
theorem d_Uc_weight_6 : decode c_Uc_weight 6 = .ok (.getfield 10, 3) := by decide +kernel
theorem d_Uc_weight_9 : decode c_Uc_weight 9 = .ok (.iload_n 1, 1) := by decide +kernel
theorem d_Uc_weight_10 : decode c_Uc_weight 10 = .ok (.iload_n 2, 1) := by decide +kernel
theorem d_Uc_weight_11 : decode c_Uc_weight 11 = .ok (.invokevirtual 153, 3) := by decide +kernel
theorem d_Uc_weight_14 : decode c_Uc_weight 14 = .ok (.ifCond .ne 6, 3) := by decide +kernel
theorem d_Uc_weight_17 : decode c_Uc_weight 17 = .ok (.ldc 149, 2) := by decide +kernel
theorem d_Uc_weight_19 : decode c_Uc_weight 19 = .ok (.ireturn, 1) := by decide +kernel
theorem d_Uc_weight_20 : decode c_Uc_weight 20 = .ok (.aload_n 0, 1) := by decide +kernel
theorem d_Uc_weight_21 : decode c_Uc_weight 21 = .ok (.getfield 10, 3) := by decide +kernel
theorem d_Uc_weight_24 : decode c_Uc_weight 24 = .ok (.invokevirtual 112, 3) := by decide +kernel
theorem d_Uc_weight_27 : decode c_Uc_weight 27 = .ok (.bipush 8, 2) := by decide +kernel
theorem d_Uc_weight_29 : decode c_Uc_weight 29 = .ok (.if_icmp .le 6, 3) := by decide +kernel
theorem d_Uc_weight_32 : decode c_Uc_weight 32 = .ok (.ldc 165, 2) := by decide +kernel
theorem d_Uc_weight_34 : decode c_Uc_weight 34 = .ok (.ireturn, 1) := by decide +kernel
theorem d_Uc_weight_35 : decode c_Uc_weight 35 = .ok (.aload_n 0, 1) := by decide +kernel
theorem d_Uc_weight_36 : decode c_Uc_weight 36 = .ok (.getfield 43, 3) := by decide +kernel
theorem d_Uc_weight_39 : decode c_Uc_weight 39 = .ok (.aload_n 0, 1) := by decide +kernel
theorem d_Uc_weight_40 : decode c_Uc_weight 40 = .ok (.getfield 10, 3) := by decide +kernel
theorem d_Uc_weight_43 : decode c_Uc_weight 43 = .ok (.invokevirtual 243, 3) := by decide +kernel
theorem d_Uc_weight_46 : decode c_Uc_weight 46 = .ok (.iload_n 1, 1) := by decide +kernel
theorem d_Uc_weight_47 : decode c_Uc_weight 47 = .ok (.iconst (-1), 1) := by decide +kernel
theorem d_Uc_weight_48 : decode c_Uc_weight 48 = .ok (.if_icmp .eq 14, 3) := by decide +kernel
theorem d_Uc_weight_51 : decode c_Uc_weight 51 = .ok (.aload_n 0, 1) := by decide +kernel
theorem d_Uc_weight_52 : decode c_Uc_weight 52 = .ok (.getfield 43, 3) := by decide +kernel
theorem d_Uc_weight_55 : decode c_Uc_weight 55 = .ok (.getfield 244, 3) := by decide +kernel
theorem d_Uc_weight_58 : decode c_Uc_weight 58 = .ok (.iconst (-1), 1) := by decide +kernel
theorem d_Uc_weight_59 : decode c_Uc_weight 59 = .ok (.if_icmp .ne 11, 3) := by decide +kernel
theorem d_Uc_weight_62 : decode c_Uc_weight 62 = .ok (.aload_n 0, 1) := by decide +kernel
theorem d_Uc_weight_63 : decode c_Uc_weight 63 = .ok (.getfield 43, 3) := by decide +kernel
theorem d_Uc_weight_66 : decode c_Uc_weight 66 = .ok (.getfield 244, 3) := by decide +kernel
theorem d_Uc_weight_69 : decode c_Uc_weight 69 = .ok (.ireturn, 1) := by decide +kernel
theorem d_Uc_weight_70 : decode c_Uc_weight 70 = .ok (.aload_n 0, 1) := by decide +kernel
theorem d_Uc_weight_71 : decode c_Uc_weight 71 = .ok (.getfield 43, 3) := by decide +kernel
theorem d_Uc_weight_74 : decode c_Uc_weight 74 = .ok (.iload_n 1, 1) := by decide +kernel
theorem d_Uc_weight_75 : decode c_Uc_weight 75 = .ok (.iload_n 2, 1) := by decide +kernel
theorem d_Uc_weight_76 : decode c_Uc_weight 76 = .ok (.invokevirtual 247, 3) := by decide +kernel
theorem d_Uc_weight_79 : decode c_Uc_weight 79 = .ok (.ireturn, 1) := by decide +kernel
theorem d_Uc_sides_0 : decode c_Uc_sides 0 = .ok (.iload_n 1, 1) := by decide +kernel
theorem d_Uc_sides_1 : decode c_Uc_sides 1 = .ok (.iconst 1, 1) := by decide +kernel
theorem d_Uc_sides_2 : decode c_Uc_sides 2 = .ok (.if_icmp .lt 18, 3) := by decide +kernel
theorem d_Uc_sides_5 : decode c_Uc_sides 5 = .ok (.iload_n 1, 1) := by decide +kernel
theorem d_Uc_sides_6 : decode c_Uc_sides 6 = .ok (.iconst 4, 1) := by decide +kernel
theorem d_Uc_sides_7 : decode c_Uc_sides 7 = .ok (.if_icmp .gt 13, 3) := by decide +kernel
theorem d_Uc_sides_10 : decode c_Uc_sides 10 = .ok (.iload_n 2, 1) := by decide +kernel
theorem d_Uc_sides_11 : decode c_Uc_sides 11 = .ok (.iconst 1, 1) := by decide +kernel
theorem d_Uc_sides_12 : decode c_Uc_sides 12 = .ok (.if_icmp .lt 8, 3) := by decide +kernel
theorem d_Uc_sides_15 : decode c_Uc_sides 15 = .ok (.iload_n 2, 1) := by decide +kernel
theorem d_Uc_sides_16 : decode c_Uc_sides 16 = .ok (.iconst 4, 1) := by decide +kernel
theorem d_Uc_sides_17 : decode c_Uc_sides 17 = .ok (.if_icmp .le 6, 3) := by decide +kernel
theorem d_Uc_sides_20 : decode c_Uc_sides 20 = .ok (.ldc 71, 2) := by decide +kernel
theorem d_Uc_sides_22 : decode c_Uc_sides 22 = .ok (.ireturn, 1) := by decide +kernel
theorem d_Uc_sides_23 : decode c_Uc_sides 23 = .ok (.aload_n 0, 1) := by decide +kernel
theorem d_Uc_sides_24 : decode c_Uc_sides 24 = .ok (.getfield 50, 3) := by decide +kernel
theorem d_Uc_sides_27 : decode c_Uc_sides 27 = .ok (.iload_n 1, 1) := by decide +kernel
theorem d_Uc_sides_28 : decode c_Uc_sides 28 = .ok (.iload_n 2, 1) := by decide +kernel
theorem d_Uc_sides_29 : decode c_Uc_sides 29 = .ok (.invokevirtual 250, 3) := by decide +kernel
theorem d_Uc_sides_32 : decode c_Uc_sides 32 = .ok (.ireturn, 1) := by decide +kernel
theorem d_Uc_sorts_0 : decode c_Uc_sorts 0 = .ok (.iload_n 1, 1) := by decide +kernel
theorem d_Uc_sorts_1 : decode c_Uc_sorts 1 = .ok (.iconst 1, 1) := by decide +kernel
theorem d_Uc_sorts_2 : decode c_Uc_sorts 2 = .ok (.if_icmp .lt 8, 3) := by decide +kernel
theorem d_Uc_sorts_5 : decode c_Uc_sorts 5 = .ok (.iload_n 1, 1) := by decide +kernel
theorem d_Uc_sorts_6 : decode c_Uc_sorts 6 = .ok (.iconst 5, 1) := by decide +kernel
theorem d_Uc_sorts_7 : decode c_Uc_sorts 7 = .ok (.if_icmp .le 6, 3) := by decide +kernel
theorem d_Uc_sorts_10 : decode c_Uc_sorts 10 = .ok (.ldc 71, 2) := by decide +kernel
theorem d_Uc_sorts_12 : decode c_Uc_sorts 12 = .ok (.ireturn, 1) := by decide +kernel
theorem d_Uc_sorts_13 : decode c_Uc_sorts 13 = .ok (.aload_n 0, 1) := by decide +kernel
theorem d_Uc_sorts_14 : decode c_Uc_sorts 14 = .ok (.getfield 50, 3) := by decide +kernel
theorem d_Uc_sorts_17 : decode c_Uc_sorts 17 = .ok (.iload_n 1, 1) := by decide +kernel
theorem d_Uc_sorts_18 : decode c_Uc_sorts 18 = .ok (.invokevirtual 253, 3) := by decide +kernel
theorem d_Uc_sorts_21 : decode c_Uc_sorts 21 = .ok (.ireturn, 1) := by decide +kernel
theorem d_Uc_write_0 : decode c_Uc_write 0 = .ok (.aload_n 0, 1) := by decide +kernel
theorem d_Uc_write_1 : decode c_Uc_write 1 = .ok (.getfield 10, 3) := by decide +kernel
theorem d_Uc_write_4 : decode c_Uc_write 4 = .ok (.iload_n 1, 1) := by decide +kernel
theorem d_Uc_write_5 : decode c_Uc_write 5 = .ok (.iload_n 2, 1) := by decide +kernel
theorem d_Uc_write_6 : decode c_Uc_write 6 = .ok (.invokevirtual 153, 3) := by decide +kernel
theorem d_Uc_write_9 : decode c_Uc_write 9 = .ok (.ifCond .ne 6, 3) := by decide +kernel
theorem d_Uc_write_12 : decode c_Uc_write 12 = .ok (.ldc 149, 2) := by decide +kernel
theorem d_Uc_write_14 : decode c_Uc_write 14 = .ok (.ireturn, 1) := by decide +kernel
theorem d_Uc_write_15 : decode c_Uc_write 15 = .ok (.aload_n 0, 1) := by decide +kernel
theorem d_Uc_write_16 : decode c_Uc_write 16 = .ok (.getfield 57, 3) := by decide +kernel
theorem d_Uc_write_19 : decode c_Uc_write 19 = .ok (.getfield 138, 3) := by decide +kernel
theorem d_Uc_write_22 : decode c_Uc_write 22 = .ok (.bipush 30, 2) := by decide +kernel
theorem d_Uc_write_24 : decode c_Uc_write 24 = .ok (.if_icmp .lt 6, 3) := by decide +kernel
theorem d_Uc_write_27 : decode c_Uc_write 27 = .ok (.ldc 76, 2) := by decide +kernel
theorem d_Uc_write_29 : decode c_Uc_write 29 = .ok (.ireturn, 1) := by decide +kernel
theorem d_Uc_write_30 : decode c_Uc_write 30 = .ok (.aload_n 0, 1) := by decide +kernel
theorem d_Uc_write_31 : decode c_Uc_write 31 = .ok (.getfield 57, 3) := by decide +kernel
theorem d_Uc_write_34 : decode c_Uc_write 34 = .ok (.iload_n 1, 1) := by decide +kernel
theorem d_Uc_write_35 : decode c_Uc_write 35 = .ok (.iload_n 2, 1) := by decide +kernel
theorem d_Uc_write_36 : decode c_Uc_write 36 = .ok (.iload_n 3, 1) := by decide +kernel
theorem d_Uc_write_37 : decode c_Uc_write 37 = .ok (.invokevirtual 256, 3) := by decide +kernel
theorem d_Uc_write_40 : decode c_Uc_write 40 = .ok (.aload_n 0, 1) := by decide +kernel
theorem d_Uc_write_41 : decode c_Uc_write 41 = .ok (.getfield 57, 3) := by decide +kernel
theorem d_Uc_write_44 : decode c_Uc_write 44 = .ok (.getfield 138, 3) := by decide +kernel
theorem d_Uc_write_47 : decode c_Uc_write 47 = .ok (.ireturn, 1) := by decide +kernel
theorem d_Uc_tear_0 : decode c_Uc_tear 0 = .ok (.aload_n 0, 1) := by decide +kernel
theorem d_Uc_tear_1 : decode c_Uc_tear 1 = .ok (.getfield 57, 3) := by decide +kernel
theorem d_Uc_tear_4 : decode c_Uc_tear 4 = .ok (.getfield 138, 3) := by decide +kernel
theorem d_Uc_tear_7 : decode c_Uc_tear 7 = .ok (.istore_n 1, 1) := by decide +kernel
theorem d_Uc_tear_8 : decode c_Uc_tear 8 = .ok (.aload_n 0, 1) := by decide +kernel
theorem d_Uc_tear_9 : decode c_Uc_tear 9 = .ok (.getfield 57, 3) := by decide +kernel
theorem d_Uc_tear_12 : decode c_Uc_tear 12 = .ok (.invokevirtual 98, 3) := by decide +kernel
theorem d_Uc_tear_15 : decode c_Uc_tear 15 = .ok (.iload_n 1, 1) := by decide +kernel
theorem d_Uc_tear_16 : decode c_Uc_tear 16 = .ok (.ireturn, 1) := by decide +kernel
theorem d_Uc_judge_0 : decode c_Uc_judge 0 = .ok (.iload_n 1, 1) := by decide +kernel
theorem d_Uc_judge_1 : decode c_Uc_judge 1 = .ok (.ifCond .lt 8, 3) := by decide +kernel
theorem d_Uc_judge_4 : decode c_Uc_judge 4 = .ok (.iload_n 1, 1) := by decide +kernel
theorem d_Uc_judge_5 : decode c_Uc_judge 5 = .ok (.iconst 1, 1) := by decide +kernel
theorem d_Uc_judge_6 : decode c_Uc_judge 6 = .ok (.if_icmp .le 6, 3) := by decide +kernel
theorem d_Uc_judge_9 : decode c_Uc_judge 9 = .ok (.ldc 71, 2) := by decide +kernel
theorem d_Uc_judge_11 : decode c_Uc_judge 11 = .ok (.ireturn, 1) := by decide +kernel
theorem d_Uc_judge_12 : decode c_Uc_judge 12 = .ok (.aload_n 0, 1) := by decide +kernel
theorem d_Uc_judge_13 : decode c_Uc_judge 13 = .ok (.getfield 16, 3) := by decide +kernel
theorem d_Uc_judge_16 : decode c_Uc_judge 16 = .ok (.aload_n 0, 1) := by decide +kernel
theorem d_Uc_judge_17 : decode c_Uc_judge 17 = .ok (.getfield 10, 3) := by decide +kernel
theorem d_Uc_judge_20 : decode c_Uc_judge 20 = .ok (.invokevirtual 91, 3) := by decide +kernel
theorem d_Uc_judge_23 : decode c_Uc_judge 23 = .ok (.aload_n 0, 1) := by decide +kernel
theorem d_Uc_judge_24 : decode c_Uc_judge 24 = .ok (.getfield 57, 3) := by decide +kernel
theorem d_Uc_judge_27 : decode c_Uc_judge 27 = .ok (.aload_n 0, 1) := by decide +kernel
theorem d_Uc_judge_28 : decode c_Uc_judge 28 = .ok (.getfield 16, 3) := by decide +kernel
theorem d_Uc_judge_31 : decode c_Uc_judge 31 = .ok (.invokevirtual 260, 3) := by decide +kernel
theorem d_Uc_judge_34 : decode c_Uc_judge 34 = .ok (.istore_n 2, 1) := by decide +kernel
theorem d_Uc_judge_35 : decode c_Uc_judge 35 = .ok (.iload_n 1, 1) := by decide +kernel
theorem d_Uc_judge_36 : decode c_Uc_judge 36 = .ok (.ifCond .ne 7, 3) := by decide +kernel
theorem d_Uc_judge_39 : decode c_Uc_judge 39 = .ok (.iload_n 2, 1) := by decide +kernel
theorem d_Uc_judge_40 : decode c_Uc_judge 40 = .ok (.goto 10, 3) := by decide +kernel
theorem d_Uc_judge_43 : decode c_Uc_judge 43 = .ok (.aload_n 0, 1) := by decide +kernel
theorem d_Uc_judge_44 : decode c_Uc_judge 44 = .ok (.getfield 16, 3) := by decide +kernel
theorem d_Uc_judge_47 : decode c_Uc_judge 47 = .ok (.invokevirtual 135, 3) := by decide +kernel
theorem d_Uc_judge_50 : decode c_Uc_judge 50 = .ok (.ireturn, 1) := by decide +kernel
theorem d_Uc_drift_0 : decode c_Uc_drift 0 = .ok (.iload_n 1, 1) := by decide +kernel
theorem d_Uc_drift_1 : decode c_Uc_drift 1 = .ok (.iconst 1, 1) := by decide +kernel
theorem d_Uc_drift_2 : decode c_Uc_drift 2 = .ok (.if_icmp .lt 9, 3) := by decide +kernel
theorem d_Uc_drift_5 : decode c_Uc_drift 5 = .ok (.iload_n 1, 1) := by decide +kernel
theorem d_Uc_drift_6 : decode c_Uc_drift 6 = .ok (.bipush 99, 2) := by decide +kernel
theorem d_Uc_drift_8 : decode c_Uc_drift 8 = .ok (.if_icmp .le 6, 3) := by decide +kernel
theorem d_Uc_drift_11 : decode c_Uc_drift 11 = .ok (.ldc 71, 2) := by decide +kernel
theorem d_Uc_drift_13 : decode c_Uc_drift 13 = .ok (.ireturn, 1) := by decide +kernel
theorem d_Uc_drift_14 : decode c_Uc_drift 14 = .ok (.aload_n 0, 1) := by decide +kernel
theorem d_Uc_drift_15 : decode c_Uc_drift 15 = .ok (.getfield 10, 3) := by decide +kernel
theorem d_Uc_drift_18 : decode c_Uc_drift 18 = .ok (.getfield 105, 3) := by decide +kernel
theorem d_Uc_drift_21 : decode c_Uc_drift 21 = .ok (.iconst 1, 1) := by decide +kernel
theorem d_Uc_drift_22 : decode c_Uc_drift 22 = .ok (.if_icmp .ge 6, 3) := by decide +kernel
theorem d_Uc_drift_25 : decode c_Uc_drift 25 = .ok (.ldc 165, 2) := by decide +kernel
theorem d_Uc_drift_27 : decode c_Uc_drift 27 = .ok (.ireturn, 1) := by decide +kernel
theorem d_Uc_drift_28 : decode c_Uc_drift 28 = .ok (.iconst 0, 1) := by decide +kernel
theorem d_Uc_drift_29 : decode c_Uc_drift 29 = .ok (.istore_n 2, 1) := by decide +kernel
theorem d_Uc_drift_30 : decode c_Uc_drift 30 = .ok (.iload_n 2, 1) := by decide +kernel
theorem d_Uc_drift_31 : decode c_Uc_drift 31 = .ok (.iload_n 1, 1) := by decide +kernel
theorem d_Uc_drift_32 : decode c_Uc_drift 32 = .ok (.if_icmp .ge 13, 3) := by decide +kernel
theorem d_Uc_drift_35 : decode c_Uc_drift 35 = .ok (.aload_n 0, 1) := by decide +kernel
theorem d_Uc_drift_36 : decode c_Uc_drift 36 = .ok (.invokevirtual 264, 3) := by decide +kernel
theorem d_Uc_drift_39 : decode c_Uc_drift 39 = .ok (.iinc 2 1, 3) := by decide +kernel
theorem d_Uc_drift_42 : decode c_Uc_drift 42 = .ok (.goto (-12), 3) := by decide +kernel
theorem d_Uc_drift_45 : decode c_Uc_drift 45 = .ok (.aload_n 0, 1) := by decide +kernel
theorem d_Uc_drift_46 : decode c_Uc_drift 46 = .ok (.getfield 10, 3) := by decide +kernel
theorem d_Uc_drift_49 : decode c_Uc_drift 49 = .ok (.aload_n 0, 1) := by decide +kernel
theorem d_Uc_drift_50 : decode c_Uc_drift 50 = .ok (.getfield 10, 3) := by decide +kernel
theorem d_Uc_drift_53 : decode c_Uc_drift 53 = .ok (.getfield 115, 3) := by decide +kernel
theorem d_Uc_drift_56 : decode c_Uc_drift 56 = .ok (.invokevirtual 119, 3) := by decide +kernel
theorem d_Uc_drift_59 : decode c_Uc_drift 59 = .ok (.ireturn, 1) := by decide +kernel
theorem d_Uc_seed_0 : decode c_Uc_seed 0 = .ok (.iload_n 1, 1) := by decide +kernel
theorem d_Uc_seed_1 : decode c_Uc_seed 1 = .ok (.ifCond .ge 6, 3) := by decide +kernel
theorem d_Uc_seed_4 : decode c_Uc_seed 4 = .ok (.ldc 71, 2) := by decide +kernel
theorem d_Uc_seed_6 : decode c_Uc_seed 6 = .ok (.ireturn, 1) := by decide +kernel
theorem d_Uc_seed_7 : decode c_Uc_seed 7 = .ok (.aload_n 0, 1) := by decide +kernel
theorem d_Uc_seed_8 : decode c_Uc_seed 8 = .ok (.getfield 267, 3) := by decide +kernel
theorem d_Uc_seed_11 : decode c_Uc_seed 11 = .ok (.istore_n 2, 1) := by decide +kernel
theorem d_Uc_seed_12 : decode c_Uc_seed 12 = .ok (.aload_n 0, 1) := by decide +kernel
theorem d_Uc_seed_13 : decode c_Uc_seed 13 = .ok (.iload_n 1, 1) := by decide +kernel
theorem d_Uc_seed_14 : decode c_Uc_seed 14 = .ok (.putfield 267, 3) := by decide +kernel
theorem d_Uc_seed_17 : decode c_Uc_seed 17 = .ok (.iload_n 2, 1) := by decide +kernel
theorem d_Uc_seed_18 : decode c_Uc_seed 18 = .ok (.ireturn, 1) := by decide +kernel
theorem d_Uc_keep_0 : decode c_Uc_keep 0 = .ok (.iload_n 1, 1) := by decide +kernel
theorem d_Uc_keep_1 : decode c_Uc_keep 1 = .ok (.ifCond .lt 8, 3) := by decide +kernel
theorem d_Uc_keep_4 : decode c_Uc_keep 4 = .ok (.iload_n 1, 1) := by decide +kernel
theorem d_Uc_keep_5 : decode c_Uc_keep 5 = .ok (.iconst 1, 1) := by decide +kernel
theorem d_Uc_keep_6 : decode c_Uc_keep 6 = .ok (.if_icmp .le 6, 3) := by decide +kernel
theorem d_Uc_keep_9 : decode c_Uc_keep 9 = .ok (.ldc 149, 2) := by decide +kernel
theorem d_Uc_keep_11 : decode c_Uc_keep 11 = .ok (.ireturn, 1) := by decide +kernel
theorem d_Uc_keep_12 : decode c_Uc_keep 12 = .ok (.iload_n 1, 1) := by decide +kernel
theorem d_Uc_keep_13 : decode c_Uc_keep 13 = .ok (.ifCond .ne 10, 3) := by decide +kernel
theorem d_Uc_keep_16 : decode c_Uc_keep 16 = .ok (.aload_n 0, 1) := by decide +kernel
theorem d_Uc_keep_17 : decode c_Uc_keep 17 = .ok (.getfield 64, 3) := by decide +kernel
theorem d_Uc_keep_20 : decode c_Uc_keep 20 = .ok (.goto 7, 3) := by decide +kernel
theorem d_Uc_keep_23 : decode c_Uc_keep 23 = .ok (.aload_n 0, 1) := by decide +kernel
theorem d_Uc_keep_24 : decode c_Uc_keep 24 = .ok (.getfield 68, 3) := by decide +kernel
theorem d_Uc_keep_27 : decode c_Uc_keep 27 = .ok (.astore_n 2, 1) := by decide +kernel
theorem d_Uc_keep_28 : decode c_Uc_keep 28 = .ok (.aload_n 2, 1) := by decide +kernel
theorem d_Uc_keep_29 : decode c_Uc_keep 29 = .ok (.getfield 270, 3) := by decide +kernel
theorem d_Uc_keep_32 : decode c_Uc_keep 32 = .ok (.aload_n 0, 1) := by decide +kernel
theorem d_Uc_keep_33 : decode c_Uc_keep 33 = .ok (.getfield 10, 3) := by decide +kernel
theorem d_Uc_keep_36 : decode c_Uc_keep 36 = .ok (.invokevirtual 91, 3) := by decide +kernel
theorem d_Uc_keep_39 : decode c_Uc_keep 39 = .ok (.aload_n 2, 1) := by decide +kernel
theorem d_Uc_keep_40 : decode c_Uc_keep 40 = .ok (.aload_n 0, 1) := by decide +kernel
theorem d_Uc_keep_41 : decode c_Uc_keep 41 = .ok (.getfield 267, 3) := by decide +kernel
theorem d_Uc_keep_44 : decode c_Uc_keep 44 = .ok (.putfield 273, 3) := by decide +kernel
theorem d_Uc_keep_47 : decode c_Uc_keep 47 = .ok (.aload_n 2, 1) := by decide +kernel
theorem d_Uc_keep_48 : decode c_Uc_keep 48 = .ok (.iconst 1, 1) := by decide +kernel
theorem d_Uc_keep_49 : decode c_Uc_keep 49 = .ok (.putfield 101, 3) := by decide +kernel
theorem d_Uc_keep_52 : decode c_Uc_keep 52 = .ok (.iconst 1, 1) := by decide +kernel
theorem d_Uc_keep_53 : decode c_Uc_keep 53 = .ok (.ireturn, 1) := by decide +kernel
theorem d_Uc_goBack_0 : decode c_Uc_goBack 0 = .ok (.iload_n 1, 1) := by decide +kernel
theorem d_Uc_goBack_1 : decode c_Uc_goBack 1 = .ok (.ifCond .lt 8, 3) := by decide +kernel
theorem d_Uc_goBack_4 : decode c_Uc_goBack 4 = .ok (.iload_n 1, 1) := by decide +kernel
theorem d_Uc_goBack_5 : decode c_Uc_goBack 5 = .ok (.iconst 1, 1) := by decide +kernel
theorem d_Uc_goBack_6 : decode c_Uc_goBack 6 = .ok (.if_icmp .le 6, 3) := by decide +kernel
theorem d_Uc_goBack_9 : decode c_Uc_goBack 9 = .ok (.ldc 149, 2) := by decide +kernel
theorem d_Uc_goBack_11 : decode c_Uc_goBack 11 = .ok (.ireturn, 1) := by decide +kernel
theorem d_Uc_goBack_12 : decode c_Uc_goBack 12 = .ok (.iload_n 1, 1) := by decide +kernel
theorem d_Uc_goBack_13 : decode c_Uc_goBack 13 = .ok (.ifCond .ne 10, 3) := by decide +kernel
theorem d_Uc_goBack_16 : decode c_Uc_goBack 16 = .ok (.aload_n 0, 1) := by decide +kernel
theorem d_Uc_goBack_17 : decode c_Uc_goBack 17 = .ok (.getfield 64, 3) := by decide +kernel
theorem d_Uc_goBack_20 : decode c_Uc_goBack 20 = .ok (.goto 7, 3) := by decide +kernel
theorem d_Uc_goBack_23 : decode c_Uc_goBack 23 = .ok (.aload_n 0, 1) := by decide +kernel
theorem d_Uc_goBack_24 : decode c_Uc_goBack 24 = .ok (.getfield 68, 3) := by decide +kernel
theorem d_Uc_goBack_27 : decode c_Uc_goBack 27 = .ok (.astore_n 2, 1) := by decide +kernel
theorem d_Uc_goBack_28 : decode c_Uc_goBack 28 = .ok (.aload_n 2, 1) := by decide +kernel
theorem d_Uc_goBack_29 : decode c_Uc_goBack 29 = .ok (.getfield 101, 3) := by decide +kernel
theorem d_Uc_goBack_32 : decode c_Uc_goBack 32 = .ok (.ifCond .ne 6, 3) := by decide +kernel
theorem d_Uc_goBack_35 : decode c_Uc_goBack 35 = .ok (.ldc 165, 2) := by decide +kernel
theorem d_Uc_goBack_37 : decode c_Uc_goBack 37 = .ok (.ireturn, 1) := by decide +kernel
theorem d_Uc_goBack_38 : decode c_Uc_goBack 38 = .ok (.aload_n 0, 1) := by decide +kernel
theorem d_Uc_goBack_39 : decode c_Uc_goBack 39 = .ok (.getfield 10, 3) := by decide +kernel
theorem d_Uc_goBack_42 : decode c_Uc_goBack 42 = .ok (.aload_n 2, 1) := by decide +kernel
theorem d_Uc_goBack_43 : decode c_Uc_goBack 43 = .ok (.getfield 270, 3) := by decide +kernel
theorem d_Uc_goBack_46 : decode c_Uc_goBack 46 = .ok (.invokevirtual 91, 3) := by decide +kernel
theorem d_Uc_goBack_49 : decode c_Uc_goBack 49 = .ok (.aload_n 0, 1) := by decide +kernel
theorem d_Uc_goBack_50 : decode c_Uc_goBack 50 = .ok (.aload_n 2, 1) := by decide +kernel
theorem d_Uc_goBack_51 : decode c_Uc_goBack 51 = .ok (.getfield 273, 3) := by decide +kernel
theorem d_Uc_goBack_54 : decode c_Uc_goBack 54 = .ok (.putfield 267, 3) := by decide +kernel
theorem d_Uc_goBack_57 : decode c_Uc_goBack 57 = .ok (.iconst 1, 1) := by decide +kernel
theorem d_Uc_goBack_58 : decode c_Uc_goBack 58 = .ok (.ireturn, 1) := by decide +kernel
theorem d_Uc_liveWeek_0 : decode c_Uc_liveWeek 0 = .ok (.aload_n 0, 1) := by decide +kernel
theorem d_Uc_liveWeek_1 : decode c_Uc_liveWeek 1 = .ok (.bipush 8, 2) := by decide +kernel
theorem d_Uc_liveWeek_3 : decode c_Uc_liveWeek 3 = .ok (.invokevirtual 276, 3) := by decide +kernel
theorem d_Uc_liveWeek_6 : decode c_Uc_liveWeek 6 = .ok (.istore_n 1, 1) := by decide +kernel
theorem d_Uc_liveWeek_7 : decode c_Uc_liveWeek 7 = .ok (.iload_n 1, 1) := by decide +kernel
theorem d_Uc_liveWeek_8 : decode c_Uc_liveWeek 8 = .ok (.ifCond .ne 25, 3) := by decide +kernel
theorem d_Uc_liveWeek_11 : decode c_Uc_liveWeek 11 = .ok (.aload_n 0, 1) := by decide +kernel
theorem d_Uc_liveWeek_12 : decode c_Uc_liveWeek 12 = .ok (.getfield 10, 3) := by decide +kernel
theorem d_Uc_liveWeek_15 : decode c_Uc_liveWeek 15 = .ok (.getfield 105, 3) := by decide +kernel
theorem d_Uc_liveWeek_18 : decode c_Uc_liveWeek 18 = .ok (.bipush 8, 2) := by decide +kernel
theorem d_Uc_liveWeek_20 : decode c_Uc_liveWeek 20 = .ok (.if_icmp .ge 88, 3) := by decide +kernel
theorem d_Uc_liveWeek_23 : decode c_Uc_liveWeek 23 = .ok (.aload_n 0, 1) := by decide +kernel
theorem d_Uc_liveWeek_24 : decode c_Uc_liveWeek 24 = .ok (.getfield 10, 3) := by decide +kernel
theorem d_Uc_liveWeek_27 : decode c_Uc_liveWeek 27 = .ok (.invokevirtual 180, 3) := by decide +kernel
theorem d_Uc_liveWeek_30 : decode c_Uc_liveWeek 30 = .ok (.goto 78, 3) := by decide +kernel
theorem d_Uc_liveWeek_33 : decode c_Uc_liveWeek 33 = .ok (.iload_n 1, 1) := by decide +kernel
theorem d_Uc_liveWeek_34 : decode c_Uc_liveWeek 34 = .ok (.iconst 1, 1) := by decide +kernel
theorem d_Uc_liveWeek_35 : decode c_Uc_liveWeek 35 = .ok (.if_icmp .ne 35, 3) := by decide +kernel
theorem d_Uc_liveWeek_38 : decode c_Uc_liveWeek 38 = .ok (.aload_n 0, 1) := by decide +kernel
theorem d_Uc_liveWeek_39 : decode c_Uc_liveWeek 39 = .ok (.getfield 10, 3) := by decide +kernel
theorem d_Uc_liveWeek_42 : decode c_Uc_liveWeek 42 = .ok (.getfield 105, 3) := by decide +kernel
theorem d_Uc_liveWeek_45 : decode c_Uc_liveWeek 45 = .ok (.iconst 1, 1) := by decide +kernel
theorem d_Uc_liveWeek_46 : decode c_Uc_liveWeek 46 = .ok (.if_icmp .le 62, 3) := by decide +kernel
theorem d_Uc_liveWeek_49 : decode c_Uc_liveWeek 49 = .ok (.aload_n 0, 1) := by decide +kernel
theorem d_Uc_liveWeek_50 : decode c_Uc_liveWeek 50 = .ok (.getfield 10, 3) := by decide +kernel
theorem d_Uc_liveWeek_53 : decode c_Uc_liveWeek 53 = .ok (.aload_n 0, 1) := by decide +kernel
theorem d_Uc_liveWeek_54 : decode c_Uc_liveWeek 54 = .ok (.aload_n 0, 1) := by decide +kernel
theorem d_Uc_liveWeek_55 : decode c_Uc_liveWeek 55 = .ok (.getfield 10, 3) := by decide +kernel
theorem d_Uc_liveWeek_58 : decode c_Uc_liveWeek 58 = .ok (.getfield 105, 3) := by decide +kernel
theorem d_Uc_liveWeek_61 : decode c_Uc_liveWeek 61 = .ok (.invokevirtual 276, 3) := by decide +kernel
theorem d_Uc_liveWeek_64 : decode c_Uc_liveWeek 64 = .ok (.invokevirtual 183, 3) := by decide +kernel
theorem d_Uc_liveWeek_67 : decode c_Uc_liveWeek 67 = .ok (.goto 41, 3) := by decide +kernel
theorem d_Uc_liveWeek_70 : decode c_Uc_liveWeek 70 = .ok (.aload_n 0, 1) := by decide +kernel
theorem d_Uc_liveWeek_71 : decode c_Uc_liveWeek 71 = .ok (.getfield 10, 3) := by decide +kernel
theorem d_Uc_liveWeek_74 : decode c_Uc_liveWeek 74 = .ok (.getfield 105, 3) := by decide +kernel
theorem d_Uc_liveWeek_77 : decode c_Uc_liveWeek 77 = .ok (.iconst 1, 1) := by decide +kernel
theorem d_Uc_liveWeek_78 : decode c_Uc_liveWeek 78 = .ok (.if_icmp .le 30, 3) := by decide +kernel
theorem d_Uc_liveWeek_81 : decode c_Uc_liveWeek 81 = .ok (.aload_n 0, 1) := by decide +kernel
theorem d_Uc_liveWeek_82 : decode c_Uc_liveWeek 82 = .ok (.aload_n 0, 1) := by decide +kernel
theorem d_Uc_liveWeek_83 : decode c_Uc_liveWeek 83 = .ok (.aload_n 0, 1) := by decide +kernel
theorem d_Uc_liveWeek_84 : decode c_Uc_liveWeek 84 = .ok (.getfield 10, 3) := by decide +kernel
theorem d_Uc_liveWeek_87 : decode c_Uc_liveWeek 87 = .ok (.getfield 105, 3) := by decide +kernel
theorem d_Uc_liveWeek_90 : decode c_Uc_liveWeek 90 = .ok (.aload_n 0, 1) := by decide +kernel
theorem d_Uc_liveWeek_91 : decode c_Uc_liveWeek 91 = .ok (.getfield 10, 3) := by decide +kernel
theorem d_Uc_liveWeek_94 : decode c_Uc_liveWeek 94 = .ok (.getfield 105, 3) := by decide +kernel
theorem d_Uc_liveWeek_97 : decode c_Uc_liveWeek 97 = .ok (.iconst 1, 1) := by decide +kernel
theorem d_Uc_liveWeek_98 : decode c_Uc_liveWeek 98 = .ok (.isub, 1) := by decide +kernel
theorem d_Uc_liveWeek_99 : decode c_Uc_liveWeek 99 = .ok (.imul, 1) := by decide +kernel
theorem d_Uc_liveWeek_100 : decode c_Uc_liveWeek 100 = .ok (.iconst 2, 1) := by decide +kernel
theorem d_Uc_liveWeek_101 : decode c_Uc_liveWeek 101 = .ok (.idiv, 1) := by decide +kernel
theorem d_Uc_liveWeek_102 : decode c_Uc_liveWeek 102 = .ok (.invokevirtual 276, 3) := by decide +kernel
theorem d_Uc_liveWeek_105 : decode c_Uc_liveWeek 105 = .ok (.invokevirtual 279, 3) := by decide +kernel
theorem d_Uc_liveWeek_108 : decode c_Uc_liveWeek 108 = .ok (.return_, 1) := by decide +kernel
theorem d_Uc_changePair_0 : decode c_Uc_changePair 0 = .ok (.iconst 0, 1) := by decide +kernel
theorem d_Uc_changePair_1 : decode c_Uc_changePair 1 = .ok (.istore_n 2, 1) := by decide +kernel
theorem d_Uc_changePair_2 : decode c_Uc_changePair 2 = .ok (.iconst 0, 1) := by decide +kernel
theorem d_Uc_changePair_3 : decode c_Uc_changePair 3 = .ok (.istore_n 3, 1) := by decide +kernel
theorem d_Uc_changePair_4 : decode c_Uc_changePair 4 = .ok (.iload_n 2, 1) := by decide +kernel
theorem d_Uc_changePair_5 : decode c_Uc_changePair 5 = .ok (.aload_n 0, 1) := by decide +kernel
theorem d_Uc_changePair_6 : decode c_Uc_changePair 6 = .ok (.getfield 10, 3) := by decide +kernel
theorem d_Uc_changePair_9 : decode c_Uc_changePair 9 = .ok (.getfield 105, 3) := by decide +kernel
theorem d_Uc_changePair_12 : decode c_Uc_changePair 12 = .ok (.iconst 2, 1) := by decide +kernel
theorem d_Uc_changePair_13 : decode c_Uc_changePair 13 = .ok (.isub, 1) := by decide +kernel
theorem d_Uc_changePair_14 : decode c_Uc_changePair 14 = .ok (.if_icmp .ge 40, 3) := by decide +kernel
theorem d_Uc_changePair_17 : decode c_Uc_changePair 17 = .ok (.iload_n 1, 1) := by decide +kernel
theorem d_Uc_changePair_18 : decode c_Uc_changePair 18 = .ok (.iload_n 3, 1) := by decide +kernel
theorem d_Uc_changePair_19 : decode c_Uc_changePair 19 = .ok (.aload_n 0, 1) := by decide +kernel
theorem d_Uc_changePair_20 : decode c_Uc_changePair 20 = .ok (.getfield 10, 3) := by decide +kernel
theorem d_Uc_changePair_23 : decode c_Uc_changePair 23 = .ok (.getfield 105, 3) := by decide +kernel
theorem d_Uc_changePair_26 : decode c_Uc_changePair 26 = .ok (.iadd, 1) := by decide +kernel
theorem d_Uc_changePair_27 : decode c_Uc_changePair 27 = .ok (.iconst 1, 1) := by decide +kernel
theorem d_Uc_changePair_28 : decode c_Uc_changePair 28 = .ok (.isub, 1) := by decide +kernel
theorem d_Uc_changePair_29 : decode c_Uc_changePair 29 = .ok (.iload_n 2, 1) := by decide +kernel
theorem d_Uc_changePair_30 : decode c_Uc_changePair 30 = .ok (.isub, 1) := by decide +kernel
theorem d_Uc_changePair_31 : decode c_Uc_changePair 31 = .ok (.if_icmp .lt 23, 3) := by decide +kernel
theorem d_Uc_changePair_34 : decode c_Uc_changePair 34 = .ok (.iload_n 3, 1) := by decide +kernel
theorem d_Uc_changePair_35 : decode c_Uc_changePair 35 = .ok (.aload_n 0, 1) := by decide +kernel
theorem d_Uc_changePair_36 : decode c_Uc_changePair 36 = .ok (.getfield 10, 3) := by decide +kernel
theorem d_Uc_changePair_39 : decode c_Uc_changePair 39 = .ok (.getfield 105, 3) := by decide +kernel
theorem d_Uc_changePair_42 : decode c_Uc_changePair 42 = .ok (.iconst 1, 1) := by decide +kernel
theorem d_Uc_changePair_43 : decode c_Uc_changePair 43 = .ok (.isub, 1) := by decide +kernel
theorem d_Uc_changePair_44 : decode c_Uc_changePair 44 = .ok (.iload_n 2, 1) := by decide +kernel
theorem d_Uc_changePair_45 : decode c_Uc_changePair 45 = .ok (.isub, 1) := by decide +kernel
theorem d_Uc_changePair_46 : decode c_Uc_changePair 46 = .ok (.iadd, 1) := by decide +kernel
theorem d_Uc_changePair_47 : decode c_Uc_changePair 47 = .ok (.istore_n 3, 1) := by decide +kernel
theorem d_Uc_changePair_48 : decode c_Uc_changePair 48 = .ok (.iinc 2 1, 3) := by decide +kernel
theorem d_Uc_changePair_51 : decode c_Uc_changePair 51 = .ok (.goto (-47), 3) := by decide +kernel
theorem d_Uc_changePair_54 : decode c_Uc_changePair 54 = .ok (.iload_n 2, 1) := by decide +kernel
theorem d_Uc_changePair_55 : decode c_Uc_changePair 55 = .ok (.iconst 1, 1) := by decide +kernel
theorem d_Uc_changePair_56 : decode c_Uc_changePair 56 = .ok (.iadd, 1) := by decide +kernel
theorem d_Uc_changePair_57 : decode c_Uc_changePair 57 = .ok (.iload_n 1, 1) := by decide +kernel
theorem d_Uc_changePair_58 : decode c_Uc_changePair 58 = .ok (.iadd, 1) := by decide +kernel
theorem d_Uc_changePair_59 : decode c_Uc_changePair 59 = .ok (.iload_n 3, 1) := by decide +kernel
theorem d_Uc_changePair_60 : decode c_Uc_changePair 60 = .ok (.isub, 1) := by decide +kernel
theorem d_Uc_changePair_61 : decode c_Uc_changePair 61 = .ok (.istore 4, 2) := by decide +kernel
theorem d_Uc_changePair_63 : decode c_Uc_changePair 63 = .ok (.aload_n 0, 1) := by decide +kernel
theorem d_Uc_changePair_64 : decode c_Uc_changePair 64 = .ok (.getfield 10, 3) := by decide +kernel
theorem d_Uc_changePair_67 : decode c_Uc_changePair 67 = .ok (.iload_n 2, 1) := by decide +kernel
theorem d_Uc_changePair_68 : decode c_Uc_changePair 68 = .ok (.iload 4, 2) := by decide +kernel
theorem d_Uc_changePair_70 : decode c_Uc_changePair 70 = .ok (.invokevirtual 153, 3) := by decide +kernel
theorem d_Uc_changePair_73 : decode c_Uc_changePair 73 = .ok (.ifCond .ne 4, 3) := by decide +kernel
theorem d_Uc_changePair_76 : decode c_Uc_changePair 76 = .ok (.return_, 1) := by decide +kernel
theorem d_Uc_changePair_77 : decode c_Uc_changePair 77 = .ok (.aload_n 0, 1) := by decide +kernel
theorem d_Uc_changePair_78 : decode c_Uc_changePair 78 = .ok (.getfield 10, 3) := by decide +kernel
theorem d_Uc_changePair_81 : decode c_Uc_changePair 81 = .ok (.iload_n 2, 1) := by decide +kernel
theorem d_Uc_changePair_82 : decode c_Uc_changePair 82 = .ok (.iload 4, 2) := by decide +kernel
theorem d_Uc_changePair_84 : decode c_Uc_changePair 84 = .ok (.invokevirtual 166, 3) := by decide +kernel
theorem d_Uc_changePair_87 : decode c_Uc_changePair 87 = .ok (.ifCond .ne 7, 3) := by decide +kernel
theorem d_Uc_changePair_90 : decode c_Uc_changePair 90 = .ok (.iconst 1, 1) := by decide +kernel
theorem d_Uc_changePair_91 : decode c_Uc_changePair 91 = .ok (.goto 4, 3) := by decide +kernel
theorem d_Uc_changePair_94 : decode c_Uc_changePair 94 = .ok (.iconst 0, 1) := by decide +kernel
theorem d_Uc_changePair_95 : decode c_Uc_changePair 95 = .ok (.istore 5, 2) := by decide +kernel
theorem d_Uc_changePair_97 : decode c_Uc_changePair 97 = .ok (.aload_n 0, 1) := by decide +kernel
theorem d_Uc_changePair_98 : decode c_Uc_changePair 98 = .ok (.getfield 10, 3) := by decide +kernel
theorem d_Uc_changePair_101 : decode c_Uc_changePair 101 = .ok (.iload_n 2, 1) := by decide +kernel
theorem d_Uc_changePair_102 : decode c_Uc_changePair 102 = .ok (.iload 4, 2) := by decide +kernel
theorem d_Uc_changePair_104 : decode c_Uc_changePair 104 = .ok (.iload 5, 2) := by decide +kernel
theorem d_Uc_changePair_106 : decode c_Uc_changePair 106 = .ok (.invokevirtual 161, 3) := by decide +kernel
theorem d_Uc_changePair_109 : decode c_Uc_changePair 109 = .ok (.ifCond .eq 22, 3) := by decide +kernel
theorem d_Uc_changePair_112 : decode c_Uc_changePair 112 = .ok (.aload_n 0, 1) := by decide +kernel
theorem d_Uc_changePair_113 : decode c_Uc_changePair 113 = .ok (.getfield 10, 3) := by decide +kernel
theorem d_Uc_changePair_116 : decode c_Uc_changePair 116 = .ok (.aload_n 0, 1) := by decide +kernel
theorem d_Uc_changePair_117 : decode c_Uc_changePair 117 = .ok (.getfield 10, 3) := by decide +kernel
theorem d_Uc_changePair_120 : decode c_Uc_changePair 120 = .ok (.getfield 115, 3) := by decide +kernel
theorem d_Uc_changePair_123 : decode c_Uc_changePair 123 = .ok (.iload_n 2, 1) := by decide +kernel
theorem d_Uc_changePair_124 : decode c_Uc_changePair 124 = .ok (.iload 4, 2) := by decide +kernel
theorem d_Uc_changePair_126 : decode c_Uc_changePair 126 = .ok (.iload 5, 2) := by decide +kernel
theorem d_Uc_changePair_128 : decode c_Uc_changePair 128 = .ok (.invokevirtual 169, 3) := by decide +kernel
theorem d_Uc_changePair_131 : decode c_Uc_changePair 131 = .ok (.return_, 1) := by decide +kernel
theorem d_Uc_draw_0 : decode c_Uc_draw 0 = .ok (.aload_n 0, 1) := by decide +kernel
theorem d_Uc_draw_1 : decode c_Uc_draw 1 = .ok (.aload_n 0, 1) := by decide +kernel
theorem d_Uc_draw_2 : decode c_Uc_draw 2 = .ok (.getfield 267, 3) := by decide +kernel
theorem d_Uc_draw_5 : decode c_Uc_draw 5 = .ok (.ldc_w 282, 3) := by decide +kernel
theorem d_Uc_draw_8 : decode c_Uc_draw 8 = .ok (.imul, 1) := by decide +kernel
theorem d_Uc_draw_9 : decode c_Uc_draw 9 = .ok (.sipush 12345, 3) := by decide +kernel
theorem d_Uc_draw_12 : decode c_Uc_draw 12 = .ok (.iadd, 1) := by decide +kernel
theorem d_Uc_draw_13 : decode c_Uc_draw 13 = .ok (.ldc_w 283, 3) := by decide +kernel
theorem d_Uc_draw_16 : decode c_Uc_draw 16 = .ok (.iand, 1) := by decide +kernel
theorem d_Uc_draw_17 : decode c_Uc_draw 17 = .ok (.putfield 267, 3) := by decide +kernel
theorem d_Uc_draw_20 : decode c_Uc_draw 20 = .ok (.iload_n 1, 1) := by decide +kernel
theorem d_Uc_draw_21 : decode c_Uc_draw 21 = .ok (.ifCond .le 16, 3) := by decide +kernel
theorem d_Uc_draw_24 : decode c_Uc_draw 24 = .ok (.aload_n 0, 1) := by decide +kernel
theorem d_Uc_draw_25 : decode c_Uc_draw 25 = .ok (.getfield 267, 3) := by decide +kernel
theorem d_Uc_draw_28 : decode c_Uc_draw 28 = .ok (.ldc_w 284, 3) := by decide +kernel
theorem d_Uc_draw_31 : decode c_Uc_draw 31 = .ok (.idiv, 1) := by decide +kernel
theorem d_Uc_draw_32 : decode c_Uc_draw 32 = .ok (.iload_n 1, 1) := by decide +kernel
theorem d_Uc_draw_33 : decode c_Uc_draw 33 = .ok (.irem, 1) := by decide +kernel
theorem d_Uc_draw_34 : decode c_Uc_draw 34 = .ok (.goto 4, 3) := by decide +kernel
theorem d_Uc_draw_37 : decode c_Uc_draw 37 = .ok (.iconst 0, 1) := by decide +kernel
theorem d_Uc_draw_38 : decode c_Uc_draw 38 = .ok (.ireturn, 1) := by decide +kernel
theorem d_Uc_placesTied_0 : decode c_Uc_placesTied 0 = .ok (.iload_n 2, 1) := by decide +kernel
theorem d_Uc_placesTied_1 : decode c_Uc_placesTied 1 = .ok (.iload_n 3, 1) := by decide +kernel
theorem d_Uc_placesTied_2 : decode c_Uc_placesTied 2 = .ok (.iadd, 1) := by decide +kernel
theorem d_Uc_placesTied_3 : decode c_Uc_placesTied 3 = .ok (.iload_n 0, 1) := by decide +kernel
theorem d_Uc_placesTied_4 : decode c_Uc_placesTied 4 = .ok (.if_icmp .lt 7, 3) := by decide +kernel
theorem d_Uc_placesTied_7 : decode c_Uc_placesTied 7 = .ok (.iconst 1, 1) := by decide +kernel
theorem d_Uc_placesTied_8 : decode c_Uc_placesTied 8 = .ok (.goto 4, 3) := by decide +kernel
theorem d_Uc_placesTied_11 : decode c_Uc_placesTied 11 = .ok (.iconst 0, 1) := by decide +kernel
theorem d_Uc_placesTied_12 : decode c_Uc_placesTied 12 = .ok (.iload_n 1, 1) := by decide +kernel
theorem d_Uc_placesTied_13 : decode c_Uc_placesTied 13 = .ok (.ifCond .ne 7, 3) := by decide +kernel
theorem d_Uc_placesTied_16 : decode c_Uc_placesTied 16 = .ok (.iconst 1, 1) := by decide +kernel
theorem d_Uc_placesTied_17 : decode c_Uc_placesTied 17 = .ok (.goto 4, 3) := by decide +kernel
theorem d_Uc_placesTied_20 : decode c_Uc_placesTied 20 = .ok (.iconst 0, 1) := by decide +kernel
theorem d_Uc_placesTied_21 : decode c_Uc_placesTied 21 = .ok (.if_icmp .ne 7, 3) := by decide +kernel
theorem d_Uc_placesTied_24 : decode c_Uc_placesTied 24 = .ok (.iconst 1, 1) := by decide +kernel
theorem d_Uc_placesTied_25 : decode c_Uc_placesTied 25 = .ok (.goto 4, 3) := by decide +kernel
theorem d_Uc_placesTied_28 : decode c_Uc_placesTied 28 = .ok (.iconst 0, 1) := by decide +kernel
theorem d_Uc_placesTied_29 : decode c_Uc_placesTied 29 = .ok (.ireturn, 1) := by decide +kernel
theorem d_Lw_law_0 : decode code 0 = .ok (.new 7, 3) := by decide +kernel
theorem d_Lw_law_3 : decode code 3 = .ok (.dup, 1) := by decide +kernel
theorem d_Lw_law_4 : decode code 4 = .ok (.invokespecial 9, 3) := by decide +kernel
theorem d_Lw_law_7 : decode code 7 = .ok (.astore_n 1, 1) := by decide +kernel
theorem d_Lw_law_8 : decode code 8 = .ok (.new 10, 3) := by decide +kernel
theorem d_Lw_law_11 : decode code 11 = .ok (.dup, 1) := by decide +kernel
theorem d_Lw_law_12 : decode code 12 = .ok (.invokespecial 12, 3) := by decide +kernel
theorem d_Lw_law_15 : decode code 15 = .ok (.astore_n 2, 1) := by decide +kernel
theorem d_Lw_law_16 : decode code 16 = .ok (.iconst 0, 1) := by decide +kernel
theorem d_Lw_law_17 : decode code 17 = .ok (.istore_n 3, 1) := by decide +kernel
theorem d_Lw_law_18 : decode code 18 = .ok (.iload_n 3, 1) := by decide +kernel
theorem d_Lw_law_19 : decode code 19 = .ok (.aload_n 0, 1) := by decide +kernel
theorem d_Lw_law_20 : decode code 20 = .ok (.arraylength, 1) := by decide +kernel
theorem d_Lw_law_21 : decode code 21 = .ok (.iconst 5, 1) := by decide +kernel
theorem d_Lw_law_22 : decode code 22 = .ok (.isub, 1) := by decide +kernel
theorem d_Lw_law_23 : decode code 23 = .ok (.if_icmp .gt 1047, 3) := by decide +kernel
theorem d_Lw_law_26 : decode code 26 = .ok (.aload_n 0, 1) := by decide +kernel
theorem d_Lw_law_27 : decode code 27 = .ok (.iload_n 3, 1) := by decide +kernel
theorem d_Lw_law_28 : decode code 28 = .ok (.iaload, 1) := by decide +kernel
theorem d_Lw_law_29 : decode code 29 = .ok (.bipush 31, 2) := by decide +kernel
theorem d_Lw_law_31 : decode code 31 = .ok (.iand, 1) := by decide +kernel
theorem d_Lw_law_32 : decode code 32 = .ok (.tableswitch 1032 0 31 #[144, 207, 220, 233, 256, 279, 302, 325, 358, 417, 460, 473, 496, 549, 572, 585, 608, 631, 664, 697, 710, 743, 756, 789, 822, 845, 904, 917, 940, 963, 986, 1009], 144) := by decide +kernel
theorem d_Lw_law_176 : decode code 176 = .ok (.aload_n 1, 1) := by decide +kernel
theorem d_Lw_law_177 : decode code 177 = .ok (.aload_n 0, 1) := by decide +kernel
theorem d_Lw_law_178 : decode code 178 = .ok (.iload_n 3, 1) := by decide +kernel
theorem d_Lw_law_179 : decode code 179 = .ok (.iconst 1, 1) := by decide +kernel
theorem d_Lw_law_180 : decode code 180 = .ok (.iadd, 1) := by decide +kernel
theorem d_Lw_law_181 : decode code 181 = .ok (.iaload, 1) := by decide +kernel
theorem d_Lw_law_182 : decode code 182 = .ok (.aload_n 0, 1) := by decide +kernel
theorem d_Lw_law_183 : decode code 183 = .ok (.iload_n 3, 1) := by decide +kernel
theorem d_Lw_law_184 : decode code 184 = .ok (.iconst 2, 1) := by decide +kernel
theorem d_Lw_law_185 : decode code 185 = .ok (.iadd, 1) := by decide +kernel
theorem d_Lw_law_186 : decode code 186 = .ok (.iaload, 1) := by decide +kernel
theorem d_Lw_law_187 : decode code 187 = .ok (.i2l, 1) := by decide +kernel
theorem d_Lw_law_188 : decode code 188 = .ok (.bipush 32, 2) := by decide +kernel
theorem d_Lw_law_190 : decode code 190 = .ok (.lshl, 1) := by decide +kernel
theorem d_Lw_law_191 : decode code 191 = .ok (.aload_n 0, 1) := by decide +kernel
theorem d_Lw_law_192 : decode code 192 = .ok (.iload_n 3, 1) := by decide +kernel
theorem d_Lw_law_193 : decode code 193 = .ok (.iconst 3, 1) := by decide +kernel
theorem d_Lw_law_194 : decode code 194 = .ok (.iadd, 1) := by decide +kernel
theorem d_Lw_law_195 : decode code 195 = .ok (.iaload, 1) := by decide +kernel
theorem d_Lw_law_196 : decode code 196 = .ok (.i2l, 1) := by decide +kernel
theorem d_Lw_law_197 : decode code 197 = .ok (.ldc2_w 13, 3) := by decide +kernel
theorem d_Lw_law_200 : decode code 200 = .ok (.land, 1) := by decide +kernel
theorem d_Lw_law_201 : decode code 201 = .ok (.lor, 1) := by decide +kernel
theorem d_Lw_law_202 : decode code 202 = .ok (.invokevirtual 15, 3) := by decide +kernel
theorem d_Lw_law_205 : decode code 205 = .ok (.aload_n 2, 1) := by decide +kernel
theorem d_Lw_law_206 : decode code 206 = .ok (.aload_n 0, 1) := by decide +kernel
theorem d_Lw_law_207 : decode code 207 = .ok (.iload_n 3, 1) := by decide +kernel
theorem d_Lw_law_208 : decode code 208 = .ok (.iconst 1, 1) := by decide +kernel
theorem d_Lw_law_209 : decode code 209 = .ok (.iadd, 1) := by decide +kernel
theorem d_Lw_law_210 : decode code 210 = .ok (.iaload, 1) := by decide +kernel
theorem d_Lw_law_211 : decode code 211 = .ok (.aload_n 0, 1) := by decide +kernel
theorem d_Lw_law_212 : decode code 212 = .ok (.iload_n 3, 1) := by decide +kernel
theorem d_Lw_law_213 : decode code 213 = .ok (.iconst 2, 1) := by decide +kernel
theorem d_Lw_law_214 : decode code 214 = .ok (.iadd, 1) := by decide +kernel
theorem d_Lw_law_215 : decode code 215 = .ok (.iaload, 1) := by decide +kernel
theorem d_Lw_law_216 : decode code 216 = .ok (.i2l, 1) := by decide +kernel
theorem d_Lw_law_217 : decode code 217 = .ok (.bipush 32, 2) := by decide +kernel
theorem d_Lw_law_219 : decode code 219 = .ok (.lshl, 1) := by decide +kernel
theorem d_Lw_law_220 : decode code 220 = .ok (.aload_n 0, 1) := by decide +kernel
theorem d_Lw_law_221 : decode code 221 = .ok (.iload_n 3, 1) := by decide +kernel
theorem d_Lw_law_222 : decode code 222 = .ok (.iconst 3, 1) := by decide +kernel
theorem d_Lw_law_223 : decode code 223 = .ok (.iadd, 1) := by decide +kernel
theorem d_Lw_law_224 : decode code 224 = .ok (.iaload, 1) := by decide +kernel
theorem d_Lw_law_225 : decode code 225 = .ok (.i2l, 1) := by decide +kernel
theorem d_Lw_law_226 : decode code 226 = .ok (.ldc2_w 13, 3) := by decide +kernel
theorem d_Lw_law_229 : decode code 229 = .ok (.land, 1) := by decide +kernel
theorem d_Lw_law_230 : decode code 230 = .ok (.lor, 1) := by decide +kernel
theorem d_Lw_law_231 : decode code 231 = .ok (.invokevirtual 19, 3) := by decide +kernel
theorem d_Lw_law_234 : decode code 234 = .ok (.if_icmp .eq 830, 3) := by decide +kernel
theorem d_Lw_law_237 : decode code 237 = .ok (.iconst 0, 1) := by decide +kernel
theorem d_Lw_law_238 : decode code 238 = .ok (.ireturn, 1) := by decide +kernel
theorem d_Lw_law_239 : decode code 239 = .ok (.aload_n 1, 1) := by decide +kernel
theorem d_Lw_law_240 : decode code 240 = .ok (.invokevirtual 20, 3) := by decide +kernel
theorem d_Lw_law_243 : decode code 243 = .ok (.aload_n 2, 1) := by decide +kernel
theorem d_Lw_law_244 : decode code 244 = .ok (.invokevirtual 24, 3) := by decide +kernel
theorem d_Lw_law_247 : decode code 247 = .ok (.if_icmp .eq 817, 3) := by decide +kernel
theorem d_Lw_law_250 : decode code 250 = .ok (.iconst 0, 1) := by decide +kernel
theorem d_Lw_law_251 : decode code 251 = .ok (.ireturn, 1) := by decide +kernel
theorem d_Lw_law_252 : decode code 252 = .ok (.aload_n 1, 1) := by decide +kernel
theorem d_Lw_law_253 : decode code 253 = .ok (.invokevirtual 25, 3) := by decide +kernel
theorem d_Lw_law_256 : decode code 256 = .ok (.aload_n 2, 1) := by decide +kernel
theorem d_Lw_law_257 : decode code 257 = .ok (.invokevirtual 28, 3) := by decide +kernel
theorem d_Lw_law_260 : decode code 260 = .ok (.if_icmp .eq 804, 3) := by decide +kernel
theorem d_Lw_law_263 : decode code 263 = .ok (.iconst 0, 1) := by decide +kernel
theorem d_Lw_law_264 : decode code 264 = .ok (.ireturn, 1) := by decide +kernel
theorem d_Lw_law_265 : decode code 265 = .ok (.aload_n 1, 1) := by decide +kernel
theorem d_Lw_law_266 : decode code 266 = .ok (.aload_n 0, 1) := by decide +kernel
theorem d_Lw_law_267 : decode code 267 = .ok (.iload_n 3, 1) := by decide +kernel
theorem d_Lw_law_268 : decode code 268 = .ok (.iconst 1, 1) := by decide +kernel
theorem d_Lw_law_269 : decode code 269 = .ok (.iadd, 1) := by decide +kernel
theorem d_Lw_law_270 : decode code 270 = .ok (.iaload, 1) := by decide +kernel
theorem d_Lw_law_271 : decode code 271 = .ok (.invokevirtual 29, 3) := by decide +kernel
theorem d_Lw_law_274 : decode code 274 = .ok (.aload_n 2, 1) := by decide +kernel
theorem d_Lw_law_275 : decode code 275 = .ok (.aload_n 0, 1) := by decide +kernel
theorem d_Lw_law_276 : decode code 276 = .ok (.iload_n 3, 1) := by decide +kernel
theorem d_Lw_law_277 : decode code 277 = .ok (.iconst 1, 1) := by decide +kernel
theorem d_Lw_law_278 : decode code 278 = .ok (.iadd, 1) := by decide +kernel
theorem d_Lw_law_279 : decode code 279 = .ok (.iaload, 1) := by decide +kernel
theorem d_Lw_law_280 : decode code 280 = .ok (.invokevirtual 33, 3) := by decide +kernel
theorem d_Lw_law_283 : decode code 283 = .ok (.if_icmp .eq 781, 3) := by decide +kernel
theorem d_Lw_law_286 : decode code 286 = .ok (.iconst 0, 1) := by decide +kernel
theorem d_Lw_law_287 : decode code 287 = .ok (.ireturn, 1) := by decide +kernel
theorem d_Lw_law_288 : decode code 288 = .ok (.aload_n 1, 1) := by decide +kernel
theorem d_Lw_law_289 : decode code 289 = .ok (.aload_n 0, 1) := by decide +kernel
theorem d_Lw_law_290 : decode code 290 = .ok (.iload_n 3, 1) := by decide +kernel
theorem d_Lw_law_291 : decode code 291 = .ok (.iconst 1, 1) := by decide +kernel
theorem d_Lw_law_292 : decode code 292 = .ok (.iadd, 1) := by decide +kernel
theorem d_Lw_law_293 : decode code 293 = .ok (.iaload, 1) := by decide +kernel
theorem d_Lw_law_294 : decode code 294 = .ok (.invokevirtual 34, 3) := by decide +kernel
theorem d_Lw_law_297 : decode code 297 = .ok (.aload_n 2, 1) := by decide +kernel
theorem d_Lw_law_298 : decode code 298 = .ok (.aload_n 0, 1) := by decide +kernel
theorem d_Lw_law_299 : decode code 299 = .ok (.iload_n 3, 1) := by decide +kernel
theorem d_Lw_law_300 : decode code 300 = .ok (.iconst 1, 1) := by decide +kernel
theorem d_Lw_law_301 : decode code 301 = .ok (.iadd, 1) := by decide +kernel
theorem d_Lw_law_302 : decode code 302 = .ok (.iaload, 1) := by decide +kernel
theorem d_Lw_law_303 : decode code 303 = .ok (.invokevirtual 37, 3) := by decide +kernel
theorem d_Lw_law_306 : decode code 306 = .ok (.if_icmp .eq 758, 3) := by decide +kernel
theorem d_Lw_law_309 : decode code 309 = .ok (.iconst 0, 1) := by decide +kernel
theorem d_Lw_law_310 : decode code 310 = .ok (.ireturn, 1) := by decide +kernel
theorem d_Lw_law_311 : decode code 311 = .ok (.aload_n 1, 1) := by decide +kernel
theorem d_Lw_law_312 : decode code 312 = .ok (.aload_n 0, 1) := by decide +kernel
theorem d_Lw_law_313 : decode code 313 = .ok (.iload_n 3, 1) := by decide +kernel
theorem d_Lw_law_314 : decode code 314 = .ok (.iconst 1, 1) := by decide +kernel
theorem d_Lw_law_315 : decode code 315 = .ok (.iadd, 1) := by decide +kernel
theorem d_Lw_law_316 : decode code 316 = .ok (.iaload, 1) := by decide +kernel
theorem d_Lw_law_317 : decode code 317 = .ok (.invokevirtual 38, 3) := by decide +kernel
theorem d_Lw_law_320 : decode code 320 = .ok (.aload_n 2, 1) := by decide +kernel
theorem d_Lw_law_321 : decode code 321 = .ok (.aload_n 0, 1) := by decide +kernel
theorem d_Lw_law_322 : decode code 322 = .ok (.iload_n 3, 1) := by decide +kernel
theorem d_Lw_law_323 : decode code 323 = .ok (.iconst 1, 1) := by decide +kernel
theorem d_Lw_law_324 : decode code 324 = .ok (.iadd, 1) := by decide +kernel
theorem d_Lw_law_325 : decode code 325 = .ok (.iaload, 1) := by decide +kernel
theorem d_Lw_law_326 : decode code 326 = .ok (.invokevirtual 41, 3) := by decide +kernel
theorem d_Lw_law_329 : decode code 329 = .ok (.if_icmp .eq 735, 3) := by decide +kernel
theorem d_Lw_law_332 : decode code 332 = .ok (.iconst 0, 1) := by decide +kernel
theorem d_Lw_law_333 : decode code 333 = .ok (.ireturn, 1) := by decide +kernel
theorem d_Lw_law_334 : decode code 334 = .ok (.aload_n 1, 1) := by decide +kernel
theorem d_Lw_law_335 : decode code 335 = .ok (.aload_n 0, 1) := by decide +kernel
theorem d_Lw_law_336 : decode code 336 = .ok (.iload_n 3, 1) := by decide +kernel
theorem d_Lw_law_337 : decode code 337 = .ok (.iconst 1, 1) := by decide +kernel
theorem d_Lw_law_338 : decode code 338 = .ok (.iadd, 1) := by decide +kernel
theorem d_Lw_law_339 : decode code 339 = .ok (.iaload, 1) := by decide +kernel
theorem d_Lw_law_340 : decode code 340 = .ok (.invokevirtual 42, 3) := by decide +kernel
theorem d_Lw_law_343 : decode code 343 = .ok (.aload_n 2, 1) := by decide +kernel
theorem d_Lw_law_344 : decode code 344 = .ok (.aload_n 0, 1) := by decide +kernel
theorem d_Lw_law_345 : decode code 345 = .ok (.iload_n 3, 1) := by decide +kernel
theorem d_Lw_law_346 : decode code 346 = .ok (.iconst 1, 1) := by decide +kernel
theorem d_Lw_law_347 : decode code 347 = .ok (.iadd, 1) := by decide +kernel
theorem d_Lw_law_348 : decode code 348 = .ok (.iaload, 1) := by decide +kernel
theorem d_Lw_law_349 : decode code 349 = .ok (.invokevirtual 45, 3) := by decide +kernel
theorem d_Lw_law_352 : decode code 352 = .ok (.if_icmp .eq 712, 3) := by decide +kernel
theorem d_Lw_law_355 : decode code 355 = .ok (.iconst 0, 1) := by decide +kernel
theorem d_Lw_law_356 : decode code 356 = .ok (.ireturn, 1) := by decide +kernel
theorem d_Lw_law_357 : decode code 357 = .ok (.aload_n 1, 1) := by decide +kernel
theorem d_Lw_law_358 : decode code 358 = .ok (.aload_n 0, 1) := by decide +kernel
theorem d_Lw_law_359 : decode code 359 = .ok (.iload_n 3, 1) := by decide +kernel
theorem d_Lw_law_360 : decode code 360 = .ok (.iconst 1, 1) := by decide +kernel
theorem d_Lw_law_361 : decode code 361 = .ok (.iadd, 1) := by decide +kernel
theorem d_Lw_law_362 : decode code 362 = .ok (.iaload, 1) := by decide +kernel
theorem d_Lw_law_363 : decode code 363 = .ok (.aload_n 0, 1) := by decide +kernel
theorem d_Lw_law_364 : decode code 364 = .ok (.iload_n 3, 1) := by decide +kernel
theorem d_Lw_law_365 : decode code 365 = .ok (.iconst 2, 1) := by decide +kernel
theorem d_Lw_law_366 : decode code 366 = .ok (.iadd, 1) := by decide +kernel
theorem d_Lw_law_367 : decode code 367 = .ok (.iaload, 1) := by decide +kernel
theorem d_Lw_law_368 : decode code 368 = .ok (.invokevirtual 46, 3) := by decide +kernel
theorem d_Lw_law_371 : decode code 371 = .ok (.aload_n 2, 1) := by decide +kernel
theorem d_Lw_law_372 : decode code 372 = .ok (.aload_n 0, 1) := by decide +kernel
theorem d_Lw_law_373 : decode code 373 = .ok (.iload_n 3, 1) := by decide +kernel
theorem d_Lw_law_374 : decode code 374 = .ok (.iconst 1, 1) := by decide +kernel
theorem d_Lw_law_375 : decode code 375 = .ok (.iadd, 1) := by decide +kernel
theorem d_Lw_law_376 : decode code 376 = .ok (.iaload, 1) := by decide +kernel
theorem d_Lw_law_377 : decode code 377 = .ok (.aload_n 0, 1) := by decide +kernel
theorem d_Lw_law_378 : decode code 378 = .ok (.iload_n 3, 1) := by decide +kernel
theorem d_Lw_law_379 : decode code 379 = .ok (.iconst 2, 1) := by decide +kernel
theorem d_Lw_law_380 : decode code 380 = .ok (.iadd, 1) := by decide +kernel
theorem d_Lw_law_381 : decode code 381 = .ok (.iaload, 1) := by decide +kernel
theorem d_Lw_law_382 : decode code 382 = .ok (.invokevirtual 50, 3) := by decide +kernel
theorem d_Lw_law_385 : decode code 385 = .ok (.if_icmp .eq 679, 3) := by decide +kernel
theorem d_Lw_law_388 : decode code 388 = .ok (.iconst 0, 1) := by decide +kernel
theorem d_Lw_law_389 : decode code 389 = .ok (.ireturn, 1) := by decide +kernel
theorem d_Lw_law_390 : decode code 390 = .ok (.aload_n 1, 1) := by decide +kernel
theorem d_Lw_law_391 : decode code 391 = .ok (.aload_n 0, 1) := by decide +kernel
theorem d_Lw_law_392 : decode code 392 = .ok (.iload_n 3, 1) := by decide +kernel
theorem d_Lw_law_393 : decode code 393 = .ok (.iconst 1, 1) := by decide +kernel
theorem d_Lw_law_394 : decode code 394 = .ok (.iadd, 1) := by decide +kernel
theorem d_Lw_law_395 : decode code 395 = .ok (.iaload, 1) := by decide +kernel
theorem d_Lw_law_396 : decode code 396 = .ok (.aload_n 0, 1) := by decide +kernel
theorem d_Lw_law_397 : decode code 397 = .ok (.iload_n 3, 1) := by decide +kernel
theorem d_Lw_law_398 : decode code 398 = .ok (.iconst 2, 1) := by decide +kernel
theorem d_Lw_law_399 : decode code 399 = .ok (.iadd, 1) := by decide +kernel
theorem d_Lw_law_400 : decode code 400 = .ok (.iaload, 1) := by decide +kernel
theorem d_Lw_law_401 : decode code 401 = .ok (.aload_n 0, 1) := by decide +kernel
theorem d_Lw_law_402 : decode code 402 = .ok (.iload_n 3, 1) := by decide +kernel
theorem d_Lw_law_403 : decode code 403 = .ok (.iconst 3, 1) := by decide +kernel
theorem d_Lw_law_404 : decode code 404 = .ok (.iadd, 1) := by decide +kernel
theorem d_Lw_law_405 : decode code 405 = .ok (.iaload, 1) := by decide +kernel
theorem d_Lw_law_406 : decode code 406 = .ok (.ifCond .eq 7, 3) := by decide +kernel
theorem d_Lw_law_409 : decode code 409 = .ok (.iconst 1, 1) := by decide +kernel
theorem d_Lw_law_410 : decode code 410 = .ok (.goto 4, 3) := by decide +kernel
theorem d_Lw_law_413 : decode code 413 = .ok (.iconst 0, 1) := by decide +kernel
theorem d_Lw_law_414 : decode code 414 = .ok (.invokevirtual 51, 3) := by decide +kernel
theorem d_Lw_law_417 : decode code 417 = .ok (.aload_n 2, 1) := by decide +kernel
theorem d_Lw_law_418 : decode code 418 = .ok (.aload_n 0, 1) := by decide +kernel
theorem d_Lw_law_419 : decode code 419 = .ok (.iload_n 3, 1) := by decide +kernel
theorem d_Lw_law_420 : decode code 420 = .ok (.iconst 1, 1) := by decide +kernel
theorem d_Lw_law_421 : decode code 421 = .ok (.iadd, 1) := by decide +kernel
theorem d_Lw_law_422 : decode code 422 = .ok (.iaload, 1) := by decide +kernel
theorem d_Lw_law_423 : decode code 423 = .ok (.aload_n 0, 1) := by decide +kernel
theorem d_Lw_law_424 : decode code 424 = .ok (.iload_n 3, 1) := by decide +kernel
theorem d_Lw_law_425 : decode code 425 = .ok (.iconst 2, 1) := by decide +kernel
theorem d_Lw_law_426 : decode code 426 = .ok (.iadd, 1) := by decide +kernel
theorem d_Lw_law_427 : decode code 427 = .ok (.iaload, 1) := by decide +kernel
theorem d_Lw_law_428 : decode code 428 = .ok (.aload_n 0, 1) := by decide +kernel
theorem d_Lw_law_429 : decode code 429 = .ok (.iload_n 3, 1) := by decide +kernel
theorem d_Lw_law_430 : decode code 430 = .ok (.iconst 3, 1) := by decide +kernel
theorem d_Lw_law_431 : decode code 431 = .ok (.iadd, 1) := by decide +kernel
theorem d_Lw_law_432 : decode code 432 = .ok (.iaload, 1) := by decide +kernel
theorem d_Lw_law_433 : decode code 433 = .ok (.ifCond .eq 7, 3) := by decide +kernel
theorem d_Lw_law_436 : decode code 436 = .ok (.iconst 1, 1) := by decide +kernel
theorem d_Lw_law_437 : decode code 437 = .ok (.goto 4, 3) := by decide +kernel
theorem d_Lw_law_440 : decode code 440 = .ok (.iconst 0, 1) := by decide +kernel
theorem d_Lw_law_441 : decode code 441 = .ok (.invokevirtual 55, 3) := by decide +kernel
theorem d_Lw_law_444 : decode code 444 = .ok (.if_icmp .eq 620, 3) := by decide +kernel
theorem d_Lw_law_447 : decode code 447 = .ok (.iconst 0, 1) := by decide +kernel
theorem d_Lw_law_448 : decode code 448 = .ok (.ireturn, 1) := by decide +kernel
theorem d_Lw_law_449 : decode code 449 = .ok (.aload_n 1, 1) := by decide +kernel
theorem d_Lw_law_450 : decode code 450 = .ok (.aload_n 0, 1) := by decide +kernel
theorem d_Lw_law_451 : decode code 451 = .ok (.iload_n 3, 1) := by decide +kernel
theorem d_Lw_law_452 : decode code 452 = .ok (.iconst 1, 1) := by decide +kernel
theorem d_Lw_law_453 : decode code 453 = .ok (.iadd, 1) := by decide +kernel
theorem d_Lw_law_454 : decode code 454 = .ok (.iaload, 1) := by decide +kernel
theorem d_Lw_law_455 : decode code 455 = .ok (.aload_n 0, 1) := by decide +kernel
theorem d_Lw_law_456 : decode code 456 = .ok (.iload_n 3, 1) := by decide +kernel
theorem d_Lw_law_457 : decode code 457 = .ok (.iconst 2, 1) := by decide +kernel
theorem d_Lw_law_458 : decode code 458 = .ok (.iadd, 1) := by decide +kernel
theorem d_Lw_law_459 : decode code 459 = .ok (.iaload, 1) := by decide +kernel
theorem d_Lw_law_460 : decode code 460 = .ok (.aload_n 0, 1) := by decide +kernel
theorem d_Lw_law_461 : decode code 461 = .ok (.iload_n 3, 1) := by decide +kernel
theorem d_Lw_law_462 : decode code 462 = .ok (.iconst 3, 1) := by decide +kernel
theorem d_Lw_law_463 : decode code 463 = .ok (.iadd, 1) := by decide +kernel
theorem d_Lw_law_464 : decode code 464 = .ok (.iaload, 1) := by decide +kernel
theorem d_Lw_law_465 : decode code 465 = .ok (.invokevirtual 56, 3) := by decide +kernel
theorem d_Lw_law_468 : decode code 468 = .ok (.aload_n 2, 1) := by decide +kernel
theorem d_Lw_law_469 : decode code 469 = .ok (.aload_n 0, 1) := by decide +kernel
theorem d_Lw_law_470 : decode code 470 = .ok (.iload_n 3, 1) := by decide +kernel
theorem d_Lw_law_471 : decode code 471 = .ok (.iconst 1, 1) := by decide +kernel
theorem d_Lw_law_472 : decode code 472 = .ok (.iadd, 1) := by decide +kernel
theorem d_Lw_law_473 : decode code 473 = .ok (.iaload, 1) := by decide +kernel
theorem d_Lw_law_474 : decode code 474 = .ok (.aload_n 0, 1) := by decide +kernel
theorem d_Lw_law_475 : decode code 475 = .ok (.iload_n 3, 1) := by decide +kernel
theorem d_Lw_law_476 : decode code 476 = .ok (.iconst 2, 1) := by decide +kernel
theorem d_Lw_law_477 : decode code 477 = .ok (.iadd, 1) := by decide +kernel
theorem d_Lw_law_478 : decode code 478 = .ok (.iaload, 1) := by decide +kernel
theorem d_Lw_law_479 : decode code 479 = .ok (.aload_n 0, 1) := by decide +kernel
theorem d_Lw_law_480 : decode code 480 = .ok (.iload_n 3, 1) := by decide +kernel
theorem d_Lw_law_481 : decode code 481 = .ok (.iconst 3, 1) := by decide +kernel
theorem d_Lw_law_482 : decode code 482 = .ok (.iadd, 1) := by decide +kernel
theorem d_Lw_law_483 : decode code 483 = .ok (.iaload, 1) := by decide +kernel
theorem d_Lw_law_484 : decode code 484 = .ok (.invokevirtual 60, 3) := by decide +kernel
theorem d_Lw_law_487 : decode code 487 = .ok (.if_icmp .eq 577, 3) := by decide +kernel
theorem d_Lw_law_490 : decode code 490 = .ok (.iconst 0, 1) := by decide +kernel
theorem d_Lw_law_491 : decode code 491 = .ok (.ireturn, 1) := by decide +kernel
theorem d_Lw_law_492 : decode code 492 = .ok (.aload_n 1, 1) := by decide +kernel
theorem d_Lw_law_493 : decode code 493 = .ok (.invokevirtual 61, 3) := by decide +kernel
theorem d_Lw_law_496 : decode code 496 = .ok (.aload_n 2, 1) := by decide +kernel
theorem d_Lw_law_497 : decode code 497 = .ok (.invokevirtual 64, 3) := by decide +kernel
theorem d_Lw_law_500 : decode code 500 = .ok (.if_icmp .eq 564, 3) := by decide +kernel
theorem d_Lw_law_503 : decode code 503 = .ok (.iconst 0, 1) := by decide +kernel
theorem d_Lw_law_504 : decode code 504 = .ok (.ireturn, 1) := by decide +kernel
theorem d_Lw_law_505 : decode code 505 = .ok (.aload_n 1, 1) := by decide +kernel
theorem d_Lw_law_506 : decode code 506 = .ok (.aload_n 0, 1) := by decide +kernel
theorem d_Lw_law_507 : decode code 507 = .ok (.iload_n 3, 1) := by decide +kernel
theorem d_Lw_law_508 : decode code 508 = .ok (.iconst 1, 1) := by decide +kernel
theorem d_Lw_law_509 : decode code 509 = .ok (.iadd, 1) := by decide +kernel
theorem d_Lw_law_510 : decode code 510 = .ok (.iaload, 1) := by decide +kernel
theorem d_Lw_law_511 : decode code 511 = .ok (.invokevirtual 65, 3) := by decide +kernel
theorem d_Lw_law_514 : decode code 514 = .ok (.aload_n 2, 1) := by decide +kernel
theorem d_Lw_law_515 : decode code 515 = .ok (.aload_n 0, 1) := by decide +kernel
theorem d_Lw_law_516 : decode code 516 = .ok (.iload_n 3, 1) := by decide +kernel
theorem d_Lw_law_517 : decode code 517 = .ok (.iconst 1, 1) := by decide +kernel
theorem d_Lw_law_518 : decode code 518 = .ok (.iadd, 1) := by decide +kernel
theorem d_Lw_law_519 : decode code 519 = .ok (.iaload, 1) := by decide +kernel
theorem d_Lw_law_520 : decode code 520 = .ok (.invokevirtual 68, 3) := by decide +kernel
theorem d_Lw_law_523 : decode code 523 = .ok (.if_icmp .eq 541, 3) := by decide +kernel
theorem d_Lw_law_526 : decode code 526 = .ok (.iconst 0, 1) := by decide +kernel
theorem d_Lw_law_527 : decode code 527 = .ok (.ireturn, 1) := by decide +kernel
theorem d_Lw_law_528 : decode code 528 = .ok (.aload_n 1, 1) := by decide +kernel
theorem d_Lw_law_529 : decode code 529 = .ok (.aload_n 0, 1) := by decide +kernel
theorem d_Lw_law_530 : decode code 530 = .ok (.iload_n 3, 1) := by decide +kernel
theorem d_Lw_law_531 : decode code 531 = .ok (.iconst 1, 1) := by decide +kernel
theorem d_Lw_law_532 : decode code 532 = .ok (.iadd, 1) := by decide +kernel
theorem d_Lw_law_533 : decode code 533 = .ok (.iaload, 1) := by decide +kernel
theorem d_Lw_law_534 : decode code 534 = .ok (.aload_n 0, 1) := by decide +kernel
theorem d_Lw_law_535 : decode code 535 = .ok (.iload_n 3, 1) := by decide +kernel
theorem d_Lw_law_536 : decode code 536 = .ok (.iconst 2, 1) := by decide +kernel
theorem d_Lw_law_537 : decode code 537 = .ok (.iadd, 1) := by decide +kernel
theorem d_Lw_law_538 : decode code 538 = .ok (.iaload, 1) := by decide +kernel
theorem d_Lw_law_539 : decode code 539 = .ok (.aload_n 0, 1) := by decide +kernel
theorem d_Lw_law_540 : decode code 540 = .ok (.iload_n 3, 1) := by decide +kernel
theorem d_Lw_law_541 : decode code 541 = .ok (.iconst 3, 1) := by decide +kernel
theorem d_Lw_law_542 : decode code 542 = .ok (.iadd, 1) := by decide +kernel
theorem d_Lw_law_543 : decode code 543 = .ok (.iaload, 1) := by decide +kernel
theorem d_Lw_law_544 : decode code 544 = .ok (.aload_n 0, 1) := by decide +kernel
theorem d_Lw_law_545 : decode code 545 = .ok (.iload_n 3, 1) := by decide +kernel
theorem d_Lw_law_546 : decode code 546 = .ok (.iconst 4, 1) := by decide +kernel
theorem d_Lw_law_547 : decode code 547 = .ok (.iadd, 1) := by decide +kernel
theorem d_Lw_law_548 : decode code 548 = .ok (.iaload, 1) := by decide +kernel
theorem d_Lw_law_549 : decode code 549 = .ok (.invokevirtual 69, 3) := by decide +kernel
theorem d_Lw_law_552 : decode code 552 = .ok (.aload_n 2, 1) := by decide +kernel
theorem d_Lw_law_553 : decode code 553 = .ok (.aload_n 0, 1) := by decide +kernel
theorem d_Lw_law_554 : decode code 554 = .ok (.iload_n 3, 1) := by decide +kernel
theorem d_Lw_law_555 : decode code 555 = .ok (.iconst 1, 1) := by decide +kernel
theorem d_Lw_law_556 : decode code 556 = .ok (.iadd, 1) := by decide +kernel
theorem d_Lw_law_557 : decode code 557 = .ok (.iaload, 1) := by decide +kernel
theorem d_Lw_law_558 : decode code 558 = .ok (.aload_n 0, 1) := by decide +kernel
theorem d_Lw_law_559 : decode code 559 = .ok (.iload_n 3, 1) := by decide +kernel
theorem d_Lw_law_560 : decode code 560 = .ok (.iconst 2, 1) := by decide +kernel
theorem d_Lw_law_561 : decode code 561 = .ok (.iadd, 1) := by decide +kernel
theorem d_Lw_law_562 : decode code 562 = .ok (.iaload, 1) := by decide +kernel
theorem d_Lw_law_563 : decode code 563 = .ok (.aload_n 0, 1) := by decide +kernel
theorem d_Lw_law_564 : decode code 564 = .ok (.iload_n 3, 1) := by decide +kernel
theorem d_Lw_law_565 : decode code 565 = .ok (.iconst 3, 1) := by decide +kernel
theorem d_Lw_law_566 : decode code 566 = .ok (.iadd, 1) := by decide +kernel
theorem d_Lw_law_567 : decode code 567 = .ok (.iaload, 1) := by decide +kernel
theorem d_Lw_law_568 : decode code 568 = .ok (.aload_n 0, 1) := by decide +kernel
theorem d_Lw_law_569 : decode code 569 = .ok (.iload_n 3, 1) := by decide +kernel
theorem d_Lw_law_570 : decode code 570 = .ok (.iconst 4, 1) := by decide +kernel
theorem d_Lw_law_571 : decode code 571 = .ok (.iadd, 1) := by decide +kernel
theorem d_Lw_law_572 : decode code 572 = .ok (.iaload, 1) := by decide +kernel
theorem d_Lw_law_573 : decode code 573 = .ok (.invokevirtual 73, 3) := by decide +kernel
theorem d_Lw_law_576 : decode code 576 = .ok (.if_icmp .eq 488, 3) := by decide +kernel
theorem d_Lw_law_579 : decode code 579 = .ok (.iconst 0, 1) := by decide +kernel
theorem d_Lw_law_580 : decode code 580 = .ok (.ireturn, 1) := by decide +kernel
theorem d_Lw_law_581 : decode code 581 = .ok (.aload_n 1, 1) := by decide +kernel
theorem d_Lw_law_582 : decode code 582 = .ok (.aload_n 0, 1) := by decide +kernel
theorem d_Lw_law_583 : decode code 583 = .ok (.iload_n 3, 1) := by decide +kernel
theorem d_Lw_law_584 : decode code 584 = .ok (.iconst 1, 1) := by decide +kernel
theorem d_Lw_law_585 : decode code 585 = .ok (.iadd, 1) := by decide +kernel
theorem d_Lw_law_586 : decode code 586 = .ok (.iaload, 1) := by decide +kernel
theorem d_Lw_law_587 : decode code 587 = .ok (.invokevirtual 74, 3) := by decide +kernel
theorem d_Lw_law_590 : decode code 590 = .ok (.aload_n 2, 1) := by decide +kernel
theorem d_Lw_law_591 : decode code 591 = .ok (.aload_n 0, 1) := by decide +kernel
theorem d_Lw_law_592 : decode code 592 = .ok (.iload_n 3, 1) := by decide +kernel
theorem d_Lw_law_593 : decode code 593 = .ok (.iconst 1, 1) := by decide +kernel
theorem d_Lw_law_594 : decode code 594 = .ok (.iadd, 1) := by decide +kernel
theorem d_Lw_law_595 : decode code 595 = .ok (.iaload, 1) := by decide +kernel
theorem d_Lw_law_596 : decode code 596 = .ok (.invokevirtual 77, 3) := by decide +kernel
theorem d_Lw_law_599 : decode code 599 = .ok (.if_icmp .eq 465, 3) := by decide +kernel
theorem d_Lw_law_602 : decode code 602 = .ok (.iconst 0, 1) := by decide +kernel
theorem d_Lw_law_603 : decode code 603 = .ok (.ireturn, 1) := by decide +kernel
theorem d_Lw_law_604 : decode code 604 = .ok (.aload_n 1, 1) := by decide +kernel
theorem d_Lw_law_605 : decode code 605 = .ok (.invokevirtual 78, 3) := by decide +kernel
theorem d_Lw_law_608 : decode code 608 = .ok (.aload_n 2, 1) := by decide +kernel
theorem d_Lw_law_609 : decode code 609 = .ok (.invokevirtual 81, 3) := by decide +kernel
theorem d_Lw_law_612 : decode code 612 = .ok (.if_icmp .eq 452, 3) := by decide +kernel
theorem d_Lw_law_615 : decode code 615 = .ok (.iconst 0, 1) := by decide +kernel
theorem d_Lw_law_616 : decode code 616 = .ok (.ireturn, 1) := by decide +kernel
theorem d_Lw_law_617 : decode code 617 = .ok (.aload_n 1, 1) := by decide +kernel
theorem d_Lw_law_618 : decode code 618 = .ok (.aload_n 0, 1) := by decide +kernel
theorem d_Lw_law_619 : decode code 619 = .ok (.iload_n 3, 1) := by decide +kernel
theorem d_Lw_law_620 : decode code 620 = .ok (.iconst 1, 1) := by decide +kernel
theorem d_Lw_law_621 : decode code 621 = .ok (.iadd, 1) := by decide +kernel
theorem d_Lw_law_622 : decode code 622 = .ok (.iaload, 1) := by decide +kernel
theorem d_Lw_law_623 : decode code 623 = .ok (.invokevirtual 82, 3) := by decide +kernel
theorem d_Lw_law_626 : decode code 626 = .ok (.aload_n 2, 1) := by decide +kernel
theorem d_Lw_law_627 : decode code 627 = .ok (.aload_n 0, 1) := by decide +kernel
theorem d_Lw_law_628 : decode code 628 = .ok (.iload_n 3, 1) := by decide +kernel
theorem d_Lw_law_629 : decode code 629 = .ok (.iconst 1, 1) := by decide +kernel
theorem d_Lw_law_630 : decode code 630 = .ok (.iadd, 1) := by decide +kernel
theorem d_Lw_law_631 : decode code 631 = .ok (.iaload, 1) := by decide +kernel
theorem d_Lw_law_632 : decode code 632 = .ok (.invokevirtual 85, 3) := by decide +kernel
theorem d_Lw_law_635 : decode code 635 = .ok (.if_icmp .eq 429, 3) := by decide +kernel
theorem d_Lw_law_638 : decode code 638 = .ok (.iconst 0, 1) := by decide +kernel
theorem d_Lw_law_639 : decode code 639 = .ok (.ireturn, 1) := by decide +kernel
theorem d_Lw_law_640 : decode code 640 = .ok (.aload_n 1, 1) := by decide +kernel
theorem d_Lw_law_641 : decode code 641 = .ok (.aload_n 0, 1) := by decide +kernel
theorem d_Lw_law_642 : decode code 642 = .ok (.iload_n 3, 1) := by decide +kernel
theorem d_Lw_law_643 : decode code 643 = .ok (.iconst 1, 1) := by decide +kernel
theorem d_Lw_law_644 : decode code 644 = .ok (.iadd, 1) := by decide +kernel
theorem d_Lw_law_645 : decode code 645 = .ok (.iaload, 1) := by decide +kernel
theorem d_Lw_law_646 : decode code 646 = .ok (.invokevirtual 86, 3) := by decide +kernel
theorem d_Lw_law_649 : decode code 649 = .ok (.aload_n 2, 1) := by decide +kernel
theorem d_Lw_law_650 : decode code 650 = .ok (.aload_n 0, 1) := by decide +kernel
theorem d_Lw_law_651 : decode code 651 = .ok (.iload_n 3, 1) := by decide +kernel
theorem d_Lw_law_652 : decode code 652 = .ok (.iconst 1, 1) := by decide +kernel
theorem d_Lw_law_653 : decode code 653 = .ok (.iadd, 1) := by decide +kernel
theorem d_Lw_law_654 : decode code 654 = .ok (.iaload, 1) := by decide +kernel
theorem d_Lw_law_655 : decode code 655 = .ok (.invokevirtual 89, 3) := by decide +kernel
theorem d_Lw_law_658 : decode code 658 = .ok (.if_icmp .eq 406, 3) := by decide +kernel
theorem d_Lw_law_661 : decode code 661 = .ok (.iconst 0, 1) := by decide +kernel
theorem d_Lw_law_662 : decode code 662 = .ok (.ireturn, 1) := by decide +kernel
theorem d_Lw_law_663 : decode code 663 = .ok (.aload_n 1, 1) := by decide +kernel
theorem d_Lw_law_664 : decode code 664 = .ok (.aload_n 0, 1) := by decide +kernel
theorem d_Lw_law_665 : decode code 665 = .ok (.iload_n 3, 1) := by decide +kernel
theorem d_Lw_law_666 : decode code 666 = .ok (.iconst 1, 1) := by decide +kernel
theorem d_Lw_law_667 : decode code 667 = .ok (.iadd, 1) := by decide +kernel
theorem d_Lw_law_668 : decode code 668 = .ok (.iaload, 1) := by decide +kernel
theorem d_Lw_law_669 : decode code 669 = .ok (.aload_n 0, 1) := by decide +kernel
theorem d_Lw_law_670 : decode code 670 = .ok (.iload_n 3, 1) := by decide +kernel
theorem d_Lw_law_671 : decode code 671 = .ok (.iconst 2, 1) := by decide +kernel
theorem d_Lw_law_672 : decode code 672 = .ok (.iadd, 1) := by decide +kernel
theorem d_Lw_law_673 : decode code 673 = .ok (.iaload, 1) := by decide +kernel
theorem d_Lw_law_674 : decode code 674 = .ok (.invokevirtual 90, 3) := by decide +kernel
theorem d_Lw_law_677 : decode code 677 = .ok (.aload_n 2, 1) := by decide +kernel
theorem d_Lw_law_678 : decode code 678 = .ok (.aload_n 0, 1) := by decide +kernel
theorem d_Lw_law_679 : decode code 679 = .ok (.iload_n 3, 1) := by decide +kernel
theorem d_Lw_law_680 : decode code 680 = .ok (.iconst 1, 1) := by decide +kernel
theorem d_Lw_law_681 : decode code 681 = .ok (.iadd, 1) := by decide +kernel
theorem d_Lw_law_682 : decode code 682 = .ok (.iaload, 1) := by decide +kernel
theorem d_Lw_law_683 : decode code 683 = .ok (.aload_n 0, 1) := by decide +kernel
theorem d_Lw_law_684 : decode code 684 = .ok (.iload_n 3, 1) := by decide +kernel
theorem d_Lw_law_685 : decode code 685 = .ok (.iconst 2, 1) := by decide +kernel
theorem d_Lw_law_686 : decode code 686 = .ok (.iadd, 1) := by decide +kernel
theorem d_Lw_law_687 : decode code 687 = .ok (.iaload, 1) := by decide +kernel
theorem d_Lw_law_688 : decode code 688 = .ok (.invokevirtual 93, 3) := by decide +kernel
theorem d_Lw_law_691 : decode code 691 = .ok (.if_icmp .eq 373, 3) := by decide +kernel
theorem d_Lw_law_694 : decode code 694 = .ok (.iconst 0, 1) := by decide +kernel
theorem d_Lw_law_695 : decode code 695 = .ok (.ireturn, 1) := by decide +kernel
theorem d_Lw_law_696 : decode code 696 = .ok (.aload_n 1, 1) := by decide +kernel
theorem d_Lw_law_697 : decode code 697 = .ok (.aload_n 0, 1) := by decide +kernel
theorem d_Lw_law_698 : decode code 698 = .ok (.iload_n 3, 1) := by decide +kernel
theorem d_Lw_law_699 : decode code 699 = .ok (.iconst 1, 1) := by decide +kernel
theorem d_Lw_law_700 : decode code 700 = .ok (.iadd, 1) := by decide +kernel
theorem d_Lw_law_701 : decode code 701 = .ok (.iaload, 1) := by decide +kernel
theorem d_Lw_law_702 : decode code 702 = .ok (.aload_n 0, 1) := by decide +kernel
theorem d_Lw_law_703 : decode code 703 = .ok (.iload_n 3, 1) := by decide +kernel
theorem d_Lw_law_704 : decode code 704 = .ok (.iconst 2, 1) := by decide +kernel
theorem d_Lw_law_705 : decode code 705 = .ok (.iadd, 1) := by decide +kernel
theorem d_Lw_law_706 : decode code 706 = .ok (.iaload, 1) := by decide +kernel
theorem d_Lw_law_707 : decode code 707 = .ok (.invokevirtual 94, 3) := by decide +kernel
theorem d_Lw_law_710 : decode code 710 = .ok (.aload_n 2, 1) := by decide +kernel
theorem d_Lw_law_711 : decode code 711 = .ok (.aload_n 0, 1) := by decide +kernel
theorem d_Lw_law_712 : decode code 712 = .ok (.iload_n 3, 1) := by decide +kernel
theorem d_Lw_law_713 : decode code 713 = .ok (.iconst 1, 1) := by decide +kernel
theorem d_Lw_law_714 : decode code 714 = .ok (.iadd, 1) := by decide +kernel
theorem d_Lw_law_715 : decode code 715 = .ok (.iaload, 1) := by decide +kernel
theorem d_Lw_law_716 : decode code 716 = .ok (.aload_n 0, 1) := by decide +kernel
theorem d_Lw_law_717 : decode code 717 = .ok (.iload_n 3, 1) := by decide +kernel
theorem d_Lw_law_718 : decode code 718 = .ok (.iconst 2, 1) := by decide +kernel
theorem d_Lw_law_719 : decode code 719 = .ok (.iadd, 1) := by decide +kernel
theorem d_Lw_law_720 : decode code 720 = .ok (.iaload, 1) := by decide +kernel
theorem d_Lw_law_721 : decode code 721 = .ok (.invokevirtual 97, 3) := by decide +kernel
theorem d_Lw_law_724 : decode code 724 = .ok (.if_icmp .eq 340, 3) := by decide +kernel
theorem d_Lw_law_727 : decode code 727 = .ok (.iconst 0, 1) := by decide +kernel
theorem d_Lw_law_728 : decode code 728 = .ok (.ireturn, 1) := by decide +kernel
theorem d_Lw_law_729 : decode code 729 = .ok (.aload_n 1, 1) := by decide +kernel
theorem d_Lw_law_730 : decode code 730 = .ok (.invokevirtual 98, 3) := by decide +kernel
theorem d_Lw_law_733 : decode code 733 = .ok (.aload_n 2, 1) := by decide +kernel
theorem d_Lw_law_734 : decode code 734 = .ok (.invokevirtual 101, 3) := by decide +kernel
theorem d_Lw_law_737 : decode code 737 = .ok (.if_icmp .eq 327, 3) := by decide +kernel
theorem d_Lw_law_740 : decode code 740 = .ok (.iconst 0, 1) := by decide +kernel
theorem d_Lw_law_741 : decode code 741 = .ok (.ireturn, 1) := by decide +kernel
theorem d_Lw_law_742 : decode code 742 = .ok (.aload_n 1, 1) := by decide +kernel
theorem d_Lw_law_743 : decode code 743 = .ok (.aload_n 0, 1) := by decide +kernel
theorem d_Lw_law_744 : decode code 744 = .ok (.iload_n 3, 1) := by decide +kernel
theorem d_Lw_law_745 : decode code 745 = .ok (.iconst 1, 1) := by decide +kernel
theorem d_Lw_law_746 : decode code 746 = .ok (.iadd, 1) := by decide +kernel
theorem d_Lw_law_747 : decode code 747 = .ok (.iaload, 1) := by decide +kernel
theorem d_Lw_law_748 : decode code 748 = .ok (.aload_n 0, 1) := by decide +kernel
theorem d_Lw_law_749 : decode code 749 = .ok (.iload_n 3, 1) := by decide +kernel
theorem d_Lw_law_750 : decode code 750 = .ok (.iconst 2, 1) := by decide +kernel
theorem d_Lw_law_751 : decode code 751 = .ok (.iadd, 1) := by decide +kernel
theorem d_Lw_law_752 : decode code 752 = .ok (.iaload, 1) := by decide +kernel
theorem d_Lw_law_753 : decode code 753 = .ok (.invokevirtual 102, 3) := by decide +kernel
theorem d_Lw_law_756 : decode code 756 = .ok (.aload_n 2, 1) := by decide +kernel
theorem d_Lw_law_757 : decode code 757 = .ok (.aload_n 0, 1) := by decide +kernel
theorem d_Lw_law_758 : decode code 758 = .ok (.iload_n 3, 1) := by decide +kernel
theorem d_Lw_law_759 : decode code 759 = .ok (.iconst 1, 1) := by decide +kernel
theorem d_Lw_law_760 : decode code 760 = .ok (.iadd, 1) := by decide +kernel
theorem d_Lw_law_761 : decode code 761 = .ok (.iaload, 1) := by decide +kernel
theorem d_Lw_law_762 : decode code 762 = .ok (.aload_n 0, 1) := by decide +kernel
theorem d_Lw_law_763 : decode code 763 = .ok (.iload_n 3, 1) := by decide +kernel
theorem d_Lw_law_764 : decode code 764 = .ok (.iconst 2, 1) := by decide +kernel
theorem d_Lw_law_765 : decode code 765 = .ok (.iadd, 1) := by decide +kernel
theorem d_Lw_law_766 : decode code 766 = .ok (.iaload, 1) := by decide +kernel
theorem d_Lw_law_767 : decode code 767 = .ok (.invokevirtual 105, 3) := by decide +kernel
theorem d_Lw_law_770 : decode code 770 = .ok (.if_icmp .eq 294, 3) := by decide +kernel
theorem d_Lw_law_773 : decode code 773 = .ok (.iconst 0, 1) := by decide +kernel
theorem d_Lw_law_774 : decode code 774 = .ok (.ireturn, 1) := by decide +kernel
theorem d_Lw_law_775 : decode code 775 = .ok (.aload_n 1, 1) := by decide +kernel
theorem d_Lw_law_776 : decode code 776 = .ok (.invokevirtual 106, 3) := by decide +kernel
theorem d_Lw_law_779 : decode code 779 = .ok (.aload_n 2, 1) := by decide +kernel
theorem d_Lw_law_780 : decode code 780 = .ok (.invokevirtual 109, 3) := by decide +kernel
theorem d_Lw_law_783 : decode code 783 = .ok (.if_icmp .eq 281, 3) := by decide +kernel
theorem d_Lw_law_786 : decode code 786 = .ok (.iconst 0, 1) := by decide +kernel
theorem d_Lw_law_787 : decode code 787 = .ok (.ireturn, 1) := by decide +kernel
theorem d_Lw_law_788 : decode code 788 = .ok (.aload_n 1, 1) := by decide +kernel
theorem d_Lw_law_789 : decode code 789 = .ok (.aload_n 0, 1) := by decide +kernel
theorem d_Lw_law_790 : decode code 790 = .ok (.iload_n 3, 1) := by decide +kernel
theorem d_Lw_law_791 : decode code 791 = .ok (.iconst 1, 1) := by decide +kernel
theorem d_Lw_law_792 : decode code 792 = .ok (.iadd, 1) := by decide +kernel
theorem d_Lw_law_793 : decode code 793 = .ok (.iaload, 1) := by decide +kernel
theorem d_Lw_law_794 : decode code 794 = .ok (.aload_n 0, 1) := by decide +kernel
theorem d_Lw_law_795 : decode code 795 = .ok (.iload_n 3, 1) := by decide +kernel
theorem d_Lw_law_796 : decode code 796 = .ok (.iconst 2, 1) := by decide +kernel
theorem d_Lw_law_797 : decode code 797 = .ok (.iadd, 1) := by decide +kernel
theorem d_Lw_law_798 : decode code 798 = .ok (.iaload, 1) := by decide +kernel
theorem d_Lw_law_799 : decode code 799 = .ok (.invokevirtual 110, 3) := by decide +kernel
theorem d_Lw_law_802 : decode code 802 = .ok (.aload_n 2, 1) := by decide +kernel
theorem d_Lw_law_803 : decode code 803 = .ok (.aload_n 0, 1) := by decide +kernel
theorem d_Lw_law_804 : decode code 804 = .ok (.iload_n 3, 1) := by decide +kernel
theorem d_Lw_law_805 : decode code 805 = .ok (.iconst 1, 1) := by decide +kernel
theorem d_Lw_law_806 : decode code 806 = .ok (.iadd, 1) := by decide +kernel
theorem d_Lw_law_807 : decode code 807 = .ok (.iaload, 1) := by decide +kernel
theorem d_Lw_law_808 : decode code 808 = .ok (.aload_n 0, 1) := by decide +kernel
theorem d_Lw_law_809 : decode code 809 = .ok (.iload_n 3, 1) := by decide +kernel
theorem d_Lw_law_810 : decode code 810 = .ok (.iconst 2, 1) := by decide +kernel
theorem d_Lw_law_811 : decode code 811 = .ok (.iadd, 1) := by decide +kernel
theorem d_Lw_law_812 : decode code 812 = .ok (.iaload, 1) := by decide +kernel
theorem d_Lw_law_813 : decode code 813 = .ok (.invokevirtual 113, 3) := by decide +kernel
theorem d_Lw_law_816 : decode code 816 = .ok (.if_icmp .eq 248, 3) := by decide +kernel
theorem d_Lw_law_819 : decode code 819 = .ok (.iconst 0, 1) := by decide +kernel
theorem d_Lw_law_820 : decode code 820 = .ok (.ireturn, 1) := by decide +kernel
theorem d_Lw_law_821 : decode code 821 = .ok (.aload_n 1, 1) := by decide +kernel
theorem d_Lw_law_822 : decode code 822 = .ok (.aload_n 0, 1) := by decide +kernel
theorem d_Lw_law_823 : decode code 823 = .ok (.iload_n 3, 1) := by decide +kernel
theorem d_Lw_law_824 : decode code 824 = .ok (.iconst 1, 1) := by decide +kernel
theorem d_Lw_law_825 : decode code 825 = .ok (.iadd, 1) := by decide +kernel
theorem d_Lw_law_826 : decode code 826 = .ok (.iaload, 1) := by decide +kernel
theorem d_Lw_law_827 : decode code 827 = .ok (.aload_n 0, 1) := by decide +kernel
theorem d_Lw_law_828 : decode code 828 = .ok (.iload_n 3, 1) := by decide +kernel
theorem d_Lw_law_829 : decode code 829 = .ok (.iconst 2, 1) := by decide +kernel
theorem d_Lw_law_830 : decode code 830 = .ok (.iadd, 1) := by decide +kernel
theorem d_Lw_law_831 : decode code 831 = .ok (.iaload, 1) := by decide +kernel
theorem d_Lw_law_832 : decode code 832 = .ok (.invokevirtual 114, 3) := by decide +kernel
theorem d_Lw_law_835 : decode code 835 = .ok (.aload_n 2, 1) := by decide +kernel
theorem d_Lw_law_836 : decode code 836 = .ok (.aload_n 0, 1) := by decide +kernel
theorem d_Lw_law_837 : decode code 837 = .ok (.iload_n 3, 1) := by decide +kernel
theorem d_Lw_law_838 : decode code 838 = .ok (.iconst 1, 1) := by decide +kernel
theorem d_Lw_law_839 : decode code 839 = .ok (.iadd, 1) := by decide +kernel
theorem d_Lw_law_840 : decode code 840 = .ok (.iaload, 1) := by decide +kernel
theorem d_Lw_law_841 : decode code 841 = .ok (.aload_n 0, 1) := by decide +kernel
theorem d_Lw_law_842 : decode code 842 = .ok (.iload_n 3, 1) := by decide +kernel
theorem d_Lw_law_843 : decode code 843 = .ok (.iconst 2, 1) := by decide +kernel
theorem d_Lw_law_844 : decode code 844 = .ok (.iadd, 1) := by decide +kernel
theorem d_Lw_law_845 : decode code 845 = .ok (.iaload, 1) := by decide +kernel
theorem d_Lw_law_846 : decode code 846 = .ok (.invokevirtual 117, 3) := by decide +kernel
theorem d_Lw_law_849 : decode code 849 = .ok (.if_icmp .eq 215, 3) := by decide +kernel
theorem d_Lw_law_852 : decode code 852 = .ok (.iconst 0, 1) := by decide +kernel
theorem d_Lw_law_853 : decode code 853 = .ok (.ireturn, 1) := by decide +kernel
theorem d_Lw_law_854 : decode code 854 = .ok (.aload_n 1, 1) := by decide +kernel
theorem d_Lw_law_855 : decode code 855 = .ok (.aload_n 0, 1) := by decide +kernel
theorem d_Lw_law_856 : decode code 856 = .ok (.iload_n 3, 1) := by decide +kernel
theorem d_Lw_law_857 : decode code 857 = .ok (.iconst 1, 1) := by decide +kernel
theorem d_Lw_law_858 : decode code 858 = .ok (.iadd, 1) := by decide +kernel
theorem d_Lw_law_859 : decode code 859 = .ok (.iaload, 1) := by decide +kernel
theorem d_Lw_law_860 : decode code 860 = .ok (.invokevirtual 118, 3) := by decide +kernel
theorem d_Lw_law_863 : decode code 863 = .ok (.aload_n 2, 1) := by decide +kernel
theorem d_Lw_law_864 : decode code 864 = .ok (.aload_n 0, 1) := by decide +kernel
theorem d_Lw_law_865 : decode code 865 = .ok (.iload_n 3, 1) := by decide +kernel
theorem d_Lw_law_866 : decode code 866 = .ok (.iconst 1, 1) := by decide +kernel
theorem d_Lw_law_867 : decode code 867 = .ok (.iadd, 1) := by decide +kernel
theorem d_Lw_law_868 : decode code 868 = .ok (.iaload, 1) := by decide +kernel
theorem d_Lw_law_869 : decode code 869 = .ok (.invokevirtual 121, 3) := by decide +kernel
theorem d_Lw_law_872 : decode code 872 = .ok (.if_icmp .eq 192, 3) := by decide +kernel
theorem d_Lw_law_875 : decode code 875 = .ok (.iconst 0, 1) := by decide +kernel
theorem d_Lw_law_876 : decode code 876 = .ok (.ireturn, 1) := by decide +kernel
theorem d_Lw_law_877 : decode code 877 = .ok (.aload_n 1, 1) := by decide +kernel
theorem d_Lw_law_878 : decode code 878 = .ok (.aload_n 0, 1) := by decide +kernel
theorem d_Lw_law_879 : decode code 879 = .ok (.iload_n 3, 1) := by decide +kernel
theorem d_Lw_law_880 : decode code 880 = .ok (.iconst 1, 1) := by decide +kernel
theorem d_Lw_law_881 : decode code 881 = .ok (.iadd, 1) := by decide +kernel
theorem d_Lw_law_882 : decode code 882 = .ok (.iaload, 1) := by decide +kernel
theorem d_Lw_law_883 : decode code 883 = .ok (.aload_n 0, 1) := by decide +kernel
theorem d_Lw_law_884 : decode code 884 = .ok (.iload_n 3, 1) := by decide +kernel
theorem d_Lw_law_885 : decode code 885 = .ok (.iconst 2, 1) := by decide +kernel
theorem d_Lw_law_886 : decode code 886 = .ok (.iadd, 1) := by decide +kernel
theorem d_Lw_law_887 : decode code 887 = .ok (.iaload, 1) := by decide +kernel
theorem d_Lw_law_888 : decode code 888 = .ok (.aload_n 0, 1) := by decide +kernel
theorem d_Lw_law_889 : decode code 889 = .ok (.iload_n 3, 1) := by decide +kernel
theorem d_Lw_law_890 : decode code 890 = .ok (.iconst 3, 1) := by decide +kernel
theorem d_Lw_law_891 : decode code 891 = .ok (.iadd, 1) := by decide +kernel
theorem d_Lw_law_892 : decode code 892 = .ok (.iaload, 1) := by decide +kernel
theorem d_Lw_law_893 : decode code 893 = .ok (.ifCond .eq 7, 3) := by decide +kernel
theorem d_Lw_law_896 : decode code 896 = .ok (.iconst 1, 1) := by decide +kernel
theorem d_Lw_law_897 : decode code 897 = .ok (.goto 4, 3) := by decide +kernel
theorem d_Lw_law_900 : decode code 900 = .ok (.iconst 0, 1) := by decide +kernel
theorem d_Lw_law_901 : decode code 901 = .ok (.invokevirtual 122, 3) := by decide +kernel
theorem d_Lw_law_904 : decode code 904 = .ok (.aload_n 2, 1) := by decide +kernel
theorem d_Lw_law_905 : decode code 905 = .ok (.aload_n 0, 1) := by decide +kernel
theorem d_Lw_law_906 : decode code 906 = .ok (.iload_n 3, 1) := by decide +kernel
theorem d_Lw_law_907 : decode code 907 = .ok (.iconst 1, 1) := by decide +kernel
theorem d_Lw_law_908 : decode code 908 = .ok (.iadd, 1) := by decide +kernel
theorem d_Lw_law_909 : decode code 909 = .ok (.iaload, 1) := by decide +kernel
theorem d_Lw_law_910 : decode code 910 = .ok (.aload_n 0, 1) := by decide +kernel
theorem d_Lw_law_911 : decode code 911 = .ok (.iload_n 3, 1) := by decide +kernel
theorem d_Lw_law_912 : decode code 912 = .ok (.iconst 2, 1) := by decide +kernel
theorem d_Lw_law_913 : decode code 913 = .ok (.iadd, 1) := by decide +kernel
theorem d_Lw_law_914 : decode code 914 = .ok (.iaload, 1) := by decide +kernel
theorem d_Lw_law_915 : decode code 915 = .ok (.aload_n 0, 1) := by decide +kernel
theorem d_Lw_law_916 : decode code 916 = .ok (.iload_n 3, 1) := by decide +kernel
theorem d_Lw_law_917 : decode code 917 = .ok (.iconst 3, 1) := by decide +kernel
theorem d_Lw_law_918 : decode code 918 = .ok (.iadd, 1) := by decide +kernel
theorem d_Lw_law_919 : decode code 919 = .ok (.iaload, 1) := by decide +kernel
theorem d_Lw_law_920 : decode code 920 = .ok (.ifCond .eq 7, 3) := by decide +kernel
theorem d_Lw_law_923 : decode code 923 = .ok (.iconst 1, 1) := by decide +kernel
theorem d_Lw_law_924 : decode code 924 = .ok (.goto 4, 3) := by decide +kernel
theorem d_Lw_law_927 : decode code 927 = .ok (.iconst 0, 1) := by decide +kernel
theorem d_Lw_law_928 : decode code 928 = .ok (.invokevirtual 125, 3) := by decide +kernel
theorem d_Lw_law_931 : decode code 931 = .ok (.if_icmp .eq 133, 3) := by decide +kernel
theorem d_Lw_law_934 : decode code 934 = .ok (.iconst 0, 1) := by decide +kernel
theorem d_Lw_law_935 : decode code 935 = .ok (.ireturn, 1) := by decide +kernel
theorem d_Lw_law_936 : decode code 936 = .ok (.aload_n 1, 1) := by decide +kernel
theorem d_Lw_law_937 : decode code 937 = .ok (.invokevirtual 126, 3) := by decide +kernel
theorem d_Lw_law_940 : decode code 940 = .ok (.aload_n 2, 1) := by decide +kernel
theorem d_Lw_law_941 : decode code 941 = .ok (.invokevirtual 129, 3) := by decide +kernel
theorem d_Lw_law_944 : decode code 944 = .ok (.if_icmp .eq 120, 3) := by decide +kernel
theorem d_Lw_law_947 : decode code 947 = .ok (.iconst 0, 1) := by decide +kernel
theorem d_Lw_law_948 : decode code 948 = .ok (.ireturn, 1) := by decide +kernel
theorem d_Lw_law_949 : decode code 949 = .ok (.aload_n 1, 1) := by decide +kernel
theorem d_Lw_law_950 : decode code 950 = .ok (.aload_n 0, 1) := by decide +kernel
theorem d_Lw_law_951 : decode code 951 = .ok (.iload_n 3, 1) := by decide +kernel
theorem d_Lw_law_952 : decode code 952 = .ok (.iconst 1, 1) := by decide +kernel
theorem d_Lw_law_953 : decode code 953 = .ok (.iadd, 1) := by decide +kernel
theorem d_Lw_law_954 : decode code 954 = .ok (.iaload, 1) := by decide +kernel
theorem d_Lw_law_955 : decode code 955 = .ok (.invokevirtual 130, 3) := by decide +kernel
theorem d_Lw_law_958 : decode code 958 = .ok (.aload_n 2, 1) := by decide +kernel
theorem d_Lw_law_959 : decode code 959 = .ok (.aload_n 0, 1) := by decide +kernel
theorem d_Lw_law_960 : decode code 960 = .ok (.iload_n 3, 1) := by decide +kernel
theorem d_Lw_law_961 : decode code 961 = .ok (.iconst 1, 1) := by decide +kernel
theorem d_Lw_law_962 : decode code 962 = .ok (.iadd, 1) := by decide +kernel
theorem d_Lw_law_963 : decode code 963 = .ok (.iaload, 1) := by decide +kernel
theorem d_Lw_law_964 : decode code 964 = .ok (.invokevirtual 133, 3) := by decide +kernel
theorem d_Lw_law_967 : decode code 967 = .ok (.if_icmp .eq 97, 3) := by decide +kernel
theorem d_Lw_law_970 : decode code 970 = .ok (.iconst 0, 1) := by decide +kernel
theorem d_Lw_law_971 : decode code 971 = .ok (.ireturn, 1) := by decide +kernel
theorem d_Lw_law_972 : decode code 972 = .ok (.aload_n 1, 1) := by decide +kernel
theorem d_Lw_law_973 : decode code 973 = .ok (.aload_n 0, 1) := by decide +kernel
theorem d_Lw_law_974 : decode code 974 = .ok (.iload_n 3, 1) := by decide +kernel
theorem d_Lw_law_975 : decode code 975 = .ok (.iconst 1, 1) := by decide +kernel
theorem d_Lw_law_976 : decode code 976 = .ok (.iadd, 1) := by decide +kernel
theorem d_Lw_law_977 : decode code 977 = .ok (.iaload, 1) := by decide +kernel
theorem d_Lw_law_978 : decode code 978 = .ok (.invokevirtual 134, 3) := by decide +kernel
theorem d_Lw_law_981 : decode code 981 = .ok (.aload_n 2, 1) := by decide +kernel
theorem d_Lw_law_982 : decode code 982 = .ok (.aload_n 0, 1) := by decide +kernel
theorem d_Lw_law_983 : decode code 983 = .ok (.iload_n 3, 1) := by decide +kernel
theorem d_Lw_law_984 : decode code 984 = .ok (.iconst 1, 1) := by decide +kernel
theorem d_Lw_law_985 : decode code 985 = .ok (.iadd, 1) := by decide +kernel
theorem d_Lw_law_986 : decode code 986 = .ok (.iaload, 1) := by decide +kernel
theorem d_Lw_law_987 : decode code 987 = .ok (.invokevirtual 137, 3) := by decide +kernel
theorem d_Lw_law_990 : decode code 990 = .ok (.if_icmp .eq 74, 3) := by decide +kernel
theorem d_Lw_law_993 : decode code 993 = .ok (.iconst 0, 1) := by decide +kernel
theorem d_Lw_law_994 : decode code 994 = .ok (.ireturn, 1) := by decide +kernel
theorem d_Lw_law_995 : decode code 995 = .ok (.aload_n 1, 1) := by decide +kernel
theorem d_Lw_law_996 : decode code 996 = .ok (.aload_n 0, 1) := by decide +kernel
theorem d_Lw_law_997 : decode code 997 = .ok (.iload_n 3, 1) := by decide +kernel
theorem d_Lw_law_998 : decode code 998 = .ok (.iconst 1, 1) := by decide +kernel
theorem d_Lw_law_999 : decode code 999 = .ok (.iadd, 1) := by decide +kernel
theorem d_Lw_law_1000 : decode code 1000 = .ok (.iaload, 1) := by decide +kernel
theorem d_Lw_law_1001 : decode code 1001 = .ok (.invokevirtual 138, 3) := by decide +kernel
theorem d_Lw_law_1004 : decode code 1004 = .ok (.aload_n 2, 1) := by decide +kernel
theorem d_Lw_law_1005 : decode code 1005 = .ok (.aload_n 0, 1) := by decide +kernel
theorem d_Lw_law_1006 : decode code 1006 = .ok (.iload_n 3, 1) := by decide +kernel
theorem d_Lw_law_1007 : decode code 1007 = .ok (.iconst 1, 1) := by decide +kernel
theorem d_Lw_law_1008 : decode code 1008 = .ok (.iadd, 1) := by decide +kernel
theorem d_Lw_law_1009 : decode code 1009 = .ok (.iaload, 1) := by decide +kernel
theorem d_Lw_law_1010 : decode code 1010 = .ok (.invokevirtual 141, 3) := by decide +kernel
theorem d_Lw_law_1013 : decode code 1013 = .ok (.if_icmp .eq 51, 3) := by decide +kernel
theorem d_Lw_law_1016 : decode code 1016 = .ok (.iconst 0, 1) := by decide +kernel
theorem d_Lw_law_1017 : decode code 1017 = .ok (.ireturn, 1) := by decide +kernel
theorem d_Lw_law_1018 : decode code 1018 = .ok (.aload_n 1, 1) := by decide +kernel
theorem d_Lw_law_1019 : decode code 1019 = .ok (.aload_n 0, 1) := by decide +kernel
theorem d_Lw_law_1020 : decode code 1020 = .ok (.iload_n 3, 1) := by decide +kernel
theorem d_Lw_law_1021 : decode code 1021 = .ok (.iconst 1, 1) := by decide +kernel
theorem d_Lw_law_1022 : decode code 1022 = .ok (.iadd, 1) := by decide +kernel
theorem d_Lw_law_1023 : decode code 1023 = .ok (.iaload, 1) := by decide +kernel
theorem d_Lw_law_1024 : decode code 1024 = .ok (.invokevirtual 142, 3) := by decide +kernel
theorem d_Lw_law_1027 : decode code 1027 = .ok (.aload_n 2, 1) := by decide +kernel
theorem d_Lw_law_1028 : decode code 1028 = .ok (.aload_n 0, 1) := by decide +kernel
theorem d_Lw_law_1029 : decode code 1029 = .ok (.iload_n 3, 1) := by decide +kernel
theorem d_Lw_law_1030 : decode code 1030 = .ok (.iconst 1, 1) := by decide +kernel
theorem d_Lw_law_1031 : decode code 1031 = .ok (.iadd, 1) := by decide +kernel
theorem d_Lw_law_1032 : decode code 1032 = .ok (.iaload, 1) := by decide +kernel
theorem d_Lw_law_1033 : decode code 1033 = .ok (.invokevirtual 145, 3) := by decide +kernel
theorem d_Lw_law_1036 : decode code 1036 = .ok (.if_icmp .eq 28, 3) := by decide +kernel
theorem d_Lw_law_1039 : decode code 1039 = .ok (.iconst 0, 1) := by decide +kernel
theorem d_Lw_law_1040 : decode code 1040 = .ok (.ireturn, 1) := by decide +kernel
theorem d_Lw_law_1041 : decode code 1041 = .ok (.aload_n 1, 1) := by decide +kernel
theorem d_Lw_law_1042 : decode code 1042 = .ok (.aload_n 0, 1) := by decide +kernel
theorem d_Lw_law_1043 : decode code 1043 = .ok (.iload_n 3, 1) := by decide +kernel
theorem d_Lw_law_1044 : decode code 1044 = .ok (.iconst 1, 1) := by decide +kernel
theorem d_Lw_law_1045 : decode code 1045 = .ok (.iadd, 1) := by decide +kernel
theorem d_Lw_law_1046 : decode code 1046 = .ok (.iaload, 1) := by decide +kernel
theorem d_Lw_law_1047 : decode code 1047 = .ok (.invokevirtual 146, 3) := by decide +kernel
theorem d_Lw_law_1050 : decode code 1050 = .ok (.aload_n 2, 1) := by decide +kernel
theorem d_Lw_law_1051 : decode code 1051 = .ok (.aload_n 0, 1) := by decide +kernel
theorem d_Lw_law_1052 : decode code 1052 = .ok (.iload_n 3, 1) := by decide +kernel
theorem d_Lw_law_1053 : decode code 1053 = .ok (.iconst 1, 1) := by decide +kernel
theorem d_Lw_law_1054 : decode code 1054 = .ok (.iadd, 1) := by decide +kernel
theorem d_Lw_law_1055 : decode code 1055 = .ok (.iaload, 1) := by decide +kernel
theorem d_Lw_law_1056 : decode code 1056 = .ok (.invokevirtual 149, 3) := by decide +kernel
theorem d_Lw_law_1059 : decode code 1059 = .ok (.if_icmp .eq 5, 3) := by decide +kernel
theorem d_Lw_law_1062 : decode code 1062 = .ok (.iconst 0, 1) := by decide +kernel
theorem d_Lw_law_1063 : decode code 1063 = .ok (.ireturn, 1) := by decide +kernel
theorem d_Lw_law_1064 : decode code 1064 = .ok (.iinc 3 5, 3) := by decide +kernel
theorem d_Lw_law_1067 : decode code 1067 = .ok (.goto (-1049), 3) := by decide +kernel
theorem d_Lw_law_1070 : decode code 1070 = .ok (.iconst 1, 1) := by decide +kernel
theorem d_Lw_law_1071 : decode code 1071 = .ok (.ireturn, 1) := by decide +kernel

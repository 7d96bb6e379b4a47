theorem dX8_init_0 : decode cX8_init 0 = .ok (.aload_n 0, 1) := by decide +kernel
theorem dX8_init_1 : decode cX8_init 1 = .ok (.invokespecial 1, 3) := by decide +kernel
theorem dX8_init_4 : decode cX8_init 4 = .ok (.aload_n 0, 1) := by decide +kernel
theorem dX8_init_5 : decode cX8_init 5 = .ok (.sipush 210, 3) := by decide +kernel
theorem dX8_init_8 : decode cX8_init 8 = .ok (.newarray .int, 2) := by decide +kernel
theorem dX8_init_10 : decode cX8_init 10 = .ok (.putfield 7, 3) := by decide +kernel
theorem dX8_init_13 : decode cX8_init 13 = .ok (.aload_n 0, 1) := by decide +kernel
theorem dX8_init_14 : decode cX8_init 14 = .ok (.sipush 1260, 3) := by decide +kernel
theorem dX8_init_17 : decode cX8_init 17 = .ok (.newarray .int, 2) := by decide +kernel
theorem dX8_init_19 : decode cX8_init 19 = .ok (.putfield 13, 3) := by decide +kernel
theorem dX8_init_22 : decode cX8_init 22 = .ok (.aload_n 0, 1) := by decide +kernel
theorem dX8_init_23 : decode cX8_init 23 = .ok (.sipush 420, 3) := by decide +kernel
theorem dX8_init_26 : decode cX8_init 26 = .ok (.newarray .int, 2) := by decide +kernel
theorem dX8_init_28 : decode cX8_init 28 = .ok (.putfield 16, 3) := by decide +kernel
theorem dX8_init_31 : decode cX8_init 31 = .ok (.aload_n 0, 1) := by decide +kernel
theorem dX8_init_32 : decode cX8_init 32 = .ok (.iconst 2, 1) := by decide +kernel
theorem dX8_init_33 : decode cX8_init 33 = .ok (.newarray .boolean, 2) := by decide +kernel
theorem dX8_init_35 : decode cX8_init 35 = .ok (.putfield 19, 3) := by decide +kernel
theorem dX8_init_38 : decode cX8_init 38 = .ok (.aload_n 0, 1) := by decide +kernel
theorem dX8_init_39 : decode cX8_init 39 = .ok (.bipush 80, 2) := by decide +kernel
theorem dX8_init_41 : decode cX8_init 41 = .ok (.newarray .int, 2) := by decide +kernel
theorem dX8_init_43 : decode cX8_init 43 = .ok (.putfield 23, 3) := by decide +kernel
theorem dX8_init_46 : decode cX8_init 46 = .ok (.aload_n 0, 1) := by decide +kernel
theorem dX8_init_47 : decode cX8_init 47 = .ok (.sipush 150, 3) := by decide +kernel
theorem dX8_init_50 : decode cX8_init 50 = .ok (.newarray .int, 2) := by decide +kernel
theorem dX8_init_52 : decode cX8_init 52 = .ok (.putfield 26, 3) := by decide +kernel
theorem dX8_init_55 : decode cX8_init 55 = .ok (.aload_n 0, 1) := by decide +kernel
theorem dX8_init_56 : decode cX8_init 56 = .ok (.bipush 24, 2) := by decide +kernel
theorem dX8_init_58 : decode cX8_init 58 = .ok (.newarray .int, 2) := by decide +kernel
theorem dX8_init_60 : decode cX8_init 60 = .ok (.putfield 29, 3) := by decide +kernel
theorem dX8_init_63 : decode cX8_init 63 = .ok (.aload_n 0, 1) := by decide +kernel
theorem dX8_init_64 : decode cX8_init 64 = .ok (.bipush 8, 2) := by decide +kernel
theorem dX8_init_66 : decode cX8_init 66 = .ok (.newarray .int, 2) := by decide +kernel
theorem dX8_init_68 : decode cX8_init 68 = .ok (.putfield 32, 3) := by decide +kernel
theorem dX8_init_71 : decode cX8_init 71 = .ok (.aload_n 0, 1) := by decide +kernel
theorem dX8_init_72 : decode cX8_init 72 = .ok (.sipush 200, 3) := by decide +kernel
theorem dX8_init_75 : decode cX8_init 75 = .ok (.newarray .int, 2) := by decide +kernel
theorem dX8_init_77 : decode cX8_init 77 = .ok (.putfield 35, 3) := by decide +kernel
theorem dX8_init_80 : decode cX8_init 80 = .ok (.aload_n 0, 1) := by decide +kernel
theorem dX8_init_81 : decode cX8_init 81 = .ok (.sipush 200, 3) := by decide +kernel
theorem dX8_init_84 : decode cX8_init 84 = .ok (.newarray .int, 2) := by decide +kernel
theorem dX8_init_86 : decode cX8_init 86 = .ok (.putfield 38, 3) := by decide +kernel
theorem dX8_init_89 : decode cX8_init 89 = .ok (.aload_n 0, 1) := by decide +kernel
theorem dX8_init_90 : decode cX8_init 90 = .ok (.sipush 200, 3) := by decide +kernel
theorem dX8_init_93 : decode cX8_init 93 = .ok (.newarray .int, 2) := by decide +kernel
theorem dX8_init_95 : decode cX8_init 95 = .ok (.putfield 41, 3) := by decide +kernel
theorem dX8_init_98 : decode cX8_init 98 = .ok (.aload_n 0, 1) := by decide +kernel
theorem dX8_init_99 : decode cX8_init 99 = .ok (.sipush 200, 3) := by decide +kernel
theorem dX8_init_102 : decode cX8_init 102 = .ok (.newarray .int, 2) := by decide +kernel
theorem dX8_init_104 : decode cX8_init 104 = .ok (.putfield 44, 3) := by decide +kernel
theorem dX8_init_107 : decode cX8_init 107 = .ok (.aload_n 0, 1) := by decide +kernel
theorem dX8_init_108 : decode cX8_init 108 = .ok (.iconst 2, 1) := by decide +kernel
theorem dX8_init_109 : decode cX8_init 109 = .ok (.newarray .int, 2) := by decide +kernel
theorem dX8_init_111 : decode cX8_init 111 = .ok (.putfield 47, 3) := by decide +kernel
theorem dX8_init_114 : decode cX8_init 114 = .ok (.aload_n 0, 1) := by decide +kernel
theorem dX8_init_115 : decode cX8_init 115 = .ok (.iconst 2, 1) := by decide +kernel
theorem dX8_init_116 : decode cX8_init 116 = .ok (.newarray .int, 2) := by decide +kernel
theorem dX8_init_118 : decode cX8_init 118 = .ok (.putfield 50, 3) := by decide +kernel
theorem dX8_init_121 : decode cX8_init 121 = .ok (.aload_n 0, 1) := by decide +kernel
theorem dX8_init_122 : decode cX8_init 122 = .ok (.bipush 10, 2) := by decide +kernel
theorem dX8_init_124 : decode cX8_init 124 = .ok (.newarray .int, 2) := by decide +kernel
theorem dX8_init_126 : decode cX8_init 126 = .ok (.putfield 53, 3) := by decide +kernel
theorem dX8_init_129 : decode cX8_init 129 = .ok (.aload_n 0, 1) := by decide +kernel
theorem dX8_init_130 : decode cX8_init 130 = .ok (.bipush 10, 2) := by decide +kernel
theorem dX8_init_132 : decode cX8_init 132 = .ok (.newarray .int, 2) := by decide +kernel
theorem dX8_init_134 : decode cX8_init 134 = .ok (.putfield 56, 3) := by decide +kernel
theorem dX8_init_137 : decode cX8_init 137 = .ok (.aload_n 0, 1) := by decide +kernel
theorem dX8_init_138 : decode cX8_init 138 = .ok (.iconst 2, 1) := by decide +kernel
theorem dX8_init_139 : decode cX8_init 139 = .ok (.newarray .int, 2) := by decide +kernel
theorem dX8_init_141 : decode cX8_init 141 = .ok (.putfield 59, 3) := by decide +kernel
theorem dX8_init_144 : decode cX8_init 144 = .ok (.aload_n 0, 1) := by decide +kernel
theorem dX8_init_145 : decode cX8_init 145 = .ok (.iconst 2, 1) := by decide +kernel
theorem dX8_init_146 : decode cX8_init 146 = .ok (.newarray .int, 2) := by decide +kernel
theorem dX8_init_148 : decode cX8_init 148 = .ok (.putfield 62, 3) := by decide +kernel
theorem dX8_init_151 : decode cX8_init 151 = .ok (.aload_n 0, 1) := by decide +kernel
theorem dX8_init_152 : decode cX8_init 152 = .ok (.bipush 24, 2) := by decide +kernel
theorem dX8_init_154 : decode cX8_init 154 = .ok (.newarray .int, 2) := by decide +kernel
theorem dX8_init_156 : decode cX8_init 156 = .ok (.putfield 65, 3) := by decide +kernel
theorem dX8_init_159 : decode cX8_init 159 = .ok (.aload_n 0, 1) := by decide +kernel
theorem dX8_init_160 : decode cX8_init 160 = .ok (.getfield 7, 3) := by decide +kernel
theorem dX8_init_163 : decode cX8_init 163 = .ok (.iconst 1, 1) := by decide +kernel
theorem dX8_init_164 : decode cX8_init 164 = .ok (.iconst 3, 1) := by decide +kernel
theorem dX8_init_165 : decode cX8_init 165 = .ok (.iastore, 1) := by decide +kernel
theorem dX8_init_166 : decode cX8_init 166 = .ok (.aload_n 0, 1) := by decide +kernel
theorem dX8_init_167 : decode cX8_init 167 = .ok (.getfield 7, 3) := by decide +kernel
theorem dX8_init_170 : decode cX8_init 170 = .ok (.iconst 2, 1) := by decide +kernel
theorem dX8_init_171 : decode cX8_init 171 = .ok (.iconst 4, 1) := by decide +kernel
theorem dX8_init_172 : decode cX8_init 172 = .ok (.iastore, 1) := by decide +kernel
theorem dX8_init_173 : decode cX8_init 173 = .ok (.return_, 1) := by decide +kernel
theorem dX8_in_0 : decode cX8_in 0 = .ok (.iload_n 0, 1) := by decide +kernel
theorem dX8_in_1 : decode cX8_in 1 = .ok (.iload_n 1, 1) := by decide +kernel
theorem dX8_in_2 : decode cX8_in 2 = .ok (.if_icmp .lt 12, 3) := by decide +kernel
theorem dX8_in_5 : decode cX8_in 5 = .ok (.iload_n 0, 1) := by decide +kernel
theorem dX8_in_6 : decode cX8_in 6 = .ok (.iload_n 2, 1) := by decide +kernel
theorem dX8_in_7 : decode cX8_in 7 = .ok (.if_icmp .gt 7, 3) := by decide +kernel
theorem dX8_in_10 : decode cX8_in 10 = .ok (.iconst 1, 1) := by decide +kernel
theorem dX8_in_11 : decode cX8_in 11 = .ok (.goto 4, 3) := by decide +kernel
theorem dX8_in_14 : decode cX8_in 14 = .ok (.iconst 0, 1) := by decide +kernel
theorem dX8_in_15 : decode cX8_in 15 = .ok (.ireturn, 1) := by decide +kernel
theorem dX8_record_0 : decode cX8_record 0 = .ok (.aload_n 0, 1) := by decide +kernel
theorem dX8_record_1 : decode cX8_record 1 = .ok (.getfield 68, 3) := by decide +kernel
theorem dX8_record_4 : decode cX8_record 4 = .ok (.bipush 6, 2) := by decide +kernel
theorem dX8_record_6 : decode cX8_record 6 = .ok (.if_icmp .ne 39, 3) := by decide +kernel
theorem dX8_record_9 : decode cX8_record 9 = .ok (.iconst 0, 1) := by decide +kernel
theorem dX8_record_10 : decode cX8_record 10 = .ok (.istore_n 1, 1) := by decide +kernel
theorem dX8_record_11 : decode cX8_record 11 = .ok (.iload_n 1, 1) := by decide +kernel
theorem dX8_record_12 : decode cX8_record 12 = .ok (.sipush 1050, 3) := by decide +kernel
theorem dX8_record_15 : decode cX8_record 15 = .ok (.if_icmp .ge 25, 3) := by decide +kernel
theorem dX8_record_18 : decode cX8_record 18 = .ok (.aload_n 0, 1) := by decide +kernel
theorem dX8_record_19 : decode cX8_record 19 = .ok (.getfield 13, 3) := by decide +kernel
theorem dX8_record_22 : decode cX8_record 22 = .ok (.iload_n 1, 1) := by decide +kernel
theorem dX8_record_23 : decode cX8_record 23 = .ok (.aload_n 0, 1) := by decide +kernel
theorem dX8_record_24 : decode cX8_record 24 = .ok (.getfield 13, 3) := by decide +kernel
theorem dX8_record_27 : decode cX8_record 27 = .ok (.iload_n 1, 1) := by decide +kernel
theorem dX8_record_28 : decode cX8_record 28 = .ok (.sipush 210, 3) := by decide +kernel
theorem dX8_record_31 : decode cX8_record 31 = .ok (.iadd, 1) := by decide +kernel
theorem dX8_record_32 : decode cX8_record 32 = .ok (.iaload, 1) := by decide +kernel
theorem dX8_record_33 : decode cX8_record 33 = .ok (.iastore, 1) := by decide +kernel
theorem dX8_record_34 : decode cX8_record 34 = .ok (.iinc 1 1, 3) := by decide +kernel
theorem dX8_record_37 : decode cX8_record 37 = .ok (.goto (-26), 3) := by decide +kernel
theorem dX8_record_40 : decode cX8_record 40 = .ok (.aload_n 0, 1) := by decide +kernel
theorem dX8_record_41 : decode cX8_record 41 = .ok (.iconst 5, 1) := by decide +kernel
theorem dX8_record_42 : decode cX8_record 42 = .ok (.putfield 68, 3) := by decide +kernel
theorem dX8_record_45 : decode cX8_record 45 = .ok (.iconst 0, 1) := by decide +kernel
theorem dX8_record_46 : decode cX8_record 46 = .ok (.istore_n 1, 1) := by decide +kernel
theorem dX8_record_47 : decode cX8_record 47 = .ok (.iload_n 1, 1) := by decide +kernel
theorem dX8_record_48 : decode cX8_record 48 = .ok (.sipush 210, 3) := by decide +kernel
theorem dX8_record_51 : decode cX8_record 51 = .ok (.if_icmp .ge 30, 3) := by decide +kernel
theorem dX8_record_54 : decode cX8_record 54 = .ok (.aload_n 0, 1) := by decide +kernel
theorem dX8_record_55 : decode cX8_record 55 = .ok (.getfield 13, 3) := by decide +kernel
theorem dX8_record_58 : decode cX8_record 58 = .ok (.aload_n 0, 1) := by decide +kernel
theorem dX8_record_59 : decode cX8_record 59 = .ok (.getfield 68, 3) := by decide +kernel
theorem dX8_record_62 : decode cX8_record 62 = .ok (.sipush 210, 3) := by decide +kernel
theorem dX8_record_65 : decode cX8_record 65 = .ok (.imul, 1) := by decide +kernel
theorem dX8_record_66 : decode cX8_record 66 = .ok (.iload_n 1, 1) := by decide +kernel
theorem dX8_record_67 : decode cX8_record 67 = .ok (.iadd, 1) := by decide +kernel
theorem dX8_record_68 : decode cX8_record 68 = .ok (.aload_n 0, 1) := by decide +kernel
theorem dX8_record_69 : decode cX8_record 69 = .ok (.getfield 7, 3) := by decide +kernel
theorem dX8_record_72 : decode cX8_record 72 = .ok (.iload_n 1, 1) := by decide +kernel
theorem dX8_record_73 : decode cX8_record 73 = .ok (.iaload, 1) := by decide +kernel
theorem dX8_record_74 : decode cX8_record 74 = .ok (.iastore, 1) := by decide +kernel
theorem dX8_record_75 : decode cX8_record 75 = .ok (.iinc 1 1, 3) := by decide +kernel
theorem dX8_record_78 : decode cX8_record 78 = .ok (.goto (-31), 3) := by decide +kernel
theorem dX8_record_81 : decode cX8_record 81 = .ok (.aload_n 0, 1) := by decide +kernel
theorem dX8_record_82 : decode cX8_record 82 = .ok (.dup, 1) := by decide +kernel
theorem dX8_record_83 : decode cX8_record 83 = .ok (.getfield 68, 3) := by decide +kernel
theorem dX8_record_86 : decode cX8_record 86 = .ok (.iconst 1, 1) := by decide +kernel
theorem dX8_record_87 : decode cX8_record 87 = .ok (.iadd, 1) := by decide +kernel
theorem dX8_record_88 : decode cX8_record 88 = .ok (.putfield 68, 3) := by decide +kernel
theorem dX8_record_91 : decode cX8_record 91 = .ok (.return_, 1) := by decide +kernel
theorem dX8_set_0 : decode cX8_set 0 = .ok (.iload_n 1, 1) := by decide +kernel
theorem dX8_set_1 : decode cX8_set 1 = .ok (.iconst 0, 1) := by decide +kernel
theorem dX8_set_2 : decode cX8_set 2 = .ok (.iconst 2, 1) := by decide +kernel
theorem dX8_set_3 : decode cX8_set 3 = .ok (.invokestatic 72, 3) := by decide +kernel
theorem dX8_set_6 : decode cX8_set 6 = .ok (.ifCond .eq 29, 3) := by decide +kernel
theorem dX8_set_9 : decode cX8_set 9 = .ok (.iload_n 2, 1) := by decide +kernel
theorem dX8_set_10 : decode cX8_set 10 = .ok (.iload_n 1, 1) := by decide +kernel
theorem dX8_set_11 : decode cX8_set 11 = .ok (.ifCond .ne 7, 3) := by decide +kernel
theorem dX8_set_14 : decode cX8_set 14 = .ok (.iconst 0, 1) := by decide +kernel
theorem dX8_set_15 : decode cX8_set 15 = .ok (.goto 4, 3) := by decide +kernel
theorem dX8_set_18 : decode cX8_set 18 = .ok (.iconst 1, 1) := by decide +kernel
theorem dX8_set_19 : decode cX8_set 19 = .ok (.iload_n 1, 1) := by decide +kernel
theorem dX8_set_20 : decode cX8_set 20 = .ok (.ifCond .ne 7, 3) := by decide +kernel
theorem dX8_set_23 : decode cX8_set 23 = .ok (.iconst 2, 1) := by decide +kernel
theorem dX8_set_24 : decode cX8_set 24 = .ok (.goto 5, 3) := by decide +kernel
theorem dX8_set_27 : decode cX8_set 27 = .ok (.bipush 9, 2) := by decide +kernel
theorem dX8_set_29 : decode cX8_set 29 = .ok (.invokestatic 72, 3) := by decide +kernel
theorem dX8_set_32 : decode cX8_set 32 = .ok (.ifCond .ne 6, 3) := by decide +kernel
theorem dX8_set_35 : decode cX8_set 35 = .ok (.bipush (-2), 2) := by decide +kernel
theorem dX8_set_37 : decode cX8_set 37 = .ok (.ireturn, 1) := by decide +kernel
theorem dX8_set_38 : decode cX8_set 38 = .ok (.aload_n 0, 1) := by decide +kernel
theorem dX8_set_39 : decode cX8_set 39 = .ok (.invokevirtual 76, 3) := by decide +kernel
theorem dX8_set_42 : decode cX8_set 42 = .ok (.aload_n 0, 1) := by decide +kernel
theorem dX8_set_43 : decode cX8_set 43 = .ok (.getfield 7, 3) := by decide +kernel
theorem dX8_set_46 : decode cX8_set 46 = .ok (.iload_n 1, 1) := by decide +kernel
theorem dX8_set_47 : decode cX8_set 47 = .ok (.iaload, 1) := by decide +kernel
theorem dX8_set_48 : decode cX8_set 48 = .ok (.istore_n 3, 1) := by decide +kernel
theorem dX8_set_49 : decode cX8_set 49 = .ok (.aload_n 0, 1) := by decide +kernel
theorem dX8_set_50 : decode cX8_set 50 = .ok (.getfield 7, 3) := by decide +kernel
theorem dX8_set_53 : decode cX8_set 53 = .ok (.iload_n 1, 1) := by decide +kernel
theorem dX8_set_54 : decode cX8_set 54 = .ok (.iload_n 2, 1) := by decide +kernel
theorem dX8_set_55 : decode cX8_set 55 = .ok (.iastore, 1) := by decide +kernel
theorem dX8_set_56 : decode cX8_set 56 = .ok (.iload_n 3, 1) := by decide +kernel
theorem dX8_set_57 : decode cX8_set 57 = .ok (.ireturn, 1) := by decide +kernel
theorem dX8_isThread_0 : decode cX8_isThread 0 = .ok (.iload_n 0, 1) := by decide +kernel
theorem dX8_isThread_1 : decode cX8_isThread 1 = .ok (.iconst 0, 1) := by decide +kernel
theorem dX8_isThread_2 : decode cX8_isThread 2 = .ok (.iconst 1, 1) := by decide +kernel
theorem dX8_isThread_3 : decode cX8_isThread 3 = .ok (.invokestatic 72, 3) := by decide +kernel
theorem dX8_isThread_6 : decode cX8_isThread 6 = .ok (.ireturn, 1) := by decide +kernel
theorem dX8_first_0 : decode cX8_first 0 = .ok (.iload_n 1, 1) := by decide +kernel
theorem dX8_first_1 : decode cX8_first 1 = .ok (.invokestatic 79, 3) := by decide +kernel
theorem dX8_first_4 : decode cX8_first 4 = .ok (.ifCond .eq 13, 3) := by decide +kernel
theorem dX8_first_7 : decode cX8_first 7 = .ok (.iload_n 2, 1) := by decide +kernel
theorem dX8_first_8 : decode cX8_first 8 = .ok (.iconst 0, 1) := by decide +kernel
theorem dX8_first_9 : decode cX8_first 9 = .ok (.bipush 11, 2) := by decide +kernel
theorem dX8_first_11 : decode cX8_first 11 = .ok (.invokestatic 72, 3) := by decide +kernel
theorem dX8_first_14 : decode cX8_first 14 = .ok (.ifCond .ne 5, 3) := by decide +kernel
theorem dX8_first_17 : decode cX8_first 17 = .ok (.iconst (-1), 1) := by decide +kernel
theorem dX8_first_18 : decode cX8_first 18 = .ok (.ireturn, 1) := by decide +kernel
theorem dX8_first_19 : decode cX8_first 19 = .ok (.iload_n 3, 1) := by decide +kernel
theorem dX8_first_20 : decode cX8_first 20 = .ok (.iconst 0, 1) := by decide +kernel
theorem dX8_first_21 : decode cX8_first 21 = .ok (.sipush 999, 3) := by decide +kernel
theorem dX8_first_24 : decode cX8_first 24 = .ok (.invokestatic 72, 3) := by decide +kernel
theorem dX8_first_27 : decode cX8_first 27 = .ok (.ifCond .ne 6, 3) := by decide +kernel
theorem dX8_first_30 : decode cX8_first 30 = .ok (.bipush (-2), 2) := by decide +kernel
theorem dX8_first_32 : decode cX8_first 32 = .ok (.ireturn, 1) := by decide +kernel
theorem dX8_first_33 : decode cX8_first 33 = .ok (.aload_n 0, 1) := by decide +kernel
theorem dX8_first_34 : decode cX8_first 34 = .ok (.invokevirtual 76, 3) := by decide +kernel
theorem dX8_first_37 : decode cX8_first 37 = .ok (.bipush 10, 2) := by decide +kernel
theorem dX8_first_39 : decode cX8_first 39 = .ok (.bipush 100, 2) := by decide +kernel
theorem dX8_first_41 : decode cX8_first 41 = .ok (.iload_n 1, 1) := by decide +kernel
theorem dX8_first_42 : decode cX8_first 42 = .ok (.imul, 1) := by decide +kernel
theorem dX8_first_43 : decode cX8_first 43 = .ok (.iadd, 1) := by decide +kernel
theorem dX8_first_44 : decode cX8_first 44 = .ok (.bipush 70, 2) := by decide +kernel
theorem dX8_first_46 : decode cX8_first 46 = .ok (.iadd, 1) := by decide +kernel
theorem dX8_first_47 : decode cX8_first 47 = .ok (.iload_n 2, 1) := by decide +kernel
theorem dX8_first_48 : decode cX8_first 48 = .ok (.iadd, 1) := by decide +kernel
theorem dX8_first_49 : decode cX8_first 49 = .ok (.istore 4, 2) := by decide +kernel
theorem dX8_first_51 : decode cX8_first 51 = .ok (.aload_n 0, 1) := by decide +kernel
theorem dX8_first_52 : decode cX8_first 52 = .ok (.getfield 7, 3) := by decide +kernel
theorem dX8_first_55 : decode cX8_first 55 = .ok (.iload 4, 2) := by decide +kernel
theorem dX8_first_57 : decode cX8_first 57 = .ok (.iaload, 1) := by decide +kernel
theorem dX8_first_58 : decode cX8_first 58 = .ok (.istore 5, 2) := by decide +kernel
theorem dX8_first_60 : decode cX8_first 60 = .ok (.aload_n 0, 1) := by decide +kernel
theorem dX8_first_61 : decode cX8_first 61 = .ok (.getfield 7, 3) := by decide +kernel
theorem dX8_first_64 : decode cX8_first 64 = .ok (.iload 4, 2) := by decide +kernel
theorem dX8_first_66 : decode cX8_first 66 = .ok (.iload_n 3, 1) := by decide +kernel
theorem dX8_first_67 : decode cX8_first 67 = .ok (.iastore, 1) := by decide +kernel
theorem dX8_first_68 : decode cX8_first 68 = .ok (.iload 5, 2) := by decide +kernel
theorem dX8_first_70 : decode cX8_first 70 = .ok (.ireturn, 1) := by decide +kernel
theorem dX8_sign_0 : decode cX8_sign 0 = .ok (.aload_n 0, 1) := by decide +kernel
theorem dX8_sign_1 : decode cX8_sign 1 = .ok (.getfield 83, 3) := by decide +kernel
theorem dX8_sign_4 : decode cX8_sign 4 = .ok (.aload_n 0, 1) := by decide +kernel
theorem dX8_sign_5 : decode cX8_sign 5 = .ok (.getfield 86, 3) := by decide +kernel
theorem dX8_sign_8 : decode cX8_sign 8 = .ok (.if_icmp .ge 15, 3) := by decide +kernel
theorem dX8_sign_11 : decode cX8_sign 11 = .ok (.aload_n 0, 1) := by decide +kernel
theorem dX8_sign_12 : decode cX8_sign 12 = .ok (.getfield 23, 3) := by decide +kernel
theorem dX8_sign_15 : decode cX8_sign 15 = .ok (.aload_n 0, 1) := by decide +kernel
theorem dX8_sign_16 : decode cX8_sign 16 = .ok (.getfield 83, 3) := by decide +kernel
theorem dX8_sign_19 : decode cX8_sign 19 = .ok (.iaload, 1) := by decide +kernel
theorem dX8_sign_20 : decode cX8_sign 20 = .ok (.goto 4, 3) := by decide +kernel
theorem dX8_sign_23 : decode cX8_sign 23 = .ok (.iconst 0, 1) := by decide +kernel
theorem dX8_sign_24 : decode cX8_sign 24 = .ok (.ireturn, 1) := by decide +kernel
theorem dX8_between_0 : decode cX8_between 0 = .ok (.aload_n 0, 1) := by decide +kernel
theorem dX8_between_1 : decode cX8_between 1 = .ok (.aload_n 0, 1) := by decide +kernel
theorem dX8_between_2 : decode cX8_between 2 = .ok (.getfield 89, 3) := by decide +kernel
theorem dX8_between_5 : decode cX8_between 5 = .ok (.ifCond .ne 11, 3) := by decide +kernel
theorem dX8_between_8 : decode cX8_between 8 = .ok (.aload_n 0, 1) := by decide +kernel
theorem dX8_between_9 : decode cX8_between 9 = .ok (.invokevirtual 93, 3) := by decide +kernel
theorem dX8_between_12 : decode cX8_between 12 = .ok (.iload_n 1, 1) := by decide +kernel
theorem dX8_between_13 : decode cX8_between 13 = .ok (.if_icmp .eq 7, 3) := by decide +kernel
theorem dX8_between_16 : decode cX8_between 16 = .ok (.iconst 1, 1) := by decide +kernel
theorem dX8_between_17 : decode cX8_between 17 = .ok (.goto 4, 3) := by decide +kernel
theorem dX8_between_20 : decode cX8_between 20 = .ok (.iconst 0, 1) := by decide +kernel
theorem dX8_between_21 : decode cX8_between 21 = .ok (.putfield 89, 3) := by decide +kernel
theorem dX8_between_24 : decode cX8_between 24 = .ok (.aload_n 0, 1) := by decide +kernel
theorem dX8_between_25 : decode cX8_between 25 = .ok (.dup, 1) := by decide +kernel
theorem dX8_between_26 : decode cX8_between 26 = .ok (.getfield 83, 3) := by decide +kernel
theorem dX8_between_29 : decode cX8_between 29 = .ok (.aload_n 0, 1) := by decide +kernel
theorem dX8_between_30 : decode cX8_between 30 = .ok (.getfield 89, 3) := by decide +kernel
theorem dX8_between_33 : decode cX8_between 33 = .ok (.ifCond .eq 7, 3) := by decide +kernel
theorem dX8_between_36 : decode cX8_between 36 = .ok (.iconst 0, 1) := by decide +kernel
theorem dX8_between_37 : decode cX8_between 37 = .ok (.goto 4, 3) := by decide +kernel
theorem dX8_between_40 : decode cX8_between 40 = .ok (.iconst 1, 1) := by decide +kernel
theorem dX8_between_41 : decode cX8_between 41 = .ok (.iadd, 1) := by decide +kernel
theorem dX8_between_42 : decode cX8_between 42 = .ok (.putfield 83, 3) := by decide +kernel
theorem dX8_between_45 : decode cX8_between 45 = .ok (.return_, 1) := by decide +kernel
theorem dX8_register_0 : decode cX8_register 0 = .ok (.aload_n 0, 1) := by decide +kernel
theorem dX8_register_1 : decode cX8_register 1 = .ok (.invokevirtual 93, 3) := by decide +kernel
theorem dX8_register_4 : decode cX8_register 4 = .ok (.bipush 97, 2) := by decide +kernel
theorem dX8_register_6 : decode cX8_register 6 = .ok (.isub, 1) := by decide +kernel
theorem dX8_register_7 : decode cX8_register 7 = .ok (.istore_n 1, 1) := by decide +kernel
theorem dX8_register_8 : decode cX8_register 8 = .ok (.aload_n 0, 1) := by decide +kernel
theorem dX8_register_9 : decode cX8_register 9 = .ok (.aload_n 0, 1) := by decide +kernel
theorem dX8_register_10 : decode cX8_register 10 = .ok (.getfield 89, 3) := by decide +kernel
theorem dX8_register_13 : decode cX8_register 13 = .ok (.ifCond .ne 12, 3) := by decide +kernel
theorem dX8_register_16 : decode cX8_register 16 = .ok (.iload_n 1, 1) := by decide +kernel
theorem dX8_register_17 : decode cX8_register 17 = .ok (.iconst 0, 1) := by decide +kernel
theorem dX8_register_18 : decode cX8_register 18 = .ok (.iconst 3, 1) := by decide +kernel
theorem dX8_register_19 : decode cX8_register 19 = .ok (.invokestatic 72, 3) := by decide +kernel
theorem dX8_register_22 : decode cX8_register 22 = .ok (.ifCond .ne 7, 3) := by decide +kernel
theorem dX8_register_25 : decode cX8_register 25 = .ok (.iconst 1, 1) := by decide +kernel
theorem dX8_register_26 : decode cX8_register 26 = .ok (.goto 4, 3) := by decide +kernel
theorem dX8_register_29 : decode cX8_register 29 = .ok (.iconst 0, 1) := by decide +kernel
theorem dX8_register_30 : decode cX8_register 30 = .ok (.putfield 89, 3) := by decide +kernel
theorem dX8_register_33 : decode cX8_register 33 = .ok (.aload_n 0, 1) := by decide +kernel
theorem dX8_register_34 : decode cX8_register 34 = .ok (.dup, 1) := by decide +kernel
theorem dX8_register_35 : decode cX8_register 35 = .ok (.getfield 83, 3) := by decide +kernel
theorem dX8_register_38 : decode cX8_register 38 = .ok (.aload_n 0, 1) := by decide +kernel
theorem dX8_register_39 : decode cX8_register 39 = .ok (.getfield 89, 3) := by decide +kernel
theorem dX8_register_42 : decode cX8_register 42 = .ok (.ifCond .eq 7, 3) := by decide +kernel
theorem dX8_register_45 : decode cX8_register 45 = .ok (.iconst 0, 1) := by decide +kernel
theorem dX8_register_46 : decode cX8_register 46 = .ok (.goto 4, 3) := by decide +kernel
theorem dX8_register_49 : decode cX8_register 49 = .ok (.iconst 1, 1) := by decide +kernel
theorem dX8_register_50 : decode cX8_register 50 = .ok (.iadd, 1) := by decide +kernel
theorem dX8_register_51 : decode cX8_register 51 = .ok (.putfield 83, 3) := by decide +kernel
theorem dX8_register_54 : decode cX8_register 54 = .ok (.iload_n 1, 1) := by decide +kernel
theorem dX8_register_55 : decode cX8_register 55 = .ok (.ireturn, 1) := by decide +kernel
theorem dX8_number_0 : decode cX8_number 0 = .ok (.aload_n 0, 1) := by decide +kernel
theorem dX8_number_1 : decode cX8_number 1 = .ok (.invokevirtual 93, 3) := by decide +kernel
theorem dX8_number_4 : decode cX8_number 4 = .ok (.bipush 48, 2) := by decide +kernel
theorem dX8_number_6 : decode cX8_number 6 = .ok (.isub, 1) := by decide +kernel
theorem dX8_number_7 : decode cX8_number 7 = .ok (.istore_n 1, 1) := by decide +kernel
theorem dX8_number_8 : decode cX8_number 8 = .ok (.aload_n 0, 1) := by decide +kernel
theorem dX8_number_9 : decode cX8_number 9 = .ok (.aload_n 0, 1) := by decide +kernel
theorem dX8_number_10 : decode cX8_number 10 = .ok (.getfield 89, 3) := by decide +kernel
theorem dX8_number_13 : decode cX8_number 13 = .ok (.ifCond .ne 13, 3) := by decide +kernel
theorem dX8_number_16 : decode cX8_number 16 = .ok (.iload_n 1, 1) := by decide +kernel
theorem dX8_number_17 : decode cX8_number 17 = .ok (.iconst 0, 1) := by decide +kernel
theorem dX8_number_18 : decode cX8_number 18 = .ok (.bipush 9, 2) := by decide +kernel
theorem dX8_number_20 : decode cX8_number 20 = .ok (.invokestatic 72, 3) := by decide +kernel
theorem dX8_number_23 : decode cX8_number 23 = .ok (.ifCond .ne 7, 3) := by decide +kernel
theorem dX8_number_26 : decode cX8_number 26 = .ok (.iconst 1, 1) := by decide +kernel
theorem dX8_number_27 : decode cX8_number 27 = .ok (.goto 4, 3) := by decide +kernel
theorem dX8_number_30 : decode cX8_number 30 = .ok (.iconst 0, 1) := by decide +kernel
theorem dX8_number_31 : decode cX8_number 31 = .ok (.putfield 89, 3) := by decide +kernel
theorem dX8_number_34 : decode cX8_number 34 = .ok (.aload_n 0, 1) := by decide +kernel
theorem dX8_number_35 : decode cX8_number 35 = .ok (.dup, 1) := by decide +kernel
theorem dX8_number_36 : decode cX8_number 36 = .ok (.getfield 83, 3) := by decide +kernel
theorem dX8_number_39 : decode cX8_number 39 = .ok (.aload_n 0, 1) := by decide +kernel
theorem dX8_number_40 : decode cX8_number 40 = .ok (.getfield 89, 3) := by decide +kernel
theorem dX8_number_43 : decode cX8_number 43 = .ok (.ifCond .eq 7, 3) := by decide +kernel
theorem dX8_number_46 : decode cX8_number 46 = .ok (.iconst 0, 1) := by decide +kernel
theorem dX8_number_47 : decode cX8_number 47 = .ok (.goto 4, 3) := by decide +kernel
theorem dX8_number_50 : decode cX8_number 50 = .ok (.iconst 1, 1) := by decide +kernel
theorem dX8_number_51 : decode cX8_number 51 = .ok (.iadd, 1) := by decide +kernel
theorem dX8_number_52 : decode cX8_number 52 = .ok (.putfield 83, 3) := by decide +kernel
theorem dX8_number_55 : decode cX8_number 55 = .ok (.aload_n 0, 1) := by decide +kernel
theorem dX8_number_56 : decode cX8_number 56 = .ok (.getfield 89, 3) := by decide +kernel
theorem dX8_number_59 : decode cX8_number 59 = .ok (.ifCond .ne 64, 3) := by decide +kernel
theorem dX8_number_62 : decode cX8_number 62 = .ok (.iload_n 1, 1) := by decide +kernel
theorem dX8_number_63 : decode cX8_number 63 = .ok (.ifCond .le 60, 3) := by decide +kernel
theorem dX8_number_66 : decode cX8_number 66 = .ok (.aload_n 0, 1) := by decide +kernel
theorem dX8_number_67 : decode cX8_number 67 = .ok (.invokevirtual 93, 3) := by decide +kernel
theorem dX8_number_70 : decode cX8_number 70 = .ok (.bipush 48, 2) := by decide +kernel
theorem dX8_number_72 : decode cX8_number 72 = .ok (.bipush 57, 2) := by decide +kernel
theorem dX8_number_74 : decode cX8_number 74 = .ok (.invokestatic 72, 3) := by decide +kernel
theorem dX8_number_77 : decode cX8_number 77 = .ok (.ifCond .eq 46, 3) := by decide +kernel
theorem dX8_number_80 : decode cX8_number 80 = .ok (.bipush 10, 2) := by decide +kernel
theorem dX8_number_82 : decode cX8_number 82 = .ok (.iload_n 1, 1) := by decide +kernel
theorem dX8_number_83 : decode cX8_number 83 = .ok (.imul, 1) := by decide +kernel
theorem dX8_number_84 : decode cX8_number 84 = .ok (.aload_n 0, 1) := by decide +kernel
theorem dX8_number_85 : decode cX8_number 85 = .ok (.invokevirtual 93, 3) := by decide +kernel
theorem dX8_number_88 : decode cX8_number 88 = .ok (.iadd, 1) := by decide +kernel
theorem dX8_number_89 : decode cX8_number 89 = .ok (.bipush 48, 2) := by decide +kernel
theorem dX8_number_91 : decode cX8_number 91 = .ok (.isub, 1) := by decide +kernel
theorem dX8_number_92 : decode cX8_number 92 = .ok (.bipush 99, 2) := by decide +kernel
theorem dX8_number_94 : decode cX8_number 94 = .ok (.if_icmp .gt 29, 3) := by decide +kernel
theorem dX8_number_97 : decode cX8_number 97 = .ok (.bipush 10, 2) := by decide +kernel
theorem dX8_number_99 : decode cX8_number 99 = .ok (.iload_n 1, 1) := by decide +kernel
theorem dX8_number_100 : decode cX8_number 100 = .ok (.imul, 1) := by decide +kernel
theorem dX8_number_101 : decode cX8_number 101 = .ok (.aload_n 0, 1) := by decide +kernel
theorem dX8_number_102 : decode cX8_number 102 = .ok (.invokevirtual 93, 3) := by decide +kernel
theorem dX8_number_105 : decode cX8_number 105 = .ok (.iadd, 1) := by decide +kernel
theorem dX8_number_106 : decode cX8_number 106 = .ok (.bipush 48, 2) := by decide +kernel
theorem dX8_number_108 : decode cX8_number 108 = .ok (.isub, 1) := by decide +kernel
theorem dX8_number_109 : decode cX8_number 109 = .ok (.istore_n 1, 1) := by decide +kernel
theorem dX8_number_110 : decode cX8_number 110 = .ok (.aload_n 0, 1) := by decide +kernel
theorem dX8_number_111 : decode cX8_number 111 = .ok (.dup, 1) := by decide +kernel
theorem dX8_number_112 : decode cX8_number 112 = .ok (.getfield 83, 3) := by decide +kernel
theorem dX8_number_115 : decode cX8_number 115 = .ok (.iconst 1, 1) := by decide +kernel
theorem dX8_number_116 : decode cX8_number 116 = .ok (.iadd, 1) := by decide +kernel
theorem dX8_number_117 : decode cX8_number 117 = .ok (.putfield 83, 3) := by decide +kernel
theorem dX8_number_120 : decode cX8_number 120 = .ok (.goto (-65), 3) := by decide +kernel
theorem dX8_number_123 : decode cX8_number 123 = .ok (.iload_n 1, 1) := by decide +kernel
theorem dX8_number_124 : decode cX8_number 124 = .ok (.ireturn, 1) := by decide +kernel
theorem dX8_lay_0 : decode cX8_lay 0 = .ok (.iconst 5, 1) := by decide +kernel
theorem dX8_lay_1 : decode cX8_lay 1 = .ok (.aload_n 0, 1) := by decide +kernel
theorem dX8_lay_2 : decode cX8_lay 2 = .ok (.getfield 97, 3) := by decide +kernel
theorem dX8_lay_5 : decode cX8_lay 5 = .ok (.imul, 1) := by decide +kernel
theorem dX8_lay_6 : decode cX8_lay 6 = .ok (.istore 6, 2) := by decide +kernel
theorem dX8_lay_8 : decode cX8_lay 8 = .ok (.aload_n 0, 1) := by decide +kernel
theorem dX8_lay_9 : decode cX8_lay 9 = .ok (.getfield 26, 3) := by decide +kernel
theorem dX8_lay_12 : decode cX8_lay 12 = .ok (.iload 6, 2) := by decide +kernel
theorem dX8_lay_14 : decode cX8_lay 14 = .ok (.iload_n 1, 1) := by decide +kernel
theorem dX8_lay_15 : decode cX8_lay 15 = .ok (.iastore, 1) := by decide +kernel
theorem dX8_lay_16 : decode cX8_lay 16 = .ok (.aload_n 0, 1) := by decide +kernel
theorem dX8_lay_17 : decode cX8_lay 17 = .ok (.getfield 26, 3) := by decide +kernel
theorem dX8_lay_20 : decode cX8_lay 20 = .ok (.iload 6, 2) := by decide +kernel
theorem dX8_lay_22 : decode cX8_lay 22 = .ok (.iconst 1, 1) := by decide +kernel
theorem dX8_lay_23 : decode cX8_lay 23 = .ok (.iadd, 1) := by decide +kernel
theorem dX8_lay_24 : decode cX8_lay 24 = .ok (.iload_n 2, 1) := by decide +kernel
theorem dX8_lay_25 : decode cX8_lay 25 = .ok (.iastore, 1) := by decide +kernel
theorem dX8_lay_26 : decode cX8_lay 26 = .ok (.aload_n 0, 1) := by decide +kernel
theorem dX8_lay_27 : decode cX8_lay 27 = .ok (.getfield 26, 3) := by decide +kernel
theorem dX8_lay_30 : decode cX8_lay 30 = .ok (.iload 6, 2) := by decide +kernel
theorem dX8_lay_32 : decode cX8_lay 32 = .ok (.iconst 2, 1) := by decide +kernel
theorem dX8_lay_33 : decode cX8_lay 33 = .ok (.iadd, 1) := by decide +kernel
theorem dX8_lay_34 : decode cX8_lay 34 = .ok (.iload_n 3, 1) := by decide +kernel
theorem dX8_lay_35 : decode cX8_lay 35 = .ok (.iastore, 1) := by decide +kernel
theorem dX8_lay_36 : decode cX8_lay 36 = .ok (.aload_n 0, 1) := by decide +kernel
theorem dX8_lay_37 : decode cX8_lay 37 = .ok (.getfield 26, 3) := by decide +kernel
theorem dX8_lay_40 : decode cX8_lay 40 = .ok (.iload 6, 2) := by decide +kernel
theorem dX8_lay_42 : decode cX8_lay 42 = .ok (.iconst 3, 1) := by decide +kernel
theorem dX8_lay_43 : decode cX8_lay 43 = .ok (.iadd, 1) := by decide +kernel
theorem dX8_lay_44 : decode cX8_lay 44 = .ok (.iload 4, 2) := by decide +kernel
theorem dX8_lay_46 : decode cX8_lay 46 = .ok (.iastore, 1) := by decide +kernel
theorem dX8_lay_47 : decode cX8_lay 47 = .ok (.aload_n 0, 1) := by decide +kernel
theorem dX8_lay_48 : decode cX8_lay 48 = .ok (.getfield 26, 3) := by decide +kernel
theorem dX8_lay_51 : decode cX8_lay 51 = .ok (.iload 6, 2) := by decide +kernel
theorem dX8_lay_53 : decode cX8_lay 53 = .ok (.iconst 4, 1) := by decide +kernel
theorem dX8_lay_54 : decode cX8_lay 54 = .ok (.iadd, 1) := by decide +kernel
theorem dX8_lay_55 : decode cX8_lay 55 = .ok (.iload 5, 2) := by decide +kernel
theorem dX8_lay_57 : decode cX8_lay 57 = .ok (.iastore, 1) := by decide +kernel
theorem dX8_lay_58 : decode cX8_lay 58 = .ok (.aload_n 0, 1) := by decide +kernel
theorem dX8_lay_59 : decode cX8_lay 59 = .ok (.dup, 1) := by decide +kernel
theorem dX8_lay_60 : decode cX8_lay 60 = .ok (.getfield 97, 3) := by decide +kernel
theorem dX8_lay_63 : decode cX8_lay 63 = .ok (.iconst 1, 1) := by decide +kernel
theorem dX8_lay_64 : decode cX8_lay 64 = .ok (.iadd, 1) := by decide +kernel
theorem dX8_lay_65 : decode cX8_lay 65 = .ok (.putfield 97, 3) := by decide +kernel
theorem dX8_lay_68 : decode cX8_lay 68 = .ok (.return_, 1) := by decide +kernel
theorem dX8_readValue_0 : decode cX8_readValue 0 = .ok (.aload_n 0, 1) := by decide +kernel
theorem dX8_readValue_1 : decode cX8_readValue 1 = .ok (.invokevirtual 93, 3) := by decide +kernel
theorem dX8_readValue_4 : decode cX8_readValue 4 = .ok (.bipush 48, 2) := by decide +kernel
theorem dX8_readValue_6 : decode cX8_readValue 6 = .ok (.bipush 57, 2) := by decide +kernel
theorem dX8_readValue_8 : decode cX8_readValue 8 = .ok (.invokestatic 72, 3) := by decide +kernel
theorem dX8_readValue_11 : decode cX8_readValue 11 = .ok (.ifCond .eq 18, 3) := by decide +kernel
theorem dX8_readValue_14 : decode cX8_readValue 14 = .ok (.aload_n 0, 1) := by decide +kernel
theorem dX8_readValue_15 : decode cX8_readValue 15 = .ok (.iconst 0, 1) := by decide +kernel
theorem dX8_readValue_16 : decode cX8_readValue 16 = .ok (.iload_n 1, 1) := by decide +kernel
theorem dX8_readValue_17 : decode cX8_readValue 17 = .ok (.bipush (-6), 2) := by decide +kernel
theorem dX8_readValue_19 : decode cX8_readValue 19 = .ok (.bipush (-6), 2) := by decide +kernel
theorem dX8_readValue_21 : decode cX8_readValue 21 = .ok (.aload_n 0, 1) := by decide +kernel
theorem dX8_readValue_22 : decode cX8_readValue 22 = .ok (.invokevirtual 100, 3) := by decide +kernel
theorem dX8_readValue_25 : decode cX8_readValue 25 = .ok (.invokevirtual 103, 3) := by decide +kernel
theorem dX8_readValue_28 : decode cX8_readValue 28 = .ok (.return_, 1) := by decide +kernel
theorem dX8_readValue_29 : decode cX8_readValue 29 = .ok (.aload_n 0, 1) := by decide +kernel
theorem dX8_readValue_30 : decode cX8_readValue 30 = .ok (.invokevirtual 93, 3) := by decide +kernel
theorem dX8_readValue_33 : decode cX8_readValue 33 = .ok (.bipush 91, 2) := by decide +kernel
theorem dX8_readValue_35 : decode cX8_readValue 35 = .ok (.if_icmp .ne 36, 3) := by decide +kernel
theorem dX8_readValue_38 : decode cX8_readValue 38 = .ok (.aload_n 0, 1) := by decide +kernel
theorem dX8_readValue_39 : decode cX8_readValue 39 = .ok (.dup, 1) := by decide +kernel
theorem dX8_readValue_40 : decode cX8_readValue 40 = .ok (.getfield 83, 3) := by decide +kernel
theorem dX8_readValue_43 : decode cX8_readValue 43 = .ok (.iconst 1, 1) := by decide +kernel
theorem dX8_readValue_44 : decode cX8_readValue 44 = .ok (.iadd, 1) := by decide +kernel
theorem dX8_readValue_45 : decode cX8_readValue 45 = .ok (.putfield 83, 3) := by decide +kernel
theorem dX8_readValue_48 : decode cX8_readValue 48 = .ok (.aload_n 0, 1) := by decide +kernel
theorem dX8_readValue_49 : decode cX8_readValue 49 = .ok (.invokevirtual 107, 3) := by decide +kernel
theorem dX8_readValue_52 : decode cX8_readValue 52 = .ok (.istore_n 2, 1) := by decide +kernel
theorem dX8_readValue_53 : decode cX8_readValue 53 = .ok (.aload_n 0, 1) := by decide +kernel
theorem dX8_readValue_54 : decode cX8_readValue 54 = .ok (.bipush 93, 2) := by decide +kernel
theorem dX8_readValue_56 : decode cX8_readValue 56 = .ok (.invokevirtual 110, 3) := by decide +kernel
theorem dX8_readValue_59 : decode cX8_readValue 59 = .ok (.aload_n 0, 1) := by decide +kernel
theorem dX8_readValue_60 : decode cX8_readValue 60 = .ok (.iconst 4, 1) := by decide +kernel
theorem dX8_readValue_61 : decode cX8_readValue 61 = .ok (.iload_n 1, 1) := by decide +kernel
theorem dX8_readValue_62 : decode cX8_readValue 62 = .ok (.iload_n 2, 1) := by decide +kernel
theorem dX8_readValue_63 : decode cX8_readValue 63 = .ok (.bipush (-6), 2) := by decide +kernel
theorem dX8_readValue_65 : decode cX8_readValue 65 = .ok (.bipush (-6), 2) := by decide +kernel
theorem dX8_readValue_67 : decode cX8_readValue 67 = .ok (.invokevirtual 103, 3) := by decide +kernel
theorem dX8_readValue_70 : decode cX8_readValue 70 = .ok (.return_, 1) := by decide +kernel
theorem dX8_readValue_71 : decode cX8_readValue 71 = .ok (.aload_n 0, 1) := by decide +kernel
theorem dX8_readValue_72 : decode cX8_readValue 72 = .ok (.invokevirtual 107, 3) := by decide +kernel
theorem dX8_readValue_75 : decode cX8_readValue 75 = .ok (.istore_n 2, 1) := by decide +kernel
theorem dX8_readValue_76 : decode cX8_readValue 76 = .ok (.aload_n 0, 1) := by decide +kernel
theorem dX8_readValue_77 : decode cX8_readValue 77 = .ok (.invokevirtual 93, 3) := by decide +kernel
theorem dX8_readValue_80 : decode cX8_readValue 80 = .ok (.istore_n 3, 1) := by decide +kernel
theorem dX8_readValue_81 : decode cX8_readValue 81 = .ok (.iload_n 3, 1) := by decide +kernel
theorem dX8_readValue_82 : decode cX8_readValue 82 = .ok (.bipush 43, 2) := by decide +kernel
theorem dX8_readValue_84 : decode cX8_readValue 84 = .ok (.if_icmp .ne 7, 3) := by decide +kernel
theorem dX8_readValue_87 : decode cX8_readValue 87 = .ok (.iconst 1, 1) := by decide +kernel
theorem dX8_readValue_88 : decode cX8_readValue 88 = .ok (.goto 25, 3) := by decide +kernel
theorem dX8_readValue_91 : decode cX8_readValue 91 = .ok (.iload_n 3, 1) := by decide +kernel
theorem dX8_readValue_92 : decode cX8_readValue 92 = .ok (.bipush 45, 2) := by decide +kernel
theorem dX8_readValue_94 : decode cX8_readValue 94 = .ok (.if_icmp .ne 7, 3) := by decide +kernel
theorem dX8_readValue_97 : decode cX8_readValue 97 = .ok (.iconst 2, 1) := by decide +kernel
theorem dX8_readValue_98 : decode cX8_readValue 98 = .ok (.goto 15, 3) := by decide +kernel
theorem dX8_readValue_101 : decode cX8_readValue 101 = .ok (.iload_n 3, 1) := by decide +kernel
theorem dX8_readValue_102 : decode cX8_readValue 102 = .ok (.bipush 42, 2) := by decide +kernel
theorem dX8_readValue_104 : decode cX8_readValue 104 = .ok (.if_icmp .ne 7, 3) := by decide +kernel
theorem dX8_readValue_107 : decode cX8_readValue 107 = .ok (.iconst 3, 1) := by decide +kernel
theorem dX8_readValue_108 : decode cX8_readValue 108 = .ok (.goto 5, 3) := by decide +kernel
theorem dX8_readValue_111 : decode cX8_readValue 111 = .ok (.bipush (-6), 2) := by decide +kernel
theorem dX8_readValue_113 : decode cX8_readValue 113 = .ok (.istore 4, 2) := by decide +kernel
theorem dX8_readValue_115 : decode cX8_readValue 115 = .ok (.aload_n 0, 1) := by decide +kernel
theorem dX8_readValue_116 : decode cX8_readValue 116 = .ok (.aload_n 0, 1) := by decide +kernel
theorem dX8_readValue_117 : decode cX8_readValue 117 = .ok (.getfield 89, 3) := by decide +kernel
theorem dX8_readValue_120 : decode cX8_readValue 120 = .ok (.ifCond .ne 8, 3) := by decide +kernel
theorem dX8_readValue_123 : decode cX8_readValue 123 = .ok (.iload 4, 2) := by decide +kernel
theorem dX8_readValue_125 : decode cX8_readValue 125 = .ok (.ifCond .ge 7, 3) := by decide +kernel
theorem dX8_readValue_128 : decode cX8_readValue 128 = .ok (.iconst 1, 1) := by decide +kernel
theorem dX8_readValue_129 : decode cX8_readValue 129 = .ok (.goto 4, 3) := by decide +kernel
theorem dX8_readValue_132 : decode cX8_readValue 132 = .ok (.iconst 0, 1) := by decide +kernel
theorem dX8_readValue_133 : decode cX8_readValue 133 = .ok (.putfield 89, 3) := by decide +kernel
theorem dX8_readValue_136 : decode cX8_readValue 136 = .ok (.aload_n 0, 1) := by decide +kernel
theorem dX8_readValue_137 : decode cX8_readValue 137 = .ok (.dup, 1) := by decide +kernel
theorem dX8_readValue_138 : decode cX8_readValue 138 = .ok (.getfield 83, 3) := by decide +kernel
theorem dX8_readValue_141 : decode cX8_readValue 141 = .ok (.aload_n 0, 1) := by decide +kernel
theorem dX8_readValue_142 : decode cX8_readValue 142 = .ok (.getfield 89, 3) := by decide +kernel
theorem dX8_readValue_145 : decode cX8_readValue 145 = .ok (.ifCond .eq 7, 3) := by decide +kernel
theorem dX8_readValue_148 : decode cX8_readValue 148 = .ok (.iconst 0, 1) := by decide +kernel
theorem dX8_readValue_149 : decode cX8_readValue 149 = .ok (.goto 4, 3) := by decide +kernel
theorem dX8_readValue_152 : decode cX8_readValue 152 = .ok (.iconst 1, 1) := by decide +kernel
theorem dX8_readValue_153 : decode cX8_readValue 153 = .ok (.iadd, 1) := by decide +kernel
theorem dX8_readValue_154 : decode cX8_readValue 154 = .ok (.putfield 83, 3) := by decide +kernel
theorem dX8_readValue_157 : decode cX8_readValue 157 = .ok (.aload_n 0, 1) := by decide +kernel
theorem dX8_readValue_158 : decode cX8_readValue 158 = .ok (.getfield 89, 3) := by decide +kernel
theorem dX8_readValue_161 : decode cX8_readValue 161 = .ok (.ifCond .eq 7, 3) := by decide +kernel
theorem dX8_readValue_164 : decode cX8_readValue 164 = .ok (.iconst 0, 1) := by decide +kernel
theorem dX8_readValue_165 : decode cX8_readValue 165 = .ok (.goto 7, 3) := by decide +kernel
theorem dX8_readValue_168 : decode cX8_readValue 168 = .ok (.aload_n 0, 1) := by decide +kernel
theorem dX8_readValue_169 : decode cX8_readValue 169 = .ok (.invokevirtual 107, 3) := by decide +kernel
theorem dX8_readValue_172 : decode cX8_readValue 172 = .ok (.istore 5, 2) := by decide +kernel
theorem dX8_readValue_174 : decode cX8_readValue 174 = .ok (.aload_n 0, 1) := by decide +kernel
theorem dX8_readValue_175 : decode cX8_readValue 175 = .ok (.iload 4, 2) := by decide +kernel
theorem dX8_readValue_177 : decode cX8_readValue 177 = .ok (.iload_n 1, 1) := by decide +kernel
theorem dX8_readValue_178 : decode cX8_readValue 178 = .ok (.iload_n 2, 1) := by decide +kernel
theorem dX8_readValue_179 : decode cX8_readValue 179 = .ok (.iload 5, 2) := by decide +kernel
theorem dX8_readValue_181 : decode cX8_readValue 181 = .ok (.bipush (-6), 2) := by decide +kernel
theorem dX8_readValue_183 : decode cX8_readValue 183 = .ok (.invokevirtual 103, 3) := by decide +kernel
theorem dX8_readValue_186 : decode cX8_readValue 186 = .ok (.return_, 1) := by decide +kernel
theorem dX8_readOne_0 : decode cX8_readOne 0 = .ok (.aload_n 0, 1) := by decide +kernel
theorem dX8_readOne_1 : decode cX8_readOne 1 = .ok (.invokevirtual 93, 3) := by decide +kernel
theorem dX8_readOne_4 : decode cX8_readOne 4 = .ok (.bipush 91, 2) := by decide +kernel
theorem dX8_readOne_6 : decode cX8_readOne 6 = .ok (.if_icmp .ne 58, 3) := by decide +kernel
theorem dX8_readOne_9 : decode cX8_readOne 9 = .ok (.aload_n 0, 1) := by decide +kernel
theorem dX8_readOne_10 : decode cX8_readOne 10 = .ok (.dup, 1) := by decide +kernel
theorem dX8_readOne_11 : decode cX8_readOne 11 = .ok (.getfield 83, 3) := by decide +kernel
theorem dX8_readOne_14 : decode cX8_readOne 14 = .ok (.iconst 1, 1) := by decide +kernel
theorem dX8_readOne_15 : decode cX8_readOne 15 = .ok (.iadd, 1) := by decide +kernel
theorem dX8_readOne_16 : decode cX8_readOne 16 = .ok (.putfield 83, 3) := by decide +kernel
theorem dX8_readOne_19 : decode cX8_readOne 19 = .ok (.aload_n 0, 1) := by decide +kernel
theorem dX8_readOne_20 : decode cX8_readOne 20 = .ok (.invokevirtual 107, 3) := by decide +kernel
theorem dX8_readOne_23 : decode cX8_readOne 23 = .ok (.istore_n 1, 1) := by decide +kernel
theorem dX8_readOne_24 : decode cX8_readOne 24 = .ok (.aload_n 0, 1) := by decide +kernel
theorem dX8_readOne_25 : decode cX8_readOne 25 = .ok (.bipush 93, 2) := by decide +kernel
theorem dX8_readOne_27 : decode cX8_readOne 27 = .ok (.invokevirtual 110, 3) := by decide +kernel
theorem dX8_readOne_30 : decode cX8_readOne 30 = .ok (.aload_n 0, 1) := by decide +kernel
theorem dX8_readOne_31 : decode cX8_readOne 31 = .ok (.bipush 61, 2) := by decide +kernel
theorem dX8_readOne_33 : decode cX8_readOne 33 = .ok (.invokevirtual 110, 3) := by decide +kernel
theorem dX8_readOne_36 : decode cX8_readOne 36 = .ok (.aload_n 0, 1) := by decide +kernel
theorem dX8_readOne_37 : decode cX8_readOne 37 = .ok (.getfield 89, 3) := by decide +kernel
theorem dX8_readOne_40 : decode cX8_readOne 40 = .ok (.ifCond .eq 7, 3) := by decide +kernel
theorem dX8_readOne_43 : decode cX8_readOne 43 = .ok (.iconst 0, 1) := by decide +kernel
theorem dX8_readOne_44 : decode cX8_readOne 44 = .ok (.goto 7, 3) := by decide +kernel
theorem dX8_readOne_47 : decode cX8_readOne 47 = .ok (.aload_n 0, 1) := by decide +kernel
theorem dX8_readOne_48 : decode cX8_readOne 48 = .ok (.invokevirtual 107, 3) := by decide +kernel
theorem dX8_readOne_51 : decode cX8_readOne 51 = .ok (.istore_n 2, 1) := by decide +kernel
theorem dX8_readOne_52 : decode cX8_readOne 52 = .ok (.aload_n 0, 1) := by decide +kernel
theorem dX8_readOne_53 : decode cX8_readOne 53 = .ok (.iconst 5, 1) := by decide +kernel
theorem dX8_readOne_54 : decode cX8_readOne 54 = .ok (.iload_n 1, 1) := by decide +kernel
theorem dX8_readOne_55 : decode cX8_readOne 55 = .ok (.iload_n 2, 1) := by decide +kernel
theorem dX8_readOne_56 : decode cX8_readOne 56 = .ok (.bipush (-6), 2) := by decide +kernel
theorem dX8_readOne_58 : decode cX8_readOne 58 = .ok (.bipush (-6), 2) := by decide +kernel
theorem dX8_readOne_60 : decode cX8_readOne 60 = .ok (.invokevirtual 103, 3) := by decide +kernel
theorem dX8_readOne_63 : decode cX8_readOne 63 = .ok (.return_, 1) := by decide +kernel
theorem dX8_readOne_64 : decode cX8_readOne 64 = .ok (.aload_n 0, 1) := by decide +kernel
theorem dX8_readOne_65 : decode cX8_readOne 65 = .ok (.invokevirtual 107, 3) := by decide +kernel
theorem dX8_readOne_68 : decode cX8_readOne 68 = .ok (.istore_n 1, 1) := by decide +kernel
theorem dX8_readOne_69 : decode cX8_readOne 69 = .ok (.aload_n 0, 1) := by decide +kernel
theorem dX8_readOne_70 : decode cX8_readOne 70 = .ok (.getfield 89, 3) := by decide +kernel
theorem dX8_readOne_73 : decode cX8_readOne 73 = .ok (.ifCond .eq 4, 3) := by decide +kernel
theorem dX8_readOne_76 : decode cX8_readOne 76 = .ok (.return_, 1) := by decide +kernel
theorem dX8_readOne_77 : decode cX8_readOne 77 = .ok (.aload_n 0, 1) := by decide +kernel
theorem dX8_readOne_78 : decode cX8_readOne 78 = .ok (.invokevirtual 93, 3) := by decide +kernel
theorem dX8_readOne_81 : decode cX8_readOne 81 = .ok (.bipush 63, 2) := by decide +kernel
theorem dX8_readOne_83 : decode cX8_readOne 83 = .ok (.if_icmp .ne 29, 3) := by decide +kernel
theorem dX8_readOne_86 : decode cX8_readOne 86 = .ok (.aload_n 0, 1) := by decide +kernel
theorem dX8_readOne_87 : decode cX8_readOne 87 = .ok (.dup, 1) := by decide +kernel
theorem dX8_readOne_88 : decode cX8_readOne 88 = .ok (.getfield 83, 3) := by decide +kernel
theorem dX8_readOne_91 : decode cX8_readOne 91 = .ok (.iconst 1, 1) := by decide +kernel
theorem dX8_readOne_92 : decode cX8_readOne 92 = .ok (.iadd, 1) := by decide +kernel
theorem dX8_readOne_93 : decode cX8_readOne 93 = .ok (.putfield 83, 3) := by decide +kernel
theorem dX8_readOne_96 : decode cX8_readOne 96 = .ok (.aload_n 0, 1) := by decide +kernel
theorem dX8_readOne_97 : decode cX8_readOne 97 = .ok (.bipush 6, 2) := by decide +kernel
theorem dX8_readOne_99 : decode cX8_readOne 99 = .ok (.iload_n 1, 1) := by decide +kernel
theorem dX8_readOne_100 : decode cX8_readOne 100 = .ok (.bipush (-6), 2) := by decide +kernel
theorem dX8_readOne_102 : decode cX8_readOne 102 = .ok (.bipush (-6), 2) := by decide +kernel
theorem dX8_readOne_104 : decode cX8_readOne 104 = .ok (.aload_n 0, 1) := by decide +kernel
theorem dX8_readOne_105 : decode cX8_readOne 105 = .ok (.invokevirtual 100, 3) := by decide +kernel
theorem dX8_readOne_108 : decode cX8_readOne 108 = .ok (.invokevirtual 103, 3) := by decide +kernel
theorem dX8_readOne_111 : decode cX8_readOne 111 = .ok (.return_, 1) := by decide +kernel
theorem dX8_readOne_112 : decode cX8_readOne 112 = .ok (.aload_n 0, 1) := by decide +kernel
theorem dX8_readOne_113 : decode cX8_readOne 113 = .ok (.bipush 61, 2) := by decide +kernel
theorem dX8_readOne_115 : decode cX8_readOne 115 = .ok (.invokevirtual 110, 3) := by decide +kernel
theorem dX8_readOne_118 : decode cX8_readOne 118 = .ok (.aload_n 0, 1) := by decide +kernel
theorem dX8_readOne_119 : decode cX8_readOne 119 = .ok (.getfield 89, 3) := by decide +kernel
theorem dX8_readOne_122 : decode cX8_readOne 122 = .ok (.ifCond .ne 8, 3) := by decide +kernel
theorem dX8_readOne_125 : decode cX8_readOne 125 = .ok (.aload_n 0, 1) := by decide +kernel
theorem dX8_readOne_126 : decode cX8_readOne 126 = .ok (.iload_n 1, 1) := by decide +kernel
theorem dX8_readOne_127 : decode cX8_readOne 127 = .ok (.invokevirtual 114, 3) := by decide +kernel
theorem dX8_readOne_130 : decode cX8_readOne 130 = .ok (.return_, 1) := by decide +kernel
theorem dX8_faultOf_0 : decode cX8_faultOf 0 = .ok (.aload_n 0, 1) := by decide +kernel
theorem dX8_faultOf_1 : decode cX8_faultOf 1 = .ok (.iconst 0, 1) := by decide +kernel
theorem dX8_faultOf_2 : decode cX8_faultOf 2 = .ok (.putfield 83, 3) := by decide +kernel
theorem dX8_faultOf_5 : decode cX8_faultOf 5 = .ok (.aload_n 0, 1) := by decide +kernel
theorem dX8_faultOf_6 : decode cX8_faultOf 6 = .ok (.iconst 0, 1) := by decide +kernel
theorem dX8_faultOf_7 : decode cX8_faultOf 7 = .ok (.putfield 97, 3) := by decide +kernel
theorem dX8_faultOf_10 : decode cX8_faultOf 10 = .ok (.aload_n 0, 1) := by decide +kernel
theorem dX8_faultOf_11 : decode cX8_faultOf 11 = .ok (.iconst 0, 1) := by decide +kernel
theorem dX8_faultOf_12 : decode cX8_faultOf 12 = .ok (.putfield 89, 3) := by decide +kernel
theorem dX8_faultOf_15 : decode cX8_faultOf 15 = .ok (.aload_n 0, 1) := by decide +kernel
theorem dX8_faultOf_16 : decode cX8_faultOf 16 = .ok (.invokevirtual 117, 3) := by decide +kernel
theorem dX8_faultOf_19 : decode cX8_faultOf 19 = .ok (.aload_n 0, 1) := by decide +kernel
theorem dX8_faultOf_20 : decode cX8_faultOf 20 = .ok (.getfield 89, 3) := by decide +kernel
theorem dX8_faultOf_23 : decode cX8_faultOf 23 = .ok (.ifCond .ne 34, 3) := by decide +kernel
theorem dX8_faultOf_26 : decode cX8_faultOf 26 = .ok (.aload_n 0, 1) := by decide +kernel
theorem dX8_faultOf_27 : decode cX8_faultOf 27 = .ok (.getfield 83, 3) := by decide +kernel
theorem dX8_faultOf_30 : decode cX8_faultOf 30 = .ok (.aload_n 0, 1) := by decide +kernel
theorem dX8_faultOf_31 : decode cX8_faultOf 31 = .ok (.getfield 86, 3) := by decide +kernel
theorem dX8_faultOf_34 : decode cX8_faultOf 34 = .ok (.if_icmp .ge 23, 3) := by decide +kernel
theorem dX8_faultOf_37 : decode cX8_faultOf 37 = .ok (.aload_n 0, 1) := by decide +kernel
theorem dX8_faultOf_38 : decode cX8_faultOf 38 = .ok (.bipush 59, 2) := by decide +kernel
theorem dX8_faultOf_40 : decode cX8_faultOf 40 = .ok (.invokevirtual 110, 3) := by decide +kernel
theorem dX8_faultOf_43 : decode cX8_faultOf 43 = .ok (.aload_n 0, 1) := by decide +kernel
theorem dX8_faultOf_44 : decode cX8_faultOf 44 = .ok (.getfield 89, 3) := by decide +kernel
theorem dX8_faultOf_47 : decode cX8_faultOf 47 = .ok (.ifCond .ne (-28), 3) := by decide +kernel
theorem dX8_faultOf_50 : decode cX8_faultOf 50 = .ok (.aload_n 0, 1) := by decide +kernel
theorem dX8_faultOf_51 : decode cX8_faultOf 51 = .ok (.invokevirtual 117, 3) := by decide +kernel
theorem dX8_faultOf_54 : decode cX8_faultOf 54 = .ok (.goto (-35), 3) := by decide +kernel
theorem dX8_faultOf_57 : decode cX8_faultOf 57 = .ok (.aload_n 0, 1) := by decide +kernel
theorem dX8_faultOf_58 : decode cX8_faultOf 58 = .ok (.getfield 89, 3) := by decide +kernel
theorem dX8_faultOf_61 : decode cX8_faultOf 61 = .ok (.ifCond .eq 10, 3) := by decide +kernel
theorem dX8_faultOf_64 : decode cX8_faultOf 64 = .ok (.aload_n 0, 1) := by decide +kernel
theorem dX8_faultOf_65 : decode cX8_faultOf 65 = .ok (.getfield 83, 3) := by decide +kernel
theorem dX8_faultOf_68 : decode cX8_faultOf 68 = .ok (.goto 5, 3) := by decide +kernel
theorem dX8_faultOf_71 : decode cX8_faultOf 71 = .ok (.bipush (-6), 2) := by decide +kernel
theorem dX8_faultOf_73 : decode cX8_faultOf 73 = .ok (.ireturn, 1) := by decide +kernel
theorem dX8_put_0 : decode cX8_put 0 = .ok (.iconst 0, 1) := by decide +kernel
theorem dX8_put_1 : decode cX8_put 1 = .ok (.istore_n 3, 1) := by decide +kernel
theorem dX8_put_2 : decode cX8_put 2 = .ok (.lload_n 1, 1) := by decide +kernel
theorem dX8_put_3 : decode cX8_put 3 = .ok (.lstore 4, 2) := by decide +kernel
theorem dX8_put_5 : decode cX8_put 5 = .ok (.lload 4, 2) := by decide +kernel
theorem dX8_put_7 : decode cX8_put 7 = .ok (.ldc2_w 120, 3) := by decide +kernel
theorem dX8_put_10 : decode cX8_put 10 = .ok (.land, 1) := by decide +kernel
theorem dX8_put_11 : decode cX8_put 11 = .ok (.lconst 0, 1) := by decide +kernel
theorem dX8_put_12 : decode cX8_put 12 = .ok (.lcmp, 1) := by decide +kernel
theorem dX8_put_13 : decode cX8_put 13 = .ok (.ifCond .eq 36, 3) := by decide +kernel
theorem dX8_put_16 : decode cX8_put 16 = .ok (.lload 4, 2) := by decide +kernel
theorem dX8_put_18 : decode cX8_put 18 = .ok (.ldc2_w 120, 3) := by decide +kernel
theorem dX8_put_21 : decode cX8_put 21 = .ok (.land, 1) := by decide +kernel
theorem dX8_put_22 : decode cX8_put 22 = .ok (.l2i, 1) := by decide +kernel
theorem dX8_put_23 : decode cX8_put 23 = .ok (.bipush 33, 2) := by decide +kernel
theorem dX8_put_25 : decode cX8_put 25 = .ok (.bipush 126, 2) := by decide +kernel
theorem dX8_put_27 : decode cX8_put 27 = .ok (.invokestatic 72, 3) := by decide +kernel
theorem dX8_put_30 : decode cX8_put 30 = .ok (.ifCond .ne 6, 3) := by decide +kernel
theorem dX8_put_33 : decode cX8_put 33 = .ok (.bipush (-2), 2) := by decide +kernel
theorem dX8_put_35 : decode cX8_put 35 = .ok (.ireturn, 1) := by decide +kernel
theorem dX8_put_36 : decode cX8_put 36 = .ok (.iinc 3 1, 3) := by decide +kernel
theorem dX8_put_39 : decode cX8_put 39 = .ok (.lload 4, 2) := by decide +kernel
theorem dX8_put_41 : decode cX8_put 41 = .ok (.bipush 8, 2) := by decide +kernel
theorem dX8_put_43 : decode cX8_put 43 = .ok (.lushr, 1) := by decide +kernel
theorem dX8_put_44 : decode cX8_put 44 = .ok (.lstore 4, 2) := by decide +kernel
theorem dX8_put_46 : decode cX8_put 46 = .ok (.goto (-41), 3) := by decide +kernel
theorem dX8_put_49 : decode cX8_put 49 = .ok (.lload 4, 2) := by decide +kernel
theorem dX8_put_51 : decode cX8_put 51 = .ok (.lconst 0, 1) := by decide +kernel
theorem dX8_put_52 : decode cX8_put 52 = .ok (.lcmp, 1) := by decide +kernel
theorem dX8_put_53 : decode cX8_put 53 = .ok (.ifCond .ne 7, 3) := by decide +kernel
theorem dX8_put_56 : decode cX8_put 56 = .ok (.iload_n 3, 1) := by decide +kernel
theorem dX8_put_57 : decode cX8_put 57 = .ok (.ifCond .ne 6, 3) := by decide +kernel
theorem dX8_put_60 : decode cX8_put 60 = .ok (.bipush (-2), 2) := by decide +kernel
theorem dX8_put_62 : decode cX8_put 62 = .ok (.ireturn, 1) := by decide +kernel
theorem dX8_put_63 : decode cX8_put 63 = .ok (.aload_n 0, 1) := by decide +kernel
theorem dX8_put_64 : decode cX8_put 64 = .ok (.getfield 86, 3) := by decide +kernel
theorem dX8_put_67 : decode cX8_put 67 = .ok (.iload_n 3, 1) := by decide +kernel
theorem dX8_put_68 : decode cX8_put 68 = .ok (.iadd, 1) := by decide +kernel
theorem dX8_put_69 : decode cX8_put 69 = .ok (.bipush 80, 2) := by decide +kernel
theorem dX8_put_71 : decode cX8_put 71 = .ok (.if_icmp .le 6, 3) := by decide +kernel
theorem dX8_put_74 : decode cX8_put 74 = .ok (.bipush (-4), 2) := by decide +kernel
theorem dX8_put_76 : decode cX8_put 76 = .ok (.ireturn, 1) := by decide +kernel
theorem dX8_put_77 : decode cX8_put 77 = .ok (.lload_n 1, 1) := by decide +kernel
theorem dX8_put_78 : decode cX8_put 78 = .ok (.lstore 4, 2) := by decide +kernel
theorem dX8_put_80 : decode cX8_put 80 = .ok (.iload_n 3, 1) := by decide +kernel
theorem dX8_put_81 : decode cX8_put 81 = .ok (.iconst 1, 1) := by decide +kernel
theorem dX8_put_82 : decode cX8_put 82 = .ok (.isub, 1) := by decide +kernel
theorem dX8_put_83 : decode cX8_put 83 = .ok (.istore 6, 2) := by decide +kernel
theorem dX8_put_85 : decode cX8_put 85 = .ok (.iload 6, 2) := by decide +kernel
theorem dX8_put_87 : decode cX8_put 87 = .ok (.ifCond .lt 35, 3) := by decide +kernel
theorem dX8_put_90 : decode cX8_put 90 = .ok (.aload_n 0, 1) := by decide +kernel
theorem dX8_put_91 : decode cX8_put 91 = .ok (.getfield 23, 3) := by decide +kernel
theorem dX8_put_94 : decode cX8_put 94 = .ok (.aload_n 0, 1) := by decide +kernel
theorem dX8_put_95 : decode cX8_put 95 = .ok (.getfield 86, 3) := by decide +kernel
theorem dX8_put_98 : decode cX8_put 98 = .ok (.iload 6, 2) := by decide +kernel
theorem dX8_put_100 : decode cX8_put 100 = .ok (.iadd, 1) := by decide +kernel
theorem dX8_put_101 : decode cX8_put 101 = .ok (.lload 4, 2) := by decide +kernel
theorem dX8_put_103 : decode cX8_put 103 = .ok (.ldc2_w 120, 3) := by decide +kernel
theorem dX8_put_106 : decode cX8_put 106 = .ok (.land, 1) := by decide +kernel
theorem dX8_put_107 : decode cX8_put 107 = .ok (.l2i, 1) := by decide +kernel
theorem dX8_put_108 : decode cX8_put 108 = .ok (.iastore, 1) := by decide +kernel
theorem dX8_put_109 : decode cX8_put 109 = .ok (.lload 4, 2) := by decide +kernel
theorem dX8_put_111 : decode cX8_put 111 = .ok (.bipush 8, 2) := by decide +kernel
theorem dX8_put_113 : decode cX8_put 113 = .ok (.lushr, 1) := by decide +kernel
theorem dX8_put_114 : decode cX8_put 114 = .ok (.lstore 4, 2) := by decide +kernel
theorem dX8_put_116 : decode cX8_put 116 = .ok (.iinc 6 (-1), 3) := by decide +kernel
theorem dX8_put_119 : decode cX8_put 119 = .ok (.goto (-34), 3) := by decide +kernel
theorem dX8_put_122 : decode cX8_put 122 = .ok (.aload_n 0, 1) := by decide +kernel
theorem dX8_put_123 : decode cX8_put 123 = .ok (.dup, 1) := by decide +kernel
theorem dX8_put_124 : decode cX8_put 124 = .ok (.getfield 86, 3) := by decide +kernel
theorem dX8_put_127 : decode cX8_put 127 = .ok (.iload_n 3, 1) := by decide +kernel
theorem dX8_put_128 : decode cX8_put 128 = .ok (.iadd, 1) := by decide +kernel
theorem dX8_put_129 : decode cX8_put 129 = .ok (.putfield 86, 3) := by decide +kernel
theorem dX8_put_132 : decode cX8_put 132 = .ok (.aload_n 0, 1) := by decide +kernel
theorem dX8_put_133 : decode cX8_put 133 = .ok (.getfield 86, 3) := by decide +kernel
theorem dX8_put_136 : decode cX8_put 136 = .ok (.ireturn, 1) := by decide +kernel
theorem dX8_wipe_0 : decode cX8_wipe 0 = .ok (.aload_n 0, 1) := by decide +kernel
theorem dX8_wipe_1 : decode cX8_wipe 1 = .ok (.getfield 86, 3) := by decide +kernel
theorem dX8_wipe_4 : decode cX8_wipe 4 = .ok (.istore_n 1, 1) := by decide +kernel
theorem dX8_wipe_5 : decode cX8_wipe 5 = .ok (.aload_n 0, 1) := by decide +kernel
theorem dX8_wipe_6 : decode cX8_wipe 6 = .ok (.iconst 0, 1) := by decide +kernel
theorem dX8_wipe_7 : decode cX8_wipe 7 = .ok (.putfield 86, 3) := by decide +kernel
theorem dX8_wipe_10 : decode cX8_wipe 10 = .ok (.iload_n 1, 1) := by decide +kernel
theorem dX8_wipe_11 : decode cX8_wipe 11 = .ok (.ireturn, 1) := by decide +kernel
theorem dX8_fault_0 : decode cX8_fault 0 = .ok (.aload_n 0, 1) := by decide +kernel
theorem dX8_fault_1 : decode cX8_fault 1 = .ok (.invokevirtual 122, 3) := by decide +kernel
theorem dX8_fault_4 : decode cX8_fault 4 = .ok (.ireturn, 1) := by decide +kernel
theorem dX8_program_0 : decode cX8_program 0 = .ok (.iload_n 1, 1) := by decide +kernel
theorem dX8_program_1 : decode cX8_program 1 = .ok (.invokestatic 79, 3) := by decide +kernel
theorem dX8_program_4 : decode cX8_program 4 = .ok (.ifCond .ne 5, 3) := by decide +kernel
theorem dX8_program_7 : decode cX8_program 7 = .ok (.iconst (-1), 1) := by decide +kernel
theorem dX8_program_8 : decode cX8_program 8 = .ok (.ireturn, 1) := by decide +kernel
theorem dX8_program_9 : decode cX8_program 9 = .ok (.aload_n 0, 1) := by decide +kernel
theorem dX8_program_10 : decode cX8_program 10 = .ok (.invokevirtual 122, 3) := by decide +kernel
theorem dX8_program_13 : decode cX8_program 13 = .ok (.bipush (-6), 2) := by decide +kernel
theorem dX8_program_15 : decode cX8_program 15 = .ok (.if_icmp .eq 6, 3) := by decide +kernel
theorem dX8_program_18 : decode cX8_program 18 = .ok (.bipush (-3), 2) := by decide +kernel
theorem dX8_program_20 : decode cX8_program 20 = .ok (.ireturn, 1) := by decide +kernel
theorem dX8_program_21 : decode cX8_program 21 = .ok (.aload_n 0, 1) := by decide +kernel
theorem dX8_program_22 : decode cX8_program 22 = .ok (.getfield 97, 3) := by decide +kernel
theorem dX8_program_25 : decode cX8_program 25 = .ok (.bipush 12, 2) := by decide +kernel
theorem dX8_program_27 : decode cX8_program 27 = .ok (.if_icmp .le 6, 3) := by decide +kernel
theorem dX8_program_30 : decode cX8_program 30 = .ok (.bipush (-4), 2) := by decide +kernel
theorem dX8_program_32 : decode cX8_program 32 = .ok (.ireturn, 1) := by decide +kernel
theorem dX8_program_33 : decode cX8_program 33 = .ok (.aload_n 0, 1) := by decide +kernel
theorem dX8_program_34 : decode cX8_program 34 = .ok (.invokevirtual 76, 3) := by decide +kernel
theorem dX8_program_37 : decode cX8_program 37 = .ok (.aload_n 0, 1) := by decide +kernel
theorem dX8_program_38 : decode cX8_program 38 = .ok (.getfield 7, 3) := by decide +kernel
theorem dX8_program_41 : decode cX8_program 41 = .ok (.bipush 10, 2) := by decide +kernel
theorem dX8_program_43 : decode cX8_program 43 = .ok (.bipush 100, 2) := by decide +kernel
theorem dX8_program_45 : decode cX8_program 45 = .ok (.iload_n 1, 1) := by decide +kernel
theorem dX8_program_46 : decode cX8_program 46 = .ok (.imul, 1) := by decide +kernel
theorem dX8_program_47 : decode cX8_program 47 = .ok (.iadd, 1) := by decide +kernel
theorem dX8_program_48 : decode cX8_program 48 = .ok (.aload_n 0, 1) := by decide +kernel
theorem dX8_program_49 : decode cX8_program 49 = .ok (.getfield 97, 3) := by decide +kernel
theorem dX8_program_52 : decode cX8_program 52 = .ok (.iastore, 1) := by decide +kernel
theorem dX8_program_53 : decode cX8_program 53 = .ok (.iconst 0, 1) := by decide +kernel
theorem dX8_program_54 : decode cX8_program 54 = .ok (.istore_n 2, 1) := by decide +kernel
theorem dX8_program_55 : decode cX8_program 55 = .ok (.iload_n 2, 1) := by decide +kernel
theorem dX8_program_56 : decode cX8_program 56 = .ok (.iconst 5, 1) := by decide +kernel
theorem dX8_program_57 : decode cX8_program 57 = .ok (.aload_n 0, 1) := by decide +kernel
theorem dX8_program_58 : decode cX8_program 58 = .ok (.getfield 97, 3) := by decide +kernel
theorem dX8_program_61 : decode cX8_program 61 = .ok (.imul, 1) := by decide +kernel
theorem dX8_program_62 : decode cX8_program 62 = .ok (.if_icmp .ge 31, 3) := by decide +kernel
theorem dX8_program_65 : decode cX8_program 65 = .ok (.aload_n 0, 1) := by decide +kernel
theorem dX8_program_66 : decode cX8_program 66 = .ok (.getfield 7, 3) := by decide +kernel
theorem dX8_program_69 : decode cX8_program 69 = .ok (.bipush 10, 2) := by decide +kernel
theorem dX8_program_71 : decode cX8_program 71 = .ok (.bipush 100, 2) := by decide +kernel
theorem dX8_program_73 : decode cX8_program 73 = .ok (.iload_n 1, 1) := by decide +kernel
theorem dX8_program_74 : decode cX8_program 74 = .ok (.imul, 1) := by decide +kernel
theorem dX8_program_75 : decode cX8_program 75 = .ok (.iadd, 1) := by decide +kernel
theorem dX8_program_76 : decode cX8_program 76 = .ok (.iconst 1, 1) := by decide +kernel
theorem dX8_program_77 : decode cX8_program 77 = .ok (.iadd, 1) := by decide +kernel
theorem dX8_program_78 : decode cX8_program 78 = .ok (.iload_n 2, 1) := by decide +kernel
theorem dX8_program_79 : decode cX8_program 79 = .ok (.iadd, 1) := by decide +kernel
theorem dX8_program_80 : decode cX8_program 80 = .ok (.aload_n 0, 1) := by decide +kernel
theorem dX8_program_81 : decode cX8_program 81 = .ok (.getfield 26, 3) := by decide +kernel
theorem dX8_program_84 : decode cX8_program 84 = .ok (.iload_n 2, 1) := by decide +kernel
theorem dX8_program_85 : decode cX8_program 85 = .ok (.iaload, 1) := by decide +kernel
theorem dX8_program_86 : decode cX8_program 86 = .ok (.iastore, 1) := by decide +kernel
theorem dX8_program_87 : decode cX8_program 87 = .ok (.iinc 2 1, 3) := by decide +kernel
theorem dX8_program_90 : decode cX8_program 90 = .ok (.goto (-35), 3) := by decide +kernel
theorem dX8_program_93 : decode cX8_program 93 = .ok (.aload_n 0, 1) := by decide +kernel
theorem dX8_program_94 : decode cX8_program 94 = .ok (.iconst 0, 1) := by decide +kernel
theorem dX8_program_95 : decode cX8_program 95 = .ok (.putfield 86, 3) := by decide +kernel
theorem dX8_program_98 : decode cX8_program 98 = .ok (.aload_n 0, 1) := by decide +kernel
theorem dX8_program_99 : decode cX8_program 99 = .ok (.getfield 97, 3) := by decide +kernel
theorem dX8_program_102 : decode cX8_program 102 = .ok (.ireturn, 1) := by decide +kernel
theorem dX8_many_0 : decode cX8_many 0 = .ok (.aload_n 0, 1) := by decide +kernel
theorem dX8_many_1 : decode cX8_many 1 = .ok (.getfield 7, 3) := by decide +kernel
theorem dX8_many_4 : decode cX8_many 4 = .ok (.bipush 10, 2) := by decide +kernel
theorem dX8_many_6 : decode cX8_many 6 = .ok (.bipush 100, 2) := by decide +kernel
theorem dX8_many_8 : decode cX8_many 8 = .ok (.iload_n 1, 1) := by decide +kernel
theorem dX8_many_9 : decode cX8_many 9 = .ok (.imul, 1) := by decide +kernel
theorem dX8_many_10 : decode cX8_many 10 = .ok (.iadd, 1) := by decide +kernel
theorem dX8_many_11 : decode cX8_many 11 = .ok (.iaload, 1) := by decide +kernel
theorem dX8_many_12 : decode cX8_many 12 = .ok (.ireturn, 1) := by decide +kernel
theorem dX8_of_0 : decode cX8_of 0 = .ok (.aload_n 0, 1) := by decide +kernel
theorem dX8_of_1 : decode cX8_of 1 = .ok (.getfield 7, 3) := by decide +kernel
theorem dX8_of_4 : decode cX8_of 4 = .ok (.bipush 10, 2) := by decide +kernel
theorem dX8_of_6 : decode cX8_of 6 = .ok (.bipush 100, 2) := by decide +kernel
theorem dX8_of_8 : decode cX8_of 8 = .ok (.iload_n 1, 1) := by decide +kernel
theorem dX8_of_9 : decode cX8_of 9 = .ok (.imul, 1) := by decide +kernel
theorem dX8_of_10 : decode cX8_of 10 = .ok (.iadd, 1) := by decide +kernel
theorem dX8_of_11 : decode cX8_of 11 = .ok (.iconst 1, 1) := by decide +kernel
theorem dX8_of_12 : decode cX8_of 12 = .ok (.iadd, 1) := by decide +kernel
theorem dX8_of_13 : decode cX8_of 13 = .ok (.iconst 5, 1) := by decide +kernel
theorem dX8_of_14 : decode cX8_of 14 = .ok (.iload_n 2, 1) := by decide +kernel
theorem dX8_of_15 : decode cX8_of 15 = .ok (.imul, 1) := by decide +kernel
theorem dX8_of_16 : decode cX8_of 16 = .ok (.iadd, 1) := by decide +kernel
theorem dX8_of_17 : decode cX8_of 17 = .ok (.iload_n 3, 1) := by decide +kernel
theorem dX8_of_18 : decode cX8_of 18 = .ok (.iadd, 1) := by decide +kernel
theorem dX8_of_19 : decode cX8_of 19 = .ok (.iaload, 1) := by decide +kernel
theorem dX8_of_20 : decode cX8_of 20 = .ok (.ireturn, 1) := by decide +kernel
theorem dX8_drop_0 : decode cX8_drop 0 = .ok (.iload_n 1, 1) := by decide +kernel
theorem dX8_drop_1 : decode cX8_drop 1 = .ok (.invokestatic 79, 3) := by decide +kernel
theorem dX8_drop_4 : decode cX8_drop 4 = .ok (.ifCond .ne 5, 3) := by decide +kernel
theorem dX8_drop_7 : decode cX8_drop 7 = .ok (.iconst (-1), 1) := by decide +kernel
theorem dX8_drop_8 : decode cX8_drop 8 = .ok (.ireturn, 1) := by decide +kernel
theorem dX8_drop_9 : decode cX8_drop 9 = .ok (.aload_n 0, 1) := by decide +kernel
theorem dX8_drop_10 : decode cX8_drop 10 = .ok (.invokevirtual 76, 3) := by decide +kernel
theorem dX8_drop_13 : decode cX8_drop 13 = .ok (.aload_n 0, 1) := by decide +kernel
theorem dX8_drop_14 : decode cX8_drop 14 = .ok (.iload_n 1, 1) := by decide +kernel
theorem dX8_drop_15 : decode cX8_drop 15 = .ok (.invokevirtual 125, 3) := by decide +kernel
theorem dX8_drop_18 : decode cX8_drop 18 = .ok (.istore_n 2, 1) := by decide +kernel
theorem dX8_drop_19 : decode cX8_drop 19 = .ok (.aload_n 0, 1) := by decide +kernel
theorem dX8_drop_20 : decode cX8_drop 20 = .ok (.getfield 7, 3) := by decide +kernel
theorem dX8_drop_23 : decode cX8_drop 23 = .ok (.bipush 10, 2) := by decide +kernel
theorem dX8_drop_25 : decode cX8_drop 25 = .ok (.bipush 100, 2) := by decide +kernel
theorem dX8_drop_27 : decode cX8_drop 27 = .ok (.iload_n 1, 1) := by decide +kernel
theorem dX8_drop_28 : decode cX8_drop 28 = .ok (.imul, 1) := by decide +kernel
theorem dX8_drop_29 : decode cX8_drop 29 = .ok (.iadd, 1) := by decide +kernel
theorem dX8_drop_30 : decode cX8_drop 30 = .ok (.iconst 0, 1) := by decide +kernel
theorem dX8_drop_31 : decode cX8_drop 31 = .ok (.iastore, 1) := by decide +kernel
theorem dX8_drop_32 : decode cX8_drop 32 = .ok (.iload_n 2, 1) := by decide +kernel
theorem dX8_drop_33 : decode cX8_drop 33 = .ok (.ireturn, 1) := by decide +kernel
theorem dX8_exchange_0 : decode cX8_exchange 0 = .ok (.aload_n 0, 1) := by decide +kernel
theorem dX8_exchange_1 : decode cX8_exchange 1 = .ok (.invokevirtual 76, 3) := by decide +kernel
theorem dX8_exchange_4 : decode cX8_exchange 4 = .ok (.bipush 10, 2) := by decide +kernel
theorem dX8_exchange_6 : decode cX8_exchange 6 = .ok (.istore_n 1, 1) := by decide +kernel
theorem dX8_exchange_7 : decode cX8_exchange 7 = .ok (.iload_n 1, 1) := by decide +kernel
theorem dX8_exchange_8 : decode cX8_exchange 8 = .ok (.bipush 110, 2) := by decide +kernel
theorem dX8_exchange_10 : decode cX8_exchange 10 = .ok (.if_icmp .ge 41, 3) := by decide +kernel
theorem dX8_exchange_13 : decode cX8_exchange 13 = .ok (.aload_n 0, 1) := by decide +kernel
theorem dX8_exchange_14 : decode cX8_exchange 14 = .ok (.getfield 7, 3) := by decide +kernel
theorem dX8_exchange_17 : decode cX8_exchange 17 = .ok (.iload_n 1, 1) := by decide +kernel
theorem dX8_exchange_18 : decode cX8_exchange 18 = .ok (.iaload, 1) := by decide +kernel
theorem dX8_exchange_19 : decode cX8_exchange 19 = .ok (.istore_n 2, 1) := by decide +kernel
theorem dX8_exchange_20 : decode cX8_exchange 20 = .ok (.aload_n 0, 1) := by decide +kernel
theorem dX8_exchange_21 : decode cX8_exchange 21 = .ok (.getfield 7, 3) := by decide +kernel
theorem dX8_exchange_24 : decode cX8_exchange 24 = .ok (.iload_n 1, 1) := by decide +kernel
theorem dX8_exchange_25 : decode cX8_exchange 25 = .ok (.aload_n 0, 1) := by decide +kernel
theorem dX8_exchange_26 : decode cX8_exchange 26 = .ok (.getfield 7, 3) := by decide +kernel
theorem dX8_exchange_29 : decode cX8_exchange 29 = .ok (.iload_n 1, 1) := by decide +kernel
theorem dX8_exchange_30 : decode cX8_exchange 30 = .ok (.bipush 100, 2) := by decide +kernel
theorem dX8_exchange_32 : decode cX8_exchange 32 = .ok (.iadd, 1) := by decide +kernel
theorem dX8_exchange_33 : decode cX8_exchange 33 = .ok (.iaload, 1) := by decide +kernel
theorem dX8_exchange_34 : decode cX8_exchange 34 = .ok (.iastore, 1) := by decide +kernel
theorem dX8_exchange_35 : decode cX8_exchange 35 = .ok (.aload_n 0, 1) := by decide +kernel
theorem dX8_exchange_36 : decode cX8_exchange 36 = .ok (.getfield 7, 3) := by decide +kernel
theorem dX8_exchange_39 : decode cX8_exchange 39 = .ok (.iload_n 1, 1) := by decide +kernel
theorem dX8_exchange_40 : decode cX8_exchange 40 = .ok (.bipush 100, 2) := by decide +kernel
theorem dX8_exchange_42 : decode cX8_exchange 42 = .ok (.iadd, 1) := by decide +kernel
theorem dX8_exchange_43 : decode cX8_exchange 43 = .ok (.iload_n 2, 1) := by decide +kernel
theorem dX8_exchange_44 : decode cX8_exchange 44 = .ok (.iastore, 1) := by decide +kernel
theorem dX8_exchange_45 : decode cX8_exchange 45 = .ok (.iinc 1 1, 3) := by decide +kernel
theorem dX8_exchange_48 : decode cX8_exchange 48 = .ok (.goto (-41), 3) := by decide +kernel
theorem dX8_exchange_51 : decode cX8_exchange 51 = .ok (.aload_n 0, 1) := by decide +kernel
theorem dX8_exchange_52 : decode cX8_exchange 52 = .ok (.invokevirtual 129, 3) := by decide +kernel
theorem dX8_exchange_55 : decode cX8_exchange 55 = .ok (.ireturn, 1) := by decide +kernel
theorem dX8_ofOrder_0 : decode cX8_ofOrder 0 = .ok (.iload_n 1, 1) := by decide +kernel
theorem dX8_ofOrder_1 : decode cX8_ofOrder 1 = .ok (.invokestatic 79, 3) := by decide +kernel
theorem dX8_ofOrder_4 : decode cX8_ofOrder 4 = .ok (.ifCond .eq 18, 3) := by decide +kernel
theorem dX8_ofOrder_7 : decode cX8_ofOrder 7 = .ok (.iload_n 2, 1) := by decide +kernel
theorem dX8_ofOrder_8 : decode cX8_ofOrder 8 = .ok (.iconst 0, 1) := by decide +kernel
theorem dX8_ofOrder_9 : decode cX8_ofOrder 9 = .ok (.aload_n 0, 1) := by decide +kernel
theorem dX8_ofOrder_10 : decode cX8_ofOrder 10 = .ok (.iload_n 1, 1) := by decide +kernel
theorem dX8_ofOrder_11 : decode cX8_ofOrder 11 = .ok (.invokevirtual 125, 3) := by decide +kernel
theorem dX8_ofOrder_14 : decode cX8_ofOrder 14 = .ok (.iconst 1, 1) := by decide +kernel
theorem dX8_ofOrder_15 : decode cX8_ofOrder 15 = .ok (.isub, 1) := by decide +kernel
theorem dX8_ofOrder_16 : decode cX8_ofOrder 16 = .ok (.invokestatic 72, 3) := by decide +kernel
theorem dX8_ofOrder_19 : decode cX8_ofOrder 19 = .ok (.ifCond .ne 5, 3) := by decide +kernel
theorem dX8_ofOrder_22 : decode cX8_ofOrder 22 = .ok (.iconst (-1), 1) := by decide +kernel
theorem dX8_ofOrder_23 : decode cX8_ofOrder 23 = .ok (.ireturn, 1) := by decide +kernel
theorem dX8_ofOrder_24 : decode cX8_ofOrder 24 = .ok (.iload_n 3, 1) := by decide +kernel
theorem dX8_ofOrder_25 : decode cX8_ofOrder 25 = .ok (.iconst 0, 1) := by decide +kernel
theorem dX8_ofOrder_26 : decode cX8_ofOrder 26 = .ok (.iconst 4, 1) := by decide +kernel
theorem dX8_ofOrder_27 : decode cX8_ofOrder 27 = .ok (.invokestatic 72, 3) := by decide +kernel
theorem dX8_ofOrder_30 : decode cX8_ofOrder 30 = .ok (.ifCond .eq 13, 3) := by decide +kernel
theorem dX8_ofOrder_33 : decode cX8_ofOrder 33 = .ok (.aload_n 0, 1) := by decide +kernel
theorem dX8_ofOrder_34 : decode cX8_ofOrder 34 = .ok (.iload_n 1, 1) := by decide +kernel
theorem dX8_ofOrder_35 : decode cX8_ofOrder 35 = .ok (.iload_n 2, 1) := by decide +kernel
theorem dX8_ofOrder_36 : decode cX8_ofOrder 36 = .ok (.iload_n 3, 1) := by decide +kernel
theorem dX8_ofOrder_37 : decode cX8_ofOrder 37 = .ok (.invokevirtual 132, 3) := by decide +kernel
theorem dX8_ofOrder_40 : decode cX8_ofOrder 40 = .ok (.goto 5, 3) := by decide +kernel
theorem dX8_ofOrder_43 : decode cX8_ofOrder 43 = .ok (.bipush (-2), 2) := by decide +kernel
theorem dX8_ofOrder_45 : decode cX8_ofOrder 45 = .ok (.ireturn, 1) := by decide +kernel
theorem dX8_isOpen_0 : decode cX8_isOpen 0 = .ok (.aload_n 0, 1) := by decide +kernel
theorem dX8_isOpen_1 : decode cX8_isOpen 1 = .ok (.getfield 50, 3) := by decide +kernel
theorem dX8_isOpen_4 : decode cX8_isOpen 4 = .ok (.iload_n 1, 1) := by decide +kernel
theorem dX8_isOpen_5 : decode cX8_isOpen 5 = .ok (.iaload, 1) := by decide +kernel
theorem dX8_isOpen_6 : decode cX8_isOpen 6 = .ok (.iconst 0, 1) := by decide +kernel
theorem dX8_isOpen_7 : decode cX8_isOpen 7 = .ok (.aload_n 0, 1) := by decide +kernel
theorem dX8_isOpen_8 : decode cX8_isOpen 8 = .ok (.iload_n 1, 1) := by decide +kernel
theorem dX8_isOpen_9 : decode cX8_isOpen 9 = .ok (.invokevirtual 125, 3) := by decide +kernel
theorem dX8_isOpen_12 : decode cX8_isOpen 12 = .ok (.iconst 1, 1) := by decide +kernel
theorem dX8_isOpen_13 : decode cX8_isOpen 13 = .ok (.isub, 1) := by decide +kernel
theorem dX8_isOpen_14 : decode cX8_isOpen 14 = .ok (.invokestatic 72, 3) := by decide +kernel
theorem dX8_isOpen_17 : decode cX8_isOpen 17 = .ok (.ifCond .eq 18, 3) := by decide +kernel
theorem dX8_isOpen_20 : decode cX8_isOpen 20 = .ok (.aload_n 0, 1) := by decide +kernel
theorem dX8_isOpen_21 : decode cX8_isOpen 21 = .ok (.getfield 47, 3) := by decide +kernel
theorem dX8_isOpen_24 : decode cX8_isOpen 24 = .ok (.iload_n 1, 1) := by decide +kernel
theorem dX8_isOpen_25 : decode cX8_isOpen 25 = .ok (.iaload, 1) := by decide +kernel
theorem dX8_isOpen_26 : decode cX8_isOpen 26 = .ok (.bipush 100, 2) := by decide +kernel
theorem dX8_isOpen_28 : decode cX8_isOpen 28 = .ok (.if_icmp .ge 7, 3) := by decide +kernel
theorem dX8_isOpen_31 : decode cX8_isOpen 31 = .ok (.iconst 1, 1) := by decide +kernel
theorem dX8_isOpen_32 : decode cX8_isOpen 32 = .ok (.goto 4, 3) := by decide +kernel
theorem dX8_isOpen_35 : decode cX8_isOpen 35 = .ok (.iconst 0, 1) := by decide +kernel
theorem dX8_isOpen_36 : decode cX8_isOpen 36 = .ok (.ireturn, 1) := by decide +kernel
theorem dX8_roomOf_0 : decode cX8_roomOf 0 = .ok (.iload_n 0, 1) := by decide +kernel
theorem dX8_roomOf_1 : decode cX8_roomOf 1 = .ok (.iconst 3, 1) := by decide +kernel
theorem dX8_roomOf_2 : decode cX8_roomOf 2 = .ok (.if_icmp .ne 7, 3) := by decide +kernel
theorem dX8_roomOf_5 : decode cX8_roomOf 5 = .ok (.iconst 0, 1) := by decide +kernel
theorem dX8_roomOf_6 : decode cX8_roomOf 6 = .ok (.goto 19, 3) := by decide +kernel
theorem dX8_roomOf_9 : decode cX8_roomOf 9 = .ok (.iload_n 0, 1) := by decide +kernel
theorem dX8_roomOf_10 : decode cX8_roomOf 10 = .ok (.iconst 4, 1) := by decide +kernel
theorem dX8_roomOf_11 : decode cX8_roomOf 11 = .ok (.if_icmp .eq 8, 3) := by decide +kernel
theorem dX8_roomOf_14 : decode cX8_roomOf 14 = .ok (.iload_n 0, 1) := by decide +kernel
theorem dX8_roomOf_15 : decode cX8_roomOf 15 = .ok (.iconst 5, 1) := by decide +kernel
theorem dX8_roomOf_16 : decode cX8_roomOf 16 = .ok (.if_icmp .ne 7, 3) := by decide +kernel
theorem dX8_roomOf_19 : decode cX8_roomOf 19 = .ok (.iconst 1, 1) := by decide +kernel
theorem dX8_roomOf_20 : decode cX8_roomOf 20 = .ok (.goto 5, 3) := by decide +kernel
theorem dX8_roomOf_23 : decode cX8_roomOf 23 = .ok (.bipush (-6), 2) := by decide +kernel
theorem dX8_roomOf_25 : decode cX8_roomOf 25 = .ok (.ireturn, 1) := by decide +kernel
theorem dX8_isReady_0 : decode cX8_isReady 0 = .ok (.aload_n 0, 1) := by decide +kernel
theorem dX8_isReady_1 : decode cX8_isReady 1 = .ok (.getfield 47, 3) := by decide +kernel
theorem dX8_isReady_4 : decode cX8_isReady 4 = .ok (.iload_n 1, 1) := by decide +kernel
theorem dX8_isReady_5 : decode cX8_isReady 5 = .ok (.iaload, 1) := by decide +kernel
theorem dX8_isReady_6 : decode cX8_isReady 6 = .ok (.istore_n 3, 1) := by decide +kernel
theorem dX8_isReady_7 : decode cX8_isReady 7 = .ok (.iload_n 3, 1) := by decide +kernel
theorem dX8_isReady_8 : decode cX8_isReady 8 = .ok (.ifCond .eq 44, 3) := by decide +kernel
theorem dX8_isReady_11 : decode cX8_isReady 11 = .ok (.aload_n 0, 1) := by decide +kernel
theorem dX8_isReady_12 : decode cX8_isReady 12 = .ok (.iload_n 1, 1) := by decide +kernel
theorem dX8_isReady_13 : decode cX8_isReady 13 = .ok (.aload_n 0, 1) := by decide +kernel
theorem dX8_isReady_14 : decode cX8_isReady 14 = .ok (.getfield 38, 3) := by decide +kernel
theorem dX8_isReady_17 : decode cX8_isReady 17 = .ok (.bipush 100, 2) := by decide +kernel
theorem dX8_isReady_19 : decode cX8_isReady 19 = .ok (.iload_n 1, 1) := by decide +kernel
theorem dX8_isReady_20 : decode cX8_isReady 20 = .ok (.imul, 1) := by decide +kernel
theorem dX8_isReady_21 : decode cX8_isReady 21 = .ok (.iload_n 3, 1) := by decide +kernel
theorem dX8_isReady_22 : decode cX8_isReady 22 = .ok (.iadd, 1) := by decide +kernel
theorem dX8_isReady_23 : decode cX8_isReady 23 = .ok (.iconst 1, 1) := by decide +kernel
theorem dX8_isReady_24 : decode cX8_isReady 24 = .ok (.isub, 1) := by decide +kernel
theorem dX8_isReady_25 : decode cX8_isReady 25 = .ok (.iaload, 1) := by decide +kernel
theorem dX8_isReady_26 : decode cX8_isReady 26 = .ok (.iconst 0, 1) := by decide +kernel
theorem dX8_isReady_27 : decode cX8_isReady 27 = .ok (.invokevirtual 132, 3) := by decide +kernel
theorem dX8_isReady_30 : decode cX8_isReady 30 = .ok (.bipush 6, 2) := by decide +kernel
theorem dX8_isReady_32 : decode cX8_isReady 32 = .ok (.if_icmp .ne 20, 3) := by decide +kernel
theorem dX8_isReady_35 : decode cX8_isReady 35 = .ok (.aload_n 0, 1) := by decide +kernel
theorem dX8_isReady_36 : decode cX8_isReady 36 = .ok (.getfield 41, 3) := by decide +kernel
theorem dX8_isReady_39 : decode cX8_isReady 39 = .ok (.bipush 100, 2) := by decide +kernel
theorem dX8_isReady_41 : decode cX8_isReady 41 = .ok (.iload_n 1, 1) := by decide +kernel
theorem dX8_isReady_42 : decode cX8_isReady 42 = .ok (.imul, 1) := by decide +kernel
theorem dX8_isReady_43 : decode cX8_isReady 43 = .ok (.iload_n 3, 1) := by decide +kernel
theorem dX8_isReady_44 : decode cX8_isReady 44 = .ok (.iadd, 1) := by decide +kernel
theorem dX8_isReady_45 : decode cX8_isReady 45 = .ok (.iconst 1, 1) := by decide +kernel
theorem dX8_isReady_46 : decode cX8_isReady 46 = .ok (.isub, 1) := by decide +kernel
theorem dX8_isReady_47 : decode cX8_isReady 47 = .ok (.iaload, 1) := by decide +kernel
theorem dX8_isReady_48 : decode cX8_isReady 48 = .ok (.iload_n 2, 1) := by decide +kernel
theorem dX8_isReady_49 : decode cX8_isReady 49 = .ok (.if_icmp .gt 7, 3) := by decide +kernel
theorem dX8_isReady_52 : decode cX8_isReady 52 = .ok (.iconst 1, 1) := by decide +kernel
theorem dX8_isReady_53 : decode cX8_isReady 53 = .ok (.goto 4, 3) := by decide +kernel
theorem dX8_isReady_56 : decode cX8_isReady 56 = .ok (.iconst 0, 1) := by decide +kernel
theorem dX8_isReady_57 : decode cX8_isReady 57 = .ok (.istore 4, 2) := by decide +kernel
theorem dX8_isReady_59 : decode cX8_isReady 59 = .ok (.iconst 1, 1) := by decide +kernel
theorem dX8_isReady_60 : decode cX8_isReady 60 = .ok (.istore 5, 2) := by decide +kernel
theorem dX8_isReady_62 : decode cX8_isReady 62 = .ok (.iload 5, 2) := by decide +kernel
theorem dX8_isReady_64 : decode cX8_isReady 64 = .ok (.iconst 4, 1) := by decide +kernel
theorem dX8_isReady_65 : decode cX8_isReady 65 = .ok (.if_icmp .ge 56, 3) := by decide +kernel
theorem dX8_isReady_68 : decode cX8_isReady 68 = .ok (.aload_n 0, 1) := by decide +kernel
theorem dX8_isReady_69 : decode cX8_isReady 69 = .ok (.iload_n 1, 1) := by decide +kernel
theorem dX8_isReady_70 : decode cX8_isReady 70 = .ok (.aload_n 0, 1) := by decide +kernel
theorem dX8_isReady_71 : decode cX8_isReady 71 = .ok (.getfield 50, 3) := by decide +kernel
theorem dX8_isReady_74 : decode cX8_isReady 74 = .ok (.iload_n 1, 1) := by decide +kernel
theorem dX8_isReady_75 : decode cX8_isReady 75 = .ok (.iaload, 1) := by decide +kernel
theorem dX8_isReady_76 : decode cX8_isReady 76 = .ok (.iload 5, 2) := by decide +kernel
theorem dX8_isReady_78 : decode cX8_isReady 78 = .ok (.invokevirtual 132, 3) := by decide +kernel
theorem dX8_isReady_81 : decode cX8_isReady 81 = .ok (.istore 6, 2) := by decide +kernel
theorem dX8_isReady_83 : decode cX8_isReady 83 = .ok (.iload 4, 2) := by decide +kernel
theorem dX8_isReady_85 : decode cX8_isReady 85 = .ok (.ifCond .eq 27, 3) := by decide +kernel
theorem dX8_isReady_88 : decode cX8_isReady 88 = .ok (.iload 6, 2) := by decide +kernel
theorem dX8_isReady_90 : decode cX8_isReady 90 = .ok (.ifCond .lt 18, 3) := by decide +kernel
theorem dX8_isReady_93 : decode cX8_isReady 93 = .ok (.aload_n 0, 1) := by decide +kernel
theorem dX8_isReady_94 : decode cX8_isReady 94 = .ok (.getfield 32, 3) := by decide +kernel
theorem dX8_isReady_97 : decode cX8_isReady 97 = .ok (.iconst 4, 1) := by decide +kernel
theorem dX8_isReady_98 : decode cX8_isReady 98 = .ok (.iload_n 1, 1) := by decide +kernel
theorem dX8_isReady_99 : decode cX8_isReady 99 = .ok (.imul, 1) := by decide +kernel
theorem dX8_isReady_100 : decode cX8_isReady 100 = .ok (.iload 6, 2) := by decide +kernel
theorem dX8_isReady_102 : decode cX8_isReady 102 = .ok (.iadd, 1) := by decide +kernel
theorem dX8_isReady_103 : decode cX8_isReady 103 = .ok (.iaload, 1) := by decide +kernel
theorem dX8_isReady_104 : decode cX8_isReady 104 = .ok (.iload_n 2, 1) := by decide +kernel
theorem dX8_isReady_105 : decode cX8_isReady 105 = .ok (.if_icmp .gt 7, 3) := by decide +kernel
theorem dX8_isReady_108 : decode cX8_isReady 108 = .ok (.iconst 1, 1) := by decide +kernel
theorem dX8_isReady_109 : decode cX8_isReady 109 = .ok (.goto 4, 3) := by decide +kernel
theorem dX8_isReady_112 : decode cX8_isReady 112 = .ok (.iconst 0, 1) := by decide +kernel
theorem dX8_isReady_113 : decode cX8_isReady 113 = .ok (.istore 4, 2) := by decide +kernel
theorem dX8_isReady_115 : decode cX8_isReady 115 = .ok (.iinc 5 1, 3) := by decide +kernel
theorem dX8_isReady_118 : decode cX8_isReady 118 = .ok (.goto (-56), 3) := by decide +kernel
theorem dX8_isReady_121 : decode cX8_isReady 121 = .ok (.iload 4, 2) := by decide +kernel
theorem dX8_isReady_123 : decode cX8_isReady 123 = .ok (.ireturn, 1) := by decide +kernel
theorem dX8_whyNot_0 : decode cX8_whyNot 0 = .ok (.aload_n 0, 1) := by decide +kernel
theorem dX8_whyNot_1 : decode cX8_whyNot 1 = .ok (.iload_n 1, 1) := by decide +kernel
theorem dX8_whyNot_2 : decode cX8_whyNot 2 = .ok (.aload_n 0, 1) := by decide +kernel
theorem dX8_whyNot_3 : decode cX8_whyNot 3 = .ok (.getfield 50, 3) := by decide +kernel
theorem dX8_whyNot_6 : decode cX8_whyNot 6 = .ok (.iload_n 1, 1) := by decide +kernel
theorem dX8_whyNot_7 : decode cX8_whyNot 7 = .ok (.iaload, 1) := by decide +kernel
theorem dX8_whyNot_8 : decode cX8_whyNot 8 = .ok (.iconst 0, 1) := by decide +kernel
theorem dX8_whyNot_9 : decode cX8_whyNot 9 = .ok (.invokevirtual 132, 3) := by decide +kernel
theorem dX8_whyNot_12 : decode cX8_whyNot 12 = .ok (.invokestatic 136, 3) := by decide +kernel
theorem dX8_whyNot_15 : decode cX8_whyNot 15 = .ok (.istore 4, 2) := by decide +kernel
theorem dX8_whyNot_17 : decode cX8_whyNot 17 = .ok (.aload_n 0, 1) := by decide +kernel
theorem dX8_whyNot_18 : decode cX8_whyNot 18 = .ok (.iload_n 1, 1) := by decide +kernel
theorem dX8_whyNot_19 : decode cX8_whyNot 19 = .ok (.iload_n 2, 1) := by decide +kernel
theorem dX8_whyNot_20 : decode cX8_whyNot 20 = .ok (.invokevirtual 139, 3) := by decide +kernel
theorem dX8_whyNot_23 : decode cX8_whyNot 23 = .ok (.ifCond .ne 5, 3) := by decide +kernel
theorem dX8_whyNot_26 : decode cX8_whyNot 26 = .ok (.iconst 1, 1) := by decide +kernel
theorem dX8_whyNot_27 : decode cX8_whyNot 27 = .ok (.ireturn, 1) := by decide +kernel
theorem dX8_whyNot_28 : decode cX8_whyNot 28 = .ok (.iload 4, 2) := by decide +kernel
theorem dX8_whyNot_30 : decode cX8_whyNot 30 = .ok (.ifCond .lt 37, 3) := by decide +kernel
theorem dX8_whyNot_33 : decode cX8_whyNot 33 = .ok (.iload 4, 2) := by decide +kernel
theorem dX8_whyNot_35 : decode cX8_whyNot 35 = .ok (.iload_n 3, 1) := by decide +kernel
theorem dX8_whyNot_36 : decode cX8_whyNot 36 = .ok (.if_icmp .eq 31, 3) := by decide +kernel
theorem dX8_whyNot_39 : decode cX8_whyNot 39 = .ok (.aload_n 0, 1) := by decide +kernel
theorem dX8_whyNot_40 : decode cX8_whyNot 40 = .ok (.getfield 59, 3) := by decide +kernel
theorem dX8_whyNot_43 : decode cX8_whyNot 43 = .ok (.iload 4, 2) := by decide +kernel
theorem dX8_whyNot_45 : decode cX8_whyNot 45 = .ok (.iaload, 1) := by decide +kernel
theorem dX8_whyNot_46 : decode cX8_whyNot 46 = .ok (.iload_n 2, 1) := by decide +kernel
theorem dX8_whyNot_47 : decode cX8_whyNot 47 = .ok (.if_icmp .le 20, 3) := by decide +kernel
theorem dX8_whyNot_50 : decode cX8_whyNot 50 = .ok (.aload_n 0, 1) := by decide +kernel
theorem dX8_whyNot_51 : decode cX8_whyNot 51 = .ok (.getfield 62, 3) := by decide +kernel
theorem dX8_whyNot_54 : decode cX8_whyNot 54 = .ok (.iload 4, 2) := by decide +kernel
theorem dX8_whyNot_56 : decode cX8_whyNot 56 = .ok (.iaload, 1) := by decide +kernel
theorem dX8_whyNot_57 : decode cX8_whyNot 57 = .ok (.iload_n 1, 1) := by decide +kernel
theorem dX8_whyNot_58 : decode cX8_whyNot 58 = .ok (.if_icmp .ne 7, 3) := by decide +kernel
theorem dX8_whyNot_61 : decode cX8_whyNot 61 = .ok (.iconst 2, 1) := by decide +kernel
theorem dX8_whyNot_62 : decode cX8_whyNot 62 = .ok (.goto 4, 3) := by decide +kernel
theorem dX8_whyNot_65 : decode cX8_whyNot 65 = .ok (.iconst 3, 1) := by decide +kernel
theorem dX8_whyNot_66 : decode cX8_whyNot 66 = .ok (.ireturn, 1) := by decide +kernel
theorem dX8_whyNot_67 : decode cX8_whyNot 67 = .ok (.iconst 0, 1) := by decide +kernel
theorem dX8_whyNot_68 : decode cX8_whyNot 68 = .ok (.ireturn, 1) := by decide +kernel
theorem dX8_latest_0 : decode cX8_latest 0 = .ok (.aload_n 0, 1) := by decide +kernel
theorem dX8_latest_1 : decode cX8_latest 1 = .ok (.getfield 47, 3) := by decide +kernel
theorem dX8_latest_4 : decode cX8_latest 4 = .ok (.iload_n 1, 1) := by decide +kernel
theorem dX8_latest_5 : decode cX8_latest 5 = .ok (.iaload, 1) := by decide +kernel
theorem dX8_latest_6 : decode cX8_latest 6 = .ok (.ifCond .ne 7, 3) := by decide +kernel
theorem dX8_latest_9 : decode cX8_latest 9 = .ok (.iconst (-1), 1) := by decide +kernel
theorem dX8_latest_10 : decode cX8_latest 10 = .ok (.goto 21, 3) := by decide +kernel
theorem dX8_latest_13 : decode cX8_latest 13 = .ok (.aload_n 0, 1) := by decide +kernel
theorem dX8_latest_14 : decode cX8_latest 14 = .ok (.getfield 35, 3) := by decide +kernel
theorem dX8_latest_17 : decode cX8_latest 17 = .ok (.bipush 100, 2) := by decide +kernel
theorem dX8_latest_19 : decode cX8_latest 19 = .ok (.iload_n 1, 1) := by decide +kernel
theorem dX8_latest_20 : decode cX8_latest 20 = .ok (.imul, 1) := by decide +kernel
theorem dX8_latest_21 : decode cX8_latest 21 = .ok (.aload_n 0, 1) := by decide +kernel
theorem dX8_latest_22 : decode cX8_latest 22 = .ok (.getfield 47, 3) := by decide +kernel
theorem dX8_latest_25 : decode cX8_latest 25 = .ok (.iload_n 1, 1) := by decide +kernel
theorem dX8_latest_26 : decode cX8_latest 26 = .ok (.iaload, 1) := by decide +kernel
theorem dX8_latest_27 : decode cX8_latest 27 = .ok (.iadd, 1) := by decide +kernel
theorem dX8_latest_28 : decode cX8_latest 28 = .ok (.iconst 1, 1) := by decide +kernel
theorem dX8_latest_29 : decode cX8_latest 29 = .ok (.isub, 1) := by decide +kernel
theorem dX8_latest_30 : decode cX8_latest 30 = .ok (.iaload, 1) := by decide +kernel
theorem dX8_latest_31 : decode cX8_latest 31 = .ok (.ireturn, 1) := by decide +kernel
theorem dX8_starter_0 : decode cX8_starter 0 = .ok (.iload_n 1, 1) := by decide +kernel
theorem dX8_starter_1 : decode cX8_starter 1 = .ok (.iconst 2, 1) := by decide +kernel
theorem dX8_starter_2 : decode cX8_starter 2 = .ok (.irem, 1) := by decide +kernel
theorem dX8_starter_3 : decode cX8_starter 3 = .ok (.istore 4, 2) := by decide +kernel
theorem dX8_starter_5 : decode cX8_starter 5 = .ok (.iconst 1, 1) := by decide +kernel
theorem dX8_starter_6 : decode cX8_starter 6 = .ok (.iload 4, 2) := by decide +kernel
theorem dX8_starter_8 : decode cX8_starter 8 = .ok (.isub, 1) := by decide +kernel
theorem dX8_starter_9 : decode cX8_starter 9 = .ok (.istore 5, 2) := by decide +kernel
theorem dX8_starter_11 : decode cX8_starter 11 = .ok (.aload_n 0, 1) := by decide +kernel
theorem dX8_starter_12 : decode cX8_starter 12 = .ok (.iload 4, 2) := by decide +kernel
theorem dX8_starter_14 : decode cX8_starter 14 = .ok (.invokevirtual 143, 3) := by decide +kernel
theorem dX8_starter_17 : decode cX8_starter 17 = .ok (.ifCond .eq 18, 3) := by decide +kernel
theorem dX8_starter_20 : decode cX8_starter 20 = .ok (.aload_n 0, 1) := by decide +kernel
theorem dX8_starter_21 : decode cX8_starter 21 = .ok (.iload 4, 2) := by decide +kernel
theorem dX8_starter_23 : decode cX8_starter 23 = .ok (.iload_n 1, 1) := by decide +kernel
theorem dX8_starter_24 : decode cX8_starter 24 = .ok (.iload_n 3, 1) := by decide +kernel
theorem dX8_starter_25 : decode cX8_starter 25 = .ok (.invokevirtual 146, 3) := by decide +kernel
theorem dX8_starter_28 : decode cX8_starter 28 = .ok (.ifCond .ne 7, 3) := by decide +kernel
theorem dX8_starter_31 : decode cX8_starter 31 = .ok (.iconst 1, 1) := by decide +kernel
theorem dX8_starter_32 : decode cX8_starter 32 = .ok (.goto 4, 3) := by decide +kernel
theorem dX8_starter_35 : decode cX8_starter 35 = .ok (.iconst 0, 1) := by decide +kernel
theorem dX8_starter_36 : decode cX8_starter 36 = .ok (.istore 6, 2) := by decide +kernel
theorem dX8_starter_38 : decode cX8_starter 38 = .ok (.aload_n 0, 1) := by decide +kernel
theorem dX8_starter_39 : decode cX8_starter 39 = .ok (.iload 5, 2) := by decide +kernel
theorem dX8_starter_41 : decode cX8_starter 41 = .ok (.invokevirtual 143, 3) := by decide +kernel
theorem dX8_starter_44 : decode cX8_starter 44 = .ok (.ifCond .eq 18, 3) := by decide +kernel
theorem dX8_starter_47 : decode cX8_starter 47 = .ok (.aload_n 0, 1) := by decide +kernel
theorem dX8_starter_48 : decode cX8_starter 48 = .ok (.iload 5, 2) := by decide +kernel
theorem dX8_starter_50 : decode cX8_starter 50 = .ok (.iload_n 1, 1) := by decide +kernel
theorem dX8_starter_51 : decode cX8_starter 51 = .ok (.iload_n 3, 1) := by decide +kernel
theorem dX8_starter_52 : decode cX8_starter 52 = .ok (.invokevirtual 146, 3) := by decide +kernel
theorem dX8_starter_55 : decode cX8_starter 55 = .ok (.ifCond .ne 7, 3) := by decide +kernel
theorem dX8_starter_58 : decode cX8_starter 58 = .ok (.iconst 1, 1) := by decide +kernel
theorem dX8_starter_59 : decode cX8_starter 59 = .ok (.goto 4, 3) := by decide +kernel
theorem dX8_starter_62 : decode cX8_starter 62 = .ok (.iconst 0, 1) := by decide +kernel
theorem dX8_starter_63 : decode cX8_starter 63 = .ok (.istore 7, 2) := by decide +kernel
theorem dX8_starter_65 : decode cX8_starter 65 = .ok (.iload_n 2, 1) := by decide +kernel
theorem dX8_starter_66 : decode cX8_starter 66 = .ok (.iconst 2, 1) := by decide +kernel
theorem dX8_starter_67 : decode cX8_starter 67 = .ok (.if_icmp .ne 36, 3) := by decide +kernel
theorem dX8_starter_70 : decode cX8_starter 70 = .ok (.iload 6, 2) := by decide +kernel
theorem dX8_starter_72 : decode cX8_starter 72 = .ok (.ifCond .eq 31, 3) := by decide +kernel
theorem dX8_starter_75 : decode cX8_starter 75 = .ok (.iload 7, 2) := by decide +kernel
theorem dX8_starter_77 : decode cX8_starter 77 = .ok (.ifCond .eq 26, 3) := by decide +kernel
theorem dX8_starter_80 : decode cX8_starter 80 = .ok (.aload_n 0, 1) := by decide +kernel
theorem dX8_starter_81 : decode cX8_starter 81 = .ok (.iload 5, 2) := by decide +kernel
theorem dX8_starter_83 : decode cX8_starter 83 = .ok (.invokevirtual 149, 3) := by decide +kernel
theorem dX8_starter_86 : decode cX8_starter 86 = .ok (.aload_n 0, 1) := by decide +kernel
theorem dX8_starter_87 : decode cX8_starter 87 = .ok (.iload 4, 2) := by decide +kernel
theorem dX8_starter_89 : decode cX8_starter 89 = .ok (.invokevirtual 149, 3) := by decide +kernel
theorem dX8_starter_92 : decode cX8_starter 92 = .ok (.if_icmp .ge 8, 3) := by decide +kernel
theorem dX8_starter_95 : decode cX8_starter 95 = .ok (.iload 5, 2) := by decide +kernel
theorem dX8_starter_97 : decode cX8_starter 97 = .ok (.goto 5, 3) := by decide +kernel
theorem dX8_starter_100 : decode cX8_starter 100 = .ok (.iload 4, 2) := by decide +kernel
theorem dX8_starter_102 : decode cX8_starter 102 = .ok (.ireturn, 1) := by decide +kernel
theorem dX8_starter_103 : decode cX8_starter 103 = .ok (.iload 6, 2) := by decide +kernel
theorem dX8_starter_105 : decode cX8_starter 105 = .ok (.ifCond .eq 8, 3) := by decide +kernel
theorem dX8_starter_108 : decode cX8_starter 108 = .ok (.iload 4, 2) := by decide +kernel
theorem dX8_starter_110 : decode cX8_starter 110 = .ok (.goto 19, 3) := by decide +kernel
theorem dX8_starter_113 : decode cX8_starter 113 = .ok (.iload_n 2, 1) := by decide +kernel
theorem dX8_starter_114 : decode cX8_starter 114 = .ok (.ifCond .le 13, 3) := by decide +kernel
theorem dX8_starter_117 : decode cX8_starter 117 = .ok (.iload 7, 2) := by decide +kernel
theorem dX8_starter_119 : decode cX8_starter 119 = .ok (.ifCond .eq 8, 3) := by decide +kernel
theorem dX8_starter_122 : decode cX8_starter 122 = .ok (.iload 5, 2) := by decide +kernel
theorem dX8_starter_124 : decode cX8_starter 124 = .ok (.goto 5, 3) := by decide +kernel
theorem dX8_starter_127 : decode cX8_starter 127 = .ok (.bipush (-6), 2) := by decide +kernel
theorem dX8_starter_129 : decode cX8_starter 129 = .ok (.ireturn, 1) := by decide +kernel
theorem dX8_value_0 : decode cX8_value 0 = .ok (.aload_n 0, 1) := by decide +kernel
theorem dX8_value_1 : decode cX8_value 1 = .ok (.getfield 29, 3) := by decide +kernel
theorem dX8_value_4 : decode cX8_value 4 = .ok (.bipush 12, 2) := by decide +kernel
theorem dX8_value_6 : decode cX8_value 6 = .ok (.iload_n 1, 1) := by decide +kernel
theorem dX8_value_7 : decode cX8_value 7 = .ok (.imul, 1) := by decide +kernel
theorem dX8_value_8 : decode cX8_value 8 = .ok (.iload_n 2, 1) := by decide +kernel
theorem dX8_value_9 : decode cX8_value 9 = .ok (.iadd, 1) := by decide +kernel
theorem dX8_value_10 : decode cX8_value 10 = .ok (.iaload, 1) := by decide +kernel
theorem dX8_value_11 : decode cX8_value 11 = .ok (.ireturn, 1) := by decide +kernel
theorem dX8_does_0 : decode cX8_does 0 = .ok (.aload_n 0, 1) := by decide +kernel
theorem dX8_does_1 : decode cX8_does 1 = .ok (.iload_n 1, 1) := by decide +kernel
theorem dX8_does_2 : decode cX8_does 2 = .ok (.iload_n 2, 1) := by decide +kernel
theorem dX8_does_3 : decode cX8_does 3 = .ok (.iconst 0, 1) := by decide +kernel
theorem dX8_does_4 : decode cX8_does 4 = .ok (.invokevirtual 132, 3) := by decide +kernel
theorem dX8_does_7 : decode cX8_does 7 = .ok (.istore_n 3, 1) := by decide +kernel
theorem dX8_does_8 : decode cX8_does 8 = .ok (.aload_n 0, 1) := by decide +kernel
theorem dX8_does_9 : decode cX8_does 9 = .ok (.iload_n 1, 1) := by decide +kernel
theorem dX8_does_10 : decode cX8_does 10 = .ok (.iload_n 2, 1) := by decide +kernel
theorem dX8_does_11 : decode cX8_does 11 = .ok (.iconst 1, 1) := by decide +kernel
theorem dX8_does_12 : decode cX8_does 12 = .ok (.invokevirtual 132, 3) := by decide +kernel
theorem dX8_does_15 : decode cX8_does 15 = .ok (.istore 4, 2) := by decide +kernel
theorem dX8_does_17 : decode cX8_does 17 = .ok (.aload_n 0, 1) := by decide +kernel
theorem dX8_does_18 : decode cX8_does 18 = .ok (.iload_n 1, 1) := by decide +kernel
theorem dX8_does_19 : decode cX8_does 19 = .ok (.iload_n 2, 1) := by decide +kernel
theorem dX8_does_20 : decode cX8_does 20 = .ok (.iconst 2, 1) := by decide +kernel
theorem dX8_does_21 : decode cX8_does 21 = .ok (.invokevirtual 132, 3) := by decide +kernel
theorem dX8_does_24 : decode cX8_does 24 = .ok (.istore 5, 2) := by decide +kernel
theorem dX8_does_26 : decode cX8_does 26 = .ok (.aload_n 0, 1) := by decide +kernel
theorem dX8_does_27 : decode cX8_does 27 = .ok (.iload_n 1, 1) := by decide +kernel
theorem dX8_does_28 : decode cX8_does 28 = .ok (.iload_n 2, 1) := by decide +kernel
theorem dX8_does_29 : decode cX8_does 29 = .ok (.iconst 3, 1) := by decide +kernel
theorem dX8_does_30 : decode cX8_does 30 = .ok (.invokevirtual 132, 3) := by decide +kernel
theorem dX8_does_33 : decode cX8_does 33 = .ok (.istore 6, 2) := by decide +kernel
theorem dX8_does_35 : decode cX8_does 35 = .ok (.bipush 12, 2) := by decide +kernel
theorem dX8_does_37 : decode cX8_does 37 = .ok (.iload_n 1, 1) := by decide +kernel
theorem dX8_does_38 : decode cX8_does 38 = .ok (.imul, 1) := by decide +kernel
theorem dX8_does_39 : decode cX8_does 39 = .ok (.iload 4, 2) := by decide +kernel
theorem dX8_does_41 : decode cX8_does 41 = .ok (.iadd, 1) := by decide +kernel
theorem dX8_does_42 : decode cX8_does 42 = .ok (.istore 7, 2) := by decide +kernel
theorem dX8_does_44 : decode cX8_does 44 = .ok (.iload_n 3, 1) := by decide +kernel
theorem dX8_does_45 : decode cX8_does 45 = .ok (.tableswitch 206 0 5 #[39, 56, 85, 118, 147, 174], 39) := by decide +kernel
theorem dX8_does_84 : decode cX8_does 84 = .ok (.aload_n 0, 1) := by decide +kernel
theorem dX8_does_85 : decode cX8_does 85 = .ok (.getfield 29, 3) := by decide +kernel
theorem dX8_does_88 : decode cX8_does 88 = .ok (.iload 7, 2) := by decide +kernel
theorem dX8_does_90 : decode cX8_does 90 = .ok (.aload_n 0, 1) := by decide +kernel
theorem dX8_does_91 : decode cX8_does 91 = .ok (.iload_n 1, 1) := by decide +kernel
theorem dX8_does_92 : decode cX8_does 92 = .ok (.iload_n 2, 1) := by decide +kernel
theorem dX8_does_93 : decode cX8_does 93 = .ok (.iconst 4, 1) := by decide +kernel
theorem dX8_does_94 : decode cX8_does 94 = .ok (.invokevirtual 132, 3) := by decide +kernel
theorem dX8_does_97 : decode cX8_does 97 = .ok (.iastore, 1) := by decide +kernel
theorem dX8_does_98 : decode cX8_does 98 = .ok (.goto 177, 3) := by decide +kernel
theorem dX8_does_101 : decode cX8_does 101 = .ok (.aload_n 0, 1) := by decide +kernel
theorem dX8_does_102 : decode cX8_does 102 = .ok (.getfield 29, 3) := by decide +kernel
theorem dX8_does_105 : decode cX8_does 105 = .ok (.iload 7, 2) := by decide +kernel
theorem dX8_does_107 : decode cX8_does 107 = .ok (.aload_n 0, 1) := by decide +kernel
theorem dX8_does_108 : decode cX8_does 108 = .ok (.iload_n 1, 1) := by decide +kernel
theorem dX8_does_109 : decode cX8_does 109 = .ok (.iload 5, 2) := by decide +kernel
theorem dX8_does_111 : decode cX8_does 111 = .ok (.invokevirtual 152, 3) := by decide +kernel
theorem dX8_does_114 : decode cX8_does 114 = .ok (.aload_n 0, 1) := by decide +kernel
theorem dX8_does_115 : decode cX8_does 115 = .ok (.iload_n 1, 1) := by decide +kernel
theorem dX8_does_116 : decode cX8_does 116 = .ok (.iload 6, 2) := by decide +kernel
theorem dX8_does_118 : decode cX8_does 118 = .ok (.invokevirtual 152, 3) := by decide +kernel
theorem dX8_does_121 : decode cX8_does 121 = .ok (.iadd, 1) := by decide +kernel
theorem dX8_does_122 : decode cX8_does 122 = .ok (.sipush 1000, 3) := by decide +kernel
theorem dX8_does_125 : decode cX8_does 125 = .ok (.irem, 1) := by decide +kernel
theorem dX8_does_126 : decode cX8_does 126 = .ok (.iastore, 1) := by decide +kernel
theorem dX8_does_127 : decode cX8_does 127 = .ok (.goto 148, 3) := by decide +kernel
theorem dX8_does_130 : decode cX8_does 130 = .ok (.aload_n 0, 1) := by decide +kernel
theorem dX8_does_131 : decode cX8_does 131 = .ok (.getfield 29, 3) := by decide +kernel
theorem dX8_does_134 : decode cX8_does 134 = .ok (.iload 7, 2) := by decide +kernel
theorem dX8_does_136 : decode cX8_does 136 = .ok (.aload_n 0, 1) := by decide +kernel
theorem dX8_does_137 : decode cX8_does 137 = .ok (.iload_n 1, 1) := by decide +kernel
theorem dX8_does_138 : decode cX8_does 138 = .ok (.iload 5, 2) := by decide +kernel
theorem dX8_does_140 : decode cX8_does 140 = .ok (.invokevirtual 152, 3) := by decide +kernel
theorem dX8_does_143 : decode cX8_does 143 = .ok (.aload_n 0, 1) := by decide +kernel
theorem dX8_does_144 : decode cX8_does 144 = .ok (.iload_n 1, 1) := by decide +kernel
theorem dX8_does_145 : decode cX8_does 145 = .ok (.iload 6, 2) := by decide +kernel
theorem dX8_does_147 : decode cX8_does 147 = .ok (.invokevirtual 152, 3) := by decide +kernel
theorem dX8_does_150 : decode cX8_does 150 = .ok (.isub, 1) := by decide +kernel
theorem dX8_does_151 : decode cX8_does 151 = .ok (.sipush 1000, 3) := by decide +kernel
theorem dX8_does_154 : decode cX8_does 154 = .ok (.iadd, 1) := by decide +kernel
theorem dX8_does_155 : decode cX8_does 155 = .ok (.sipush 1000, 3) := by decide +kernel
theorem dX8_does_158 : decode cX8_does 158 = .ok (.irem, 1) := by decide +kernel
theorem dX8_does_159 : decode cX8_does 159 = .ok (.iastore, 1) := by decide +kernel
theorem dX8_does_160 : decode cX8_does 160 = .ok (.goto 115, 3) := by decide +kernel
theorem dX8_does_163 : decode cX8_does 163 = .ok (.aload_n 0, 1) := by decide +kernel
theorem dX8_does_164 : decode cX8_does 164 = .ok (.getfield 29, 3) := by decide +kernel
theorem dX8_does_167 : decode cX8_does 167 = .ok (.iload 7, 2) := by decide +kernel
theorem dX8_does_169 : decode cX8_does 169 = .ok (.aload_n 0, 1) := by decide +kernel
theorem dX8_does_170 : decode cX8_does 170 = .ok (.iload_n 1, 1) := by decide +kernel
theorem dX8_does_171 : decode cX8_does 171 = .ok (.iload 5, 2) := by decide +kernel
theorem dX8_does_173 : decode cX8_does 173 = .ok (.invokevirtual 152, 3) := by decide +kernel
theorem dX8_does_176 : decode cX8_does 176 = .ok (.aload_n 0, 1) := by decide +kernel
theorem dX8_does_177 : decode cX8_does 177 = .ok (.iload_n 1, 1) := by decide +kernel
theorem dX8_does_178 : decode cX8_does 178 = .ok (.iload 6, 2) := by decide +kernel
theorem dX8_does_180 : decode cX8_does 180 = .ok (.invokevirtual 152, 3) := by decide +kernel
theorem dX8_does_183 : decode cX8_does 183 = .ok (.imul, 1) := by decide +kernel
theorem dX8_does_184 : decode cX8_does 184 = .ok (.sipush 1000, 3) := by decide +kernel
theorem dX8_does_187 : decode cX8_does 187 = .ok (.irem, 1) := by decide +kernel
theorem dX8_does_188 : decode cX8_does 188 = .ok (.iastore, 1) := by decide +kernel
theorem dX8_does_189 : decode cX8_does 189 = .ok (.goto 86, 3) := by decide +kernel
theorem dX8_does_192 : decode cX8_does 192 = .ok (.aload_n 0, 1) := by decide +kernel
theorem dX8_does_193 : decode cX8_does 193 = .ok (.getfield 29, 3) := by decide +kernel
theorem dX8_does_196 : decode cX8_does 196 = .ok (.iload 7, 2) := by decide +kernel
theorem dX8_does_198 : decode cX8_does 198 = .ok (.aload_n 0, 1) := by decide +kernel
theorem dX8_does_199 : decode cX8_does 199 = .ok (.iload_n 1, 1) := by decide +kernel
theorem dX8_does_200 : decode cX8_does 200 = .ok (.iconst 4, 1) := by decide +kernel
theorem dX8_does_201 : decode cX8_does 201 = .ok (.aload_n 0, 1) := by decide +kernel
theorem dX8_does_202 : decode cX8_does 202 = .ok (.iload_n 1, 1) := by decide +kernel
theorem dX8_does_203 : decode cX8_does 203 = .ok (.iload 5, 2) := by decide +kernel
theorem dX8_does_205 : decode cX8_does 205 = .ok (.invokevirtual 152, 3) := by decide +kernel
theorem dX8_does_208 : decode cX8_does 208 = .ok (.bipush 8, 2) := by decide +kernel
theorem dX8_does_210 : decode cX8_does 210 = .ok (.irem, 1) := by decide +kernel
theorem dX8_does_211 : decode cX8_does 211 = .ok (.iadd, 1) := by decide +kernel
theorem dX8_does_212 : decode cX8_does 212 = .ok (.invokevirtual 152, 3) := by decide +kernel
theorem dX8_does_215 : decode cX8_does 215 = .ok (.iastore, 1) := by decide +kernel
theorem dX8_does_216 : decode cX8_does 216 = .ok (.goto 59, 3) := by decide +kernel
theorem dX8_does_219 : decode cX8_does 219 = .ok (.aload_n 0, 1) := by decide +kernel
theorem dX8_does_220 : decode cX8_does 220 = .ok (.getfield 29, 3) := by decide +kernel
theorem dX8_does_223 : decode cX8_does 223 = .ok (.bipush 12, 2) := by decide +kernel
theorem dX8_does_225 : decode cX8_does 225 = .ok (.iload_n 1, 1) := by decide +kernel
theorem dX8_does_226 : decode cX8_does 226 = .ok (.imul, 1) := by decide +kernel
theorem dX8_does_227 : decode cX8_does 227 = .ok (.iconst 4, 1) := by decide +kernel
theorem dX8_does_228 : decode cX8_does 228 = .ok (.iadd, 1) := by decide +kernel
theorem dX8_does_229 : decode cX8_does 229 = .ok (.aload_n 0, 1) := by decide +kernel
theorem dX8_does_230 : decode cX8_does 230 = .ok (.iload_n 1, 1) := by decide +kernel
theorem dX8_does_231 : decode cX8_does 231 = .ok (.iload 4, 2) := by decide +kernel
theorem dX8_does_233 : decode cX8_does 233 = .ok (.invokevirtual 152, 3) := by decide +kernel
theorem dX8_does_236 : decode cX8_does 236 = .ok (.bipush 8, 2) := by decide +kernel
theorem dX8_does_238 : decode cX8_does 238 = .ok (.irem, 1) := by decide +kernel
theorem dX8_does_239 : decode cX8_does 239 = .ok (.iadd, 1) := by decide +kernel
theorem dX8_does_240 : decode cX8_does 240 = .ok (.aload_n 0, 1) := by decide +kernel
theorem dX8_does_241 : decode cX8_does 241 = .ok (.iload_n 1, 1) := by decide +kernel
theorem dX8_does_242 : decode cX8_does 242 = .ok (.iload 5, 2) := by decide +kernel
theorem dX8_does_244 : decode cX8_does 244 = .ok (.invokevirtual 152, 3) := by decide +kernel
theorem dX8_does_247 : decode cX8_does 247 = .ok (.iastore, 1) := by decide +kernel
theorem dX8_does_248 : decode cX8_does 248 = .ok (.goto 27, 3) := by decide +kernel
theorem dX8_does_251 : decode cX8_does 251 = .ok (.aload_n 0, 1) := by decide +kernel
theorem dX8_does_252 : decode cX8_does 252 = .ok (.iload_n 1, 1) := by decide +kernel
theorem dX8_does_253 : decode cX8_does 253 = .ok (.iload 4, 2) := by decide +kernel
theorem dX8_does_255 : decode cX8_does 255 = .ok (.invokevirtual 152, 3) := by decide +kernel
theorem dX8_does_258 : decode cX8_does 258 = .ok (.ifCond .eq 13, 3) := by decide +kernel
theorem dX8_does_261 : decode cX8_does 261 = .ok (.aload_n 0, 1) := by decide +kernel
theorem dX8_does_262 : decode cX8_does 262 = .ok (.iload_n 1, 1) := by decide +kernel
theorem dX8_does_263 : decode cX8_does 263 = .ok (.iload_n 2, 1) := by decide +kernel
theorem dX8_does_264 : decode cX8_does 264 = .ok (.iconst 4, 1) := by decide +kernel
theorem dX8_does_265 : decode cX8_does 265 = .ok (.invokevirtual 132, 3) := by decide +kernel
theorem dX8_does_268 : decode cX8_does 268 = .ok (.goto 6, 3) := by decide +kernel
theorem dX8_does_271 : decode cX8_does 271 = .ok (.iload_n 2, 1) := by decide +kernel
theorem dX8_does_272 : decode cX8_does 272 = .ok (.iconst 1, 1) := by decide +kernel
theorem dX8_does_273 : decode cX8_does 273 = .ok (.iadd, 1) := by decide +kernel
theorem dX8_does_274 : decode cX8_does 274 = .ok (.ireturn, 1) := by decide +kernel
theorem dX8_does_275 : decode cX8_does 275 = .ok (.iload_n 2, 1) := by decide +kernel
theorem dX8_does_276 : decode cX8_does 276 = .ok (.iconst 1, 1) := by decide +kernel
theorem dX8_does_277 : decode cX8_does 277 = .ok (.iadd, 1) := by decide +kernel
theorem dX8_does_278 : decode cX8_does 278 = .ok (.ireturn, 1) := by decide +kernel
theorem dX8_begin_0 : decode cX8_begin 0 = .ok (.bipush 100, 2) := by decide +kernel
theorem dX8_begin_2 : decode cX8_begin 2 = .ok (.iload_n 1, 1) := by decide +kernel
theorem dX8_begin_3 : decode cX8_begin 3 = .ok (.imul, 1) := by decide +kernel
theorem dX8_begin_4 : decode cX8_begin 4 = .ok (.aload_n 0, 1) := by decide +kernel
theorem dX8_begin_5 : decode cX8_begin 5 = .ok (.getfield 47, 3) := by decide +kernel
theorem dX8_begin_8 : decode cX8_begin 8 = .ok (.iload_n 1, 1) := by decide +kernel
theorem dX8_begin_9 : decode cX8_begin 9 = .ok (.iaload, 1) := by decide +kernel
theorem dX8_begin_10 : decode cX8_begin 10 = .ok (.iadd, 1) := by decide +kernel
theorem dX8_begin_11 : decode cX8_begin 11 = .ok (.istore_n 3, 1) := by decide +kernel
theorem dX8_begin_12 : decode cX8_begin 12 = .ok (.aload_n 0, 1) := by decide +kernel
theorem dX8_begin_13 : decode cX8_begin 13 = .ok (.getfield 50, 3) := by decide +kernel
theorem dX8_begin_16 : decode cX8_begin 16 = .ok (.iload_n 1, 1) := by decide +kernel
theorem dX8_begin_17 : decode cX8_begin 17 = .ok (.iaload, 1) := by decide +kernel
theorem dX8_begin_18 : decode cX8_begin 18 = .ok (.istore 4, 2) := by decide +kernel
theorem dX8_begin_20 : decode cX8_begin 20 = .ok (.aload_n 0, 1) := by decide +kernel
theorem dX8_begin_21 : decode cX8_begin 21 = .ok (.iload_n 1, 1) := by decide +kernel
theorem dX8_begin_22 : decode cX8_begin 22 = .ok (.iload 4, 2) := by decide +kernel
theorem dX8_begin_24 : decode cX8_begin 24 = .ok (.iconst 0, 1) := by decide +kernel
theorem dX8_begin_25 : decode cX8_begin 25 = .ok (.invokevirtual 132, 3) := by decide +kernel
theorem dX8_begin_28 : decode cX8_begin 28 = .ok (.istore 5, 2) := by decide +kernel
theorem dX8_begin_30 : decode cX8_begin 30 = .ok (.iload 5, 2) := by decide +kernel
theorem dX8_begin_32 : decode cX8_begin 32 = .ok (.invokestatic 136, 3) := by decide +kernel
theorem dX8_begin_35 : decode cX8_begin 35 = .ok (.istore 6, 2) := by decide +kernel
theorem dX8_begin_37 : decode cX8_begin 37 = .ok (.iload 6, 2) := by decide +kernel
theorem dX8_begin_39 : decode cX8_begin 39 = .ok (.ifCond .ne 12, 3) := by decide +kernel
theorem dX8_begin_42 : decode cX8_begin 42 = .ok (.aload_n 0, 1) := by decide +kernel
theorem dX8_begin_43 : decode cX8_begin 43 = .ok (.getfield 7, 3) := by decide +kernel
theorem dX8_begin_46 : decode cX8_begin 46 = .ok (.iconst 1, 1) := by decide +kernel
theorem dX8_begin_47 : decode cX8_begin 47 = .ok (.iaload, 1) := by decide +kernel
theorem dX8_begin_48 : decode cX8_begin 48 = .ok (.goto 19, 3) := by decide +kernel
theorem dX8_begin_51 : decode cX8_begin 51 = .ok (.iload 6, 2) := by decide +kernel
theorem dX8_begin_53 : decode cX8_begin 53 = .ok (.iconst 1, 1) := by decide +kernel
theorem dX8_begin_54 : decode cX8_begin 54 = .ok (.if_icmp .ne 12, 3) := by decide +kernel
theorem dX8_begin_57 : decode cX8_begin 57 = .ok (.aload_n 0, 1) := by decide +kernel
theorem dX8_begin_58 : decode cX8_begin 58 = .ok (.getfield 7, 3) := by decide +kernel
theorem dX8_begin_61 : decode cX8_begin 61 = .ok (.iconst 2, 1) := by decide +kernel
theorem dX8_begin_62 : decode cX8_begin 62 = .ok (.iaload, 1) := by decide +kernel
theorem dX8_begin_63 : decode cX8_begin 63 = .ok (.goto 4, 3) := by decide +kernel
theorem dX8_begin_66 : decode cX8_begin 66 = .ok (.iconst 1, 1) := by decide +kernel
theorem dX8_begin_67 : decode cX8_begin 67 = .ok (.istore 7, 2) := by decide +kernel
theorem dX8_begin_69 : decode cX8_begin 69 = .ok (.aload_n 0, 1) := by decide +kernel
theorem dX8_begin_70 : decode cX8_begin 70 = .ok (.getfield 35, 3) := by decide +kernel
theorem dX8_begin_73 : decode cX8_begin 73 = .ok (.iload_n 3, 1) := by decide +kernel
theorem dX8_begin_74 : decode cX8_begin 74 = .ok (.iload_n 2, 1) := by decide +kernel
theorem dX8_begin_75 : decode cX8_begin 75 = .ok (.iastore, 1) := by decide +kernel
theorem dX8_begin_76 : decode cX8_begin 76 = .ok (.aload_n 0, 1) := by decide +kernel
theorem dX8_begin_77 : decode cX8_begin 77 = .ok (.getfield 38, 3) := by decide +kernel
theorem dX8_begin_80 : decode cX8_begin 80 = .ok (.iload_n 3, 1) := by decide +kernel
theorem dX8_begin_81 : decode cX8_begin 81 = .ok (.iload 4, 2) := by decide +kernel
theorem dX8_begin_83 : decode cX8_begin 83 = .ok (.iastore, 1) := by decide +kernel
theorem dX8_begin_84 : decode cX8_begin 84 = .ok (.aload_n 0, 1) := by decide +kernel
theorem dX8_begin_85 : decode cX8_begin 85 = .ok (.getfield 41, 3) := by decide +kernel
theorem dX8_begin_88 : decode cX8_begin 88 = .ok (.iload_n 3, 1) := by decide +kernel
theorem dX8_begin_89 : decode cX8_begin 89 = .ok (.iload_n 2, 1) := by decide +kernel
theorem dX8_begin_90 : decode cX8_begin 90 = .ok (.iload 7, 2) := by decide +kernel
theorem dX8_begin_92 : decode cX8_begin 92 = .ok (.iadd, 1) := by decide +kernel
theorem dX8_begin_93 : decode cX8_begin 93 = .ok (.iastore, 1) := by decide +kernel
theorem dX8_begin_94 : decode cX8_begin 94 = .ok (.aload_n 0, 1) := by decide +kernel
theorem dX8_begin_95 : decode cX8_begin 95 = .ok (.getfield 44, 3) := by decide +kernel
theorem dX8_begin_98 : decode cX8_begin 98 = .ok (.iload_n 3, 1) := by decide +kernel
theorem dX8_begin_99 : decode cX8_begin 99 = .ok (.iconst 0, 1) := by decide +kernel
theorem dX8_begin_100 : decode cX8_begin 100 = .ok (.iastore, 1) := by decide +kernel
theorem dX8_begin_101 : decode cX8_begin 101 = .ok (.iconst 1, 1) := by decide +kernel
theorem dX8_begin_102 : decode cX8_begin 102 = .ok (.istore 8, 2) := by decide +kernel
theorem dX8_begin_104 : decode cX8_begin 104 = .ok (.iload 8, 2) := by decide +kernel
theorem dX8_begin_106 : decode cX8_begin 106 = .ok (.iconst 5, 1) := by decide +kernel
theorem dX8_begin_107 : decode cX8_begin 107 = .ok (.if_icmp .ge 66, 3) := by decide +kernel
theorem dX8_begin_110 : decode cX8_begin 110 = .ok (.aload_n 0, 1) := by decide +kernel
theorem dX8_begin_111 : decode cX8_begin 111 = .ok (.getfield 53, 3) := by decide +kernel
theorem dX8_begin_114 : decode cX8_begin 114 = .ok (.iconst 5, 1) := by decide +kernel
theorem dX8_begin_115 : decode cX8_begin 115 = .ok (.iload_n 1, 1) := by decide +kernel
theorem dX8_begin_116 : decode cX8_begin 116 = .ok (.imul, 1) := by decide +kernel
theorem dX8_begin_117 : decode cX8_begin 117 = .ok (.iload 8, 2) := by decide +kernel
theorem dX8_begin_119 : decode cX8_begin 119 = .ok (.iadd, 1) := by decide +kernel
theorem dX8_begin_120 : decode cX8_begin 120 = .ok (.dup2, 1) := by decide +kernel
theorem dX8_begin_121 : decode cX8_begin 121 = .ok (.iaload, 1) := by decide +kernel
theorem dX8_begin_122 : decode cX8_begin 122 = .ok (.aload_n 0, 1) := by decide +kernel
theorem dX8_begin_123 : decode cX8_begin 123 = .ok (.getfield 56, 3) := by decide +kernel
theorem dX8_begin_126 : decode cX8_begin 126 = .ok (.iconst 5, 1) := by decide +kernel
theorem dX8_begin_127 : decode cX8_begin 127 = .ok (.iload_n 1, 1) := by decide +kernel
theorem dX8_begin_128 : decode cX8_begin 128 = .ok (.imul, 1) := by decide +kernel
theorem dX8_begin_129 : decode cX8_begin 129 = .ok (.iload 8, 2) := by decide +kernel
theorem dX8_begin_131 : decode cX8_begin 131 = .ok (.iadd, 1) := by decide +kernel
theorem dX8_begin_132 : decode cX8_begin 132 = .ok (.iaload, 1) := by decide +kernel
theorem dX8_begin_133 : decode cX8_begin 133 = .ok (.iadd, 1) := by decide +kernel
theorem dX8_begin_134 : decode cX8_begin 134 = .ok (.iastore, 1) := by decide +kernel
theorem dX8_begin_135 : decode cX8_begin 135 = .ok (.aload_n 0, 1) := by decide +kernel
theorem dX8_begin_136 : decode cX8_begin 136 = .ok (.getfield 44, 3) := by decide +kernel
theorem dX8_begin_139 : decode cX8_begin 139 = .ok (.iload_n 3, 1) := by decide +kernel
theorem dX8_begin_140 : decode cX8_begin 140 = .ok (.dup2, 1) := by decide +kernel
theorem dX8_begin_141 : decode cX8_begin 141 = .ok (.iaload, 1) := by decide +kernel
theorem dX8_begin_142 : decode cX8_begin 142 = .ok (.aload_n 0, 1) := by decide +kernel
theorem dX8_begin_143 : decode cX8_begin 143 = .ok (.getfield 56, 3) := by decide +kernel
theorem dX8_begin_146 : decode cX8_begin 146 = .ok (.iconst 5, 1) := by decide +kernel
theorem dX8_begin_147 : decode cX8_begin 147 = .ok (.iload_n 1, 1) := by decide +kernel
theorem dX8_begin_148 : decode cX8_begin 148 = .ok (.imul, 1) := by decide +kernel
theorem dX8_begin_149 : decode cX8_begin 149 = .ok (.iload 8, 2) := by decide +kernel
theorem dX8_begin_151 : decode cX8_begin 151 = .ok (.iadd, 1) := by decide +kernel
theorem dX8_begin_152 : decode cX8_begin 152 = .ok (.iaload, 1) := by decide +kernel
theorem dX8_begin_153 : decode cX8_begin 153 = .ok (.iadd, 1) := by decide +kernel
theorem dX8_begin_154 : decode cX8_begin 154 = .ok (.iastore, 1) := by decide +kernel
theorem dX8_begin_155 : decode cX8_begin 155 = .ok (.aload_n 0, 1) := by decide +kernel
theorem dX8_begin_156 : decode cX8_begin 156 = .ok (.getfield 56, 3) := by decide +kernel
theorem dX8_begin_159 : decode cX8_begin 159 = .ok (.iconst 5, 1) := by decide +kernel
theorem dX8_begin_160 : decode cX8_begin 160 = .ok (.iload_n 1, 1) := by decide +kernel
theorem dX8_begin_161 : decode cX8_begin 161 = .ok (.imul, 1) := by decide +kernel
theorem dX8_begin_162 : decode cX8_begin 162 = .ok (.iload 8, 2) := by decide +kernel
theorem dX8_begin_164 : decode cX8_begin 164 = .ok (.iadd, 1) := by decide +kernel
theorem dX8_begin_165 : decode cX8_begin 165 = .ok (.iconst 0, 1) := by decide +kernel
theorem dX8_begin_166 : decode cX8_begin 166 = .ok (.iastore, 1) := by decide +kernel
theorem dX8_begin_167 : decode cX8_begin 167 = .ok (.iinc 8 1, 3) := by decide +kernel
theorem dX8_begin_170 : decode cX8_begin 170 = .ok (.goto (-66), 3) := by decide +kernel
theorem dX8_begin_173 : decode cX8_begin 173 = .ok (.iload 5, 2) := by decide +kernel
theorem dX8_begin_175 : decode cX8_begin 175 = .ok (.iconst 5, 1) := by decide +kernel
theorem dX8_begin_176 : decode cX8_begin 176 = .ok (.if_icmp .ge 24, 3) := by decide +kernel
theorem dX8_begin_179 : decode cX8_begin 179 = .ok (.aload_n 0, 1) := by decide +kernel
theorem dX8_begin_180 : decode cX8_begin 180 = .ok (.getfield 32, 3) := by decide +kernel
theorem dX8_begin_183 : decode cX8_begin 183 = .ok (.iconst 4, 1) := by decide +kernel
theorem dX8_begin_184 : decode cX8_begin 184 = .ok (.iload_n 1, 1) := by decide +kernel
theorem dX8_begin_185 : decode cX8_begin 185 = .ok (.imul, 1) := by decide +kernel
theorem dX8_begin_186 : decode cX8_begin 186 = .ok (.aload_n 0, 1) := by decide +kernel
theorem dX8_begin_187 : decode cX8_begin 187 = .ok (.iload_n 1, 1) := by decide +kernel
theorem dX8_begin_188 : decode cX8_begin 188 = .ok (.iload 4, 2) := by decide +kernel
theorem dX8_begin_190 : decode cX8_begin 190 = .ok (.iconst 1, 1) := by decide +kernel
theorem dX8_begin_191 : decode cX8_begin 191 = .ok (.invokevirtual 132, 3) := by decide +kernel
theorem dX8_begin_194 : decode cX8_begin 194 = .ok (.iadd, 1) := by decide +kernel
theorem dX8_begin_195 : decode cX8_begin 195 = .ok (.iload_n 2, 1) := by decide +kernel
theorem dX8_begin_196 : decode cX8_begin 196 = .ok (.iload 7, 2) := by decide +kernel
theorem dX8_begin_198 : decode cX8_begin 198 = .ok (.iadd, 1) := by decide +kernel
theorem dX8_begin_199 : decode cX8_begin 199 = .ok (.iastore, 1) := by decide +kernel
theorem dX8_begin_200 : decode cX8_begin 200 = .ok (.iload 6, 2) := by decide +kernel
theorem dX8_begin_202 : decode cX8_begin 202 = .ok (.ifCond .lt 22, 3) := by decide +kernel
theorem dX8_begin_205 : decode cX8_begin 205 = .ok (.aload_n 0, 1) := by decide +kernel
theorem dX8_begin_206 : decode cX8_begin 206 = .ok (.getfield 59, 3) := by decide +kernel
theorem dX8_begin_209 : decode cX8_begin 209 = .ok (.iload 6, 2) := by decide +kernel
theorem dX8_begin_211 : decode cX8_begin 211 = .ok (.iload_n 2, 1) := by decide +kernel
theorem dX8_begin_212 : decode cX8_begin 212 = .ok (.iload 7, 2) := by decide +kernel
theorem dX8_begin_214 : decode cX8_begin 214 = .ok (.iadd, 1) := by decide +kernel
theorem dX8_begin_215 : decode cX8_begin 215 = .ok (.iastore, 1) := by decide +kernel
theorem dX8_begin_216 : decode cX8_begin 216 = .ok (.aload_n 0, 1) := by decide +kernel
theorem dX8_begin_217 : decode cX8_begin 217 = .ok (.getfield 62, 3) := by decide +kernel
theorem dX8_begin_220 : decode cX8_begin 220 = .ok (.iload 6, 2) := by decide +kernel
theorem dX8_begin_222 : decode cX8_begin 222 = .ok (.iload_n 1, 1) := by decide +kernel
theorem dX8_begin_223 : decode cX8_begin 223 = .ok (.iastore, 1) := by decide +kernel
theorem dX8_begin_224 : decode cX8_begin 224 = .ok (.aload_n 0, 1) := by decide +kernel
theorem dX8_begin_225 : decode cX8_begin 225 = .ok (.getfield 50, 3) := by decide +kernel
theorem dX8_begin_228 : decode cX8_begin 228 = .ok (.iload_n 1, 1) := by decide +kernel
theorem dX8_begin_229 : decode cX8_begin 229 = .ok (.aload_n 0, 1) := by decide +kernel
theorem dX8_begin_230 : decode cX8_begin 230 = .ok (.iload_n 1, 1) := by decide +kernel
theorem dX8_begin_231 : decode cX8_begin 231 = .ok (.iload 4, 2) := by decide +kernel
theorem dX8_begin_233 : decode cX8_begin 233 = .ok (.invokevirtual 156, 3) := by decide +kernel
theorem dX8_begin_236 : decode cX8_begin 236 = .ok (.iastore, 1) := by decide +kernel
theorem dX8_begin_237 : decode cX8_begin 237 = .ok (.aload_n 0, 1) := by decide +kernel
theorem dX8_begin_238 : decode cX8_begin 238 = .ok (.getfield 47, 3) := by decide +kernel
theorem dX8_begin_241 : decode cX8_begin 241 = .ok (.iload_n 1, 1) := by decide +kernel
theorem dX8_begin_242 : decode cX8_begin 242 = .ok (.dup2, 1) := by decide +kernel
theorem dX8_begin_243 : decode cX8_begin 243 = .ok (.iaload, 1) := by decide +kernel
theorem dX8_begin_244 : decode cX8_begin 244 = .ok (.iconst 1, 1) := by decide +kernel
theorem dX8_begin_245 : decode cX8_begin 245 = .ok (.iadd, 1) := by decide +kernel
theorem dX8_begin_246 : decode cX8_begin 246 = .ok (.iastore, 1) := by decide +kernel
theorem dX8_begin_247 : decode cX8_begin 247 = .ok (.return_, 1) := by decide +kernel
theorem dX8_lengthOf_0 : decode cX8_lengthOf 0 = .ok (.iconst 0, 1) := by decide +kernel
theorem dX8_lengthOf_1 : decode cX8_lengthOf 1 = .ok (.istore_n 2, 1) := by decide +kernel
theorem dX8_lengthOf_2 : decode cX8_lengthOf 2 = .ok (.iconst 0, 1) := by decide +kernel
theorem dX8_lengthOf_3 : decode cX8_lengthOf 3 = .ok (.istore_n 3, 1) := by decide +kernel
theorem dX8_lengthOf_4 : decode cX8_lengthOf 4 = .ok (.iload_n 3, 1) := by decide +kernel
theorem dX8_lengthOf_5 : decode cX8_lengthOf 5 = .ok (.aload_n 0, 1) := by decide +kernel
theorem dX8_lengthOf_6 : decode cX8_lengthOf 6 = .ok (.getfield 47, 3) := by decide +kernel
theorem dX8_lengthOf_9 : decode cX8_lengthOf 9 = .ok (.iload_n 1, 1) := by decide +kernel
theorem dX8_lengthOf_10 : decode cX8_lengthOf 10 = .ok (.iaload, 1) := by decide +kernel
theorem dX8_lengthOf_11 : decode cX8_lengthOf 11 = .ok (.if_icmp .ge 40, 3) := by decide +kernel
theorem dX8_lengthOf_14 : decode cX8_lengthOf 14 = .ok (.aload_n 0, 1) := by decide +kernel
theorem dX8_lengthOf_15 : decode cX8_lengthOf 15 = .ok (.getfield 41, 3) := by decide +kernel
theorem dX8_lengthOf_18 : decode cX8_lengthOf 18 = .ok (.bipush 100, 2) := by decide +kernel
theorem dX8_lengthOf_20 : decode cX8_lengthOf 20 = .ok (.iload_n 1, 1) := by decide +kernel
theorem dX8_lengthOf_21 : decode cX8_lengthOf 21 = .ok (.imul, 1) := by decide +kernel
theorem dX8_lengthOf_22 : decode cX8_lengthOf 22 = .ok (.iload_n 3, 1) := by decide +kernel
theorem dX8_lengthOf_23 : decode cX8_lengthOf 23 = .ok (.iadd, 1) := by decide +kernel
theorem dX8_lengthOf_24 : decode cX8_lengthOf 24 = .ok (.iaload, 1) := by decide +kernel
theorem dX8_lengthOf_25 : decode cX8_lengthOf 25 = .ok (.iload_n 2, 1) := by decide +kernel
theorem dX8_lengthOf_26 : decode cX8_lengthOf 26 = .ok (.if_icmp .le 17, 3) := by decide +kernel
theorem dX8_lengthOf_29 : decode cX8_lengthOf 29 = .ok (.aload_n 0, 1) := by decide +kernel
theorem dX8_lengthOf_30 : decode cX8_lengthOf 30 = .ok (.getfield 41, 3) := by decide +kernel
theorem dX8_lengthOf_33 : decode cX8_lengthOf 33 = .ok (.bipush 100, 2) := by decide +kernel
theorem dX8_lengthOf_35 : decode cX8_lengthOf 35 = .ok (.iload_n 1, 1) := by decide +kernel
theorem dX8_lengthOf_36 : decode cX8_lengthOf 36 = .ok (.imul, 1) := by decide +kernel
theorem dX8_lengthOf_37 : decode cX8_lengthOf 37 = .ok (.iload_n 3, 1) := by decide +kernel
theorem dX8_lengthOf_38 : decode cX8_lengthOf 38 = .ok (.iadd, 1) := by decide +kernel
theorem dX8_lengthOf_39 : decode cX8_lengthOf 39 = .ok (.iaload, 1) := by decide +kernel
theorem dX8_lengthOf_40 : decode cX8_lengthOf 40 = .ok (.goto 4, 3) := by decide +kernel
theorem dX8_lengthOf_43 : decode cX8_lengthOf 43 = .ok (.iload_n 2, 1) := by decide +kernel
theorem dX8_lengthOf_44 : decode cX8_lengthOf 44 = .ok (.istore_n 2, 1) := by decide +kernel
theorem dX8_lengthOf_45 : decode cX8_lengthOf 45 = .ok (.iinc 3 1, 3) := by decide +kernel
theorem dX8_lengthOf_48 : decode cX8_lengthOf 48 = .ok (.goto (-44), 3) := by decide +kernel
theorem dX8_lengthOf_51 : decode cX8_lengthOf 51 = .ok (.iload_n 2, 1) := by decide +kernel
theorem dX8_lengthOf_52 : decode cX8_lengthOf 52 = .ok (.ireturn, 1) := by decide +kernel
theorem dX8_goThrough_0 : decode cX8_goThrough 0 = .ok (.iconst 0, 1) := by decide +kernel
theorem dX8_goThrough_1 : decode cX8_goThrough 1 = .ok (.istore 4, 2) := by decide +kernel
theorem dX8_goThrough_3 : decode cX8_goThrough 3 = .ok (.iload 4, 2) := by decide +kernel
theorem dX8_goThrough_5 : decode cX8_goThrough 5 = .ok (.iconst 2, 1) := by decide +kernel
theorem dX8_goThrough_6 : decode cX8_goThrough 6 = .ok (.if_icmp .ge 174, 3) := by decide +kernel
theorem dX8_goThrough_9 : decode cX8_goThrough 9 = .ok (.aload_n 0, 1) := by decide +kernel
theorem dX8_goThrough_10 : decode cX8_goThrough 10 = .ok (.getfield 47, 3) := by decide +kernel
theorem dX8_goThrough_13 : decode cX8_goThrough 13 = .ok (.iload 4, 2) := by decide +kernel
theorem dX8_goThrough_15 : decode cX8_goThrough 15 = .ok (.iconst 0, 1) := by decide +kernel
theorem dX8_goThrough_16 : decode cX8_goThrough 16 = .ok (.iastore, 1) := by decide +kernel
theorem dX8_goThrough_17 : decode cX8_goThrough 17 = .ok (.aload_n 0, 1) := by decide +kernel
theorem dX8_goThrough_18 : decode cX8_goThrough 18 = .ok (.getfield 50, 3) := by decide +kernel
theorem dX8_goThrough_21 : decode cX8_goThrough 21 = .ok (.iload 4, 2) := by decide +kernel
theorem dX8_goThrough_23 : decode cX8_goThrough 23 = .ok (.iload_n 3, 1) := by decide +kernel
theorem dX8_goThrough_24 : decode cX8_goThrough 24 = .ok (.ifCond .lt 9, 3) := by decide +kernel
theorem dX8_goThrough_27 : decode cX8_goThrough 27 = .ok (.iload_n 3, 1) := by decide +kernel
theorem dX8_goThrough_28 : decode cX8_goThrough 28 = .ok (.iload 4, 2) := by decide +kernel
theorem dX8_goThrough_30 : decode cX8_goThrough 30 = .ok (.if_icmp .ne 7, 3) := by decide +kernel
theorem dX8_goThrough_33 : decode cX8_goThrough 33 = .ok (.iconst 0, 1) := by decide +kernel
theorem dX8_goThrough_34 : decode cX8_goThrough 34 = .ok (.goto 5, 3) := by decide +kernel
theorem dX8_goThrough_37 : decode cX8_goThrough 37 = .ok (.bipush (-6), 2) := by decide +kernel
theorem dX8_goThrough_39 : decode cX8_goThrough 39 = .ok (.iastore, 1) := by decide +kernel
theorem dX8_goThrough_40 : decode cX8_goThrough 40 = .ok (.aload_n 0, 1) := by decide +kernel
theorem dX8_goThrough_41 : decode cX8_goThrough 41 = .ok (.getfield 59, 3) := by decide +kernel
theorem dX8_goThrough_44 : decode cX8_goThrough 44 = .ok (.iload 4, 2) := by decide +kernel
theorem dX8_goThrough_46 : decode cX8_goThrough 46 = .ok (.iconst 0, 1) := by decide +kernel
theorem dX8_goThrough_47 : decode cX8_goThrough 47 = .ok (.iastore, 1) := by decide +kernel
theorem dX8_goThrough_48 : decode cX8_goThrough 48 = .ok (.aload_n 0, 1) := by decide +kernel
theorem dX8_goThrough_49 : decode cX8_goThrough 49 = .ok (.getfield 62, 3) := by decide +kernel
theorem dX8_goThrough_52 : decode cX8_goThrough 52 = .ok (.iload 4, 2) := by decide +kernel
theorem dX8_goThrough_54 : decode cX8_goThrough 54 = .ok (.bipush (-6), 2) := by decide +kernel
theorem dX8_goThrough_56 : decode cX8_goThrough 56 = .ok (.iastore, 1) := by decide +kernel
theorem dX8_goThrough_57 : decode cX8_goThrough 57 = .ok (.iconst 0, 1) := by decide +kernel
theorem dX8_goThrough_58 : decode cX8_goThrough 58 = .ok (.istore 5, 2) := by decide +kernel
theorem dX8_goThrough_60 : decode cX8_goThrough 60 = .ok (.iload 5, 2) := by decide +kernel
theorem dX8_goThrough_62 : decode cX8_goThrough 62 = .ok (.bipush 12, 2) := by decide +kernel
theorem dX8_goThrough_64 : decode cX8_goThrough 64 = .ok (.if_icmp .ge 41, 3) := by decide +kernel
theorem dX8_goThrough_67 : decode cX8_goThrough 67 = .ok (.aload_n 0, 1) := by decide +kernel
theorem dX8_goThrough_68 : decode cX8_goThrough 68 = .ok (.getfield 29, 3) := by decide +kernel
theorem dX8_goThrough_71 : decode cX8_goThrough 71 = .ok (.bipush 12, 2) := by decide +kernel
theorem dX8_goThrough_73 : decode cX8_goThrough 73 = .ok (.iload 4, 2) := by decide +kernel
theorem dX8_goThrough_75 : decode cX8_goThrough 75 = .ok (.imul, 1) := by decide +kernel
theorem dX8_goThrough_76 : decode cX8_goThrough 76 = .ok (.iload 5, 2) := by decide +kernel
theorem dX8_goThrough_78 : decode cX8_goThrough 78 = .ok (.iadd, 1) := by decide +kernel
theorem dX8_goThrough_79 : decode cX8_goThrough 79 = .ok (.aload_n 0, 1) := by decide +kernel
theorem dX8_goThrough_80 : decode cX8_goThrough 80 = .ok (.getfield 7, 3) := by decide +kernel
theorem dX8_goThrough_83 : decode cX8_goThrough 83 = .ok (.bipush 10, 2) := by decide +kernel
theorem dX8_goThrough_85 : decode cX8_goThrough 85 = .ok (.bipush 100, 2) := by decide +kernel
theorem dX8_goThrough_87 : decode cX8_goThrough 87 = .ok (.iload 4, 2) := by decide +kernel
theorem dX8_goThrough_89 : decode cX8_goThrough 89 = .ok (.imul, 1) := by decide +kernel
theorem dX8_goThrough_90 : decode cX8_goThrough 90 = .ok (.iadd, 1) := by decide +kernel
theorem dX8_goThrough_91 : decode cX8_goThrough 91 = .ok (.bipush 70, 2) := by decide +kernel
theorem dX8_goThrough_93 : decode cX8_goThrough 93 = .ok (.iadd, 1) := by decide +kernel
theorem dX8_goThrough_94 : decode cX8_goThrough 94 = .ok (.iload 5, 2) := by decide +kernel
theorem dX8_goThrough_96 : decode cX8_goThrough 96 = .ok (.iadd, 1) := by decide +kernel
theorem dX8_goThrough_97 : decode cX8_goThrough 97 = .ok (.iaload, 1) := by decide +kernel
theorem dX8_goThrough_98 : decode cX8_goThrough 98 = .ok (.iastore, 1) := by decide +kernel
theorem dX8_goThrough_99 : decode cX8_goThrough 99 = .ok (.iinc 5 1, 3) := by decide +kernel
theorem dX8_goThrough_102 : decode cX8_goThrough 102 = .ok (.goto (-42), 3) := by decide +kernel
theorem dX8_goThrough_105 : decode cX8_goThrough 105 = .ok (.iconst 0, 1) := by decide +kernel
theorem dX8_goThrough_106 : decode cX8_goThrough 106 = .ok (.istore 5, 2) := by decide +kernel
theorem dX8_goThrough_108 : decode cX8_goThrough 108 = .ok (.iload 5, 2) := by decide +kernel
theorem dX8_goThrough_110 : decode cX8_goThrough 110 = .ok (.iconst 4, 1) := by decide +kernel
theorem dX8_goThrough_111 : decode cX8_goThrough 111 = .ok (.if_icmp .ge 22, 3) := by decide +kernel
theorem dX8_goThrough_114 : decode cX8_goThrough 114 = .ok (.aload_n 0, 1) := by decide +kernel
theorem dX8_goThrough_115 : decode cX8_goThrough 115 = .ok (.getfield 32, 3) := by decide +kernel
theorem dX8_goThrough_118 : decode cX8_goThrough 118 = .ok (.iconst 4, 1) := by decide +kernel
theorem dX8_goThrough_119 : decode cX8_goThrough 119 = .ok (.iload 4, 2) := by decide +kernel
theorem dX8_goThrough_121 : decode cX8_goThrough 121 = .ok (.imul, 1) := by decide +kernel
theorem dX8_goThrough_122 : decode cX8_goThrough 122 = .ok (.iload 5, 2) := by decide +kernel
theorem dX8_goThrough_124 : decode cX8_goThrough 124 = .ok (.iadd, 1) := by decide +kernel
theorem dX8_goThrough_125 : decode cX8_goThrough 125 = .ok (.iconst 0, 1) := by decide +kernel
theorem dX8_goThrough_126 : decode cX8_goThrough 126 = .ok (.iastore, 1) := by decide +kernel
theorem dX8_goThrough_127 : decode cX8_goThrough 127 = .ok (.iinc 5 1, 3) := by decide +kernel
theorem dX8_goThrough_130 : decode cX8_goThrough 130 = .ok (.goto (-22), 3) := by decide +kernel
theorem dX8_goThrough_133 : decode cX8_goThrough 133 = .ok (.iconst 0, 1) := by decide +kernel
theorem dX8_goThrough_134 : decode cX8_goThrough 134 = .ok (.istore 5, 2) := by decide +kernel
theorem dX8_goThrough_136 : decode cX8_goThrough 136 = .ok (.iload 5, 2) := by decide +kernel
theorem dX8_goThrough_138 : decode cX8_goThrough 138 = .ok (.iconst 5, 1) := by decide +kernel
theorem dX8_goThrough_139 : decode cX8_goThrough 139 = .ok (.if_icmp .ge 35, 3) := by decide +kernel
theorem dX8_goThrough_142 : decode cX8_goThrough 142 = .ok (.aload_n 0, 1) := by decide +kernel
theorem dX8_goThrough_143 : decode cX8_goThrough 143 = .ok (.getfield 53, 3) := by decide +kernel
theorem dX8_goThrough_146 : decode cX8_goThrough 146 = .ok (.iconst 5, 1) := by decide +kernel
theorem dX8_goThrough_147 : decode cX8_goThrough 147 = .ok (.iload 4, 2) := by decide +kernel
theorem dX8_goThrough_149 : decode cX8_goThrough 149 = .ok (.imul, 1) := by decide +kernel
theorem dX8_goThrough_150 : decode cX8_goThrough 150 = .ok (.iload 5, 2) := by decide +kernel
theorem dX8_goThrough_152 : decode cX8_goThrough 152 = .ok (.iadd, 1) := by decide +kernel
theorem dX8_goThrough_153 : decode cX8_goThrough 153 = .ok (.iconst 0, 1) := by decide +kernel
theorem dX8_goThrough_154 : decode cX8_goThrough 154 = .ok (.iastore, 1) := by decide +kernel
theorem dX8_goThrough_155 : decode cX8_goThrough 155 = .ok (.aload_n 0, 1) := by decide +kernel
theorem dX8_goThrough_156 : decode cX8_goThrough 156 = .ok (.getfield 56, 3) := by decide +kernel
theorem dX8_goThrough_159 : decode cX8_goThrough 159 = .ok (.iconst 5, 1) := by decide +kernel
theorem dX8_goThrough_160 : decode cX8_goThrough 160 = .ok (.iload 4, 2) := by decide +kernel
theorem dX8_goThrough_162 : decode cX8_goThrough 162 = .ok (.imul, 1) := by decide +kernel
theorem dX8_goThrough_163 : decode cX8_goThrough 163 = .ok (.iload 5, 2) := by decide +kernel
theorem dX8_goThrough_165 : decode cX8_goThrough 165 = .ok (.iadd, 1) := by decide +kernel
theorem dX8_goThrough_166 : decode cX8_goThrough 166 = .ok (.iconst 0, 1) := by decide +kernel
theorem dX8_goThrough_167 : decode cX8_goThrough 167 = .ok (.iastore, 1) := by decide +kernel
theorem dX8_goThrough_168 : decode cX8_goThrough 168 = .ok (.iinc 5 1, 3) := by decide +kernel
theorem dX8_goThrough_171 : decode cX8_goThrough 171 = .ok (.goto (-35), 3) := by decide +kernel
theorem dX8_goThrough_174 : decode cX8_goThrough 174 = .ok (.iinc 4 1, 3) := by decide +kernel
theorem dX8_goThrough_177 : decode cX8_goThrough 177 = .ok (.goto (-174), 3) := by decide +kernel
theorem dX8_goThrough_180 : decode cX8_goThrough 180 = .ok (.iconst 0, 1) := by decide +kernel
theorem dX8_goThrough_181 : decode cX8_goThrough 181 = .ok (.istore 4, 2) := by decide +kernel
theorem dX8_goThrough_183 : decode cX8_goThrough 183 = .ok (.aload_n 0, 1) := by decide +kernel
theorem dX8_goThrough_184 : decode cX8_goThrough 184 = .ok (.iconst 0, 1) := by decide +kernel
theorem dX8_goThrough_185 : decode cX8_goThrough 185 = .ok (.invokevirtual 143, 3) := by decide +kernel
theorem dX8_goThrough_188 : decode cX8_goThrough 188 = .ok (.ifCond .ne 11, 3) := by decide +kernel
theorem dX8_goThrough_191 : decode cX8_goThrough 191 = .ok (.aload_n 0, 1) := by decide +kernel
theorem dX8_goThrough_192 : decode cX8_goThrough 192 = .ok (.iconst 1, 1) := by decide +kernel
theorem dX8_goThrough_193 : decode cX8_goThrough 193 = .ok (.invokevirtual 143, 3) := by decide +kernel
theorem dX8_goThrough_196 : decode cX8_goThrough 196 = .ok (.ifCond .eq 99, 3) := by decide +kernel
theorem dX8_goThrough_199 : decode cX8_goThrough 199 = .ok (.aload_n 0, 1) := by decide +kernel
theorem dX8_goThrough_200 : decode cX8_goThrough 200 = .ok (.iload 4, 2) := by decide +kernel
theorem dX8_goThrough_202 : decode cX8_goThrough 202 = .ok (.iload_n 1, 1) := by decide +kernel
theorem dX8_goThrough_203 : decode cX8_goThrough 203 = .ok (.iload_n 2, 1) := by decide +kernel
theorem dX8_goThrough_204 : decode cX8_goThrough 204 = .ok (.invokevirtual 159, 3) := by decide +kernel
theorem dX8_goThrough_207 : decode cX8_goThrough 207 = .ok (.istore 5, 2) := by decide +kernel
theorem dX8_goThrough_209 : decode cX8_goThrough 209 = .ok (.iconst 0, 1) := by decide +kernel
theorem dX8_goThrough_210 : decode cX8_goThrough 210 = .ok (.istore 6, 2) := by decide +kernel
theorem dX8_goThrough_212 : decode cX8_goThrough 212 = .ok (.iload 6, 2) := by decide +kernel
theorem dX8_goThrough_214 : decode cX8_goThrough 214 = .ok (.iconst 2, 1) := by decide +kernel
theorem dX8_goThrough_215 : decode cX8_goThrough 215 = .ok (.if_icmp .ge 61, 3) := by decide +kernel
theorem dX8_goThrough_218 : decode cX8_goThrough 218 = .ok (.iload 6, 2) := by decide +kernel
theorem dX8_goThrough_220 : decode cX8_goThrough 220 = .ok (.iload 5, 2) := by decide +kernel
theorem dX8_goThrough_222 : decode cX8_goThrough 222 = .ok (.if_icmp .eq 48, 3) := by decide +kernel
theorem dX8_goThrough_225 : decode cX8_goThrough 225 = .ok (.aload_n 0, 1) := by decide +kernel
theorem dX8_goThrough_226 : decode cX8_goThrough 226 = .ok (.iload 6, 2) := by decide +kernel
theorem dX8_goThrough_228 : decode cX8_goThrough 228 = .ok (.invokevirtual 143, 3) := by decide +kernel
theorem dX8_goThrough_231 : decode cX8_goThrough 231 = .ok (.ifCond .eq 39, 3) := by decide +kernel
theorem dX8_goThrough_234 : decode cX8_goThrough 234 = .ok (.aload_n 0, 1) := by decide +kernel
theorem dX8_goThrough_235 : decode cX8_goThrough 235 = .ok (.iload 6, 2) := by decide +kernel
theorem dX8_goThrough_237 : decode cX8_goThrough 237 = .ok (.iload 4, 2) := by decide +kernel
theorem dX8_goThrough_239 : decode cX8_goThrough 239 = .ok (.iload_n 2, 1) := by decide +kernel
theorem dX8_goThrough_240 : decode cX8_goThrough 240 = .ok (.invokevirtual 146, 3) := by decide +kernel
theorem dX8_goThrough_243 : decode cX8_goThrough 243 = .ok (.istore 7, 2) := by decide +kernel
theorem dX8_goThrough_245 : decode cX8_goThrough 245 = .ok (.aload_n 0, 1) := by decide +kernel
theorem dX8_goThrough_246 : decode cX8_goThrough 246 = .ok (.getfield 56, 3) := by decide +kernel
theorem dX8_goThrough_249 : decode cX8_goThrough 249 = .ok (.iconst 5, 1) := by decide +kernel
theorem dX8_goThrough_250 : decode cX8_goThrough 250 = .ok (.iload 6, 2) := by decide +kernel
theorem dX8_goThrough_252 : decode cX8_goThrough 252 = .ok (.imul, 1) := by decide +kernel
theorem dX8_goThrough_253 : decode cX8_goThrough 253 = .ok (.iload 7, 2) := by decide +kernel
theorem dX8_goThrough_255 : decode cX8_goThrough 255 = .ok (.ifCond .ne 7, 3) := by decide +kernel
theorem dX8_goThrough_258 : decode cX8_goThrough 258 = .ok (.iconst 4, 1) := by decide +kernel
theorem dX8_goThrough_259 : decode cX8_goThrough 259 = .ok (.goto 5, 3) := by decide +kernel
theorem dX8_goThrough_262 : decode cX8_goThrough 262 = .ok (.iload 7, 2) := by decide +kernel
theorem dX8_goThrough_264 : decode cX8_goThrough 264 = .ok (.iadd, 1) := by decide +kernel
theorem dX8_goThrough_265 : decode cX8_goThrough 265 = .ok (.dup2, 1) := by decide +kernel
theorem dX8_goThrough_266 : decode cX8_goThrough 266 = .ok (.iaload, 1) := by decide +kernel
theorem dX8_goThrough_267 : decode cX8_goThrough 267 = .ok (.iconst 1, 1) := by decide +kernel
theorem dX8_goThrough_268 : decode cX8_goThrough 268 = .ok (.iadd, 1) := by decide +kernel
theorem dX8_goThrough_269 : decode cX8_goThrough 269 = .ok (.iastore, 1) := by decide +kernel
theorem dX8_goThrough_270 : decode cX8_goThrough 270 = .ok (.iinc 6 1, 3) := by decide +kernel
theorem dX8_goThrough_273 : decode cX8_goThrough 273 = .ok (.goto (-61), 3) := by decide +kernel
theorem dX8_goThrough_276 : decode cX8_goThrough 276 = .ok (.iload 5, 2) := by decide +kernel
theorem dX8_goThrough_278 : decode cX8_goThrough 278 = .ok (.ifCond .lt 11, 3) := by decide +kernel
theorem dX8_goThrough_281 : decode cX8_goThrough 281 = .ok (.aload_n 0, 1) := by decide +kernel
theorem dX8_goThrough_282 : decode cX8_goThrough 282 = .ok (.iload 5, 2) := by decide +kernel
theorem dX8_goThrough_284 : decode cX8_goThrough 284 = .ok (.iload 4, 2) := by decide +kernel
theorem dX8_goThrough_286 : decode cX8_goThrough 286 = .ok (.invokevirtual 162, 3) := by decide +kernel
theorem dX8_goThrough_289 : decode cX8_goThrough 289 = .ok (.iinc 4 1, 3) := by decide +kernel
theorem dX8_goThrough_292 : decode cX8_goThrough 292 = .ok (.goto (-109), 3) := by decide +kernel
theorem dX8_goThrough_295 : decode cX8_goThrough 295 = .ok (.aload_n 0, 1) := by decide +kernel
theorem dX8_goThrough_296 : decode cX8_goThrough 296 = .ok (.iconst 0, 1) := by decide +kernel
theorem dX8_goThrough_297 : decode cX8_goThrough 297 = .ok (.invokevirtual 166, 3) := by decide +kernel
theorem dX8_goThrough_300 : decode cX8_goThrough 300 = .ok (.aload_n 0, 1) := by decide +kernel
theorem dX8_goThrough_301 : decode cX8_goThrough 301 = .ok (.iconst 1, 1) := by decide +kernel
theorem dX8_goThrough_302 : decode cX8_goThrough 302 = .ok (.invokevirtual 166, 3) := by decide +kernel
theorem dX8_goThrough_305 : decode cX8_goThrough 305 = .ok (.if_icmp .le 11, 3) := by decide +kernel
theorem dX8_goThrough_308 : decode cX8_goThrough 308 = .ok (.aload_n 0, 1) := by decide +kernel
theorem dX8_goThrough_309 : decode cX8_goThrough 309 = .ok (.iconst 0, 1) := by decide +kernel
theorem dX8_goThrough_310 : decode cX8_goThrough 310 = .ok (.invokevirtual 166, 3) := by decide +kernel
theorem dX8_goThrough_313 : decode cX8_goThrough 313 = .ok (.goto 8, 3) := by decide +kernel
theorem dX8_goThrough_316 : decode cX8_goThrough 316 = .ok (.aload_n 0, 1) := by decide +kernel
theorem dX8_goThrough_317 : decode cX8_goThrough 317 = .ok (.iconst 1, 1) := by decide +kernel
theorem dX8_goThrough_318 : decode cX8_goThrough 318 = .ok (.invokevirtual 166, 3) := by decide +kernel
theorem dX8_goThrough_321 : decode cX8_goThrough 321 = .ok (.ireturn, 1) := by decide +kernel
theorem dX8_run_0 : decode cX8_run 0 = .ok (.aload_n 0, 1) := by decide +kernel
theorem dX8_run_1 : decode cX8_run 1 = .ok (.aload_n 0, 1) := by decide +kernel
theorem dX8_run_2 : decode cX8_run 2 = .ok (.getfield 7, 3) := by decide +kernel
theorem dX8_run_5 : decode cX8_run 5 = .ok (.iconst 0, 1) := by decide +kernel
theorem dX8_run_6 : decode cX8_run 6 = .ok (.iaload, 1) := by decide +kernel
theorem dX8_run_7 : decode cX8_run 7 = .ok (.bipush (-6), 2) := by decide +kernel
theorem dX8_run_9 : decode cX8_run 9 = .ok (.bipush (-6), 2) := by decide +kernel
theorem dX8_run_11 : decode cX8_run 11 = .ok (.invokevirtual 169, 3) := by decide +kernel
theorem dX8_run_14 : decode cX8_run 14 = .ok (.ireturn, 1) := by decide +kernel
theorem dX8_stepsOf_0 : decode cX8_stepsOf 0 = .ok (.iconst 0, 1) := by decide +kernel
theorem dX8_stepsOf_1 : decode cX8_stepsOf 1 = .ok (.istore_n 3, 1) := by decide +kernel
theorem dX8_stepsOf_2 : decode cX8_stepsOf 2 = .ok (.iconst 0, 1) := by decide +kernel
theorem dX8_stepsOf_3 : decode cX8_stepsOf 3 = .ok (.istore 4, 2) := by decide +kernel
theorem dX8_stepsOf_5 : decode cX8_stepsOf 5 = .ok (.iload 4, 2) := by decide +kernel
theorem dX8_stepsOf_7 : decode cX8_stepsOf 7 = .ok (.aload_n 0, 1) := by decide +kernel
theorem dX8_stepsOf_8 : decode cX8_stepsOf 8 = .ok (.getfield 47, 3) := by decide +kernel
theorem dX8_stepsOf_11 : decode cX8_stepsOf 11 = .ok (.iload_n 1, 1) := by decide +kernel
theorem dX8_stepsOf_12 : decode cX8_stepsOf 12 = .ok (.iaload, 1) := by decide +kernel
theorem dX8_stepsOf_13 : decode cX8_stepsOf 13 = .ok (.if_icmp .ge 42, 3) := by decide +kernel
theorem dX8_stepsOf_16 : decode cX8_stepsOf 16 = .ok (.iload_n 3, 1) := by decide +kernel
theorem dX8_stepsOf_17 : decode cX8_stepsOf 17 = .ok (.aload_n 0, 1) := by decide +kernel
theorem dX8_stepsOf_18 : decode cX8_stepsOf 18 = .ok (.iload_n 1, 1) := by decide +kernel
theorem dX8_stepsOf_19 : decode cX8_stepsOf 19 = .ok (.aload_n 0, 1) := by decide +kernel
theorem dX8_stepsOf_20 : decode cX8_stepsOf 20 = .ok (.getfield 38, 3) := by decide +kernel
theorem dX8_stepsOf_23 : decode cX8_stepsOf 23 = .ok (.bipush 100, 2) := by decide +kernel
theorem dX8_stepsOf_25 : decode cX8_stepsOf 25 = .ok (.iload_n 1, 1) := by decide +kernel
theorem dX8_stepsOf_26 : decode cX8_stepsOf 26 = .ok (.imul, 1) := by decide +kernel
theorem dX8_stepsOf_27 : decode cX8_stepsOf 27 = .ok (.iload 4, 2) := by decide +kernel
theorem dX8_stepsOf_29 : decode cX8_stepsOf 29 = .ok (.iadd, 1) := by decide +kernel
theorem dX8_stepsOf_30 : decode cX8_stepsOf 30 = .ok (.iaload, 1) := by decide +kernel
theorem dX8_stepsOf_31 : decode cX8_stepsOf 31 = .ok (.iconst 0, 1) := by decide +kernel
theorem dX8_stepsOf_32 : decode cX8_stepsOf 32 = .ok (.invokevirtual 132, 3) := by decide +kernel
theorem dX8_stepsOf_35 : decode cX8_stepsOf 35 = .ok (.invokestatic 136, 3) := by decide +kernel
theorem dX8_stepsOf_38 : decode cX8_stepsOf 38 = .ok (.iload_n 2, 1) := by decide +kernel
theorem dX8_stepsOf_39 : decode cX8_stepsOf 39 = .ok (.if_icmp .ne 7, 3) := by decide +kernel
theorem dX8_stepsOf_42 : decode cX8_stepsOf 42 = .ok (.iconst 1, 1) := by decide +kernel
theorem dX8_stepsOf_43 : decode cX8_stepsOf 43 = .ok (.goto 4, 3) := by decide +kernel
theorem dX8_stepsOf_46 : decode cX8_stepsOf 46 = .ok (.iconst 0, 1) := by decide +kernel
theorem dX8_stepsOf_47 : decode cX8_stepsOf 47 = .ok (.iadd, 1) := by decide +kernel
theorem dX8_stepsOf_48 : decode cX8_stepsOf 48 = .ok (.istore_n 3, 1) := by decide +kernel
theorem dX8_stepsOf_49 : decode cX8_stepsOf 49 = .ok (.iinc 4 1, 3) := by decide +kernel
theorem dX8_stepsOf_52 : decode cX8_stepsOf 52 = .ok (.goto (-47), 3) := by decide +kernel
theorem dX8_stepsOf_55 : decode cX8_stepsOf 55 = .ok (.iload_n 3, 1) := by decide +kernel
theorem dX8_stepsOf_56 : decode cX8_stepsOf 56 = .ok (.ireturn, 1) := by decide +kernel
theorem dX8_ofThread_0 : decode cX8_ofThread 0 = .ok (.iload_n 1, 1) := by decide +kernel
theorem dX8_ofThread_1 : decode cX8_ofThread 1 = .ok (.invokestatic 79, 3) := by decide +kernel
theorem dX8_ofThread_4 : decode cX8_ofThread 4 = .ok (.ifCond .ne 5, 3) := by decide +kernel
theorem dX8_ofThread_7 : decode cX8_ofThread 7 = .ok (.iconst (-1), 1) := by decide +kernel
theorem dX8_ofThread_8 : decode cX8_ofThread 8 = .ok (.ireturn, 1) := by decide +kernel
theorem dX8_ofThread_9 : decode cX8_ofThread 9 = .ok (.aload_n 0, 1) := by decide +kernel
theorem dX8_ofThread_10 : decode cX8_ofThread 10 = .ok (.invokevirtual 129, 3) := by decide +kernel
theorem dX8_ofThread_13 : decode cX8_ofThread 13 = .ok (.pop, 1) := by decide +kernel
theorem dX8_ofThread_14 : decode cX8_ofThread 14 = .ok (.iload_n 2, 1) := by decide +kernel
theorem dX8_ofThread_15 : decode cX8_ofThread 15 = .ok (.tableswitch 143 0 10 #[57, 63, 70, 76, 143, 143, 143, 143, 113, 133, 133], 57) := by decide +kernel
theorem dX8_ofThread_72 : decode cX8_ofThread 72 = .ok (.aload_n 0, 1) := by decide +kernel
theorem dX8_ofThread_73 : decode cX8_ofThread 73 = .ok (.iload_n 1, 1) := by decide +kernel
theorem dX8_ofThread_74 : decode cX8_ofThread 74 = .ok (.invokevirtual 125, 3) := by decide +kernel
theorem dX8_ofThread_77 : decode cX8_ofThread 77 = .ok (.ireturn, 1) := by decide +kernel
theorem dX8_ofThread_78 : decode cX8_ofThread 78 = .ok (.aload_n 0, 1) := by decide +kernel
theorem dX8_ofThread_79 : decode cX8_ofThread 79 = .ok (.getfield 47, 3) := by decide +kernel
theorem dX8_ofThread_82 : decode cX8_ofThread 82 = .ok (.iload_n 1, 1) := by decide +kernel
theorem dX8_ofThread_83 : decode cX8_ofThread 83 = .ok (.iaload, 1) := by decide +kernel
theorem dX8_ofThread_84 : decode cX8_ofThread 84 = .ok (.ireturn, 1) := by decide +kernel
theorem dX8_ofThread_85 : decode cX8_ofThread 85 = .ok (.aload_n 0, 1) := by decide +kernel
theorem dX8_ofThread_86 : decode cX8_ofThread 86 = .ok (.iload_n 1, 1) := by decide +kernel
theorem dX8_ofThread_87 : decode cX8_ofThread 87 = .ok (.invokevirtual 166, 3) := by decide +kernel
theorem dX8_ofThread_90 : decode cX8_ofThread 90 = .ok (.ireturn, 1) := by decide +kernel
theorem dX8_ofThread_91 : decode cX8_ofThread 91 = .ok (.aload_n 0, 1) := by decide +kernel
theorem dX8_ofThread_92 : decode cX8_ofThread 92 = .ok (.getfield 47, 3) := by decide +kernel
theorem dX8_ofThread_95 : decode cX8_ofThread 95 = .ok (.iload_n 1, 1) := by decide +kernel
theorem dX8_ofThread_96 : decode cX8_ofThread 96 = .ok (.iaload, 1) := by decide +kernel
theorem dX8_ofThread_97 : decode cX8_ofThread 97 = .ok (.bipush 100, 2) := by decide +kernel
theorem dX8_ofThread_99 : decode cX8_ofThread 99 = .ok (.if_icmp .ne 27, 3) := by decide +kernel
theorem dX8_ofThread_102 : decode cX8_ofThread 102 = .ok (.aload_n 0, 1) := by decide +kernel
theorem dX8_ofThread_103 : decode cX8_ofThread 103 = .ok (.getfield 50, 3) := by decide +kernel
theorem dX8_ofThread_106 : decode cX8_ofThread 106 = .ok (.iload_n 1, 1) := by decide +kernel
theorem dX8_ofThread_107 : decode cX8_ofThread 107 = .ok (.iaload, 1) := by decide +kernel
theorem dX8_ofThread_108 : decode cX8_ofThread 108 = .ok (.iconst 0, 1) := by decide +kernel
theorem dX8_ofThread_109 : decode cX8_ofThread 109 = .ok (.aload_n 0, 1) := by decide +kernel
theorem dX8_ofThread_110 : decode cX8_ofThread 110 = .ok (.iload_n 1, 1) := by decide +kernel
theorem dX8_ofThread_111 : decode cX8_ofThread 111 = .ok (.invokevirtual 125, 3) := by decide +kernel
theorem dX8_ofThread_114 : decode cX8_ofThread 114 = .ok (.iconst 1, 1) := by decide +kernel
theorem dX8_ofThread_115 : decode cX8_ofThread 115 = .ok (.isub, 1) := by decide +kernel
theorem dX8_ofThread_116 : decode cX8_ofThread 116 = .ok (.invokestatic 72, 3) := by decide +kernel
theorem dX8_ofThread_119 : decode cX8_ofThread 119 = .ok (.ifCond .eq 7, 3) := by decide +kernel
theorem dX8_ofThread_122 : decode cX8_ofThread 122 = .ok (.iconst 1, 1) := by decide +kernel
theorem dX8_ofThread_123 : decode cX8_ofThread 123 = .ok (.goto 4, 3) := by decide +kernel
theorem dX8_ofThread_126 : decode cX8_ofThread 126 = .ok (.iconst 0, 1) := by decide +kernel
theorem dX8_ofThread_127 : decode cX8_ofThread 127 = .ok (.ireturn, 1) := by decide +kernel
theorem dX8_ofThread_128 : decode cX8_ofThread 128 = .ok (.aload_n 0, 1) := by decide +kernel
theorem dX8_ofThread_129 : decode cX8_ofThread 129 = .ok (.getfield 47, 3) := by decide +kernel
theorem dX8_ofThread_132 : decode cX8_ofThread 132 = .ok (.iload_n 1, 1) := by decide +kernel
theorem dX8_ofThread_133 : decode cX8_ofThread 133 = .ok (.iaload, 1) := by decide +kernel
theorem dX8_ofThread_134 : decode cX8_ofThread 134 = .ok (.ifCond .ne 8, 3) := by decide +kernel
theorem dX8_ofThread_137 : decode cX8_ofThread 137 = .ok (.bipush (-6), 2) := by decide +kernel
theorem dX8_ofThread_139 : decode cX8_ofThread 139 = .ok (.goto 8, 3) := by decide +kernel
theorem dX8_ofThread_142 : decode cX8_ofThread 142 = .ok (.aload_n 0, 1) := by decide +kernel
theorem dX8_ofThread_143 : decode cX8_ofThread 143 = .ok (.iload_n 1, 1) := by decide +kernel
theorem dX8_ofThread_144 : decode cX8_ofThread 144 = .ok (.invokevirtual 149, 3) := by decide +kernel
theorem dX8_ofThread_147 : decode cX8_ofThread 147 = .ok (.ireturn, 1) := by decide +kernel
theorem dX8_ofThread_148 : decode cX8_ofThread 148 = .ok (.aload_n 0, 1) := by decide +kernel
theorem dX8_ofThread_149 : decode cX8_ofThread 149 = .ok (.iload_n 1, 1) := by decide +kernel
theorem dX8_ofThread_150 : decode cX8_ofThread 150 = .ok (.iload_n 2, 1) := by decide +kernel
theorem dX8_ofThread_151 : decode cX8_ofThread 151 = .ok (.bipush 9, 2) := by decide +kernel
theorem dX8_ofThread_153 : decode cX8_ofThread 153 = .ok (.isub, 1) := by decide +kernel
theorem dX8_ofThread_154 : decode cX8_ofThread 154 = .ok (.invokevirtual 172, 3) := by decide +kernel
theorem dX8_ofThread_157 : decode cX8_ofThread 157 = .ok (.ireturn, 1) := by decide +kernel
theorem dX8_ofThread_158 : decode cX8_ofThread 158 = .ok (.iload_n 2, 1) := by decide +kernel
theorem dX8_ofThread_159 : decode cX8_ofThread 159 = .ok (.iconst 4, 1) := by decide +kernel
theorem dX8_ofThread_160 : decode cX8_ofThread 160 = .ok (.bipush 7, 2) := by decide +kernel
theorem dX8_ofThread_162 : decode cX8_ofThread 162 = .ok (.invokestatic 72, 3) := by decide +kernel
theorem dX8_ofThread_165 : decode cX8_ofThread 165 = .ok (.ifCond .eq 18, 3) := by decide +kernel
theorem dX8_ofThread_168 : decode cX8_ofThread 168 = .ok (.aload_n 0, 1) := by decide +kernel
theorem dX8_ofThread_169 : decode cX8_ofThread 169 = .ok (.getfield 53, 3) := by decide +kernel
theorem dX8_ofThread_172 : decode cX8_ofThread 172 = .ok (.iconst 5, 1) := by decide +kernel
theorem dX8_ofThread_173 : decode cX8_ofThread 173 = .ok (.iload_n 1, 1) := by decide +kernel
theorem dX8_ofThread_174 : decode cX8_ofThread 174 = .ok (.imul, 1) := by decide +kernel
theorem dX8_ofThread_175 : decode cX8_ofThread 175 = .ok (.iload_n 2, 1) := by decide +kernel
theorem dX8_ofThread_176 : decode cX8_ofThread 176 = .ok (.iadd, 1) := by decide +kernel
theorem dX8_ofThread_177 : decode cX8_ofThread 177 = .ok (.iconst 3, 1) := by decide +kernel
theorem dX8_ofThread_178 : decode cX8_ofThread 178 = .ok (.isub, 1) := by decide +kernel
theorem dX8_ofThread_179 : decode cX8_ofThread 179 = .ok (.iaload, 1) := by decide +kernel
theorem dX8_ofThread_180 : decode cX8_ofThread 180 = .ok (.goto 5, 3) := by decide +kernel
theorem dX8_ofThread_183 : decode cX8_ofThread 183 = .ok (.bipush (-2), 2) := by decide +kernel
theorem dX8_ofThread_185 : decode cX8_ofThread 185 = .ok (.ireturn, 1) := by decide +kernel
theorem dX8_last_0 : decode cX8_last 0 = .ok (.iload_n 1, 1) := by decide +kernel
theorem dX8_last_1 : decode cX8_last 1 = .ok (.invokestatic 79, 3) := by decide +kernel
theorem dX8_last_4 : decode cX8_last 4 = .ok (.ifCond .eq 13, 3) := by decide +kernel
theorem dX8_last_7 : decode cX8_last 7 = .ok (.iload_n 2, 1) := by decide +kernel
theorem dX8_last_8 : decode cX8_last 8 = .ok (.iconst 0, 1) := by decide +kernel
theorem dX8_last_9 : decode cX8_last 9 = .ok (.bipush 11, 2) := by decide +kernel
theorem dX8_last_11 : decode cX8_last 11 = .ok (.invokestatic 72, 3) := by decide +kernel
theorem dX8_last_14 : decode cX8_last 14 = .ok (.ifCond .ne 5, 3) := by decide +kernel
theorem dX8_last_17 : decode cX8_last 17 = .ok (.iconst (-1), 1) := by decide +kernel
theorem dX8_last_18 : decode cX8_last 18 = .ok (.ireturn, 1) := by decide +kernel
theorem dX8_last_19 : decode cX8_last 19 = .ok (.aload_n 0, 1) := by decide +kernel
theorem dX8_last_20 : decode cX8_last 20 = .ok (.invokevirtual 129, 3) := by decide +kernel
theorem dX8_last_23 : decode cX8_last 23 = .ok (.pop, 1) := by decide +kernel
theorem dX8_last_24 : decode cX8_last 24 = .ok (.aload_n 0, 1) := by decide +kernel
theorem dX8_last_25 : decode cX8_last 25 = .ok (.iload_n 1, 1) := by decide +kernel
theorem dX8_last_26 : decode cX8_last 26 = .ok (.iload_n 2, 1) := by decide +kernel
theorem dX8_last_27 : decode cX8_last 27 = .ok (.invokevirtual 152, 3) := by decide +kernel
theorem dX8_last_30 : decode cX8_last 30 = .ok (.ireturn, 1) := by decide +kernel
theorem dX8_ofStep_0 : decode cX8_ofStep 0 = .ok (.aload_n 0, 1) := by decide +kernel
theorem dX8_ofStep_1 : decode cX8_ofStep 1 = .ok (.invokevirtual 129, 3) := by decide +kernel
theorem dX8_ofStep_4 : decode cX8_ofStep 4 = .ok (.pop, 1) := by decide +kernel
theorem dX8_ofStep_5 : decode cX8_ofStep 5 = .ok (.iload_n 1, 1) := by decide +kernel
theorem dX8_ofStep_6 : decode cX8_ofStep 6 = .ok (.invokestatic 79, 3) := by decide +kernel
theorem dX8_ofStep_9 : decode cX8_ofStep 9 = .ok (.ifCond .eq 19, 3) := by decide +kernel
theorem dX8_ofStep_12 : decode cX8_ofStep 12 = .ok (.iload_n 2, 1) := by decide +kernel
theorem dX8_ofStep_13 : decode cX8_ofStep 13 = .ok (.iconst 0, 1) := by decide +kernel
theorem dX8_ofStep_14 : decode cX8_ofStep 14 = .ok (.aload_n 0, 1) := by decide +kernel
theorem dX8_ofStep_15 : decode cX8_ofStep 15 = .ok (.getfield 47, 3) := by decide +kernel
theorem dX8_ofStep_18 : decode cX8_ofStep 18 = .ok (.iload_n 1, 1) := by decide +kernel
theorem dX8_ofStep_19 : decode cX8_ofStep 19 = .ok (.iaload, 1) := by decide +kernel
theorem dX8_ofStep_20 : decode cX8_ofStep 20 = .ok (.iconst 1, 1) := by decide +kernel
theorem dX8_ofStep_21 : decode cX8_ofStep 21 = .ok (.isub, 1) := by decide +kernel
theorem dX8_ofStep_22 : decode cX8_ofStep 22 = .ok (.invokestatic 72, 3) := by decide +kernel
theorem dX8_ofStep_25 : decode cX8_ofStep 25 = .ok (.ifCond .ne 5, 3) := by decide +kernel
theorem dX8_ofStep_28 : decode cX8_ofStep 28 = .ok (.iconst (-1), 1) := by decide +kernel
theorem dX8_ofStep_29 : decode cX8_ofStep 29 = .ok (.ireturn, 1) := by decide +kernel
theorem dX8_ofStep_30 : decode cX8_ofStep 30 = .ok (.bipush 100, 2) := by decide +kernel
theorem dX8_ofStep_32 : decode cX8_ofStep 32 = .ok (.iload_n 1, 1) := by decide +kernel
theorem dX8_ofStep_33 : decode cX8_ofStep 33 = .ok (.imul, 1) := by decide +kernel
theorem dX8_ofStep_34 : decode cX8_ofStep 34 = .ok (.iload_n 2, 1) := by decide +kernel
theorem dX8_ofStep_35 : decode cX8_ofStep 35 = .ok (.iadd, 1) := by decide +kernel
theorem dX8_ofStep_36 : decode cX8_ofStep 36 = .ok (.istore 4, 2) := by decide +kernel
theorem dX8_ofStep_38 : decode cX8_ofStep 38 = .ok (.iload_n 3, 1) := by decide +kernel
theorem dX8_ofStep_39 : decode cX8_ofStep 39 = .ok (.ifCond .ne 13, 3) := by decide +kernel
theorem dX8_ofStep_42 : decode cX8_ofStep 42 = .ok (.aload_n 0, 1) := by decide +kernel
theorem dX8_ofStep_43 : decode cX8_ofStep 43 = .ok (.getfield 35, 3) := by decide +kernel
theorem dX8_ofStep_46 : decode cX8_ofStep 46 = .ok (.iload 4, 2) := by decide +kernel
theorem dX8_ofStep_48 : decode cX8_ofStep 48 = .ok (.iaload, 1) := by decide +kernel
theorem dX8_ofStep_49 : decode cX8_ofStep 49 = .ok (.goto 50, 3) := by decide +kernel
theorem dX8_ofStep_52 : decode cX8_ofStep 52 = .ok (.iload_n 3, 1) := by decide +kernel
theorem dX8_ofStep_53 : decode cX8_ofStep 53 = .ok (.iconst 1, 1) := by decide +kernel
theorem dX8_ofStep_54 : decode cX8_ofStep 54 = .ok (.if_icmp .ne 13, 3) := by decide +kernel
theorem dX8_ofStep_57 : decode cX8_ofStep 57 = .ok (.aload_n 0, 1) := by decide +kernel
theorem dX8_ofStep_58 : decode cX8_ofStep 58 = .ok (.getfield 38, 3) := by decide +kernel
theorem dX8_ofStep_61 : decode cX8_ofStep 61 = .ok (.iload 4, 2) := by decide +kernel
theorem dX8_ofStep_63 : decode cX8_ofStep 63 = .ok (.iaload, 1) := by decide +kernel
theorem dX8_ofStep_64 : decode cX8_ofStep 64 = .ok (.goto 35, 3) := by decide +kernel
theorem dX8_ofStep_67 : decode cX8_ofStep 67 = .ok (.iload_n 3, 1) := by decide +kernel
theorem dX8_ofStep_68 : decode cX8_ofStep 68 = .ok (.iconst 2, 1) := by decide +kernel
theorem dX8_ofStep_69 : decode cX8_ofStep 69 = .ok (.if_icmp .ne 13, 3) := by decide +kernel
theorem dX8_ofStep_72 : decode cX8_ofStep 72 = .ok (.aload_n 0, 1) := by decide +kernel
theorem dX8_ofStep_73 : decode cX8_ofStep 73 = .ok (.getfield 41, 3) := by decide +kernel
theorem dX8_ofStep_76 : decode cX8_ofStep 76 = .ok (.iload 4, 2) := by decide +kernel
theorem dX8_ofStep_78 : decode cX8_ofStep 78 = .ok (.iaload, 1) := by decide +kernel
theorem dX8_ofStep_79 : decode cX8_ofStep 79 = .ok (.goto 20, 3) := by decide +kernel
theorem dX8_ofStep_82 : decode cX8_ofStep 82 = .ok (.iload_n 3, 1) := by decide +kernel
theorem dX8_ofStep_83 : decode cX8_ofStep 83 = .ok (.iconst 3, 1) := by decide +kernel
theorem dX8_ofStep_84 : decode cX8_ofStep 84 = .ok (.if_icmp .ne 13, 3) := by decide +kernel
theorem dX8_ofStep_87 : decode cX8_ofStep 87 = .ok (.aload_n 0, 1) := by decide +kernel
theorem dX8_ofStep_88 : decode cX8_ofStep 88 = .ok (.getfield 44, 3) := by decide +kernel
theorem dX8_ofStep_91 : decode cX8_ofStep 91 = .ok (.iload 4, 2) := by decide +kernel
theorem dX8_ofStep_93 : decode cX8_ofStep 93 = .ok (.iaload, 1) := by decide +kernel
theorem dX8_ofStep_94 : decode cX8_ofStep 94 = .ok (.goto 5, 3) := by decide +kernel
theorem dX8_ofStep_97 : decode cX8_ofStep 97 = .ok (.bipush (-2), 2) := by decide +kernel
theorem dX8_ofStep_99 : decode cX8_ofStep 99 = .ok (.ireturn, 1) := by decide +kernel
theorem dX8_at_0 : decode cX8_at 0 = .ok (.iload_n 1, 1) := by decide +kernel
theorem dX8_at_1 : decode cX8_at 1 = .ok (.ifCond .lt 12, 3) := by decide +kernel
theorem dX8_at_4 : decode cX8_at 4 = .ok (.iload_n 2, 1) := by decide +kernel
theorem dX8_at_5 : decode cX8_at 5 = .ok (.iconst 0, 1) := by decide +kernel
theorem dX8_at_6 : decode cX8_at 6 = .ok (.iconst 2, 1) := by decide +kernel
theorem dX8_at_7 : decode cX8_at 7 = .ok (.invokestatic 72, 3) := by decide +kernel
theorem dX8_at_10 : decode cX8_at 10 = .ok (.ifCond .ne 6, 3) := by decide +kernel
theorem dX8_at_13 : decode cX8_at 13 = .ok (.bipush (-2), 2) := by decide +kernel
theorem dX8_at_15 : decode cX8_at 15 = .ok (.ireturn, 1) := by decide +kernel
theorem dX8_at_16 : decode cX8_at 16 = .ok (.aload_n 0, 1) := by decide +kernel
theorem dX8_at_17 : decode cX8_at 17 = .ok (.invokevirtual 129, 3) := by decide +kernel
theorem dX8_at_20 : decode cX8_at 20 = .ok (.pop, 1) := by decide +kernel
theorem dX8_at_21 : decode cX8_at 21 = .ok (.iconst 0, 1) := by decide +kernel
theorem dX8_at_22 : decode cX8_at 22 = .ok (.istore_n 3, 1) := by decide +kernel
theorem dX8_at_23 : decode cX8_at 23 = .ok (.iload_n 3, 1) := by decide +kernel
theorem dX8_at_24 : decode cX8_at 24 = .ok (.iconst 2, 1) := by decide +kernel
theorem dX8_at_25 : decode cX8_at 25 = .ok (.if_icmp .ge 113, 3) := by decide +kernel
theorem dX8_at_28 : decode cX8_at 28 = .ok (.bipush 100, 2) := by decide +kernel
theorem dX8_at_30 : decode cX8_at 30 = .ok (.iload_n 3, 1) := by decide +kernel
theorem dX8_at_31 : decode cX8_at 31 = .ok (.imul, 1) := by decide +kernel
theorem dX8_at_32 : decode cX8_at 32 = .ok (.istore 4, 2) := by decide +kernel
theorem dX8_at_34 : decode cX8_at 34 = .ok (.iload 4, 2) := by decide +kernel
theorem dX8_at_36 : decode cX8_at 36 = .ok (.bipush 100, 2) := by decide +kernel
theorem dX8_at_38 : decode cX8_at 38 = .ok (.iload_n 3, 1) := by decide +kernel
theorem dX8_at_39 : decode cX8_at 39 = .ok (.imul, 1) := by decide +kernel
theorem dX8_at_40 : decode cX8_at 40 = .ok (.aload_n 0, 1) := by decide +kernel
theorem dX8_at_41 : decode cX8_at 41 = .ok (.getfield 47, 3) := by decide +kernel
theorem dX8_at_44 : decode cX8_at 44 = .ok (.iload_n 3, 1) := by decide +kernel
theorem dX8_at_45 : decode cX8_at 45 = .ok (.iaload, 1) := by decide +kernel
theorem dX8_at_46 : decode cX8_at 46 = .ok (.iadd, 1) := by decide +kernel
theorem dX8_at_47 : decode cX8_at 47 = .ok (.if_icmp .ge 85, 3) := by decide +kernel
theorem dX8_at_50 : decode cX8_at 50 = .ok (.aload_n 0, 1) := by decide +kernel
theorem dX8_at_51 : decode cX8_at 51 = .ok (.getfield 35, 3) := by decide +kernel
theorem dX8_at_54 : decode cX8_at 54 = .ok (.iload 4, 2) := by decide +kernel
theorem dX8_at_56 : decode cX8_at 56 = .ok (.iaload, 1) := by decide +kernel
theorem dX8_at_57 : decode cX8_at 57 = .ok (.iload_n 1, 1) := by decide +kernel
theorem dX8_at_58 : decode cX8_at 58 = .ok (.if_icmp .gt 40, 3) := by decide +kernel
theorem dX8_at_61 : decode cX8_at 61 = .ok (.iload_n 1, 1) := by decide +kernel
theorem dX8_at_62 : decode cX8_at 62 = .ok (.aload_n 0, 1) := by decide +kernel
theorem dX8_at_63 : decode cX8_at 63 = .ok (.getfield 41, 3) := by decide +kernel
theorem dX8_at_66 : decode cX8_at 66 = .ok (.iload 4, 2) := by decide +kernel
theorem dX8_at_68 : decode cX8_at 68 = .ok (.iaload, 1) := by decide +kernel
theorem dX8_at_69 : decode cX8_at 69 = .ok (.if_icmp .ge 29, 3) := by decide +kernel
theorem dX8_at_72 : decode cX8_at 72 = .ok (.aload_n 0, 1) := by decide +kernel
theorem dX8_at_73 : decode cX8_at 73 = .ok (.iload_n 3, 1) := by decide +kernel
theorem dX8_at_74 : decode cX8_at 74 = .ok (.aload_n 0, 1) := by decide +kernel
theorem dX8_at_75 : decode cX8_at 75 = .ok (.getfield 38, 3) := by decide +kernel
theorem dX8_at_78 : decode cX8_at 78 = .ok (.iload 4, 2) := by decide +kernel
theorem dX8_at_80 : decode cX8_at 80 = .ok (.iaload, 1) := by decide +kernel
theorem dX8_at_81 : decode cX8_at 81 = .ok (.iconst 0, 1) := by decide +kernel
theorem dX8_at_82 : decode cX8_at 82 = .ok (.invokevirtual 132, 3) := by decide +kernel
theorem dX8_at_85 : decode cX8_at 85 = .ok (.invokestatic 136, 3) := by decide +kernel
theorem dX8_at_88 : decode cX8_at 88 = .ok (.iload_n 2, 1) := by decide +kernel
theorem dX8_at_89 : decode cX8_at 89 = .ok (.iconst 1, 1) := by decide +kernel
theorem dX8_at_90 : decode cX8_at 90 = .ok (.isub, 1) := by decide +kernel
theorem dX8_at_91 : decode cX8_at 91 = .ok (.if_icmp .ne 7, 3) := by decide +kernel
theorem dX8_at_94 : decode cX8_at 94 = .ok (.iconst 1, 1) := by decide +kernel
theorem dX8_at_95 : decode cX8_at 95 = .ok (.goto 4, 3) := by decide +kernel
theorem dX8_at_98 : decode cX8_at 98 = .ok (.iconst 0, 1) := by decide +kernel
theorem dX8_at_99 : decode cX8_at 99 = .ok (.istore 5, 2) := by decide +kernel
theorem dX8_at_101 : decode cX8_at 101 = .ok (.iload_n 2, 1) := by decide +kernel
theorem dX8_at_102 : decode cX8_at 102 = .ok (.ifCond .ne 17, 3) := by decide +kernel
theorem dX8_at_105 : decode cX8_at 105 = .ok (.aload_n 0, 1) := by decide +kernel
theorem dX8_at_106 : decode cX8_at 106 = .ok (.getfield 35, 3) := by decide +kernel
theorem dX8_at_109 : decode cX8_at 109 = .ok (.iload 4, 2) := by decide +kernel
theorem dX8_at_111 : decode cX8_at 111 = .ok (.iaload, 1) := by decide +kernel
theorem dX8_at_112 : decode cX8_at 112 = .ok (.iload_n 1, 1) := by decide +kernel
theorem dX8_at_113 : decode cX8_at 113 = .ok (.if_icmp .ne 13, 3) := by decide +kernel
theorem dX8_at_116 : decode cX8_at 116 = .ok (.goto 8, 3) := by decide +kernel
theorem dX8_at_119 : decode cX8_at 119 = .ok (.iload 5, 2) := by decide +kernel
theorem dX8_at_121 : decode cX8_at 121 = .ok (.ifCond .eq 5, 3) := by decide +kernel
theorem dX8_at_124 : decode cX8_at 124 = .ok (.iload_n 3, 1) := by decide +kernel
theorem dX8_at_125 : decode cX8_at 125 = .ok (.ireturn, 1) := by decide +kernel
theorem dX8_at_126 : decode cX8_at 126 = .ok (.iinc 4 1, 3) := by decide +kernel
theorem dX8_at_129 : decode cX8_at 129 = .ok (.goto (-95), 3) := by decide +kernel
theorem dX8_at_132 : decode cX8_at 132 = .ok (.iinc 3 1, 3) := by decide +kernel
theorem dX8_at_135 : decode cX8_at 135 = .ok (.goto (-112), 3) := by decide +kernel
theorem dX8_at_138 : decode cX8_at 138 = .ok (.bipush (-6), 2) := by decide +kernel
theorem dX8_at_140 : decode cX8_at 140 = .ok (.ireturn, 1) := by decide +kernel
theorem dX8_count_0 : decode cX8_count 0 = .ok (.iload_n 1, 1) := by decide +kernel
theorem dX8_count_1 : decode cX8_count 1 = .ok (.bipush 7, 2) := by decide +kernel
theorem dX8_count_3 : decode cX8_count 3 = .ok (.bipush 9, 2) := by decide +kernel
theorem dX8_count_5 : decode cX8_count 5 = .ok (.invokestatic 72, 3) := by decide +kernel
theorem dX8_count_8 : decode cX8_count 8 = .ok (.ifCond .eq 13, 3) := by decide +kernel
theorem dX8_count_11 : decode cX8_count 11 = .ok (.aload_n 0, 1) := by decide +kernel
theorem dX8_count_12 : decode cX8_count 12 = .ok (.getfield 7, 3) := by decide +kernel
theorem dX8_count_15 : decode cX8_count 15 = .ok (.iload_n 1, 1) := by decide +kernel
theorem dX8_count_16 : decode cX8_count 16 = .ok (.bipush 7, 2) := by decide +kernel
theorem dX8_count_18 : decode cX8_count 18 = .ok (.isub, 1) := by decide +kernel
theorem dX8_count_19 : decode cX8_count 19 = .ok (.iaload, 1) := by decide +kernel
theorem dX8_count_20 : decode cX8_count 20 = .ok (.ireturn, 1) := by decide +kernel
theorem dX8_count_21 : decode cX8_count 21 = .ok (.aload_n 0, 1) := by decide +kernel
theorem dX8_count_22 : decode cX8_count 22 = .ok (.invokevirtual 129, 3) := by decide +kernel
theorem dX8_count_25 : decode cX8_count 25 = .ok (.istore_n 2, 1) := by decide +kernel
theorem dX8_count_26 : decode cX8_count 26 = .ok (.iload_n 1, 1) := by decide +kernel
theorem dX8_count_27 : decode cX8_count 27 = .ok (.tableswitch 116 0 5 #[37, 39, 53, 69, 90, 111], 37) := by decide +kernel
theorem dX8_count_64 : decode cX8_count 64 = .ok (.iload_n 2, 1) := by decide +kernel
theorem dX8_count_65 : decode cX8_count 65 = .ok (.ireturn, 1) := by decide +kernel
theorem dX8_count_66 : decode cX8_count 66 = .ok (.aload_n 0, 1) := by decide +kernel
theorem dX8_count_67 : decode cX8_count 67 = .ok (.getfield 47, 3) := by decide +kernel
theorem dX8_count_70 : decode cX8_count 70 = .ok (.iconst 0, 1) := by decide +kernel
theorem dX8_count_71 : decode cX8_count 71 = .ok (.iaload, 1) := by decide +kernel
theorem dX8_count_72 : decode cX8_count 72 = .ok (.aload_n 0, 1) := by decide +kernel
theorem dX8_count_73 : decode cX8_count 73 = .ok (.getfield 47, 3) := by decide +kernel
theorem dX8_count_76 : decode cX8_count 76 = .ok (.iconst 1, 1) := by decide +kernel
theorem dX8_count_77 : decode cX8_count 77 = .ok (.iaload, 1) := by decide +kernel
theorem dX8_count_78 : decode cX8_count 78 = .ok (.iadd, 1) := by decide +kernel
theorem dX8_count_79 : decode cX8_count 79 = .ok (.ireturn, 1) := by decide +kernel
theorem dX8_count_80 : decode cX8_count 80 = .ok (.iload_n 2, 1) := by decide +kernel
theorem dX8_count_81 : decode cX8_count 81 = .ok (.aload_n 0, 1) := by decide +kernel
theorem dX8_count_82 : decode cX8_count 82 = .ok (.getfield 47, 3) := by decide +kernel
theorem dX8_count_85 : decode cX8_count 85 = .ok (.iconst 0, 1) := by decide +kernel
theorem dX8_count_86 : decode cX8_count 86 = .ok (.iaload, 1) := by decide +kernel
theorem dX8_count_87 : decode cX8_count 87 = .ok (.isub, 1) := by decide +kernel
theorem dX8_count_88 : decode cX8_count 88 = .ok (.aload_n 0, 1) := by decide +kernel
theorem dX8_count_89 : decode cX8_count 89 = .ok (.getfield 47, 3) := by decide +kernel
theorem dX8_count_92 : decode cX8_count 92 = .ok (.iconst 1, 1) := by decide +kernel
theorem dX8_count_93 : decode cX8_count 93 = .ok (.iaload, 1) := by decide +kernel
theorem dX8_count_94 : decode cX8_count 94 = .ok (.isub, 1) := by decide +kernel
theorem dX8_count_95 : decode cX8_count 95 = .ok (.ireturn, 1) := by decide +kernel
theorem dX8_count_96 : decode cX8_count 96 = .ok (.aload_n 0, 1) := by decide +kernel
theorem dX8_count_97 : decode cX8_count 97 = .ok (.iconst 0, 1) := by decide +kernel
theorem dX8_count_98 : decode cX8_count 98 = .ok (.iconst 0, 1) := by decide +kernel
theorem dX8_count_99 : decode cX8_count 99 = .ok (.invokevirtual 172, 3) := by decide +kernel
theorem dX8_count_102 : decode cX8_count 102 = .ok (.aload_n 0, 1) := by decide +kernel
theorem dX8_count_103 : decode cX8_count 103 = .ok (.iconst 1, 1) := by decide +kernel
theorem dX8_count_104 : decode cX8_count 104 = .ok (.iconst 0, 1) := by decide +kernel
theorem dX8_count_105 : decode cX8_count 105 = .ok (.invokevirtual 172, 3) := by decide +kernel
theorem dX8_count_108 : decode cX8_count 108 = .ok (.iadd, 1) := by decide +kernel
theorem dX8_count_109 : decode cX8_count 109 = .ok (.aload_n 0, 1) := by decide +kernel
theorem dX8_count_110 : decode cX8_count 110 = .ok (.getfield 7, 3) := by decide +kernel
theorem dX8_count_113 : decode cX8_count 113 = .ok (.iconst 1, 1) := by decide +kernel
theorem dX8_count_114 : decode cX8_count 114 = .ok (.iaload, 1) := by decide +kernel
theorem dX8_count_115 : decode cX8_count 115 = .ok (.imul, 1) := by decide +kernel
theorem dX8_count_116 : decode cX8_count 116 = .ok (.ireturn, 1) := by decide +kernel
theorem dX8_count_117 : decode cX8_count 117 = .ok (.aload_n 0, 1) := by decide +kernel
theorem dX8_count_118 : decode cX8_count 118 = .ok (.iconst 0, 1) := by decide +kernel
theorem dX8_count_119 : decode cX8_count 119 = .ok (.iconst 1, 1) := by decide +kernel
theorem dX8_count_120 : decode cX8_count 120 = .ok (.invokevirtual 172, 3) := by decide +kernel
theorem dX8_count_123 : decode cX8_count 123 = .ok (.aload_n 0, 1) := by decide +kernel
theorem dX8_count_124 : decode cX8_count 124 = .ok (.iconst 1, 1) := by decide +kernel
theorem dX8_count_125 : decode cX8_count 125 = .ok (.iconst 1, 1) := by decide +kernel
theorem dX8_count_126 : decode cX8_count 126 = .ok (.invokevirtual 172, 3) := by decide +kernel
theorem dX8_count_129 : decode cX8_count 129 = .ok (.iadd, 1) := by decide +kernel
theorem dX8_count_130 : decode cX8_count 130 = .ok (.aload_n 0, 1) := by decide +kernel
theorem dX8_count_131 : decode cX8_count 131 = .ok (.getfield 7, 3) := by decide +kernel
theorem dX8_count_134 : decode cX8_count 134 = .ok (.iconst 2, 1) := by decide +kernel
theorem dX8_count_135 : decode cX8_count 135 = .ok (.iaload, 1) := by decide +kernel
theorem dX8_count_136 : decode cX8_count 136 = .ok (.imul, 1) := by decide +kernel
theorem dX8_count_137 : decode cX8_count 137 = .ok (.ireturn, 1) := by decide +kernel
theorem dX8_count_138 : decode cX8_count 138 = .ok (.aload_n 0, 1) := by decide +kernel
theorem dX8_count_139 : decode cX8_count 139 = .ok (.getfield 86, 3) := by decide +kernel
theorem dX8_count_142 : decode cX8_count 142 = .ok (.ireturn, 1) := by decide +kernel
theorem dX8_count_143 : decode cX8_count 143 = .ok (.iload_n 1, 1) := by decide +kernel
theorem dX8_count_144 : decode cX8_count 144 = .ok (.bipush 6, 2) := by decide +kernel
theorem dX8_count_146 : decode cX8_count 146 = .ok (.if_icmp .ne 10, 3) := by decide +kernel
theorem dX8_count_149 : decode cX8_count 149 = .ok (.aload_n 0, 1) := by decide +kernel
theorem dX8_count_150 : decode cX8_count 150 = .ok (.getfield 68, 3) := by decide +kernel
theorem dX8_count_153 : decode cX8_count 153 = .ok (.goto 5, 3) := by decide +kernel
theorem dX8_count_156 : decode cX8_count 156 = .ok (.bipush (-2), 2) := by decide +kernel
theorem dX8_count_158 : decode cX8_count 158 = .ok (.ireturn, 1) := by decide +kernel
theorem dX8_alone_0 : decode cX8_alone 0 = .ok (.iload_n 1, 1) := by decide +kernel
theorem dX8_alone_1 : decode cX8_alone 1 = .ok (.invokestatic 79, 3) := by decide +kernel
theorem dX8_alone_4 : decode cX8_alone 4 = .ok (.ifCond .eq 19, 3) := by decide +kernel
theorem dX8_alone_7 : decode cX8_alone 7 = .ok (.aload_n 0, 1) := by decide +kernel
theorem dX8_alone_8 : decode cX8_alone 8 = .ok (.aload_n 0, 1) := by decide +kernel
theorem dX8_alone_9 : decode cX8_alone 9 = .ok (.getfield 7, 3) := by decide +kernel
theorem dX8_alone_12 : decode cX8_alone 12 = .ok (.iconst 0, 1) := by decide +kernel
theorem dX8_alone_13 : decode cX8_alone 13 = .ok (.iaload, 1) := by decide +kernel
theorem dX8_alone_14 : decode cX8_alone 14 = .ok (.bipush (-6), 2) := by decide +kernel
theorem dX8_alone_16 : decode cX8_alone 16 = .ok (.iload_n 1, 1) := by decide +kernel
theorem dX8_alone_17 : decode cX8_alone 17 = .ok (.invokevirtual 169, 3) := by decide +kernel
theorem dX8_alone_20 : decode cX8_alone 20 = .ok (.goto 4, 3) := by decide +kernel
theorem dX8_alone_23 : decode cX8_alone 23 = .ok (.iconst (-1), 1) := by decide +kernel
theorem dX8_alone_24 : decode cX8_alone 24 = .ok (.ireturn, 1) := by decide +kernel
theorem dX8_lengthWith_0 : decode cX8_lengthWith 0 = .ok (.iload_n 1, 1) := by decide +kernel
theorem dX8_lengthWith_1 : decode cX8_lengthWith 1 = .ok (.iconst 0, 1) := by decide +kernel
theorem dX8_lengthWith_2 : decode cX8_lengthWith 2 = .ok (.iconst 2, 1) := by decide +kernel
theorem dX8_lengthWith_3 : decode cX8_lengthWith 3 = .ok (.invokestatic 72, 3) := by decide +kernel
theorem dX8_lengthWith_6 : decode cX8_lengthWith 6 = .ok (.ifCond .eq 15, 3) := by decide +kernel
theorem dX8_lengthWith_9 : decode cX8_lengthWith 9 = .ok (.aload_n 0, 1) := by decide +kernel
theorem dX8_lengthWith_10 : decode cX8_lengthWith 10 = .ok (.iload_n 1, 1) := by decide +kernel
theorem dX8_lengthWith_11 : decode cX8_lengthWith 11 = .ok (.bipush (-6), 2) := by decide +kernel
theorem dX8_lengthWith_13 : decode cX8_lengthWith 13 = .ok (.bipush (-6), 2) := by decide +kernel
theorem dX8_lengthWith_15 : decode cX8_lengthWith 15 = .ok (.invokevirtual 169, 3) := by decide +kernel
theorem dX8_lengthWith_18 : decode cX8_lengthWith 18 = .ok (.goto 5, 3) := by decide +kernel
theorem dX8_lengthWith_21 : decode cX8_lengthWith 21 = .ok (.bipush (-2), 2) := by decide +kernel
theorem dX8_lengthWith_23 : decode cX8_lengthWith 23 = .ok (.ireturn, 1) := by decide +kernel
theorem dX8_bestTurns_0 : decode cX8_bestTurns 0 = .ok (.iconst 0, 1) := by decide +kernel
theorem dX8_bestTurns_1 : decode cX8_bestTurns 1 = .ok (.istore_n 1, 1) := by decide +kernel
theorem dX8_bestTurns_2 : decode cX8_bestTurns 2 = .ok (.aload_n 0, 1) := by decide +kernel
theorem dX8_bestTurns_3 : decode cX8_bestTurns 3 = .ok (.iconst 0, 1) := by decide +kernel
theorem dX8_bestTurns_4 : decode cX8_bestTurns 4 = .ok (.bipush (-6), 2) := by decide +kernel
theorem dX8_bestTurns_6 : decode cX8_bestTurns 6 = .ok (.bipush (-6), 2) := by decide +kernel
theorem dX8_bestTurns_8 : decode cX8_bestTurns 8 = .ok (.invokevirtual 169, 3) := by decide +kernel
theorem dX8_bestTurns_11 : decode cX8_bestTurns 11 = .ok (.istore_n 2, 1) := by decide +kernel
theorem dX8_bestTurns_12 : decode cX8_bestTurns 12 = .ok (.iconst 1, 1) := by decide +kernel
theorem dX8_bestTurns_13 : decode cX8_bestTurns 13 = .ok (.istore_n 3, 1) := by decide +kernel
theorem dX8_bestTurns_14 : decode cX8_bestTurns 14 = .ok (.iload_n 3, 1) := by decide +kernel
theorem dX8_bestTurns_15 : decode cX8_bestTurns 15 = .ok (.iconst 3, 1) := by decide +kernel
theorem dX8_bestTurns_16 : decode cX8_bestTurns 16 = .ok (.if_icmp .ge 45, 3) := by decide +kernel
theorem dX8_bestTurns_19 : decode cX8_bestTurns 19 = .ok (.aload_n 0, 1) := by decide +kernel
theorem dX8_bestTurns_20 : decode cX8_bestTurns 20 = .ok (.iload_n 3, 1) := by decide +kernel
theorem dX8_bestTurns_21 : decode cX8_bestTurns 21 = .ok (.bipush (-6), 2) := by decide +kernel
theorem dX8_bestTurns_23 : decode cX8_bestTurns 23 = .ok (.bipush (-6), 2) := by decide +kernel
theorem dX8_bestTurns_25 : decode cX8_bestTurns 25 = .ok (.invokevirtual 169, 3) := by decide +kernel
theorem dX8_bestTurns_28 : decode cX8_bestTurns 28 = .ok (.istore 4, 2) := by decide +kernel
theorem dX8_bestTurns_30 : decode cX8_bestTurns 30 = .ok (.iload 4, 2) := by decide +kernel
theorem dX8_bestTurns_32 : decode cX8_bestTurns 32 = .ok (.iload_n 2, 1) := by decide +kernel
theorem dX8_bestTurns_33 : decode cX8_bestTurns 33 = .ok (.if_icmp .ge 7, 3) := by decide +kernel
theorem dX8_bestTurns_36 : decode cX8_bestTurns 36 = .ok (.iload_n 3, 1) := by decide +kernel
theorem dX8_bestTurns_37 : decode cX8_bestTurns 37 = .ok (.goto 4, 3) := by decide +kernel
theorem dX8_bestTurns_40 : decode cX8_bestTurns 40 = .ok (.iload_n 1, 1) := by decide +kernel
theorem dX8_bestTurns_41 : decode cX8_bestTurns 41 = .ok (.istore_n 1, 1) := by decide +kernel
theorem dX8_bestTurns_42 : decode cX8_bestTurns 42 = .ok (.iload 4, 2) := by decide +kernel
theorem dX8_bestTurns_44 : decode cX8_bestTurns 44 = .ok (.iload_n 2, 1) := by decide +kernel
theorem dX8_bestTurns_45 : decode cX8_bestTurns 45 = .ok (.if_icmp .ge 8, 3) := by decide +kernel
theorem dX8_bestTurns_48 : decode cX8_bestTurns 48 = .ok (.iload 4, 2) := by decide +kernel
theorem dX8_bestTurns_50 : decode cX8_bestTurns 50 = .ok (.goto 4, 3) := by decide +kernel
theorem dX8_bestTurns_53 : decode cX8_bestTurns 53 = .ok (.iload_n 2, 1) := by decide +kernel
theorem dX8_bestTurns_54 : decode cX8_bestTurns 54 = .ok (.istore_n 2, 1) := by decide +kernel
theorem dX8_bestTurns_55 : decode cX8_bestTurns 55 = .ok (.iinc 3 1, 3) := by decide +kernel
theorem dX8_bestTurns_58 : decode cX8_bestTurns 58 = .ok (.goto (-44), 3) := by decide +kernel
theorem dX8_bestTurns_61 : decode cX8_bestTurns 61 = .ok (.iload_n 1, 1) := by decide +kernel
theorem dX8_bestTurns_62 : decode cX8_bestTurns 62 = .ok (.ireturn, 1) := by decide +kernel
theorem dX8_lengthWithout_0 : decode cX8_lengthWithout 0 = .ok (.iload_n 1, 1) := by decide +kernel
theorem dX8_lengthWithout_1 : decode cX8_lengthWithout 1 = .ok (.iconst 0, 1) := by decide +kernel
theorem dX8_lengthWithout_2 : decode cX8_lengthWithout 2 = .ok (.iconst 1, 1) := by decide +kernel
theorem dX8_lengthWithout_3 : decode cX8_lengthWithout 3 = .ok (.invokestatic 72, 3) := by decide +kernel
theorem dX8_lengthWithout_6 : decode cX8_lengthWithout 6 = .ok (.ifCond .eq 19, 3) := by decide +kernel
theorem dX8_lengthWithout_9 : decode cX8_lengthWithout 9 = .ok (.aload_n 0, 1) := by decide +kernel
theorem dX8_lengthWithout_10 : decode cX8_lengthWithout 10 = .ok (.aload_n 0, 1) := by decide +kernel
theorem dX8_lengthWithout_11 : decode cX8_lengthWithout 11 = .ok (.getfield 7, 3) := by decide +kernel
theorem dX8_lengthWithout_14 : decode cX8_lengthWithout 14 = .ok (.iconst 0, 1) := by decide +kernel
theorem dX8_lengthWithout_15 : decode cX8_lengthWithout 15 = .ok (.iaload, 1) := by decide +kernel
theorem dX8_lengthWithout_16 : decode cX8_lengthWithout 16 = .ok (.iload_n 1, 1) := by decide +kernel
theorem dX8_lengthWithout_17 : decode cX8_lengthWithout 17 = .ok (.bipush (-6), 2) := by decide +kernel
theorem dX8_lengthWithout_19 : decode cX8_lengthWithout 19 = .ok (.invokevirtual 169, 3) := by decide +kernel
theorem dX8_lengthWithout_22 : decode cX8_lengthWithout 22 = .ok (.goto 5, 3) := by decide +kernel
theorem dX8_lengthWithout_25 : decode cX8_lengthWithout 25 = .ok (.bipush (-2), 2) := by decide +kernel
theorem dX8_lengthWithout_27 : decode cX8_lengthWithout 27 = .ok (.ireturn, 1) := by decide +kernel
theorem dX8_isFixed_0 : decode cX8_isFixed 0 = .ok (.aload_n 0, 1) := by decide +kernel
theorem dX8_isFixed_1 : decode cX8_isFixed 1 = .ok (.iload_n 1, 1) := by decide +kernel
theorem dX8_isFixed_2 : decode cX8_isFixed 2 = .ok (.iload_n 2, 1) := by decide +kernel
theorem dX8_isFixed_3 : decode cX8_isFixed 3 = .ok (.iconst 0, 1) := by decide +kernel
theorem dX8_isFixed_4 : decode cX8_isFixed 4 = .ok (.invokevirtual 132, 3) := by decide +kernel
theorem dX8_isFixed_7 : decode cX8_isFixed 7 = .ok (.bipush 6, 2) := by decide +kernel
theorem dX8_isFixed_9 : decode cX8_isFixed 9 = .ok (.if_icmp .ne 7, 3) := by decide +kernel
theorem dX8_isFixed_12 : decode cX8_isFixed 12 = .ok (.iconst 1, 1) := by decide +kernel
theorem dX8_isFixed_13 : decode cX8_isFixed 13 = .ok (.goto 4, 3) := by decide +kernel
theorem dX8_isFixed_16 : decode cX8_isFixed 16 = .ok (.iconst 0, 1) := by decide +kernel
theorem dX8_isFixed_17 : decode cX8_isFixed 17 = .ok (.istore_n 3, 1) := by decide +kernel
theorem dX8_isFixed_18 : decode cX8_isFixed 18 = .ok (.iconst 0, 1) := by decide +kernel
theorem dX8_isFixed_19 : decode cX8_isFixed 19 = .ok (.istore 4, 2) := by decide +kernel
theorem dX8_isFixed_21 : decode cX8_isFixed 21 = .ok (.iload 4, 2) := by decide +kernel
theorem dX8_isFixed_23 : decode cX8_isFixed 23 = .ok (.aload_n 0, 1) := by decide +kernel
theorem dX8_isFixed_24 : decode cX8_isFixed 24 = .ok (.iload_n 1, 1) := by decide +kernel
theorem dX8_isFixed_25 : decode cX8_isFixed 25 = .ok (.invokevirtual 125, 3) := by decide +kernel
theorem dX8_isFixed_28 : decode cX8_isFixed 28 = .ok (.if_icmp .ge 44, 3) := by decide +kernel
theorem dX8_isFixed_31 : decode cX8_isFixed 31 = .ok (.iload_n 3, 1) := by decide +kernel
theorem dX8_isFixed_32 : decode cX8_isFixed 32 = .ok (.ifCond .ne 28, 3) := by decide +kernel
theorem dX8_isFixed_35 : decode cX8_isFixed 35 = .ok (.aload_n 0, 1) := by decide +kernel
theorem dX8_isFixed_36 : decode cX8_isFixed 36 = .ok (.iload_n 1, 1) := by decide +kernel
theorem dX8_isFixed_37 : decode cX8_isFixed 37 = .ok (.iload 4, 2) := by decide +kernel
theorem dX8_isFixed_39 : decode cX8_isFixed 39 = .ok (.iconst 0, 1) := by decide +kernel
theorem dX8_isFixed_40 : decode cX8_isFixed 40 = .ok (.invokevirtual 132, 3) := by decide +kernel
theorem dX8_isFixed_43 : decode cX8_isFixed 43 = .ok (.bipush 6, 2) := by decide +kernel
theorem dX8_isFixed_45 : decode cX8_isFixed 45 = .ok (.if_icmp .ne 19, 3) := by decide +kernel
theorem dX8_isFixed_48 : decode cX8_isFixed 48 = .ok (.aload_n 0, 1) := by decide +kernel
theorem dX8_isFixed_49 : decode cX8_isFixed 49 = .ok (.iload_n 1, 1) := by decide +kernel
theorem dX8_isFixed_50 : decode cX8_isFixed 50 = .ok (.iload 4, 2) := by decide +kernel
theorem dX8_isFixed_52 : decode cX8_isFixed 52 = .ok (.iconst 4, 1) := by decide +kernel
theorem dX8_isFixed_53 : decode cX8_isFixed 53 = .ok (.invokevirtual 132, 3) := by decide +kernel
theorem dX8_isFixed_56 : decode cX8_isFixed 56 = .ok (.iload_n 2, 1) := by decide +kernel
theorem dX8_isFixed_57 : decode cX8_isFixed 57 = .ok (.if_icmp .ne 7, 3) := by decide +kernel
theorem dX8_isFixed_60 : decode cX8_isFixed 60 = .ok (.iconst 1, 1) := by decide +kernel
theorem dX8_isFixed_61 : decode cX8_isFixed 61 = .ok (.goto 4, 3) := by decide +kernel
theorem dX8_isFixed_64 : decode cX8_isFixed 64 = .ok (.iconst 0, 1) := by decide +kernel
theorem dX8_isFixed_65 : decode cX8_isFixed 65 = .ok (.istore_n 3, 1) := by decide +kernel
theorem dX8_isFixed_66 : decode cX8_isFixed 66 = .ok (.iinc 4 1, 3) := by decide +kernel
theorem dX8_isFixed_69 : decode cX8_isFixed 69 = .ok (.goto (-48), 3) := by decide +kernel
theorem dX8_isFixed_72 : decode cX8_isFixed 72 = .ok (.iload_n 3, 1) := by decide +kernel
theorem dX8_isFixed_73 : decode cX8_isFixed 73 = .ok (.ireturn, 1) := by decide +kernel
theorem dX8_swap_0 : decode cX8_swap 0 = .ok (.bipush 10, 2) := by decide +kernel
theorem dX8_swap_2 : decode cX8_swap 2 = .ok (.bipush 100, 2) := by decide +kernel
theorem dX8_swap_4 : decode cX8_swap 4 = .ok (.iload_n 1, 1) := by decide +kernel
theorem dX8_swap_5 : decode cX8_swap 5 = .ok (.imul, 1) := by decide +kernel
theorem dX8_swap_6 : decode cX8_swap 6 = .ok (.iadd, 1) := by decide +kernel
theorem dX8_swap_7 : decode cX8_swap 7 = .ok (.iconst 1, 1) := by decide +kernel
theorem dX8_swap_8 : decode cX8_swap 8 = .ok (.iadd, 1) := by decide +kernel
theorem dX8_swap_9 : decode cX8_swap 9 = .ok (.iconst 5, 1) := by decide +kernel
theorem dX8_swap_10 : decode cX8_swap 10 = .ok (.iload_n 2, 1) := by decide +kernel
theorem dX8_swap_11 : decode cX8_swap 11 = .ok (.imul, 1) := by decide +kernel
theorem dX8_swap_12 : decode cX8_swap 12 = .ok (.iadd, 1) := by decide +kernel
theorem dX8_swap_13 : decode cX8_swap 13 = .ok (.istore_n 3, 1) := by decide +kernel
theorem dX8_swap_14 : decode cX8_swap 14 = .ok (.iload_n 3, 1) := by decide +kernel
theorem dX8_swap_15 : decode cX8_swap 15 = .ok (.istore 4, 2) := by decide +kernel
theorem dX8_swap_17 : decode cX8_swap 17 = .ok (.iload 4, 2) := by decide +kernel
theorem dX8_swap_19 : decode cX8_swap 19 = .ok (.iload_n 3, 1) := by decide +kernel
theorem dX8_swap_20 : decode cX8_swap 20 = .ok (.iconst 5, 1) := by decide +kernel
theorem dX8_swap_21 : decode cX8_swap 21 = .ok (.iadd, 1) := by decide +kernel
theorem dX8_swap_22 : decode cX8_swap 22 = .ok (.if_icmp .ge 45, 3) := by decide +kernel
theorem dX8_swap_25 : decode cX8_swap 25 = .ok (.aload_n 0, 1) := by decide +kernel
theorem dX8_swap_26 : decode cX8_swap 26 = .ok (.getfield 7, 3) := by decide +kernel
theorem dX8_swap_29 : decode cX8_swap 29 = .ok (.iload 4, 2) := by decide +kernel
theorem dX8_swap_31 : decode cX8_swap 31 = .ok (.iaload, 1) := by decide +kernel
theorem dX8_swap_32 : decode cX8_swap 32 = .ok (.istore 5, 2) := by decide +kernel
theorem dX8_swap_34 : decode cX8_swap 34 = .ok (.aload_n 0, 1) := by decide +kernel
theorem dX8_swap_35 : decode cX8_swap 35 = .ok (.getfield 7, 3) := by decide +kernel
theorem dX8_swap_38 : decode cX8_swap 38 = .ok (.iload 4, 2) := by decide +kernel
theorem dX8_swap_40 : decode cX8_swap 40 = .ok (.aload_n 0, 1) := by decide +kernel
theorem dX8_swap_41 : decode cX8_swap 41 = .ok (.getfield 7, 3) := by decide +kernel
theorem dX8_swap_44 : decode cX8_swap 44 = .ok (.iload 4, 2) := by decide +kernel
theorem dX8_swap_46 : decode cX8_swap 46 = .ok (.iconst 5, 1) := by decide +kernel
theorem dX8_swap_47 : decode cX8_swap 47 = .ok (.iadd, 1) := by decide +kernel
theorem dX8_swap_48 : decode cX8_swap 48 = .ok (.iaload, 1) := by decide +kernel
theorem dX8_swap_49 : decode cX8_swap 49 = .ok (.iastore, 1) := by decide +kernel
theorem dX8_swap_50 : decode cX8_swap 50 = .ok (.aload_n 0, 1) := by decide +kernel
theorem dX8_swap_51 : decode cX8_swap 51 = .ok (.getfield 7, 3) := by decide +kernel
theorem dX8_swap_54 : decode cX8_swap 54 = .ok (.iload 4, 2) := by decide +kernel
theorem dX8_swap_56 : decode cX8_swap 56 = .ok (.iconst 5, 1) := by decide +kernel
theorem dX8_swap_57 : decode cX8_swap 57 = .ok (.iadd, 1) := by decide +kernel
theorem dX8_swap_58 : decode cX8_swap 58 = .ok (.iload 5, 2) := by decide +kernel
theorem dX8_swap_60 : decode cX8_swap 60 = .ok (.iastore, 1) := by decide +kernel
theorem dX8_swap_61 : decode cX8_swap 61 = .ok (.iinc 4 1, 3) := by decide +kernel
theorem dX8_swap_64 : decode cX8_swap 64 = .ok (.goto (-47), 3) := by decide +kernel
theorem dX8_swap_67 : decode cX8_swap 67 = .ok (.return_, 1) := by decide +kernel
theorem dX8_areValuesSame_0 : decode cX8_areValuesSame 0 = .ok (.iconst 1, 1) := by decide +kernel
theorem dX8_areValuesSame_1 : decode cX8_areValuesSame 1 = .ok (.istore_n 1, 1) := by decide +kernel
theorem dX8_areValuesSame_2 : decode cX8_areValuesSame 2 = .ok (.iconst 0, 1) := by decide +kernel
theorem dX8_areValuesSame_3 : decode cX8_areValuesSame 3 = .ok (.istore_n 2, 1) := by decide +kernel
theorem dX8_areValuesSame_4 : decode cX8_areValuesSame 4 = .ok (.iload_n 2, 1) := by decide +kernel
theorem dX8_areValuesSame_5 : decode cX8_areValuesSame 5 = .ok (.bipush 24, 2) := by decide +kernel
theorem dX8_areValuesSame_7 : decode cX8_areValuesSame 7 = .ok (.if_icmp .ge 34, 3) := by decide +kernel
theorem dX8_areValuesSame_10 : decode cX8_areValuesSame 10 = .ok (.iload_n 1, 1) := by decide +kernel
theorem dX8_areValuesSame_11 : decode cX8_areValuesSame 11 = .ok (.ifCond .eq 22, 3) := by decide +kernel
theorem dX8_areValuesSame_14 : decode cX8_areValuesSame 14 = .ok (.aload_n 0, 1) := by decide +kernel
theorem dX8_areValuesSame_15 : decode cX8_areValuesSame 15 = .ok (.getfield 29, 3) := by decide +kernel
theorem dX8_areValuesSame_18 : decode cX8_areValuesSame 18 = .ok (.iload_n 2, 1) := by decide +kernel
theorem dX8_areValuesSame_19 : decode cX8_areValuesSame 19 = .ok (.iaload, 1) := by decide +kernel
theorem dX8_areValuesSame_20 : decode cX8_areValuesSame 20 = .ok (.aload_n 0, 1) := by decide +kernel
theorem dX8_areValuesSame_21 : decode cX8_areValuesSame 21 = .ok (.getfield 65, 3) := by decide +kernel
theorem dX8_areValuesSame_24 : decode cX8_areValuesSame 24 = .ok (.iload_n 2, 1) := by decide +kernel
theorem dX8_areValuesSame_25 : decode cX8_areValuesSame 25 = .ok (.iaload, 1) := by decide +kernel
theorem dX8_areValuesSame_26 : decode cX8_areValuesSame 26 = .ok (.if_icmp .ne 7, 3) := by decide +kernel
theorem dX8_areValuesSame_29 : decode cX8_areValuesSame 29 = .ok (.iconst 1, 1) := by decide +kernel
theorem dX8_areValuesSame_30 : decode cX8_areValuesSame 30 = .ok (.goto 4, 3) := by decide +kernel
theorem dX8_areValuesSame_33 : decode cX8_areValuesSame 33 = .ok (.iconst 0, 1) := by decide +kernel
theorem dX8_areValuesSame_34 : decode cX8_areValuesSame 34 = .ok (.istore_n 1, 1) := by decide +kernel
theorem dX8_areValuesSame_35 : decode cX8_areValuesSame 35 = .ok (.iinc 2 1, 3) := by decide +kernel
theorem dX8_areValuesSame_38 : decode cX8_areValuesSame 38 = .ok (.goto (-34), 3) := by decide +kernel
theorem dX8_areValuesSame_41 : decode cX8_areValuesSame 41 = .ok (.iload_n 1, 1) := by decide +kernel
theorem dX8_areValuesSame_42 : decode cX8_areValuesSame 42 = .ok (.ireturn, 1) := by decide +kernel
theorem dX8_bestExchange_0 : decode cX8_bestExchange 0 = .ok (.iload_n 1, 1) := by decide +kernel
theorem dX8_bestExchange_1 : decode cX8_bestExchange 1 = .ok (.invokestatic 79, 3) := by decide +kernel
theorem dX8_bestExchange_4 : decode cX8_bestExchange 4 = .ok (.ifCond .ne 5, 3) := by decide +kernel
theorem dX8_bestExchange_7 : decode cX8_bestExchange 7 = .ok (.iconst (-1), 1) := by decide +kernel
theorem dX8_bestExchange_8 : decode cX8_bestExchange 8 = .ok (.ireturn, 1) := by decide +kernel
theorem dX8_bestExchange_9 : decode cX8_bestExchange 9 = .ok (.iload_n 2, 1) := by decide +kernel
theorem dX8_bestExchange_10 : decode cX8_bestExchange 10 = .ok (.iconst 0, 1) := by decide +kernel
theorem dX8_bestExchange_11 : decode cX8_bestExchange 11 = .ok (.iconst 1, 1) := by decide +kernel
theorem dX8_bestExchange_12 : decode cX8_bestExchange 12 = .ok (.invokestatic 72, 3) := by decide +kernel
theorem dX8_bestExchange_15 : decode cX8_bestExchange 15 = .ok (.ifCond .ne 6, 3) := by decide +kernel
theorem dX8_bestExchange_18 : decode cX8_bestExchange 18 = .ok (.bipush (-2), 2) := by decide +kernel
theorem dX8_bestExchange_20 : decode cX8_bestExchange 20 = .ok (.ireturn, 1) := by decide +kernel
theorem dX8_bestExchange_21 : decode cX8_bestExchange 21 = .ok (.aload_n 0, 1) := by decide +kernel
theorem dX8_bestExchange_22 : decode cX8_bestExchange 22 = .ok (.invokevirtual 129, 3) := by decide +kernel
theorem dX8_bestExchange_25 : decode cX8_bestExchange 25 = .ok (.istore_n 3, 1) := by decide +kernel
theorem dX8_bestExchange_26 : decode cX8_bestExchange 26 = .ok (.bipush (-6), 2) := by decide +kernel
theorem dX8_bestExchange_28 : decode cX8_bestExchange 28 = .ok (.istore 4, 2) := by decide +kernel
theorem dX8_bestExchange_30 : decode cX8_bestExchange 30 = .ok (.iconst 0, 1) := by decide +kernel
theorem dX8_bestExchange_31 : decode cX8_bestExchange 31 = .ok (.istore 5, 2) := by decide +kernel
theorem dX8_bestExchange_33 : decode cX8_bestExchange 33 = .ok (.iload 5, 2) := by decide +kernel
theorem dX8_bestExchange_35 : decode cX8_bestExchange 35 = .ok (.bipush 24, 2) := by decide +kernel
theorem dX8_bestExchange_37 : decode cX8_bestExchange 37 = .ok (.if_icmp .ge 23, 3) := by decide +kernel
theorem dX8_bestExchange_40 : decode cX8_bestExchange 40 = .ok (.aload_n 0, 1) := by decide +kernel
theorem dX8_bestExchange_41 : decode cX8_bestExchange 41 = .ok (.getfield 65, 3) := by decide +kernel
theorem dX8_bestExchange_44 : decode cX8_bestExchange 44 = .ok (.iload 5, 2) := by decide +kernel
theorem dX8_bestExchange_46 : decode cX8_bestExchange 46 = .ok (.aload_n 0, 1) := by decide +kernel
theorem dX8_bestExchange_47 : decode cX8_bestExchange 47 = .ok (.getfield 29, 3) := by decide +kernel
theorem dX8_bestExchange_50 : decode cX8_bestExchange 50 = .ok (.iload 5, 2) := by decide +kernel
theorem dX8_bestExchange_52 : decode cX8_bestExchange 52 = .ok (.iaload, 1) := by decide +kernel
theorem dX8_bestExchange_53 : decode cX8_bestExchange 53 = .ok (.iastore, 1) := by decide +kernel
theorem dX8_bestExchange_54 : decode cX8_bestExchange 54 = .ok (.iinc 5 1, 3) := by decide +kernel
theorem dX8_bestExchange_57 : decode cX8_bestExchange 57 = .ok (.goto (-24), 3) := by decide +kernel
theorem dX8_bestExchange_60 : decode cX8_bestExchange 60 = .ok (.iconst 0, 1) := by decide +kernel
theorem dX8_bestExchange_61 : decode cX8_bestExchange 61 = .ok (.istore 5, 2) := by decide +kernel
theorem dX8_bestExchange_63 : decode cX8_bestExchange 63 = .ok (.iload 5, 2) := by decide +kernel
theorem dX8_bestExchange_65 : decode cX8_bestExchange 65 = .ok (.iconst 1, 1) := by decide +kernel
theorem dX8_bestExchange_66 : decode cX8_bestExchange 66 = .ok (.iadd, 1) := by decide +kernel
theorem dX8_bestExchange_67 : decode cX8_bestExchange 67 = .ok (.aload_n 0, 1) := by decide +kernel
theorem dX8_bestExchange_68 : decode cX8_bestExchange 68 = .ok (.iload_n 1, 1) := by decide +kernel
theorem dX8_bestExchange_69 : decode cX8_bestExchange 69 = .ok (.invokevirtual 125, 3) := by decide +kernel
theorem dX8_bestExchange_72 : decode cX8_bestExchange 72 = .ok (.if_icmp .ge 97, 3) := by decide +kernel
theorem dX8_bestExchange_75 : decode cX8_bestExchange 75 = .ok (.aload_n 0, 1) := by decide +kernel
theorem dX8_bestExchange_76 : decode cX8_bestExchange 76 = .ok (.iload_n 1, 1) := by decide +kernel
theorem dX8_bestExchange_77 : decode cX8_bestExchange 77 = .ok (.iload 5, 2) := by decide +kernel
theorem dX8_bestExchange_79 : decode cX8_bestExchange 79 = .ok (.invokevirtual 175, 3) := by decide +kernel
theorem dX8_bestExchange_82 : decode cX8_bestExchange 82 = .ok (.ifCond .ne 81, 3) := by decide +kernel
theorem dX8_bestExchange_85 : decode cX8_bestExchange 85 = .ok (.aload_n 0, 1) := by decide +kernel
theorem dX8_bestExchange_86 : decode cX8_bestExchange 86 = .ok (.iload_n 1, 1) := by decide +kernel
theorem dX8_bestExchange_87 : decode cX8_bestExchange 87 = .ok (.iload 5, 2) := by decide +kernel
theorem dX8_bestExchange_89 : decode cX8_bestExchange 89 = .ok (.iconst 1, 1) := by decide +kernel
theorem dX8_bestExchange_90 : decode cX8_bestExchange 90 = .ok (.iadd, 1) := by decide +kernel
theorem dX8_bestExchange_91 : decode cX8_bestExchange 91 = .ok (.invokevirtual 175, 3) := by decide +kernel
theorem dX8_bestExchange_94 : decode cX8_bestExchange 94 = .ok (.ifCond .ne 69, 3) := by decide +kernel
theorem dX8_bestExchange_97 : decode cX8_bestExchange 97 = .ok (.aload_n 0, 1) := by decide +kernel
theorem dX8_bestExchange_98 : decode cX8_bestExchange 98 = .ok (.iload_n 1, 1) := by decide +kernel
theorem dX8_bestExchange_99 : decode cX8_bestExchange 99 = .ok (.iload 5, 2) := by decide +kernel
theorem dX8_bestExchange_101 : decode cX8_bestExchange 101 = .ok (.invokevirtual 178, 3) := by decide +kernel
theorem dX8_bestExchange_104 : decode cX8_bestExchange 104 = .ok (.aload_n 0, 1) := by decide +kernel
theorem dX8_bestExchange_105 : decode cX8_bestExchange 105 = .ok (.invokevirtual 129, 3) := by decide +kernel
theorem dX8_bestExchange_108 : decode cX8_bestExchange 108 = .ok (.istore 6, 2) := by decide +kernel
theorem dX8_bestExchange_110 : decode cX8_bestExchange 110 = .ok (.iload 6, 2) := by decide +kernel
theorem dX8_bestExchange_112 : decode cX8_bestExchange 112 = .ok (.iload_n 3, 1) := by decide +kernel
theorem dX8_bestExchange_113 : decode cX8_bestExchange 113 = .ok (.if_icmp .ge 14, 3) := by decide +kernel
theorem dX8_bestExchange_116 : decode cX8_bestExchange 116 = .ok (.aload_n 0, 1) := by decide +kernel
theorem dX8_bestExchange_117 : decode cX8_bestExchange 117 = .ok (.invokevirtual 181, 3) := by decide +kernel
theorem dX8_bestExchange_120 : decode cX8_bestExchange 120 = .ok (.ifCond .eq 7, 3) := by decide +kernel
theorem dX8_bestExchange_123 : decode cX8_bestExchange 123 = .ok (.iconst 1, 1) := by decide +kernel
theorem dX8_bestExchange_124 : decode cX8_bestExchange 124 = .ok (.goto 4, 3) := by decide +kernel
theorem dX8_bestExchange_127 : decode cX8_bestExchange 127 = .ok (.iconst 0, 1) := by decide +kernel
theorem dX8_bestExchange_128 : decode cX8_bestExchange 128 = .ok (.istore 7, 2) := by decide +kernel
theorem dX8_bestExchange_130 : decode cX8_bestExchange 130 = .ok (.aload_n 0, 1) := by decide +kernel
theorem dX8_bestExchange_131 : decode cX8_bestExchange 131 = .ok (.iload_n 1, 1) := by decide +kernel
theorem dX8_bestExchange_132 : decode cX8_bestExchange 132 = .ok (.iload 5, 2) := by decide +kernel
theorem dX8_bestExchange_134 : decode cX8_bestExchange 134 = .ok (.invokevirtual 178, 3) := by decide +kernel
theorem dX8_bestExchange_137 : decode cX8_bestExchange 137 = .ok (.iload 7, 2) := by decide +kernel
theorem dX8_bestExchange_139 : decode cX8_bestExchange 139 = .ok (.ifCond .eq 8, 3) := by decide +kernel
theorem dX8_bestExchange_142 : decode cX8_bestExchange 142 = .ok (.iload 5, 2) := by decide +kernel
theorem dX8_bestExchange_144 : decode cX8_bestExchange 144 = .ok (.goto 5, 3) := by decide +kernel
theorem dX8_bestExchange_147 : decode cX8_bestExchange 147 = .ok (.iload 4, 2) := by decide +kernel
theorem dX8_bestExchange_149 : decode cX8_bestExchange 149 = .ok (.istore 4, 2) := by decide +kernel
theorem dX8_bestExchange_151 : decode cX8_bestExchange 151 = .ok (.iload 7, 2) := by decide +kernel
theorem dX8_bestExchange_153 : decode cX8_bestExchange 153 = .ok (.ifCond .eq 8, 3) := by decide +kernel
theorem dX8_bestExchange_156 : decode cX8_bestExchange 156 = .ok (.iload 6, 2) := by decide +kernel
theorem dX8_bestExchange_158 : decode cX8_bestExchange 158 = .ok (.goto 4, 3) := by decide +kernel
theorem dX8_bestExchange_161 : decode cX8_bestExchange 161 = .ok (.iload_n 3, 1) := by decide +kernel
theorem dX8_bestExchange_162 : decode cX8_bestExchange 162 = .ok (.istore_n 3, 1) := by decide +kernel
theorem dX8_bestExchange_163 : decode cX8_bestExchange 163 = .ok (.iinc 5 1, 3) := by decide +kernel
theorem dX8_bestExchange_166 : decode cX8_bestExchange 166 = .ok (.goto (-103), 3) := by decide +kernel
theorem dX8_bestExchange_169 : decode cX8_bestExchange 169 = .ok (.iload 4, 2) := by decide +kernel
theorem dX8_bestExchange_171 : decode cX8_bestExchange 171 = .ok (.ifCond .lt 7, 3) := by decide +kernel
theorem dX8_bestExchange_174 : decode cX8_bestExchange 174 = .ok (.iload_n 2, 1) := by decide +kernel
theorem dX8_bestExchange_175 : decode cX8_bestExchange 175 = .ok (.ifCond .ne 8, 3) := by decide +kernel
theorem dX8_bestExchange_178 : decode cX8_bestExchange 178 = .ok (.iload 4, 2) := by decide +kernel
theorem dX8_bestExchange_180 : decode cX8_bestExchange 180 = .ok (.goto 4, 3) := by decide +kernel
theorem dX8_bestExchange_183 : decode cX8_bestExchange 183 = .ok (.iload_n 3, 1) := by decide +kernel
theorem dX8_bestExchange_184 : decode cX8_bestExchange 184 = .ok (.ireturn, 1) := by decide +kernel
theorem dX8_undo_0 : decode cX8_undo 0 = .ok (.aload_n 0, 1) := by decide +kernel
theorem dX8_undo_1 : decode cX8_undo 1 = .ok (.getfield 68, 3) := by decide +kernel
theorem dX8_undo_4 : decode cX8_undo 4 = .ok (.ifCond .ne 6, 3) := by decide +kernel
theorem dX8_undo_7 : decode cX8_undo 7 = .ok (.bipush (-5), 2) := by decide +kernel
theorem dX8_undo_9 : decode cX8_undo 9 = .ok (.ireturn, 1) := by decide +kernel
theorem dX8_undo_10 : decode cX8_undo 10 = .ok (.aload_n 0, 1) := by decide +kernel
theorem dX8_undo_11 : decode cX8_undo 11 = .ok (.dup, 1) := by decide +kernel
theorem dX8_undo_12 : decode cX8_undo 12 = .ok (.getfield 68, 3) := by decide +kernel
theorem dX8_undo_15 : decode cX8_undo 15 = .ok (.iconst 1, 1) := by decide +kernel
theorem dX8_undo_16 : decode cX8_undo 16 = .ok (.isub, 1) := by decide +kernel
theorem dX8_undo_17 : decode cX8_undo 17 = .ok (.putfield 68, 3) := by decide +kernel
theorem dX8_undo_20 : decode cX8_undo 20 = .ok (.iconst 0, 1) := by decide +kernel
theorem dX8_undo_21 : decode cX8_undo 21 = .ok (.istore_n 1, 1) := by decide +kernel
theorem dX8_undo_22 : decode cX8_undo 22 = .ok (.iload_n 1, 1) := by decide +kernel
theorem dX8_undo_23 : decode cX8_undo 23 = .ok (.sipush 210, 3) := by decide +kernel
theorem dX8_undo_26 : decode cX8_undo 26 = .ok (.if_icmp .ge 30, 3) := by decide +kernel
theorem dX8_undo_29 : decode cX8_undo 29 = .ok (.aload_n 0, 1) := by decide +kernel
theorem dX8_undo_30 : decode cX8_undo 30 = .ok (.getfield 7, 3) := by decide +kernel
theorem dX8_undo_33 : decode cX8_undo 33 = .ok (.iload_n 1, 1) := by decide +kernel
theorem dX8_undo_34 : decode cX8_undo 34 = .ok (.aload_n 0, 1) := by decide +kernel
theorem dX8_undo_35 : decode cX8_undo 35 = .ok (.getfield 13, 3) := by decide +kernel
theorem dX8_undo_38 : decode cX8_undo 38 = .ok (.aload_n 0, 1) := by decide +kernel
theorem dX8_undo_39 : decode cX8_undo 39 = .ok (.getfield 68, 3) := by decide +kernel
theorem dX8_undo_42 : decode cX8_undo 42 = .ok (.sipush 210, 3) := by decide +kernel
theorem dX8_undo_45 : decode cX8_undo 45 = .ok (.imul, 1) := by decide +kernel
theorem dX8_undo_46 : decode cX8_undo 46 = .ok (.iload_n 1, 1) := by decide +kernel
theorem dX8_undo_47 : decode cX8_undo 47 = .ok (.iadd, 1) := by decide +kernel
theorem dX8_undo_48 : decode cX8_undo 48 = .ok (.iaload, 1) := by decide +kernel
theorem dX8_undo_49 : decode cX8_undo 49 = .ok (.iastore, 1) := by decide +kernel
theorem dX8_undo_50 : decode cX8_undo 50 = .ok (.iinc 1 1, 3) := by decide +kernel
theorem dX8_undo_53 : decode cX8_undo 53 = .ok (.goto (-31), 3) := by decide +kernel
theorem dX8_undo_56 : decode cX8_undo 56 = .ok (.aload_n 0, 1) := by decide +kernel
theorem dX8_undo_57 : decode cX8_undo 57 = .ok (.getfield 68, 3) := by decide +kernel
theorem dX8_undo_60 : decode cX8_undo 60 = .ok (.ireturn, 1) := by decide +kernel
theorem dX8_save_0 : decode cX8_save 0 = .ok (.iload_n 1, 1) := by decide +kernel
theorem dX8_save_1 : decode cX8_save 1 = .ok (.iconst 0, 1) := by decide +kernel
theorem dX8_save_2 : decode cX8_save 2 = .ok (.iconst 1, 1) := by decide +kernel
theorem dX8_save_3 : decode cX8_save 3 = .ok (.invokestatic 72, 3) := by decide +kernel
theorem dX8_save_6 : decode cX8_save 6 = .ok (.ifCond .ne 6, 3) := by decide +kernel
theorem dX8_save_9 : decode cX8_save 9 = .ok (.bipush (-2), 2) := by decide +kernel
theorem dX8_save_11 : decode cX8_save 11 = .ok (.ireturn, 1) := by decide +kernel
theorem dX8_save_12 : decode cX8_save 12 = .ok (.iconst 0, 1) := by decide +kernel
theorem dX8_save_13 : decode cX8_save 13 = .ok (.istore_n 2, 1) := by decide +kernel
theorem dX8_save_14 : decode cX8_save 14 = .ok (.iload_n 2, 1) := by decide +kernel
theorem dX8_save_15 : decode cX8_save 15 = .ok (.sipush 210, 3) := by decide +kernel
theorem dX8_save_18 : decode cX8_save 18 = .ok (.if_icmp .ge 27, 3) := by decide +kernel
theorem dX8_save_21 : decode cX8_save 21 = .ok (.aload_n 0, 1) := by decide +kernel
theorem dX8_save_22 : decode cX8_save 22 = .ok (.getfield 16, 3) := by decide +kernel
theorem dX8_save_25 : decode cX8_save 25 = .ok (.iload_n 1, 1) := by decide +kernel
theorem dX8_save_26 : decode cX8_save 26 = .ok (.sipush 210, 3) := by decide +kernel
theorem dX8_save_29 : decode cX8_save 29 = .ok (.imul, 1) := by decide +kernel
theorem dX8_save_30 : decode cX8_save 30 = .ok (.iload_n 2, 1) := by decide +kernel
theorem dX8_save_31 : decode cX8_save 31 = .ok (.iadd, 1) := by decide +kernel
theorem dX8_save_32 : decode cX8_save 32 = .ok (.aload_n 0, 1) := by decide +kernel
theorem dX8_save_33 : decode cX8_save 33 = .ok (.getfield 7, 3) := by decide +kernel
theorem dX8_save_36 : decode cX8_save 36 = .ok (.iload_n 2, 1) := by decide +kernel
theorem dX8_save_37 : decode cX8_save 37 = .ok (.iaload, 1) := by decide +kernel
theorem dX8_save_38 : decode cX8_save 38 = .ok (.iastore, 1) := by decide +kernel
theorem dX8_save_39 : decode cX8_save 39 = .ok (.iinc 2 1, 3) := by decide +kernel
theorem dX8_save_42 : decode cX8_save 42 = .ok (.goto (-28), 3) := by decide +kernel
theorem dX8_save_45 : decode cX8_save 45 = .ok (.aload_n 0, 1) := by decide +kernel
theorem dX8_save_46 : decode cX8_save 46 = .ok (.getfield 19, 3) := by decide +kernel
theorem dX8_save_49 : decode cX8_save 49 = .ok (.iload_n 1, 1) := by decide +kernel
theorem dX8_save_50 : decode cX8_save 50 = .ok (.iconst 1, 1) := by decide +kernel
theorem dX8_save_51 : decode cX8_save 51 = .ok (.bastore, 1) := by decide +kernel
theorem dX8_save_52 : decode cX8_save 52 = .ok (.aload_n 0, 1) := by decide +kernel
theorem dX8_save_53 : decode cX8_save 53 = .ok (.invokevirtual 129, 3) := by decide +kernel
theorem dX8_save_56 : decode cX8_save 56 = .ok (.ireturn, 1) := by decide +kernel
theorem dX8_restore_0 : decode cX8_restore 0 = .ok (.iload_n 1, 1) := by decide +kernel
theorem dX8_restore_1 : decode cX8_restore 1 = .ok (.iconst 0, 1) := by decide +kernel
theorem dX8_restore_2 : decode cX8_restore 2 = .ok (.iconst 1, 1) := by decide +kernel
theorem dX8_restore_3 : decode cX8_restore 3 = .ok (.invokestatic 72, 3) := by decide +kernel
theorem dX8_restore_6 : decode cX8_restore 6 = .ok (.ifCond .ne 6, 3) := by decide +kernel
theorem dX8_restore_9 : decode cX8_restore 9 = .ok (.bipush (-2), 2) := by decide +kernel
theorem dX8_restore_11 : decode cX8_restore 11 = .ok (.ireturn, 1) := by decide +kernel
theorem dX8_restore_12 : decode cX8_restore 12 = .ok (.aload_n 0, 1) := by decide +kernel
theorem dX8_restore_13 : decode cX8_restore 13 = .ok (.getfield 19, 3) := by decide +kernel
theorem dX8_restore_16 : decode cX8_restore 16 = .ok (.iload_n 1, 1) := by decide +kernel
theorem dX8_restore_17 : decode cX8_restore 17 = .ok (.baload, 1) := by decide +kernel
theorem dX8_restore_18 : decode cX8_restore 18 = .ok (.ifCond .ne 6, 3) := by decide +kernel
theorem dX8_restore_21 : decode cX8_restore 21 = .ok (.bipush (-5), 2) := by decide +kernel
theorem dX8_restore_23 : decode cX8_restore 23 = .ok (.ireturn, 1) := by decide +kernel
theorem dX8_restore_24 : decode cX8_restore 24 = .ok (.aload_n 0, 1) := by decide +kernel
theorem dX8_restore_25 : decode cX8_restore 25 = .ok (.invokevirtual 76, 3) := by decide +kernel
theorem dX8_restore_28 : decode cX8_restore 28 = .ok (.iconst 0, 1) := by decide +kernel
theorem dX8_restore_29 : decode cX8_restore 29 = .ok (.istore_n 2, 1) := by decide +kernel
theorem dX8_restore_30 : decode cX8_restore 30 = .ok (.iload_n 2, 1) := by decide +kernel
theorem dX8_restore_31 : decode cX8_restore 31 = .ok (.sipush 210, 3) := by decide +kernel
theorem dX8_restore_34 : decode cX8_restore 34 = .ok (.if_icmp .ge 27, 3) := by decide +kernel
theorem dX8_restore_37 : decode cX8_restore 37 = .ok (.aload_n 0, 1) := by decide +kernel
theorem dX8_restore_38 : decode cX8_restore 38 = .ok (.getfield 7, 3) := by decide +kernel
theorem dX8_restore_41 : decode cX8_restore 41 = .ok (.iload_n 2, 1) := by decide +kernel
theorem dX8_restore_42 : decode cX8_restore 42 = .ok (.aload_n 0, 1) := by decide +kernel
theorem dX8_restore_43 : decode cX8_restore 43 = .ok (.getfield 16, 3) := by decide +kernel
theorem dX8_restore_46 : decode cX8_restore 46 = .ok (.iload_n 1, 1) := by decide +kernel
theorem dX8_restore_47 : decode cX8_restore 47 = .ok (.sipush 210, 3) := by decide +kernel
theorem dX8_restore_50 : decode cX8_restore 50 = .ok (.imul, 1) := by decide +kernel
theorem dX8_restore_51 : decode cX8_restore 51 = .ok (.iload_n 2, 1) := by decide +kernel
theorem dX8_restore_52 : decode cX8_restore 52 = .ok (.iadd, 1) := by decide +kernel
theorem dX8_restore_53 : decode cX8_restore 53 = .ok (.iaload, 1) := by decide +kernel
theorem dX8_restore_54 : decode cX8_restore 54 = .ok (.iastore, 1) := by decide +kernel
theorem dX8_restore_55 : decode cX8_restore 55 = .ok (.iinc 2 1, 3) := by decide +kernel
theorem dX8_restore_58 : decode cX8_restore 58 = .ok (.goto (-28), 3) := by decide +kernel
theorem dX8_restore_61 : decode cX8_restore 61 = .ok (.aload_n 0, 1) := by decide +kernel
theorem dX8_restore_62 : decode cX8_restore 62 = .ok (.invokevirtual 129, 3) := by decide +kernel
theorem dX8_restore_65 : decode cX8_restore 65 = .ok (.ireturn, 1) := by decide +kernel

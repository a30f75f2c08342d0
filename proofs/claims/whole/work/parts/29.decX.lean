theorem dX0_init_0 : decode cX0_init 0 = .ok (.aload_n 0, 1) := by decide +kernel
theorem dX0_init_1 : decode cX0_init 1 = .ok (.invokespecial 3, 3) := by decide +kernel
theorem dX0_init_4 : decode cX0_init 4 = .ok (.aload_n 0, 1) := by decide +kernel
theorem dX0_init_5 : decode cX0_init 5 = .ok (.aload_n 1, 1) := by decide +kernel
theorem dX0_init_6 : decode cX0_init 6 = .ok (.putfield 9, 3) := by decide +kernel
theorem dX0_init_9 : decode cX0_init 9 = .ok (.aload_n 0, 1) := by decide +kernel
theorem dX0_init_10 : decode cX0_init 10 = .ok (.iconst (-1), 1) := by decide +kernel
theorem dX0_init_11 : decode cX0_init 11 = .ok (.putfield 15, 3) := by decide +kernel
theorem dX0_init_14 : decode cX0_init 14 = .ok (.aload_n 0, 1) := by decide +kernel
theorem dX0_init_15 : decode cX0_init 15 = .ok (.sipush 2304, 3) := by decide +kernel
theorem dX0_init_18 : decode cX0_init 18 = .ok (.newarray .byte, 2) := by decide +kernel
theorem dX0_init_20 : decode cX0_init 20 = .ok (.putfield 19, 3) := by decide +kernel
theorem dX0_init_23 : decode cX0_init 23 = .ok (.return_, 1) := by decide +kernel
theorem dX0_settle_0 : decode cX0_settle 0 = .ok (.aload_n 0, 1) := by decide +kernel
theorem dX0_settle_1 : decode cX0_settle 1 = .ok (.getfield 15, 3) := by decide +kernel
theorem dX0_settle_4 : decode cX0_settle 4 = .ok (.aload_n 0, 1) := by decide +kernel
theorem dX0_settle_5 : decode cX0_settle 5 = .ok (.getfield 9, 3) := by decide +kernel
theorem dX0_settle_8 : decode cX0_settle 8 = .ok (.getfield 23, 3) := by decide +kernel
theorem dX0_settle_11 : decode cX0_settle 11 = .ok (.if_icmp .ne 4, 3) := by decide +kernel
theorem dX0_settle_14 : decode cX0_settle 14 = .ok (.return_, 1) := by decide +kernel
theorem dX0_settle_15 : decode cX0_settle 15 = .ok (.aload_n 0, 1) := by decide +kernel
theorem dX0_settle_16 : decode cX0_settle 16 = .ok (.aload_n 0, 1) := by decide +kernel
theorem dX0_settle_17 : decode cX0_settle 17 = .ok (.getfield 9, 3) := by decide +kernel
theorem dX0_settle_20 : decode cX0_settle 20 = .ok (.getfield 23, 3) := by decide +kernel
theorem dX0_settle_23 : decode cX0_settle 23 = .ok (.putfield 15, 3) := by decide +kernel
theorem dX0_settle_26 : decode cX0_settle 26 = .ok (.aload_n 0, 1) := by decide +kernel
theorem dX0_settle_27 : decode cX0_settle 27 = .ok (.getfield 19, 3) := by decide +kernel
theorem dX0_settle_30 : decode cX0_settle 30 = .ok (.iconst (-1), 1) := by decide +kernel
theorem dX0_settle_31 : decode cX0_settle 31 = .ok (.invokestatic 28, 3) := by decide +kernel
theorem dX0_settle_34 : decode cX0_settle 34 = .ok (.aload_n 0, 1) := by decide +kernel
theorem dX0_settle_35 : decode cX0_settle 35 = .ok (.getfield 9, 3) := by decide +kernel
theorem dX0_settle_38 : decode cX0_settle 38 = .ok (.getfield 34, 3) := by decide +kernel
theorem dX0_settle_41 : decode cX0_settle 41 = .ok (.istore_n 1, 1) := by decide +kernel
theorem dX0_settle_42 : decode cX0_settle 42 = .ok (.aload_n 0, 1) := by decide +kernel
theorem dX0_settle_43 : decode cX0_settle 43 = .ok (.iload_n 1, 1) := by decide +kernel
theorem dX0_settle_44 : decode cX0_settle 44 = .ok (.invokevirtual 37, 3) := by decide +kernel
theorem dX0_settle_47 : decode cX0_settle 47 = .ok (.istore_n 2, 1) := by decide +kernel
theorem dX0_settle_48 : decode cX0_settle 48 = .ok (.iconst 1, 1) := by decide +kernel
theorem dX0_settle_49 : decode cX0_settle 49 = .ok (.istore_n 3, 1) := by decide +kernel
theorem dX0_settle_50 : decode cX0_settle 50 = .ok (.aload_n 0, 1) := by decide +kernel
theorem dX0_settle_51 : decode cX0_settle 51 = .ok (.iconst 1, 1) := by decide +kernel
theorem dX0_settle_52 : decode cX0_settle 52 = .ok (.putfield 41, 3) := by decide +kernel
theorem dX0_settle_55 : decode cX0_settle 55 = .ok (.iconst 0, 1) := by decide +kernel
theorem dX0_settle_56 : decode cX0_settle 56 = .ok (.istore 4, 2) := by decide +kernel
theorem dX0_settle_58 : decode cX0_settle 58 = .ok (.iload 4, 2) := by decide +kernel
theorem dX0_settle_60 : decode cX0_settle 60 = .ok (.ldc 44, 2) := by decide +kernel
theorem dX0_settle_62 : decode cX0_settle 62 = .ok (.if_icmp .ge 49, 3) := by decide +kernel
theorem dX0_settle_65 : decode cX0_settle 65 = .ok (.iload_n 1, 1) := by decide +kernel
theorem dX0_settle_66 : decode cX0_settle 66 = .ok (.iload_n 2, 1) := by decide +kernel
theorem dX0_settle_67 : decode cX0_settle 67 = .ok (.if_icmp .eq 44, 3) := by decide +kernel
theorem dX0_settle_70 : decode cX0_settle 70 = .ok (.aload_n 0, 1) := by decide +kernel
theorem dX0_settle_71 : decode cX0_settle 71 = .ok (.getfield 41, 3) := by decide +kernel
theorem dX0_settle_74 : decode cX0_settle 74 = .ok (.iload_n 3, 1) := by decide +kernel
theorem dX0_settle_75 : decode cX0_settle 75 = .ok (.if_icmp .ne 14, 3) := by decide +kernel
theorem dX0_settle_78 : decode cX0_settle 78 = .ok (.iload_n 2, 1) := by decide +kernel
theorem dX0_settle_79 : decode cX0_settle 79 = .ok (.istore_n 1, 1) := by decide +kernel
theorem dX0_settle_80 : decode cX0_settle 80 = .ok (.iload_n 3, 1) := by decide +kernel
theorem dX0_settle_81 : decode cX0_settle 81 = .ok (.iconst 2, 1) := by decide +kernel
theorem dX0_settle_82 : decode cX0_settle 82 = .ok (.imul, 1) := by decide +kernel
theorem dX0_settle_83 : decode cX0_settle 83 = .ok (.istore_n 3, 1) := by decide +kernel
theorem dX0_settle_84 : decode cX0_settle 84 = .ok (.aload_n 0, 1) := by decide +kernel
theorem dX0_settle_85 : decode cX0_settle 85 = .ok (.iconst 0, 1) := by decide +kernel
theorem dX0_settle_86 : decode cX0_settle 86 = .ok (.putfield 41, 3) := by decide +kernel
theorem dX0_settle_89 : decode cX0_settle 89 = .ok (.aload_n 0, 1) := by decide +kernel
theorem dX0_settle_90 : decode cX0_settle 90 = .ok (.iload_n 2, 1) := by decide +kernel
theorem dX0_settle_91 : decode cX0_settle 91 = .ok (.invokevirtual 37, 3) := by decide +kernel
theorem dX0_settle_94 : decode cX0_settle 94 = .ok (.istore_n 2, 1) := by decide +kernel
theorem dX0_settle_95 : decode cX0_settle 95 = .ok (.aload_n 0, 1) := by decide +kernel
theorem dX0_settle_96 : decode cX0_settle 96 = .ok (.dup, 1) := by decide +kernel
theorem dX0_settle_97 : decode cX0_settle 97 = .ok (.getfield 41, 3) := by decide +kernel
theorem dX0_settle_100 : decode cX0_settle 100 = .ok (.iconst 1, 1) := by decide +kernel
theorem dX0_settle_101 : decode cX0_settle 101 = .ok (.iadd, 1) := by decide +kernel
theorem dX0_settle_102 : decode cX0_settle 102 = .ok (.putfield 41, 3) := by decide +kernel
theorem dX0_settle_105 : decode cX0_settle 105 = .ok (.iinc 4 1, 3) := by decide +kernel
theorem dX0_settle_108 : decode cX0_settle 108 = .ok (.goto (-50), 3) := by decide +kernel
theorem dX0_settle_111 : decode cX0_settle 111 = .ok (.aload_n 0, 1) := by decide +kernel
theorem dX0_settle_112 : decode cX0_settle 112 = .ok (.getfield 9, 3) := by decide +kernel
theorem dX0_settle_115 : decode cX0_settle 115 = .ok (.getfield 34, 3) := by decide +kernel
theorem dX0_settle_118 : decode cX0_settle 118 = .ok (.istore_n 1, 1) := by decide +kernel
theorem dX0_settle_119 : decode cX0_settle 119 = .ok (.iload_n 1, 1) := by decide +kernel
theorem dX0_settle_120 : decode cX0_settle 120 = .ok (.istore_n 2, 1) := by decide +kernel
theorem dX0_settle_121 : decode cX0_settle 121 = .ok (.iconst 0, 1) := by decide +kernel
theorem dX0_settle_122 : decode cX0_settle 122 = .ok (.istore 4, 2) := by decide +kernel
theorem dX0_settle_124 : decode cX0_settle 124 = .ok (.iload 4, 2) := by decide +kernel
theorem dX0_settle_126 : decode cX0_settle 126 = .ok (.aload_n 0, 1) := by decide +kernel
theorem dX0_settle_127 : decode cX0_settle 127 = .ok (.getfield 41, 3) := by decide +kernel
theorem dX0_settle_130 : decode cX0_settle 130 = .ok (.if_icmp .ge 15, 3) := by decide +kernel
theorem dX0_settle_133 : decode cX0_settle 133 = .ok (.aload_n 0, 1) := by decide +kernel
theorem dX0_settle_134 : decode cX0_settle 134 = .ok (.iload_n 2, 1) := by decide +kernel
theorem dX0_settle_135 : decode cX0_settle 135 = .ok (.invokevirtual 37, 3) := by decide +kernel
theorem dX0_settle_138 : decode cX0_settle 138 = .ok (.istore_n 2, 1) := by decide +kernel
theorem dX0_settle_139 : decode cX0_settle 139 = .ok (.iinc 4 1, 3) := by decide +kernel
theorem dX0_settle_142 : decode cX0_settle 142 = .ok (.goto (-18), 3) := by decide +kernel
theorem dX0_settle_145 : decode cX0_settle 145 = .ok (.aload_n 0, 1) := by decide +kernel
theorem dX0_settle_146 : decode cX0_settle 146 = .ok (.iconst 0, 1) := by decide +kernel
theorem dX0_settle_147 : decode cX0_settle 147 = .ok (.putfield 45, 3) := by decide +kernel
theorem dX0_settle_150 : decode cX0_settle 150 = .ok (.iconst 0, 1) := by decide +kernel
theorem dX0_settle_151 : decode cX0_settle 151 = .ok (.istore 4, 2) := by decide +kernel
theorem dX0_settle_153 : decode cX0_settle 153 = .ok (.iload 4, 2) := by decide +kernel
theorem dX0_settle_155 : decode cX0_settle 155 = .ok (.ldc 44, 2) := by decide +kernel
theorem dX0_settle_157 : decode cX0_settle 157 = .ok (.if_icmp .ge 36, 3) := by decide +kernel
theorem dX0_settle_160 : decode cX0_settle 160 = .ok (.iload_n 1, 1) := by decide +kernel
theorem dX0_settle_161 : decode cX0_settle 161 = .ok (.iload_n 2, 1) := by decide +kernel
theorem dX0_settle_162 : decode cX0_settle 162 = .ok (.if_icmp .eq 31, 3) := by decide +kernel
theorem dX0_settle_165 : decode cX0_settle 165 = .ok (.aload_n 0, 1) := by decide +kernel
theorem dX0_settle_166 : decode cX0_settle 166 = .ok (.iload_n 1, 1) := by decide +kernel
theorem dX0_settle_167 : decode cX0_settle 167 = .ok (.invokevirtual 37, 3) := by decide +kernel
theorem dX0_settle_170 : decode cX0_settle 170 = .ok (.istore_n 1, 1) := by decide +kernel
theorem dX0_settle_171 : decode cX0_settle 171 = .ok (.aload_n 0, 1) := by decide +kernel
theorem dX0_settle_172 : decode cX0_settle 172 = .ok (.iload_n 2, 1) := by decide +kernel
theorem dX0_settle_173 : decode cX0_settle 173 = .ok (.invokevirtual 37, 3) := by decide +kernel
theorem dX0_settle_176 : decode cX0_settle 176 = .ok (.istore_n 2, 1) := by decide +kernel
theorem dX0_settle_177 : decode cX0_settle 177 = .ok (.aload_n 0, 1) := by decide +kernel
theorem dX0_settle_178 : decode cX0_settle 178 = .ok (.dup, 1) := by decide +kernel
theorem dX0_settle_179 : decode cX0_settle 179 = .ok (.getfield 45, 3) := by decide +kernel
theorem dX0_settle_182 : decode cX0_settle 182 = .ok (.iconst 1, 1) := by decide +kernel
theorem dX0_settle_183 : decode cX0_settle 183 = .ok (.iadd, 1) := by decide +kernel
theorem dX0_settle_184 : decode cX0_settle 184 = .ok (.putfield 45, 3) := by decide +kernel
theorem dX0_settle_187 : decode cX0_settle 187 = .ok (.iinc 4 1, 3) := by decide +kernel
theorem dX0_settle_190 : decode cX0_settle 190 = .ok (.goto (-37), 3) := by decide +kernel
theorem dX0_settle_193 : decode cX0_settle 193 = .ok (.return_, 1) := by decide +kernel
theorem dX0_lookIn_0 : decode cX0_lookIn 0 = .ok (.aload_n 0, 1) := by decide +kernel
theorem dX0_lookIn_1 : decode cX0_lookIn 1 = .ok (.invokevirtual 48, 3) := by decide +kernel
theorem dX0_lookIn_4 : decode cX0_lookIn 4 = .ok (.iload_n 1, 1) := by decide +kernel
theorem dX0_lookIn_5 : decode cX0_lookIn 5 = .ok (.aload_n 0, 1) := by decide +kernel
theorem dX0_lookIn_6 : decode cX0_lookIn 6 = .ok (.getfield 45, 3) := by decide +kernel
theorem dX0_lookIn_9 : decode cX0_lookIn 9 = .ok (.if_icmp .lt 11, 3) := by decide +kernel
theorem dX0_lookIn_12 : decode cX0_lookIn 12 = .ok (.aload_n 0, 1) := by decide +kernel
theorem dX0_lookIn_13 : decode cX0_lookIn 13 = .ok (.getfield 41, 3) := by decide +kernel
theorem dX0_lookIn_16 : decode cX0_lookIn 16 = .ok (.iconst 1, 1) := by decide +kernel
theorem dX0_lookIn_17 : decode cX0_lookIn 17 = .ok (.if_icmp .ge 7, 3) := by decide +kernel
theorem dX0_lookIn_20 : decode cX0_lookIn 20 = .ok (.iload_n 1, 1) := by decide +kernel
theorem dX0_lookIn_21 : decode cX0_lookIn 21 = .ok (.goto 19, 3) := by decide +kernel
theorem dX0_lookIn_24 : decode cX0_lookIn 24 = .ok (.aload_n 0, 1) := by decide +kernel
theorem dX0_lookIn_25 : decode cX0_lookIn 25 = .ok (.getfield 45, 3) := by decide +kernel
theorem dX0_lookIn_28 : decode cX0_lookIn 28 = .ok (.iload_n 1, 1) := by decide +kernel
theorem dX0_lookIn_29 : decode cX0_lookIn 29 = .ok (.aload_n 0, 1) := by decide +kernel
theorem dX0_lookIn_30 : decode cX0_lookIn 30 = .ok (.getfield 45, 3) := by decide +kernel
theorem dX0_lookIn_33 : decode cX0_lookIn 33 = .ok (.isub, 1) := by decide +kernel
theorem dX0_lookIn_34 : decode cX0_lookIn 34 = .ok (.aload_n 0, 1) := by decide +kernel
theorem dX0_lookIn_35 : decode cX0_lookIn 35 = .ok (.getfield 41, 3) := by decide +kernel
theorem dX0_lookIn_38 : decode cX0_lookIn 38 = .ok (.irem, 1) := by decide +kernel
theorem dX0_lookIn_39 : decode cX0_lookIn 39 = .ok (.iadd, 1) := by decide +kernel
theorem dX0_lookIn_40 : decode cX0_lookIn 40 = .ok (.istore_n 2, 1) := by decide +kernel
theorem dX0_lookIn_41 : decode cX0_lookIn 41 = .ok (.aload_n 0, 1) := by decide +kernel
theorem dX0_lookIn_42 : decode cX0_lookIn 42 = .ok (.getfield 9, 3) := by decide +kernel
theorem dX0_lookIn_45 : decode cX0_lookIn 45 = .ok (.getfield 34, 3) := by decide +kernel
theorem dX0_lookIn_48 : decode cX0_lookIn 48 = .ok (.istore_n 3, 1) := by decide +kernel
theorem dX0_lookIn_49 : decode cX0_lookIn 49 = .ok (.iconst 0, 1) := by decide +kernel
theorem dX0_lookIn_50 : decode cX0_lookIn 50 = .ok (.istore 4, 2) := by decide +kernel
theorem dX0_lookIn_52 : decode cX0_lookIn 52 = .ok (.iload 4, 2) := by decide +kernel
theorem dX0_lookIn_54 : decode cX0_lookIn 54 = .ok (.iload_n 2, 1) := by decide +kernel
theorem dX0_lookIn_55 : decode cX0_lookIn 55 = .ok (.if_icmp .ge 15, 3) := by decide +kernel
theorem dX0_lookIn_58 : decode cX0_lookIn 58 = .ok (.aload_n 0, 1) := by decide +kernel
theorem dX0_lookIn_59 : decode cX0_lookIn 59 = .ok (.iload_n 3, 1) := by decide +kernel
theorem dX0_lookIn_60 : decode cX0_lookIn 60 = .ok (.invokevirtual 37, 3) := by decide +kernel
theorem dX0_lookIn_63 : decode cX0_lookIn 63 = .ok (.istore_n 3, 1) := by decide +kernel
theorem dX0_lookIn_64 : decode cX0_lookIn 64 = .ok (.iinc 4 1, 3) := by decide +kernel
theorem dX0_lookIn_67 : decode cX0_lookIn 67 = .ok (.goto (-15), 3) := by decide +kernel
theorem dX0_lookIn_70 : decode cX0_lookIn 70 = .ok (.iload_n 3, 1) := by decide +kernel
theorem dX0_lookIn_71 : decode cX0_lookIn 71 = .ok (.ireturn, 1) := by decide +kernel
theorem dX0_reignOf_0 : decode cX0_reignOf 0 = .ok (.aload_n 0, 1) := by decide +kernel
theorem dX0_reignOf_1 : decode cX0_reignOf 1 = .ok (.invokevirtual 48, 3) := by decide +kernel
theorem dX0_reignOf_4 : decode cX0_reignOf 4 = .ok (.aload_n 0, 1) := by decide +kernel
theorem dX0_reignOf_5 : decode cX0_reignOf 5 = .ok (.getfield 9, 3) := by decide +kernel
theorem dX0_reignOf_8 : decode cX0_reignOf 8 = .ok (.getfield 34, 3) := by decide +kernel
theorem dX0_reignOf_11 : decode cX0_reignOf 11 = .ok (.istore_n 3, 1) := by decide +kernel
theorem dX0_reignOf_12 : decode cX0_reignOf 12 = .ok (.iconst 0, 1) := by decide +kernel
theorem dX0_reignOf_13 : decode cX0_reignOf 13 = .ok (.istore 4, 2) := by decide +kernel
theorem dX0_reignOf_15 : decode cX0_reignOf 15 = .ok (.iconst 0, 1) := by decide +kernel
theorem dX0_reignOf_16 : decode cX0_reignOf 16 = .ok (.istore 5, 2) := by decide +kernel
theorem dX0_reignOf_18 : decode cX0_reignOf 18 = .ok (.iload 5, 2) := by decide +kernel
theorem dX0_reignOf_20 : decode cX0_reignOf 20 = .ok (.iload_n 2, 1) := by decide +kernel
theorem dX0_reignOf_21 : decode cX0_reignOf 21 = .ok (.if_icmp .gt 78, 3) := by decide +kernel
theorem dX0_reignOf_24 : decode cX0_reignOf 24 = .ok (.iload 5, 2) := by decide +kernel
theorem dX0_reignOf_26 : decode cX0_reignOf 26 = .ok (.aload_n 0, 1) := by decide +kernel
theorem dX0_reignOf_27 : decode cX0_reignOf 27 = .ok (.getfield 45, 3) := by decide +kernel
theorem dX0_reignOf_30 : decode cX0_reignOf 30 = .ok (.aload_n 0, 1) := by decide +kernel
theorem dX0_reignOf_31 : decode cX0_reignOf 31 = .ok (.getfield 41, 3) := by decide +kernel
theorem dX0_reignOf_34 : decode cX0_reignOf 34 = .ok (.iadd, 1) := by decide +kernel
theorem dX0_reignOf_35 : decode cX0_reignOf 35 = .ok (.if_icmp .ge 64, 3) := by decide +kernel
theorem dX0_reignOf_38 : decode cX0_reignOf 38 = .ok (.aload_n 0, 1) := by decide +kernel
theorem dX0_reignOf_39 : decode cX0_reignOf 39 = .ok (.getfield 9, 3) := by decide +kernel
theorem dX0_reignOf_42 : decode cX0_reignOf 42 = .ok (.iload_n 3, 1) := by decide +kernel
theorem dX0_reignOf_43 : decode cX0_reignOf 43 = .ok (.invokevirtual 51, 3) := by decide +kernel
theorem dX0_reignOf_46 : decode cX0_reignOf 46 = .ok (.iload_n 1, 1) := by decide +kernel
theorem dX0_reignOf_47 : decode cX0_reignOf 47 = .ok (.if_icmp .ne 40, 3) := by decide +kernel
theorem dX0_reignOf_50 : decode cX0_reignOf 50 = .ok (.iload 4, 2) := by decide +kernel
theorem dX0_reignOf_52 : decode cX0_reignOf 52 = .ok (.iload 5, 2) := by decide +kernel
theorem dX0_reignOf_54 : decode cX0_reignOf 54 = .ok (.aload_n 0, 1) := by decide +kernel
theorem dX0_reignOf_55 : decode cX0_reignOf 55 = .ok (.getfield 45, 3) := by decide +kernel
theorem dX0_reignOf_58 : decode cX0_reignOf 58 = .ok (.if_icmp .lt 11, 3) := by decide +kernel
theorem dX0_reignOf_61 : decode cX0_reignOf 61 = .ok (.aload_n 0, 1) := by decide +kernel
theorem dX0_reignOf_62 : decode cX0_reignOf 62 = .ok (.getfield 41, 3) := by decide +kernel
theorem dX0_reignOf_65 : decode cX0_reignOf 65 = .ok (.iconst 1, 1) := by decide +kernel
theorem dX0_reignOf_66 : decode cX0_reignOf 66 = .ok (.if_icmp .ge 7, 3) := by decide +kernel
theorem dX0_reignOf_69 : decode cX0_reignOf 69 = .ok (.iconst 1, 1) := by decide +kernel
theorem dX0_reignOf_70 : decode cX0_reignOf 70 = .ok (.goto 14, 3) := by decide +kernel
theorem dX0_reignOf_73 : decode cX0_reignOf 73 = .ok (.iconst 1, 1) := by decide +kernel
theorem dX0_reignOf_74 : decode cX0_reignOf 74 = .ok (.iload_n 2, 1) := by decide +kernel
theorem dX0_reignOf_75 : decode cX0_reignOf 75 = .ok (.iload 5, 2) := by decide +kernel
theorem dX0_reignOf_77 : decode cX0_reignOf 77 = .ok (.isub, 1) := by decide +kernel
theorem dX0_reignOf_78 : decode cX0_reignOf 78 = .ok (.aload_n 0, 1) := by decide +kernel
theorem dX0_reignOf_79 : decode cX0_reignOf 79 = .ok (.getfield 41, 3) := by decide +kernel
theorem dX0_reignOf_82 : decode cX0_reignOf 82 = .ok (.idiv, 1) := by decide +kernel
theorem dX0_reignOf_83 : decode cX0_reignOf 83 = .ok (.iadd, 1) := by decide +kernel
theorem dX0_reignOf_84 : decode cX0_reignOf 84 = .ok (.iadd, 1) := by decide +kernel
theorem dX0_reignOf_85 : decode cX0_reignOf 85 = .ok (.istore 4, 2) := by decide +kernel
theorem dX0_reignOf_87 : decode cX0_reignOf 87 = .ok (.aload_n 0, 1) := by decide +kernel
theorem dX0_reignOf_88 : decode cX0_reignOf 88 = .ok (.iload_n 3, 1) := by decide +kernel
theorem dX0_reignOf_89 : decode cX0_reignOf 89 = .ok (.invokevirtual 37, 3) := by decide +kernel
theorem dX0_reignOf_92 : decode cX0_reignOf 92 = .ok (.istore_n 3, 1) := by decide +kernel
theorem dX0_reignOf_93 : decode cX0_reignOf 93 = .ok (.iinc 5 1, 3) := by decide +kernel
theorem dX0_reignOf_96 : decode cX0_reignOf 96 = .ok (.goto (-78), 3) := by decide +kernel
theorem dX0_reignOf_99 : decode cX0_reignOf 99 = .ok (.iload 4, 2) := by decide +kernel
theorem dX0_reignOf_101 : decode cX0_reignOf 101 = .ok (.ireturn, 1) := by decide +kernel
theorem dX0_firstOf_0 : decode cX0_firstOf 0 = .ok (.aload_n 0, 1) := by decide +kernel
theorem dX0_firstOf_1 : decode cX0_firstOf 1 = .ok (.invokevirtual 48, 3) := by decide +kernel
theorem dX0_firstOf_4 : decode cX0_firstOf 4 = .ok (.aload_n 0, 1) := by decide +kernel
theorem dX0_firstOf_5 : decode cX0_firstOf 5 = .ok (.getfield 9, 3) := by decide +kernel
theorem dX0_firstOf_8 : decode cX0_firstOf 8 = .ok (.getfield 34, 3) := by decide +kernel
theorem dX0_firstOf_11 : decode cX0_firstOf 11 = .ok (.istore_n 2, 1) := by decide +kernel
theorem dX0_firstOf_12 : decode cX0_firstOf 12 = .ok (.iconst 0, 1) := by decide +kernel
theorem dX0_firstOf_13 : decode cX0_firstOf 13 = .ok (.istore_n 3, 1) := by decide +kernel
theorem dX0_firstOf_14 : decode cX0_firstOf 14 = .ok (.iload_n 3, 1) := by decide +kernel
theorem dX0_firstOf_15 : decode cX0_firstOf 15 = .ok (.aload_n 0, 1) := by decide +kernel
theorem dX0_firstOf_16 : decode cX0_firstOf 16 = .ok (.getfield 45, 3) := by decide +kernel
theorem dX0_firstOf_19 : decode cX0_firstOf 19 = .ok (.aload_n 0, 1) := by decide +kernel
theorem dX0_firstOf_20 : decode cX0_firstOf 20 = .ok (.getfield 41, 3) := by decide +kernel
theorem dX0_firstOf_23 : decode cX0_firstOf 23 = .ok (.iadd, 1) := by decide +kernel
theorem dX0_firstOf_24 : decode cX0_firstOf 24 = .ok (.if_icmp .ge 29, 3) := by decide +kernel
theorem dX0_firstOf_27 : decode cX0_firstOf 27 = .ok (.aload_n 0, 1) := by decide +kernel
theorem dX0_firstOf_28 : decode cX0_firstOf 28 = .ok (.getfield 9, 3) := by decide +kernel
theorem dX0_firstOf_31 : decode cX0_firstOf 31 = .ok (.iload_n 2, 1) := by decide +kernel
theorem dX0_firstOf_32 : decode cX0_firstOf 32 = .ok (.invokevirtual 51, 3) := by decide +kernel
theorem dX0_firstOf_35 : decode cX0_firstOf 35 = .ok (.iload_n 1, 1) := by decide +kernel
theorem dX0_firstOf_36 : decode cX0_firstOf 36 = .ok (.if_icmp .ne 5, 3) := by decide +kernel
theorem dX0_firstOf_39 : decode cX0_firstOf 39 = .ok (.iload_n 3, 1) := by decide +kernel
theorem dX0_firstOf_40 : decode cX0_firstOf 40 = .ok (.ireturn, 1) := by decide +kernel
theorem dX0_firstOf_41 : decode cX0_firstOf 41 = .ok (.aload_n 0, 1) := by decide +kernel
theorem dX0_firstOf_42 : decode cX0_firstOf 42 = .ok (.iload_n 2, 1) := by decide +kernel
theorem dX0_firstOf_43 : decode cX0_firstOf 43 = .ok (.invokevirtual 37, 3) := by decide +kernel
theorem dX0_firstOf_46 : decode cX0_firstOf 46 = .ok (.istore_n 2, 1) := by decide +kernel
theorem dX0_firstOf_47 : decode cX0_firstOf 47 = .ok (.iinc 3 1, 3) := by decide +kernel
theorem dX0_firstOf_50 : decode cX0_firstOf 50 = .ok (.goto (-36), 3) := by decide +kernel
theorem dX0_firstOf_53 : decode cX0_firstOf 53 = .ok (.iconst (-1), 1) := by decide +kernel
theorem dX0_firstOf_54 : decode cX0_firstOf 54 = .ok (.ireturn, 1) := by decide +kernel
theorem dX0_behindMinute_0 : decode cX0_behindMinute 0 = .ok (.aload_n 0, 1) := by decide +kernel
theorem dX0_behindMinute_1 : decode cX0_behindMinute 1 = .ok (.getfield 9, 3) := by decide +kernel
theorem dX0_behindMinute_4 : decode cX0_behindMinute 4 = .ok (.iload_n 1, 1) := by decide +kernel
theorem dX0_behindMinute_5 : decode cX0_behindMinute 5 = .ok (.invokevirtual 54, 3) := by decide +kernel
theorem dX0_behindMinute_8 : decode cX0_behindMinute 8 = .ok (.lstore_n 2, 1) := by decide +kernel
theorem dX0_behindMinute_9 : decode cX0_behindMinute 9 = .ok (.iconst 0, 1) := by decide +kernel
theorem dX0_behindMinute_10 : decode cX0_behindMinute 10 = .ok (.istore 4, 2) := by decide +kernel
theorem dX0_behindMinute_12 : decode cX0_behindMinute 12 = .ok (.iconst 0, 1) := by decide +kernel
theorem dX0_behindMinute_13 : decode cX0_behindMinute 13 = .ok (.istore 5, 2) := by decide +kernel
theorem dX0_behindMinute_15 : decode cX0_behindMinute 15 = .ok (.iload 5, 2) := by decide +kernel
theorem dX0_behindMinute_17 : decode cX0_behindMinute 17 = .ok (.aload_n 0, 1) := by decide +kernel
theorem dX0_behindMinute_18 : decode cX0_behindMinute 18 = .ok (.getfield 9, 3) := by decide +kernel
theorem dX0_behindMinute_21 : decode cX0_behindMinute 21 = .ok (.getfield 58, 3) := by decide +kernel
theorem dX0_behindMinute_24 : decode cX0_behindMinute 24 = .ok (.if_icmp .ge 49, 3) := by decide +kernel
theorem dX0_behindMinute_27 : decode cX0_behindMinute 27 = .ok (.aload_n 0, 1) := by decide +kernel
theorem dX0_behindMinute_28 : decode cX0_behindMinute 28 = .ok (.getfield 9, 3) := by decide +kernel
theorem dX0_behindMinute_31 : decode cX0_behindMinute 31 = .ok (.iload 5, 2) := by decide +kernel
theorem dX0_behindMinute_33 : decode cX0_behindMinute 33 = .ok (.invokevirtual 61, 3) := by decide +kernel
theorem dX0_behindMinute_36 : decode cX0_behindMinute 36 = .ok (.ifCond .ne 31, 3) := by decide +kernel
theorem dX0_behindMinute_39 : decode cX0_behindMinute 39 = .ok (.iload 4, 2) := by decide +kernel
theorem dX0_behindMinute_41 : decode cX0_behindMinute 41 = .ok (.aload_n 0, 1) := by decide +kernel
theorem dX0_behindMinute_42 : decode cX0_behindMinute 42 = .ok (.iload 5, 2) := by decide +kernel
theorem dX0_behindMinute_44 : decode cX0_behindMinute 44 = .ok (.iload_n 1, 1) := by decide +kernel
theorem dX0_behindMinute_45 : decode cX0_behindMinute 45 = .ok (.iload 5, 2) := by decide +kernel
theorem dX0_behindMinute_47 : decode cX0_behindMinute 47 = .ok (.invokestatic 65, 3) := by decide +kernel
theorem dX0_behindMinute_50 : decode cX0_behindMinute 50 = .ok (.lload_n 2, 1) := by decide +kernel
theorem dX0_behindMinute_51 : decode cX0_behindMinute 51 = .ok (.iload 5, 2) := by decide +kernel
theorem dX0_behindMinute_53 : decode cX0_behindMinute 53 = .ok (.invokestatic 71, 3) := by decide +kernel
theorem dX0_behindMinute_56 : decode cX0_behindMinute 56 = .ok (.invokevirtual 75, 3) := by decide +kernel
theorem dX0_behindMinute_59 : decode cX0_behindMinute 59 = .ok (.iload 5, 2) := by decide +kernel
theorem dX0_behindMinute_61 : decode cX0_behindMinute 61 = .ok (.iconst 2, 1) := by decide +kernel
theorem dX0_behindMinute_62 : decode cX0_behindMinute 62 = .ok (.ishl, 1) := by decide +kernel
theorem dX0_behindMinute_63 : decode cX0_behindMinute 63 = .ok (.ishl, 1) := by decide +kernel
theorem dX0_behindMinute_64 : decode cX0_behindMinute 64 = .ok (.ior, 1) := by decide +kernel
theorem dX0_behindMinute_65 : decode cX0_behindMinute 65 = .ok (.istore 4, 2) := by decide +kernel
theorem dX0_behindMinute_67 : decode cX0_behindMinute 67 = .ok (.iinc 5 1, 3) := by decide +kernel
theorem dX0_behindMinute_70 : decode cX0_behindMinute 70 = .ok (.goto (-55), 3) := by decide +kernel
theorem dX0_behindMinute_73 : decode cX0_behindMinute 73 = .ok (.iload_n 1, 1) := by decide +kernel
theorem dX0_behindMinute_74 : decode cX0_behindMinute 74 = .ok (.iload 4, 2) := by decide +kernel
theorem dX0_behindMinute_76 : decode cX0_behindMinute 76 = .ok (.aload_n 0, 1) := by decide +kernel
theorem dX0_behindMinute_77 : decode cX0_behindMinute 77 = .ok (.getfield 9, 3) := by decide +kernel
theorem dX0_behindMinute_80 : decode cX0_behindMinute 80 = .ok (.getfield 58, 3) := by decide +kernel
theorem dX0_behindMinute_83 : decode cX0_behindMinute 83 = .ok (.invokestatic 79, 3) := by decide +kernel
theorem dX0_behindMinute_86 : decode cX0_behindMinute 86 = .ok (.ireturn, 1) := by decide +kernel
theorem dX0_paceOf_0 : decode cX0_paceOf 0 = .ok (.iload_n 1, 1) := by decide +kernel
theorem dX0_paceOf_1 : decode cX0_paceOf 1 = .ok (.bipush 6, 2) := by decide +kernel
theorem dX0_paceOf_3 : decode cX0_paceOf 3 = .ok (.imul, 1) := by decide +kernel
theorem dX0_paceOf_4 : decode cX0_paceOf 4 = .ok (.iload_n 2, 1) := by decide +kernel
theorem dX0_paceOf_5 : decode cX0_paceOf 5 = .ok (.iadd, 1) := by decide +kernel
theorem dX0_paceOf_6 : decode cX0_paceOf 6 = .ok (.bipush 64, 2) := by decide +kernel
theorem dX0_paceOf_8 : decode cX0_paceOf 8 = .ok (.imul, 1) := by decide +kernel
theorem dX0_paceOf_9 : decode cX0_paceOf 9 = .ok (.iload_n 3, 1) := by decide +kernel
theorem dX0_paceOf_10 : decode cX0_paceOf 10 = .ok (.iadd, 1) := by decide +kernel
theorem dX0_paceOf_11 : decode cX0_paceOf 11 = .ok (.istore 4, 2) := by decide +kernel
theorem dX0_paceOf_13 : decode cX0_paceOf 13 = .ok (.iload 4, 2) := by decide +kernel
theorem dX0_paceOf_15 : decode cX0_paceOf 15 = .ok (.ifCond .lt 13, 3) := by decide +kernel
theorem dX0_paceOf_18 : decode cX0_paceOf 18 = .ok (.iload 4, 2) := by decide +kernel
theorem dX0_paceOf_20 : decode cX0_paceOf 20 = .ok (.aload_n 0, 1) := by decide +kernel
theorem dX0_paceOf_21 : decode cX0_paceOf 21 = .ok (.getfield 19, 3) := by decide +kernel
theorem dX0_paceOf_24 : decode cX0_paceOf 24 = .ok (.arraylength, 1) := by decide +kernel
theorem dX0_paceOf_25 : decode cX0_paceOf 25 = .ok (.if_icmp .lt 5, 3) := by decide +kernel
theorem dX0_paceOf_28 : decode cX0_paceOf 28 = .ok (.iconst 0, 1) := by decide +kernel
theorem dX0_paceOf_29 : decode cX0_paceOf 29 = .ok (.ireturn, 1) := by decide +kernel
theorem dX0_paceOf_30 : decode cX0_paceOf 30 = .ok (.aload_n 0, 1) := by decide +kernel
theorem dX0_paceOf_31 : decode cX0_paceOf 31 = .ok (.getfield 19, 3) := by decide +kernel
theorem dX0_paceOf_34 : decode cX0_paceOf 34 = .ok (.iload 4, 2) := by decide +kernel
theorem dX0_paceOf_36 : decode cX0_paceOf 36 = .ok (.baload, 1) := by decide +kernel
theorem dX0_paceOf_37 : decode cX0_paceOf 37 = .ok (.iconst (-1), 1) := by decide +kernel
theorem dX0_paceOf_38 : decode cX0_paceOf 38 = .ok (.if_icmp .ne 21, 3) := by decide +kernel
theorem dX0_paceOf_41 : decode cX0_paceOf 41 = .ok (.aload_n 0, 1) := by decide +kernel
theorem dX0_paceOf_42 : decode cX0_paceOf 42 = .ok (.getfield 19, 3) := by decide +kernel
theorem dX0_paceOf_45 : decode cX0_paceOf 45 = .ok (.iload 4, 2) := by decide +kernel
theorem dX0_paceOf_47 : decode cX0_paceOf 47 = .ok (.aload_n 0, 1) := by decide +kernel
theorem dX0_paceOf_48 : decode cX0_paceOf 48 = .ok (.getfield 9, 3) := by decide +kernel
theorem dX0_paceOf_51 : decode cX0_paceOf 51 = .ok (.iload_n 1, 1) := by decide +kernel
theorem dX0_paceOf_52 : decode cX0_paceOf 52 = .ok (.iload_n 2, 1) := by decide +kernel
theorem dX0_paceOf_53 : decode cX0_paceOf 53 = .ok (.iload_n 3, 1) := by decide +kernel
theorem dX0_paceOf_54 : decode cX0_paceOf 54 = .ok (.invokevirtual 82, 3) := by decide +kernel
theorem dX0_paceOf_57 : decode cX0_paceOf 57 = .ok (.i2b, 1) := by decide +kernel
theorem dX0_paceOf_58 : decode cX0_paceOf 58 = .ok (.bastore, 1) := by decide +kernel
theorem dX0_paceOf_59 : decode cX0_paceOf 59 = .ok (.aload_n 0, 1) := by decide +kernel
theorem dX0_paceOf_60 : decode cX0_paceOf 60 = .ok (.getfield 19, 3) := by decide +kernel
theorem dX0_paceOf_63 : decode cX0_paceOf 63 = .ok (.iload 4, 2) := by decide +kernel
theorem dX0_paceOf_65 : decode cX0_paceOf 65 = .ok (.baload, 1) := by decide +kernel
theorem dX0_paceOf_66 : decode cX0_paceOf 66 = .ok (.ireturn, 1) := by decide +kernel
theorem dX1_at_0 : decode cX1_at 0 = .ok (.iload_n 0, 1) := by decide +kernel
theorem dX1_at_1 : decode cX1_at 1 = .ok (.iload_n 1, 1) := by decide +kernel
theorem dX1_at_2 : decode cX1_at 2 = .ok (.iconst 2, 1) := by decide +kernel
theorem dX1_at_3 : decode cX1_at 3 = .ok (.ishl, 1) := by decide +kernel
theorem dX1_at_4 : decode cX1_at 4 = .ok (.iushr, 1) := by decide +kernel
theorem dX1_at_5 : decode cX1_at 5 = .ok (.bipush 15, 2) := by decide +kernel
theorem dX1_at_7 : decode cX1_at 7 = .ok (.iand, 1) := by decide +kernel
theorem dX1_at_8 : decode cX1_at 8 = .ok (.ireturn, 1) := by decide +kernel
theorem dX1_with_0 : decode cX1_with 0 = .ok (.iload_n 1, 1) := by decide +kernel
theorem dX1_with_1 : decode cX1_with 1 = .ok (.iconst 2, 1) := by decide +kernel
theorem dX1_with_2 : decode cX1_with 2 = .ok (.ishl, 1) := by decide +kernel
theorem dX1_with_3 : decode cX1_with 3 = .ok (.istore_n 3, 1) := by decide +kernel
theorem dX1_with_4 : decode cX1_with 4 = .ok (.iload_n 0, 1) := by decide +kernel
theorem dX1_with_5 : decode cX1_with 5 = .ok (.bipush 15, 2) := by decide +kernel
theorem dX1_with_7 : decode cX1_with 7 = .ok (.iload_n 3, 1) := by decide +kernel
theorem dX1_with_8 : decode cX1_with 8 = .ok (.ishl, 1) := by decide +kernel
theorem dX1_with_9 : decode cX1_with 9 = .ok (.iconst (-1), 1) := by decide +kernel
theorem dX1_with_10 : decode cX1_with 10 = .ok (.ixor, 1) := by decide +kernel
theorem dX1_with_11 : decode cX1_with 11 = .ok (.iand, 1) := by decide +kernel
theorem dX1_with_12 : decode cX1_with 12 = .ok (.iload_n 2, 1) := by decide +kernel
theorem dX1_with_13 : decode cX1_with 13 = .ok (.bipush 15, 2) := by decide +kernel
theorem dX1_with_15 : decode cX1_with 15 = .ok (.iand, 1) := by decide +kernel
theorem dX1_with_16 : decode cX1_with 16 = .ok (.iload_n 3, 1) := by decide +kernel
theorem dX1_with_17 : decode cX1_with 17 = .ok (.ishl, 1) := by decide +kernel
theorem dX1_with_18 : decode cX1_with 18 = .ok (.ior, 1) := by decide +kernel
theorem dX1_with_19 : decode cX1_with 19 = .ok (.ireturn, 1) := by decide +kernel
theorem dX1_ofBits_0 : decode cX1_ofBits 0 = .ok (.iconst 0, 1) := by decide +kernel
theorem dX1_ofBits_1 : decode cX1_ofBits 1 = .ok (.istore_n 1, 1) := by decide +kernel
theorem dX1_ofBits_2 : decode cX1_ofBits 2 = .ok (.iconst 0, 1) := by decide +kernel
theorem dX1_ofBits_3 : decode cX1_ofBits 3 = .ok (.istore_n 2, 1) := by decide +kernel
theorem dX1_ofBits_4 : decode cX1_ofBits 4 = .ok (.iload_n 2, 1) := by decide +kernel
theorem dX1_ofBits_5 : decode cX1_ofBits 5 = .ok (.bipush 6, 2) := by decide +kernel
theorem dX1_ofBits_7 : decode cX1_ofBits 7 = .ok (.if_icmp .ge 21, 3) := by decide +kernel
theorem dX1_ofBits_10 : decode cX1_ofBits 10 = .ok (.iload_n 1, 1) := by decide +kernel
theorem dX1_ofBits_11 : decode cX1_ofBits 11 = .ok (.iload_n 0, 1) := by decide +kernel
theorem dX1_ofBits_12 : decode cX1_ofBits 12 = .ok (.iload_n 2, 1) := by decide +kernel
theorem dX1_ofBits_13 : decode cX1_ofBits 13 = .ok (.ishr, 1) := by decide +kernel
theorem dX1_ofBits_14 : decode cX1_ofBits 14 = .ok (.iconst 1, 1) := by decide +kernel
theorem dX1_ofBits_15 : decode cX1_ofBits 15 = .ok (.iand, 1) := by decide +kernel
theorem dX1_ofBits_16 : decode cX1_ofBits 16 = .ok (.iload_n 2, 1) := by decide +kernel
theorem dX1_ofBits_17 : decode cX1_ofBits 17 = .ok (.iconst 2, 1) := by decide +kernel
theorem dX1_ofBits_18 : decode cX1_ofBits 18 = .ok (.ishl, 1) := by decide +kernel
theorem dX1_ofBits_19 : decode cX1_ofBits 19 = .ok (.ishl, 1) := by decide +kernel
theorem dX1_ofBits_20 : decode cX1_ofBits 20 = .ok (.ior, 1) := by decide +kernel
theorem dX1_ofBits_21 : decode cX1_ofBits 21 = .ok (.istore_n 1, 1) := by decide +kernel
theorem dX1_ofBits_22 : decode cX1_ofBits 22 = .ok (.iinc 2 1, 3) := by decide +kernel
theorem dX1_ofBits_25 : decode cX1_ofBits 25 = .ok (.goto (-21), 3) := by decide +kernel
theorem dX1_ofBits_28 : decode cX1_ofBits 28 = .ok (.iload_n 1, 1) := by decide +kernel
theorem dX1_ofBits_29 : decode cX1_ofBits 29 = .ok (.ireturn, 1) := by decide +kernel
theorem dX1_plus_0 : decode cX1_plus 0 = .ok (.iload_n 0, 1) := by decide +kernel
theorem dX1_plus_1 : decode cX1_plus 1 = .ok (.iload_n 1, 1) := by decide +kernel
theorem dX1_plus_2 : decode cX1_plus 2 = .ok (.iadd, 1) := by decide +kernel
theorem dX1_plus_3 : decode cX1_plus 3 = .ok (.istore_n 3, 1) := by decide +kernel
theorem dX1_plus_4 : decode cX1_plus 4 = .ok (.iload_n 3, 1) := by decide +kernel
theorem dX1_plus_5 : decode cX1_plus 5 = .ok (.bipush 8, 2) := by decide +kernel
theorem dX1_plus_7 : decode cX1_plus 7 = .ok (.iload_n 2, 1) := by decide +kernel
theorem dX1_plus_8 : decode cX1_plus 8 = .ok (.isub, 1) := by decide +kernel
theorem dX1_plus_9 : decode cX1_plus 9 = .ok (.ldc 11, 2) := by decide +kernel
theorem dX1_plus_11 : decode cX1_plus 11 = .ok (.imul, 1) := by decide +kernel
theorem dX1_plus_12 : decode cX1_plus 12 = .ok (.iadd, 1) := by decide +kernel
theorem dX1_plus_13 : decode cX1_plus 13 = .ok (.ldc 12, 2) := by decide +kernel
theorem dX1_plus_15 : decode cX1_plus 15 = .ok (.iand, 1) := by decide +kernel
theorem dX1_plus_16 : decode cX1_plus 16 = .ok (.iconst 3, 1) := by decide +kernel
theorem dX1_plus_17 : decode cX1_plus 17 = .ok (.iushr, 1) := by decide +kernel
theorem dX1_plus_18 : decode cX1_plus 18 = .ok (.istore 4, 2) := by decide +kernel
theorem dX1_plus_20 : decode cX1_plus 20 = .ok (.iload_n 3, 1) := by decide +kernel
theorem dX1_plus_21 : decode cX1_plus 21 = .ok (.iload 4, 2) := by decide +kernel
theorem dX1_plus_23 : decode cX1_plus 23 = .ok (.iload_n 2, 1) := by decide +kernel
theorem dX1_plus_24 : decode cX1_plus 24 = .ok (.imul, 1) := by decide +kernel
theorem dX1_plus_25 : decode cX1_plus 25 = .ok (.isub, 1) := by decide +kernel
theorem dX1_plus_26 : decode cX1_plus 26 = .ok (.ireturn, 1) := by decide +kernel
theorem dX1_votesAt_0 : decode cX1_votesAt 0 = .ok (.lload_n 0, 1) := by decide +kernel
theorem dX1_votesAt_1 : decode cX1_votesAt 1 = .ok (.iload_n 2, 1) := by decide +kernel
theorem dX1_votesAt_2 : decode cX1_votesAt 2 = .ok (.iconst 3, 1) := by decide +kernel
theorem dX1_votesAt_3 : decode cX1_votesAt 3 = .ok (.ishl, 1) := by decide +kernel
theorem dX1_votesAt_4 : decode cX1_votesAt 4 = .ok (.lushr, 1) := by decide +kernel
theorem dX1_votesAt_5 : decode cX1_votesAt 5 = .ok (.l2i, 1) := by decide +kernel
theorem dX1_votesAt_6 : decode cX1_votesAt 6 = .ok (.sipush 255, 3) := by decide +kernel
theorem dX1_votesAt_9 : decode cX1_votesAt 9 = .ok (.iand, 1) := by decide +kernel
theorem dX1_votesAt_10 : decode cX1_votesAt 10 = .ok (.ireturn, 1) := by decide +kernel
theorem dX1_kneesIn_0 : decode cX1_kneesIn 0 = .ok (.iconst 0, 1) := by decide +kernel
theorem dX1_kneesIn_1 : decode cX1_kneesIn 1 = .ok (.istore_n 2, 1) := by decide +kernel
theorem dX1_kneesIn_2 : decode cX1_kneesIn 2 = .ok (.iconst 0, 1) := by decide +kernel
theorem dX1_kneesIn_3 : decode cX1_kneesIn 3 = .ok (.istore_n 3, 1) := by decide +kernel
theorem dX1_kneesIn_4 : decode cX1_kneesIn 4 = .ok (.iload_n 3, 1) := by decide +kernel
theorem dX1_kneesIn_5 : decode cX1_kneesIn 5 = .ok (.iload_n 1, 1) := by decide +kernel
theorem dX1_kneesIn_6 : decode cX1_kneesIn 6 = .ok (.if_icmp .ge 47, 3) := by decide +kernel
theorem dX1_kneesIn_9 : decode cX1_kneesIn 9 = .ok (.iload_n 0, 1) := by decide +kernel
theorem dX1_kneesIn_10 : decode cX1_kneesIn 10 = .ok (.iload_n 3, 1) := by decide +kernel
theorem dX1_kneesIn_11 : decode cX1_kneesIn 11 = .ok (.invokestatic 13, 3) := by decide +kernel
theorem dX1_kneesIn_14 : decode cX1_kneesIn 14 = .ok (.istore 4, 2) := by decide +kernel
theorem dX1_kneesIn_16 : decode cX1_kneesIn 16 = .ok (.iload 4, 2) := by decide +kernel
theorem dX1_kneesIn_18 : decode cX1_kneesIn 18 = .ok (.ifCond .eq 29, 3) := by decide +kernel
theorem dX1_kneesIn_21 : decode cX1_kneesIn 21 = .ok (.iload_n 3, 1) := by decide +kernel
theorem dX1_kneesIn_22 : decode cX1_kneesIn 22 = .ok (.iload 4, 2) := by decide +kernel
theorem dX1_kneesIn_24 : decode cX1_kneesIn 24 = .ok (.iadd, 1) := by decide +kernel
theorem dX1_kneesIn_25 : decode cX1_kneesIn 25 = .ok (.iload_n 1, 1) := by decide +kernel
theorem dX1_kneesIn_26 : decode cX1_kneesIn 26 = .ok (.if_icmp .ge 21, 3) := by decide +kernel
theorem dX1_kneesIn_29 : decode cX1_kneesIn 29 = .ok (.iload_n 0, 1) := by decide +kernel
theorem dX1_kneesIn_30 : decode cX1_kneesIn 30 = .ok (.iload_n 3, 1) := by decide +kernel
theorem dX1_kneesIn_31 : decode cX1_kneesIn 31 = .ok (.iload 4, 2) := by decide +kernel
theorem dX1_kneesIn_33 : decode cX1_kneesIn 33 = .ok (.iadd, 1) := by decide +kernel
theorem dX1_kneesIn_34 : decode cX1_kneesIn 34 = .ok (.invokestatic 13, 3) := by decide +kernel
theorem dX1_kneesIn_37 : decode cX1_kneesIn 37 = .ok (.iload_n 1, 1) := by decide +kernel
theorem dX1_kneesIn_38 : decode cX1_kneesIn 38 = .ok (.iload 4, 2) := by decide +kernel
theorem dX1_kneesIn_40 : decode cX1_kneesIn 40 = .ok (.isub, 1) := by decide +kernel
theorem dX1_kneesIn_41 : decode cX1_kneesIn 41 = .ok (.if_icmp .ne 6, 3) := by decide +kernel
theorem dX1_kneesIn_44 : decode cX1_kneesIn 44 = .ok (.iinc 2 1, 3) := by decide +kernel
theorem dX1_kneesIn_47 : decode cX1_kneesIn 47 = .ok (.iinc 3 1, 3) := by decide +kernel
theorem dX1_kneesIn_50 : decode cX1_kneesIn 50 = .ok (.goto (-46), 3) := by decide +kernel
theorem dX1_kneesIn_53 : decode cX1_kneesIn 53 = .ok (.iload_n 2, 1) := by decide +kernel
theorem dX1_kneesIn_54 : decode cX1_kneesIn 54 = .ok (.ireturn, 1) := by decide +kernel
theorem dX2_init_0 : decode cX2_init 0 = .ok (.aload_n 0, 1) := by decide +kernel
theorem dX2_init_1 : decode cX2_init 1 = .ok (.invokespecial 3, 3) := by decide +kernel
theorem dX2_init_4 : decode cX2_init 4 = .ok (.aload_n 0, 1) := by decide +kernel
theorem dX2_init_5 : decode cX2_init 5 = .ok (.sipush 900, 3) := by decide +kernel
theorem dX2_init_8 : decode cX2_init 8 = .ok (.newarray .int, 2) := by decide +kernel
theorem dX2_init_10 : decode cX2_init 10 = .ok (.putfield 9, 3) := by decide +kernel
theorem dX2_init_13 : decode cX2_init 13 = .ok (.aload_n 0, 1) := by decide +kernel
theorem dX2_init_14 : decode cX2_init 14 = .ok (.bipush 64, 2) := by decide +kernel
theorem dX2_init_16 : decode cX2_init 16 = .ok (.newarray .int, 2) := by decide +kernel
theorem dX2_init_18 : decode cX2_init 18 = .ok (.putfield 15, 3) := by decide +kernel
theorem dX2_init_21 : decode cX2_init 21 = .ok (.aload_n 0, 1) := by decide +kernel
theorem dX2_init_22 : decode cX2_init 22 = .ok (.bipush 64, 2) := by decide +kernel
theorem dX2_init_24 : decode cX2_init 24 = .ok (.newarray .int, 2) := by decide +kernel
theorem dX2_init_26 : decode cX2_init 26 = .ok (.putfield 18, 3) := by decide +kernel
theorem dX2_init_29 : decode cX2_init 29 = .ok (.return_, 1) := by decide +kernel
theorem dX2_begin_0 : decode cX2_begin 0 = .ok (.aload_n 0, 1) := by decide +kernel
theorem dX2_begin_1 : decode cX2_begin 1 = .ok (.iload_n 1, 1) := by decide +kernel
theorem dX2_begin_2 : decode cX2_begin 2 = .ok (.putfield 21, 3) := by decide +kernel
theorem dX2_begin_5 : decode cX2_begin 5 = .ok (.aload_n 0, 1) := by decide +kernel
theorem dX2_begin_6 : decode cX2_begin 6 = .ok (.iconst 0, 1) := by decide +kernel
theorem dX2_begin_7 : decode cX2_begin 7 = .ok (.putfield 25, 3) := by decide +kernel
theorem dX2_begin_10 : decode cX2_begin 10 = .ok (.aload_n 0, 1) := by decide +kernel
theorem dX2_begin_11 : decode cX2_begin 11 = .ok (.iconst 0, 1) := by decide +kernel
theorem dX2_begin_12 : decode cX2_begin 12 = .ok (.putfield 28, 3) := by decide +kernel
theorem dX2_begin_15 : decode cX2_begin 15 = .ok (.aload_n 0, 1) := by decide +kernel
theorem dX2_begin_16 : decode cX2_begin 16 = .ok (.iconst 0, 1) := by decide +kernel
theorem dX2_begin_17 : decode cX2_begin 17 = .ok (.putfield 31, 3) := by decide +kernel
theorem dX2_begin_20 : decode cX2_begin 20 = .ok (.aload_n 0, 1) := by decide +kernel
theorem dX2_begin_21 : decode cX2_begin 21 = .ok (.iconst 0, 1) := by decide +kernel
theorem dX2_begin_22 : decode cX2_begin 22 = .ok (.putfield 34, 3) := by decide +kernel
theorem dX2_begin_25 : decode cX2_begin 25 = .ok (.aload_n 0, 1) := by decide +kernel
theorem dX2_begin_26 : decode cX2_begin 26 = .ok (.iconst 1, 1) := by decide +kernel
theorem dX2_begin_27 : decode cX2_begin 27 = .ok (.putfield 37, 3) := by decide +kernel
theorem dX2_begin_30 : decode cX2_begin 30 = .ok (.aload_n 0, 1) := by decide +kernel
theorem dX2_begin_31 : decode cX2_begin 31 = .ok (.iload_n 1, 1) := by decide +kernel
theorem dX2_begin_32 : decode cX2_begin 32 = .ok (.ifCond .ne 7, 3) := by decide +kernel
theorem dX2_begin_35 : decode cX2_begin 35 = .ok (.iconst 1, 1) := by decide +kernel
theorem dX2_begin_36 : decode cX2_begin 36 = .ok (.goto 4, 3) := by decide +kernel
theorem dX2_begin_39 : decode cX2_begin 39 = .ok (.iconst 0, 1) := by decide +kernel
theorem dX2_begin_40 : decode cX2_begin 40 = .ok (.putfield 41, 3) := by decide +kernel
theorem dX2_begin_43 : decode cX2_begin 43 = .ok (.aload_n 0, 1) := by decide +kernel
theorem dX2_begin_44 : decode cX2_begin 44 = .ok (.aload_n 0, 1) := by decide +kernel
theorem dX2_begin_45 : decode cX2_begin 45 = .ok (.getfield 41, 3) := by decide +kernel
theorem dX2_begin_48 : decode cX2_begin 48 = .ok (.ifCond .eq 7, 3) := by decide +kernel
theorem dX2_begin_51 : decode cX2_begin 51 = .ok (.iconst 1, 1) := by decide +kernel
theorem dX2_begin_52 : decode cX2_begin 52 = .ok (.goto 4, 3) := by decide +kernel
theorem dX2_begin_55 : decode cX2_begin 55 = .ok (.iconst 0, 1) := by decide +kernel
theorem dX2_begin_56 : decode cX2_begin 56 = .ok (.putfield 44, 3) := by decide +kernel
theorem dX2_begin_59 : decode cX2_begin 59 = .ok (.return_, 1) := by decide +kernel
theorem dX2_isWhole_0 : decode cX2_isWhole 0 = .ok (.aload_n 0, 1) := by decide +kernel
theorem dX2_isWhole_1 : decode cX2_isWhole 1 = .ok (.getfield 37, 3) := by decide +kernel
theorem dX2_isWhole_4 : decode cX2_isWhole 4 = .ok (.ifCond .ne 22, 3) := by decide +kernel
theorem dX2_isWhole_7 : decode cX2_isWhole 7 = .ok (.aload_n 0, 1) := by decide +kernel
theorem dX2_isWhole_8 : decode cX2_isWhole 8 = .ok (.getfield 34, 3) := by decide +kernel
theorem dX2_isWhole_11 : decode cX2_isWhole 11 = .ok (.ifCond .ne 15, 3) := by decide +kernel
theorem dX2_isWhole_14 : decode cX2_isWhole 14 = .ok (.aload_n 0, 1) := by decide +kernel
theorem dX2_isWhole_15 : decode cX2_isWhole 15 = .ok (.getfield 44, 3) := by decide +kernel
theorem dX2_isWhole_18 : decode cX2_isWhole 18 = .ok (.iconst 1, 1) := by decide +kernel
theorem dX2_isWhole_19 : decode cX2_isWhole 19 = .ok (.if_icmp .eq 7, 3) := by decide +kernel
theorem dX2_isWhole_22 : decode cX2_isWhole 22 = .ok (.iconst 1, 1) := by decide +kernel
theorem dX2_isWhole_23 : decode cX2_isWhole 23 = .ok (.goto 4, 3) := by decide +kernel
theorem dX2_isWhole_26 : decode cX2_isWhole 26 = .ok (.iconst 0, 1) := by decide +kernel
theorem dX2_isWhole_27 : decode cX2_isWhole 27 = .ok (.ireturn, 1) := by decide +kernel
theorem dX2_written_0 : decode cX2_written 0 = .ok (.aload_n 0, 1) := by decide +kernel
theorem dX2_written_1 : decode cX2_written 1 = .ok (.iconst 1, 1) := by decide +kernel
theorem dX2_written_2 : decode cX2_written 2 = .ok (.invokevirtual 47, 3) := by decide +kernel
theorem dX2_written_5 : decode cX2_written 5 = .ok (.aload_n 0, 1) := by decide +kernel
theorem dX2_written_6 : decode cX2_written 6 = .ok (.getfield 9, 3) := by decide +kernel
theorem dX2_written_9 : decode cX2_written 9 = .ok (.aload_n 0, 1) := by decide +kernel
theorem dX2_written_10 : decode cX2_written 10 = .ok (.getfield 25, 3) := by decide +kernel
theorem dX2_written_13 : decode cX2_written 13 = .ok (.invokestatic 51, 3) := by decide +kernel
theorem dX2_written_16 : decode cX2_written 16 = .ok (.areturn, 1) := by decide +kernel
theorem dX2_takeOperand_0 : decode cX2_takeOperand 0 = .ok (.aload_n 0, 1) := by decide +kernel
theorem dX2_takeOperand_1 : decode cX2_takeOperand 1 = .ok (.aload_n 1, 1) := by decide +kernel
theorem dX2_takeOperand_2 : decode cX2_takeOperand 2 = .ok (.invokevirtual 57, 3) := by decide +kernel
theorem dX2_takeOperand_5 : decode cX2_takeOperand 5 = .ok (.istore_n 2, 1) := by decide +kernel
theorem dX2_takeOperand_6 : decode cX2_takeOperand 6 = .ok (.aload_n 1, 1) := by decide +kernel
theorem dX2_takeOperand_7 : decode cX2_takeOperand 7 = .ok (.getfield 61, 3) := by decide +kernel
theorem dX2_takeOperand_10 : decode cX2_takeOperand 10 = .ok (.iconst 2, 1) := by decide +kernel
theorem dX2_takeOperand_11 : decode cX2_takeOperand 11 = .ok (.if_icmp .eq 7, 3) := by decide +kernel
theorem dX2_takeOperand_14 : decode cX2_takeOperand 14 = .ok (.iload_n 2, 1) := by decide +kernel
theorem dX2_takeOperand_15 : decode cX2_takeOperand 15 = .ok (.ifCond .eq 26, 3) := by decide +kernel
theorem dX2_takeOperand_18 : decode cX2_takeOperand 18 = .ok (.aload_n 0, 1) := by decide +kernel
theorem dX2_takeOperand_19 : decode cX2_takeOperand 19 = .ok (.iload_n 2, 1) := by decide +kernel
theorem dX2_takeOperand_20 : decode cX2_takeOperand 20 = .ok (.ifCond .eq 7, 3) := by decide +kernel
theorem dX2_takeOperand_23 : decode cX2_takeOperand 23 = .ok (.iload_n 2, 1) := by decide +kernel
theorem dX2_takeOperand_24 : decode cX2_takeOperand 24 = .ok (.goto 7, 3) := by decide +kernel
theorem dX2_takeOperand_27 : decode cX2_takeOperand 27 = .ok (.aload_n 1, 1) := by decide +kernel
theorem dX2_takeOperand_28 : decode cX2_takeOperand 28 = .ok (.getfield 66, 3) := by decide +kernel
theorem dX2_takeOperand_31 : decode cX2_takeOperand 31 = .ok (.invokevirtual 69, 3) := by decide +kernel
theorem dX2_takeOperand_34 : decode cX2_takeOperand 34 = .ok (.aload_n 0, 1) := by decide +kernel
theorem dX2_takeOperand_35 : decode cX2_takeOperand 35 = .ok (.iconst 0, 1) := by decide +kernel
theorem dX2_takeOperand_36 : decode cX2_takeOperand 36 = .ok (.putfield 37, 3) := by decide +kernel
theorem dX2_takeOperand_39 : decode cX2_takeOperand 39 = .ok (.iconst 0, 1) := by decide +kernel
theorem dX2_takeOperand_40 : decode cX2_takeOperand 40 = .ok (.ireturn, 1) := by decide +kernel
theorem dX2_takeOperand_41 : decode cX2_takeOperand 41 = .ok (.aload_n 0, 1) := by decide +kernel
theorem dX2_takeOperand_42 : decode cX2_takeOperand 42 = .ok (.getfield 41, 3) := by decide +kernel
theorem dX2_takeOperand_45 : decode cX2_takeOperand 45 = .ok (.ifCond .eq 19, 3) := by decide +kernel
theorem dX2_takeOperand_48 : decode cX2_takeOperand 48 = .ok (.aload_n 1, 1) := by decide +kernel
theorem dX2_takeOperand_49 : decode cX2_takeOperand 49 = .ok (.ldc 72, 2) := by decide +kernel
theorem dX2_takeOperand_51 : decode cX2_takeOperand 51 = .ok (.invokevirtual 74, 3) := by decide +kernel
theorem dX2_takeOperand_54 : decode cX2_takeOperand 54 = .ok (.ifCond .eq 10, 3) := by decide +kernel
theorem dX2_takeOperand_57 : decode cX2_takeOperand 57 = .ok (.aload_n 0, 1) := by decide +kernel
theorem dX2_takeOperand_58 : decode cX2_takeOperand 58 = .ok (.bipush (-11), 2) := by decide +kernel
theorem dX2_takeOperand_60 : decode cX2_takeOperand 60 = .ok (.invokevirtual 80, 3) := by decide +kernel
theorem dX2_takeOperand_63 : decode cX2_takeOperand 63 = .ok (.ireturn, 1) := by decide +kernel
theorem dX2_takeOperand_64 : decode cX2_takeOperand 64 = .ok (.aload_n 0, 1) := by decide +kernel
theorem dX2_takeOperand_65 : decode cX2_takeOperand 65 = .ok (.getfield 41, 3) := by decide +kernel
theorem dX2_takeOperand_68 : decode cX2_takeOperand 68 = .ok (.ifCond .eq 19, 3) := by decide +kernel
theorem dX2_takeOperand_71 : decode cX2_takeOperand 71 = .ok (.aload_n 1, 1) := by decide +kernel
theorem dX2_takeOperand_72 : decode cX2_takeOperand 72 = .ok (.bipush 91, 2) := by decide +kernel
theorem dX2_takeOperand_74 : decode cX2_takeOperand 74 = .ok (.invokevirtual 84, 3) := by decide +kernel
theorem dX2_takeOperand_77 : decode cX2_takeOperand 77 = .ok (.ifCond .eq 10, 3) := by decide +kernel
theorem dX2_takeOperand_80 : decode cX2_takeOperand 80 = .ok (.aload_n 0, 1) := by decide +kernel
theorem dX2_takeOperand_81 : decode cX2_takeOperand 81 = .ok (.bipush (-15), 2) := by decide +kernel
theorem dX2_takeOperand_83 : decode cX2_takeOperand 83 = .ok (.invokevirtual 80, 3) := by decide +kernel
theorem dX2_takeOperand_86 : decode cX2_takeOperand 86 = .ok (.ireturn, 1) := by decide +kernel
theorem dX2_takeOperand_87 : decode cX2_takeOperand 87 = .ok (.aload_n 1, 1) := by decide +kernel
theorem dX2_takeOperand_88 : decode cX2_takeOperand 88 = .ok (.bipush 40, 2) := by decide +kernel
theorem dX2_takeOperand_90 : decode cX2_takeOperand 90 = .ok (.invokevirtual 84, 3) := by decide +kernel
theorem dX2_takeOperand_93 : decode cX2_takeOperand 93 = .ok (.ifCond .eq 12, 3) := by decide +kernel
theorem dX2_takeOperand_96 : decode cX2_takeOperand 96 = .ok (.aload_n 0, 1) := by decide +kernel
theorem dX2_takeOperand_97 : decode cX2_takeOperand 97 = .ok (.bipush (-14), 2) := by decide +kernel
theorem dX2_takeOperand_99 : decode cX2_takeOperand 99 = .ok (.invokevirtual 80, 3) := by decide +kernel
theorem dX2_takeOperand_102 : decode cX2_takeOperand 102 = .ok (.goto 4, 3) := by decide +kernel
theorem dX2_takeOperand_105 : decode cX2_takeOperand 105 = .ok (.iconst 2, 1) := by decide +kernel
theorem dX2_takeOperand_106 : decode cX2_takeOperand 106 = .ok (.ireturn, 1) := by decide +kernel
theorem dX2_open_0 : decode cX2_open 0 = .ok (.aload_n 0, 1) := by decide +kernel
theorem dX2_open_1 : decode cX2_open 1 = .ok (.getfield 31, 3) := by decide +kernel
theorem dX2_open_4 : decode cX2_open 4 = .ok (.bipush 6, 2) := by decide +kernel
theorem dX2_open_6 : decode cX2_open 6 = .ok (.if_icmp .lt 5, 3) := by decide +kernel
theorem dX2_open_9 : decode cX2_open 9 = .ok (.iconst 4, 1) := by decide +kernel
theorem dX2_open_10 : decode cX2_open 10 = .ok (.ireturn, 1) := by decide +kernel
theorem dX2_open_11 : decode cX2_open 11 = .ok (.aload_n 0, 1) := by decide +kernel
theorem dX2_open_12 : decode cX2_open 12 = .ok (.dup, 1) := by decide +kernel
theorem dX2_open_13 : decode cX2_open 13 = .ok (.getfield 31, 3) := by decide +kernel
theorem dX2_open_16 : decode cX2_open 16 = .ok (.iconst 1, 1) := by decide +kernel
theorem dX2_open_17 : decode cX2_open 17 = .ok (.iadd, 1) := by decide +kernel
theorem dX2_open_18 : decode cX2_open 18 = .ok (.putfield 31, 3) := by decide +kernel
theorem dX2_open_21 : decode cX2_open 21 = .ok (.aload_n 0, 1) := by decide +kernel
theorem dX2_open_22 : decode cX2_open 22 = .ok (.iload_n 1, 1) := by decide +kernel
theorem dX2_open_23 : decode cX2_open 23 = .ok (.invokevirtual 88, 3) := by decide +kernel
theorem dX2_open_26 : decode cX2_open 26 = .ok (.iload_n 1, 1) := by decide +kernel
theorem dX2_open_27 : decode cX2_open 27 = .ok (.bipush (-11), 2) := by decide +kernel
theorem dX2_open_29 : decode cX2_open 29 = .ok (.if_icmp .eq 13, 3) := by decide +kernel
theorem dX2_open_32 : decode cX2_open 32 = .ok (.aload_n 0, 1) := by decide +kernel
theorem dX2_open_33 : decode cX2_open 33 = .ok (.dup, 1) := by decide +kernel
theorem dX2_open_34 : decode cX2_open 34 = .ok (.getfield 34, 3) := by decide +kernel
theorem dX2_open_37 : decode cX2_open 37 = .ok (.iconst 1, 1) := by decide +kernel
theorem dX2_open_38 : decode cX2_open 38 = .ok (.iadd, 1) := by decide +kernel
theorem dX2_open_39 : decode cX2_open 39 = .ok (.putfield 34, 3) := by decide +kernel
theorem dX2_open_42 : decode cX2_open 42 = .ok (.iload_n 1, 1) := by decide +kernel
theorem dX2_open_43 : decode cX2_open 43 = .ok (.bipush (-14), 2) := by decide +kernel
theorem dX2_open_45 : decode cX2_open 45 = .ok (.if_icmp .ne 13, 3) := by decide +kernel
theorem dX2_open_48 : decode cX2_open 48 = .ok (.aload_n 0, 1) := by decide +kernel
theorem dX2_open_49 : decode cX2_open 49 = .ok (.iconst 0, 1) := by decide +kernel
theorem dX2_open_50 : decode cX2_open 50 = .ok (.putfield 44, 3) := by decide +kernel
theorem dX2_open_53 : decode cX2_open 53 = .ok (.aload_n 0, 1) := by decide +kernel
theorem dX2_open_54 : decode cX2_open 54 = .ok (.iconst 0, 1) := by decide +kernel
theorem dX2_open_55 : decode cX2_open 55 = .ok (.putfield 41, 3) := by decide +kernel
theorem dX2_open_58 : decode cX2_open 58 = .ok (.iconst 0, 1) := by decide +kernel
theorem dX2_open_59 : decode cX2_open 59 = .ok (.ireturn, 1) := by decide +kernel
theorem dX2_takeLink_0 : decode cX2_takeLink 0 = .ok (.aload_n 0, 1) := by decide +kernel
theorem dX2_takeLink_1 : decode cX2_takeLink 1 = .ok (.getfield 44, 3) := by decide +kernel
theorem dX2_takeLink_4 : decode cX2_takeLink 4 = .ok (.iconst 2, 1) := by decide +kernel
theorem dX2_takeLink_5 : decode cX2_takeLink 5 = .ok (.if_icmp .eq 11, 3) := by decide +kernel
theorem dX2_takeLink_8 : decode cX2_takeLink 8 = .ok (.aload_n 0, 1) := by decide +kernel
theorem dX2_takeLink_9 : decode cX2_takeLink 9 = .ok (.getfield 44, 3) := by decide +kernel
theorem dX2_takeLink_12 : decode cX2_takeLink 12 = .ok (.iconst 3, 1) := by decide +kernel
theorem dX2_takeLink_13 : decode cX2_takeLink 13 = .ok (.if_icmp .ne 7, 3) := by decide +kernel
theorem dX2_takeLink_16 : decode cX2_takeLink 16 = .ok (.iconst 1, 1) := by decide +kernel
theorem dX2_takeLink_17 : decode cX2_takeLink 17 = .ok (.goto 4, 3) := by decide +kernel
theorem dX2_takeLink_20 : decode cX2_takeLink 20 = .ok (.iconst 0, 1) := by decide +kernel
theorem dX2_takeLink_21 : decode cX2_takeLink 21 = .ok (.istore_n 2, 1) := by decide +kernel
theorem dX2_takeLink_22 : decode cX2_takeLink 22 = .ok (.iload_n 2, 1) := by decide +kernel
theorem dX2_takeLink_23 : decode cX2_takeLink 23 = .ok (.ifCond .eq 53, 3) := by decide +kernel
theorem dX2_takeLink_26 : decode cX2_takeLink 26 = .ok (.aload_n 1, 1) := by decide +kernel
theorem dX2_takeLink_27 : decode cX2_takeLink 27 = .ok (.ldc 91, 2) := by decide +kernel
theorem dX2_takeLink_29 : decode cX2_takeLink 29 = .ok (.invokevirtual 74, 3) := by decide +kernel
theorem dX2_takeLink_32 : decode cX2_takeLink 32 = .ok (.ifCond .ne 12, 3) := by decide +kernel
theorem dX2_takeLink_35 : decode cX2_takeLink 35 = .ok (.aload_n 1, 1) := by decide +kernel
theorem dX2_takeLink_36 : decode cX2_takeLink 36 = .ok (.ldc 93, 2) := by decide +kernel
theorem dX2_takeLink_38 : decode cX2_takeLink 38 = .ok (.invokevirtual 74, 3) := by decide +kernel
theorem dX2_takeLink_41 : decode cX2_takeLink 41 = .ok (.ifCond .eq 35, 3) := by decide +kernel
theorem dX2_takeLink_44 : decode cX2_takeLink 44 = .ok (.aload_n 0, 1) := by decide +kernel
theorem dX2_takeLink_45 : decode cX2_takeLink 45 = .ok (.aload_n 1, 1) := by decide +kernel
theorem dX2_takeLink_46 : decode cX2_takeLink 46 = .ok (.ldc 91, 2) := by decide +kernel
theorem dX2_takeLink_48 : decode cX2_takeLink 48 = .ok (.invokevirtual 74, 3) := by decide +kernel
theorem dX2_takeLink_51 : decode cX2_takeLink 51 = .ok (.ifCond .eq 8, 3) := by decide +kernel
theorem dX2_takeLink_54 : decode cX2_takeLink 54 = .ok (.bipush (-12), 2) := by decide +kernel
theorem dX2_takeLink_56 : decode cX2_takeLink 56 = .ok (.goto 5, 3) := by decide +kernel
theorem dX2_takeLink_59 : decode cX2_takeLink 59 = .ok (.bipush (-13), 2) := by decide +kernel
theorem dX2_takeLink_61 : decode cX2_takeLink 61 = .ok (.invokevirtual 95, 3) := by decide +kernel
theorem dX2_takeLink_64 : decode cX2_takeLink 64 = .ok (.aload_n 0, 1) := by decide +kernel
theorem dX2_takeLink_65 : decode cX2_takeLink 65 = .ok (.iconst 1, 1) := by decide +kernel
theorem dX2_takeLink_66 : decode cX2_takeLink 66 = .ok (.putfield 44, 3) := by decide +kernel
theorem dX2_takeLink_69 : decode cX2_takeLink 69 = .ok (.aload_n 0, 1) := by decide +kernel
theorem dX2_takeLink_70 : decode cX2_takeLink 70 = .ok (.iconst 1, 1) := by decide +kernel
theorem dX2_takeLink_71 : decode cX2_takeLink 71 = .ok (.putfield 41, 3) := by decide +kernel
theorem dX2_takeLink_74 : decode cX2_takeLink 74 = .ok (.iconst 0, 1) := by decide +kernel
theorem dX2_takeLink_75 : decode cX2_takeLink 75 = .ok (.ireturn, 1) := by decide +kernel
theorem dX2_takeLink_76 : decode cX2_takeLink 76 = .ok (.aload_n 0, 1) := by decide +kernel
theorem dX2_takeLink_77 : decode cX2_takeLink 77 = .ok (.getfield 34, 3) := by decide +kernel
theorem dX2_takeLink_80 : decode cX2_takeLink 80 = .ok (.ifCond .le 41, 3) := by decide +kernel
theorem dX2_takeLink_83 : decode cX2_takeLink 83 = .ok (.iload_n 2, 1) := by decide +kernel
theorem dX2_takeLink_84 : decode cX2_takeLink 84 = .ok (.ifCond .eq 15, 3) := by decide +kernel
theorem dX2_takeLink_87 : decode cX2_takeLink 87 = .ok (.aload_n 1, 1) := by decide +kernel
theorem dX2_takeLink_88 : decode cX2_takeLink 88 = .ok (.bipush 93, 2) := by decide +kernel
theorem dX2_takeLink_90 : decode cX2_takeLink 90 = .ok (.invokevirtual 84, 3) := by decide +kernel
theorem dX2_takeLink_93 : decode cX2_takeLink 93 = .ok (.ifCond .eq 28, 3) := by decide +kernel
theorem dX2_takeLink_96 : decode cX2_takeLink 96 = .ok (.goto 19, 3) := by decide +kernel
theorem dX2_takeLink_99 : decode cX2_takeLink 99 = .ok (.aload_n 0, 1) := by decide +kernel
theorem dX2_takeLink_100 : decode cX2_takeLink 100 = .ok (.getfield 44, 3) := by decide +kernel
theorem dX2_takeLink_103 : decode cX2_takeLink 103 = .ok (.ifCond .ne 18, 3) := by decide +kernel
theorem dX2_takeLink_106 : decode cX2_takeLink 106 = .ok (.aload_n 1, 1) := by decide +kernel
theorem dX2_takeLink_107 : decode cX2_takeLink 107 = .ok (.bipush 41, 2) := by decide +kernel
theorem dX2_takeLink_109 : decode cX2_takeLink 109 = .ok (.invokevirtual 84, 3) := by decide +kernel
theorem dX2_takeLink_112 : decode cX2_takeLink 112 = .ok (.ifCond .eq 9, 3) := by decide +kernel
theorem dX2_takeLink_115 : decode cX2_takeLink 115 = .ok (.aload_n 0, 1) := by decide +kernel
theorem dX2_takeLink_116 : decode cX2_takeLink 116 = .ok (.invokevirtual 98, 3) := by decide +kernel
theorem dX2_takeLink_119 : decode cX2_takeLink 119 = .ok (.iconst 0, 1) := by decide +kernel
theorem dX2_takeLink_120 : decode cX2_takeLink 120 = .ok (.ireturn, 1) := by decide +kernel
theorem dX2_takeLink_121 : decode cX2_takeLink 121 = .ok (.aload_n 1, 1) := by decide +kernel
theorem dX2_takeLink_122 : decode cX2_takeLink 122 = .ok (.getfield 61, 3) := by decide +kernel
theorem dX2_takeLink_125 : decode cX2_takeLink 125 = .ok (.iconst 3, 1) := by decide +kernel
theorem dX2_takeLink_126 : decode cX2_takeLink 126 = .ok (.if_icmp .ne 13, 3) := by decide +kernel
theorem dX2_takeLink_129 : decode cX2_takeLink 129 = .ok (.aload_n 1, 1) := by decide +kernel
theorem dX2_takeLink_130 : decode cX2_takeLink 130 = .ok (.getfield 66, 3) := by decide +kernel
theorem dX2_takeLink_133 : decode cX2_takeLink 133 = .ok (.invokestatic 101, 3) := by decide +kernel
theorem dX2_takeLink_136 : decode cX2_takeLink 136 = .ok (.goto 4, 3) := by decide +kernel
theorem dX2_takeLink_139 : decode cX2_takeLink 139 = .ok (.iconst 0, 1) := by decide +kernel
theorem dX2_takeLink_140 : decode cX2_takeLink 140 = .ok (.istore_n 3, 1) := by decide +kernel
theorem dX2_takeLink_141 : decode cX2_takeLink 141 = .ok (.iload_n 3, 1) := by decide +kernel
theorem dX2_takeLink_142 : decode cX2_takeLink 142 = .ok (.ifCond .ne 5, 3) := by decide +kernel
theorem dX2_takeLink_145 : decode cX2_takeLink 145 = .ok (.iconst 2, 1) := by decide +kernel
theorem dX2_takeLink_146 : decode cX2_takeLink 146 = .ok (.ireturn, 1) := by decide +kernel
theorem dX2_takeLink_147 : decode cX2_takeLink 147 = .ok (.iload_n 3, 1) := by decide +kernel
theorem dX2_takeLink_148 : decode cX2_takeLink 148 = .ok (.invokestatic 104, 3) := by decide +kernel
theorem dX2_takeLink_151 : decode cX2_takeLink 151 = .ok (.istore 4, 2) := by decide +kernel
theorem dX2_takeLink_153 : decode cX2_takeLink 153 = .ok (.iload 4, 2) := by decide +kernel
theorem dX2_takeLink_155 : decode cX2_takeLink 155 = .ok (.ifCond .eq 14, 3) := by decide +kernel
theorem dX2_takeLink_158 : decode cX2_takeLink 158 = .ok (.aload_n 0, 1) := by decide +kernel
theorem dX2_takeLink_159 : decode cX2_takeLink 159 = .ok (.getfield 44, 3) := by decide +kernel
theorem dX2_takeLink_162 : decode cX2_takeLink 162 = .ok (.iconst 1, 1) := by decide +kernel
theorem dX2_takeLink_163 : decode cX2_takeLink 163 = .ok (.if_icmp .eq 16, 3) := by decide +kernel
theorem dX2_takeLink_166 : decode cX2_takeLink 166 = .ok (.goto 11, 3) := by decide +kernel
theorem dX2_takeLink_169 : decode cX2_takeLink 169 = .ok (.aload_n 0, 1) := by decide +kernel
theorem dX2_takeLink_170 : decode cX2_takeLink 170 = .ok (.getfield 44, 3) := by decide +kernel
theorem dX2_takeLink_173 : decode cX2_takeLink 173 = .ok (.iconst 3, 1) := by decide +kernel
theorem dX2_takeLink_174 : decode cX2_takeLink 174 = .ok (.if_icmp .ne 5, 3) := by decide +kernel
theorem dX2_takeLink_177 : decode cX2_takeLink 177 = .ok (.iconst 2, 1) := by decide +kernel
theorem dX2_takeLink_178 : decode cX2_takeLink 178 = .ok (.ireturn, 1) := by decide +kernel
theorem dX2_takeLink_179 : decode cX2_takeLink 179 = .ok (.aload_n 0, 1) := by decide +kernel
theorem dX2_takeLink_180 : decode cX2_takeLink 180 = .ok (.iload_n 3, 1) := by decide +kernel
theorem dX2_takeLink_181 : decode cX2_takeLink 181 = .ok (.invokevirtual 95, 3) := by decide +kernel
theorem dX2_takeLink_184 : decode cX2_takeLink 184 = .ok (.aload_n 0, 1) := by decide +kernel
theorem dX2_takeLink_185 : decode cX2_takeLink 185 = .ok (.iload 4, 2) := by decide +kernel
theorem dX2_takeLink_187 : decode cX2_takeLink 187 = .ok (.ifCond .eq 7, 3) := by decide +kernel
theorem dX2_takeLink_190 : decode cX2_takeLink 190 = .ok (.iconst 2, 1) := by decide +kernel
theorem dX2_takeLink_191 : decode cX2_takeLink 191 = .ok (.goto 7, 3) := by decide +kernel
theorem dX2_takeLink_194 : decode cX2_takeLink 194 = .ok (.aload_n 0, 1) := by decide +kernel
theorem dX2_takeLink_195 : decode cX2_takeLink 195 = .ok (.getfield 44, 3) := by decide +kernel
theorem dX2_takeLink_198 : decode cX2_takeLink 198 = .ok (.putfield 44, 3) := by decide +kernel
theorem dX2_takeLink_201 : decode cX2_takeLink 201 = .ok (.aload_n 0, 1) := by decide +kernel
theorem dX2_takeLink_202 : decode cX2_takeLink 202 = .ok (.iconst 0, 1) := by decide +kernel
theorem dX2_takeLink_203 : decode cX2_takeLink 203 = .ok (.putfield 41, 3) := by decide +kernel
theorem dX2_takeLink_206 : decode cX2_takeLink 206 = .ok (.iconst 0, 1) := by decide +kernel
theorem dX2_takeLink_207 : decode cX2_takeLink 207 = .ok (.ireturn, 1) := by decide +kernel
theorem dX2_link_0 : decode cX2_link 0 = .ok (.aload_n 0, 1) := by decide +kernel
theorem dX2_link_1 : decode cX2_link 1 = .ok (.iload_n 1, 1) := by decide +kernel
theorem dX2_link_2 : decode cX2_link 2 = .ok (.invokestatic 108, 3) := by decide +kernel
theorem dX2_link_5 : decode cX2_link 5 = .ok (.invokevirtual 47, 3) := by decide +kernel
theorem dX2_link_8 : decode cX2_link 8 = .ok (.aload_n 0, 1) := by decide +kernel
theorem dX2_link_9 : decode cX2_link 9 = .ok (.iload_n 1, 1) := by decide +kernel
theorem dX2_link_10 : decode cX2_link 10 = .ok (.invokevirtual 88, 3) := by decide +kernel
theorem dX2_link_13 : decode cX2_link 13 = .ok (.aload_n 0, 1) := by decide +kernel
theorem dX2_link_14 : decode cX2_link 14 = .ok (.iconst 1, 1) := by decide +kernel
theorem dX2_link_15 : decode cX2_link 15 = .ok (.putfield 37, 3) := by decide +kernel
theorem dX2_link_18 : decode cX2_link 18 = .ok (.return_, 1) := by decide +kernel
theorem dX2_close_0 : decode cX2_close 0 = .ok (.aload_n 0, 1) := by decide +kernel
theorem dX2_close_1 : decode cX2_close 1 = .ok (.iconst 1, 1) := by decide +kernel
theorem dX2_close_2 : decode cX2_close 2 = .ok (.invokevirtual 47, 3) := by decide +kernel
theorem dX2_close_5 : decode cX2_close 5 = .ok (.aload_n 0, 1) := by decide +kernel
theorem dX2_close_6 : decode cX2_close 6 = .ok (.getfield 28, 3) := by decide +kernel
theorem dX2_close_9 : decode cX2_close 9 = .ok (.ifCond .le 44, 3) := by decide +kernel
theorem dX2_close_12 : decode cX2_close 12 = .ok (.aload_n 0, 1) := by decide +kernel
theorem dX2_close_13 : decode cX2_close 13 = .ok (.dup, 1) := by decide +kernel
theorem dX2_close_14 : decode cX2_close 14 = .ok (.getfield 28, 3) := by decide +kernel
theorem dX2_close_17 : decode cX2_close 17 = .ok (.iconst 1, 1) := by decide +kernel
theorem dX2_close_18 : decode cX2_close 18 = .ok (.isub, 1) := by decide +kernel
theorem dX2_close_19 : decode cX2_close 19 = .ok (.putfield 28, 3) := by decide +kernel
theorem dX2_close_22 : decode cX2_close 22 = .ok (.aload_n 0, 1) := by decide +kernel
theorem dX2_close_23 : decode cX2_close 23 = .ok (.aload_n 0, 1) := by decide +kernel
theorem dX2_close_24 : decode cX2_close 24 = .ok (.getfield 15, 3) := by decide +kernel
theorem dX2_close_27 : decode cX2_close 27 = .ok (.aload_n 0, 1) := by decide +kernel
theorem dX2_close_28 : decode cX2_close 28 = .ok (.getfield 28, 3) := by decide +kernel
theorem dX2_close_31 : decode cX2_close 31 = .ok (.iaload, 1) := by decide +kernel
theorem dX2_close_32 : decode cX2_close 32 = .ok (.bipush (-15), 2) := by decide +kernel
theorem dX2_close_34 : decode cX2_close 34 = .ok (.if_icmp .ne 7, 3) := by decide +kernel
theorem dX2_close_37 : decode cX2_close 37 = .ok (.iconst 3, 1) := by decide +kernel
theorem dX2_close_38 : decode cX2_close 38 = .ok (.goto 12, 3) := by decide +kernel
theorem dX2_close_41 : decode cX2_close 41 = .ok (.aload_n 0, 1) := by decide +kernel
theorem dX2_close_42 : decode cX2_close 42 = .ok (.getfield 18, 3) := by decide +kernel
theorem dX2_close_45 : decode cX2_close 45 = .ok (.aload_n 0, 1) := by decide +kernel
theorem dX2_close_46 : decode cX2_close 46 = .ok (.getfield 28, 3) := by decide +kernel
theorem dX2_close_49 : decode cX2_close 49 = .ok (.iaload, 1) := by decide +kernel
theorem dX2_close_50 : decode cX2_close 50 = .ok (.putfield 44, 3) := by decide +kernel
theorem dX2_close_53 : decode cX2_close 53 = .ok (.aload_n 0, 1) := by decide +kernel
theorem dX2_close_54 : decode cX2_close 54 = .ok (.dup, 1) := by decide +kernel
theorem dX2_close_55 : decode cX2_close 55 = .ok (.getfield 34, 3) := by decide +kernel
theorem dX2_close_58 : decode cX2_close 58 = .ok (.iconst 1, 1) := by decide +kernel
theorem dX2_close_59 : decode cX2_close 59 = .ok (.isub, 1) := by decide +kernel
theorem dX2_close_60 : decode cX2_close 60 = .ok (.putfield 34, 3) := by decide +kernel
theorem dX2_close_63 : decode cX2_close 63 = .ok (.aload_n 0, 1) := by decide +kernel
theorem dX2_close_64 : decode cX2_close 64 = .ok (.dup, 1) := by decide +kernel
theorem dX2_close_65 : decode cX2_close 65 = .ok (.getfield 31, 3) := by decide +kernel
theorem dX2_close_68 : decode cX2_close 68 = .ok (.iconst 1, 1) := by decide +kernel
theorem dX2_close_69 : decode cX2_close 69 = .ok (.isub, 1) := by decide +kernel
theorem dX2_close_70 : decode cX2_close 70 = .ok (.putfield 31, 3) := by decide +kernel
theorem dX2_close_73 : decode cX2_close 73 = .ok (.return_, 1) := by decide +kernel
theorem dX2_unwind_0 : decode cX2_unwind 0 = .ok (.aload_n 0, 1) := by decide +kernel
theorem dX2_unwind_1 : decode cX2_unwind 1 = .ok (.getfield 28, 3) := by decide +kernel
theorem dX2_unwind_4 : decode cX2_unwind 4 = .ok (.ifCond .le 71, 3) := by decide +kernel
theorem dX2_unwind_7 : decode cX2_unwind 7 = .ok (.aload_n 0, 1) := by decide +kernel
theorem dX2_unwind_8 : decode cX2_unwind 8 = .ok (.getfield 15, 3) := by decide +kernel
theorem dX2_unwind_11 : decode cX2_unwind 11 = .ok (.aload_n 0, 1) := by decide +kernel
theorem dX2_unwind_12 : decode cX2_unwind 12 = .ok (.getfield 28, 3) := by decide +kernel
theorem dX2_unwind_15 : decode cX2_unwind 15 = .ok (.iconst 1, 1) := by decide +kernel
theorem dX2_unwind_16 : decode cX2_unwind 16 = .ok (.isub, 1) := by decide +kernel
theorem dX2_unwind_17 : decode cX2_unwind 17 = .ok (.iaload, 1) := by decide +kernel
theorem dX2_unwind_18 : decode cX2_unwind 18 = .ok (.invokestatic 108, 3) := by decide +kernel
theorem dX2_unwind_21 : decode cX2_unwind 21 = .ok (.iload_n 1, 1) := by decide +kernel
theorem dX2_unwind_22 : decode cX2_unwind 22 = .ok (.if_icmp .lt 53, 3) := by decide +kernel
theorem dX2_unwind_25 : decode cX2_unwind 25 = .ok (.aload_n 0, 1) := by decide +kernel
theorem dX2_unwind_26 : decode cX2_unwind 26 = .ok (.dup, 1) := by decide +kernel
theorem dX2_unwind_27 : decode cX2_unwind 27 = .ok (.getfield 28, 3) := by decide +kernel
theorem dX2_unwind_30 : decode cX2_unwind 30 = .ok (.iconst 1, 1) := by decide +kernel
theorem dX2_unwind_31 : decode cX2_unwind 31 = .ok (.isub, 1) := by decide +kernel
theorem dX2_unwind_32 : decode cX2_unwind 32 = .ok (.putfield 28, 3) := by decide +kernel
theorem dX2_unwind_35 : decode cX2_unwind 35 = .ok (.aload_n 0, 1) := by decide +kernel
theorem dX2_unwind_36 : decode cX2_unwind 36 = .ok (.aload_n 0, 1) := by decide +kernel
theorem dX2_unwind_37 : decode cX2_unwind 37 = .ok (.getfield 15, 3) := by decide +kernel
theorem dX2_unwind_40 : decode cX2_unwind 40 = .ok (.aload_n 0, 1) := by decide +kernel
theorem dX2_unwind_41 : decode cX2_unwind 41 = .ok (.getfield 28, 3) := by decide +kernel
theorem dX2_unwind_44 : decode cX2_unwind 44 = .ok (.iaload, 1) := by decide +kernel
theorem dX2_unwind_45 : decode cX2_unwind 45 = .ok (.invokevirtual 69, 3) := by decide +kernel
theorem dX2_unwind_48 : decode cX2_unwind 48 = .ok (.aload_n 0, 1) := by decide +kernel
theorem dX2_unwind_49 : decode cX2_unwind 49 = .ok (.getfield 15, 3) := by decide +kernel
theorem dX2_unwind_52 : decode cX2_unwind 52 = .ok (.aload_n 0, 1) := by decide +kernel
theorem dX2_unwind_53 : decode cX2_unwind 53 = .ok (.getfield 28, 3) := by decide +kernel
theorem dX2_unwind_56 : decode cX2_unwind 56 = .ok (.iaload, 1) := by decide +kernel
theorem dX2_unwind_57 : decode cX2_unwind 57 = .ok (.bipush (-11), 2) := by decide +kernel
theorem dX2_unwind_59 : decode cX2_unwind 59 = .ok (.if_icmp .ne (-59), 3) := by decide +kernel
theorem dX2_unwind_62 : decode cX2_unwind 62 = .ok (.aload_n 0, 1) := by decide +kernel
theorem dX2_unwind_63 : decode cX2_unwind 63 = .ok (.dup, 1) := by decide +kernel
theorem dX2_unwind_64 : decode cX2_unwind 64 = .ok (.getfield 31, 3) := by decide +kernel
theorem dX2_unwind_67 : decode cX2_unwind 67 = .ok (.iconst 1, 1) := by decide +kernel
theorem dX2_unwind_68 : decode cX2_unwind 68 = .ok (.isub, 1) := by decide +kernel
theorem dX2_unwind_69 : decode cX2_unwind 69 = .ok (.putfield 31, 3) := by decide +kernel
theorem dX2_unwind_72 : decode cX2_unwind 72 = .ok (.goto (-72), 3) := by decide +kernel
theorem dX2_unwind_75 : decode cX2_unwind 75 = .ok (.return_, 1) := by decide +kernel
theorem dX2_nameOf_0 : decode cX2_nameOf 0 = .ok (.aload_n 1, 1) := by decide +kernel
theorem dX2_nameOf_1 : decode cX2_nameOf 1 = .ok (.ldc 111, 2) := by decide +kernel
theorem dX2_nameOf_3 : decode cX2_nameOf 3 = .ok (.invokevirtual 74, 3) := by decide +kernel
theorem dX2_nameOf_6 : decode cX2_nameOf 6 = .ok (.ifCond .eq 5, 3) := by decide +kernel
theorem dX2_nameOf_9 : decode cX2_nameOf 9 = .ok (.iconst (-1), 1) := by decide +kernel
theorem dX2_nameOf_10 : decode cX2_nameOf 10 = .ok (.ireturn, 1) := by decide +kernel
theorem dX2_nameOf_11 : decode cX2_nameOf 11 = .ok (.aload_n 1, 1) := by decide +kernel
theorem dX2_nameOf_12 : decode cX2_nameOf 12 = .ok (.ldc 113, 2) := by decide +kernel
theorem dX2_nameOf_14 : decode cX2_nameOf 14 = .ok (.invokevirtual 74, 3) := by decide +kernel
theorem dX2_nameOf_17 : decode cX2_nameOf 17 = .ok (.ifCond .eq 6, 3) := by decide +kernel
theorem dX2_nameOf_20 : decode cX2_nameOf 20 = .ok (.bipush (-2), 2) := by decide +kernel
theorem dX2_nameOf_22 : decode cX2_nameOf 22 = .ok (.ireturn, 1) := by decide +kernel
theorem dX2_nameOf_23 : decode cX2_nameOf 23 = .ok (.aload_n 0, 1) := by decide +kernel
theorem dX2_nameOf_24 : decode cX2_nameOf 24 = .ok (.getfield 21, 3) := by decide +kernel
theorem dX2_nameOf_27 : decode cX2_nameOf 27 = .ok (.ifCond .ne 12, 3) := by decide +kernel
theorem dX2_nameOf_30 : decode cX2_nameOf 30 = .ok (.aload_n 1, 1) := by decide +kernel
theorem dX2_nameOf_31 : decode cX2_nameOf 31 = .ok (.ldc 115, 2) := by decide +kernel
theorem dX2_nameOf_33 : decode cX2_nameOf 33 = .ok (.invokevirtual 74, 3) := by decide +kernel
theorem dX2_nameOf_36 : decode cX2_nameOf 36 = .ok (.ifCond .ne 20, 3) := by decide +kernel
theorem dX2_nameOf_39 : decode cX2_nameOf 39 = .ok (.aload_n 0, 1) := by decide +kernel
theorem dX2_nameOf_40 : decode cX2_nameOf 40 = .ok (.getfield 21, 3) := by decide +kernel
theorem dX2_nameOf_43 : decode cX2_nameOf 43 = .ok (.iconst 2, 1) := by decide +kernel
theorem dX2_nameOf_44 : decode cX2_nameOf 44 = .ok (.if_icmp .ne 15, 3) := by decide +kernel
theorem dX2_nameOf_47 : decode cX2_nameOf 47 = .ok (.aload_n 1, 1) := by decide +kernel
theorem dX2_nameOf_48 : decode cX2_nameOf 48 = .ok (.ldc 117, 2) := by decide +kernel
theorem dX2_nameOf_50 : decode cX2_nameOf 50 = .ok (.invokevirtual 74, 3) := by decide +kernel
theorem dX2_nameOf_53 : decode cX2_nameOf 53 = .ok (.ifCond .eq 6, 3) := by decide +kernel
theorem dX2_nameOf_56 : decode cX2_nameOf 56 = .ok (.bipush (-3), 2) := by decide +kernel
theorem dX2_nameOf_58 : decode cX2_nameOf 58 = .ok (.ireturn, 1) := by decide +kernel
theorem dX2_nameOf_59 : decode cX2_nameOf 59 = .ok (.aload_n 0, 1) := by decide +kernel
theorem dX2_nameOf_60 : decode cX2_nameOf 60 = .ok (.getfield 21, 3) := by decide +kernel
theorem dX2_nameOf_63 : decode cX2_nameOf 63 = .ok (.ifCond .ne 12, 3) := by decide +kernel
theorem dX2_nameOf_66 : decode cX2_nameOf 66 = .ok (.aload_n 1, 1) := by decide +kernel
theorem dX2_nameOf_67 : decode cX2_nameOf 67 = .ok (.ldc 119, 2) := by decide +kernel
theorem dX2_nameOf_69 : decode cX2_nameOf 69 = .ok (.invokevirtual 74, 3) := by decide +kernel
theorem dX2_nameOf_72 : decode cX2_nameOf 72 = .ok (.ifCond .ne 20, 3) := by decide +kernel
theorem dX2_nameOf_75 : decode cX2_nameOf 75 = .ok (.aload_n 0, 1) := by decide +kernel
theorem dX2_nameOf_76 : decode cX2_nameOf 76 = .ok (.getfield 21, 3) := by decide +kernel
theorem dX2_nameOf_79 : decode cX2_nameOf 79 = .ok (.iconst 2, 1) := by decide +kernel
theorem dX2_nameOf_80 : decode cX2_nameOf 80 = .ok (.if_icmp .ne 15, 3) := by decide +kernel
theorem dX2_nameOf_83 : decode cX2_nameOf 83 = .ok (.aload_n 1, 1) := by decide +kernel
theorem dX2_nameOf_84 : decode cX2_nameOf 84 = .ok (.ldc 121, 2) := by decide +kernel
theorem dX2_nameOf_86 : decode cX2_nameOf 86 = .ok (.invokevirtual 74, 3) := by decide +kernel
theorem dX2_nameOf_89 : decode cX2_nameOf 89 = .ok (.ifCond .eq 6, 3) := by decide +kernel
theorem dX2_nameOf_92 : decode cX2_nameOf 92 = .ok (.bipush (-4), 2) := by decide +kernel
theorem dX2_nameOf_94 : decode cX2_nameOf 94 = .ok (.ireturn, 1) := by decide +kernel
theorem dX2_nameOf_95 : decode cX2_nameOf 95 = .ok (.iconst 0, 1) := by decide +kernel
theorem dX2_nameOf_96 : decode cX2_nameOf 96 = .ok (.ireturn, 1) := by decide +kernel
theorem dX2_linkOf_0 : decode cX2_linkOf 0 = .ok (.iload_n 0, 1) := by decide +kernel
theorem dX2_linkOf_1 : decode cX2_linkOf 1 = .ok (.lookupswitch 77 #[(42, 65), (43, 59), (45, 62), (60, 71), (61, 68), (62, 74)], 59) := by decide +kernel
theorem dX2_linkOf_60 : decode cX2_linkOf 60 = .ok (.bipush (-5), 2) := by decide +kernel
theorem dX2_linkOf_62 : decode cX2_linkOf 62 = .ok (.ireturn, 1) := by decide +kernel
theorem dX2_linkOf_63 : decode cX2_linkOf 63 = .ok (.bipush (-6), 2) := by decide +kernel
theorem dX2_linkOf_65 : decode cX2_linkOf 65 = .ok (.ireturn, 1) := by decide +kernel
theorem dX2_linkOf_66 : decode cX2_linkOf 66 = .ok (.bipush (-7), 2) := by decide +kernel
theorem dX2_linkOf_68 : decode cX2_linkOf 68 = .ok (.ireturn, 1) := by decide +kernel
theorem dX2_linkOf_69 : decode cX2_linkOf 69 = .ok (.bipush (-8), 2) := by decide +kernel
theorem dX2_linkOf_71 : decode cX2_linkOf 71 = .ok (.ireturn, 1) := by decide +kernel
theorem dX2_linkOf_72 : decode cX2_linkOf 72 = .ok (.bipush (-9), 2) := by decide +kernel
theorem dX2_linkOf_74 : decode cX2_linkOf 74 = .ok (.ireturn, 1) := by decide +kernel
theorem dX2_linkOf_75 : decode cX2_linkOf 75 = .ok (.bipush (-10), 2) := by decide +kernel
theorem dX2_linkOf_77 : decode cX2_linkOf 77 = .ok (.ireturn, 1) := by decide +kernel
theorem dX2_linkOf_78 : decode cX2_linkOf 78 = .ok (.iconst 0, 1) := by decide +kernel
theorem dX2_linkOf_79 : decode cX2_linkOf 79 = .ok (.ireturn, 1) := by decide +kernel
theorem dX2_isComparison_0 : decode cX2_isComparison 0 = .ok (.iload_n 0, 1) := by decide +kernel
theorem dX2_isComparison_1 : decode cX2_isComparison 1 = .ok (.bipush (-8), 2) := by decide +kernel
theorem dX2_isComparison_3 : decode cX2_isComparison 3 = .ok (.if_icmp .eq 15, 3) := by decide +kernel
theorem dX2_isComparison_6 : decode cX2_isComparison 6 = .ok (.iload_n 0, 1) := by decide +kernel
theorem dX2_isComparison_7 : decode cX2_isComparison 7 = .ok (.bipush (-9), 2) := by decide +kernel
theorem dX2_isComparison_9 : decode cX2_isComparison 9 = .ok (.if_icmp .eq 9, 3) := by decide +kernel
theorem dX2_isComparison_12 : decode cX2_isComparison 12 = .ok (.iload_n 0, 1) := by decide +kernel
theorem dX2_isComparison_13 : decode cX2_isComparison 13 = .ok (.bipush (-10), 2) := by decide +kernel
theorem dX2_isComparison_15 : decode cX2_isComparison 15 = .ok (.if_icmp .ne 7, 3) := by decide +kernel
theorem dX2_isComparison_18 : decode cX2_isComparison 18 = .ok (.iconst 1, 1) := by decide +kernel
theorem dX2_isComparison_19 : decode cX2_isComparison 19 = .ok (.goto 4, 3) := by decide +kernel
theorem dX2_isComparison_22 : decode cX2_isComparison 22 = .ok (.iconst 0, 1) := by decide +kernel
theorem dX2_isComparison_23 : decode cX2_isComparison 23 = .ok (.ireturn, 1) := by decide +kernel
theorem dX2_bondOf_0 : decode cX2_bondOf 0 = .ok (.iload_n 0, 1) := by decide +kernel
theorem dX2_bondOf_1 : decode cX2_bondOf 1 = .ok (.tableswitch 64 (-13) (-5) #[51, 53, 55, 57, 57, 57, 61, 59, 59], 51) := by decide +kernel
theorem dX2_bondOf_52 : decode cX2_bondOf 52 = .ok (.iconst 1, 1) := by decide +kernel
theorem dX2_bondOf_53 : decode cX2_bondOf 53 = .ok (.ireturn, 1) := by decide +kernel
theorem dX2_bondOf_54 : decode cX2_bondOf 54 = .ok (.iconst 2, 1) := by decide +kernel
theorem dX2_bondOf_55 : decode cX2_bondOf 55 = .ok (.ireturn, 1) := by decide +kernel
theorem dX2_bondOf_56 : decode cX2_bondOf 56 = .ok (.iconst 3, 1) := by decide +kernel
theorem dX2_bondOf_57 : decode cX2_bondOf 57 = .ok (.ireturn, 1) := by decide +kernel
theorem dX2_bondOf_58 : decode cX2_bondOf 58 = .ok (.iconst 4, 1) := by decide +kernel
theorem dX2_bondOf_59 : decode cX2_bondOf 59 = .ok (.ireturn, 1) := by decide +kernel
theorem dX2_bondOf_60 : decode cX2_bondOf 60 = .ok (.iconst 5, 1) := by decide +kernel
theorem dX2_bondOf_61 : decode cX2_bondOf 61 = .ok (.ireturn, 1) := by decide +kernel
theorem dX2_bondOf_62 : decode cX2_bondOf 62 = .ok (.bipush 6, 2) := by decide +kernel
theorem dX2_bondOf_64 : decode cX2_bondOf 64 = .ok (.ireturn, 1) := by decide +kernel
theorem dX2_bondOf_65 : decode cX2_bondOf 65 = .ok (.iconst 0, 1) := by decide +kernel
theorem dX2_bondOf_66 : decode cX2_bondOf 66 = .ok (.ireturn, 1) := by decide +kernel
theorem dX2_push_0 : decode cX2_push 0 = .ok (.aload_n 0, 1) := by decide +kernel
theorem dX2_push_1 : decode cX2_push 1 = .ok (.getfield 28, 3) := by decide +kernel
theorem dX2_push_4 : decode cX2_push 4 = .ok (.bipush 64, 2) := by decide +kernel
theorem dX2_push_6 : decode cX2_push 6 = .ok (.if_icmp .ge 36, 3) := by decide +kernel
theorem dX2_push_9 : decode cX2_push 9 = .ok (.aload_n 0, 1) := by decide +kernel
theorem dX2_push_10 : decode cX2_push 10 = .ok (.getfield 15, 3) := by decide +kernel
theorem dX2_push_13 : decode cX2_push 13 = .ok (.aload_n 0, 1) := by decide +kernel
theorem dX2_push_14 : decode cX2_push 14 = .ok (.getfield 28, 3) := by decide +kernel
theorem dX2_push_17 : decode cX2_push 17 = .ok (.iload_n 1, 1) := by decide +kernel
theorem dX2_push_18 : decode cX2_push 18 = .ok (.iastore, 1) := by decide +kernel
theorem dX2_push_19 : decode cX2_push 19 = .ok (.aload_n 0, 1) := by decide +kernel
theorem dX2_push_20 : decode cX2_push 20 = .ok (.getfield 18, 3) := by decide +kernel
theorem dX2_push_23 : decode cX2_push 23 = .ok (.aload_n 0, 1) := by decide +kernel
theorem dX2_push_24 : decode cX2_push 24 = .ok (.getfield 28, 3) := by decide +kernel
theorem dX2_push_27 : decode cX2_push 27 = .ok (.aload_n 0, 1) := by decide +kernel
theorem dX2_push_28 : decode cX2_push 28 = .ok (.getfield 44, 3) := by decide +kernel
theorem dX2_push_31 : decode cX2_push 31 = .ok (.iastore, 1) := by decide +kernel
theorem dX2_push_32 : decode cX2_push 32 = .ok (.aload_n 0, 1) := by decide +kernel
theorem dX2_push_33 : decode cX2_push 33 = .ok (.dup, 1) := by decide +kernel
theorem dX2_push_34 : decode cX2_push 34 = .ok (.getfield 28, 3) := by decide +kernel
theorem dX2_push_37 : decode cX2_push 37 = .ok (.iconst 1, 1) := by decide +kernel
theorem dX2_push_38 : decode cX2_push 38 = .ok (.iadd, 1) := by decide +kernel
theorem dX2_push_39 : decode cX2_push 39 = .ok (.putfield 28, 3) := by decide +kernel
theorem dX2_push_42 : decode cX2_push 42 = .ok (.return_, 1) := by decide +kernel
theorem dX2_emit_0 : decode cX2_emit 0 = .ok (.aload_n 0, 1) := by decide +kernel
theorem dX2_emit_1 : decode cX2_emit 1 = .ok (.getfield 25, 3) := by decide +kernel
theorem dX2_emit_4 : decode cX2_emit 4 = .ok (.sipush 900, 3) := by decide +kernel
theorem dX2_emit_7 : decode cX2_emit 7 = .ok (.if_icmp .ge 23, 3) := by decide +kernel
theorem dX2_emit_10 : decode cX2_emit 10 = .ok (.aload_n 0, 1) := by decide +kernel
theorem dX2_emit_11 : decode cX2_emit 11 = .ok (.getfield 9, 3) := by decide +kernel
theorem dX2_emit_14 : decode cX2_emit 14 = .ok (.aload_n 0, 1) := by decide +kernel
theorem dX2_emit_15 : decode cX2_emit 15 = .ok (.getfield 25, 3) := by decide +kernel
theorem dX2_emit_18 : decode cX2_emit 18 = .ok (.iload_n 1, 1) := by decide +kernel
theorem dX2_emit_19 : decode cX2_emit 19 = .ok (.iastore, 1) := by decide +kernel
theorem dX2_emit_20 : decode cX2_emit 20 = .ok (.aload_n 0, 1) := by decide +kernel
theorem dX2_emit_21 : decode cX2_emit 21 = .ok (.dup, 1) := by decide +kernel
theorem dX2_emit_22 : decode cX2_emit 22 = .ok (.getfield 25, 3) := by decide +kernel
theorem dX2_emit_25 : decode cX2_emit 25 = .ok (.iconst 1, 1) := by decide +kernel
theorem dX2_emit_26 : decode cX2_emit 26 = .ok (.iadd, 1) := by decide +kernel
theorem dX2_emit_27 : decode cX2_emit 27 = .ok (.putfield 25, 3) := by decide +kernel
theorem dX2_emit_30 : decode cX2_emit 30 = .ok (.return_, 1) := by decide +kernel
theorem dX3_init_0 : decode cX3_init 0 = .ok (.aload_n 0, 1) := by decide +kernel
theorem dX3_init_1 : decode cX3_init 1 = .ok (.invokespecial 3, 3) := by decide +kernel
theorem dX3_init_4 : decode cX3_init 4 = .ok (.aload_n 0, 1) := by decide +kernel
theorem dX3_init_5 : decode cX3_init 5 = .ok (.new 9, 3) := by decide +kernel
theorem dX3_init_8 : decode cX3_init 8 = .ok (.dup, 1) := by decide +kernel
theorem dX3_init_9 : decode cX3_init 9 = .ok (.aload_n 1, 1) := by decide +kernel
theorem dX3_init_10 : decode cX3_init 10 = .ok (.invokespecial 11, 3) := by decide +kernel
theorem dX3_init_13 : decode cX3_init 13 = .ok (.putfield 14, 3) := by decide +kernel
theorem dX3_init_16 : decode cX3_init 16 = .ok (.aload_n 0, 1) := by decide +kernel
theorem dX3_init_17 : decode cX3_init 17 = .ok (.new 20, 3) := by decide +kernel
theorem dX3_init_20 : decode cX3_init 20 = .ok (.dup, 1) := by decide +kernel
theorem dX3_init_21 : decode cX3_init 21 = .ok (.invokespecial 22, 3) := by decide +kernel
theorem dX3_init_24 : decode cX3_init 24 = .ok (.putfield 23, 3) := by decide +kernel
theorem dX3_init_27 : decode cX3_init 27 = .ok (.aload_n 0, 1) := by decide +kernel
theorem dX3_init_28 : decode cX3_init 28 = .ok (.iconst 0, 1) := by decide +kernel
theorem dX3_init_29 : decode cX3_init 29 = .ok (.newarray .int, 2) := by decide +kernel
theorem dX3_init_31 : decode cX3_init 31 = .ok (.putfield 27, 3) := by decide +kernel
theorem dX3_init_34 : decode cX3_init 34 = .ok (.aload_n 0, 1) := by decide +kernel
theorem dX3_init_35 : decode cX3_init 35 = .ok (.aload_n 0, 1) := by decide +kernel
theorem dX3_init_36 : decode cX3_init 36 = .ok (.getfield 27, 3) := by decide +kernel
theorem dX3_init_39 : decode cX3_init 39 = .ok (.putfield 31, 3) := by decide +kernel
theorem dX3_init_42 : decode cX3_init 42 = .ok (.aload_n 0, 1) := by decide +kernel
theorem dX3_init_43 : decode cX3_init 43 = .ok (.aload_n 0, 1) := by decide +kernel
theorem dX3_init_44 : decode cX3_init 44 = .ok (.getfield 27, 3) := by decide +kernel
theorem dX3_init_47 : decode cX3_init 47 = .ok (.putfield 34, 3) := by decide +kernel
theorem dX3_init_50 : decode cX3_init 50 = .ok (.aload_n 0, 1) := by decide +kernel
theorem dX3_init_51 : decode cX3_init 51 = .ok (.aload_n 0, 1) := by decide +kernel
theorem dX3_init_52 : decode cX3_init 52 = .ok (.getfield 27, 3) := by decide +kernel
theorem dX3_init_55 : decode cX3_init 55 = .ok (.putfield 37, 3) := by decide +kernel
theorem dX3_init_58 : decode cX3_init 58 = .ok (.return_, 1) := by decide +kernel
theorem dX3_read_0 : decode cX3_read 0 = .ok (.aload_n 0, 1) := by decide +kernel
theorem dX3_read_1 : decode cX3_read 1 = .ok (.iconst 0, 1) := by decide +kernel
theorem dX3_read_2 : decode cX3_read 2 = .ok (.putfield 40, 3) := by decide +kernel
theorem dX3_read_5 : decode cX3_read 5 = .ok (.aload_n 0, 1) := by decide +kernel
theorem dX3_read_6 : decode cX3_read 6 = .ok (.iconst (-1), 1) := by decide +kernel
theorem dX3_read_7 : decode cX3_read 7 = .ok (.putfield 44, 3) := by decide +kernel
theorem dX3_read_10 : decode cX3_read 10 = .ok (.aload_n 0, 1) := by decide +kernel
theorem dX3_read_11 : decode cX3_read 11 = .ok (.iconst 0, 1) := by decide +kernel
theorem dX3_read_12 : decode cX3_read 12 = .ok (.putfield 47, 3) := by decide +kernel
theorem dX3_read_15 : decode cX3_read 15 = .ok (.aload_n 0, 1) := by decide +kernel
theorem dX3_read_16 : decode cX3_read 16 = .ok (.iconst 0, 1) := by decide +kernel
theorem dX3_read_17 : decode cX3_read 17 = .ok (.putfield 50, 3) := by decide +kernel
theorem dX3_read_20 : decode cX3_read 20 = .ok (.aload_n 0, 1) := by decide +kernel
theorem dX3_read_21 : decode cX3_read 21 = .ok (.iconst 0, 1) := by decide +kernel
theorem dX3_read_22 : decode cX3_read 22 = .ok (.putfield 53, 3) := by decide +kernel
theorem dX3_read_25 : decode cX3_read 25 = .ok (.aload_n 0, 1) := by decide +kernel
theorem dX3_read_26 : decode cX3_read 26 = .ok (.aload_n 0, 1) := by decide +kernel
theorem dX3_read_27 : decode cX3_read 27 = .ok (.getfield 27, 3) := by decide +kernel
theorem dX3_read_30 : decode cX3_read 30 = .ok (.putfield 31, 3) := by decide +kernel
theorem dX3_read_33 : decode cX3_read 33 = .ok (.aload_n 0, 1) := by decide +kernel
theorem dX3_read_34 : decode cX3_read 34 = .ok (.aload_n 0, 1) := by decide +kernel
theorem dX3_read_35 : decode cX3_read 35 = .ok (.getfield 27, 3) := by decide +kernel
theorem dX3_read_38 : decode cX3_read 38 = .ok (.putfield 34, 3) := by decide +kernel
theorem dX3_read_41 : decode cX3_read 41 = .ok (.aload_n 0, 1) := by decide +kernel
theorem dX3_read_42 : decode cX3_read 42 = .ok (.aload_n 0, 1) := by decide +kernel
theorem dX3_read_43 : decode cX3_read 43 = .ok (.getfield 27, 3) := by decide +kernel
theorem dX3_read_46 : decode cX3_read 46 = .ok (.putfield 37, 3) := by decide +kernel
theorem dX3_read_49 : decode cX3_read 49 = .ok (.aload_n 0, 1) := by decide +kernel
theorem dX3_read_50 : decode cX3_read 50 = .ok (.getfield 14, 3) := by decide +kernel
theorem dX3_read_53 : decode cX3_read 53 = .ok (.iload_n 1, 1) := by decide +kernel
theorem dX3_read_54 : decode cX3_read 54 = .ok (.invokevirtual 56, 3) := by decide +kernel
theorem dX3_read_57 : decode cX3_read 57 = .ok (.aload_n 0, 1) := by decide +kernel
theorem dX3_read_58 : decode cX3_read 58 = .ok (.invokevirtual 60, 3) := by decide +kernel
theorem dX3_read_61 : decode cX3_read 61 = .ok (.iconst 0, 1) := by decide +kernel
theorem dX3_read_62 : decode cX3_read 62 = .ok (.istore_n 2, 1) := by decide +kernel
theorem dX3_read_63 : decode cX3_read 63 = .ok (.iload_n 2, 1) := by decide +kernel
theorem dX3_read_64 : decode cX3_read 64 = .ok (.sipush 900, 3) := by decide +kernel
theorem dX3_read_67 : decode cX3_read 67 = .ok (.if_icmp .ge 30, 3) := by decide +kernel
theorem dX3_read_70 : decode cX3_read 70 = .ok (.aload_n 0, 1) := by decide +kernel
theorem dX3_read_71 : decode cX3_read 71 = .ok (.getfield 40, 3) := by decide +kernel
theorem dX3_read_74 : decode cX3_read 74 = .ok (.ifCond .ne 23, 3) := by decide +kernel
theorem dX3_read_77 : decode cX3_read 77 = .ok (.aload_n 0, 1) := by decide +kernel
theorem dX3_read_78 : decode cX3_read 78 = .ok (.getfield 14, 3) := by decide +kernel
theorem dX3_read_81 : decode cX3_read 81 = .ok (.getfield 63, 3) := by decide +kernel
theorem dX3_read_84 : decode cX3_read 84 = .ok (.ifCond .eq 13, 3) := by decide +kernel
theorem dX3_read_87 : decode cX3_read 87 = .ok (.aload_n 0, 1) := by decide +kernel
theorem dX3_read_88 : decode cX3_read 88 = .ok (.invokevirtual 66, 3) := by decide +kernel
theorem dX3_read_91 : decode cX3_read 91 = .ok (.iinc 2 1, 3) := by decide +kernel
theorem dX3_read_94 : decode cX3_read 94 = .ok (.goto (-31), 3) := by decide +kernel
theorem dX3_read_97 : decode cX3_read 97 = .ok (.return_, 1) := by decide +kernel
theorem dX3_readBoard_0 : decode cX3_readBoard 0 = .ok (.aload_n 0, 1) := by decide +kernel
theorem dX3_readBoard_1 : decode cX3_readBoard 1 = .ok (.getfield 14, 3) := by decide +kernel
theorem dX3_readBoard_4 : decode cX3_readBoard 4 = .ok (.ldc 69, 2) := by decide +kernel
theorem dX3_readBoard_6 : decode cX3_readBoard 6 = .ok (.invokevirtual 71, 3) := by decide +kernel
theorem dX3_readBoard_9 : decode cX3_readBoard 9 = .ok (.ifCond .ne 9, 3) := by decide +kernel
theorem dX3_readBoard_12 : decode cX3_readBoard 12 = .ok (.aload_n 0, 1) := by decide +kernel
theorem dX3_readBoard_13 : decode cX3_readBoard 13 = .ok (.iconst 2, 1) := by decide +kernel
theorem dX3_readBoard_14 : decode cX3_readBoard 14 = .ok (.invokevirtual 75, 3) := by decide +kernel
theorem dX3_readBoard_17 : decode cX3_readBoard 17 = .ok (.return_, 1) := by decide +kernel
theorem dX3_readBoard_18 : decode cX3_readBoard 18 = .ok (.aload_n 0, 1) := by decide +kernel
theorem dX3_readBoard_19 : decode cX3_readBoard 19 = .ok (.getfield 14, 3) := by decide +kernel
theorem dX3_readBoard_22 : decode cX3_readBoard 22 = .ok (.invokevirtual 78, 3) := by decide +kernel
theorem dX3_readBoard_25 : decode cX3_readBoard 25 = .ok (.aload_n 0, 1) := by decide +kernel
theorem dX3_readBoard_26 : decode cX3_readBoard 26 = .ok (.aload_n 0, 1) := by decide +kernel
theorem dX3_readBoard_27 : decode cX3_readBoard 27 = .ok (.iconst 2, 1) := by decide +kernel
theorem dX3_readBoard_28 : decode cX3_readBoard 28 = .ok (.bipush 6, 2) := by decide +kernel
theorem dX3_readBoard_30 : decode cX3_readBoard 30 = .ok (.invokevirtual 81, 3) := by decide +kernel
theorem dX3_readBoard_33 : decode cX3_readBoard 33 = .ok (.putfield 85, 3) := by decide +kernel
theorem dX3_readBoard_36 : decode cX3_readBoard 36 = .ok (.aload_n 0, 1) := by decide +kernel
theorem dX3_readBoard_37 : decode cX3_readBoard 37 = .ok (.iconst 1, 1) := by decide +kernel
theorem dX3_readBoard_38 : decode cX3_readBoard 38 = .ok (.aload_n 0, 1) := by decide +kernel
theorem dX3_readBoard_39 : decode cX3_readBoard 39 = .ok (.getfield 85, 3) := by decide +kernel
theorem dX3_readBoard_42 : decode cX3_readBoard 42 = .ok (.ishl, 1) := by decide +kernel
theorem dX3_readBoard_43 : decode cX3_readBoard 43 = .ok (.iconst 1, 1) := by decide +kernel
theorem dX3_readBoard_44 : decode cX3_readBoard 44 = .ok (.isub, 1) := by decide +kernel
theorem dX3_readBoard_45 : decode cX3_readBoard 45 = .ok (.invokestatic 88, 3) := by decide +kernel
theorem dX3_readBoard_48 : decode cX3_readBoard 48 = .ok (.putfield 94, 3) := by decide +kernel
theorem dX3_readBoard_51 : decode cX3_readBoard 51 = .ok (.aload_n 0, 1) := by decide +kernel
theorem dX3_readBoard_52 : decode cX3_readBoard 52 = .ok (.invokevirtual 97, 3) := by decide +kernel
theorem dX3_readBoard_55 : decode cX3_readBoard 55 = .ok (.return_, 1) := by decide +kernel
theorem dX3_readLine_0 : decode cX3_readLine 0 = .ok (.aload_n 0, 1) := by decide +kernel
theorem dX3_readLine_1 : decode cX3_readLine 1 = .ok (.getfield 14, 3) := by decide +kernel
theorem dX3_readLine_4 : decode cX3_readLine 4 = .ok (.ldc 100, 2) := by decide +kernel
theorem dX3_readLine_6 : decode cX3_readLine 6 = .ok (.invokevirtual 71, 3) := by decide +kernel
theorem dX3_readLine_9 : decode cX3_readLine 9 = .ok (.ifCond .eq 10, 3) := by decide +kernel
theorem dX3_readLine_12 : decode cX3_readLine 12 = .ok (.aload_n 0, 1) := by decide +kernel
theorem dX3_readLine_13 : decode cX3_readLine 13 = .ok (.invokevirtual 102, 3) := by decide +kernel
theorem dX3_readLine_16 : decode cX3_readLine 16 = .ok (.goto 80, 3) := by decide +kernel
theorem dX3_readLine_19 : decode cX3_readLine 19 = .ok (.aload_n 0, 1) := by decide +kernel
theorem dX3_readLine_20 : decode cX3_readLine 20 = .ok (.getfield 14, 3) := by decide +kernel
theorem dX3_readLine_23 : decode cX3_readLine 23 = .ok (.ldc 105, 2) := by decide +kernel
theorem dX3_readLine_25 : decode cX3_readLine 25 = .ok (.invokevirtual 71, 3) := by decide +kernel
theorem dX3_readLine_28 : decode cX3_readLine 28 = .ok (.ifCond .eq 15, 3) := by decide +kernel
theorem dX3_readLine_31 : decode cX3_readLine 31 = .ok (.aload_n 0, 1) := by decide +kernel
theorem dX3_readLine_32 : decode cX3_readLine 32 = .ok (.aload_n 0, 1) := by decide +kernel
theorem dX3_readLine_33 : decode cX3_readLine 33 = .ok (.iconst 0, 1) := by decide +kernel
theorem dX3_readLine_34 : decode cX3_readLine 34 = .ok (.invokevirtual 106, 3) := by decide +kernel
theorem dX3_readLine_37 : decode cX3_readLine 37 = .ok (.putfield 31, 3) := by decide +kernel
theorem dX3_readLine_40 : decode cX3_readLine 40 = .ok (.goto 56, 3) := by decide +kernel
theorem dX3_readLine_43 : decode cX3_readLine 43 = .ok (.aload_n 0, 1) := by decide +kernel
theorem dX3_readLine_44 : decode cX3_readLine 44 = .ok (.getfield 14, 3) := by decide +kernel
theorem dX3_readLine_47 : decode cX3_readLine 47 = .ok (.ldc 110, 2) := by decide +kernel
theorem dX3_readLine_49 : decode cX3_readLine 49 = .ok (.invokevirtual 71, 3) := by decide +kernel
theorem dX3_readLine_52 : decode cX3_readLine 52 = .ok (.ifCond .eq 15, 3) := by decide +kernel
theorem dX3_readLine_55 : decode cX3_readLine 55 = .ok (.aload_n 0, 1) := by decide +kernel
theorem dX3_readLine_56 : decode cX3_readLine 56 = .ok (.aload_n 0, 1) := by decide +kernel
theorem dX3_readLine_57 : decode cX3_readLine 57 = .ok (.iconst 1, 1) := by decide +kernel
theorem dX3_readLine_58 : decode cX3_readLine 58 = .ok (.invokevirtual 106, 3) := by decide +kernel
theorem dX3_readLine_61 : decode cX3_readLine 61 = .ok (.putfield 34, 3) := by decide +kernel
theorem dX3_readLine_64 : decode cX3_readLine 64 = .ok (.goto 32, 3) := by decide +kernel
theorem dX3_readLine_67 : decode cX3_readLine 67 = .ok (.aload_n 0, 1) := by decide +kernel
theorem dX3_readLine_68 : decode cX3_readLine 68 = .ok (.getfield 14, 3) := by decide +kernel
theorem dX3_readLine_71 : decode cX3_readLine 71 = .ok (.ldc 111, 2) := by decide +kernel
theorem dX3_readLine_73 : decode cX3_readLine 73 = .ok (.invokevirtual 71, 3) := by decide +kernel
theorem dX3_readLine_76 : decode cX3_readLine 76 = .ok (.ifCond .eq 15, 3) := by decide +kernel
theorem dX3_readLine_79 : decode cX3_readLine 79 = .ok (.aload_n 0, 1) := by decide +kernel
theorem dX3_readLine_80 : decode cX3_readLine 80 = .ok (.aload_n 0, 1) := by decide +kernel
theorem dX3_readLine_81 : decode cX3_readLine 81 = .ok (.iconst 2, 1) := by decide +kernel
theorem dX3_readLine_82 : decode cX3_readLine 82 = .ok (.invokevirtual 106, 3) := by decide +kernel
theorem dX3_readLine_85 : decode cX3_readLine 85 = .ok (.putfield 37, 3) := by decide +kernel
theorem dX3_readLine_88 : decode cX3_readLine 88 = .ok (.goto 8, 3) := by decide +kernel
theorem dX3_readLine_91 : decode cX3_readLine 91 = .ok (.aload_n 0, 1) := by decide +kernel
theorem dX3_readLine_92 : decode cX3_readLine 92 = .ok (.iconst 2, 1) := by decide +kernel
theorem dX3_readLine_93 : decode cX3_readLine 93 = .ok (.invokevirtual 75, 3) := by decide +kernel
theorem dX3_readLine_96 : decode cX3_readLine 96 = .ok (.aload_n 0, 1) := by decide +kernel
theorem dX3_readLine_97 : decode cX3_readLine 97 = .ok (.invokevirtual 97, 3) := by decide +kernel
theorem dX3_readLine_100 : decode cX3_readLine 100 = .ok (.return_, 1) := by decide +kernel
theorem dX3_readMember_0 : decode cX3_readMember 0 = .ok (.aload_n 0, 1) := by decide +kernel
theorem dX3_readMember_1 : decode cX3_readMember 1 = .ok (.getfield 14, 3) := by decide +kernel
theorem dX3_readMember_4 : decode cX3_readMember 4 = .ok (.invokevirtual 78, 3) := by decide +kernel
theorem dX3_readMember_7 : decode cX3_readMember 7 = .ok (.aload_n 0, 1) := by decide +kernel
theorem dX3_readMember_8 : decode cX3_readMember 8 = .ok (.iconst 0, 1) := by decide +kernel
theorem dX3_readMember_9 : decode cX3_readMember 9 = .ok (.aload_n 0, 1) := by decide +kernel
theorem dX3_readMember_10 : decode cX3_readMember 10 = .ok (.getfield 85, 3) := by decide +kernel
theorem dX3_readMember_13 : decode cX3_readMember 13 = .ok (.iconst 1, 1) := by decide +kernel
theorem dX3_readMember_14 : decode cX3_readMember 14 = .ok (.isub, 1) := by decide +kernel
theorem dX3_readMember_15 : decode cX3_readMember 15 = .ok (.invokevirtual 81, 3) := by decide +kernel
theorem dX3_readMember_18 : decode cX3_readMember 18 = .ok (.istore_n 1, 1) := by decide +kernel
theorem dX3_readMember_19 : decode cX3_readMember 19 = .ok (.iconst 0, 1) := by decide +kernel
theorem dX3_readMember_20 : decode cX3_readMember 20 = .ok (.istore_n 2, 1) := by decide +kernel
theorem dX3_readMember_21 : decode cX3_readMember 21 = .ok (.iload_n 2, 1) := by decide +kernel
theorem dX3_readMember_22 : decode cX3_readMember 22 = .ok (.sipush 900, 3) := by decide +kernel
theorem dX3_readMember_25 : decode cX3_readMember 25 = .ok (.if_icmp .ge 32, 3) := by decide +kernel
theorem dX3_readMember_28 : decode cX3_readMember 28 = .ok (.aload_n 0, 1) := by decide +kernel
theorem dX3_readMember_29 : decode cX3_readMember 29 = .ok (.getfield 40, 3) := by decide +kernel
theorem dX3_readMember_32 : decode cX3_readMember 32 = .ok (.ifCond .ne 25, 3) := by decide +kernel
theorem dX3_readMember_35 : decode cX3_readMember 35 = .ok (.aload_n 0, 1) := by decide +kernel
theorem dX3_readMember_36 : decode cX3_readMember 36 = .ok (.getfield 14, 3) := by decide +kernel
theorem dX3_readMember_39 : decode cX3_readMember 39 = .ok (.getfield 63, 3) := by decide +kernel
theorem dX3_readMember_42 : decode cX3_readMember 42 = .ok (.iconst 1, 1) := by decide +kernel
theorem dX3_readMember_43 : decode cX3_readMember 43 = .ok (.if_icmp .ne 14, 3) := by decide +kernel
theorem dX3_readMember_46 : decode cX3_readMember 46 = .ok (.aload_n 0, 1) := by decide +kernel
theorem dX3_readMember_47 : decode cX3_readMember 47 = .ok (.iload_n 1, 1) := by decide +kernel
theorem dX3_readMember_48 : decode cX3_readMember 48 = .ok (.invokevirtual 112, 3) := by decide +kernel
theorem dX3_readMember_51 : decode cX3_readMember 51 = .ok (.iinc 2 1, 3) := by decide +kernel
theorem dX3_readMember_54 : decode cX3_readMember 54 = .ok (.goto (-33), 3) := by decide +kernel
theorem dX3_readMember_57 : decode cX3_readMember 57 = .ok (.return_, 1) := by decide +kernel
theorem dX3_readFlag_0 : decode cX3_readFlag 0 = .ok (.aload_n 0, 1) := by decide +kernel
theorem dX3_readFlag_1 : decode cX3_readFlag 1 = .ok (.getfield 14, 3) := by decide +kernel
theorem dX3_readFlag_4 : decode cX3_readFlag 4 = .ok (.ldc 115, 2) := by decide +kernel
theorem dX3_readFlag_6 : decode cX3_readFlag 6 = .ok (.invokevirtual 71, 3) := by decide +kernel
theorem dX3_readFlag_9 : decode cX3_readFlag 9 = .ok (.ifCond .eq 36, 3) := by decide +kernel
theorem dX3_readFlag_12 : decode cX3_readFlag 12 = .ok (.aload_n 0, 1) := by decide +kernel
theorem dX3_readFlag_13 : decode cX3_readFlag 13 = .ok (.getfield 14, 3) := by decide +kernel
theorem dX3_readFlag_16 : decode cX3_readFlag 16 = .ok (.invokevirtual 78, 3) := by decide +kernel
theorem dX3_readFlag_19 : decode cX3_readFlag 19 = .ok (.aload_n 0, 1) := by decide +kernel
theorem dX3_readFlag_20 : decode cX3_readFlag 20 = .ok (.aload_n 0, 1) := by decide +kernel
theorem dX3_readFlag_21 : decode cX3_readFlag 21 = .ok (.getfield 50, 3) := by decide +kernel
theorem dX3_readFlag_24 : decode cX3_readFlag 24 = .ok (.iload_n 1, 1) := by decide +kernel
theorem dX3_readFlag_25 : decode cX3_readFlag 25 = .ok (.aload_n 0, 1) := by decide +kernel
theorem dX3_readFlag_26 : decode cX3_readFlag 26 = .ok (.iconst 0, 1) := by decide +kernel
theorem dX3_readFlag_27 : decode cX3_readFlag 27 = .ok (.aload_n 0, 1) := by decide +kernel
theorem dX3_readFlag_28 : decode cX3_readFlag 28 = .ok (.getfield 85, 3) := by decide +kernel
theorem dX3_readFlag_31 : decode cX3_readFlag 31 = .ok (.iconst 1, 1) := by decide +kernel
theorem dX3_readFlag_32 : decode cX3_readFlag 32 = .ok (.isub, 1) := by decide +kernel
theorem dX3_readFlag_33 : decode cX3_readFlag 33 = .ok (.invokevirtual 81, 3) := by decide +kernel
theorem dX3_readFlag_36 : decode cX3_readFlag 36 = .ok (.invokestatic 117, 3) := by decide +kernel
theorem dX3_readFlag_39 : decode cX3_readFlag 39 = .ok (.putfield 50, 3) := by decide +kernel
theorem dX3_readFlag_42 : decode cX3_readFlag 42 = .ok (.goto 83, 3) := by decide +kernel
theorem dX3_readFlag_45 : decode cX3_readFlag 45 = .ok (.aload_n 0, 1) := by decide +kernel
theorem dX3_readFlag_46 : decode cX3_readFlag 46 = .ok (.getfield 14, 3) := by decide +kernel
theorem dX3_readFlag_49 : decode cX3_readFlag 49 = .ok (.ldc 121, 2) := by decide +kernel
theorem dX3_readFlag_51 : decode cX3_readFlag 51 = .ok (.invokevirtual 71, 3) := by decide +kernel
theorem dX3_readFlag_54 : decode cX3_readFlag 54 = .ok (.ifCond .eq 32, 3) := by decide +kernel
theorem dX3_readFlag_57 : decode cX3_readFlag 57 = .ok (.aload_n 0, 1) := by decide +kernel
theorem dX3_readFlag_58 : decode cX3_readFlag 58 = .ok (.getfield 14, 3) := by decide +kernel
theorem dX3_readFlag_61 : decode cX3_readFlag 61 = .ok (.invokevirtual 78, 3) := by decide +kernel
theorem dX3_readFlag_64 : decode cX3_readFlag 64 = .ok (.aload_n 0, 1) := by decide +kernel
theorem dX3_readFlag_65 : decode cX3_readFlag 65 = .ok (.aload_n 0, 1) := by decide +kernel
theorem dX3_readFlag_66 : decode cX3_readFlag 66 = .ok (.getfield 94, 3) := by decide +kernel
theorem dX3_readFlag_69 : decode cX3_readFlag 69 = .ok (.iload_n 1, 1) := by decide +kernel
theorem dX3_readFlag_70 : decode cX3_readFlag 70 = .ok (.aload_n 0, 1) := by decide +kernel
theorem dX3_readFlag_71 : decode cX3_readFlag 71 = .ok (.iconst 1, 1) := by decide +kernel
theorem dX3_readFlag_72 : decode cX3_readFlag 72 = .ok (.bipush 9, 2) := by decide +kernel
theorem dX3_readFlag_74 : decode cX3_readFlag 74 = .ok (.invokevirtual 81, 3) := by decide +kernel
theorem dX3_readFlag_77 : decode cX3_readFlag 77 = .ok (.invokestatic 117, 3) := by decide +kernel
theorem dX3_readFlag_80 : decode cX3_readFlag 80 = .ok (.putfield 94, 3) := by decide +kernel
theorem dX3_readFlag_83 : decode cX3_readFlag 83 = .ok (.goto 42, 3) := by decide +kernel
theorem dX3_readFlag_86 : decode cX3_readFlag 86 = .ok (.aload_n 0, 1) := by decide +kernel
theorem dX3_readFlag_87 : decode cX3_readFlag 87 = .ok (.getfield 14, 3) := by decide +kernel
theorem dX3_readFlag_90 : decode cX3_readFlag 90 = .ok (.ldc 123, 2) := by decide +kernel
theorem dX3_readFlag_92 : decode cX3_readFlag 92 = .ok (.invokevirtual 71, 3) := by decide +kernel
theorem dX3_readFlag_95 : decode cX3_readFlag 95 = .ok (.ifCond .eq 25, 3) := by decide +kernel
theorem dX3_readFlag_98 : decode cX3_readFlag 98 = .ok (.aload_n 0, 1) := by decide +kernel
theorem dX3_readFlag_99 : decode cX3_readFlag 99 = .ok (.getfield 14, 3) := by decide +kernel
theorem dX3_readFlag_102 : decode cX3_readFlag 102 = .ok (.invokevirtual 78, 3) := by decide +kernel
theorem dX3_readFlag_105 : decode cX3_readFlag 105 = .ok (.aload_n 0, 1) := by decide +kernel
theorem dX3_readFlag_106 : decode cX3_readFlag 106 = .ok (.dup, 1) := by decide +kernel
theorem dX3_readFlag_107 : decode cX3_readFlag 107 = .ok (.getfield 53, 3) := by decide +kernel
theorem dX3_readFlag_110 : decode cX3_readFlag 110 = .ok (.iconst 1, 1) := by decide +kernel
theorem dX3_readFlag_111 : decode cX3_readFlag 111 = .ok (.iload_n 1, 1) := by decide +kernel
theorem dX3_readFlag_112 : decode cX3_readFlag 112 = .ok (.ishl, 1) := by decide +kernel
theorem dX3_readFlag_113 : decode cX3_readFlag 113 = .ok (.ior, 1) := by decide +kernel
theorem dX3_readFlag_114 : decode cX3_readFlag 114 = .ok (.putfield 53, 3) := by decide +kernel
theorem dX3_readFlag_117 : decode cX3_readFlag 117 = .ok (.goto 8, 3) := by decide +kernel
theorem dX3_readFlag_120 : decode cX3_readFlag 120 = .ok (.aload_n 0, 1) := by decide +kernel
theorem dX3_readFlag_121 : decode cX3_readFlag 121 = .ok (.iconst 2, 1) := by decide +kernel
theorem dX3_readFlag_122 : decode cX3_readFlag 122 = .ok (.invokevirtual 75, 3) := by decide +kernel
theorem dX3_readFlag_125 : decode cX3_readFlag 125 = .ok (.return_, 1) := by decide +kernel
theorem dX3_readLaw_0 : decode cX3_readLaw 0 = .ok (.aload_n 0, 1) := by decide +kernel
theorem dX3_readLaw_1 : decode cX3_readLaw 1 = .ok (.getfield 14, 3) := by decide +kernel
theorem dX3_readLaw_4 : decode cX3_readLaw 4 = .ok (.invokevirtual 78, 3) := by decide +kernel
theorem dX3_readLaw_7 : decode cX3_readLaw 7 = .ok (.aload_n 0, 1) := by decide +kernel
theorem dX3_readLaw_8 : decode cX3_readLaw 8 = .ok (.bipush 58, 2) := by decide +kernel
theorem dX3_readLaw_10 : decode cX3_readLaw 10 = .ok (.invokevirtual 124, 3) := by decide +kernel
theorem dX3_readLaw_13 : decode cX3_readLaw 13 = .ok (.aload_n 0, 1) := by decide +kernel
theorem dX3_readLaw_14 : decode cX3_readLaw 14 = .ok (.getfield 23, 3) := by decide +kernel
theorem dX3_readLaw_17 : decode cX3_readLaw 17 = .ok (.iload_n 1, 1) := by decide +kernel
theorem dX3_readLaw_18 : decode cX3_readLaw 18 = .ok (.invokevirtual 128, 3) := by decide +kernel
theorem dX3_readLaw_21 : decode cX3_readLaw 21 = .ok (.iconst 0, 1) := by decide +kernel
theorem dX3_readLaw_22 : decode cX3_readLaw 22 = .ok (.istore_n 2, 1) := by decide +kernel
theorem dX3_readLaw_23 : decode cX3_readLaw 23 = .ok (.iload_n 2, 1) := by decide +kernel
theorem dX3_readLaw_24 : decode cX3_readLaw 24 = .ok (.sipush 900, 3) := by decide +kernel
theorem dX3_readLaw_27 : decode cX3_readLaw 27 = .ok (.if_icmp .ge 78, 3) := by decide +kernel
theorem dX3_readLaw_30 : decode cX3_readLaw 30 = .ok (.aload_n 0, 1) := by decide +kernel
theorem dX3_readLaw_31 : decode cX3_readLaw 31 = .ok (.getfield 40, 3) := by decide +kernel
theorem dX3_readLaw_34 : decode cX3_readLaw 34 = .ok (.ifCond .ne 71, 3) := by decide +kernel
theorem dX3_readLaw_37 : decode cX3_readLaw 37 = .ok (.aload_n 0, 1) := by decide +kernel
theorem dX3_readLaw_38 : decode cX3_readLaw 38 = .ok (.invokevirtual 129, 3) := by decide +kernel
theorem dX3_readLaw_41 : decode cX3_readLaw 41 = .ok (.ifCond .ne 64, 3) := by decide +kernel
theorem dX3_readLaw_44 : decode cX3_readLaw 44 = .ok (.aload_n 0, 1) := by decide +kernel
theorem dX3_readLaw_45 : decode cX3_readLaw 45 = .ok (.getfield 23, 3) := by decide +kernel
theorem dX3_readLaw_48 : decode cX3_readLaw 48 = .ok (.getfield 133, 3) := by decide +kernel
theorem dX3_readLaw_51 : decode cX3_readLaw 51 = .ok (.ifCond .eq 17, 3) := by decide +kernel
theorem dX3_readLaw_54 : decode cX3_readLaw 54 = .ok (.aload_n 0, 1) := by decide +kernel
theorem dX3_readLaw_55 : decode cX3_readLaw 55 = .ok (.getfield 23, 3) := by decide +kernel
theorem dX3_readLaw_58 : decode cX3_readLaw 58 = .ok (.aload_n 0, 1) := by decide +kernel
theorem dX3_readLaw_59 : decode cX3_readLaw 59 = .ok (.getfield 14, 3) := by decide +kernel
theorem dX3_readLaw_62 : decode cX3_readLaw 62 = .ok (.invokevirtual 137, 3) := by decide +kernel
theorem dX3_readLaw_65 : decode cX3_readLaw 65 = .ok (.goto 14, 3) := by decide +kernel
theorem dX3_readLaw_68 : decode cX3_readLaw 68 = .ok (.aload_n 0, 1) := by decide +kernel
theorem dX3_readLaw_69 : decode cX3_readLaw 69 = .ok (.getfield 23, 3) := by decide +kernel
theorem dX3_readLaw_72 : decode cX3_readLaw 72 = .ok (.aload_n 0, 1) := by decide +kernel
theorem dX3_readLaw_73 : decode cX3_readLaw 73 = .ok (.getfield 14, 3) := by decide +kernel
theorem dX3_readLaw_76 : decode cX3_readLaw 76 = .ok (.invokevirtual 141, 3) := by decide +kernel
theorem dX3_readLaw_79 : decode cX3_readLaw 79 = .ok (.istore_n 3, 1) := by decide +kernel
theorem dX3_readLaw_80 : decode cX3_readLaw 80 = .ok (.iload_n 3, 1) := by decide +kernel
theorem dX3_readLaw_81 : decode cX3_readLaw 81 = .ok (.ifCond .ne 13, 3) := by decide +kernel
theorem dX3_readLaw_84 : decode cX3_readLaw 84 = .ok (.aload_n 0, 1) := by decide +kernel
theorem dX3_readLaw_85 : decode cX3_readLaw 85 = .ok (.getfield 14, 3) := by decide +kernel
theorem dX3_readLaw_88 : decode cX3_readLaw 88 = .ok (.invokevirtual 78, 3) := by decide +kernel
theorem dX3_readLaw_91 : decode cX3_readLaw 91 = .ok (.goto 8, 3) := by decide +kernel
theorem dX3_readLaw_94 : decode cX3_readLaw 94 = .ok (.aload_n 0, 1) := by decide +kernel
theorem dX3_readLaw_95 : decode cX3_readLaw 95 = .ok (.iload_n 3, 1) := by decide +kernel
theorem dX3_readLaw_96 : decode cX3_readLaw 96 = .ok (.invokevirtual 75, 3) := by decide +kernel
theorem dX3_readLaw_99 : decode cX3_readLaw 99 = .ok (.iinc 2 1, 3) := by decide +kernel
theorem dX3_readLaw_102 : decode cX3_readLaw 102 = .ok (.goto (-79), 3) := by decide +kernel
theorem dX3_readLaw_105 : decode cX3_readLaw 105 = .ok (.aload_n 0, 1) := by decide +kernel
theorem dX3_readLaw_106 : decode cX3_readLaw 106 = .ok (.getfield 40, 3) := by decide +kernel
theorem dX3_readLaw_109 : decode cX3_readLaw 109 = .ok (.ifCond .ne 13, 3) := by decide +kernel
theorem dX3_readLaw_112 : decode cX3_readLaw 112 = .ok (.aload_n 0, 1) := by decide +kernel
theorem dX3_readLaw_113 : decode cX3_readLaw 113 = .ok (.getfield 23, 3) := by decide +kernel
theorem dX3_readLaw_116 : decode cX3_readLaw 116 = .ok (.invokevirtual 144, 3) := by decide +kernel
theorem dX3_readLaw_119 : decode cX3_readLaw 119 = .ok (.goto 7, 3) := by decide +kernel
theorem dX3_readLaw_122 : decode cX3_readLaw 122 = .ok (.aload_n 0, 1) := by decide +kernel
theorem dX3_readLaw_123 : decode cX3_readLaw 123 = .ok (.getfield 27, 3) := by decide +kernel
theorem dX3_readLaw_126 : decode cX3_readLaw 126 = .ok (.areturn, 1) := by decide +kernel
theorem dX3_lawEnds_0 : decode cX3_lawEnds 0 = .ok (.aload_n 0, 1) := by decide +kernel
theorem dX3_lawEnds_1 : decode cX3_lawEnds 1 = .ok (.getfield 23, 3) := by decide +kernel
theorem dX3_lawEnds_4 : decode cX3_lawEnds 4 = .ok (.invokevirtual 148, 3) := by decide +kernel
theorem dX3_lawEnds_7 : decode cX3_lawEnds 7 = .ok (.ifCond .eq 19, 3) := by decide +kernel
theorem dX3_lawEnds_10 : decode cX3_lawEnds 10 = .ok (.aload_n 0, 1) := by decide +kernel
theorem dX3_lawEnds_11 : decode cX3_lawEnds 11 = .ok (.getfield 14, 3) := by decide +kernel
theorem dX3_lawEnds_14 : decode cX3_lawEnds 14 = .ok (.bipush 59, 2) := by decide +kernel
theorem dX3_lawEnds_16 : decode cX3_lawEnds 16 = .ok (.invokevirtual 151, 3) := by decide +kernel
theorem dX3_lawEnds_19 : decode cX3_lawEnds 19 = .ok (.ifCond .eq 7, 3) := by decide +kernel
theorem dX3_lawEnds_22 : decode cX3_lawEnds 22 = .ok (.iconst 1, 1) := by decide +kernel
theorem dX3_lawEnds_23 : decode cX3_lawEnds 23 = .ok (.goto 4, 3) := by decide +kernel
theorem dX3_lawEnds_26 : decode cX3_lawEnds 26 = .ok (.iconst 0, 1) := by decide +kernel
theorem dX3_lawEnds_27 : decode cX3_lawEnds 27 = .ok (.ireturn, 1) := by decide +kernel
theorem dX3_endLine_0 : decode cX3_endLine 0 = .ok (.aload_n 0, 1) := by decide +kernel
theorem dX3_endLine_1 : decode cX3_endLine 1 = .ok (.bipush 59, 2) := by decide +kernel
theorem dX3_endLine_3 : decode cX3_endLine 3 = .ok (.invokevirtual 124, 3) := by decide +kernel
theorem dX3_endLine_6 : decode cX3_endLine 6 = .ok (.aload_n 0, 1) := by decide +kernel
theorem dX3_endLine_7 : decode cX3_endLine 7 = .ok (.getfield 40, 3) := by decide +kernel
theorem dX3_endLine_10 : decode cX3_endLine 10 = .ok (.ifCond .ne 13, 3) := by decide +kernel
theorem dX3_endLine_13 : decode cX3_endLine 13 = .ok (.aload_n 0, 1) := by decide +kernel
theorem dX3_endLine_14 : decode cX3_endLine 14 = .ok (.dup, 1) := by decide +kernel
theorem dX3_endLine_15 : decode cX3_endLine 15 = .ok (.getfield 47, 3) := by decide +kernel
theorem dX3_endLine_18 : decode cX3_endLine 18 = .ok (.iconst 1, 1) := by decide +kernel
theorem dX3_endLine_19 : decode cX3_endLine 19 = .ok (.iadd, 1) := by decide +kernel
theorem dX3_endLine_20 : decode cX3_endLine 20 = .ok (.putfield 47, 3) := by decide +kernel
theorem dX3_endLine_23 : decode cX3_endLine 23 = .ok (.return_, 1) := by decide +kernel
theorem dX3_takeNumber_0 : decode cX3_takeNumber 0 = .ok (.aload_n 0, 1) := by decide +kernel
theorem dX3_takeNumber_1 : decode cX3_takeNumber 1 = .ok (.getfield 40, 3) := by decide +kernel
theorem dX3_takeNumber_4 : decode cX3_takeNumber 4 = .ok (.ifCond .eq 5, 3) := by decide +kernel
theorem dX3_takeNumber_7 : decode cX3_takeNumber 7 = .ok (.iload_n 1, 1) := by decide +kernel
theorem dX3_takeNumber_8 : decode cX3_takeNumber 8 = .ok (.ireturn, 1) := by decide +kernel
theorem dX3_takeNumber_9 : decode cX3_takeNumber 9 = .ok (.aload_n 0, 1) := by decide +kernel
theorem dX3_takeNumber_10 : decode cX3_takeNumber 10 = .ok (.getfield 14, 3) := by decide +kernel
theorem dX3_takeNumber_13 : decode cX3_takeNumber 13 = .ok (.getfield 155, 3) := by decide +kernel
theorem dX3_takeNumber_16 : decode cX3_takeNumber 16 = .ok (.istore_n 3, 1) := by decide +kernel
theorem dX3_takeNumber_17 : decode cX3_takeNumber 17 = .ok (.aload_n 0, 1) := by decide +kernel
theorem dX3_takeNumber_18 : decode cX3_takeNumber 18 = .ok (.getfield 14, 3) := by decide +kernel
theorem dX3_takeNumber_21 : decode cX3_takeNumber 21 = .ok (.getfield 63, 3) := by decide +kernel
theorem dX3_takeNumber_24 : decode cX3_takeNumber 24 = .ok (.iconst 2, 1) := by decide +kernel
theorem dX3_takeNumber_25 : decode cX3_takeNumber 25 = .ok (.if_icmp .eq 10, 3) := by decide +kernel
theorem dX3_takeNumber_28 : decode cX3_takeNumber 28 = .ok (.aload_n 0, 1) := by decide +kernel
theorem dX3_takeNumber_29 : decode cX3_takeNumber 29 = .ok (.iconst 2, 1) := by decide +kernel
theorem dX3_takeNumber_30 : decode cX3_takeNumber 30 = .ok (.invokevirtual 75, 3) := by decide +kernel
theorem dX3_takeNumber_33 : decode cX3_takeNumber 33 = .ok (.iload_n 1, 1) := by decide +kernel
theorem dX3_takeNumber_34 : decode cX3_takeNumber 34 = .ok (.ireturn, 1) := by decide +kernel
theorem dX3_takeNumber_35 : decode cX3_takeNumber 35 = .ok (.iload_n 3, 1) := by decide +kernel
theorem dX3_takeNumber_36 : decode cX3_takeNumber 36 = .ok (.iload_n 1, 1) := by decide +kernel
theorem dX3_takeNumber_37 : decode cX3_takeNumber 37 = .ok (.if_icmp .lt 8, 3) := by decide +kernel
theorem dX3_takeNumber_40 : decode cX3_takeNumber 40 = .ok (.iload_n 3, 1) := by decide +kernel
theorem dX3_takeNumber_41 : decode cX3_takeNumber 41 = .ok (.iload_n 2, 1) := by decide +kernel
theorem dX3_takeNumber_42 : decode cX3_takeNumber 42 = .ok (.if_icmp .le 10, 3) := by decide +kernel
theorem dX3_takeNumber_45 : decode cX3_takeNumber 45 = .ok (.aload_n 0, 1) := by decide +kernel
theorem dX3_takeNumber_46 : decode cX3_takeNumber 46 = .ok (.iconst 3, 1) := by decide +kernel
theorem dX3_takeNumber_47 : decode cX3_takeNumber 47 = .ok (.invokevirtual 75, 3) := by decide +kernel
theorem dX3_takeNumber_50 : decode cX3_takeNumber 50 = .ok (.iload_n 1, 1) := by decide +kernel
theorem dX3_takeNumber_51 : decode cX3_takeNumber 51 = .ok (.ireturn, 1) := by decide +kernel
theorem dX3_takeNumber_52 : decode cX3_takeNumber 52 = .ok (.aload_n 0, 1) := by decide +kernel
theorem dX3_takeNumber_53 : decode cX3_takeNumber 53 = .ok (.getfield 14, 3) := by decide +kernel
theorem dX3_takeNumber_56 : decode cX3_takeNumber 56 = .ok (.invokevirtual 78, 3) := by decide +kernel
theorem dX3_takeNumber_59 : decode cX3_takeNumber 59 = .ok (.iload_n 3, 1) := by decide +kernel
theorem dX3_takeNumber_60 : decode cX3_takeNumber 60 = .ok (.ireturn, 1) := by decide +kernel
theorem dX3_takeSign_0 : decode cX3_takeSign 0 = .ok (.aload_n 0, 1) := by decide +kernel
theorem dX3_takeSign_1 : decode cX3_takeSign 1 = .ok (.getfield 40, 3) := by decide +kernel
theorem dX3_takeSign_4 : decode cX3_takeSign 4 = .ok (.ifCond .eq 4, 3) := by decide +kernel
theorem dX3_takeSign_7 : decode cX3_takeSign 7 = .ok (.return_, 1) := by decide +kernel
theorem dX3_takeSign_8 : decode cX3_takeSign 8 = .ok (.aload_n 0, 1) := by decide +kernel
theorem dX3_takeSign_9 : decode cX3_takeSign 9 = .ok (.getfield 14, 3) := by decide +kernel
theorem dX3_takeSign_12 : decode cX3_takeSign 12 = .ok (.iload_n 1, 1) := by decide +kernel
theorem dX3_takeSign_13 : decode cX3_takeSign 13 = .ok (.invokevirtual 151, 3) := by decide +kernel
theorem dX3_takeSign_16 : decode cX3_takeSign 16 = .ok (.ifCond .eq 13, 3) := by decide +kernel
theorem dX3_takeSign_19 : decode cX3_takeSign 19 = .ok (.aload_n 0, 1) := by decide +kernel
theorem dX3_takeSign_20 : decode cX3_takeSign 20 = .ok (.getfield 14, 3) := by decide +kernel
theorem dX3_takeSign_23 : decode cX3_takeSign 23 = .ok (.invokevirtual 78, 3) := by decide +kernel
theorem dX3_takeSign_26 : decode cX3_takeSign 26 = .ok (.goto 8, 3) := by decide +kernel
theorem dX3_takeSign_29 : decode cX3_takeSign 29 = .ok (.aload_n 0, 1) := by decide +kernel
theorem dX3_takeSign_30 : decode cX3_takeSign 30 = .ok (.iconst 2, 1) := by decide +kernel
theorem dX3_takeSign_31 : decode cX3_takeSign 31 = .ok (.invokevirtual 75, 3) := by decide +kernel
theorem dX3_takeSign_34 : decode cX3_takeSign 34 = .ok (.return_, 1) := by decide +kernel
theorem dX3_refuse_0 : decode cX3_refuse 0 = .ok (.aload_n 0, 1) := by decide +kernel
theorem dX3_refuse_1 : decode cX3_refuse 1 = .ok (.aload_n 0, 1) := by decide +kernel
theorem dX3_refuse_2 : decode cX3_refuse 2 = .ok (.getfield 14, 3) := by decide +kernel
theorem dX3_refuse_5 : decode cX3_refuse 5 = .ok (.getfield 63, 3) := by decide +kernel
theorem dX3_refuse_8 : decode cX3_refuse 8 = .ok (.iconst 4, 1) := by decide +kernel
theorem dX3_refuse_9 : decode cX3_refuse 9 = .ok (.if_icmp .ne 7, 3) := by decide +kernel
theorem dX3_refuse_12 : decode cX3_refuse 12 = .ok (.iconst 1, 1) := by decide +kernel
theorem dX3_refuse_13 : decode cX3_refuse 13 = .ok (.goto 4, 3) := by decide +kernel
theorem dX3_refuse_16 : decode cX3_refuse 16 = .ok (.iload_n 1, 1) := by decide +kernel
theorem dX3_refuse_17 : decode cX3_refuse 17 = .ok (.putfield 40, 3) := by decide +kernel
theorem dX3_refuse_20 : decode cX3_refuse 20 = .ok (.aload_n 0, 1) := by decide +kernel
theorem dX3_refuse_21 : decode cX3_refuse 21 = .ok (.aload_n 0, 1) := by decide +kernel
theorem dX3_refuse_22 : decode cX3_refuse 22 = .ok (.getfield 14, 3) := by decide +kernel
theorem dX3_refuse_25 : decode cX3_refuse 25 = .ok (.getfield 158, 3) := by decide +kernel
theorem dX3_refuse_28 : decode cX3_refuse 28 = .ok (.putfield 44, 3) := by decide +kernel
theorem dX3_refuse_31 : decode cX3_refuse 31 = .ok (.return_, 1) := by decide +kernel
theorem dX4_init_0 : decode cX4_init 0 = .ok (.aload_n 0, 1) := by decide +kernel
theorem dX4_init_1 : decode cX4_init 1 = .ok (.invokespecial 1, 3) := by decide +kernel
theorem dX4_init_4 : decode cX4_init 4 = .ok (.aload_n 0, 1) := by decide +kernel
theorem dX4_init_5 : decode cX4_init 5 = .ok (.bipush 64, 2) := by decide +kernel
theorem dX4_init_7 : decode cX4_init 7 = .ok (.newarray .int, 2) := by decide +kernel
theorem dX4_init_9 : decode cX4_init 9 = .ok (.putfield 9, 3) := by decide +kernel
theorem dX4_init_12 : decode cX4_init 12 = .ok (.return_, 1) := by decide +kernel
theorem dX4_reckon_0 : decode cX4_reckon 0 = .ok (.aload_n 0, 1) := by decide +kernel
theorem dX4_reckon_1 : decode cX4_reckon 1 = .ok (.iconst 0, 1) := by decide +kernel
theorem dX4_reckon_2 : decode cX4_reckon 2 = .ok (.putfield 13, 3) := by decide +kernel
theorem dX4_reckon_5 : decode cX4_reckon 5 = .ok (.iconst 0, 1) := by decide +kernel
theorem dX4_reckon_6 : decode cX4_reckon 6 = .ok (.istore 6, 2) := by decide +kernel
theorem dX4_reckon_8 : decode cX4_reckon 8 = .ok (.iload 6, 2) := by decide +kernel
theorem dX4_reckon_10 : decode cX4_reckon 10 = .ok (.aload_n 1, 1) := by decide +kernel
theorem dX4_reckon_11 : decode cX4_reckon 11 = .ok (.arraylength, 1) := by decide +kernel
theorem dX4_reckon_12 : decode cX4_reckon 12 = .ok (.if_icmp .ge 159, 3) := by decide +kernel
theorem dX4_reckon_15 : decode cX4_reckon 15 = .ok (.aload_n 1, 1) := by decide +kernel
theorem dX4_reckon_16 : decode cX4_reckon 16 = .ok (.iload 6, 2) := by decide +kernel
theorem dX4_reckon_18 : decode cX4_reckon 18 = .ok (.iaload, 1) := by decide +kernel
theorem dX4_reckon_19 : decode cX4_reckon 19 = .ok (.istore 7, 2) := by decide +kernel
theorem dX4_reckon_21 : decode cX4_reckon 21 = .ok (.iload 7, 2) := by decide +kernel
theorem dX4_reckon_23 : decode cX4_reckon 23 = .ok (.tableswitch 104 (-11) (-1) #[91, 104, 104, 104, 104, 104, 104, 82, 73, 65, 57], 57) := by decide +kernel
theorem dX4_reckon_80 : decode cX4_reckon 80 = .ok (.aload_n 0, 1) := by decide +kernel
theorem dX4_reckon_81 : decode cX4_reckon 81 = .ok (.iload_n 2, 1) := by decide +kernel
theorem dX4_reckon_82 : decode cX4_reckon 82 = .ok (.invokevirtual 17, 3) := by decide +kernel
theorem dX4_reckon_85 : decode cX4_reckon 85 = .ok (.goto 80, 3) := by decide +kernel
theorem dX4_reckon_88 : decode cX4_reckon 88 = .ok (.aload_n 0, 1) := by decide +kernel
theorem dX4_reckon_89 : decode cX4_reckon 89 = .ok (.iload_n 3, 1) := by decide +kernel
theorem dX4_reckon_90 : decode cX4_reckon 90 = .ok (.invokevirtual 17, 3) := by decide +kernel
theorem dX4_reckon_93 : decode cX4_reckon 93 = .ok (.goto 72, 3) := by decide +kernel
theorem dX4_reckon_96 : decode cX4_reckon 96 = .ok (.aload_n 0, 1) := by decide +kernel
theorem dX4_reckon_97 : decode cX4_reckon 97 = .ok (.iload 4, 2) := by decide +kernel
theorem dX4_reckon_99 : decode cX4_reckon 99 = .ok (.invokevirtual 17, 3) := by decide +kernel
theorem dX4_reckon_102 : decode cX4_reckon 102 = .ok (.goto 63, 3) := by decide +kernel
theorem dX4_reckon_105 : decode cX4_reckon 105 = .ok (.aload_n 0, 1) := by decide +kernel
theorem dX4_reckon_106 : decode cX4_reckon 106 = .ok (.iload 5, 2) := by decide +kernel
theorem dX4_reckon_108 : decode cX4_reckon 108 = .ok (.invokevirtual 17, 3) := by decide +kernel
theorem dX4_reckon_111 : decode cX4_reckon 111 = .ok (.goto 54, 3) := by decide +kernel
theorem dX4_reckon_114 : decode cX4_reckon 114 = .ok (.aload_n 0, 1) := by decide +kernel
theorem dX4_reckon_115 : decode cX4_reckon 115 = .ok (.iconst 1, 1) := by decide +kernel
theorem dX4_reckon_116 : decode cX4_reckon 116 = .ok (.aload_n 0, 1) := by decide +kernel
theorem dX4_reckon_117 : decode cX4_reckon 117 = .ok (.invokevirtual 21, 3) := by decide +kernel
theorem dX4_reckon_120 : decode cX4_reckon 120 = .ok (.isub, 1) := by decide +kernel
theorem dX4_reckon_121 : decode cX4_reckon 121 = .ok (.invokevirtual 17, 3) := by decide +kernel
theorem dX4_reckon_124 : decode cX4_reckon 124 = .ok (.goto 41, 3) := by decide +kernel
theorem dX4_reckon_127 : decode cX4_reckon 127 = .ok (.iload 7, 2) := by decide +kernel
theorem dX4_reckon_129 : decode cX4_reckon 129 = .ok (.ifCond .lt 12, 3) := by decide +kernel
theorem dX4_reckon_132 : decode cX4_reckon 132 = .ok (.aload_n 0, 1) := by decide +kernel
theorem dX4_reckon_133 : decode cX4_reckon 133 = .ok (.iload 7, 2) := by decide +kernel
theorem dX4_reckon_135 : decode cX4_reckon 135 = .ok (.invokevirtual 17, 3) := by decide +kernel
theorem dX4_reckon_138 : decode cX4_reckon 138 = .ok (.goto 27, 3) := by decide +kernel
theorem dX4_reckon_141 : decode cX4_reckon 141 = .ok (.aload_n 0, 1) := by decide +kernel
theorem dX4_reckon_142 : decode cX4_reckon 142 = .ok (.invokevirtual 21, 3) := by decide +kernel
theorem dX4_reckon_145 : decode cX4_reckon 145 = .ok (.istore 8, 2) := by decide +kernel
theorem dX4_reckon_147 : decode cX4_reckon 147 = .ok (.aload_n 0, 1) := by decide +kernel
theorem dX4_reckon_148 : decode cX4_reckon 148 = .ok (.iload 7, 2) := by decide +kernel
theorem dX4_reckon_150 : decode cX4_reckon 150 = .ok (.aload_n 0, 1) := by decide +kernel
theorem dX4_reckon_151 : decode cX4_reckon 151 = .ok (.invokevirtual 21, 3) := by decide +kernel
theorem dX4_reckon_154 : decode cX4_reckon 154 = .ok (.iload 8, 2) := by decide +kernel
theorem dX4_reckon_156 : decode cX4_reckon 156 = .ok (.invokestatic 25, 3) := by decide +kernel
theorem dX4_reckon_159 : decode cX4_reckon 159 = .ok (.invokestatic 29, 3) := by decide +kernel
theorem dX4_reckon_162 : decode cX4_reckon 162 = .ok (.invokevirtual 17, 3) := by decide +kernel
theorem dX4_reckon_165 : decode cX4_reckon 165 = .ok (.iinc 6 1, 3) := by decide +kernel
theorem dX4_reckon_168 : decode cX4_reckon 168 = .ok (.goto (-160), 3) := by decide +kernel
theorem dX4_reckon_171 : decode cX4_reckon 171 = .ok (.aload_n 0, 1) := by decide +kernel
theorem dX4_reckon_172 : decode cX4_reckon 172 = .ok (.invokevirtual 21, 3) := by decide +kernel
theorem dX4_reckon_175 : decode cX4_reckon 175 = .ok (.ireturn, 1) := by decide +kernel
theorem dX4_join_0 : decode cX4_join 0 = .ok (.iload_n 0, 1) := by decide +kernel
theorem dX4_join_1 : decode cX4_join 1 = .ok (.tableswitch 101 (-12) (-5) #[96, 101, 85, 74, 63, 57, 52, 47], 47) := by decide +kernel
theorem dX4_join_48 : decode cX4_join 48 = .ok (.iload_n 1, 1) := by decide +kernel
theorem dX4_join_49 : decode cX4_join 49 = .ok (.iload_n 2, 1) := by decide +kernel
theorem dX4_join_50 : decode cX4_join 50 = .ok (.iadd, 1) := by decide +kernel
theorem dX4_join_51 : decode cX4_join 51 = .ok (.i2l, 1) := by decide +kernel
theorem dX4_join_52 : decode cX4_join 52 = .ok (.lreturn, 1) := by decide +kernel
theorem dX4_join_53 : decode cX4_join 53 = .ok (.iload_n 1, 1) := by decide +kernel
theorem dX4_join_54 : decode cX4_join 54 = .ok (.iload_n 2, 1) := by decide +kernel
theorem dX4_join_55 : decode cX4_join 55 = .ok (.isub, 1) := by decide +kernel
theorem dX4_join_56 : decode cX4_join 56 = .ok (.i2l, 1) := by decide +kernel
theorem dX4_join_57 : decode cX4_join 57 = .ok (.lreturn, 1) := by decide +kernel
theorem dX4_join_58 : decode cX4_join 58 = .ok (.iload_n 1, 1) := by decide +kernel
theorem dX4_join_59 : decode cX4_join 59 = .ok (.i2l, 1) := by decide +kernel
theorem dX4_join_60 : decode cX4_join 60 = .ok (.iload_n 2, 1) := by decide +kernel
theorem dX4_join_61 : decode cX4_join 61 = .ok (.i2l, 1) := by decide +kernel
theorem dX4_join_62 : decode cX4_join 62 = .ok (.lmul, 1) := by decide +kernel
theorem dX4_join_63 : decode cX4_join 63 = .ok (.lreturn, 1) := by decide +kernel
theorem dX4_join_64 : decode cX4_join 64 = .ok (.iload_n 1, 1) := by decide +kernel
theorem dX4_join_65 : decode cX4_join 65 = .ok (.iload_n 2, 1) := by decide +kernel
theorem dX4_join_66 : decode cX4_join 66 = .ok (.if_icmp .ne 7, 3) := by decide +kernel
theorem dX4_join_69 : decode cX4_join 69 = .ok (.lconst 1, 1) := by decide +kernel
theorem dX4_join_70 : decode cX4_join 70 = .ok (.goto 4, 3) := by decide +kernel
theorem dX4_join_73 : decode cX4_join 73 = .ok (.lconst 0, 1) := by decide +kernel
theorem dX4_join_74 : decode cX4_join 74 = .ok (.lreturn, 1) := by decide +kernel
theorem dX4_join_75 : decode cX4_join 75 = .ok (.iload_n 1, 1) := by decide +kernel
theorem dX4_join_76 : decode cX4_join 76 = .ok (.iload_n 2, 1) := by decide +kernel
theorem dX4_join_77 : decode cX4_join 77 = .ok (.if_icmp .ge 7, 3) := by decide +kernel
theorem dX4_join_80 : decode cX4_join 80 = .ok (.lconst 1, 1) := by decide +kernel
theorem dX4_join_81 : decode cX4_join 81 = .ok (.goto 4, 3) := by decide +kernel
theorem dX4_join_84 : decode cX4_join 84 = .ok (.lconst 0, 1) := by decide +kernel
theorem dX4_join_85 : decode cX4_join 85 = .ok (.lreturn, 1) := by decide +kernel
theorem dX4_join_86 : decode cX4_join 86 = .ok (.iload_n 1, 1) := by decide +kernel
theorem dX4_join_87 : decode cX4_join 87 = .ok (.iload_n 2, 1) := by decide +kernel
theorem dX4_join_88 : decode cX4_join 88 = .ok (.if_icmp .le 7, 3) := by decide +kernel
theorem dX4_join_91 : decode cX4_join 91 = .ok (.lconst 1, 1) := by decide +kernel
theorem dX4_join_92 : decode cX4_join 92 = .ok (.goto 4, 3) := by decide +kernel
theorem dX4_join_95 : decode cX4_join 95 = .ok (.lconst 0, 1) := by decide +kernel
theorem dX4_join_96 : decode cX4_join 96 = .ok (.lreturn, 1) := by decide +kernel
theorem dX4_join_97 : decode cX4_join 97 = .ok (.iload_n 1, 1) := by decide +kernel
theorem dX4_join_98 : decode cX4_join 98 = .ok (.iload_n 2, 1) := by decide +kernel
theorem dX4_join_99 : decode cX4_join 99 = .ok (.iand, 1) := by decide +kernel
theorem dX4_join_100 : decode cX4_join 100 = .ok (.i2l, 1) := by decide +kernel
theorem dX4_join_101 : decode cX4_join 101 = .ok (.lreturn, 1) := by decide +kernel
theorem dX4_join_102 : decode cX4_join 102 = .ok (.iload_n 1, 1) := by decide +kernel
theorem dX4_join_103 : decode cX4_join 103 = .ok (.iload_n 2, 1) := by decide +kernel
theorem dX4_join_104 : decode cX4_join 104 = .ok (.ior, 1) := by decide +kernel
theorem dX4_join_105 : decode cX4_join 105 = .ok (.i2l, 1) := by decide +kernel
theorem dX4_join_106 : decode cX4_join 106 = .ok (.lreturn, 1) := by decide +kernel
theorem dX4_bounded_0 : decode cX4_bounded 0 = .ok (.lload_n 0, 1) := by decide +kernel
theorem dX4_bounded_1 : decode cX4_bounded 1 = .ok (.ldc2_w 33, 3) := by decide +kernel
theorem dX4_bounded_4 : decode cX4_bounded 4 = .ok (.lcmp, 1) := by decide +kernel
theorem dX4_bounded_5 : decode cX4_bounded 5 = .ok (.ifCond .le 6, 3) := by decide +kernel
theorem dX4_bounded_8 : decode cX4_bounded 8 = .ok (.ldc 35, 2) := by decide +kernel
theorem dX4_bounded_10 : decode cX4_bounded 10 = .ok (.ireturn, 1) := by decide +kernel
theorem dX4_bounded_11 : decode cX4_bounded 11 = .ok (.lload_n 0, 1) := by decide +kernel
theorem dX4_bounded_12 : decode cX4_bounded 12 = .ok (.ldc2_w 36, 3) := by decide +kernel
theorem dX4_bounded_15 : decode cX4_bounded 15 = .ok (.lcmp, 1) := by decide +kernel
theorem dX4_bounded_16 : decode cX4_bounded 16 = .ok (.ifCond .ge 8, 3) := by decide +kernel
theorem dX4_bounded_19 : decode cX4_bounded 19 = .ok (.ldc 38, 2) := by decide +kernel
theorem dX4_bounded_21 : decode cX4_bounded 21 = .ok (.goto 5, 3) := by decide +kernel
theorem dX4_bounded_24 : decode cX4_bounded 24 = .ok (.lload_n 0, 1) := by decide +kernel
theorem dX4_bounded_25 : decode cX4_bounded 25 = .ok (.l2i, 1) := by decide +kernel
theorem dX4_bounded_26 : decode cX4_bounded 26 = .ok (.ireturn, 1) := by decide +kernel
theorem dX4_push_0 : decode cX4_push 0 = .ok (.aload_n 0, 1) := by decide +kernel
theorem dX4_push_1 : decode cX4_push 1 = .ok (.getfield 13, 3) := by decide +kernel
theorem dX4_push_4 : decode cX4_push 4 = .ok (.bipush 64, 2) := by decide +kernel
theorem dX4_push_6 : decode cX4_push 6 = .ok (.if_icmp .ge 23, 3) := by decide +kernel
theorem dX4_push_9 : decode cX4_push 9 = .ok (.aload_n 0, 1) := by decide +kernel
theorem dX4_push_10 : decode cX4_push 10 = .ok (.getfield 9, 3) := by decide +kernel
theorem dX4_push_13 : decode cX4_push 13 = .ok (.aload_n 0, 1) := by decide +kernel
theorem dX4_push_14 : decode cX4_push 14 = .ok (.getfield 13, 3) := by decide +kernel
theorem dX4_push_17 : decode cX4_push 17 = .ok (.iload_n 1, 1) := by decide +kernel
theorem dX4_push_18 : decode cX4_push 18 = .ok (.iastore, 1) := by decide +kernel
theorem dX4_push_19 : decode cX4_push 19 = .ok (.aload_n 0, 1) := by decide +kernel
theorem dX4_push_20 : decode cX4_push 20 = .ok (.dup, 1) := by decide +kernel
theorem dX4_push_21 : decode cX4_push 21 = .ok (.getfield 13, 3) := by decide +kernel
theorem dX4_push_24 : decode cX4_push 24 = .ok (.iconst 1, 1) := by decide +kernel
theorem dX4_push_25 : decode cX4_push 25 = .ok (.iadd, 1) := by decide +kernel
theorem dX4_push_26 : decode cX4_push 26 = .ok (.putfield 13, 3) := by decide +kernel
theorem dX4_push_29 : decode cX4_push 29 = .ok (.return_, 1) := by decide +kernel
theorem dX4_pop_0 : decode cX4_pop 0 = .ok (.aload_n 0, 1) := by decide +kernel
theorem dX4_pop_1 : decode cX4_pop 1 = .ok (.getfield 13, 3) := by decide +kernel
theorem dX4_pop_4 : decode cX4_pop 4 = .ok (.iconst 1, 1) := by decide +kernel
theorem dX4_pop_5 : decode cX4_pop 5 = .ok (.if_icmp .ge 5, 3) := by decide +kernel
theorem dX4_pop_8 : decode cX4_pop 8 = .ok (.iconst 0, 1) := by decide +kernel
theorem dX4_pop_9 : decode cX4_pop 9 = .ok (.ireturn, 1) := by decide +kernel
theorem dX4_pop_10 : decode cX4_pop 10 = .ok (.aload_n 0, 1) := by decide +kernel
theorem dX4_pop_11 : decode cX4_pop 11 = .ok (.dup, 1) := by decide +kernel
theorem dX4_pop_12 : decode cX4_pop 12 = .ok (.getfield 13, 3) := by decide +kernel
theorem dX4_pop_15 : decode cX4_pop 15 = .ok (.iconst 1, 1) := by decide +kernel
theorem dX4_pop_16 : decode cX4_pop 16 = .ok (.isub, 1) := by decide +kernel
theorem dX4_pop_17 : decode cX4_pop 17 = .ok (.putfield 13, 3) := by decide +kernel
theorem dX4_pop_20 : decode cX4_pop 20 = .ok (.aload_n 0, 1) := by decide +kernel
theorem dX4_pop_21 : decode cX4_pop 21 = .ok (.getfield 9, 3) := by decide +kernel
theorem dX4_pop_24 : decode cX4_pop 24 = .ok (.aload_n 0, 1) := by decide +kernel
theorem dX4_pop_25 : decode cX4_pop 25 = .ok (.getfield 13, 3) := by decide +kernel
theorem dX4_pop_28 : decode cX4_pop 28 = .ok (.iaload, 1) := by decide +kernel
theorem dX4_pop_29 : decode cX4_pop 29 = .ok (.ireturn, 1) := by decide +kernel
theorem dX5_init_0 : decode cX5_init 0 = .ok (.aload_n 0, 1) := by decide +kernel
theorem dX5_init_1 : decode cX5_init 1 = .ok (.invokespecial 3, 3) := by decide +kernel
theorem dX5_init_4 : decode cX5_init 4 = .ok (.aload_n 0, 1) := by decide +kernel
theorem dX5_init_5 : decode cX5_init 5 = .ok (.aload_n 1, 1) := by decide +kernel
theorem dX5_init_6 : decode cX5_init 6 = .ok (.putfield 9, 3) := by decide +kernel
theorem dX5_init_9 : decode cX5_init 9 = .ok (.aload_n 0, 1) := by decide +kernel
theorem dX5_init_10 : decode cX5_init 10 = .ok (.aload_n 2, 1) := by decide +kernel
theorem dX5_init_11 : decode cX5_init 11 = .ok (.putfield 15, 3) := by decide +kernel
theorem dX5_init_14 : decode cX5_init 14 = .ok (.aload_n 0, 1) := by decide +kernel
theorem dX5_init_15 : decode cX5_init 15 = .ok (.bipush 30, 2) := by decide +kernel
theorem dX5_init_17 : decode cX5_init 17 = .ok (.newarray .int, 2) := by decide +kernel
theorem dX5_init_19 : decode cX5_init 19 = .ok (.putfield 19, 3) := by decide +kernel
theorem dX5_init_22 : decode cX5_init 22 = .ok (.aload_n 0, 1) := by decide +kernel
theorem dX5_init_23 : decode cX5_init 23 = .ok (.bipush 30, 2) := by decide +kernel
theorem dX5_init_25 : decode cX5_init 25 = .ok (.newarray .int, 2) := by decide +kernel
theorem dX5_init_27 : decode cX5_init 27 = .ok (.putfield 23, 3) := by decide +kernel
theorem dX5_init_30 : decode cX5_init 30 = .ok (.aload_n 0, 1) := by decide +kernel
theorem dX5_init_31 : decode cX5_init 31 = .ok (.bipush 6, 2) := by decide +kernel
theorem dX5_init_33 : decode cX5_init 33 = .ok (.newarray .int, 2) := by decide +kernel
theorem dX5_init_35 : decode cX5_init 35 = .ok (.putfield 26, 3) := by decide +kernel
theorem dX5_init_38 : decode cX5_init 38 = .ok (.aload_n 0, 1) := by decide +kernel
theorem dX5_init_39 : decode cX5_init 39 = .ok (.bipush 6, 2) := by decide +kernel
theorem dX5_init_41 : decode cX5_init 41 = .ok (.newarray .int, 2) := by decide +kernel
theorem dX5_init_43 : decode cX5_init 43 = .ok (.putfield 29, 3) := by decide +kernel
theorem dX5_init_46 : decode cX5_init 46 = .ok (.return_, 1) := by decide +kernel
theorem dX5_list_0 : decode cX5_list 0 = .ok (.aload_n 0, 1) := by decide +kernel
theorem dX5_list_1 : decode cX5_list 1 = .ok (.iconst 0, 1) := by decide +kernel
theorem dX5_list_2 : decode cX5_list 2 = .ok (.putfield 32, 3) := by decide +kernel
theorem dX5_list_5 : decode cX5_list 5 = .ok (.aload_n 0, 1) := by decide +kernel
theorem dX5_list_6 : decode cX5_list 6 = .ok (.getfield 15, 3) := by decide +kernel
theorem dX5_list_9 : decode cX5_list 9 = .ok (.aload_n 0, 1) := by decide +kernel
theorem dX5_list_10 : decode cX5_list 10 = .ok (.getfield 9, 3) := by decide +kernel
theorem dX5_list_13 : decode cX5_list 13 = .ok (.getfield 36, 3) := by decide +kernel
theorem dX5_list_16 : decode cX5_list 16 = .ok (.invokevirtual 41, 3) := by decide +kernel
theorem dX5_list_19 : decode cX5_list 19 = .ok (.iconst 0, 1) := by decide +kernel
theorem dX5_list_20 : decode cX5_list 20 = .ok (.istore_n 3, 1) := by decide +kernel
theorem dX5_list_21 : decode cX5_list 21 = .ok (.iload_n 3, 1) := by decide +kernel
theorem dX5_list_22 : decode cX5_list 22 = .ok (.aload_n 0, 1) := by decide +kernel
theorem dX5_list_23 : decode cX5_list 23 = .ok (.getfield 15, 3) := by decide +kernel
theorem dX5_list_26 : decode cX5_list 26 = .ok (.getfield 47, 3) := by decide +kernel
theorem dX5_list_29 : decode cX5_list 29 = .ok (.if_icmp .ge 122, 3) := by decide +kernel
theorem dX5_list_32 : decode cX5_list 32 = .ok (.aload_n 0, 1) := by decide +kernel
theorem dX5_list_33 : decode cX5_list 33 = .ok (.getfield 9, 3) := by decide +kernel
theorem dX5_list_36 : decode cX5_list 36 = .ok (.getfield 50, 3) := by decide +kernel
theorem dX5_list_39 : decode cX5_list 39 = .ok (.istore 4, 2) := by decide +kernel
theorem dX5_list_41 : decode cX5_list 41 = .ok (.iconst 1, 1) := by decide +kernel
theorem dX5_list_42 : decode cX5_list 42 = .ok (.istore 5, 2) := by decide +kernel
theorem dX5_list_44 : decode cX5_list 44 = .ok (.iload 5, 2) := by decide +kernel
theorem dX5_list_46 : decode cX5_list 46 = .ok (.aload_n 0, 1) := by decide +kernel
theorem dX5_list_47 : decode cX5_list 47 = .ok (.getfield 9, 3) := by decide +kernel
theorem dX5_list_50 : decode cX5_list 50 = .ok (.getfield 53, 3) := by decide +kernel
theorem dX5_list_53 : decode cX5_list 53 = .ok (.if_icmp .ge 92, 3) := by decide +kernel
theorem dX5_list_56 : decode cX5_list 56 = .ok (.iload 4, 2) := by decide +kernel
theorem dX5_list_58 : decode cX5_list 58 = .ok (.aload_n 0, 1) := by decide +kernel
theorem dX5_list_59 : decode cX5_list 59 = .ok (.getfield 15, 3) := by decide +kernel
theorem dX5_list_62 : decode cX5_list 62 = .ok (.iload_n 3, 1) := by decide +kernel
theorem dX5_list_63 : decode cX5_list 63 = .ok (.invokevirtual 56, 3) := by decide +kernel
theorem dX5_list_66 : decode cX5_list 66 = .ok (.aload_n 0, 1) := by decide +kernel
theorem dX5_list_67 : decode cX5_list 67 = .ok (.getfield 9, 3) := by decide +kernel
theorem dX5_list_70 : decode cX5_list 70 = .ok (.getfield 53, 3) := by decide +kernel
theorem dX5_list_73 : decode cX5_list 73 = .ok (.invokestatic 60, 3) := by decide +kernel
theorem dX5_list_76 : decode cX5_list 76 = .ok (.istore 4, 2) := by decide +kernel
theorem dX5_list_78 : decode cX5_list 78 = .ok (.iload 4, 2) := by decide +kernel
theorem dX5_list_80 : decode cX5_list 80 = .ok (.iload_n 1, 1) := by decide +kernel
theorem dX5_list_81 : decode cX5_list 81 = .ok (.iand, 1) := by decide +kernel
theorem dX5_list_82 : decode cX5_list 82 = .ok (.iload_n 2, 1) := by decide +kernel
theorem dX5_list_83 : decode cX5_list 83 = .ok (.if_icmp .ne 56, 3) := by decide +kernel
theorem dX5_list_86 : decode cX5_list 86 = .ok (.aload_n 0, 1) := by decide +kernel
theorem dX5_list_87 : decode cX5_list 87 = .ok (.getfield 32, 3) := by decide +kernel
theorem dX5_list_90 : decode cX5_list 90 = .ok (.bipush 30, 2) := by decide +kernel
theorem dX5_list_92 : decode cX5_list 92 = .ok (.if_icmp .ge 47, 3) := by decide +kernel
theorem dX5_list_95 : decode cX5_list 95 = .ok (.aload_n 0, 1) := by decide +kernel
theorem dX5_list_96 : decode cX5_list 96 = .ok (.getfield 19, 3) := by decide +kernel
theorem dX5_list_99 : decode cX5_list 99 = .ok (.aload_n 0, 1) := by decide +kernel
theorem dX5_list_100 : decode cX5_list 100 = .ok (.getfield 32, 3) := by decide +kernel
theorem dX5_list_103 : decode cX5_list 103 = .ok (.bipush 10, 2) := by decide +kernel
theorem dX5_list_105 : decode cX5_list 105 = .ok (.aload_n 0, 1) := by decide +kernel
theorem dX5_list_106 : decode cX5_list 106 = .ok (.getfield 15, 3) := by decide +kernel
theorem dX5_list_109 : decode cX5_list 109 = .ok (.iload_n 3, 1) := by decide +kernel
theorem dX5_list_110 : decode cX5_list 110 = .ok (.invokevirtual 66, 3) := by decide +kernel
theorem dX5_list_113 : decode cX5_list 113 = .ok (.imul, 1) := by decide +kernel
theorem dX5_list_114 : decode cX5_list 114 = .ok (.iload 5, 2) := by decide +kernel
theorem dX5_list_116 : decode cX5_list 116 = .ok (.iadd, 1) := by decide +kernel
theorem dX5_list_117 : decode cX5_list 117 = .ok (.iastore, 1) := by decide +kernel
theorem dX5_list_118 : decode cX5_list 118 = .ok (.aload_n 0, 1) := by decide +kernel
theorem dX5_list_119 : decode cX5_list 119 = .ok (.getfield 23, 3) := by decide +kernel
theorem dX5_list_122 : decode cX5_list 122 = .ok (.aload_n 0, 1) := by decide +kernel
theorem dX5_list_123 : decode cX5_list 123 = .ok (.getfield 32, 3) := by decide +kernel
theorem dX5_list_126 : decode cX5_list 126 = .ok (.iload 4, 2) := by decide +kernel
theorem dX5_list_128 : decode cX5_list 128 = .ok (.iastore, 1) := by decide +kernel
theorem dX5_list_129 : decode cX5_list 129 = .ok (.aload_n 0, 1) := by decide +kernel
theorem dX5_list_130 : decode cX5_list 130 = .ok (.dup, 1) := by decide +kernel
theorem dX5_list_131 : decode cX5_list 131 = .ok (.getfield 32, 3) := by decide +kernel
theorem dX5_list_134 : decode cX5_list 134 = .ok (.iconst 1, 1) := by decide +kernel
theorem dX5_list_135 : decode cX5_list 135 = .ok (.iadd, 1) := by decide +kernel
theorem dX5_list_136 : decode cX5_list 136 = .ok (.putfield 32, 3) := by decide +kernel
theorem dX5_list_139 : decode cX5_list 139 = .ok (.iinc 5 1, 3) := by decide +kernel
theorem dX5_list_142 : decode cX5_list 142 = .ok (.goto (-98), 3) := by decide +kernel
theorem dX5_list_145 : decode cX5_list 145 = .ok (.iinc 3 1, 3) := by decide +kernel
theorem dX5_list_148 : decode cX5_list 148 = .ok (.goto (-127), 3) := by decide +kernel
theorem dX5_list_151 : decode cX5_list 151 = .ok (.return_, 1) := by decide +kernel
theorem dX5_mostAlike_0 : decode cX5_mostAlike 0 = .ok (.aload_n 0, 1) := by decide +kernel
theorem dX5_mostAlike_1 : decode cX5_mostAlike 1 = .ok (.getfield 26, 3) := by decide +kernel
theorem dX5_mostAlike_4 : decode cX5_mostAlike 4 = .ok (.iconst 0, 1) := by decide +kernel
theorem dX5_mostAlike_5 : decode cX5_mostAlike 5 = .ok (.invokestatic 69, 3) := by decide +kernel
theorem dX5_mostAlike_8 : decode cX5_mostAlike 8 = .ok (.iconst 0, 1) := by decide +kernel
theorem dX5_mostAlike_9 : decode cX5_mostAlike 9 = .ok (.istore_n 2, 1) := by decide +kernel
theorem dX5_mostAlike_10 : decode cX5_mostAlike 10 = .ok (.iconst 0, 1) := by decide +kernel
theorem dX5_mostAlike_11 : decode cX5_mostAlike 11 = .ok (.istore_n 3, 1) := by decide +kernel
theorem dX5_mostAlike_12 : decode cX5_mostAlike 12 = .ok (.iload_n 3, 1) := by decide +kernel
theorem dX5_mostAlike_13 : decode cX5_mostAlike 13 = .ok (.aload_n 0, 1) := by decide +kernel
theorem dX5_mostAlike_14 : decode cX5_mostAlike 14 = .ok (.getfield 32, 3) := by decide +kernel
theorem dX5_mostAlike_17 : decode cX5_mostAlike 17 = .ok (.if_icmp .ge 51, 3) := by decide +kernel
theorem dX5_mostAlike_20 : decode cX5_mostAlike 20 = .ok (.aload_n 0, 1) := by decide +kernel
theorem dX5_mostAlike_21 : decode cX5_mostAlike 21 = .ok (.getfield 23, 3) := by decide +kernel
theorem dX5_mostAlike_24 : decode cX5_mostAlike 24 = .ok (.iload_n 3, 1) := by decide +kernel
theorem dX5_mostAlike_25 : decode cX5_mostAlike 25 = .ok (.iaload, 1) := by decide +kernel
theorem dX5_mostAlike_26 : decode cX5_mostAlike 26 = .ok (.iload_n 1, 1) := by decide +kernel
theorem dX5_mostAlike_27 : decode cX5_mostAlike 27 = .ok (.invokestatic 75, 3) := by decide +kernel
theorem dX5_mostAlike_30 : decode cX5_mostAlike 30 = .ok (.istore 4, 2) := by decide +kernel
theorem dX5_mostAlike_32 : decode cX5_mostAlike 32 = .ok (.iload 4, 2) := by decide +kernel
theorem dX5_mostAlike_34 : decode cX5_mostAlike 34 = .ok (.bipush 6, 2) := by decide +kernel
theorem dX5_mostAlike_36 : decode cX5_mostAlike 36 = .ok (.if_icmp .ge 26, 3) := by decide +kernel
theorem dX5_mostAlike_39 : decode cX5_mostAlike 39 = .ok (.aload_n 0, 1) := by decide +kernel
theorem dX5_mostAlike_40 : decode cX5_mostAlike 40 = .ok (.getfield 26, 3) := by decide +kernel
theorem dX5_mostAlike_43 : decode cX5_mostAlike 43 = .ok (.iload 4, 2) := by decide +kernel
theorem dX5_mostAlike_45 : decode cX5_mostAlike 45 = .ok (.dup2, 1) := by decide +kernel
theorem dX5_mostAlike_46 : decode cX5_mostAlike 46 = .ok (.iaload, 1) := by decide +kernel
theorem dX5_mostAlike_47 : decode cX5_mostAlike 47 = .ok (.iconst 1, 1) := by decide +kernel
theorem dX5_mostAlike_48 : decode cX5_mostAlike 48 = .ok (.iadd, 1) := by decide +kernel
theorem dX5_mostAlike_49 : decode cX5_mostAlike 49 = .ok (.iastore, 1) := by decide +kernel
theorem dX5_mostAlike_50 : decode cX5_mostAlike 50 = .ok (.iload_n 2, 1) := by decide +kernel
theorem dX5_mostAlike_51 : decode cX5_mostAlike 51 = .ok (.aload_n 0, 1) := by decide +kernel
theorem dX5_mostAlike_52 : decode cX5_mostAlike 52 = .ok (.getfield 26, 3) := by decide +kernel
theorem dX5_mostAlike_55 : decode cX5_mostAlike 55 = .ok (.iload 4, 2) := by decide +kernel
theorem dX5_mostAlike_57 : decode cX5_mostAlike 57 = .ok (.iaload, 1) := by decide +kernel
theorem dX5_mostAlike_58 : decode cX5_mostAlike 58 = .ok (.invokestatic 79, 3) := by decide +kernel
theorem dX5_mostAlike_61 : decode cX5_mostAlike 61 = .ok (.istore_n 2, 1) := by decide +kernel
theorem dX5_mostAlike_62 : decode cX5_mostAlike 62 = .ok (.iinc 3 1, 3) := by decide +kernel
theorem dX5_mostAlike_65 : decode cX5_mostAlike 65 = .ok (.goto (-53), 3) := by decide +kernel
theorem dX5_mostAlike_68 : decode cX5_mostAlike 68 = .ok (.iload_n 2, 1) := by decide +kernel
theorem dX5_mostAlike_69 : decode cX5_mostAlike 69 = .ok (.ireturn, 1) := by decide +kernel
theorem dX5_scatter_0 : decode cX5_scatter 0 = .ok (.aload_n 0, 1) := by decide +kernel
theorem dX5_scatter_1 : decode cX5_scatter 1 = .ok (.getfield 29, 3) := by decide +kernel
theorem dX5_scatter_4 : decode cX5_scatter 4 = .ok (.iconst 0, 1) := by decide +kernel
theorem dX5_scatter_5 : decode cX5_scatter 5 = .ok (.invokestatic 69, 3) := by decide +kernel
theorem dX5_scatter_8 : decode cX5_scatter 8 = .ok (.aload_n 0, 1) := by decide +kernel
theorem dX5_scatter_9 : decode cX5_scatter 9 = .ok (.getfield 15, 3) := by decide +kernel
theorem dX5_scatter_12 : decode cX5_scatter 12 = .ok (.aload_n 0, 1) := by decide +kernel
theorem dX5_scatter_13 : decode cX5_scatter 13 = .ok (.getfield 9, 3) := by decide +kernel
theorem dX5_scatter_16 : decode cX5_scatter 16 = .ok (.getfield 36, 3) := by decide +kernel
theorem dX5_scatter_19 : decode cX5_scatter 19 = .ok (.invokevirtual 41, 3) := by decide +kernel
theorem dX5_scatter_22 : decode cX5_scatter 22 = .ok (.aload_n 0, 1) := by decide +kernel
theorem dX5_scatter_23 : decode cX5_scatter 23 = .ok (.iconst 1, 1) := by decide +kernel
theorem dX5_scatter_24 : decode cX5_scatter 24 = .ok (.putfield 84, 3) := by decide +kernel
theorem dX5_scatter_27 : decode cX5_scatter 27 = .ok (.iconst 0, 1) := by decide +kernel
theorem dX5_scatter_28 : decode cX5_scatter 28 = .ok (.istore_n 2, 1) := by decide +kernel
theorem dX5_scatter_29 : decode cX5_scatter 29 = .ok (.iload_n 2, 1) := by decide +kernel
theorem dX5_scatter_30 : decode cX5_scatter 30 = .ok (.iload_n 1, 1) := by decide +kernel
theorem dX5_scatter_31 : decode cX5_scatter 31 = .ok (.if_icmp .ge 35, 3) := by decide +kernel
theorem dX5_scatter_34 : decode cX5_scatter 34 = .ok (.aload_n 0, 1) := by decide +kernel
theorem dX5_scatter_35 : decode cX5_scatter 35 = .ok (.getfield 15, 3) := by decide +kernel
theorem dX5_scatter_38 : decode cX5_scatter 38 = .ok (.getfield 47, 3) := by decide +kernel
theorem dX5_scatter_41 : decode cX5_scatter 41 = .ok (.ifCond .le 25, 3) := by decide +kernel
theorem dX5_scatter_44 : decode cX5_scatter 44 = .ok (.aload_n 0, 1) := by decide +kernel
theorem dX5_scatter_45 : decode cX5_scatter 45 = .ok (.dup, 1) := by decide +kernel
theorem dX5_scatter_46 : decode cX5_scatter 46 = .ok (.getfield 84, 3) := by decide +kernel
theorem dX5_scatter_49 : decode cX5_scatter 49 = .ok (.aload_n 0, 1) := by decide +kernel
theorem dX5_scatter_50 : decode cX5_scatter 50 = .ok (.getfield 15, 3) := by decide +kernel
theorem dX5_scatter_53 : decode cX5_scatter 53 = .ok (.getfield 47, 3) := by decide +kernel
theorem dX5_scatter_56 : decode cX5_scatter 56 = .ok (.imul, 1) := by decide +kernel
theorem dX5_scatter_57 : decode cX5_scatter 57 = .ok (.putfield 84, 3) := by decide +kernel
theorem dX5_scatter_60 : decode cX5_scatter 60 = .ok (.iinc 2 1, 3) := by decide +kernel
theorem dX5_scatter_63 : decode cX5_scatter 63 = .ok (.goto (-34), 3) := by decide +kernel
theorem dX5_scatter_66 : decode cX5_scatter 66 = .ok (.aload_n 0, 1) := by decide +kernel
theorem dX5_scatter_67 : decode cX5_scatter 67 = .ok (.iconst 0, 1) := by decide +kernel
theorem dX5_scatter_68 : decode cX5_scatter 68 = .ok (.aload_n 0, 1) := by decide +kernel
theorem dX5_scatter_69 : decode cX5_scatter 69 = .ok (.getfield 15, 3) := by decide +kernel
theorem dX5_scatter_72 : decode cX5_scatter 72 = .ok (.getfield 47, 3) := by decide +kernel
theorem dX5_scatter_75 : decode cX5_scatter 75 = .ok (.ifCond .le 7, 3) := by decide +kernel
theorem dX5_scatter_78 : decode cX5_scatter 78 = .ok (.iload_n 1, 1) := by decide +kernel
theorem dX5_scatter_79 : decode cX5_scatter 79 = .ok (.goto 4, 3) := by decide +kernel
theorem dX5_scatter_82 : decode cX5_scatter 82 = .ok (.iconst 0, 1) := by decide +kernel
theorem dX5_scatter_83 : decode cX5_scatter 83 = .ok (.aload_n 0, 1) := by decide +kernel
theorem dX5_scatter_84 : decode cX5_scatter 84 = .ok (.getfield 9, 3) := by decide +kernel
theorem dX5_scatter_87 : decode cX5_scatter 87 = .ok (.getfield 50, 3) := by decide +kernel
theorem dX5_scatter_90 : decode cX5_scatter 90 = .ok (.iconst 1, 1) := by decide +kernel
theorem dX5_scatter_91 : decode cX5_scatter 91 = .ok (.invokestatic 87, 3) := by decide +kernel
theorem dX5_scatter_94 : decode cX5_scatter 94 = .ok (.return_, 1) := by decide +kernel
theorem dX5_share_0 : decode cX5_share 0 = .ok (.iload_n 1, 1) := by decide +kernel
theorem dX5_share_1 : decode cX5_share 1 = .ok (.aload_n 0, 1) := by decide +kernel
theorem dX5_share_2 : decode cX5_share 2 = .ok (.getfield 15, 3) := by decide +kernel
theorem dX5_share_5 : decode cX5_share 5 = .ok (.getfield 47, 3) := by decide +kernel
theorem dX5_share_8 : decode cX5_share 8 = .ok (.if_icmp .ge 7, 3) := by decide +kernel
theorem dX5_share_11 : decode cX5_share 11 = .ok (.iload_n 2, 1) := by decide +kernel
theorem dX5_share_12 : decode cX5_share 12 = .ok (.ifCond .ne 36, 3) := by decide +kernel
theorem dX5_share_15 : decode cX5_share 15 = .ok (.aload_n 0, 1) := by decide +kernel
theorem dX5_share_16 : decode cX5_share 16 = .ok (.getfield 9, 3) := by decide +kernel
theorem dX5_share_19 : decode cX5_share 19 = .ok (.iload_n 3, 1) := by decide +kernel
theorem dX5_share_20 : decode cX5_share 20 = .ok (.invokevirtual 91, 3) := by decide +kernel
theorem dX5_share_23 : decode cX5_share 23 = .ok (.istore 5, 2) := by decide +kernel
theorem dX5_share_25 : decode cX5_share 25 = .ok (.iload_n 2, 1) := by decide +kernel
theorem dX5_share_26 : decode cX5_share 26 = .ok (.ifCond .ne 21, 3) := by decide +kernel
theorem dX5_share_29 : decode cX5_share 29 = .ok (.iload 5, 2) := by decide +kernel
theorem dX5_share_31 : decode cX5_share 31 = .ok (.iconst (-1), 1) := by decide +kernel
theorem dX5_share_32 : decode cX5_share 32 = .ok (.if_icmp .eq 15, 3) := by decide +kernel
theorem dX5_share_35 : decode cX5_share 35 = .ok (.aload_n 0, 1) := by decide +kernel
theorem dX5_share_36 : decode cX5_share 36 = .ok (.getfield 29, 3) := by decide +kernel
theorem dX5_share_39 : decode cX5_share 39 = .ok (.iload 5, 2) := by decide +kernel
theorem dX5_share_41 : decode cX5_share 41 = .ok (.dup2, 1) := by decide +kernel
theorem dX5_share_42 : decode cX5_share 42 = .ok (.iaload, 1) := by decide +kernel
theorem dX5_share_43 : decode cX5_share 43 = .ok (.iload 4, 2) := by decide +kernel
theorem dX5_share_45 : decode cX5_share 45 = .ok (.iadd, 1) := by decide +kernel
theorem dX5_share_46 : decode cX5_share 46 = .ok (.iastore, 1) := by decide +kernel
theorem dX5_share_47 : decode cX5_share 47 = .ok (.return_, 1) := by decide +kernel
theorem dX5_share_48 : decode cX5_share 48 = .ok (.iload_n 3, 1) := by decide +kernel
theorem dX5_share_49 : decode cX5_share 49 = .ok (.istore 5, 2) := by decide +kernel
theorem dX5_share_51 : decode cX5_share 51 = .ok (.iconst 1, 1) := by decide +kernel
theorem dX5_share_52 : decode cX5_share 52 = .ok (.istore 6, 2) := by decide +kernel
theorem dX5_share_54 : decode cX5_share 54 = .ok (.iconst 0, 1) := by decide +kernel
theorem dX5_share_55 : decode cX5_share 55 = .ok (.istore 7, 2) := by decide +kernel
theorem dX5_share_57 : decode cX5_share 57 = .ok (.iload 7, 2) := by decide +kernel
theorem dX5_share_59 : decode cX5_share 59 = .ok (.iload_n 2, 1) := by decide +kernel
theorem dX5_share_60 : decode cX5_share 60 = .ok (.if_icmp .gt 63, 3) := by decide +kernel
theorem dX5_share_63 : decode cX5_share 63 = .ok (.aload_n 0, 1) := by decide +kernel
theorem dX5_share_64 : decode cX5_share 64 = .ok (.iload_n 1, 1) := by decide +kernel
theorem dX5_share_65 : decode cX5_share 65 = .ok (.iconst 1, 1) := by decide +kernel
theorem dX5_share_66 : decode cX5_share 66 = .ok (.iadd, 1) := by decide +kernel
theorem dX5_share_67 : decode cX5_share 67 = .ok (.iload_n 2, 1) := by decide +kernel
theorem dX5_share_68 : decode cX5_share 68 = .ok (.iload 7, 2) := by decide +kernel
theorem dX5_share_70 : decode cX5_share 70 = .ok (.isub, 1) := by decide +kernel
theorem dX5_share_71 : decode cX5_share 71 = .ok (.iload 5, 2) := by decide +kernel
theorem dX5_share_73 : decode cX5_share 73 = .ok (.iload 4, 2) := by decide +kernel
theorem dX5_share_75 : decode cX5_share 75 = .ok (.iload 6, 2) := by decide +kernel
theorem dX5_share_77 : decode cX5_share 77 = .ok (.imul, 1) := by decide +kernel
theorem dX5_share_78 : decode cX5_share 78 = .ok (.invokestatic 87, 3) := by decide +kernel
theorem dX5_share_81 : decode cX5_share 81 = .ok (.iload 5, 2) := by decide +kernel
theorem dX5_share_83 : decode cX5_share 83 = .ok (.aload_n 0, 1) := by decide +kernel
theorem dX5_share_84 : decode cX5_share 84 = .ok (.getfield 15, 3) := by decide +kernel
theorem dX5_share_87 : decode cX5_share 87 = .ok (.iload_n 1, 1) := by decide +kernel
theorem dX5_share_88 : decode cX5_share 88 = .ok (.invokevirtual 56, 3) := by decide +kernel
theorem dX5_share_91 : decode cX5_share 91 = .ok (.aload_n 0, 1) := by decide +kernel
theorem dX5_share_92 : decode cX5_share 92 = .ok (.getfield 9, 3) := by decide +kernel
theorem dX5_share_95 : decode cX5_share 95 = .ok (.getfield 53, 3) := by decide +kernel
theorem dX5_share_98 : decode cX5_share 98 = .ok (.invokestatic 60, 3) := by decide +kernel
theorem dX5_share_101 : decode cX5_share 101 = .ok (.istore 5, 2) := by decide +kernel
theorem dX5_share_103 : decode cX5_share 103 = .ok (.iload 6, 2) := by decide +kernel
theorem dX5_share_105 : decode cX5_share 105 = .ok (.iload_n 2, 1) := by decide +kernel
theorem dX5_share_106 : decode cX5_share 106 = .ok (.iload 7, 2) := by decide +kernel
theorem dX5_share_108 : decode cX5_share 108 = .ok (.isub, 1) := by decide +kernel
theorem dX5_share_109 : decode cX5_share 109 = .ok (.imul, 1) := by decide +kernel
theorem dX5_share_110 : decode cX5_share 110 = .ok (.iload 7, 2) := by decide +kernel
theorem dX5_share_112 : decode cX5_share 112 = .ok (.iconst 1, 1) := by decide +kernel
theorem dX5_share_113 : decode cX5_share 113 = .ok (.iadd, 1) := by decide +kernel
theorem dX5_share_114 : decode cX5_share 114 = .ok (.idiv, 1) := by decide +kernel
theorem dX5_share_115 : decode cX5_share 115 = .ok (.istore 6, 2) := by decide +kernel
theorem dX5_share_117 : decode cX5_share 117 = .ok (.iinc 7 1, 3) := by decide +kernel
theorem dX5_share_120 : decode cX5_share 120 = .ok (.goto (-63), 3) := by decide +kernel
theorem dX5_share_123 : decode cX5_share 123 = .ok (.return_, 1) := by decide +kernel
theorem dX6_init_0 : decode cX6_init 0 = .ok (.aload_n 0, 1) := by decide +kernel
theorem dX6_init_1 : decode cX6_init 1 = .ok (.invokespecial 3, 3) := by decide +kernel
theorem dX6_init_4 : decode cX6_init 4 = .ok (.aload_n 0, 1) := by decide +kernel
theorem dX6_init_5 : decode cX6_init 5 = .ok (.aload_n 1, 1) := by decide +kernel
theorem dX6_init_6 : decode cX6_init 6 = .ok (.putfield 9, 3) := by decide +kernel
theorem dX6_init_9 : decode cX6_init 9 = .ok (.aload_n 0, 1) := by decide +kernel
theorem dX6_init_10 : decode cX6_init 10 = .ok (.iconst 2, 1) := by decide +kernel
theorem dX6_init_11 : decode cX6_init 11 = .ok (.putfield 15, 3) := by decide +kernel
theorem dX6_init_14 : decode cX6_init 14 = .ok (.aload_n 0, 1) := by decide +kernel
theorem dX6_init_15 : decode cX6_init 15 = .ok (.iconst 3, 1) := by decide +kernel
theorem dX6_init_16 : decode cX6_init 16 = .ok (.invokestatic 19, 3) := by decide +kernel
theorem dX6_init_19 : decode cX6_init 19 = .ok (.putfield 25, 3) := by decide +kernel
theorem dX6_init_22 : decode cX6_init 22 = .ok (.aload_n 0, 1) := by decide +kernel
theorem dX6_init_23 : decode cX6_init 23 = .ok (.iconst 0, 1) := by decide +kernel
theorem dX6_init_24 : decode cX6_init 24 = .ok (.newarray .int, 2) := by decide +kernel
theorem dX6_init_26 : decode cX6_init 26 = .ok (.putfield 28, 3) := by decide +kernel
theorem dX6_init_29 : decode cX6_init 29 = .ok (.aload_n 0, 1) := by decide +kernel
theorem dX6_init_30 : decode cX6_init 30 = .ok (.aload_n 0, 1) := by decide +kernel
theorem dX6_init_31 : decode cX6_init 31 = .ok (.getfield 28, 3) := by decide +kernel
theorem dX6_init_34 : decode cX6_init 34 = .ok (.putfield 32, 3) := by decide +kernel
theorem dX6_init_37 : decode cX6_init 37 = .ok (.aload_n 0, 1) := by decide +kernel
theorem dX6_init_38 : decode cX6_init 38 = .ok (.aload_n 0, 1) := by decide +kernel
theorem dX6_init_39 : decode cX6_init 39 = .ok (.getfield 28, 3) := by decide +kernel
theorem dX6_init_42 : decode cX6_init 42 = .ok (.putfield 35, 3) := by decide +kernel
theorem dX6_init_45 : decode cX6_init 45 = .ok (.aload_n 0, 1) := by decide +kernel
theorem dX6_init_46 : decode cX6_init 46 = .ok (.bipush 10, 2) := by decide +kernel
theorem dX6_init_48 : decode cX6_init 48 = .ok (.newarray .long, 2) := by decide +kernel
theorem dX6_init_50 : decode cX6_init 50 = .ok (.putfield 38, 3) := by decide +kernel
theorem dX6_init_53 : decode cX6_init 53 = .ok (.return_, 1) := by decide +kernel
theorem dX6_settleAs_0 : decode cX6_settleAs 0 = .ok (.aload_n 0, 1) := by decide +kernel
theorem dX6_settleAs_1 : decode cX6_settleAs 1 = .ok (.aload_n 1, 1) := by decide +kernel
theorem dX6_settleAs_2 : decode cX6_settleAs 2 = .ok (.getfield 42, 3) := by decide +kernel
theorem dX6_settleAs_5 : decode cX6_settleAs 5 = .ok (.putfield 15, 3) := by decide +kernel
theorem dX6_settleAs_8 : decode cX6_settleAs 8 = .ok (.aload_n 0, 1) := by decide +kernel
theorem dX6_settleAs_9 : decode cX6_settleAs 9 = .ok (.aload_n 1, 1) := by decide +kernel
theorem dX6_settleAs_10 : decode cX6_settleAs 10 = .ok (.getfield 45, 3) := by decide +kernel
theorem dX6_settleAs_13 : decode cX6_settleAs 13 = .ok (.putfield 48, 3) := by decide +kernel
theorem dX6_settleAs_16 : decode cX6_settleAs 16 = .ok (.aload_n 0, 1) := by decide +kernel
theorem dX6_settleAs_17 : decode cX6_settleAs 17 = .ok (.aload_n 1, 1) := by decide +kernel
theorem dX6_settleAs_18 : decode cX6_settleAs 18 = .ok (.getfield 49, 3) := by decide +kernel
theorem dX6_settleAs_21 : decode cX6_settleAs 21 = .ok (.putfield 52, 3) := by decide +kernel
theorem dX6_settleAs_24 : decode cX6_settleAs 24 = .ok (.aload_n 0, 1) := by decide +kernel
theorem dX6_settleAs_25 : decode cX6_settleAs 25 = .ok (.aload_n 1, 1) := by decide +kernel
theorem dX6_settleAs_26 : decode cX6_settleAs 26 = .ok (.getfield 53, 3) := by decide +kernel
theorem dX6_settleAs_29 : decode cX6_settleAs 29 = .ok (.putfield 25, 3) := by decide +kernel
theorem dX6_settleAs_32 : decode cX6_settleAs 32 = .ok (.aload_n 0, 1) := by decide +kernel
theorem dX6_settleAs_33 : decode cX6_settleAs 33 = .ok (.aload_n 1, 1) := by decide +kernel
theorem dX6_settleAs_34 : decode cX6_settleAs 34 = .ok (.getfield 54, 3) := by decide +kernel
theorem dX6_settleAs_37 : decode cX6_settleAs 37 = .ok (.putfield 57, 3) := by decide +kernel
theorem dX6_settleAs_40 : decode cX6_settleAs 40 = .ok (.aload_n 0, 1) := by decide +kernel
theorem dX6_settleAs_41 : decode cX6_settleAs 41 = .ok (.aload_n 1, 1) := by decide +kernel
theorem dX6_settleAs_42 : decode cX6_settleAs 42 = .ok (.getfield 58, 3) := by decide +kernel
theorem dX6_settleAs_45 : decode cX6_settleAs 45 = .ok (.putfield 28, 3) := by decide +kernel
theorem dX6_settleAs_48 : decode cX6_settleAs 48 = .ok (.aload_n 0, 1) := by decide +kernel
theorem dX6_settleAs_49 : decode cX6_settleAs 49 = .ok (.aload_n 1, 1) := by decide +kernel
theorem dX6_settleAs_50 : decode cX6_settleAs 50 = .ok (.getfield 61, 3) := by decide +kernel
theorem dX6_settleAs_53 : decode cX6_settleAs 53 = .ok (.putfield 32, 3) := by decide +kernel
theorem dX6_settleAs_56 : decode cX6_settleAs 56 = .ok (.aload_n 0, 1) := by decide +kernel
theorem dX6_settleAs_57 : decode cX6_settleAs 57 = .ok (.aload_n 1, 1) := by decide +kernel
theorem dX6_settleAs_58 : decode cX6_settleAs 58 = .ok (.getfield 64, 3) := by decide +kernel
theorem dX6_settleAs_61 : decode cX6_settleAs 61 = .ok (.putfield 35, 3) := by decide +kernel
theorem dX6_settleAs_64 : decode cX6_settleAs 64 = .ok (.aload_n 0, 1) := by decide +kernel
theorem dX6_settleAs_65 : decode cX6_settleAs 65 = .ok (.iconst 0, 1) := by decide +kernel
theorem dX6_settleAs_66 : decode cX6_settleAs 66 = .ok (.putfield 67, 3) := by decide +kernel
theorem dX6_settleAs_69 : decode cX6_settleAs 69 = .ok (.aload_n 0, 1) := by decide +kernel
theorem dX6_settleAs_70 : decode cX6_settleAs 70 = .ok (.dup, 1) := by decide +kernel
theorem dX6_settleAs_71 : decode cX6_settleAs 71 = .ok (.getfield 70, 3) := by decide +kernel
theorem dX6_settleAs_74 : decode cX6_settleAs 74 = .ok (.iconst 1, 1) := by decide +kernel
theorem dX6_settleAs_75 : decode cX6_settleAs 75 = .ok (.iadd, 1) := by decide +kernel
theorem dX6_settleAs_76 : decode cX6_settleAs 76 = .ok (.putfield 70, 3) := by decide +kernel
theorem dX6_settleAs_79 : decode cX6_settleAs 79 = .ok (.return_, 1) := by decide +kernel
theorem dX6_become_0 : decode cX6_become 0 = .ok (.aload_n 0, 1) := by decide +kernel
theorem dX6_become_1 : decode cX6_become 1 = .ok (.aload_n 1, 1) := by decide +kernel
theorem dX6_become_2 : decode cX6_become 2 = .ok (.getfield 15, 3) := by decide +kernel
theorem dX6_become_5 : decode cX6_become 5 = .ok (.putfield 15, 3) := by decide +kernel
theorem dX6_become_8 : decode cX6_become 8 = .ok (.aload_n 0, 1) := by decide +kernel
theorem dX6_become_9 : decode cX6_become 9 = .ok (.aload_n 1, 1) := by decide +kernel
theorem dX6_become_10 : decode cX6_become 10 = .ok (.getfield 48, 3) := by decide +kernel
theorem dX6_become_13 : decode cX6_become 13 = .ok (.putfield 48, 3) := by decide +kernel
theorem dX6_become_16 : decode cX6_become 16 = .ok (.aload_n 0, 1) := by decide +kernel
theorem dX6_become_17 : decode cX6_become 17 = .ok (.aload_n 1, 1) := by decide +kernel
theorem dX6_become_18 : decode cX6_become 18 = .ok (.getfield 52, 3) := by decide +kernel
theorem dX6_become_21 : decode cX6_become 21 = .ok (.putfield 52, 3) := by decide +kernel
theorem dX6_become_24 : decode cX6_become 24 = .ok (.aload_n 0, 1) := by decide +kernel
theorem dX6_become_25 : decode cX6_become 25 = .ok (.aload_n 1, 1) := by decide +kernel
theorem dX6_become_26 : decode cX6_become 26 = .ok (.getfield 25, 3) := by decide +kernel
theorem dX6_become_29 : decode cX6_become 29 = .ok (.putfield 25, 3) := by decide +kernel
theorem dX6_become_32 : decode cX6_become 32 = .ok (.aload_n 0, 1) := by decide +kernel
theorem dX6_become_33 : decode cX6_become 33 = .ok (.aload_n 1, 1) := by decide +kernel
theorem dX6_become_34 : decode cX6_become 34 = .ok (.getfield 57, 3) := by decide +kernel
theorem dX6_become_37 : decode cX6_become 37 = .ok (.putfield 57, 3) := by decide +kernel
theorem dX6_become_40 : decode cX6_become 40 = .ok (.aload_n 0, 1) := by decide +kernel
theorem dX6_become_41 : decode cX6_become 41 = .ok (.aload_n 1, 1) := by decide +kernel
theorem dX6_become_42 : decode cX6_become 42 = .ok (.getfield 28, 3) := by decide +kernel
theorem dX6_become_45 : decode cX6_become 45 = .ok (.putfield 28, 3) := by decide +kernel
theorem dX6_become_48 : decode cX6_become 48 = .ok (.aload_n 0, 1) := by decide +kernel
theorem dX6_become_49 : decode cX6_become 49 = .ok (.aload_n 1, 1) := by decide +kernel
theorem dX6_become_50 : decode cX6_become 50 = .ok (.getfield 32, 3) := by decide +kernel
theorem dX6_become_53 : decode cX6_become 53 = .ok (.putfield 32, 3) := by decide +kernel
theorem dX6_become_56 : decode cX6_become 56 = .ok (.aload_n 0, 1) := by decide +kernel
theorem dX6_become_57 : decode cX6_become 57 = .ok (.aload_n 1, 1) := by decide +kernel
theorem dX6_become_58 : decode cX6_become 58 = .ok (.getfield 35, 3) := by decide +kernel
theorem dX6_become_61 : decode cX6_become 61 = .ok (.putfield 35, 3) := by decide +kernel
theorem dX6_become_64 : decode cX6_become 64 = .ok (.aload_n 0, 1) := by decide +kernel
theorem dX6_become_65 : decode cX6_become 65 = .ok (.aload_n 1, 1) := by decide +kernel
theorem dX6_become_66 : decode cX6_become 66 = .ok (.getfield 67, 3) := by decide +kernel
theorem dX6_become_69 : decode cX6_become 69 = .ok (.putfield 67, 3) := by decide +kernel
theorem dX6_become_72 : decode cX6_become 72 = .ok (.aload_n 1, 1) := by decide +kernel
theorem dX6_become_73 : decode cX6_become 73 = .ok (.getfield 38, 3) := by decide +kernel
theorem dX6_become_76 : decode cX6_become 76 = .ok (.iconst 0, 1) := by decide +kernel
theorem dX6_become_77 : decode cX6_become 77 = .ok (.aload_n 0, 1) := by decide +kernel
theorem dX6_become_78 : decode cX6_become 78 = .ok (.getfield 38, 3) := by decide +kernel
theorem dX6_become_81 : decode cX6_become 81 = .ok (.iconst 0, 1) := by decide +kernel
theorem dX6_become_82 : decode cX6_become 82 = .ok (.bipush 10, 2) := by decide +kernel
theorem dX6_become_84 : decode cX6_become 84 = .ok (.invokestatic 73, 3) := by decide +kernel
theorem dX6_become_87 : decode cX6_become 87 = .ok (.aload_n 0, 1) := by decide +kernel
theorem dX6_become_88 : decode cX6_become 88 = .ok (.dup, 1) := by decide +kernel
theorem dX6_become_89 : decode cX6_become 89 = .ok (.getfield 70, 3) := by decide +kernel
theorem dX6_become_92 : decode cX6_become 92 = .ok (.iconst 1, 1) := by decide +kernel
theorem dX6_become_93 : decode cX6_become 93 = .ok (.iadd, 1) := by decide +kernel
theorem dX6_become_94 : decode cX6_become 94 = .ok (.putfield 70, 3) := by decide +kernel
theorem dX6_become_97 : decode cX6_become 97 = .ok (.return_, 1) := by decide +kernel
theorem dX6_has_0 : decode cX6_has 0 = .ok (.iload_n 1, 1) := by decide +kernel
theorem dX6_has_1 : decode cX6_has 1 = .ok (.ifCond .lt 15, 3) := by decide +kernel
theorem dX6_has_4 : decode cX6_has 4 = .ok (.iload_n 1, 1) := by decide +kernel
theorem dX6_has_5 : decode cX6_has 5 = .ok (.aload_n 0, 1) := by decide +kernel
theorem dX6_has_6 : decode cX6_has 6 = .ok (.getfield 15, 3) := by decide +kernel
theorem dX6_has_9 : decode cX6_has 9 = .ok (.if_icmp .ge 7, 3) := by decide +kernel
theorem dX6_has_12 : decode cX6_has 12 = .ok (.iconst 1, 1) := by decide +kernel
theorem dX6_has_13 : decode cX6_has 13 = .ok (.goto 4, 3) := by decide +kernel
theorem dX6_has_16 : decode cX6_has 16 = .ok (.iconst 0, 1) := by decide +kernel
theorem dX6_has_17 : decode cX6_has 17 = .ok (.ireturn, 1) := by decide +kernel
theorem dX6_isStuck_0 : decode cX6_isStuck 0 = .ok (.aload_n 0, 1) := by decide +kernel
theorem dX6_isStuck_1 : decode cX6_isStuck 1 = .ok (.getfield 57, 3) := by decide +kernel
theorem dX6_isStuck_4 : decode cX6_isStuck 4 = .ok (.iload_n 1, 1) := by decide +kernel
theorem dX6_isStuck_5 : decode cX6_isStuck 5 = .ok (.ishr, 1) := by decide +kernel
theorem dX6_isStuck_6 : decode cX6_isStuck 6 = .ok (.iconst 1, 1) := by decide +kernel
theorem dX6_isStuck_7 : decode cX6_isStuck 7 = .ok (.iand, 1) := by decide +kernel
theorem dX6_isStuck_8 : decode cX6_isStuck 8 = .ok (.ifCond .eq 7, 3) := by decide +kernel
theorem dX6_isStuck_11 : decode cX6_isStuck 11 = .ok (.iconst 1, 1) := by decide +kernel
theorem dX6_isStuck_12 : decode cX6_isStuck 12 = .ok (.goto 4, 3) := by decide +kernel
theorem dX6_isStuck_15 : decode cX6_isStuck 15 = .ok (.iconst 0, 1) := by decide +kernel
theorem dX6_isStuck_16 : decode cX6_isStuck 16 = .ok (.ireturn, 1) := by decide +kernel
theorem dX6_faced_0 : decode cX6_faced 0 = .ok (.aload_n 0, 1) := by decide +kernel
theorem dX6_faced_1 : decode cX6_faced 1 = .ok (.getfield 52, 3) := by decide +kernel
theorem dX6_faced_4 : decode cX6_faced 4 = .ok (.iload_n 1, 1) := by decide +kernel
theorem dX6_faced_5 : decode cX6_faced 5 = .ok (.invokestatic 79, 3) := by decide +kernel
theorem dX6_faced_8 : decode cX6_faced 8 = .ok (.istore_n 2, 1) := by decide +kernel
theorem dX6_faced_9 : decode cX6_faced 9 = .ok (.iload_n 2, 1) := by decide +kernel
theorem dX6_faced_10 : decode cX6_faced 10 = .ok (.ifCond .ne 5, 3) := by decide +kernel
theorem dX6_faced_13 : decode cX6_faced 13 = .ok (.iconst (-1), 1) := by decide +kernel
theorem dX6_faced_14 : decode cX6_faced 14 = .ok (.ireturn, 1) := by decide +kernel
theorem dX6_faced_15 : decode cX6_faced 15 = .ok (.iload_n 1, 1) := by decide +kernel
theorem dX6_faced_16 : decode cX6_faced 16 = .ok (.iload_n 2, 1) := by decide +kernel
theorem dX6_faced_17 : decode cX6_faced 17 = .ok (.iadd, 1) := by decide +kernel
theorem dX6_faced_18 : decode cX6_faced 18 = .ok (.aload_n 0, 1) := by decide +kernel
theorem dX6_faced_19 : decode cX6_faced 19 = .ok (.getfield 15, 3) := by decide +kernel
theorem dX6_faced_22 : decode cX6_faced 22 = .ok (.if_icmp .ge 9, 3) := by decide +kernel
theorem dX6_faced_25 : decode cX6_faced 25 = .ok (.iload_n 1, 1) := by decide +kernel
theorem dX6_faced_26 : decode cX6_faced 26 = .ok (.iload_n 2, 1) := by decide +kernel
theorem dX6_faced_27 : decode cX6_faced 27 = .ok (.iadd, 1) := by decide +kernel
theorem dX6_faced_28 : decode cX6_faced 28 = .ok (.goto 11, 3) := by decide +kernel
theorem dX6_faced_31 : decode cX6_faced 31 = .ok (.iload_n 1, 1) := by decide +kernel
theorem dX6_faced_32 : decode cX6_faced 32 = .ok (.iload_n 2, 1) := by decide +kernel
theorem dX6_faced_33 : decode cX6_faced 33 = .ok (.iadd, 1) := by decide +kernel
theorem dX6_faced_34 : decode cX6_faced 34 = .ok (.aload_n 0, 1) := by decide +kernel
theorem dX6_faced_35 : decode cX6_faced 35 = .ok (.getfield 15, 3) := by decide +kernel
theorem dX6_faced_38 : decode cX6_faced 38 = .ok (.isub, 1) := by decide +kernel
theorem dX6_faced_39 : decode cX6_faced 39 = .ok (.ireturn, 1) := by decide +kernel
theorem dX6_votesIn_0 : decode cX6_votesIn 0 = .ok (.lconst 0, 1) := by decide +kernel
theorem dX6_votesIn_1 : decode cX6_votesIn 1 = .ok (.lstore_n 2, 1) := by decide +kernel
theorem dX6_votesIn_2 : decode cX6_votesIn 2 = .ok (.iload_n 1, 1) := by decide +kernel
theorem dX6_votesIn_3 : decode cX6_votesIn 3 = .ok (.istore 4, 2) := by decide +kernel
theorem dX6_votesIn_5 : decode cX6_votesIn 5 = .ok (.aload_n 0, 1) := by decide +kernel
theorem dX6_votesIn_6 : decode cX6_votesIn 6 = .ok (.getfield 25, 3) := by decide +kernel
theorem dX6_votesIn_9 : decode cX6_votesIn 9 = .ok (.istore 5, 2) := by decide +kernel
theorem dX6_votesIn_11 : decode cX6_votesIn 11 = .ok (.iconst 0, 1) := by decide +kernel
theorem dX6_votesIn_12 : decode cX6_votesIn 12 = .ok (.istore 6, 2) := by decide +kernel
theorem dX6_votesIn_14 : decode cX6_votesIn 14 = .ok (.iload 6, 2) := by decide +kernel
theorem dX6_votesIn_16 : decode cX6_votesIn 16 = .ok (.aload_n 0, 1) := by decide +kernel
theorem dX6_votesIn_17 : decode cX6_votesIn 17 = .ok (.getfield 15, 3) := by decide +kernel
theorem dX6_votesIn_20 : decode cX6_votesIn 20 = .ok (.if_icmp .ge 79, 3) := by decide +kernel
theorem dX6_votesIn_23 : decode cX6_votesIn 23 = .ok (.iload 4, 2) := by decide +kernel
theorem dX6_votesIn_25 : decode cX6_votesIn 25 = .ok (.bipush 15, 2) := by decide +kernel
theorem dX6_votesIn_27 : decode cX6_votesIn 27 = .ok (.iand, 1) := by decide +kernel
theorem dX6_votesIn_28 : decode cX6_votesIn 28 = .ok (.istore 7, 2) := by decide +kernel
theorem dX6_votesIn_30 : decode cX6_votesIn 30 = .ok (.iload 7, 2) := by decide +kernel
theorem dX6_votesIn_32 : decode cX6_votesIn 32 = .ok (.ifCond .eq 49, 3) := by decide +kernel
theorem dX6_votesIn_35 : decode cX6_votesIn 35 = .ok (.iload 6, 2) := by decide +kernel
theorem dX6_votesIn_37 : decode cX6_votesIn 37 = .ok (.iload 7, 2) := by decide +kernel
theorem dX6_votesIn_39 : decode cX6_votesIn 39 = .ok (.iadd, 1) := by decide +kernel
theorem dX6_votesIn_40 : decode cX6_votesIn 40 = .ok (.aload_n 0, 1) := by decide +kernel
theorem dX6_votesIn_41 : decode cX6_votesIn 41 = .ok (.getfield 15, 3) := by decide +kernel
theorem dX6_votesIn_44 : decode cX6_votesIn 44 = .ok (.if_icmp .ge 11, 3) := by decide +kernel
theorem dX6_votesIn_47 : decode cX6_votesIn 47 = .ok (.iload 6, 2) := by decide +kernel
theorem dX6_votesIn_49 : decode cX6_votesIn 49 = .ok (.iload 7, 2) := by decide +kernel
theorem dX6_votesIn_51 : decode cX6_votesIn 51 = .ok (.iadd, 1) := by decide +kernel
theorem dX6_votesIn_52 : decode cX6_votesIn 52 = .ok (.goto 13, 3) := by decide +kernel
theorem dX6_votesIn_55 : decode cX6_votesIn 55 = .ok (.iload 6, 2) := by decide +kernel
theorem dX6_votesIn_57 : decode cX6_votesIn 57 = .ok (.iload 7, 2) := by decide +kernel
theorem dX6_votesIn_59 : decode cX6_votesIn 59 = .ok (.iadd, 1) := by decide +kernel
theorem dX6_votesIn_60 : decode cX6_votesIn 60 = .ok (.aload_n 0, 1) := by decide +kernel
theorem dX6_votesIn_61 : decode cX6_votesIn 61 = .ok (.getfield 15, 3) := by decide +kernel
theorem dX6_votesIn_64 : decode cX6_votesIn 64 = .ok (.isub, 1) := by decide +kernel
theorem dX6_votesIn_65 : decode cX6_votesIn 65 = .ok (.istore 8, 2) := by decide +kernel
theorem dX6_votesIn_67 : decode cX6_votesIn 67 = .ok (.lload_n 2, 1) := by decide +kernel
theorem dX6_votesIn_68 : decode cX6_votesIn 68 = .ok (.iload 5, 2) := by decide +kernel
theorem dX6_votesIn_70 : decode cX6_votesIn 70 = .ok (.bipush 15, 2) := by decide +kernel
theorem dX6_votesIn_72 : decode cX6_votesIn 72 = .ok (.iand, 1) := by decide +kernel
theorem dX6_votesIn_73 : decode cX6_votesIn 73 = .ok (.i2l, 1) := by decide +kernel
theorem dX6_votesIn_74 : decode cX6_votesIn 74 = .ok (.iload 8, 2) := by decide +kernel
theorem dX6_votesIn_76 : decode cX6_votesIn 76 = .ok (.iconst 3, 1) := by decide +kernel
theorem dX6_votesIn_77 : decode cX6_votesIn 77 = .ok (.ishl, 1) := by decide +kernel
theorem dX6_votesIn_78 : decode cX6_votesIn 78 = .ok (.lshl, 1) := by decide +kernel
theorem dX6_votesIn_79 : decode cX6_votesIn 79 = .ok (.ladd, 1) := by decide +kernel
theorem dX6_votesIn_80 : decode cX6_votesIn 80 = .ok (.lstore_n 2, 1) := by decide +kernel
theorem dX6_votesIn_81 : decode cX6_votesIn 81 = .ok (.iload 4, 2) := by decide +kernel
theorem dX6_votesIn_83 : decode cX6_votesIn 83 = .ok (.iconst 4, 1) := by decide +kernel
theorem dX6_votesIn_84 : decode cX6_votesIn 84 = .ok (.iushr, 1) := by decide +kernel
theorem dX6_votesIn_85 : decode cX6_votesIn 85 = .ok (.istore 4, 2) := by decide +kernel
theorem dX6_votesIn_87 : decode cX6_votesIn 87 = .ok (.iload 5, 2) := by decide +kernel
theorem dX6_votesIn_89 : decode cX6_votesIn 89 = .ok (.iconst 4, 1) := by decide +kernel
theorem dX6_votesIn_90 : decode cX6_votesIn 90 = .ok (.iushr, 1) := by decide +kernel
theorem dX6_votesIn_91 : decode cX6_votesIn 91 = .ok (.istore 5, 2) := by decide +kernel
theorem dX6_votesIn_93 : decode cX6_votesIn 93 = .ok (.iinc 6 1, 3) := by decide +kernel
theorem dX6_votesIn_96 : decode cX6_votesIn 96 = .ok (.goto (-82), 3) := by decide +kernel
theorem dX6_votesIn_99 : decode cX6_votesIn 99 = .ok (.lload_n 2, 1) := by decide +kernel
theorem dX6_votesIn_100 : decode cX6_votesIn 100 = .ok (.lreturn, 1) := by decide +kernel
theorem dX6_chairOf_0 : decode cX6_chairOf 0 = .ok (.aload_n 0, 1) := by decide +kernel
theorem dX6_chairOf_1 : decode cX6_chairOf 1 = .ok (.iload_n 1, 1) := by decide +kernel
theorem dX6_chairOf_2 : decode cX6_chairOf 2 = .ok (.invokevirtual 83, 3) := by decide +kernel
theorem dX6_chairOf_5 : decode cX6_chairOf 5 = .ok (.lstore_n 2, 1) := by decide +kernel
theorem dX6_chairOf_6 : decode cX6_chairOf 6 = .ok (.iconst (-1), 1) := by decide +kernel
theorem dX6_chairOf_7 : decode cX6_chairOf 7 = .ok (.istore 4, 2) := by decide +kernel
theorem dX6_chairOf_9 : decode cX6_chairOf 9 = .ok (.iconst 0, 1) := by decide +kernel
theorem dX6_chairOf_10 : decode cX6_chairOf 10 = .ok (.istore 5, 2) := by decide +kernel
theorem dX6_chairOf_12 : decode cX6_chairOf 12 = .ok (.iconst 0, 1) := by decide +kernel
theorem dX6_chairOf_13 : decode cX6_chairOf 13 = .ok (.istore 6, 2) := by decide +kernel
theorem dX6_chairOf_15 : decode cX6_chairOf 15 = .ok (.iload 6, 2) := by decide +kernel
theorem dX6_chairOf_17 : decode cX6_chairOf 17 = .ok (.aload_n 0, 1) := by decide +kernel
theorem dX6_chairOf_18 : decode cX6_chairOf 18 = .ok (.getfield 15, 3) := by decide +kernel
theorem dX6_chairOf_21 : decode cX6_chairOf 21 = .ok (.if_icmp .ge 37, 3) := by decide +kernel
theorem dX6_chairOf_24 : decode cX6_chairOf 24 = .ok (.lload_n 2, 1) := by decide +kernel
theorem dX6_chairOf_25 : decode cX6_chairOf 25 = .ok (.l2i, 1) := by decide +kernel
theorem dX6_chairOf_26 : decode cX6_chairOf 26 = .ok (.sipush 255, 3) := by decide +kernel
theorem dX6_chairOf_29 : decode cX6_chairOf 29 = .ok (.iand, 1) := by decide +kernel
theorem dX6_chairOf_30 : decode cX6_chairOf 30 = .ok (.istore 7, 2) := by decide +kernel
theorem dX6_chairOf_32 : decode cX6_chairOf 32 = .ok (.iload 7, 2) := by decide +kernel
theorem dX6_chairOf_34 : decode cX6_chairOf 34 = .ok (.iload 5, 2) := by decide +kernel
theorem dX6_chairOf_36 : decode cX6_chairOf 36 = .ok (.if_icmp .le 11, 3) := by decide +kernel
theorem dX6_chairOf_39 : decode cX6_chairOf 39 = .ok (.iload 7, 2) := by decide +kernel
theorem dX6_chairOf_41 : decode cX6_chairOf 41 = .ok (.istore 5, 2) := by decide +kernel
theorem dX6_chairOf_43 : decode cX6_chairOf 43 = .ok (.iload 6, 2) := by decide +kernel
theorem dX6_chairOf_45 : decode cX6_chairOf 45 = .ok (.istore 4, 2) := by decide +kernel
theorem dX6_chairOf_47 : decode cX6_chairOf 47 = .ok (.lload_n 2, 1) := by decide +kernel
theorem dX6_chairOf_48 : decode cX6_chairOf 48 = .ok (.bipush 8, 2) := by decide +kernel
theorem dX6_chairOf_50 : decode cX6_chairOf 50 = .ok (.lushr, 1) := by decide +kernel
theorem dX6_chairOf_51 : decode cX6_chairOf 51 = .ok (.lstore_n 2, 1) := by decide +kernel
theorem dX6_chairOf_52 : decode cX6_chairOf 52 = .ok (.iinc 6 1, 3) := by decide +kernel
theorem dX6_chairOf_55 : decode cX6_chairOf 55 = .ok (.goto (-40), 3) := by decide +kernel
theorem dX6_chairOf_58 : decode cX6_chairOf 58 = .ok (.iload 4, 2) := by decide +kernel
theorem dX6_chairOf_60 : decode cX6_chairOf 60 = .ok (.ireturn, 1) := by decide +kernel
theorem dX6_lookingOut_0 : decode cX6_lookingOut 0 = .ok (.iconst 0, 1) := by decide +kernel
theorem dX6_lookingOut_1 : decode cX6_lookingOut 1 = .ok (.istore_n 1, 1) := by decide +kernel
theorem dX6_lookingOut_2 : decode cX6_lookingOut 2 = .ok (.iconst 0, 1) := by decide +kernel
theorem dX6_lookingOut_3 : decode cX6_lookingOut 3 = .ok (.istore_n 2, 1) := by decide +kernel
theorem dX6_lookingOut_4 : decode cX6_lookingOut 4 = .ok (.iload_n 2, 1) := by decide +kernel
theorem dX6_lookingOut_5 : decode cX6_lookingOut 5 = .ok (.aload_n 0, 1) := by decide +kernel
theorem dX6_lookingOut_6 : decode cX6_lookingOut 6 = .ok (.getfield 15, 3) := by decide +kernel
theorem dX6_lookingOut_9 : decode cX6_lookingOut 9 = .ok (.if_icmp .ge 26, 3) := by decide +kernel
theorem dX6_lookingOut_12 : decode cX6_lookingOut 12 = .ok (.aload_n 0, 1) := by decide +kernel
theorem dX6_lookingOut_13 : decode cX6_lookingOut 13 = .ok (.getfield 52, 3) := by decide +kernel
theorem dX6_lookingOut_16 : decode cX6_lookingOut 16 = .ok (.iload_n 2, 1) := by decide +kernel
theorem dX6_lookingOut_17 : decode cX6_lookingOut 17 = .ok (.invokestatic 79, 3) := by decide +kernel
theorem dX6_lookingOut_20 : decode cX6_lookingOut 20 = .ok (.ifCond .ne 9, 3) := by decide +kernel
theorem dX6_lookingOut_23 : decode cX6_lookingOut 23 = .ok (.iload_n 1, 1) := by decide +kernel
theorem dX6_lookingOut_24 : decode cX6_lookingOut 24 = .ok (.iconst 1, 1) := by decide +kernel
theorem dX6_lookingOut_25 : decode cX6_lookingOut 25 = .ok (.iload_n 2, 1) := by decide +kernel
theorem dX6_lookingOut_26 : decode cX6_lookingOut 26 = .ok (.ishl, 1) := by decide +kernel
theorem dX6_lookingOut_27 : decode cX6_lookingOut 27 = .ok (.ior, 1) := by decide +kernel
theorem dX6_lookingOut_28 : decode cX6_lookingOut 28 = .ok (.istore_n 1, 1) := by decide +kernel
theorem dX6_lookingOut_29 : decode cX6_lookingOut 29 = .ok (.iinc 2 1, 3) := by decide +kernel
theorem dX6_lookingOut_32 : decode cX6_lookingOut 32 = .ok (.goto (-28), 3) := by decide +kernel
theorem dX6_lookingOut_35 : decode cX6_lookingOut 35 = .ok (.iload_n 1, 1) := by decide +kernel
theorem dX6_lookingOut_36 : decode cX6_lookingOut 36 = .ok (.ireturn, 1) := by decide +kernel
theorem dX6_weightsTogether_0 : decode cX6_weightsTogether 0 = .ok (.iconst 0, 1) := by decide +kernel
theorem dX6_weightsTogether_1 : decode cX6_weightsTogether 1 = .ok (.istore_n 1, 1) := by decide +kernel
theorem dX6_weightsTogether_2 : decode cX6_weightsTogether 2 = .ok (.iconst 0, 1) := by decide +kernel
theorem dX6_weightsTogether_3 : decode cX6_weightsTogether 3 = .ok (.istore_n 2, 1) := by decide +kernel
theorem dX6_weightsTogether_4 : decode cX6_weightsTogether 4 = .ok (.iload_n 2, 1) := by decide +kernel
theorem dX6_weightsTogether_5 : decode cX6_weightsTogether 5 = .ok (.aload_n 0, 1) := by decide +kernel
theorem dX6_weightsTogether_6 : decode cX6_weightsTogether 6 = .ok (.getfield 15, 3) := by decide +kernel
theorem dX6_weightsTogether_9 : decode cX6_weightsTogether 9 = .ok (.if_icmp .ge 20, 3) := by decide +kernel
theorem dX6_weightsTogether_12 : decode cX6_weightsTogether 12 = .ok (.iload_n 1, 1) := by decide +kernel
theorem dX6_weightsTogether_13 : decode cX6_weightsTogether 13 = .ok (.aload_n 0, 1) := by decide +kernel
theorem dX6_weightsTogether_14 : decode cX6_weightsTogether 14 = .ok (.getfield 25, 3) := by decide +kernel
theorem dX6_weightsTogether_17 : decode cX6_weightsTogether 17 = .ok (.iload_n 2, 1) := by decide +kernel
theorem dX6_weightsTogether_18 : decode cX6_weightsTogether 18 = .ok (.invokestatic 79, 3) := by decide +kernel
theorem dX6_weightsTogether_21 : decode cX6_weightsTogether 21 = .ok (.iadd, 1) := by decide +kernel
theorem dX6_weightsTogether_22 : decode cX6_weightsTogether 22 = .ok (.istore_n 1, 1) := by decide +kernel
theorem dX6_weightsTogether_23 : decode cX6_weightsTogether 23 = .ok (.iinc 2 1, 3) := by decide +kernel
theorem dX6_weightsTogether_26 : decode cX6_weightsTogether 26 = .ok (.goto (-22), 3) := by decide +kernel
theorem dX6_weightsTogether_29 : decode cX6_weightsTogether 29 = .ok (.iload_n 1, 1) := by decide +kernel
theorem dX6_weightsTogether_30 : decode cX6_weightsTogether 30 = .ok (.ireturn, 1) := by decide +kernel
theorem dX6_price_0 : decode cX6_price 0 = .ok (.aload_n 0, 1) := by decide +kernel
theorem dX6_price_1 : decode cX6_price 1 = .ok (.getfield 32, 3) := by decide +kernel
theorem dX6_price_4 : decode cX6_price 4 = .ok (.arraylength, 1) := by decide +kernel
theorem dX6_price_5 : decode cX6_price 5 = .ok (.ifCond .ne 5, 3) := by decide +kernel
theorem dX6_price_8 : decode cX6_price 8 = .ok (.iconst 1, 1) := by decide +kernel
theorem dX6_price_9 : decode cX6_price 9 = .ok (.ireturn, 1) := by decide +kernel
theorem dX6_price_10 : decode cX6_price 10 = .ok (.aload_n 0, 1) := by decide +kernel
theorem dX6_price_11 : decode cX6_price 11 = .ok (.getfield 9, 3) := by decide +kernel
theorem dX6_price_14 : decode cX6_price 14 = .ok (.aload_n 0, 1) := by decide +kernel
theorem dX6_price_15 : decode cX6_price 15 = .ok (.getfield 32, 3) := by decide +kernel
theorem dX6_price_18 : decode cX6_price 18 = .ok (.iload_n 1, 1) := by decide +kernel
theorem dX6_price_19 : decode cX6_price 19 = .ok (.aload_n 0, 1) := by decide +kernel
theorem dX6_price_20 : decode cX6_price 20 = .ok (.getfield 25, 3) := by decide +kernel
theorem dX6_price_23 : decode cX6_price 23 = .ok (.iload_n 1, 1) := by decide +kernel
theorem dX6_price_24 : decode cX6_price 24 = .ok (.invokestatic 79, 3) := by decide +kernel
theorem dX6_price_27 : decode cX6_price 27 = .ok (.iconst 0, 1) := by decide +kernel
theorem dX6_price_28 : decode cX6_price 28 = .ok (.iconst 0, 1) := by decide +kernel
theorem dX6_price_29 : decode cX6_price 29 = .ok (.invokevirtual 87, 3) := by decide +kernel
theorem dX6_price_32 : decode cX6_price 32 = .ok (.istore_n 2, 1) := by decide +kernel
theorem dX6_price_33 : decode cX6_price 33 = .ok (.iconst 1, 1) := by decide +kernel
theorem dX6_price_34 : decode cX6_price 34 = .ok (.bipush 99, 2) := by decide +kernel
theorem dX6_price_36 : decode cX6_price 36 = .ok (.iload_n 2, 1) := by decide +kernel
theorem dX6_price_37 : decode cX6_price 37 = .ok (.invokestatic 93, 3) := by decide +kernel
theorem dX6_price_40 : decode cX6_price 40 = .ok (.invokestatic 98, 3) := by decide +kernel
theorem dX6_price_43 : decode cX6_price 43 = .ok (.ireturn, 1) := by decide +kernel
theorem dX6_draggedBy_0 : decode cX6_draggedBy 0 = .ok (.iconst 1, 1) := by decide +kernel
theorem dX6_draggedBy_1 : decode cX6_draggedBy 1 = .ok (.iload_n 1, 1) := by decide +kernel
theorem dX6_draggedBy_2 : decode cX6_draggedBy 2 = .ok (.ishl, 1) := by decide +kernel
theorem dX6_draggedBy_3 : decode cX6_draggedBy 3 = .ok (.istore_n 2, 1) := by decide +kernel
theorem dX6_draggedBy_4 : decode cX6_draggedBy 4 = .ok (.aload_n 0, 1) := by decide +kernel
theorem dX6_draggedBy_5 : decode cX6_draggedBy 5 = .ok (.getfield 28, 3) := by decide +kernel
theorem dX6_draggedBy_8 : decode cX6_draggedBy 8 = .ok (.arraylength, 1) := by decide +kernel
theorem dX6_draggedBy_9 : decode cX6_draggedBy 9 = .ok (.ifCond .ne 5, 3) := by decide +kernel
theorem dX6_draggedBy_12 : decode cX6_draggedBy 12 = .ok (.iload_n 2, 1) := by decide +kernel
theorem dX6_draggedBy_13 : decode cX6_draggedBy 13 = .ok (.ireturn, 1) := by decide +kernel
theorem dX6_draggedBy_14 : decode cX6_draggedBy 14 = .ok (.aload_n 0, 1) := by decide +kernel
theorem dX6_draggedBy_15 : decode cX6_draggedBy 15 = .ok (.getfield 25, 3) := by decide +kernel
theorem dX6_draggedBy_18 : decode cX6_draggedBy 18 = .ok (.iload_n 1, 1) := by decide +kernel
theorem dX6_draggedBy_19 : decode cX6_draggedBy 19 = .ok (.invokestatic 79, 3) := by decide +kernel
theorem dX6_draggedBy_22 : decode cX6_draggedBy 22 = .ok (.istore_n 3, 1) := by decide +kernel
theorem dX6_draggedBy_23 : decode cX6_draggedBy 23 = .ok (.iconst 0, 1) := by decide +kernel
theorem dX6_draggedBy_24 : decode cX6_draggedBy 24 = .ok (.istore 4, 2) := by decide +kernel
theorem dX6_draggedBy_26 : decode cX6_draggedBy 26 = .ok (.iload 4, 2) := by decide +kernel
theorem dX6_draggedBy_28 : decode cX6_draggedBy 28 = .ok (.aload_n 0, 1) := by decide +kernel
theorem dX6_draggedBy_29 : decode cX6_draggedBy 29 = .ok (.getfield 15, 3) := by decide +kernel
theorem dX6_draggedBy_32 : decode cX6_draggedBy 32 = .ok (.if_icmp .ge 65, 3) := by decide +kernel
theorem dX6_draggedBy_35 : decode cX6_draggedBy 35 = .ok (.iload 4, 2) := by decide +kernel
theorem dX6_draggedBy_37 : decode cX6_draggedBy 37 = .ok (.iload_n 1, 1) := by decide +kernel
theorem dX6_draggedBy_38 : decode cX6_draggedBy 38 = .ok (.isub, 1) := by decide +kernel
theorem dX6_draggedBy_39 : decode cX6_draggedBy 39 = .ok (.invokestatic 101, 3) := by decide +kernel
theorem dX6_draggedBy_42 : decode cX6_draggedBy 42 = .ok (.istore 5, 2) := by decide +kernel
theorem dX6_draggedBy_44 : decode cX6_draggedBy 44 = .ok (.iload 5, 2) := by decide +kernel
theorem dX6_draggedBy_46 : decode cX6_draggedBy 46 = .ok (.aload_n 0, 1) := by decide +kernel
theorem dX6_draggedBy_47 : decode cX6_draggedBy 47 = .ok (.getfield 15, 3) := by decide +kernel
theorem dX6_draggedBy_50 : decode cX6_draggedBy 50 = .ok (.iload 5, 2) := by decide +kernel
theorem dX6_draggedBy_52 : decode cX6_draggedBy 52 = .ok (.isub, 1) := by decide +kernel
theorem dX6_draggedBy_53 : decode cX6_draggedBy 53 = .ok (.invokestatic 93, 3) := by decide +kernel
theorem dX6_draggedBy_56 : decode cX6_draggedBy 56 = .ok (.istore 6, 2) := by decide +kernel
theorem dX6_draggedBy_58 : decode cX6_draggedBy 58 = .ok (.iload 4, 2) := by decide +kernel
theorem dX6_draggedBy_60 : decode cX6_draggedBy 60 = .ok (.iload_n 1, 1) := by decide +kernel
theorem dX6_draggedBy_61 : decode cX6_draggedBy 61 = .ok (.if_icmp .eq 30, 3) := by decide +kernel
theorem dX6_draggedBy_64 : decode cX6_draggedBy 64 = .ok (.aload_n 0, 1) := by decide +kernel
theorem dX6_draggedBy_65 : decode cX6_draggedBy 65 = .ok (.getfield 9, 3) := by decide +kernel
theorem dX6_draggedBy_68 : decode cX6_draggedBy 68 = .ok (.aload_n 0, 1) := by decide +kernel
theorem dX6_draggedBy_69 : decode cX6_draggedBy 69 = .ok (.getfield 28, 3) := by decide +kernel
theorem dX6_draggedBy_72 : decode cX6_draggedBy 72 = .ok (.iload_n 1, 1) := by decide +kernel
theorem dX6_draggedBy_73 : decode cX6_draggedBy 73 = .ok (.iload_n 3, 1) := by decide +kernel
theorem dX6_draggedBy_74 : decode cX6_draggedBy 74 = .ok (.iload 4, 2) := by decide +kernel
theorem dX6_draggedBy_76 : decode cX6_draggedBy 76 = .ok (.iload 6, 2) := by decide +kernel
theorem dX6_draggedBy_78 : decode cX6_draggedBy 78 = .ok (.invokevirtual 87, 3) := by decide +kernel
theorem dX6_draggedBy_81 : decode cX6_draggedBy 81 = .ok (.ifCond .eq 10, 3) := by decide +kernel
theorem dX6_draggedBy_84 : decode cX6_draggedBy 84 = .ok (.iload_n 2, 1) := by decide +kernel
theorem dX6_draggedBy_85 : decode cX6_draggedBy 85 = .ok (.iconst 1, 1) := by decide +kernel
theorem dX6_draggedBy_86 : decode cX6_draggedBy 86 = .ok (.iload 4, 2) := by decide +kernel
theorem dX6_draggedBy_88 : decode cX6_draggedBy 88 = .ok (.ishl, 1) := by decide +kernel
theorem dX6_draggedBy_89 : decode cX6_draggedBy 89 = .ok (.ior, 1) := by decide +kernel
theorem dX6_draggedBy_90 : decode cX6_draggedBy 90 = .ok (.istore_n 2, 1) := by decide +kernel
theorem dX6_draggedBy_91 : decode cX6_draggedBy 91 = .ok (.iinc 4 1, 3) := by decide +kernel
theorem dX6_draggedBy_94 : decode cX6_draggedBy 94 = .ok (.goto (-68), 3) := by decide +kernel
theorem dX6_draggedBy_97 : decode cX6_draggedBy 97 = .ok (.iload_n 2, 1) := by decide +kernel
theorem dX6_draggedBy_98 : decode cX6_draggedBy 98 = .ok (.ireturn, 1) := by decide +kernel
theorem dX6_turningWith_0 : decode cX6_turningWith 0 = .ok (.aload_n 0, 1) := by decide +kernel
theorem dX6_turningWith_1 : decode cX6_turningWith 1 = .ok (.iload_n 1, 1) := by decide +kernel
theorem dX6_turningWith_2 : decode cX6_turningWith 2 = .ok (.invokevirtual 104, 3) := by decide +kernel
theorem dX6_turningWith_5 : decode cX6_turningWith 5 = .ok (.ifCond .eq 7, 3) := by decide +kernel
theorem dX6_turningWith_8 : decode cX6_turningWith 8 = .ok (.iconst 0, 1) := by decide +kernel
theorem dX6_turningWith_9 : decode cX6_turningWith 9 = .ok (.goto 15, 3) := by decide +kernel
theorem dX6_turningWith_12 : decode cX6_turningWith 12 = .ok (.aload_n 0, 1) := by decide +kernel
theorem dX6_turningWith_13 : decode cX6_turningWith 13 = .ok (.iload_n 1, 1) := by decide +kernel
theorem dX6_turningWith_14 : decode cX6_turningWith 14 = .ok (.invokevirtual 108, 3) := by decide +kernel
theorem dX6_turningWith_17 : decode cX6_turningWith 17 = .ok (.aload_n 0, 1) := by decide +kernel
theorem dX6_turningWith_18 : decode cX6_turningWith 18 = .ok (.getfield 57, 3) := by decide +kernel
theorem dX6_turningWith_21 : decode cX6_turningWith 21 = .ok (.iconst (-1), 1) := by decide +kernel
theorem dX6_turningWith_22 : decode cX6_turningWith 22 = .ok (.ixor, 1) := by decide +kernel
theorem dX6_turningWith_23 : decode cX6_turningWith 23 = .ok (.iand, 1) := by decide +kernel
theorem dX6_turningWith_24 : decode cX6_turningWith 24 = .ok (.ireturn, 1) := by decide +kernel
theorem dX6_pace_0 : decode cX6_pace 0 = .ok (.aload_n 0, 1) := by decide +kernel
theorem dX6_pace_1 : decode cX6_pace 1 = .ok (.getfield 35, 3) := by decide +kernel
theorem dX6_pace_4 : decode cX6_pace 4 = .ok (.arraylength, 1) := by decide +kernel
theorem dX6_pace_5 : decode cX6_pace 5 = .ok (.ifCond .eq 11, 3) := by decide +kernel
theorem dX6_pace_8 : decode cX6_pace 8 = .ok (.aload_n 0, 1) := by decide +kernel
theorem dX6_pace_9 : decode cX6_pace 9 = .ok (.getfield 15, 3) := by decide +kernel
theorem dX6_pace_12 : decode cX6_pace 12 = .ok (.iconst 1, 1) := by decide +kernel
theorem dX6_pace_13 : decode cX6_pace 13 = .ok (.if_icmp .ge 5, 3) := by decide +kernel
theorem dX6_pace_16 : decode cX6_pace 16 = .ok (.iconst 0, 1) := by decide +kernel
theorem dX6_pace_17 : decode cX6_pace 17 = .ok (.ireturn, 1) := by decide +kernel
theorem dX6_pace_18 : decode cX6_pace 18 = .ok (.aload_n 0, 1) := by decide +kernel
theorem dX6_pace_19 : decode cX6_pace 19 = .ok (.getfield 9, 3) := by decide +kernel
theorem dX6_pace_22 : decode cX6_pace 22 = .ok (.aload_n 0, 1) := by decide +kernel
theorem dX6_pace_23 : decode cX6_pace 23 = .ok (.getfield 35, 3) := by decide +kernel
theorem dX6_pace_26 : decode cX6_pace 26 = .ok (.iload_n 1, 1) := by decide +kernel
theorem dX6_pace_27 : decode cX6_pace 27 = .ok (.aload_n 0, 1) := by decide +kernel
theorem dX6_pace_28 : decode cX6_pace 28 = .ok (.getfield 25, 3) := by decide +kernel
theorem dX6_pace_31 : decode cX6_pace 31 = .ok (.iload_n 1, 1) := by decide +kernel
theorem dX6_pace_32 : decode cX6_pace 32 = .ok (.invokestatic 79, 3) := by decide +kernel
theorem dX6_pace_35 : decode cX6_pace 35 = .ok (.iload_n 2, 1) := by decide +kernel
theorem dX6_pace_36 : decode cX6_pace 36 = .ok (.iload_n 3, 1) := by decide +kernel
theorem dX6_pace_37 : decode cX6_pace 37 = .ok (.invokevirtual 87, 3) := by decide +kernel
theorem dX6_pace_40 : decode cX6_pace 40 = .ok (.aload_n 0, 1) := by decide +kernel
theorem dX6_pace_41 : decode cX6_pace 41 = .ok (.getfield 15, 3) := by decide +kernel
theorem dX6_pace_44 : decode cX6_pace 44 = .ok (.invokestatic 111, 3) := by decide +kernel
theorem dX6_pace_47 : decode cX6_pace 47 = .ok (.ireturn, 1) := by decide +kernel
theorem dX6_passMinute_0 : decode cX6_passMinute 0 = .ok (.aload_n 0, 1) := by decide +kernel
theorem dX6_passMinute_1 : decode cX6_passMinute 1 = .ok (.aload_n 0, 1) := by decide +kernel
theorem dX6_passMinute_2 : decode cX6_passMinute 2 = .ok (.getfield 52, 3) := by decide +kernel
theorem dX6_passMinute_5 : decode cX6_passMinute 5 = .ok (.invokevirtual 83, 3) := by decide +kernel
theorem dX6_passMinute_8 : decode cX6_passMinute 8 = .ok (.lstore_n 1, 1) := by decide +kernel
theorem dX6_passMinute_9 : decode cX6_passMinute 9 = .ok (.iconst 0, 1) := by decide +kernel
theorem dX6_passMinute_10 : decode cX6_passMinute 10 = .ok (.istore_n 3, 1) := by decide +kernel
theorem dX6_passMinute_11 : decode cX6_passMinute 11 = .ok (.iconst 0, 1) := by decide +kernel
theorem dX6_passMinute_12 : decode cX6_passMinute 12 = .ok (.istore 4, 2) := by decide +kernel
theorem dX6_passMinute_14 : decode cX6_passMinute 14 = .ok (.iload 4, 2) := by decide +kernel
theorem dX6_passMinute_16 : decode cX6_passMinute 16 = .ok (.aload_n 0, 1) := by decide +kernel
theorem dX6_passMinute_17 : decode cX6_passMinute 17 = .ok (.getfield 15, 3) := by decide +kernel
theorem dX6_passMinute_20 : decode cX6_passMinute 20 = .ok (.if_icmp .ge 47, 3) := by decide +kernel
theorem dX6_passMinute_23 : decode cX6_passMinute 23 = .ok (.aload_n 0, 1) := by decide +kernel
theorem dX6_passMinute_24 : decode cX6_passMinute 24 = .ok (.iload 4, 2) := by decide +kernel
theorem dX6_passMinute_26 : decode cX6_passMinute 26 = .ok (.invokevirtual 104, 3) := by decide +kernel
theorem dX6_passMinute_29 : decode cX6_passMinute 29 = .ok (.ifCond .ne 32, 3) := by decide +kernel
theorem dX6_passMinute_32 : decode cX6_passMinute 32 = .ok (.iload_n 3, 1) := by decide +kernel
theorem dX6_passMinute_33 : decode cX6_passMinute 33 = .ok (.aload_n 0, 1) := by decide +kernel
theorem dX6_passMinute_34 : decode cX6_passMinute 34 = .ok (.iload 4, 2) := by decide +kernel
theorem dX6_passMinute_36 : decode cX6_passMinute 36 = .ok (.aload_n 0, 1) := by decide +kernel
theorem dX6_passMinute_37 : decode cX6_passMinute 37 = .ok (.getfield 52, 3) := by decide +kernel
theorem dX6_passMinute_40 : decode cX6_passMinute 40 = .ok (.iload 4, 2) := by decide +kernel
theorem dX6_passMinute_42 : decode cX6_passMinute 42 = .ok (.invokestatic 79, 3) := by decide +kernel
theorem dX6_passMinute_45 : decode cX6_passMinute 45 = .ok (.lload_n 1, 1) := by decide +kernel
theorem dX6_passMinute_46 : decode cX6_passMinute 46 = .ok (.iload 4, 2) := by decide +kernel
theorem dX6_passMinute_48 : decode cX6_passMinute 48 = .ok (.invokestatic 114, 3) := by decide +kernel
theorem dX6_passMinute_51 : decode cX6_passMinute 51 = .ok (.invokevirtual 118, 3) := by decide +kernel
theorem dX6_passMinute_54 : decode cX6_passMinute 54 = .ok (.iload 4, 2) := by decide +kernel
theorem dX6_passMinute_56 : decode cX6_passMinute 56 = .ok (.iconst 2, 1) := by decide +kernel
theorem dX6_passMinute_57 : decode cX6_passMinute 57 = .ok (.ishl, 1) := by decide +kernel
theorem dX6_passMinute_58 : decode cX6_passMinute 58 = .ok (.ishl, 1) := by decide +kernel
theorem dX6_passMinute_59 : decode cX6_passMinute 59 = .ok (.ior, 1) := by decide +kernel
theorem dX6_passMinute_60 : decode cX6_passMinute 60 = .ok (.istore_n 3, 1) := by decide +kernel
theorem dX6_passMinute_61 : decode cX6_passMinute 61 = .ok (.iinc 4 1, 3) := by decide +kernel
theorem dX6_passMinute_64 : decode cX6_passMinute 64 = .ok (.goto (-50), 3) := by decide +kernel
theorem dX6_passMinute_67 : decode cX6_passMinute 67 = .ok (.aload_n 0, 1) := by decide +kernel
theorem dX6_passMinute_68 : decode cX6_passMinute 68 = .ok (.aload_n 0, 1) := by decide +kernel
theorem dX6_passMinute_69 : decode cX6_passMinute 69 = .ok (.getfield 52, 3) := by decide +kernel
theorem dX6_passMinute_72 : decode cX6_passMinute 72 = .ok (.iload_n 3, 1) := by decide +kernel
theorem dX6_passMinute_73 : decode cX6_passMinute 73 = .ok (.aload_n 0, 1) := by decide +kernel
theorem dX6_passMinute_74 : decode cX6_passMinute 74 = .ok (.getfield 15, 3) := by decide +kernel
theorem dX6_passMinute_77 : decode cX6_passMinute 77 = .ok (.invokestatic 122, 3) := by decide +kernel
theorem dX6_passMinute_80 : decode cX6_passMinute 80 = .ok (.putfield 52, 3) := by decide +kernel
theorem dX6_passMinute_83 : decode cX6_passMinute 83 = .ok (.return_, 1) := by decide +kernel
theorem dX6_remember_0 : decode cX6_remember 0 = .ok (.aload_n 0, 1) := by decide +kernel
theorem dX6_remember_1 : decode cX6_remember 1 = .ok (.getfield 67, 3) := by decide +kernel
theorem dX6_remember_4 : decode cX6_remember 4 = .ok (.bipush 10, 2) := by decide +kernel
theorem dX6_remember_6 : decode cX6_remember 6 = .ok (.if_icmp .lt 24, 3) := by decide +kernel
theorem dX6_remember_9 : decode cX6_remember 9 = .ok (.aload_n 0, 1) := by decide +kernel
theorem dX6_remember_10 : decode cX6_remember 10 = .ok (.getfield 38, 3) := by decide +kernel
theorem dX6_remember_13 : decode cX6_remember 13 = .ok (.iconst 1, 1) := by decide +kernel
theorem dX6_remember_14 : decode cX6_remember 14 = .ok (.aload_n 0, 1) := by decide +kernel
theorem dX6_remember_15 : decode cX6_remember 15 = .ok (.getfield 38, 3) := by decide +kernel
theorem dX6_remember_18 : decode cX6_remember 18 = .ok (.iconst 0, 1) := by decide +kernel
theorem dX6_remember_19 : decode cX6_remember 19 = .ok (.bipush 9, 2) := by decide +kernel
theorem dX6_remember_21 : decode cX6_remember 21 = .ok (.invokestatic 73, 3) := by decide +kernel
theorem dX6_remember_24 : decode cX6_remember 24 = .ok (.aload_n 0, 1) := by decide +kernel
theorem dX6_remember_25 : decode cX6_remember 25 = .ok (.bipush 9, 2) := by decide +kernel
theorem dX6_remember_27 : decode cX6_remember 27 = .ok (.putfield 67, 3) := by decide +kernel
theorem dX6_remember_30 : decode cX6_remember 30 = .ok (.aload_n 0, 1) := by decide +kernel
theorem dX6_remember_31 : decode cX6_remember 31 = .ok (.getfield 38, 3) := by decide +kernel
theorem dX6_remember_34 : decode cX6_remember 34 = .ok (.aload_n 0, 1) := by decide +kernel
theorem dX6_remember_35 : decode cX6_remember 35 = .ok (.getfield 67, 3) := by decide +kernel
theorem dX6_remember_38 : decode cX6_remember 38 = .ok (.aload_n 0, 1) := by decide +kernel
theorem dX6_remember_39 : decode cX6_remember 39 = .ok (.getfield 57, 3) := by decide +kernel
theorem dX6_remember_42 : decode cX6_remember 42 = .ok (.i2l, 1) := by decide +kernel
theorem dX6_remember_43 : decode cX6_remember 43 = .ok (.bipush 48, 2) := by decide +kernel
theorem dX6_remember_45 : decode cX6_remember 45 = .ok (.lshl, 1) := by decide +kernel
theorem dX6_remember_46 : decode cX6_remember 46 = .ok (.aload_n 0, 1) := by decide +kernel
theorem dX6_remember_47 : decode cX6_remember 47 = .ok (.getfield 25, 3) := by decide +kernel
theorem dX6_remember_50 : decode cX6_remember 50 = .ok (.i2l, 1) := by decide +kernel
theorem dX6_remember_51 : decode cX6_remember 51 = .ok (.bipush 24, 2) := by decide +kernel
theorem dX6_remember_53 : decode cX6_remember 53 = .ok (.lshl, 1) := by decide +kernel
theorem dX6_remember_54 : decode cX6_remember 54 = .ok (.lor, 1) := by decide +kernel
theorem dX6_remember_55 : decode cX6_remember 55 = .ok (.aload_n 0, 1) := by decide +kernel
theorem dX6_remember_56 : decode cX6_remember 56 = .ok (.getfield 52, 3) := by decide +kernel
theorem dX6_remember_59 : decode cX6_remember 59 = .ok (.i2l, 1) := by decide +kernel
theorem dX6_remember_60 : decode cX6_remember 60 = .ok (.lor, 1) := by decide +kernel
theorem dX6_remember_61 : decode cX6_remember 61 = .ok (.lastore, 1) := by decide +kernel
theorem dX6_remember_62 : decode cX6_remember 62 = .ok (.aload_n 0, 1) := by decide +kernel
theorem dX6_remember_63 : decode cX6_remember 63 = .ok (.dup, 1) := by decide +kernel
theorem dX6_remember_64 : decode cX6_remember 64 = .ok (.getfield 67, 3) := by decide +kernel
theorem dX6_remember_67 : decode cX6_remember 67 = .ok (.iconst 1, 1) := by decide +kernel
theorem dX6_remember_68 : decode cX6_remember 68 = .ok (.iadd, 1) := by decide +kernel
theorem dX6_remember_69 : decode cX6_remember 69 = .ok (.putfield 67, 3) := by decide +kernel
theorem dX6_remember_72 : decode cX6_remember 72 = .ok (.aload_n 0, 1) := by decide +kernel
theorem dX6_remember_73 : decode cX6_remember 73 = .ok (.dup, 1) := by decide +kernel
theorem dX6_remember_74 : decode cX6_remember 74 = .ok (.getfield 70, 3) := by decide +kernel
theorem dX6_remember_77 : decode cX6_remember 77 = .ok (.iconst 1, 1) := by decide +kernel
theorem dX6_remember_78 : decode cX6_remember 78 = .ok (.iadd, 1) := by decide +kernel
theorem dX6_remember_79 : decode cX6_remember 79 = .ok (.putfield 70, 3) := by decide +kernel
theorem dX6_remember_82 : decode cX6_remember 82 = .ok (.return_, 1) := by decide +kernel
theorem dX6_takeBack_0 : decode cX6_takeBack 0 = .ok (.aload_n 0, 1) := by decide +kernel
theorem dX6_takeBack_1 : decode cX6_takeBack 1 = .ok (.getfield 67, 3) := by decide +kernel
theorem dX6_takeBack_4 : decode cX6_takeBack 4 = .ok (.iconst 1, 1) := by decide +kernel
theorem dX6_takeBack_5 : decode cX6_takeBack 5 = .ok (.if_icmp .ge 4, 3) := by decide +kernel
theorem dX6_takeBack_8 : decode cX6_takeBack 8 = .ok (.return_, 1) := by decide +kernel
theorem dX6_takeBack_9 : decode cX6_takeBack 9 = .ok (.aload_n 0, 1) := by decide +kernel
theorem dX6_takeBack_10 : decode cX6_takeBack 10 = .ok (.dup, 1) := by decide +kernel
theorem dX6_takeBack_11 : decode cX6_takeBack 11 = .ok (.getfield 67, 3) := by decide +kernel
theorem dX6_takeBack_14 : decode cX6_takeBack 14 = .ok (.iconst 1, 1) := by decide +kernel
theorem dX6_takeBack_15 : decode cX6_takeBack 15 = .ok (.isub, 1) := by decide +kernel
theorem dX6_takeBack_16 : decode cX6_takeBack 16 = .ok (.putfield 67, 3) := by decide +kernel
theorem dX6_takeBack_19 : decode cX6_takeBack 19 = .ok (.aload_n 0, 1) := by decide +kernel
theorem dX6_takeBack_20 : decode cX6_takeBack 20 = .ok (.getfield 38, 3) := by decide +kernel
theorem dX6_takeBack_23 : decode cX6_takeBack 23 = .ok (.aload_n 0, 1) := by decide +kernel
theorem dX6_takeBack_24 : decode cX6_takeBack 24 = .ok (.getfield 67, 3) := by decide +kernel
theorem dX6_takeBack_27 : decode cX6_takeBack 27 = .ok (.laload, 1) := by decide +kernel
theorem dX6_takeBack_28 : decode cX6_takeBack 28 = .ok (.lstore_n 1, 1) := by decide +kernel
theorem dX6_takeBack_29 : decode cX6_takeBack 29 = .ok (.aload_n 0, 1) := by decide +kernel
theorem dX6_takeBack_30 : decode cX6_takeBack 30 = .ok (.lload_n 1, 1) := by decide +kernel
theorem dX6_takeBack_31 : decode cX6_takeBack 31 = .ok (.l2i, 1) := by decide +kernel
theorem dX6_takeBack_32 : decode cX6_takeBack 32 = .ok (.ldc 125, 2) := by decide +kernel
theorem dX6_takeBack_34 : decode cX6_takeBack 34 = .ok (.iand, 1) := by decide +kernel
theorem dX6_takeBack_35 : decode cX6_takeBack 35 = .ok (.putfield 52, 3) := by decide +kernel
theorem dX6_takeBack_38 : decode cX6_takeBack 38 = .ok (.aload_n 0, 1) := by decide +kernel
theorem dX6_takeBack_39 : decode cX6_takeBack 39 = .ok (.lload_n 1, 1) := by decide +kernel
theorem dX6_takeBack_40 : decode cX6_takeBack 40 = .ok (.bipush 24, 2) := by decide +kernel
theorem dX6_takeBack_42 : decode cX6_takeBack 42 = .ok (.lushr, 1) := by decide +kernel
theorem dX6_takeBack_43 : decode cX6_takeBack 43 = .ok (.l2i, 1) := by decide +kernel
theorem dX6_takeBack_44 : decode cX6_takeBack 44 = .ok (.ldc 125, 2) := by decide +kernel
theorem dX6_takeBack_46 : decode cX6_takeBack 46 = .ok (.iand, 1) := by decide +kernel
theorem dX6_takeBack_47 : decode cX6_takeBack 47 = .ok (.putfield 25, 3) := by decide +kernel
theorem dX6_takeBack_50 : decode cX6_takeBack 50 = .ok (.aload_n 0, 1) := by decide +kernel
theorem dX6_takeBack_51 : decode cX6_takeBack 51 = .ok (.lload_n 1, 1) := by decide +kernel
theorem dX6_takeBack_52 : decode cX6_takeBack 52 = .ok (.bipush 48, 2) := by decide +kernel
theorem dX6_takeBack_54 : decode cX6_takeBack 54 = .ok (.lushr, 1) := by decide +kernel
theorem dX6_takeBack_55 : decode cX6_takeBack 55 = .ok (.l2i, 1) := by decide +kernel
theorem dX6_takeBack_56 : decode cX6_takeBack 56 = .ok (.putfield 57, 3) := by decide +kernel
theorem dX6_takeBack_59 : decode cX6_takeBack 59 = .ok (.aload_n 0, 1) := by decide +kernel
theorem dX6_takeBack_60 : decode cX6_takeBack 60 = .ok (.dup, 1) := by decide +kernel
theorem dX6_takeBack_61 : decode cX6_takeBack 61 = .ok (.getfield 70, 3) := by decide +kernel
theorem dX6_takeBack_64 : decode cX6_takeBack 64 = .ok (.iconst 1, 1) := by decide +kernel
theorem dX6_takeBack_65 : decode cX6_takeBack 65 = .ok (.iadd, 1) := by decide +kernel
theorem dX6_takeBack_66 : decode cX6_takeBack 66 = .ok (.putfield 70, 3) := by decide +kernel
theorem dX6_takeBack_69 : decode cX6_takeBack 69 = .ok (.return_, 1) := by decide +kernel
theorem dX6_turnBy_0 : decode cX6_turnBy 0 = .ok (.aload_n 0, 1) := by decide +kernel
theorem dX6_turnBy_1 : decode cX6_turnBy 1 = .ok (.iload_n 1, 1) := by decide +kernel
theorem dX6_turnBy_2 : decode cX6_turnBy 2 = .ok (.invokevirtual 126, 3) := by decide +kernel
theorem dX6_turnBy_5 : decode cX6_turnBy 5 = .ok (.ifCond .eq 16, 3) := by decide +kernel
theorem dX6_turnBy_8 : decode cX6_turnBy 8 = .ok (.iload_n 2, 1) := by decide +kernel
theorem dX6_turnBy_9 : decode cX6_turnBy 9 = .ok (.iconst 1, 1) := by decide +kernel
theorem dX6_turnBy_10 : decode cX6_turnBy 10 = .ok (.if_icmp .lt 11, 3) := by decide +kernel
theorem dX6_turnBy_13 : decode cX6_turnBy 13 = .ok (.iload_n 2, 1) := by decide +kernel
theorem dX6_turnBy_14 : decode cX6_turnBy 14 = .ok (.aload_n 0, 1) := by decide +kernel
theorem dX6_turnBy_15 : decode cX6_turnBy 15 = .ok (.getfield 15, 3) := by decide +kernel
theorem dX6_turnBy_18 : decode cX6_turnBy 18 = .ok (.if_icmp .lt 5, 3) := by decide +kernel
theorem dX6_turnBy_21 : decode cX6_turnBy 21 = .ok (.iconst 1, 1) := by decide +kernel
theorem dX6_turnBy_22 : decode cX6_turnBy 22 = .ok (.ireturn, 1) := by decide +kernel
theorem dX6_turnBy_23 : decode cX6_turnBy 23 = .ok (.aload_n 0, 1) := by decide +kernel
theorem dX6_turnBy_24 : decode cX6_turnBy 24 = .ok (.iload_n 1, 1) := by decide +kernel
theorem dX6_turnBy_25 : decode cX6_turnBy 25 = .ok (.invokevirtual 104, 3) := by decide +kernel
theorem dX6_turnBy_28 : decode cX6_turnBy 28 = .ok (.ifCond .eq 5, 3) := by decide +kernel
theorem dX6_turnBy_31 : decode cX6_turnBy 31 = .ok (.iconst 2, 1) := by decide +kernel
theorem dX6_turnBy_32 : decode cX6_turnBy 32 = .ok (.ireturn, 1) := by decide +kernel
theorem dX6_turnBy_33 : decode cX6_turnBy 33 = .ok (.aload_n 0, 1) := by decide +kernel
theorem dX6_turnBy_34 : decode cX6_turnBy 34 = .ok (.invokevirtual 129, 3) := by decide +kernel
theorem dX6_turnBy_37 : decode cX6_turnBy 37 = .ok (.aload_n 0, 1) := by decide +kernel
theorem dX6_turnBy_38 : decode cX6_turnBy 38 = .ok (.aload_n 0, 1) := by decide +kernel
theorem dX6_turnBy_39 : decode cX6_turnBy 39 = .ok (.getfield 52, 3) := by decide +kernel
theorem dX6_turnBy_42 : decode cX6_turnBy 42 = .ok (.iload_n 2, 1) := by decide +kernel
theorem dX6_turnBy_43 : decode cX6_turnBy 43 = .ok (.aload_n 0, 1) := by decide +kernel
theorem dX6_turnBy_44 : decode cX6_turnBy 44 = .ok (.iload_n 1, 1) := by decide +kernel
theorem dX6_turnBy_45 : decode cX6_turnBy 45 = .ok (.invokevirtual 132, 3) := by decide +kernel
theorem dX6_turnBy_48 : decode cX6_turnBy 48 = .ok (.invokestatic 19, 3) := by decide +kernel
theorem dX6_turnBy_51 : decode cX6_turnBy 51 = .ok (.imul, 1) := by decide +kernel
theorem dX6_turnBy_52 : decode cX6_turnBy 52 = .ok (.aload_n 0, 1) := by decide +kernel
theorem dX6_turnBy_53 : decode cX6_turnBy 53 = .ok (.getfield 15, 3) := by decide +kernel
theorem dX6_turnBy_56 : decode cX6_turnBy 56 = .ok (.invokestatic 122, 3) := by decide +kernel
theorem dX6_turnBy_59 : decode cX6_turnBy 59 = .ok (.putfield 52, 3) := by decide +kernel
theorem dX6_turnBy_62 : decode cX6_turnBy 62 = .ok (.iconst 0, 1) := by decide +kernel
theorem dX6_turnBy_63 : decode cX6_turnBy 63 = .ok (.ireturn, 1) := by decide +kernel
theorem dX6_giveWeight_0 : decode cX6_giveWeight 0 = .ok (.aload_n 0, 1) := by decide +kernel
theorem dX6_giveWeight_1 : decode cX6_giveWeight 1 = .ok (.iload_n 1, 1) := by decide +kernel
theorem dX6_giveWeight_2 : decode cX6_giveWeight 2 = .ok (.invokevirtual 126, 3) := by decide +kernel
theorem dX6_giveWeight_5 : decode cX6_giveWeight 5 = .ok (.ifCond .eq 14, 3) := by decide +kernel
theorem dX6_giveWeight_8 : decode cX6_giveWeight 8 = .ok (.iload_n 2, 1) := by decide +kernel
theorem dX6_giveWeight_9 : decode cX6_giveWeight 9 = .ok (.iconst 1, 1) := by decide +kernel
theorem dX6_giveWeight_10 : decode cX6_giveWeight 10 = .ok (.if_icmp .lt 9, 3) := by decide +kernel
theorem dX6_giveWeight_13 : decode cX6_giveWeight 13 = .ok (.iload_n 2, 1) := by decide +kernel
theorem dX6_giveWeight_14 : decode cX6_giveWeight 14 = .ok (.bipush 9, 2) := by decide +kernel
theorem dX6_giveWeight_16 : decode cX6_giveWeight 16 = .ok (.if_icmp .le 5, 3) := by decide +kernel
theorem dX6_giveWeight_19 : decode cX6_giveWeight 19 = .ok (.iconst 1, 1) := by decide +kernel
theorem dX6_giveWeight_20 : decode cX6_giveWeight 20 = .ok (.ireturn, 1) := by decide +kernel
theorem dX6_giveWeight_21 : decode cX6_giveWeight 21 = .ok (.aload_n 0, 1) := by decide +kernel
theorem dX6_giveWeight_22 : decode cX6_giveWeight 22 = .ok (.invokevirtual 129, 3) := by decide +kernel
theorem dX6_giveWeight_25 : decode cX6_giveWeight 25 = .ok (.aload_n 0, 1) := by decide +kernel
theorem dX6_giveWeight_26 : decode cX6_giveWeight 26 = .ok (.aload_n 0, 1) := by decide +kernel
theorem dX6_giveWeight_27 : decode cX6_giveWeight 27 = .ok (.getfield 25, 3) := by decide +kernel
theorem dX6_giveWeight_30 : decode cX6_giveWeight 30 = .ok (.iload_n 1, 1) := by decide +kernel
theorem dX6_giveWeight_31 : decode cX6_giveWeight 31 = .ok (.iload_n 2, 1) := by decide +kernel
theorem dX6_giveWeight_32 : decode cX6_giveWeight 32 = .ok (.invokestatic 135, 3) := by decide +kernel
theorem dX6_giveWeight_35 : decode cX6_giveWeight 35 = .ok (.putfield 25, 3) := by decide +kernel
theorem dX6_giveWeight_38 : decode cX6_giveWeight 38 = .ok (.iconst 0, 1) := by decide +kernel
theorem dX6_giveWeight_39 : decode cX6_giveWeight 39 = .ok (.ireturn, 1) := by decide +kernel
theorem dX6_toggleStuck_0 : decode cX6_toggleStuck 0 = .ok (.aload_n 0, 1) := by decide +kernel
theorem dX6_toggleStuck_1 : decode cX6_toggleStuck 1 = .ok (.iload_n 1, 1) := by decide +kernel
theorem dX6_toggleStuck_2 : decode cX6_toggleStuck 2 = .ok (.invokevirtual 126, 3) := by decide +kernel
theorem dX6_toggleStuck_5 : decode cX6_toggleStuck 5 = .ok (.ifCond .ne 5, 3) := by decide +kernel
theorem dX6_toggleStuck_8 : decode cX6_toggleStuck 8 = .ok (.iconst 1, 1) := by decide +kernel
theorem dX6_toggleStuck_9 : decode cX6_toggleStuck 9 = .ok (.ireturn, 1) := by decide +kernel
theorem dX6_toggleStuck_10 : decode cX6_toggleStuck 10 = .ok (.aload_n 0, 1) := by decide +kernel
theorem dX6_toggleStuck_11 : decode cX6_toggleStuck 11 = .ok (.invokevirtual 129, 3) := by decide +kernel
theorem dX6_toggleStuck_14 : decode cX6_toggleStuck 14 = .ok (.aload_n 0, 1) := by decide +kernel
theorem dX6_toggleStuck_15 : decode cX6_toggleStuck 15 = .ok (.dup, 1) := by decide +kernel
theorem dX6_toggleStuck_16 : decode cX6_toggleStuck 16 = .ok (.getfield 57, 3) := by decide +kernel
theorem dX6_toggleStuck_19 : decode cX6_toggleStuck 19 = .ok (.iconst 1, 1) := by decide +kernel
theorem dX6_toggleStuck_20 : decode cX6_toggleStuck 20 = .ok (.iload_n 1, 1) := by decide +kernel
theorem dX6_toggleStuck_21 : decode cX6_toggleStuck 21 = .ok (.ishl, 1) := by decide +kernel
theorem dX6_toggleStuck_22 : decode cX6_toggleStuck 22 = .ok (.ixor, 1) := by decide +kernel
theorem dX6_toggleStuck_23 : decode cX6_toggleStuck 23 = .ok (.putfield 57, 3) := by decide +kernel
theorem dX6_toggleStuck_26 : decode cX6_toggleStuck 26 = .ok (.iconst 0, 1) := by decide +kernel
theorem dX6_toggleStuck_27 : decode cX6_toggleStuck 27 = .ok (.ireturn, 1) := by decide +kernel
theorem dX6_enact_0 : decode cX6_enact 0 = .ok (.lload_n 1, 1) := by decide +kernel
theorem dX6_enact_1 : decode cX6_enact 1 = .ok (.ldc2_w 138, 3) := by decide +kernel
theorem dX6_enact_4 : decode cX6_enact 4 = .ok (.lcmp, 1) := by decide +kernel
theorem dX6_enact_5 : decode cX6_enact 5 = .ok (.ifCond .lt 11, 3) := by decide +kernel
theorem dX6_enact_8 : decode cX6_enact 8 = .ok (.lload_n 1, 1) := by decide +kernel
theorem dX6_enact_9 : decode cX6_enact 9 = .ok (.ldc2_w 140, 3) := by decide +kernel
theorem dX6_enact_12 : decode cX6_enact 12 = .ok (.lcmp, 1) := by decide +kernel
theorem dX6_enact_13 : decode cX6_enact 13 = .ok (.ifCond .le 5, 3) := by decide +kernel
theorem dX6_enact_16 : decode cX6_enact 16 = .ok (.iconst 1, 1) := by decide +kernel
theorem dX6_enact_17 : decode cX6_enact 17 = .ok (.ireturn, 1) := by decide +kernel
theorem dX6_enact_18 : decode cX6_enact 18 = .ok (.lload_n 1, 1) := by decide +kernel
theorem dX6_enact_19 : decode cX6_enact 19 = .ok (.l2i, 1) := by decide +kernel
theorem dX6_enact_20 : decode cX6_enact 20 = .ok (.istore_n 3, 1) := by decide +kernel
theorem dX6_enact_21 : decode cX6_enact 21 = .ok (.iload_n 3, 1) := by decide +kernel
theorem dX6_enact_22 : decode cX6_enact 22 = .ok (.iconst (-1), 1) := by decide +kernel
theorem dX6_enact_23 : decode cX6_enact 23 = .ok (.if_icmp .ne 13, 3) := by decide +kernel
theorem dX6_enact_26 : decode cX6_enact 26 = .ok (.aload_n 0, 1) := by decide +kernel
theorem dX6_enact_27 : decode cX6_enact 27 = .ok (.invokevirtual 129, 3) := by decide +kernel
theorem dX6_enact_30 : decode cX6_enact 30 = .ok (.aload_n 0, 1) := by decide +kernel
theorem dX6_enact_31 : decode cX6_enact 31 = .ok (.invokevirtual 142, 3) := by decide +kernel
theorem dX6_enact_34 : decode cX6_enact 34 = .ok (.iconst 0, 1) := by decide +kernel
theorem dX6_enact_35 : decode cX6_enact 35 = .ok (.ireturn, 1) := by decide +kernel
theorem dX6_enact_36 : decode cX6_enact 36 = .ok (.iload_n 3, 1) := by decide +kernel
theorem dX6_enact_37 : decode cX6_enact 37 = .ok (.bipush 100, 2) := by decide +kernel
theorem dX6_enact_39 : decode cX6_enact 39 = .ok (.if_icmp .ge 16, 3) := by decide +kernel
theorem dX6_enact_42 : decode cX6_enact 42 = .ok (.aload_n 0, 1) := by decide +kernel
theorem dX6_enact_43 : decode cX6_enact 43 = .ok (.iload_n 3, 1) := by decide +kernel
theorem dX6_enact_44 : decode cX6_enact 44 = .ok (.bipush 10, 2) := by decide +kernel
theorem dX6_enact_46 : decode cX6_enact 46 = .ok (.idiv, 1) := by decide +kernel
theorem dX6_enact_47 : decode cX6_enact 47 = .ok (.iload_n 3, 1) := by decide +kernel
theorem dX6_enact_48 : decode cX6_enact 48 = .ok (.bipush 10, 2) := by decide +kernel
theorem dX6_enact_50 : decode cX6_enact 50 = .ok (.irem, 1) := by decide +kernel
theorem dX6_enact_51 : decode cX6_enact 51 = .ok (.invokevirtual 145, 3) := by decide +kernel
theorem dX6_enact_54 : decode cX6_enact 54 = .ok (.ireturn, 1) := by decide +kernel
theorem dX6_enact_55 : decode cX6_enact 55 = .ok (.iload_n 3, 1) := by decide +kernel
theorem dX6_enact_56 : decode cX6_enact 56 = .ok (.sipush 200, 3) := by decide +kernel
theorem dX6_enact_59 : decode cX6_enact 59 = .ok (.if_icmp .ge 21, 3) := by decide +kernel
theorem dX6_enact_62 : decode cX6_enact 62 = .ok (.aload_n 0, 1) := by decide +kernel
theorem dX6_enact_63 : decode cX6_enact 63 = .ok (.iload_n 3, 1) := by decide +kernel
theorem dX6_enact_64 : decode cX6_enact 64 = .ok (.bipush 100, 2) := by decide +kernel
theorem dX6_enact_66 : decode cX6_enact 66 = .ok (.isub, 1) := by decide +kernel
theorem dX6_enact_67 : decode cX6_enact 67 = .ok (.bipush 10, 2) := by decide +kernel
theorem dX6_enact_69 : decode cX6_enact 69 = .ok (.idiv, 1) := by decide +kernel
theorem dX6_enact_70 : decode cX6_enact 70 = .ok (.iload_n 3, 1) := by decide +kernel
theorem dX6_enact_71 : decode cX6_enact 71 = .ok (.bipush 10, 2) := by decide +kernel
theorem dX6_enact_73 : decode cX6_enact 73 = .ok (.irem, 1) := by decide +kernel
theorem dX6_enact_74 : decode cX6_enact 74 = .ok (.invokevirtual 148, 3) := by decide +kernel
theorem dX6_enact_77 : decode cX6_enact 77 = .ok (.goto 12, 3) := by decide +kernel
theorem dX6_enact_80 : decode cX6_enact 80 = .ok (.aload_n 0, 1) := by decide +kernel
theorem dX6_enact_81 : decode cX6_enact 81 = .ok (.iload_n 3, 1) := by decide +kernel
theorem dX6_enact_82 : decode cX6_enact 82 = .ok (.sipush 200, 3) := by decide +kernel
theorem dX6_enact_85 : decode cX6_enact 85 = .ok (.isub, 1) := by decide +kernel
theorem dX6_enact_86 : decode cX6_enact 86 = .ok (.invokevirtual 151, 3) := by decide +kernel
theorem dX6_enact_89 : decode cX6_enact 89 = .ok (.ireturn, 1) := by decide +kernel
theorem dX7_init_0 : decode cX7_init 0 = .ok (.aload_n 0, 1) := by decide +kernel
theorem dX7_init_1 : decode cX7_init 1 = .ok (.invokespecial 3, 3) := by decide +kernel
theorem dX7_init_4 : decode cX7_init 4 = .ok (.aload_n 0, 1) := by decide +kernel
theorem dX7_init_5 : decode cX7_init 5 = .ok (.aload_n 1, 1) := by decide +kernel
theorem dX7_init_6 : decode cX7_init 6 = .ok (.putfield 9, 3) := by decide +kernel
theorem dX7_init_9 : decode cX7_init 9 = .ok (.aload_n 0, 1) := by decide +kernel
theorem dX7_init_10 : decode cX7_init 10 = .ok (.aload_n 2, 1) := by decide +kernel
theorem dX7_init_11 : decode cX7_init 11 = .ok (.putfield 15, 3) := by decide +kernel
theorem dX7_init_14 : decode cX7_init 14 = .ok (.aload_n 0, 1) := by decide +kernel
theorem dX7_init_15 : decode cX7_init 15 = .ok (.iconst (-1), 1) := by decide +kernel
theorem dX7_init_16 : decode cX7_init 16 = .ok (.putfield 19, 3) := by decide +kernel
theorem dX7_init_19 : decode cX7_init 19 = .ok (.aload_n 0, 1) := by decide +kernel
theorem dX7_init_20 : decode cX7_init 20 = .ok (.iconst (-1), 1) := by decide +kernel
theorem dX7_init_21 : decode cX7_init 21 = .ok (.putfield 23, 3) := by decide +kernel
theorem dX7_init_24 : decode cX7_init 24 = .ok (.aload_n 0, 1) := by decide +kernel
theorem dX7_init_25 : decode cX7_init 25 = .ok (.iconst (-1), 1) := by decide +kernel
theorem dX7_init_26 : decode cX7_init 26 = .ok (.putfield 26, 3) := by decide +kernel
theorem dX7_init_29 : decode cX7_init 29 = .ok (.aload_n 0, 1) := by decide +kernel
theorem dX7_init_30 : decode cX7_init 30 = .ok (.bipush 6, 2) := by decide +kernel
theorem dX7_init_32 : decode cX7_init 32 = .ok (.newarray .int, 2) := by decide +kernel
theorem dX7_init_34 : decode cX7_init 34 = .ok (.putfield 29, 3) := by decide +kernel
theorem dX7_init_37 : decode cX7_init 37 = .ok (.aload_n 0, 1) := by decide +kernel
theorem dX7_init_38 : decode cX7_init 38 = .ok (.bipush 6, 2) := by decide +kernel
theorem dX7_init_40 : decode cX7_init 40 = .ok (.newarray .int, 2) := by decide +kernel
theorem dX7_init_42 : decode cX7_init 42 = .ok (.putfield 33, 3) := by decide +kernel
theorem dX7_init_45 : decode cX7_init 45 = .ok (.aload_n 0, 1) := by decide +kernel
theorem dX7_init_46 : decode cX7_init 46 = .ok (.bipush 6, 2) := by decide +kernel
theorem dX7_init_48 : decode cX7_init 48 = .ok (.newarray .int, 2) := by decide +kernel
theorem dX7_init_50 : decode cX7_init 50 = .ok (.putfield 36, 3) := by decide +kernel
theorem dX7_init_53 : decode cX7_init 53 = .ok (.aload_n 0, 1) := by decide +kernel
theorem dX7_init_54 : decode cX7_init 54 = .ok (.bipush 6, 2) := by decide +kernel
theorem dX7_init_56 : decode cX7_init 56 = .ok (.newarray .int, 2) := by decide +kernel
theorem dX7_init_58 : decode cX7_init 58 = .ok (.putfield 39, 3) := by decide +kernel
theorem dX7_init_61 : decode cX7_init 61 = .ok (.return_, 1) := by decide +kernel
theorem dX7_manyTurns_0 : decode cX7_manyTurns 0 = .ok (.aload_n 0, 1) := by decide +kernel
theorem dX7_manyTurns_1 : decode cX7_manyTurns 1 = .ok (.getfield 15, 3) := by decide +kernel
theorem dX7_manyTurns_4 : decode cX7_manyTurns 4 = .ok (.aload_n 0, 1) := by decide +kernel
theorem dX7_manyTurns_5 : decode cX7_manyTurns 5 = .ok (.getfield 9, 3) := by decide +kernel
theorem dX7_manyTurns_8 : decode cX7_manyTurns 8 = .ok (.getfield 42, 3) := by decide +kernel
theorem dX7_manyTurns_11 : decode cX7_manyTurns 11 = .ok (.invokevirtual 47, 3) := by decide +kernel
theorem dX7_manyTurns_14 : decode cX7_manyTurns 14 = .ok (.aload_n 0, 1) := by decide +kernel
theorem dX7_manyTurns_15 : decode cX7_manyTurns 15 = .ok (.getfield 15, 3) := by decide +kernel
theorem dX7_manyTurns_18 : decode cX7_manyTurns 18 = .ok (.getfield 53, 3) := by decide +kernel
theorem dX7_manyTurns_21 : decode cX7_manyTurns 21 = .ok (.ireturn, 1) := by decide +kernel
theorem dX7_tell_0 : decode cX7_tell 0 = .ok (.aload_n 0, 1) := by decide +kernel
theorem dX7_tell_1 : decode cX7_tell 1 = .ok (.getfield 26, 3) := by decide +kernel
theorem dX7_tell_4 : decode cX7_tell 4 = .ok (.aload_n 0, 1) := by decide +kernel
theorem dX7_tell_5 : decode cX7_tell 5 = .ok (.getfield 9, 3) := by decide +kernel
theorem dX7_tell_8 : decode cX7_tell 8 = .ok (.getfield 56, 3) := by decide +kernel
theorem dX7_tell_11 : decode cX7_tell 11 = .ok (.if_icmp .ne 20, 3) := by decide +kernel
theorem dX7_tell_14 : decode cX7_tell 14 = .ok (.aload_n 0, 1) := by decide +kernel
theorem dX7_tell_15 : decode cX7_tell 15 = .ok (.getfield 59, 3) := by decide +kernel
theorem dX7_tell_18 : decode cX7_tell 18 = .ok (.iload_n 1, 1) := by decide +kernel
theorem dX7_tell_19 : decode cX7_tell 19 = .ok (.if_icmp .ne 12, 3) := by decide +kernel
theorem dX7_tell_22 : decode cX7_tell 22 = .ok (.aload_n 0, 1) := by decide +kernel
theorem dX7_tell_23 : decode cX7_tell 23 = .ok (.getfield 62, 3) := by decide +kernel
theorem dX7_tell_26 : decode cX7_tell 26 = .ok (.iload_n 2, 1) := by decide +kernel
theorem dX7_tell_27 : decode cX7_tell 27 = .ok (.if_icmp .ne 4, 3) := by decide +kernel
theorem dX7_tell_30 : decode cX7_tell 30 = .ok (.return_, 1) := by decide +kernel
theorem dX7_tell_31 : decode cX7_tell 31 = .ok (.aload_n 0, 1) := by decide +kernel
theorem dX7_tell_32 : decode cX7_tell 32 = .ok (.aload_n 0, 1) := by decide +kernel
theorem dX7_tell_33 : decode cX7_tell 33 = .ok (.getfield 9, 3) := by decide +kernel
theorem dX7_tell_36 : decode cX7_tell 36 = .ok (.getfield 56, 3) := by decide +kernel
theorem dX7_tell_39 : decode cX7_tell 39 = .ok (.putfield 26, 3) := by decide +kernel
theorem dX7_tell_42 : decode cX7_tell 42 = .ok (.aload_n 0, 1) := by decide +kernel
theorem dX7_tell_43 : decode cX7_tell 43 = .ok (.iload_n 1, 1) := by decide +kernel
theorem dX7_tell_44 : decode cX7_tell 44 = .ok (.putfield 59, 3) := by decide +kernel
theorem dX7_tell_47 : decode cX7_tell 47 = .ok (.aload_n 0, 1) := by decide +kernel
theorem dX7_tell_48 : decode cX7_tell 48 = .ok (.iload_n 2, 1) := by decide +kernel
theorem dX7_tell_49 : decode cX7_tell 49 = .ok (.putfield 62, 3) := by decide +kernel
theorem dX7_tell_52 : decode cX7_tell 52 = .ok (.aload_n 0, 1) := by decide +kernel
theorem dX7_tell_53 : decode cX7_tell 53 = .ok (.iconst 0, 1) := by decide +kernel
theorem dX7_tell_54 : decode cX7_tell 54 = .ok (.putfield 65, 3) := by decide +kernel
theorem dX7_tell_57 : decode cX7_tell 57 = .ok (.aload_n 0, 1) := by decide +kernel
theorem dX7_tell_58 : decode cX7_tell 58 = .ok (.iconst (-1), 1) := by decide +kernel
theorem dX7_tell_59 : decode cX7_tell 59 = .ok (.putfield 68, 3) := by decide +kernel
theorem dX7_tell_62 : decode cX7_tell 62 = .ok (.aload_n 0, 1) := by decide +kernel
theorem dX7_tell_63 : decode cX7_tell 63 = .ok (.iconst 0, 1) := by decide +kernel
theorem dX7_tell_64 : decode cX7_tell 64 = .ok (.putfield 71, 3) := by decide +kernel
theorem dX7_tell_67 : decode cX7_tell 67 = .ok (.aload_n 0, 1) := by decide +kernel
theorem dX7_tell_68 : decode cX7_tell 68 = .ok (.getfield 15, 3) := by decide +kernel
theorem dX7_tell_71 : decode cX7_tell 71 = .ok (.aload_n 0, 1) := by decide +kernel
theorem dX7_tell_72 : decode cX7_tell 72 = .ok (.getfield 9, 3) := by decide +kernel
theorem dX7_tell_75 : decode cX7_tell 75 = .ok (.getfield 42, 3) := by decide +kernel
theorem dX7_tell_78 : decode cX7_tell 78 = .ok (.invokevirtual 47, 3) := by decide +kernel
theorem dX7_tell_81 : decode cX7_tell 81 = .ok (.iconst 0, 1) := by decide +kernel
theorem dX7_tell_82 : decode cX7_tell 82 = .ok (.istore_n 3, 1) := by decide +kernel
theorem dX7_tell_83 : decode cX7_tell 83 = .ok (.iload_n 3, 1) := by decide +kernel
theorem dX7_tell_84 : decode cX7_tell 84 = .ok (.aload_n 0, 1) := by decide +kernel
theorem dX7_tell_85 : decode cX7_tell 85 = .ok (.getfield 15, 3) := by decide +kernel
theorem dX7_tell_88 : decode cX7_tell 88 = .ok (.getfield 53, 3) := by decide +kernel
theorem dX7_tell_91 : decode cX7_tell 91 = .ok (.if_icmp .ge 83, 3) := by decide +kernel
theorem dX7_tell_94 : decode cX7_tell 94 = .ok (.aload_n 0, 1) := by decide +kernel
theorem dX7_tell_95 : decode cX7_tell 95 = .ok (.getfield 15, 3) := by decide +kernel
theorem dX7_tell_98 : decode cX7_tell 98 = .ok (.getfield 74, 3) := by decide +kernel
theorem dX7_tell_101 : decode cX7_tell 101 = .ok (.iload_n 1, 1) := by decide +kernel
theorem dX7_tell_102 : decode cX7_tell 102 = .ok (.iand, 1) := by decide +kernel
theorem dX7_tell_103 : decode cX7_tell 103 = .ok (.iload_n 2, 1) := by decide +kernel
theorem dX7_tell_104 : decode cX7_tell 104 = .ok (.if_icmp .ne 57, 3) := by decide +kernel
theorem dX7_tell_107 : decode cX7_tell 107 = .ok (.aload_n 0, 1) := by decide +kernel
theorem dX7_tell_108 : decode cX7_tell 108 = .ok (.dup, 1) := by decide +kernel
theorem dX7_tell_109 : decode cX7_tell 109 = .ok (.getfield 65, 3) := by decide +kernel
theorem dX7_tell_112 : decode cX7_tell 112 = .ok (.iconst 1, 1) := by decide +kernel
theorem dX7_tell_113 : decode cX7_tell 113 = .ok (.iadd, 1) := by decide +kernel
theorem dX7_tell_114 : decode cX7_tell 114 = .ok (.putfield 65, 3) := by decide +kernel
theorem dX7_tell_117 : decode cX7_tell 117 = .ok (.aload_n 0, 1) := by decide +kernel
theorem dX7_tell_118 : decode cX7_tell 118 = .ok (.getfield 68, 3) := by decide +kernel
theorem dX7_tell_121 : decode cX7_tell 121 = .ok (.iconst (-1), 1) := by decide +kernel
theorem dX7_tell_122 : decode cX7_tell 122 = .ok (.if_icmp .eq 17, 3) := by decide +kernel
theorem dX7_tell_125 : decode cX7_tell 125 = .ok (.aload_n 0, 1) := by decide +kernel
theorem dX7_tell_126 : decode cX7_tell 126 = .ok (.getfield 15, 3) := by decide +kernel
theorem dX7_tell_129 : decode cX7_tell 129 = .ok (.getfield 77, 3) := by decide +kernel
theorem dX7_tell_132 : decode cX7_tell 132 = .ok (.aload_n 0, 1) := by decide +kernel
theorem dX7_tell_133 : decode cX7_tell 133 = .ok (.getfield 68, 3) := by decide +kernel
theorem dX7_tell_136 : decode cX7_tell 136 = .ok (.if_icmp .ge 25, 3) := by decide +kernel
theorem dX7_tell_139 : decode cX7_tell 139 = .ok (.aload_n 0, 1) := by decide +kernel
theorem dX7_tell_140 : decode cX7_tell 140 = .ok (.aload_n 0, 1) := by decide +kernel
theorem dX7_tell_141 : decode cX7_tell 141 = .ok (.getfield 15, 3) := by decide +kernel
theorem dX7_tell_144 : decode cX7_tell 144 = .ok (.getfield 77, 3) := by decide +kernel
theorem dX7_tell_147 : decode cX7_tell 147 = .ok (.putfield 68, 3) := by decide +kernel
theorem dX7_tell_150 : decode cX7_tell 150 = .ok (.aload_n 0, 1) := by decide +kernel
theorem dX7_tell_151 : decode cX7_tell 151 = .ok (.aload_n 0, 1) := by decide +kernel
theorem dX7_tell_152 : decode cX7_tell 152 = .ok (.getfield 15, 3) := by decide +kernel
theorem dX7_tell_155 : decode cX7_tell 155 = .ok (.getfield 80, 3) := by decide +kernel
theorem dX7_tell_158 : decode cX7_tell 158 = .ok (.putfield 71, 3) := by decide +kernel
theorem dX7_tell_161 : decode cX7_tell 161 = .ok (.aload_n 0, 1) := by decide +kernel
theorem dX7_tell_162 : decode cX7_tell 162 = .ok (.getfield 15, 3) := by decide +kernel
theorem dX7_tell_165 : decode cX7_tell 165 = .ok (.invokevirtual 83, 3) := by decide +kernel
theorem dX7_tell_168 : decode cX7_tell 168 = .ok (.iinc 3 1, 3) := by decide +kernel
theorem dX7_tell_171 : decode cX7_tell 171 = .ok (.goto (-88), 3) := by decide +kernel
theorem dX7_tell_174 : decode cX7_tell 174 = .ok (.return_, 1) := by decide +kernel
theorem dX7_seatAll_0 : decode cX7_seatAll 0 = .ok (.aload_n 0, 1) := by decide +kernel
theorem dX7_seatAll_1 : decode cX7_seatAll 1 = .ok (.getfield 19, 3) := by decide +kernel
theorem dX7_seatAll_4 : decode cX7_seatAll 4 = .ok (.aload_n 0, 1) := by decide +kernel
theorem dX7_seatAll_5 : decode cX7_seatAll 5 = .ok (.getfield 9, 3) := by decide +kernel
theorem dX7_seatAll_8 : decode cX7_seatAll 8 = .ok (.getfield 56, 3) := by decide +kernel
theorem dX7_seatAll_11 : decode cX7_seatAll 11 = .ok (.if_icmp .ne 4, 3) := by decide +kernel
theorem dX7_seatAll_14 : decode cX7_seatAll 14 = .ok (.return_, 1) := by decide +kernel
theorem dX7_seatAll_15 : decode cX7_seatAll 15 = .ok (.aload_n 0, 1) := by decide +kernel
theorem dX7_seatAll_16 : decode cX7_seatAll 16 = .ok (.aload_n 0, 1) := by decide +kernel
theorem dX7_seatAll_17 : decode cX7_seatAll 17 = .ok (.getfield 9, 3) := by decide +kernel
theorem dX7_seatAll_20 : decode cX7_seatAll 20 = .ok (.getfield 56, 3) := by decide +kernel
theorem dX7_seatAll_23 : decode cX7_seatAll 23 = .ok (.putfield 19, 3) := by decide +kernel
theorem dX7_seatAll_26 : decode cX7_seatAll 26 = .ok (.aload_n 0, 1) := by decide +kernel
theorem dX7_seatAll_27 : decode cX7_seatAll 27 = .ok (.getfield 29, 3) := by decide +kernel
theorem dX7_seatAll_30 : decode cX7_seatAll 30 = .ok (.iconst 0, 1) := by decide +kernel
theorem dX7_seatAll_31 : decode cX7_seatAll 31 = .ok (.invokestatic 86, 3) := by decide +kernel
theorem dX7_seatAll_34 : decode cX7_seatAll 34 = .ok (.aload_n 0, 1) := by decide +kernel
theorem dX7_seatAll_35 : decode cX7_seatAll 35 = .ok (.getfield 33, 3) := by decide +kernel
theorem dX7_seatAll_38 : decode cX7_seatAll 38 = .ok (.iconst (-1), 1) := by decide +kernel
theorem dX7_seatAll_39 : decode cX7_seatAll 39 = .ok (.invokestatic 86, 3) := by decide +kernel
theorem dX7_seatAll_42 : decode cX7_seatAll 42 = .ok (.aload_n 0, 1) := by decide +kernel
theorem dX7_seatAll_43 : decode cX7_seatAll 43 = .ok (.getfield 36, 3) := by decide +kernel
theorem dX7_seatAll_46 : decode cX7_seatAll 46 = .ok (.iconst 0, 1) := by decide +kernel
theorem dX7_seatAll_47 : decode cX7_seatAll 47 = .ok (.invokestatic 86, 3) := by decide +kernel
theorem dX7_seatAll_50 : decode cX7_seatAll 50 = .ok (.aload_n 0, 1) := by decide +kernel
theorem dX7_seatAll_51 : decode cX7_seatAll 51 = .ok (.getfield 39, 3) := by decide +kernel
theorem dX7_seatAll_54 : decode cX7_seatAll 54 = .ok (.iconst (-1), 1) := by decide +kernel
theorem dX7_seatAll_55 : decode cX7_seatAll 55 = .ok (.invokestatic 86, 3) := by decide +kernel
theorem dX7_seatAll_58 : decode cX7_seatAll 58 = .ok (.aload_n 0, 1) := by decide +kernel
theorem dX7_seatAll_59 : decode cX7_seatAll 59 = .ok (.getfield 15, 3) := by decide +kernel
theorem dX7_seatAll_62 : decode cX7_seatAll 62 = .ok (.aload_n 0, 1) := by decide +kernel
theorem dX7_seatAll_63 : decode cX7_seatAll 63 = .ok (.getfield 9, 3) := by decide +kernel
theorem dX7_seatAll_66 : decode cX7_seatAll 66 = .ok (.getfield 42, 3) := by decide +kernel
theorem dX7_seatAll_69 : decode cX7_seatAll 69 = .ok (.invokevirtual 47, 3) := by decide +kernel
theorem dX7_seatAll_72 : decode cX7_seatAll 72 = .ok (.iconst 0, 1) := by decide +kernel
theorem dX7_seatAll_73 : decode cX7_seatAll 73 = .ok (.istore_n 1, 1) := by decide +kernel
theorem dX7_seatAll_74 : decode cX7_seatAll 74 = .ok (.iload_n 1, 1) := by decide +kernel
theorem dX7_seatAll_75 : decode cX7_seatAll 75 = .ok (.aload_n 0, 1) := by decide +kernel
theorem dX7_seatAll_76 : decode cX7_seatAll 76 = .ok (.getfield 15, 3) := by decide +kernel
theorem dX7_seatAll_79 : decode cX7_seatAll 79 = .ok (.getfield 53, 3) := by decide +kernel
theorem dX7_seatAll_82 : decode cX7_seatAll 82 = .ok (.if_icmp .ge 41, 3) := by decide +kernel
theorem dX7_seatAll_85 : decode cX7_seatAll 85 = .ok (.aload_n 0, 1) := by decide +kernel
theorem dX7_seatAll_86 : decode cX7_seatAll 86 = .ok (.getfield 9, 3) := by decide +kernel
theorem dX7_seatAll_89 : decode cX7_seatAll 89 = .ok (.aload_n 0, 1) := by decide +kernel
theorem dX7_seatAll_90 : decode cX7_seatAll 90 = .ok (.getfield 15, 3) := by decide +kernel
theorem dX7_seatAll_93 : decode cX7_seatAll 93 = .ok (.getfield 74, 3) := by decide +kernel
theorem dX7_seatAll_96 : decode cX7_seatAll 96 = .ok (.invokevirtual 92, 3) := by decide +kernel
theorem dX7_seatAll_99 : decode cX7_seatAll 99 = .ok (.istore_n 2, 1) := by decide +kernel
theorem dX7_seatAll_100 : decode cX7_seatAll 100 = .ok (.iload_n 2, 1) := by decide +kernel
theorem dX7_seatAll_101 : decode cX7_seatAll 101 = .ok (.iconst (-1), 1) := by decide +kernel
theorem dX7_seatAll_102 : decode cX7_seatAll 102 = .ok (.if_icmp .eq 8, 3) := by decide +kernel
theorem dX7_seatAll_105 : decode cX7_seatAll 105 = .ok (.aload_n 0, 1) := by decide +kernel
theorem dX7_seatAll_106 : decode cX7_seatAll 106 = .ok (.iload_n 2, 1) := by decide +kernel
theorem dX7_seatAll_107 : decode cX7_seatAll 107 = .ok (.invokevirtual 96, 3) := by decide +kernel
theorem dX7_seatAll_110 : decode cX7_seatAll 110 = .ok (.aload_n 0, 1) := by decide +kernel
theorem dX7_seatAll_111 : decode cX7_seatAll 111 = .ok (.getfield 15, 3) := by decide +kernel
theorem dX7_seatAll_114 : decode cX7_seatAll 114 = .ok (.invokevirtual 83, 3) := by decide +kernel
theorem dX7_seatAll_117 : decode cX7_seatAll 117 = .ok (.iinc 1 1, 3) := by decide +kernel
theorem dX7_seatAll_120 : decode cX7_seatAll 120 = .ok (.goto (-46), 3) := by decide +kernel
theorem dX7_seatAll_123 : decode cX7_seatAll 123 = .ok (.return_, 1) := by decide +kernel
theorem dX7_seat_0 : decode cX7_seat 0 = .ok (.aload_n 0, 1) := by decide +kernel
theorem dX7_seat_1 : decode cX7_seat 1 = .ok (.getfield 29, 3) := by decide +kernel
theorem dX7_seat_4 : decode cX7_seat 4 = .ok (.iload_n 1, 1) := by decide +kernel
theorem dX7_seat_5 : decode cX7_seat 5 = .ok (.dup2, 1) := by decide +kernel
theorem dX7_seat_6 : decode cX7_seat 6 = .ok (.iaload, 1) := by decide +kernel
theorem dX7_seat_7 : decode cX7_seat 7 = .ok (.iconst 1, 1) := by decide +kernel
theorem dX7_seat_8 : decode cX7_seat 8 = .ok (.iadd, 1) := by decide +kernel
theorem dX7_seat_9 : decode cX7_seat 9 = .ok (.iastore, 1) := by decide +kernel
theorem dX7_seat_10 : decode cX7_seat 10 = .ok (.aload_n 0, 1) := by decide +kernel
theorem dX7_seat_11 : decode cX7_seat 11 = .ok (.getfield 33, 3) := by decide +kernel
theorem dX7_seat_14 : decode cX7_seat 14 = .ok (.iload_n 1, 1) := by decide +kernel
theorem dX7_seat_15 : decode cX7_seat 15 = .ok (.iaload, 1) := by decide +kernel
theorem dX7_seat_16 : decode cX7_seat 16 = .ok (.iconst (-1), 1) := by decide +kernel
theorem dX7_seat_17 : decode cX7_seat 17 = .ok (.if_icmp .eq 19, 3) := by decide +kernel
theorem dX7_seat_20 : decode cX7_seat 20 = .ok (.aload_n 0, 1) := by decide +kernel
theorem dX7_seat_21 : decode cX7_seat 21 = .ok (.getfield 15, 3) := by decide +kernel
theorem dX7_seat_24 : decode cX7_seat 24 = .ok (.getfield 77, 3) := by decide +kernel
theorem dX7_seat_27 : decode cX7_seat 27 = .ok (.aload_n 0, 1) := by decide +kernel
theorem dX7_seat_28 : decode cX7_seat 28 = .ok (.getfield 33, 3) := by decide +kernel
theorem dX7_seat_31 : decode cX7_seat 31 = .ok (.iload_n 1, 1) := by decide +kernel
theorem dX7_seat_32 : decode cX7_seat 32 = .ok (.iaload, 1) := by decide +kernel
theorem dX7_seat_33 : decode cX7_seat 33 = .ok (.if_icmp .ge 29, 3) := by decide +kernel
theorem dX7_seat_36 : decode cX7_seat 36 = .ok (.aload_n 0, 1) := by decide +kernel
theorem dX7_seat_37 : decode cX7_seat 37 = .ok (.getfield 33, 3) := by decide +kernel
theorem dX7_seat_40 : decode cX7_seat 40 = .ok (.iload_n 1, 1) := by decide +kernel
theorem dX7_seat_41 : decode cX7_seat 41 = .ok (.aload_n 0, 1) := by decide +kernel
theorem dX7_seat_42 : decode cX7_seat 42 = .ok (.getfield 15, 3) := by decide +kernel
theorem dX7_seat_45 : decode cX7_seat 45 = .ok (.getfield 77, 3) := by decide +kernel
theorem dX7_seat_48 : decode cX7_seat 48 = .ok (.iastore, 1) := by decide +kernel
theorem dX7_seat_49 : decode cX7_seat 49 = .ok (.aload_n 0, 1) := by decide +kernel
theorem dX7_seat_50 : decode cX7_seat 50 = .ok (.getfield 36, 3) := by decide +kernel
theorem dX7_seat_53 : decode cX7_seat 53 = .ok (.iload_n 1, 1) := by decide +kernel
theorem dX7_seat_54 : decode cX7_seat 54 = .ok (.aload_n 0, 1) := by decide +kernel
theorem dX7_seat_55 : decode cX7_seat 55 = .ok (.getfield 15, 3) := by decide +kernel
theorem dX7_seat_58 : decode cX7_seat 58 = .ok (.getfield 80, 3) := by decide +kernel
theorem dX7_seat_61 : decode cX7_seat 61 = .ok (.iastore, 1) := by decide +kernel
theorem dX7_seat_62 : decode cX7_seat 62 = .ok (.aload_n 0, 1) := by decide +kernel
theorem dX7_seat_63 : decode cX7_seat 63 = .ok (.getfield 39, 3) := by decide +kernel
theorem dX7_seat_66 : decode cX7_seat 66 = .ok (.iload_n 1, 1) := by decide +kernel
theorem dX7_seat_67 : decode cX7_seat 67 = .ok (.iaload, 1) := by decide +kernel
theorem dX7_seat_68 : decode cX7_seat 68 = .ok (.iconst (-1), 1) := by decide +kernel
theorem dX7_seat_69 : decode cX7_seat 69 = .ok (.if_icmp .eq 22, 3) := by decide +kernel
theorem dX7_seat_72 : decode cX7_seat 72 = .ok (.aload_n 0, 1) := by decide +kernel
theorem dX7_seat_73 : decode cX7_seat 73 = .ok (.getfield 15, 3) := by decide +kernel
theorem dX7_seat_76 : decode cX7_seat 76 = .ok (.getfield 99, 3) := by decide +kernel
theorem dX7_seat_79 : decode cX7_seat 79 = .ok (.aload_n 0, 1) := by decide +kernel
theorem dX7_seat_80 : decode cX7_seat 80 = .ok (.getfield 39, 3) := by decide +kernel
theorem dX7_seat_83 : decode cX7_seat 83 = .ok (.iload_n 1, 1) := by decide +kernel
theorem dX7_seat_84 : decode cX7_seat 84 = .ok (.iaload, 1) := by decide +kernel
theorem dX7_seat_85 : decode cX7_seat 85 = .ok (.invokestatic 102, 3) := by decide +kernel
theorem dX7_seat_88 : decode cX7_seat 88 = .ok (.ifCond .eq 16, 3) := by decide +kernel
theorem dX7_seat_91 : decode cX7_seat 91 = .ok (.aload_n 0, 1) := by decide +kernel
theorem dX7_seat_92 : decode cX7_seat 92 = .ok (.getfield 39, 3) := by decide +kernel
theorem dX7_seat_95 : decode cX7_seat 95 = .ok (.iload_n 1, 1) := by decide +kernel
theorem dX7_seat_96 : decode cX7_seat 96 = .ok (.aload_n 0, 1) := by decide +kernel
theorem dX7_seat_97 : decode cX7_seat 97 = .ok (.getfield 15, 3) := by decide +kernel
theorem dX7_seat_100 : decode cX7_seat 100 = .ok (.getfield 99, 3) := by decide +kernel
theorem dX7_seat_103 : decode cX7_seat 103 = .ok (.iastore, 1) := by decide +kernel
theorem dX7_seat_104 : decode cX7_seat 104 = .ok (.return_, 1) := by decide +kernel
theorem dX7_isLess_0 : decode cX7_isLess 0 = .ok (.iload_n 0, 1) := by decide +kernel
theorem dX7_isLess_1 : decode cX7_isLess 1 = .ok (.invokestatic 106, 3) := by decide +kernel
theorem dX7_isLess_4 : decode cX7_isLess 4 = .ok (.iload_n 1, 1) := by decide +kernel
theorem dX7_isLess_5 : decode cX7_isLess 5 = .ok (.invokestatic 106, 3) := by decide +kernel
theorem dX7_isLess_8 : decode cX7_isLess 8 = .ok (.isub, 1) := by decide +kernel
theorem dX7_isLess_9 : decode cX7_isLess 9 = .ok (.istore_n 2, 1) := by decide +kernel
theorem dX7_isLess_10 : decode cX7_isLess 10 = .ok (.iload_n 2, 1) := by decide +kernel
theorem dX7_isLess_11 : decode cX7_isLess 11 = .ok (.ifCond .lt 12, 3) := by decide +kernel
theorem dX7_isLess_14 : decode cX7_isLess 14 = .ok (.iload_n 2, 1) := by decide +kernel
theorem dX7_isLess_15 : decode cX7_isLess 15 = .ok (.ifCond .ne 12, 3) := by decide +kernel
theorem dX7_isLess_18 : decode cX7_isLess 18 = .ok (.iload_n 0, 1) := by decide +kernel
theorem dX7_isLess_19 : decode cX7_isLess 19 = .ok (.iload_n 1, 1) := by decide +kernel
theorem dX7_isLess_20 : decode cX7_isLess 20 = .ok (.if_icmp .ge 7, 3) := by decide +kernel
theorem dX7_isLess_23 : decode cX7_isLess 23 = .ok (.iconst 1, 1) := by decide +kernel
theorem dX7_isLess_24 : decode cX7_isLess 24 = .ok (.goto 4, 3) := by decide +kernel
theorem dX7_isLess_27 : decode cX7_isLess 27 = .ok (.iconst 0, 1) := by decide +kernel
theorem dX7_isLess_28 : decode cX7_isLess 28 = .ok (.ireturn, 1) := by decide +kernel
theorem dX7_reaches_0 : decode cX7_reaches 0 = .ok (.aload_n 0, 1) := by decide +kernel
theorem dX7_reaches_1 : decode cX7_reaches 1 = .ok (.getfield 15, 3) := by decide +kernel
theorem dX7_reaches_4 : decode cX7_reaches 4 = .ok (.iload_n 2, 1) := by decide +kernel
theorem dX7_reaches_5 : decode cX7_reaches 5 = .ok (.invokevirtual 47, 3) := by decide +kernel
theorem dX7_reaches_8 : decode cX7_reaches 8 = .ok (.iconst 0, 1) := by decide +kernel
theorem dX7_reaches_9 : decode cX7_reaches 9 = .ok (.istore_n 3, 1) := by decide +kernel
theorem dX7_reaches_10 : decode cX7_reaches 10 = .ok (.iload_n 3, 1) := by decide +kernel
theorem dX7_reaches_11 : decode cX7_reaches 11 = .ok (.aload_n 0, 1) := by decide +kernel
theorem dX7_reaches_12 : decode cX7_reaches 12 = .ok (.getfield 15, 3) := by decide +kernel
theorem dX7_reaches_15 : decode cX7_reaches 15 = .ok (.getfield 53, 3) := by decide +kernel
theorem dX7_reaches_18 : decode cX7_reaches 18 = .ok (.if_icmp .ge 36, 3) := by decide +kernel
theorem dX7_reaches_21 : decode cX7_reaches 21 = .ok (.aload_n 0, 1) := by decide +kernel
theorem dX7_reaches_22 : decode cX7_reaches 22 = .ok (.getfield 9, 3) := by decide +kernel
theorem dX7_reaches_25 : decode cX7_reaches 25 = .ok (.aload_n 0, 1) := by decide +kernel
theorem dX7_reaches_26 : decode cX7_reaches 26 = .ok (.getfield 15, 3) := by decide +kernel
theorem dX7_reaches_29 : decode cX7_reaches 29 = .ok (.getfield 74, 3) := by decide +kernel
theorem dX7_reaches_32 : decode cX7_reaches 32 = .ok (.invokevirtual 92, 3) := by decide +kernel
theorem dX7_reaches_35 : decode cX7_reaches 35 = .ok (.iload_n 1, 1) := by decide +kernel
theorem dX7_reaches_36 : decode cX7_reaches 36 = .ok (.if_icmp .ne 5, 3) := by decide +kernel
theorem dX7_reaches_39 : decode cX7_reaches 39 = .ok (.iconst 1, 1) := by decide +kernel
theorem dX7_reaches_40 : decode cX7_reaches 40 = .ok (.ireturn, 1) := by decide +kernel
theorem dX7_reaches_41 : decode cX7_reaches 41 = .ok (.aload_n 0, 1) := by decide +kernel
theorem dX7_reaches_42 : decode cX7_reaches 42 = .ok (.getfield 15, 3) := by decide +kernel
theorem dX7_reaches_45 : decode cX7_reaches 45 = .ok (.invokevirtual 83, 3) := by decide +kernel
theorem dX7_reaches_48 : decode cX7_reaches 48 = .ok (.iinc 3 1, 3) := by decide +kernel
theorem dX7_reaches_51 : decode cX7_reaches 51 = .ok (.goto (-41), 3) := by decide +kernel
theorem dX7_reaches_54 : decode cX7_reaches 54 = .ok (.iconst 0, 1) := by decide +kernel
theorem dX7_reaches_55 : decode cX7_reaches 55 = .ok (.ireturn, 1) := by decide +kernel
theorem dX7_pairAll_0 : decode cX7_pairAll 0 = .ok (.aload_n 0, 1) := by decide +kernel
theorem dX7_pairAll_1 : decode cX7_pairAll 1 = .ok (.getfield 23, 3) := by decide +kernel
theorem dX7_pairAll_4 : decode cX7_pairAll 4 = .ok (.aload_n 0, 1) := by decide +kernel
theorem dX7_pairAll_5 : decode cX7_pairAll 5 = .ok (.getfield 9, 3) := by decide +kernel
theorem dX7_pairAll_8 : decode cX7_pairAll 8 = .ok (.getfield 56, 3) := by decide +kernel
theorem dX7_pairAll_11 : decode cX7_pairAll 11 = .ok (.if_icmp .ne 4, 3) := by decide +kernel
theorem dX7_pairAll_14 : decode cX7_pairAll 14 = .ok (.return_, 1) := by decide +kernel
theorem dX7_pairAll_15 : decode cX7_pairAll 15 = .ok (.aload_n 0, 1) := by decide +kernel
theorem dX7_pairAll_16 : decode cX7_pairAll 16 = .ok (.aload_n 0, 1) := by decide +kernel
theorem dX7_pairAll_17 : decode cX7_pairAll 17 = .ok (.getfield 9, 3) := by decide +kernel
theorem dX7_pairAll_20 : decode cX7_pairAll 20 = .ok (.getfield 56, 3) := by decide +kernel
theorem dX7_pairAll_23 : decode cX7_pairAll 23 = .ok (.putfield 23, 3) := by decide +kernel
theorem dX7_pairAll_26 : decode cX7_pairAll 26 = .ok (.aload_n 0, 1) := by decide +kernel
theorem dX7_pairAll_27 : decode cX7_pairAll 27 = .ok (.iconst (-1), 1) := by decide +kernel
theorem dX7_pairAll_28 : decode cX7_pairAll 28 = .ok (.putfield 111, 3) := by decide +kernel
theorem dX7_pairAll_31 : decode cX7_pairAll 31 = .ok (.aload_n 0, 1) := by decide +kernel
theorem dX7_pairAll_32 : decode cX7_pairAll 32 = .ok (.getfield 15, 3) := by decide +kernel
theorem dX7_pairAll_35 : decode cX7_pairAll 35 = .ok (.aload_n 0, 1) := by decide +kernel
theorem dX7_pairAll_36 : decode cX7_pairAll 36 = .ok (.getfield 9, 3) := by decide +kernel
theorem dX7_pairAll_39 : decode cX7_pairAll 39 = .ok (.getfield 42, 3) := by decide +kernel
theorem dX7_pairAll_42 : decode cX7_pairAll 42 = .ok (.invokevirtual 47, 3) := by decide +kernel
theorem dX7_pairAll_45 : decode cX7_pairAll 45 = .ok (.iconst 0, 1) := by decide +kernel
theorem dX7_pairAll_46 : decode cX7_pairAll 46 = .ok (.istore_n 1, 1) := by decide +kernel
theorem dX7_pairAll_47 : decode cX7_pairAll 47 = .ok (.iload_n 1, 1) := by decide +kernel
theorem dX7_pairAll_48 : decode cX7_pairAll 48 = .ok (.aload_n 0, 1) := by decide +kernel
theorem dX7_pairAll_49 : decode cX7_pairAll 49 = .ok (.getfield 15, 3) := by decide +kernel
theorem dX7_pairAll_52 : decode cX7_pairAll 52 = .ok (.getfield 53, 3) := by decide +kernel
theorem dX7_pairAll_55 : decode cX7_pairAll 55 = .ok (.if_icmp .ge 91, 3) := by decide +kernel
theorem dX7_pairAll_58 : decode cX7_pairAll 58 = .ok (.aload_n 0, 1) := by decide +kernel
theorem dX7_pairAll_59 : decode cX7_pairAll 59 = .ok (.getfield 15, 3) := by decide +kernel
theorem dX7_pairAll_62 : decode cX7_pairAll 62 = .ok (.getfield 74, 3) := by decide +kernel
theorem dX7_pairAll_65 : decode cX7_pairAll 65 = .ok (.aload_n 0, 1) := by decide +kernel
theorem dX7_pairAll_66 : decode cX7_pairAll 66 = .ok (.getfield 9, 3) := by decide +kernel
theorem dX7_pairAll_69 : decode cX7_pairAll 69 = .ok (.getfield 114, 3) := by decide +kernel
theorem dX7_pairAll_72 : decode cX7_pairAll 72 = .ok (.invokestatic 117, 3) := by decide +kernel
theorem dX7_pairAll_75 : decode cX7_pairAll 75 = .ok (.istore_n 2, 1) := by decide +kernel
theorem dX7_pairAll_76 : decode cX7_pairAll 76 = .ok (.iload_n 2, 1) := by decide +kernel
theorem dX7_pairAll_77 : decode cX7_pairAll 77 = .ok (.aload_n 0, 1) := by decide +kernel
theorem dX7_pairAll_78 : decode cX7_pairAll 78 = .ok (.getfield 111, 3) := by decide +kernel
theorem dX7_pairAll_81 : decode cX7_pairAll 81 = .ok (.if_icmp .gt 25, 3) := by decide +kernel
theorem dX7_pairAll_84 : decode cX7_pairAll 84 = .ok (.iload_n 2, 1) := by decide +kernel
theorem dX7_pairAll_85 : decode cX7_pairAll 85 = .ok (.aload_n 0, 1) := by decide +kernel
theorem dX7_pairAll_86 : decode cX7_pairAll 86 = .ok (.getfield 111, 3) := by decide +kernel
theorem dX7_pairAll_89 : decode cX7_pairAll 89 = .ok (.if_icmp .ne 44, 3) := by decide +kernel
theorem dX7_pairAll_92 : decode cX7_pairAll 92 = .ok (.aload_n 0, 1) := by decide +kernel
theorem dX7_pairAll_93 : decode cX7_pairAll 93 = .ok (.getfield 15, 3) := by decide +kernel
theorem dX7_pairAll_96 : decode cX7_pairAll 96 = .ok (.getfield 77, 3) := by decide +kernel
theorem dX7_pairAll_99 : decode cX7_pairAll 99 = .ok (.aload_n 0, 1) := by decide +kernel
theorem dX7_pairAll_100 : decode cX7_pairAll 100 = .ok (.getfield 123, 3) := by decide +kernel
theorem dX7_pairAll_103 : decode cX7_pairAll 103 = .ok (.if_icmp .ge 30, 3) := by decide +kernel
theorem dX7_pairAll_106 : decode cX7_pairAll 106 = .ok (.aload_n 0, 1) := by decide +kernel
theorem dX7_pairAll_107 : decode cX7_pairAll 107 = .ok (.iload_n 2, 1) := by decide +kernel
theorem dX7_pairAll_108 : decode cX7_pairAll 108 = .ok (.putfield 111, 3) := by decide +kernel
theorem dX7_pairAll_111 : decode cX7_pairAll 111 = .ok (.aload_n 0, 1) := by decide +kernel
theorem dX7_pairAll_112 : decode cX7_pairAll 112 = .ok (.aload_n 0, 1) := by decide +kernel
theorem dX7_pairAll_113 : decode cX7_pairAll 113 = .ok (.getfield 15, 3) := by decide +kernel
theorem dX7_pairAll_116 : decode cX7_pairAll 116 = .ok (.getfield 77, 3) := by decide +kernel
theorem dX7_pairAll_119 : decode cX7_pairAll 119 = .ok (.putfield 123, 3) := by decide +kernel
theorem dX7_pairAll_122 : decode cX7_pairAll 122 = .ok (.aload_n 0, 1) := by decide +kernel
theorem dX7_pairAll_123 : decode cX7_pairAll 123 = .ok (.aload_n 0, 1) := by decide +kernel
theorem dX7_pairAll_124 : decode cX7_pairAll 124 = .ok (.getfield 15, 3) := by decide +kernel
theorem dX7_pairAll_127 : decode cX7_pairAll 127 = .ok (.getfield 80, 3) := by decide +kernel
theorem dX7_pairAll_130 : decode cX7_pairAll 130 = .ok (.putfield 126, 3) := by decide +kernel
theorem dX7_pairAll_133 : decode cX7_pairAll 133 = .ok (.aload_n 0, 1) := by decide +kernel
theorem dX7_pairAll_134 : decode cX7_pairAll 134 = .ok (.getfield 15, 3) := by decide +kernel
theorem dX7_pairAll_137 : decode cX7_pairAll 137 = .ok (.invokevirtual 83, 3) := by decide +kernel
theorem dX7_pairAll_140 : decode cX7_pairAll 140 = .ok (.iinc 1 1, 3) := by decide +kernel
theorem dX7_pairAll_143 : decode cX7_pairAll 143 = .ok (.goto (-96), 3) := by decide +kernel
theorem dX7_pairAll_146 : decode cX7_pairAll 146 = .ok (.return_, 1) := by decide +kernel
theorem dX8_init_0 : decode cX8_init 0 = .ok (.aload_n 0, 1) := by decide +kernel
theorem dX8_init_1 : decode cX8_init 1 = .ok (.invokespecial 3, 3) := by decide +kernel
theorem dX8_init_4 : decode cX8_init 4 = .ok (.aload_n 0, 1) := by decide +kernel
theorem dX8_init_5 : decode cX8_init 5 = .ok (.aload_n 1, 1) := by decide +kernel
theorem dX8_init_6 : decode cX8_init 6 = .ok (.putfield 9, 3) := by decide +kernel
theorem dX8_init_9 : decode cX8_init 9 = .ok (.return_, 1) := by decide +kernel
theorem dX8_begin_0 : decode cX8_begin 0 = .ok (.aload_n 0, 1) := by decide +kernel
theorem dX8_begin_1 : decode cX8_begin 1 = .ok (.iload_n 1, 1) := by decide +kernel
theorem dX8_begin_2 : decode cX8_begin 2 = .ok (.aload_n 0, 1) := by decide +kernel
theorem dX8_begin_3 : decode cX8_begin 3 = .ok (.getfield 9, 3) := by decide +kernel
theorem dX8_begin_6 : decode cX8_begin 6 = .ok (.arraylength, 1) := by decide +kernel
theorem dX8_begin_7 : decode cX8_begin 7 = .ok (.invokestatic 15, 3) := by decide +kernel
theorem dX8_begin_10 : decode cX8_begin 10 = .ok (.putfield 21, 3) := by decide +kernel
theorem dX8_begin_13 : decode cX8_begin 13 = .ok (.aload_n 0, 1) := by decide +kernel
theorem dX8_begin_14 : decode cX8_begin 14 = .ok (.iconst 0, 1) := by decide +kernel
theorem dX8_begin_15 : decode cX8_begin 15 = .ok (.putfield 25, 3) := by decide +kernel
theorem dX8_begin_18 : decode cX8_begin 18 = .ok (.aload_n 0, 1) := by decide +kernel
theorem dX8_begin_19 : decode cX8_begin 19 = .ok (.invokevirtual 28, 3) := by decide +kernel
theorem dX8_begin_22 : decode cX8_begin 22 = .ok (.return_, 1) := by decide +kernel
theorem dX8_step_0 : decode cX8_step 0 = .ok (.aload_n 0, 1) := by decide +kernel
theorem dX8_step_1 : decode cX8_step 1 = .ok (.getfield 25, 3) := by decide +kernel
theorem dX8_step_4 : decode cX8_step 4 = .ok (.aload_n 0, 1) := by decide +kernel
theorem dX8_step_5 : decode cX8_step 5 = .ok (.getfield 21, 3) := by decide +kernel
theorem dX8_step_8 : decode cX8_step 8 = .ok (.if_icmp .ge 30, 3) := by decide +kernel
theorem dX8_step_11 : decode cX8_step 11 = .ok (.aload_n 0, 1) := by decide +kernel
theorem dX8_step_12 : decode cX8_step 12 = .ok (.aload_n 0, 1) := by decide +kernel
theorem dX8_step_13 : decode cX8_step 13 = .ok (.getfield 25, 3) := by decide +kernel
theorem dX8_step_16 : decode cX8_step 16 = .ok (.invokevirtual 31, 3) := by decide +kernel
theorem dX8_step_19 : decode cX8_step 19 = .ok (.invokestatic 35, 3) := by decide +kernel
theorem dX8_step_22 : decode cX8_step 22 = .ok (.ifCond .eq 16, 3) := by decide +kernel
theorem dX8_step_25 : decode cX8_step 25 = .ok (.aload_n 0, 1) := by decide +kernel
theorem dX8_step_26 : decode cX8_step 26 = .ok (.dup, 1) := by decide +kernel
theorem dX8_step_27 : decode cX8_step 27 = .ok (.getfield 25, 3) := by decide +kernel
theorem dX8_step_30 : decode cX8_step 30 = .ok (.iconst 1, 1) := by decide +kernel
theorem dX8_step_31 : decode cX8_step 31 = .ok (.iadd, 1) := by decide +kernel
theorem dX8_step_32 : decode cX8_step 32 = .ok (.putfield 25, 3) := by decide +kernel
theorem dX8_step_35 : decode cX8_step 35 = .ok (.goto (-35), 3) := by decide +kernel
theorem dX8_step_38 : decode cX8_step 38 = .ok (.aload_n 0, 1) := by decide +kernel
theorem dX8_step_39 : decode cX8_step 39 = .ok (.aload_n 0, 1) := by decide +kernel
theorem dX8_step_40 : decode cX8_step 40 = .ok (.getfield 25, 3) := by decide +kernel
theorem dX8_step_43 : decode cX8_step 43 = .ok (.putfield 39, 3) := by decide +kernel
theorem dX8_step_46 : decode cX8_step 46 = .ok (.aload_n 0, 1) := by decide +kernel
theorem dX8_step_47 : decode cX8_step 47 = .ok (.aload_n 0, 1) := by decide +kernel
theorem dX8_step_48 : decode cX8_step 48 = .ok (.aload_n 0, 1) := by decide +kernel
theorem dX8_step_49 : decode cX8_step 49 = .ok (.getfield 25, 3) := by decide +kernel
theorem dX8_step_52 : decode cX8_step 52 = .ok (.invokevirtual 31, 3) := by decide +kernel
theorem dX8_step_55 : decode cX8_step 55 = .ok (.putfield 42, 3) := by decide +kernel
theorem dX8_step_58 : decode cX8_step 58 = .ok (.aload_n 0, 1) := by decide +kernel
theorem dX8_step_59 : decode cX8_step 59 = .ok (.getfield 25, 3) := by decide +kernel
theorem dX8_step_62 : decode cX8_step 62 = .ok (.aload_n 0, 1) := by decide +kernel
theorem dX8_step_63 : decode cX8_step 63 = .ok (.getfield 21, 3) := by decide +kernel
theorem dX8_step_66 : decode cX8_step 66 = .ok (.if_icmp .lt 11, 3) := by decide +kernel
theorem dX8_step_69 : decode cX8_step 69 = .ok (.aload_n 0, 1) := by decide +kernel
theorem dX8_step_70 : decode cX8_step 70 = .ok (.iconst 0, 1) := by decide +kernel
theorem dX8_step_71 : decode cX8_step 71 = .ok (.putfield 45, 3) := by decide +kernel
theorem dX8_step_74 : decode cX8_step 74 = .ok (.goto 192, 3) := by decide +kernel
theorem dX8_step_77 : decode cX8_step 77 = .ok (.aload_n 0, 1) := by decide +kernel
theorem dX8_step_78 : decode cX8_step 78 = .ok (.getfield 42, 3) := by decide +kernel
theorem dX8_step_81 : decode cX8_step 81 = .ok (.invokestatic 48, 3) := by decide +kernel
theorem dX8_step_84 : decode cX8_step 84 = .ok (.ifCond .eq 46, 3) := by decide +kernel
theorem dX8_step_87 : decode cX8_step 87 = .ok (.aload_n 0, 1) := by decide +kernel
theorem dX8_step_88 : decode cX8_step 88 = .ok (.iconst 1, 1) := by decide +kernel
theorem dX8_step_89 : decode cX8_step 89 = .ok (.putfield 45, 3) := by decide +kernel
theorem dX8_step_92 : decode cX8_step 92 = .ok (.aload_n 0, 1) := by decide +kernel
theorem dX8_step_93 : decode cX8_step 93 = .ok (.getfield 25, 3) := by decide +kernel
theorem dX8_step_96 : decode cX8_step 96 = .ok (.aload_n 0, 1) := by decide +kernel
theorem dX8_step_97 : decode cX8_step 97 = .ok (.getfield 21, 3) := by decide +kernel
theorem dX8_step_100 : decode cX8_step 100 = .ok (.if_icmp .ge 166, 3) := by decide +kernel
theorem dX8_step_103 : decode cX8_step 103 = .ok (.aload_n 0, 1) := by decide +kernel
theorem dX8_step_104 : decode cX8_step 104 = .ok (.aload_n 0, 1) := by decide +kernel
theorem dX8_step_105 : decode cX8_step 105 = .ok (.getfield 25, 3) := by decide +kernel
theorem dX8_step_108 : decode cX8_step 108 = .ok (.invokevirtual 31, 3) := by decide +kernel
theorem dX8_step_111 : decode cX8_step 111 = .ok (.invokestatic 48, 3) := by decide +kernel
theorem dX8_step_114 : decode cX8_step 114 = .ok (.ifCond .eq 152, 3) := by decide +kernel
theorem dX8_step_117 : decode cX8_step 117 = .ok (.aload_n 0, 1) := by decide +kernel
theorem dX8_step_118 : decode cX8_step 118 = .ok (.dup, 1) := by decide +kernel
theorem dX8_step_119 : decode cX8_step 119 = .ok (.getfield 25, 3) := by decide +kernel
theorem dX8_step_122 : decode cX8_step 122 = .ok (.iconst 1, 1) := by decide +kernel
theorem dX8_step_123 : decode cX8_step 123 = .ok (.iadd, 1) := by decide +kernel
theorem dX8_step_124 : decode cX8_step 124 = .ok (.putfield 25, 3) := by decide +kernel
theorem dX8_step_127 : decode cX8_step 127 = .ok (.goto (-35), 3) := by decide +kernel
theorem dX8_step_130 : decode cX8_step 130 = .ok (.aload_n 0, 1) := by decide +kernel
theorem dX8_step_131 : decode cX8_step 131 = .ok (.getfield 42, 3) := by decide +kernel
theorem dX8_step_134 : decode cX8_step 134 = .ok (.invokestatic 51, 3) := by decide +kernel
theorem dX8_step_137 : decode cX8_step 137 = .ok (.ifCond .eq 100, 3) := by decide +kernel
theorem dX8_step_140 : decode cX8_step 140 = .ok (.aload_n 0, 1) := by decide +kernel
theorem dX8_step_141 : decode cX8_step 141 = .ok (.iconst 0, 1) := by decide +kernel
theorem dX8_step_142 : decode cX8_step 142 = .ok (.putfield 42, 3) := by decide +kernel
theorem dX8_step_145 : decode cX8_step 145 = .ok (.aload_n 0, 1) := by decide +kernel
theorem dX8_step_146 : decode cX8_step 146 = .ok (.getfield 25, 3) := by decide +kernel
theorem dX8_step_149 : decode cX8_step 149 = .ok (.aload_n 0, 1) := by decide +kernel
theorem dX8_step_150 : decode cX8_step 150 = .ok (.getfield 21, 3) := by decide +kernel
theorem dX8_step_153 : decode cX8_step 153 = .ok (.if_icmp .ge 59, 3) := by decide +kernel
theorem dX8_step_156 : decode cX8_step 156 = .ok (.aload_n 0, 1) := by decide +kernel
theorem dX8_step_157 : decode cX8_step 157 = .ok (.aload_n 0, 1) := by decide +kernel
theorem dX8_step_158 : decode cX8_step 158 = .ok (.getfield 25, 3) := by decide +kernel
theorem dX8_step_161 : decode cX8_step 161 = .ok (.invokevirtual 31, 3) := by decide +kernel
theorem dX8_step_164 : decode cX8_step 164 = .ok (.invokestatic 51, 3) := by decide +kernel
theorem dX8_step_167 : decode cX8_step 167 = .ok (.ifCond .eq 45, 3) := by decide +kernel
theorem dX8_step_170 : decode cX8_step 170 = .ok (.aload_n 0, 1) := by decide +kernel
theorem dX8_step_171 : decode cX8_step 171 = .ok (.aload_n 0, 1) := by decide +kernel
theorem dX8_step_172 : decode cX8_step 172 = .ok (.getfield 42, 3) := by decide +kernel
theorem dX8_step_175 : decode cX8_step 175 = .ok (.bipush 10, 2) := by decide +kernel
theorem dX8_step_177 : decode cX8_step 177 = .ok (.imul, 1) := by decide +kernel
theorem dX8_step_178 : decode cX8_step 178 = .ok (.aload_n 0, 1) := by decide +kernel
theorem dX8_step_179 : decode cX8_step 179 = .ok (.aload_n 0, 1) := by decide +kernel
theorem dX8_step_180 : decode cX8_step 180 = .ok (.getfield 25, 3) := by decide +kernel
theorem dX8_step_183 : decode cX8_step 183 = .ok (.invokevirtual 31, 3) := by decide +kernel
theorem dX8_step_186 : decode cX8_step 186 = .ok (.iadd, 1) := by decide +kernel
theorem dX8_step_187 : decode cX8_step 187 = .ok (.bipush 48, 2) := by decide +kernel
theorem dX8_step_189 : decode cX8_step 189 = .ok (.isub, 1) := by decide +kernel
theorem dX8_step_190 : decode cX8_step 190 = .ok (.sipush 1000, 3) := by decide +kernel
theorem dX8_step_193 : decode cX8_step 193 = .ok (.invokestatic 15, 3) := by decide +kernel
theorem dX8_step_196 : decode cX8_step 196 = .ok (.putfield 42, 3) := by decide +kernel
theorem dX8_step_199 : decode cX8_step 199 = .ok (.aload_n 0, 1) := by decide +kernel
theorem dX8_step_200 : decode cX8_step 200 = .ok (.dup, 1) := by decide +kernel
theorem dX8_step_201 : decode cX8_step 201 = .ok (.getfield 25, 3) := by decide +kernel
theorem dX8_step_204 : decode cX8_step 204 = .ok (.iconst 1, 1) := by decide +kernel
theorem dX8_step_205 : decode cX8_step 205 = .ok (.iadd, 1) := by decide +kernel
theorem dX8_step_206 : decode cX8_step 206 = .ok (.putfield 25, 3) := by decide +kernel
theorem dX8_step_209 : decode cX8_step 209 = .ok (.goto (-64), 3) := by decide +kernel
theorem dX8_step_212 : decode cX8_step 212 = .ok (.aload_n 0, 1) := by decide +kernel
theorem dX8_step_213 : decode cX8_step 213 = .ok (.aload_n 0, 1) := by decide +kernel
theorem dX8_step_214 : decode cX8_step 214 = .ok (.getfield 25, 3) := by decide +kernel
theorem dX8_step_217 : decode cX8_step 217 = .ok (.aload_n 0, 1) := by decide +kernel
theorem dX8_step_218 : decode cX8_step 218 = .ok (.getfield 39, 3) := by decide +kernel
theorem dX8_step_221 : decode cX8_step 221 = .ok (.isub, 1) := by decide +kernel
theorem dX8_step_222 : decode cX8_step 222 = .ok (.iconst 3, 1) := by decide +kernel
theorem dX8_step_223 : decode cX8_step 223 = .ok (.if_icmp .gt 7, 3) := by decide +kernel
theorem dX8_step_226 : decode cX8_step 226 = .ok (.iconst 2, 1) := by decide +kernel
theorem dX8_step_227 : decode cX8_step 227 = .ok (.goto 4, 3) := by decide +kernel
theorem dX8_step_230 : decode cX8_step 230 = .ok (.iconst 4, 1) := by decide +kernel
theorem dX8_step_231 : decode cX8_step 231 = .ok (.putfield 45, 3) := by decide +kernel
theorem dX8_step_234 : decode cX8_step 234 = .ok (.goto 32, 3) := by decide +kernel
theorem dX8_step_237 : decode cX8_step 237 = .ok (.aload_n 0, 1) := by decide +kernel
theorem dX8_step_238 : decode cX8_step 238 = .ok (.aload_n 0, 1) := by decide +kernel
theorem dX8_step_239 : decode cX8_step 239 = .ok (.getfield 42, 3) := by decide +kernel
theorem dX8_step_242 : decode cX8_step 242 = .ok (.invokestatic 54, 3) := by decide +kernel
theorem dX8_step_245 : decode cX8_step 245 = .ok (.ifCond .eq 7, 3) := by decide +kernel
theorem dX8_step_248 : decode cX8_step 248 = .ok (.iconst 3, 1) := by decide +kernel
theorem dX8_step_249 : decode cX8_step 249 = .ok (.goto 4, 3) := by decide +kernel
theorem dX8_step_252 : decode cX8_step 252 = .ok (.iconst 4, 1) := by decide +kernel
theorem dX8_step_253 : decode cX8_step 253 = .ok (.putfield 45, 3) := by decide +kernel
theorem dX8_step_256 : decode cX8_step 256 = .ok (.aload_n 0, 1) := by decide +kernel
theorem dX8_step_257 : decode cX8_step 257 = .ok (.dup, 1) := by decide +kernel
theorem dX8_step_258 : decode cX8_step 258 = .ok (.getfield 25, 3) := by decide +kernel
theorem dX8_step_261 : decode cX8_step 261 = .ok (.iconst 1, 1) := by decide +kernel
theorem dX8_step_262 : decode cX8_step 262 = .ok (.iadd, 1) := by decide +kernel
theorem dX8_step_263 : decode cX8_step 263 = .ok (.putfield 25, 3) := by decide +kernel
theorem dX8_step_266 : decode cX8_step 266 = .ok (.return_, 1) := by decide +kernel
theorem dX8_isWord_0 : decode cX8_isWord 0 = .ok (.aload_n 0, 1) := by decide +kernel
theorem dX8_isWord_1 : decode cX8_isWord 1 = .ok (.getfield 45, 3) := by decide +kernel
theorem dX8_isWord_4 : decode cX8_isWord 4 = .ok (.iconst 1, 1) := by decide +kernel
theorem dX8_isWord_5 : decode cX8_isWord 5 = .ok (.if_icmp .ne 19, 3) := by decide +kernel
theorem dX8_isWord_8 : decode cX8_isWord 8 = .ok (.aload_n 0, 1) := by decide +kernel
theorem dX8_isWord_9 : decode cX8_isWord 9 = .ok (.getfield 25, 3) := by decide +kernel
theorem dX8_isWord_12 : decode cX8_isWord 12 = .ok (.aload_n 0, 1) := by decide +kernel
theorem dX8_isWord_13 : decode cX8_isWord 13 = .ok (.getfield 39, 3) := by decide +kernel
theorem dX8_isWord_16 : decode cX8_isWord 16 = .ok (.isub, 1) := by decide +kernel
theorem dX8_isWord_17 : decode cX8_isWord 17 = .ok (.aload_n 1, 1) := by decide +kernel
theorem dX8_isWord_18 : decode cX8_isWord 18 = .ok (.invokevirtual 57, 3) := by decide +kernel
theorem dX8_isWord_21 : decode cX8_isWord 21 = .ok (.if_icmp .eq 5, 3) := by decide +kernel
theorem dX8_isWord_24 : decode cX8_isWord 24 = .ok (.iconst 0, 1) := by decide +kernel
theorem dX8_isWord_25 : decode cX8_isWord 25 = .ok (.ireturn, 1) := by decide +kernel
theorem dX8_isWord_26 : decode cX8_isWord 26 = .ok (.iconst 0, 1) := by decide +kernel
theorem dX8_isWord_27 : decode cX8_isWord 27 = .ok (.istore_n 2, 1) := by decide +kernel
theorem dX8_isWord_28 : decode cX8_isWord 28 = .ok (.iload_n 2, 1) := by decide +kernel
theorem dX8_isWord_29 : decode cX8_isWord 29 = .ok (.aload_n 1, 1) := by decide +kernel
theorem dX8_isWord_30 : decode cX8_isWord 30 = .ok (.invokevirtual 57, 3) := by decide +kernel
theorem dX8_isWord_33 : decode cX8_isWord 33 = .ok (.if_icmp .ge 29, 3) := by decide +kernel
theorem dX8_isWord_36 : decode cX8_isWord 36 = .ok (.aload_n 0, 1) := by decide +kernel
theorem dX8_isWord_37 : decode cX8_isWord 37 = .ok (.aload_n 0, 1) := by decide +kernel
theorem dX8_isWord_38 : decode cX8_isWord 38 = .ok (.getfield 39, 3) := by decide +kernel
theorem dX8_isWord_41 : decode cX8_isWord 41 = .ok (.iload_n 2, 1) := by decide +kernel
theorem dX8_isWord_42 : decode cX8_isWord 42 = .ok (.iadd, 1) := by decide +kernel
theorem dX8_isWord_43 : decode cX8_isWord 43 = .ok (.invokevirtual 31, 3) := by decide +kernel
theorem dX8_isWord_46 : decode cX8_isWord 46 = .ok (.aload_n 1, 1) := by decide +kernel
theorem dX8_isWord_47 : decode cX8_isWord 47 = .ok (.iload_n 2, 1) := by decide +kernel
theorem dX8_isWord_48 : decode cX8_isWord 48 = .ok (.invokevirtual 62, 3) := by decide +kernel
theorem dX8_isWord_51 : decode cX8_isWord 51 = .ok (.if_icmp .eq 5, 3) := by decide +kernel
theorem dX8_isWord_54 : decode cX8_isWord 54 = .ok (.iconst 0, 1) := by decide +kernel
theorem dX8_isWord_55 : decode cX8_isWord 55 = .ok (.ireturn, 1) := by decide +kernel
theorem dX8_isWord_56 : decode cX8_isWord 56 = .ok (.iinc 2 1, 3) := by decide +kernel
theorem dX8_isWord_59 : decode cX8_isWord 59 = .ok (.goto (-31), 3) := by decide +kernel
theorem dX8_isWord_62 : decode cX8_isWord 62 = .ok (.iconst 1, 1) := by decide +kernel
theorem dX8_isWord_63 : decode cX8_isWord 63 = .ok (.ireturn, 1) := by decide +kernel
theorem dX8_isSignOf_0 : decode cX8_isSignOf 0 = .ok (.aload_n 0, 1) := by decide +kernel
theorem dX8_isSignOf_1 : decode cX8_isSignOf 1 = .ok (.getfield 45, 3) := by decide +kernel
theorem dX8_isSignOf_4 : decode cX8_isSignOf 4 = .ok (.iconst 3, 1) := by decide +kernel
theorem dX8_isSignOf_5 : decode cX8_isSignOf 5 = .ok (.if_icmp .ne 15, 3) := by decide +kernel
theorem dX8_isSignOf_8 : decode cX8_isSignOf 8 = .ok (.aload_n 0, 1) := by decide +kernel
theorem dX8_isSignOf_9 : decode cX8_isSignOf 9 = .ok (.getfield 42, 3) := by decide +kernel
theorem dX8_isSignOf_12 : decode cX8_isSignOf 12 = .ok (.iload_n 1, 1) := by decide +kernel
theorem dX8_isSignOf_13 : decode cX8_isSignOf 13 = .ok (.if_icmp .ne 7, 3) := by decide +kernel
theorem dX8_isSignOf_16 : decode cX8_isSignOf 16 = .ok (.iconst 1, 1) := by decide +kernel
theorem dX8_isSignOf_17 : decode cX8_isSignOf 17 = .ok (.goto 4, 3) := by decide +kernel
theorem dX8_isSignOf_20 : decode cX8_isSignOf 20 = .ok (.iconst 0, 1) := by decide +kernel
theorem dX8_isSignOf_21 : decode cX8_isSignOf 21 = .ok (.ireturn, 1) := by decide +kernel
theorem dX8_signAt_0 : decode cX8_signAt 0 = .ok (.iload_n 1, 1) := by decide +kernel
theorem dX8_signAt_1 : decode cX8_signAt 1 = .ok (.ifCond .lt 24, 3) := by decide +kernel
theorem dX8_signAt_4 : decode cX8_signAt 4 = .ok (.iload_n 1, 1) := by decide +kernel
theorem dX8_signAt_5 : decode cX8_signAt 5 = .ok (.aload_n 0, 1) := by decide +kernel
theorem dX8_signAt_6 : decode cX8_signAt 6 = .ok (.getfield 21, 3) := by decide +kernel
theorem dX8_signAt_9 : decode cX8_signAt 9 = .ok (.if_icmp .ge 16, 3) := by decide +kernel
theorem dX8_signAt_12 : decode cX8_signAt 12 = .ok (.aload_n 0, 1) := by decide +kernel
theorem dX8_signAt_13 : decode cX8_signAt 13 = .ok (.getfield 9, 3) := by decide +kernel
theorem dX8_signAt_16 : decode cX8_signAt 16 = .ok (.iload_n 1, 1) := by decide +kernel
theorem dX8_signAt_17 : decode cX8_signAt 17 = .ok (.baload, 1) := by decide +kernel
theorem dX8_signAt_18 : decode cX8_signAt 18 = .ok (.sipush 255, 3) := by decide +kernel
theorem dX8_signAt_21 : decode cX8_signAt 21 = .ok (.iand, 1) := by decide +kernel
theorem dX8_signAt_22 : decode cX8_signAt 22 = .ok (.goto 4, 3) := by decide +kernel
theorem dX8_signAt_25 : decode cX8_signAt 25 = .ok (.iconst (-1), 1) := by decide +kernel
theorem dX8_signAt_26 : decode cX8_signAt 26 = .ok (.ireturn, 1) := by decide +kernel
theorem dX8_isBlank_0 : decode cX8_isBlank 0 = .ok (.iload_n 0, 1) := by decide +kernel
theorem dX8_isBlank_1 : decode cX8_isBlank 1 = .ok (.bipush 10, 2) := by decide +kernel
theorem dX8_isBlank_3 : decode cX8_isBlank 3 = .ok (.if_icmp .eq 9, 3) := by decide +kernel
theorem dX8_isBlank_6 : decode cX8_isBlank 6 = .ok (.iload_n 0, 1) := by decide +kernel
theorem dX8_isBlank_7 : decode cX8_isBlank 7 = .ok (.bipush 32, 2) := by decide +kernel
theorem dX8_isBlank_9 : decode cX8_isBlank 9 = .ok (.if_icmp .ne 7, 3) := by decide +kernel
theorem dX8_isBlank_12 : decode cX8_isBlank 12 = .ok (.iconst 1, 1) := by decide +kernel
theorem dX8_isBlank_13 : decode cX8_isBlank 13 = .ok (.goto 4, 3) := by decide +kernel
theorem dX8_isBlank_16 : decode cX8_isBlank 16 = .ok (.iconst 0, 1) := by decide +kernel
theorem dX8_isBlank_17 : decode cX8_isBlank 17 = .ok (.ireturn, 1) := by decide +kernel
theorem dX8_isLetter_0 : decode cX8_isLetter 0 = .ok (.iload_n 0, 1) := by decide +kernel
theorem dX8_isLetter_1 : decode cX8_isLetter 1 = .ok (.bipush 97, 2) := by decide +kernel
theorem dX8_isLetter_3 : decode cX8_isLetter 3 = .ok (.if_icmp .lt 13, 3) := by decide +kernel
theorem dX8_isLetter_6 : decode cX8_isLetter 6 = .ok (.iload_n 0, 1) := by decide +kernel
theorem dX8_isLetter_7 : decode cX8_isLetter 7 = .ok (.bipush 122, 2) := by decide +kernel
theorem dX8_isLetter_9 : decode cX8_isLetter 9 = .ok (.if_icmp .gt 7, 3) := by decide +kernel
theorem dX8_isLetter_12 : decode cX8_isLetter 12 = .ok (.iconst 1, 1) := by decide +kernel
theorem dX8_isLetter_13 : decode cX8_isLetter 13 = .ok (.goto 4, 3) := by decide +kernel
theorem dX8_isLetter_16 : decode cX8_isLetter 16 = .ok (.iconst 0, 1) := by decide +kernel
theorem dX8_isLetter_17 : decode cX8_isLetter 17 = .ok (.ireturn, 1) := by decide +kernel
theorem dX8_isDigit_0 : decode cX8_isDigit 0 = .ok (.iload_n 0, 1) := by decide +kernel
theorem dX8_isDigit_1 : decode cX8_isDigit 1 = .ok (.bipush 48, 2) := by decide +kernel
theorem dX8_isDigit_3 : decode cX8_isDigit 3 = .ok (.if_icmp .lt 13, 3) := by decide +kernel
theorem dX8_isDigit_6 : decode cX8_isDigit 6 = .ok (.iload_n 0, 1) := by decide +kernel
theorem dX8_isDigit_7 : decode cX8_isDigit 7 = .ok (.bipush 57, 2) := by decide +kernel
theorem dX8_isDigit_9 : decode cX8_isDigit 9 = .ok (.if_icmp .gt 7, 3) := by decide +kernel
theorem dX8_isDigit_12 : decode cX8_isDigit 12 = .ok (.iconst 1, 1) := by decide +kernel
theorem dX8_isDigit_13 : decode cX8_isDigit 13 = .ok (.goto 4, 3) := by decide +kernel
theorem dX8_isDigit_16 : decode cX8_isDigit 16 = .ok (.iconst 0, 1) := by decide +kernel
theorem dX8_isDigit_17 : decode cX8_isDigit 17 = .ok (.ireturn, 1) := by decide +kernel
theorem dX8_isSign_0 : decode cX8_isSign 0 = .ok (.iload_n 0, 1) := by decide +kernel
theorem dX8_isSign_1 : decode cX8_isSign 1 = .ok (.lookupswitch 109 #[(40, 107), (41, 107), (42, 107), (43, 107), (45, 107), (58, 107), (59, 107), (60, 107), (61, 107), (62, 107), (91, 107), (93, 107)], 107) := by decide +kernel
theorem dX8_isSign_108 : decode cX8_isSign 108 = .ok (.iconst 1, 1) := by decide +kernel
theorem dX8_isSign_109 : decode cX8_isSign 109 = .ok (.ireturn, 1) := by decide +kernel
theorem dX8_isSign_110 : decode cX8_isSign 110 = .ok (.iconst 0, 1) := by decide +kernel
theorem dX8_isSign_111 : decode cX8_isSign 111 = .ok (.ireturn, 1) := by decide +kernel
theorem dX9_init_0 : decode cX9_init 0 = .ok (.aload_n 0, 1) := by decide +kernel
theorem dX9_init_1 : decode cX9_init 1 = .ok (.invokespecial 3, 3) := by decide +kernel
theorem dX9_init_4 : decode cX9_init 4 = .ok (.aload_n 0, 1) := by decide +kernel
theorem dX9_init_5 : decode cX9_init 5 = .ok (.iconst (-1), 1) := by decide +kernel
theorem dX9_init_6 : decode cX9_init 6 = .ok (.putfield 9, 3) := by decide +kernel
theorem dX9_init_9 : decode cX9_init 9 = .ok (.aload_n 0, 1) := by decide +kernel
theorem dX9_init_10 : decode cX9_init 10 = .ok (.bipush 30, 2) := by decide +kernel
theorem dX9_init_12 : decode cX9_init 12 = .ok (.newarray .long, 2) := by decide +kernel
theorem dX9_init_14 : decode cX9_init 14 = .ok (.putfield 15, 3) := by decide +kernel
theorem dX9_init_17 : decode cX9_init 17 = .ok (.return_, 1) := by decide +kernel
theorem dX9_clearTo_0 : decode cX9_clearTo 0 = .ok (.aload_n 0, 1) := by decide +kernel
theorem dX9_clearTo_1 : decode cX9_clearTo 1 = .ok (.iload_n 1, 1) := by decide +kernel
theorem dX9_clearTo_2 : decode cX9_clearTo 2 = .ok (.putfield 19, 3) := by decide +kernel
theorem dX9_clearTo_5 : decode cX9_clearTo 5 = .ok (.aload_n 0, 1) := by decide +kernel
theorem dX9_clearTo_6 : decode cX9_clearTo 6 = .ok (.iload_n 2, 1) := by decide +kernel
theorem dX9_clearTo_7 : decode cX9_clearTo 7 = .ok (.putfield 9, 3) := by decide +kernel
theorem dX9_clearTo_10 : decode cX9_clearTo 10 = .ok (.aload_n 0, 1) := by decide +kernel
theorem dX9_clearTo_11 : decode cX9_clearTo 11 = .ok (.getfield 15, 3) := by decide +kernel
theorem dX9_clearTo_14 : decode cX9_clearTo 14 = .ok (.lconst 0, 1) := by decide +kernel
theorem dX9_clearTo_15 : decode cX9_clearTo 15 = .ok (.invokestatic 22, 3) := by decide +kernel
theorem dX9_clearTo_18 : decode cX9_clearTo 18 = .ok (.return_, 1) := by decide +kernel
theorem dX9_get_0 : decode cX9_get 0 = .ok (.iload_n 1, 1) := by decide +kernel
theorem dX9_get_1 : decode cX9_get 1 = .ok (.ifCond .lt 18, 3) := by decide +kernel
theorem dX9_get_4 : decode cX9_get 4 = .ok (.iload_n 1, 1) := by decide +kernel
theorem dX9_get_5 : decode cX9_get 5 = .ok (.bipush 30, 2) := by decide +kernel
theorem dX9_get_7 : decode cX9_get 7 = .ok (.if_icmp .ge 12, 3) := by decide +kernel
theorem dX9_get_10 : decode cX9_get 10 = .ok (.aload_n 0, 1) := by decide +kernel
theorem dX9_get_11 : decode cX9_get 11 = .ok (.getfield 15, 3) := by decide +kernel
theorem dX9_get_14 : decode cX9_get 14 = .ok (.iload_n 1, 1) := by decide +kernel
theorem dX9_get_15 : decode cX9_get 15 = .ok (.laload, 1) := by decide +kernel
theorem dX9_get_16 : decode cX9_get 16 = .ok (.goto 4, 3) := by decide +kernel
theorem dX9_get_19 : decode cX9_get 19 = .ok (.lconst 0, 1) := by decide +kernel
theorem dX9_get_20 : decode cX9_get 20 = .ok (.lreturn, 1) := by decide +kernel
theorem dX9_put_0 : decode cX9_put 0 = .ok (.aload_n 0, 1) := by decide +kernel
theorem dX9_put_1 : decode cX9_put 1 = .ok (.lload_n 2, 1) := by decide +kernel
theorem dX9_put_2 : decode cX9_put 2 = .ok (.invokevirtual 28, 3) := by decide +kernel
theorem dX9_put_5 : decode cX9_put 5 = .ok (.lstore 4, 2) := by decide +kernel
theorem dX9_put_7 : decode cX9_put 7 = .ok (.iload_n 1, 1) := by decide +kernel
theorem dX9_put_8 : decode cX9_put 8 = .ok (.ifCond .lt 17, 3) := by decide +kernel
theorem dX9_put_11 : decode cX9_put 11 = .ok (.iload_n 1, 1) := by decide +kernel
theorem dX9_put_12 : decode cX9_put 12 = .ok (.bipush 30, 2) := by decide +kernel
theorem dX9_put_14 : decode cX9_put 14 = .ok (.if_icmp .ge 11, 3) := by decide +kernel
theorem dX9_put_17 : decode cX9_put 17 = .ok (.aload_n 0, 1) := by decide +kernel
theorem dX9_put_18 : decode cX9_put 18 = .ok (.getfield 15, 3) := by decide +kernel
theorem dX9_put_21 : decode cX9_put 21 = .ok (.iload_n 1, 1) := by decide +kernel
theorem dX9_put_22 : decode cX9_put 22 = .ok (.lload 4, 2) := by decide +kernel
theorem dX9_put_24 : decode cX9_put 24 = .ok (.lastore, 1) := by decide +kernel
theorem dX9_put_25 : decode cX9_put 25 = .ok (.lload 4, 2) := by decide +kernel
theorem dX9_put_27 : decode cX9_put 27 = .ok (.lreturn, 1) := by decide +kernel
theorem dX9_cut_0 : decode cX9_cut 0 = .ok (.aload_n 0, 1) := by decide +kernel
theorem dX9_cut_1 : decode cX9_cut 1 = .ok (.getfield 19, 3) := by decide +kernel
theorem dX9_cut_4 : decode cX9_cut 4 = .ok (.tableswitch 42 0 2 #[28, 33, 38], 28) := by decide +kernel
theorem dX9_cut_32 : decode cX9_cut 32 = .ok (.lload_n 1, 1) := by decide +kernel
theorem dX9_cut_33 : decode cX9_cut 33 = .ok (.l2i, 1) := by decide +kernel
theorem dX9_cut_34 : decode cX9_cut 34 = .ok (.i2b, 1) := by decide +kernel
theorem dX9_cut_35 : decode cX9_cut 35 = .ok (.i2l, 1) := by decide +kernel
theorem dX9_cut_36 : decode cX9_cut 36 = .ok (.lreturn, 1) := by decide +kernel
theorem dX9_cut_37 : decode cX9_cut 37 = .ok (.lload_n 1, 1) := by decide +kernel
theorem dX9_cut_38 : decode cX9_cut 38 = .ok (.l2i, 1) := by decide +kernel
theorem dX9_cut_39 : decode cX9_cut 39 = .ok (.i2s, 1) := by decide +kernel
theorem dX9_cut_40 : decode cX9_cut 40 = .ok (.i2l, 1) := by decide +kernel
theorem dX9_cut_41 : decode cX9_cut 41 = .ok (.lreturn, 1) := by decide +kernel
theorem dX9_cut_42 : decode cX9_cut 42 = .ok (.lload_n 1, 1) := by decide +kernel
theorem dX9_cut_43 : decode cX9_cut 43 = .ok (.l2i, 1) := by decide +kernel
theorem dX9_cut_44 : decode cX9_cut 44 = .ok (.i2l, 1) := by decide +kernel
theorem dX9_cut_45 : decode cX9_cut 45 = .ok (.lreturn, 1) := by decide +kernel
theorem dX9_cut_46 : decode cX9_cut 46 = .ok (.lload_n 1, 1) := by decide +kernel
theorem dX9_cut_47 : decode cX9_cut 47 = .ok (.lreturn, 1) := by decide +kernel
theorem dX9_tellsLook_0 : decode cX9_tellsLook 0 = .ok (.aload_n 0, 1) := by decide +kernel
theorem dX9_tellsLook_1 : decode cX9_tellsLook 1 = .ok (.getfield 9, 3) := by decide +kernel
theorem dX9_tellsLook_4 : decode cX9_tellsLook 4 = .ok (.iload_n 1, 1) := by decide +kernel
theorem dX9_tellsLook_5 : decode cX9_tellsLook 5 = .ok (.if_icmp .eq 5, 3) := by decide +kernel
theorem dX9_tellsLook_8 : decode cX9_tellsLook 8 = .ok (.iconst 0, 1) := by decide +kernel
theorem dX9_tellsLook_9 : decode cX9_tellsLook 9 = .ok (.ireturn, 1) := by decide +kernel
theorem dX9_tellsLook_10 : decode cX9_tellsLook 10 = .ok (.iconst 0, 1) := by decide +kernel
theorem dX9_tellsLook_11 : decode cX9_tellsLook 11 = .ok (.istore_n 2, 1) := by decide +kernel
theorem dX9_tellsLook_12 : decode cX9_tellsLook 12 = .ok (.iload_n 2, 1) := by decide +kernel
theorem dX9_tellsLook_13 : decode cX9_tellsLook 13 = .ok (.iload_n 1, 1) := by decide +kernel
theorem dX9_tellsLook_14 : decode cX9_tellsLook 14 = .ok (.if_icmp .ge 34, 3) := by decide +kernel
theorem dX9_tellsLook_17 : decode cX9_tellsLook 17 = .ok (.aload_n 0, 1) := by decide +kernel
theorem dX9_tellsLook_18 : decode cX9_tellsLook 18 = .ok (.iload_n 2, 1) := by decide +kernel
theorem dX9_tellsLook_19 : decode cX9_tellsLook 19 = .ok (.invokevirtual 32, 3) := by decide +kernel
theorem dX9_tellsLook_22 : decode cX9_tellsLook 22 = .ok (.ldc2_w 36, 3) := by decide +kernel
theorem dX9_tellsLook_25 : decode cX9_tellsLook 25 = .ok (.lcmp, 1) := by decide +kernel
theorem dX9_tellsLook_26 : decode cX9_tellsLook 26 = .ok (.ifCond .lt 14, 3) := by decide +kernel
theorem dX9_tellsLook_29 : decode cX9_tellsLook 29 = .ok (.aload_n 0, 1) := by decide +kernel
theorem dX9_tellsLook_30 : decode cX9_tellsLook 30 = .ok (.iload_n 2, 1) := by decide +kernel
theorem dX9_tellsLook_31 : decode cX9_tellsLook 31 = .ok (.invokevirtual 32, 3) := by decide +kernel
theorem dX9_tellsLook_34 : decode cX9_tellsLook 34 = .ok (.iload_n 1, 1) := by decide +kernel
theorem dX9_tellsLook_35 : decode cX9_tellsLook 35 = .ok (.i2l, 1) := by decide +kernel
theorem dX9_tellsLook_36 : decode cX9_tellsLook 36 = .ok (.lcmp, 1) := by decide +kernel
theorem dX9_tellsLook_37 : decode cX9_tellsLook 37 = .ok (.ifCond .lt 5, 3) := by decide +kernel
theorem dX9_tellsLook_40 : decode cX9_tellsLook 40 = .ok (.iconst 0, 1) := by decide +kernel
theorem dX9_tellsLook_41 : decode cX9_tellsLook 41 = .ok (.ireturn, 1) := by decide +kernel
theorem dX9_tellsLook_42 : decode cX9_tellsLook 42 = .ok (.iinc 2 1, 3) := by decide +kernel
theorem dX9_tellsLook_45 : decode cX9_tellsLook 45 = .ok (.goto (-33), 3) := by decide +kernel
theorem dX9_tellsLook_48 : decode cX9_tellsLook 48 = .ok (.iconst 1, 1) := by decide +kernel
theorem dX9_tellsLook_49 : decode cX9_tellsLook 49 = .ok (.ireturn, 1) := by decide +kernel
theorem dX9_maskOf_0 : decode cX9_maskOf 0 = .ok (.iconst 0, 1) := by decide +kernel
theorem dX9_maskOf_1 : decode cX9_maskOf 1 = .ok (.istore_n 2, 1) := by decide +kernel
theorem dX9_maskOf_2 : decode cX9_maskOf 2 = .ok (.iconst 0, 1) := by decide +kernel
theorem dX9_maskOf_3 : decode cX9_maskOf 3 = .ok (.istore_n 3, 1) := by decide +kernel
theorem dX9_maskOf_4 : decode cX9_maskOf 4 = .ok (.iload_n 3, 1) := by decide +kernel
theorem dX9_maskOf_5 : decode cX9_maskOf 5 = .ok (.iload_n 1, 1) := by decide +kernel
theorem dX9_maskOf_6 : decode cX9_maskOf 6 = .ok (.if_icmp .ge 29, 3) := by decide +kernel
theorem dX9_maskOf_9 : decode cX9_maskOf 9 = .ok (.aload_n 0, 1) := by decide +kernel
theorem dX9_maskOf_10 : decode cX9_maskOf 10 = .ok (.iload_n 3, 1) := by decide +kernel
theorem dX9_maskOf_11 : decode cX9_maskOf 11 = .ok (.invokevirtual 32, 3) := by decide +kernel
theorem dX9_maskOf_14 : decode cX9_maskOf 14 = .ok (.ldc2_w 36, 3) := by decide +kernel
theorem dX9_maskOf_17 : decode cX9_maskOf 17 = .ok (.lcmp, 1) := by decide +kernel
theorem dX9_maskOf_18 : decode cX9_maskOf 18 = .ok (.ifCond .eq 11, 3) := by decide +kernel
theorem dX9_maskOf_21 : decode cX9_maskOf 21 = .ok (.iload_n 2, 1) := by decide +kernel
theorem dX9_maskOf_22 : decode cX9_maskOf 22 = .ok (.iload_n 3, 1) := by decide +kernel
theorem dX9_maskOf_23 : decode cX9_maskOf 23 = .ok (.bipush 15, 2) := by decide +kernel
theorem dX9_maskOf_25 : decode cX9_maskOf 25 = .ok (.invokestatic 38, 3) := by decide +kernel
theorem dX9_maskOf_28 : decode cX9_maskOf 28 = .ok (.istore_n 2, 1) := by decide +kernel
theorem dX9_maskOf_29 : decode cX9_maskOf 29 = .ok (.iinc 3 1, 3) := by decide +kernel
theorem dX9_maskOf_32 : decode cX9_maskOf 32 = .ok (.goto (-28), 3) := by decide +kernel
theorem dX9_maskOf_35 : decode cX9_maskOf 35 = .ok (.iload_n 2, 1) := by decide +kernel
theorem dX9_maskOf_36 : decode cX9_maskOf 36 = .ok (.ireturn, 1) := by decide +kernel
theorem dX9_aimsOf_0 : decode cX9_aimsOf 0 = .ok (.iconst 0, 1) := by decide +kernel
theorem dX9_aimsOf_1 : decode cX9_aimsOf 1 = .ok (.istore_n 2, 1) := by decide +kernel
theorem dX9_aimsOf_2 : decode cX9_aimsOf 2 = .ok (.iconst 0, 1) := by decide +kernel
theorem dX9_aimsOf_3 : decode cX9_aimsOf 3 = .ok (.istore_n 3, 1) := by decide +kernel
theorem dX9_aimsOf_4 : decode cX9_aimsOf 4 = .ok (.iload_n 3, 1) := by decide +kernel
theorem dX9_aimsOf_5 : decode cX9_aimsOf 5 = .ok (.iload_n 1, 1) := by decide +kernel
theorem dX9_aimsOf_6 : decode cX9_aimsOf 6 = .ok (.if_icmp .ge 33, 3) := by decide +kernel
theorem dX9_aimsOf_9 : decode cX9_aimsOf 9 = .ok (.aload_n 0, 1) := by decide +kernel
theorem dX9_aimsOf_10 : decode cX9_aimsOf 10 = .ok (.iload_n 3, 1) := by decide +kernel
theorem dX9_aimsOf_11 : decode cX9_aimsOf 11 = .ok (.invokevirtual 32, 3) := by decide +kernel
theorem dX9_aimsOf_14 : decode cX9_aimsOf 14 = .ok (.ldc2_w 36, 3) := by decide +kernel
theorem dX9_aimsOf_17 : decode cX9_aimsOf 17 = .ok (.lcmp, 1) := by decide +kernel
theorem dX9_aimsOf_18 : decode cX9_aimsOf 18 = .ok (.ifCond .eq 15, 3) := by decide +kernel
theorem dX9_aimsOf_21 : decode cX9_aimsOf 21 = .ok (.iload_n 2, 1) := by decide +kernel
theorem dX9_aimsOf_22 : decode cX9_aimsOf 22 = .ok (.iload_n 3, 1) := by decide +kernel
theorem dX9_aimsOf_23 : decode cX9_aimsOf 23 = .ok (.aload_n 0, 1) := by decide +kernel
theorem dX9_aimsOf_24 : decode cX9_aimsOf 24 = .ok (.iload_n 3, 1) := by decide +kernel
theorem dX9_aimsOf_25 : decode cX9_aimsOf 25 = .ok (.invokevirtual 32, 3) := by decide +kernel
theorem dX9_aimsOf_28 : decode cX9_aimsOf 28 = .ok (.l2i, 1) := by decide +kernel
theorem dX9_aimsOf_29 : decode cX9_aimsOf 29 = .ok (.invokestatic 38, 3) := by decide +kernel
theorem dX9_aimsOf_32 : decode cX9_aimsOf 32 = .ok (.istore_n 2, 1) := by decide +kernel
theorem dX9_aimsOf_33 : decode cX9_aimsOf 33 = .ok (.iinc 3 1, 3) := by decide +kernel
theorem dX9_aimsOf_36 : decode cX9_aimsOf 36 = .ok (.goto (-32), 3) := by decide +kernel
theorem dX9_aimsOf_39 : decode cX9_aimsOf 39 = .ok (.iload_n 2, 1) := by decide +kernel
theorem dX9_aimsOf_40 : decode cX9_aimsOf 40 = .ok (.ireturn, 1) := by decide +kernel
theorem dX10_init_0 : decode cX10_init 0 = .ok (.aload_n 0, 1) := by decide +kernel
theorem dX10_init_1 : decode cX10_init 1 = .ok (.invokespecial 3, 3) := by decide +kernel
theorem dX10_init_4 : decode cX10_init 4 = .ok (.aload_n 0, 1) := by decide +kernel
theorem dX10_init_5 : decode cX10_init 5 = .ok (.bipush 6, 2) := by decide +kernel
theorem dX10_init_7 : decode cX10_init 7 = .ok (.newarray .int, 2) := by decide +kernel
theorem dX10_init_9 : decode cX10_init 9 = .ok (.putfield 9, 3) := by decide +kernel
theorem dX10_init_12 : decode cX10_init 12 = .ok (.aload_n 0, 1) := by decide +kernel
theorem dX10_init_13 : decode cX10_init 13 = .ok (.bipush 6, 2) := by decide +kernel
theorem dX10_init_15 : decode cX10_init 15 = .ok (.newarray .int, 2) := by decide +kernel
theorem dX10_init_17 : decode cX10_init 17 = .ok (.putfield 15, 3) := by decide +kernel
theorem dX10_init_20 : decode cX10_init 20 = .ok (.aload_n 0, 1) := by decide +kernel
theorem dX10_init_21 : decode cX10_init 21 = .ok (.bipush 6, 2) := by decide +kernel
theorem dX10_init_23 : decode cX10_init 23 = .ok (.newarray .int, 2) := by decide +kernel
theorem dX10_init_25 : decode cX10_init 25 = .ok (.putfield 18, 3) := by decide +kernel
theorem dX10_init_28 : decode cX10_init 28 = .ok (.aload_n 0, 1) := by decide +kernel
theorem dX10_init_29 : decode cX10_init 29 = .ok (.bipush 6, 2) := by decide +kernel
theorem dX10_init_31 : decode cX10_init 31 = .ok (.newarray .int, 2) := by decide +kernel
theorem dX10_init_33 : decode cX10_init 33 = .ok (.putfield 21, 3) := by decide +kernel
theorem dX10_init_36 : decode cX10_init 36 = .ok (.aload_n 0, 1) := by decide +kernel
theorem dX10_init_37 : decode cX10_init 37 = .ok (.aload_n 1, 1) := by decide +kernel
theorem dX10_init_38 : decode cX10_init 38 = .ok (.putfield 24, 3) := by decide +kernel
theorem dX10_init_41 : decode cX10_init 41 = .ok (.aload_n 0, 1) := by decide +kernel
theorem dX10_init_42 : decode cX10_init 42 = .ok (.iconst (-1), 1) := by decide +kernel
theorem dX10_init_43 : decode cX10_init 43 = .ok (.putfield 28, 3) := by decide +kernel
theorem dX10_init_46 : decode cX10_init 46 = .ok (.return_, 1) := by decide +kernel
theorem dX10_begin_0 : decode cX10_begin 0 = .ok (.aload_n 0, 1) := by decide +kernel
theorem dX10_begin_1 : decode cX10_begin 1 = .ok (.invokevirtual 32, 3) := by decide +kernel
theorem dX10_begin_4 : decode cX10_begin 4 = .ok (.aload_n 0, 1) := by decide +kernel
theorem dX10_begin_5 : decode cX10_begin 5 = .ok (.aload_n 0, 1) := by decide +kernel
theorem dX10_begin_6 : decode cX10_begin 6 = .ok (.getfield 24, 3) := by decide +kernel
theorem dX10_begin_9 : decode cX10_begin 9 = .ok (.getfield 35, 3) := by decide +kernel
theorem dX10_begin_12 : decode cX10_begin 12 = .ok (.putfield 40, 3) := by decide +kernel
theorem dX10_begin_15 : decode cX10_begin 15 = .ok (.aload_n 0, 1) := by decide +kernel
theorem dX10_begin_16 : decode cX10_begin 16 = .ok (.iconst 0, 1) := by decide +kernel
theorem dX10_begin_17 : decode cX10_begin 17 = .ok (.putfield 41, 3) := by decide +kernel
theorem dX10_begin_20 : decode cX10_begin 20 = .ok (.aload_n 0, 1) := by decide +kernel
theorem dX10_begin_21 : decode cX10_begin 21 = .ok (.iconst 1, 1) := by decide +kernel
theorem dX10_begin_22 : decode cX10_begin 22 = .ok (.putfield 44, 3) := by decide +kernel
theorem dX10_begin_25 : decode cX10_begin 25 = .ok (.iconst 0, 1) := by decide +kernel
theorem dX10_begin_26 : decode cX10_begin 26 = .ok (.istore_n 2, 1) := by decide +kernel
theorem dX10_begin_27 : decode cX10_begin 27 = .ok (.iload_n 2, 1) := by decide +kernel
theorem dX10_begin_28 : decode cX10_begin 28 = .ok (.aload_n 0, 1) := by decide +kernel
theorem dX10_begin_29 : decode cX10_begin 29 = .ok (.getfield 40, 3) := by decide +kernel
theorem dX10_begin_32 : decode cX10_begin 32 = .ok (.if_icmp .ge 69, 3) := by decide +kernel
theorem dX10_begin_35 : decode cX10_begin 35 = .ok (.iload_n 1, 1) := by decide +kernel
theorem dX10_begin_36 : decode cX10_begin 36 = .ok (.iload_n 2, 1) := by decide +kernel
theorem dX10_begin_37 : decode cX10_begin 37 = .ok (.ishr, 1) := by decide +kernel
theorem dX10_begin_38 : decode cX10_begin 38 = .ok (.iconst 1, 1) := by decide +kernel
theorem dX10_begin_39 : decode cX10_begin 39 = .ok (.iand, 1) := by decide +kernel
theorem dX10_begin_40 : decode cX10_begin 40 = .ok (.ifCond .ne 55, 3) := by decide +kernel
theorem dX10_begin_43 : decode cX10_begin 43 = .ok (.aload_n 0, 1) := by decide +kernel
theorem dX10_begin_44 : decode cX10_begin 44 = .ok (.getfield 18, 3) := by decide +kernel
theorem dX10_begin_47 : decode cX10_begin 47 = .ok (.aload_n 0, 1) := by decide +kernel
theorem dX10_begin_48 : decode cX10_begin 48 = .ok (.getfield 41, 3) := by decide +kernel
theorem dX10_begin_51 : decode cX10_begin 51 = .ok (.iload_n 2, 1) := by decide +kernel
theorem dX10_begin_52 : decode cX10_begin 52 = .ok (.iastore, 1) := by decide +kernel
theorem dX10_begin_53 : decode cX10_begin 53 = .ok (.aload_n 0, 1) := by decide +kernel
theorem dX10_begin_54 : decode cX10_begin 54 = .ok (.dup, 1) := by decide +kernel
theorem dX10_begin_55 : decode cX10_begin 55 = .ok (.getfield 41, 3) := by decide +kernel
theorem dX10_begin_58 : decode cX10_begin 58 = .ok (.iconst 1, 1) := by decide +kernel
theorem dX10_begin_59 : decode cX10_begin 59 = .ok (.iadd, 1) := by decide +kernel
theorem dX10_begin_60 : decode cX10_begin 60 = .ok (.putfield 41, 3) := by decide +kernel
theorem dX10_begin_63 : decode cX10_begin 63 = .ok (.aload_n 0, 1) := by decide +kernel
theorem dX10_begin_64 : decode cX10_begin 64 = .ok (.getfield 21, 3) := by decide +kernel
theorem dX10_begin_67 : decode cX10_begin 67 = .ok (.iload_n 2, 1) := by decide +kernel
theorem dX10_begin_68 : decode cX10_begin 68 = .ok (.aload_n 0, 1) := by decide +kernel
theorem dX10_begin_69 : decode cX10_begin 69 = .ok (.getfield 9, 3) := by decide +kernel
theorem dX10_begin_72 : decode cX10_begin 72 = .ok (.iload_n 2, 1) := by decide +kernel
theorem dX10_begin_73 : decode cX10_begin 73 = .ok (.iaload, 1) := by decide +kernel
theorem dX10_begin_74 : decode cX10_begin 74 = .ok (.iload_n 1, 1) := by decide +kernel
theorem dX10_begin_75 : decode cX10_begin 75 = .ok (.iconst (-1), 1) := by decide +kernel
theorem dX10_begin_76 : decode cX10_begin 76 = .ok (.ixor, 1) := by decide +kernel
theorem dX10_begin_77 : decode cX10_begin 77 = .ok (.iand, 1) := by decide +kernel
theorem dX10_begin_78 : decode cX10_begin 78 = .ok (.invokestatic 47, 3) := by decide +kernel
theorem dX10_begin_81 : decode cX10_begin 81 = .ok (.iastore, 1) := by decide +kernel
theorem dX10_begin_82 : decode cX10_begin 82 = .ok (.aload_n 0, 1) := by decide +kernel
theorem dX10_begin_83 : decode cX10_begin 83 = .ok (.dup, 1) := by decide +kernel
theorem dX10_begin_84 : decode cX10_begin 84 = .ok (.getfield 44, 3) := by decide +kernel
theorem dX10_begin_87 : decode cX10_begin 87 = .ok (.aload_n 0, 1) := by decide +kernel
theorem dX10_begin_88 : decode cX10_begin 88 = .ok (.getfield 40, 3) := by decide +kernel
theorem dX10_begin_91 : decode cX10_begin 91 = .ok (.imul, 1) := by decide +kernel
theorem dX10_begin_92 : decode cX10_begin 92 = .ok (.putfield 44, 3) := by decide +kernel
theorem dX10_begin_95 : decode cX10_begin 95 = .ok (.iinc 2 1, 3) := by decide +kernel
theorem dX10_begin_98 : decode cX10_begin 98 = .ok (.goto (-71), 3) := by decide +kernel
theorem dX10_begin_101 : decode cX10_begin 101 = .ok (.aload_n 0, 1) := by decide +kernel
theorem dX10_begin_102 : decode cX10_begin 102 = .ok (.aload_n 0, 1) := by decide +kernel
theorem dX10_begin_103 : decode cX10_begin 103 = .ok (.getfield 24, 3) := by decide +kernel
theorem dX10_begin_106 : decode cX10_begin 106 = .ok (.getfield 53, 3) := by decide +kernel
theorem dX10_begin_109 : decode cX10_begin 109 = .ok (.putfield 56, 3) := by decide +kernel
theorem dX10_begin_112 : decode cX10_begin 112 = .ok (.aload_n 0, 1) := by decide +kernel
theorem dX10_begin_113 : decode cX10_begin 113 = .ok (.iconst 0, 1) := by decide +kernel
theorem dX10_begin_114 : decode cX10_begin 114 = .ok (.putfield 59, 3) := by decide +kernel
theorem dX10_begin_117 : decode cX10_begin 117 = .ok (.aload_n 0, 1) := by decide +kernel
theorem dX10_begin_118 : decode cX10_begin 118 = .ok (.iconst 0, 1) := by decide +kernel
theorem dX10_begin_119 : decode cX10_begin 119 = .ok (.putfield 62, 3) := by decide +kernel
theorem dX10_begin_122 : decode cX10_begin 122 = .ok (.aload_n 0, 1) := by decide +kernel
theorem dX10_begin_123 : decode cX10_begin 123 = .ok (.iconst 0, 1) := by decide +kernel
theorem dX10_begin_124 : decode cX10_begin 124 = .ok (.putfield 65, 3) := by decide +kernel
theorem dX10_begin_127 : decode cX10_begin 127 = .ok (.return_, 1) := by decide +kernel
theorem dX10_advance_0 : decode cX10_advance 0 = .ok (.aload_n 0, 1) := by decide +kernel
theorem dX10_advance_1 : decode cX10_advance 1 = .ok (.getfield 40, 3) := by decide +kernel
theorem dX10_advance_4 : decode cX10_advance 4 = .ok (.iconst 1, 1) := by decide +kernel
theorem dX10_advance_5 : decode cX10_advance 5 = .ok (.isub, 1) := by decide +kernel
theorem dX10_advance_6 : decode cX10_advance 6 = .ok (.istore_n 1, 1) := by decide +kernel
theorem dX10_advance_7 : decode cX10_advance 7 = .ok (.aload_n 0, 1) := by decide +kernel
theorem dX10_advance_8 : decode cX10_advance 8 = .ok (.getfield 41, 3) := by decide +kernel
theorem dX10_advance_11 : decode cX10_advance 11 = .ok (.iconst 1, 1) := by decide +kernel
theorem dX10_advance_12 : decode cX10_advance 12 = .ok (.isub, 1) := by decide +kernel
theorem dX10_advance_13 : decode cX10_advance 13 = .ok (.istore_n 2, 1) := by decide +kernel
theorem dX10_advance_14 : decode cX10_advance 14 = .ok (.iload_n 2, 1) := by decide +kernel
theorem dX10_advance_15 : decode cX10_advance 15 = .ok (.ifCond .lt 141, 3) := by decide +kernel
theorem dX10_advance_18 : decode cX10_advance 18 = .ok (.aload_n 0, 1) := by decide +kernel
theorem dX10_advance_19 : decode cX10_advance 19 = .ok (.getfield 18, 3) := by decide +kernel
theorem dX10_advance_22 : decode cX10_advance 22 = .ok (.iload_n 2, 1) := by decide +kernel
theorem dX10_advance_23 : decode cX10_advance 23 = .ok (.iaload, 1) := by decide +kernel
theorem dX10_advance_24 : decode cX10_advance 24 = .ok (.istore_n 3, 1) := by decide +kernel
theorem dX10_advance_25 : decode cX10_advance 25 = .ok (.iload_n 3, 1) := by decide +kernel
theorem dX10_advance_26 : decode cX10_advance 26 = .ok (.iconst 2, 1) := by decide +kernel
theorem dX10_advance_27 : decode cX10_advance 27 = .ok (.ishl, 1) := by decide +kernel
theorem dX10_advance_28 : decode cX10_advance 28 = .ok (.istore 4, 2) := by decide +kernel
theorem dX10_advance_30 : decode cX10_advance 30 = .ok (.aload_n 0, 1) := by decide +kernel
theorem dX10_advance_31 : decode cX10_advance 31 = .ok (.aload_n 0, 1) := by decide +kernel
theorem dX10_advance_32 : decode cX10_advance 32 = .ok (.getfield 56, 3) := by decide +kernel
theorem dX10_advance_35 : decode cX10_advance 35 = .ok (.aload_n 0, 1) := by decide +kernel
theorem dX10_advance_36 : decode cX10_advance 36 = .ok (.getfield 21, 3) := by decide +kernel
theorem dX10_advance_39 : decode cX10_advance 39 = .ok (.iload_n 3, 1) := by decide +kernel
theorem dX10_advance_40 : decode cX10_advance 40 = .ok (.iaload, 1) := by decide +kernel
theorem dX10_advance_41 : decode cX10_advance 41 = .ok (.aload_n 0, 1) := by decide +kernel
theorem dX10_advance_42 : decode cX10_advance 42 = .ok (.getfield 40, 3) := by decide +kernel
theorem dX10_advance_45 : decode cX10_advance 45 = .ok (.invokestatic 68, 3) := by decide +kernel
theorem dX10_advance_48 : decode cX10_advance 48 = .ok (.putfield 56, 3) := by decide +kernel
theorem dX10_advance_51 : decode cX10_advance 51 = .ok (.aload_n 0, 1) := by decide +kernel
theorem dX10_advance_52 : decode cX10_advance 52 = .ok (.getfield 62, 3) := by decide +kernel
theorem dX10_advance_55 : decode cX10_advance 55 = .ok (.iload 4, 2) := by decide +kernel
theorem dX10_advance_57 : decode cX10_advance 57 = .ok (.iushr, 1) := by decide +kernel
theorem dX10_advance_58 : decode cX10_advance 58 = .ok (.bipush 15, 2) := by decide +kernel
theorem dX10_advance_60 : decode cX10_advance 60 = .ok (.iand, 1) := by decide +kernel
theorem dX10_advance_61 : decode cX10_advance 61 = .ok (.iload_n 1, 1) := by decide +kernel
theorem dX10_advance_62 : decode cX10_advance 62 = .ok (.if_icmp .ge 44, 3) := by decide +kernel
theorem dX10_advance_65 : decode cX10_advance 65 = .ok (.aload_n 0, 1) := by decide +kernel
theorem dX10_advance_66 : decode cX10_advance 66 = .ok (.dup, 1) := by decide +kernel
theorem dX10_advance_67 : decode cX10_advance 67 = .ok (.getfield 62, 3) := by decide +kernel
theorem dX10_advance_70 : decode cX10_advance 70 = .ok (.iconst 1, 1) := by decide +kernel
theorem dX10_advance_71 : decode cX10_advance 71 = .ok (.iload 4, 2) := by decide +kernel
theorem dX10_advance_73 : decode cX10_advance 73 = .ok (.ishl, 1) := by decide +kernel
theorem dX10_advance_74 : decode cX10_advance 74 = .ok (.iadd, 1) := by decide +kernel
theorem dX10_advance_75 : decode cX10_advance 75 = .ok (.putfield 62, 3) := by decide +kernel
theorem dX10_advance_78 : decode cX10_advance 78 = .ok (.aload_n 0, 1) := by decide +kernel
theorem dX10_advance_79 : decode cX10_advance 79 = .ok (.dup, 1) := by decide +kernel
theorem dX10_advance_80 : decode cX10_advance 80 = .ok (.getfield 59, 3) := by decide +kernel
theorem dX10_advance_83 : decode cX10_advance 83 = .ok (.aload_n 0, 1) := by decide +kernel
theorem dX10_advance_84 : decode cX10_advance 84 = .ok (.getfield 15, 3) := by decide +kernel
theorem dX10_advance_87 : decode cX10_advance 87 = .ok (.iload_n 3, 1) := by decide +kernel
theorem dX10_advance_88 : decode cX10_advance 88 = .ok (.iaload, 1) := by decide +kernel
theorem dX10_advance_89 : decode cX10_advance 89 = .ok (.iadd, 1) := by decide +kernel
theorem dX10_advance_90 : decode cX10_advance 90 = .ok (.putfield 59, 3) := by decide +kernel
theorem dX10_advance_93 : decode cX10_advance 93 = .ok (.aload_n 0, 1) := by decide +kernel
theorem dX10_advance_94 : decode cX10_advance 94 = .ok (.dup, 1) := by decide +kernel
theorem dX10_advance_95 : decode cX10_advance 95 = .ok (.getfield 65, 3) := by decide +kernel
theorem dX10_advance_98 : decode cX10_advance 98 = .ok (.iconst 1, 1) := by decide +kernel
theorem dX10_advance_99 : decode cX10_advance 99 = .ok (.iload_n 3, 1) := by decide +kernel
theorem dX10_advance_100 : decode cX10_advance 100 = .ok (.ishl, 1) := by decide +kernel
theorem dX10_advance_101 : decode cX10_advance 101 = .ok (.ior, 1) := by decide +kernel
theorem dX10_advance_102 : decode cX10_advance 102 = .ok (.putfield 65, 3) := by decide +kernel
theorem dX10_advance_105 : decode cX10_advance 105 = .ok (.return_, 1) := by decide +kernel
theorem dX10_advance_106 : decode cX10_advance 106 = .ok (.aload_n 0, 1) := by decide +kernel
theorem dX10_advance_107 : decode cX10_advance 107 = .ok (.dup, 1) := by decide +kernel
theorem dX10_advance_108 : decode cX10_advance 108 = .ok (.getfield 62, 3) := by decide +kernel
theorem dX10_advance_111 : decode cX10_advance 111 = .ok (.iload_n 1, 1) := by decide +kernel
theorem dX10_advance_112 : decode cX10_advance 112 = .ok (.iload 4, 2) := by decide +kernel
theorem dX10_advance_114 : decode cX10_advance 114 = .ok (.ishl, 1) := by decide +kernel
theorem dX10_advance_115 : decode cX10_advance 115 = .ok (.isub, 1) := by decide +kernel
theorem dX10_advance_116 : decode cX10_advance 116 = .ok (.putfield 62, 3) := by decide +kernel
theorem dX10_advance_119 : decode cX10_advance 119 = .ok (.aload_n 0, 1) := by decide +kernel
theorem dX10_advance_120 : decode cX10_advance 120 = .ok (.dup, 1) := by decide +kernel
theorem dX10_advance_121 : decode cX10_advance 121 = .ok (.getfield 59, 3) := by decide +kernel
theorem dX10_advance_124 : decode cX10_advance 124 = .ok (.iload_n 1, 1) := by decide +kernel
theorem dX10_advance_125 : decode cX10_advance 125 = .ok (.aload_n 0, 1) := by decide +kernel
theorem dX10_advance_126 : decode cX10_advance 126 = .ok (.getfield 15, 3) := by decide +kernel
theorem dX10_advance_129 : decode cX10_advance 129 = .ok (.iload_n 3, 1) := by decide +kernel
theorem dX10_advance_130 : decode cX10_advance 130 = .ok (.iaload, 1) := by decide +kernel
theorem dX10_advance_131 : decode cX10_advance 131 = .ok (.imul, 1) := by decide +kernel
theorem dX10_advance_132 : decode cX10_advance 132 = .ok (.isub, 1) := by decide +kernel
theorem dX10_advance_133 : decode cX10_advance 133 = .ok (.putfield 59, 3) := by decide +kernel
theorem dX10_advance_136 : decode cX10_advance 136 = .ok (.aload_n 0, 1) := by decide +kernel
theorem dX10_advance_137 : decode cX10_advance 137 = .ok (.dup, 1) := by decide +kernel
theorem dX10_advance_138 : decode cX10_advance 138 = .ok (.getfield 65, 3) := by decide +kernel
theorem dX10_advance_141 : decode cX10_advance 141 = .ok (.iconst 1, 1) := by decide +kernel
theorem dX10_advance_142 : decode cX10_advance 142 = .ok (.iload_n 3, 1) := by decide +kernel
theorem dX10_advance_143 : decode cX10_advance 143 = .ok (.ishl, 1) := by decide +kernel
theorem dX10_advance_144 : decode cX10_advance 144 = .ok (.iconst (-1), 1) := by decide +kernel
theorem dX10_advance_145 : decode cX10_advance 145 = .ok (.ixor, 1) := by decide +kernel
theorem dX10_advance_146 : decode cX10_advance 146 = .ok (.iand, 1) := by decide +kernel
theorem dX10_advance_147 : decode cX10_advance 147 = .ok (.putfield 65, 3) := by decide +kernel
theorem dX10_advance_150 : decode cX10_advance 150 = .ok (.iinc 2 (-1), 3) := by decide +kernel
theorem dX10_advance_153 : decode cX10_advance 153 = .ok (.goto (-139), 3) := by decide +kernel
theorem dX10_advance_156 : decode cX10_advance 156 = .ok (.return_, 1) := by decide +kernel
theorem dX10_freeAt_0 : decode cX10_freeAt 0 = .ok (.iload_n 1, 1) := by decide +kernel
theorem dX10_freeAt_1 : decode cX10_freeAt 1 = .ok (.ifCond .lt 20, 3) := by decide +kernel
theorem dX10_freeAt_4 : decode cX10_freeAt 4 = .ok (.iload_n 1, 1) := by decide +kernel
theorem dX10_freeAt_5 : decode cX10_freeAt 5 = .ok (.aload_n 0, 1) := by decide +kernel
theorem dX10_freeAt_6 : decode cX10_freeAt 6 = .ok (.getfield 41, 3) := by decide +kernel
theorem dX10_freeAt_9 : decode cX10_freeAt 9 = .ok (.if_icmp .ge 12, 3) := by decide +kernel
theorem dX10_freeAt_12 : decode cX10_freeAt 12 = .ok (.aload_n 0, 1) := by decide +kernel
theorem dX10_freeAt_13 : decode cX10_freeAt 13 = .ok (.getfield 18, 3) := by decide +kernel
theorem dX10_freeAt_16 : decode cX10_freeAt 16 = .ok (.iload_n 1, 1) := by decide +kernel
theorem dX10_freeAt_17 : decode cX10_freeAt 17 = .ok (.iaload, 1) := by decide +kernel
theorem dX10_freeAt_18 : decode cX10_freeAt 18 = .ok (.goto 4, 3) := by decide +kernel
theorem dX10_freeAt_21 : decode cX10_freeAt 21 = .ok (.iconst 0, 1) := by decide +kernel
theorem dX10_freeAt_22 : decode cX10_freeAt 22 = .ok (.ireturn, 1) := by decide +kernel
theorem dX10_pullAt_0 : decode cX10_pullAt 0 = .ok (.iload_n 1, 1) := by decide +kernel
theorem dX10_pullAt_1 : decode cX10_pullAt 1 = .ok (.ifCond .lt 25, 3) := by decide +kernel
theorem dX10_pullAt_4 : decode cX10_pullAt 4 = .ok (.iload_n 1, 1) := by decide +kernel
theorem dX10_pullAt_5 : decode cX10_pullAt 5 = .ok (.aload_n 0, 1) := by decide +kernel
theorem dX10_pullAt_6 : decode cX10_pullAt 6 = .ok (.getfield 41, 3) := by decide +kernel
theorem dX10_pullAt_9 : decode cX10_pullAt 9 = .ok (.if_icmp .ge 17, 3) := by decide +kernel
theorem dX10_pullAt_12 : decode cX10_pullAt 12 = .ok (.aload_n 0, 1) := by decide +kernel
theorem dX10_pullAt_13 : decode cX10_pullAt 13 = .ok (.getfield 21, 3) := by decide +kernel
theorem dX10_pullAt_16 : decode cX10_pullAt 16 = .ok (.aload_n 0, 1) := by decide +kernel
theorem dX10_pullAt_17 : decode cX10_pullAt 17 = .ok (.getfield 18, 3) := by decide +kernel
theorem dX10_pullAt_20 : decode cX10_pullAt 20 = .ok (.iload_n 1, 1) := by decide +kernel
theorem dX10_pullAt_21 : decode cX10_pullAt 21 = .ok (.iaload, 1) := by decide +kernel
theorem dX10_pullAt_22 : decode cX10_pullAt 22 = .ok (.iaload, 1) := by decide +kernel
theorem dX10_pullAt_23 : decode cX10_pullAt 23 = .ok (.goto 4, 3) := by decide +kernel
theorem dX10_pullAt_26 : decode cX10_pullAt 26 = .ok (.iconst 0, 1) := by decide +kernel
theorem dX10_pullAt_27 : decode cX10_pullAt 27 = .ok (.ireturn, 1) := by decide +kernel
theorem dX10_reckonLaws_0 : decode cX10_reckonLaws 0 = .ok (.aload_n 0, 1) := by decide +kernel
theorem dX10_reckonLaws_1 : decode cX10_reckonLaws 1 = .ok (.getfield 28, 3) := by decide +kernel
theorem dX10_reckonLaws_4 : decode cX10_reckonLaws 4 = .ok (.aload_n 0, 1) := by decide +kernel
theorem dX10_reckonLaws_5 : decode cX10_reckonLaws 5 = .ok (.getfield 24, 3) := by decide +kernel
theorem dX10_reckonLaws_8 : decode cX10_reckonLaws 8 = .ok (.getfield 72, 3) := by decide +kernel
theorem dX10_reckonLaws_11 : decode cX10_reckonLaws 11 = .ok (.if_icmp .ne 4, 3) := by decide +kernel
theorem dX10_reckonLaws_14 : decode cX10_reckonLaws 14 = .ok (.return_, 1) := by decide +kernel
theorem dX10_reckonLaws_15 : decode cX10_reckonLaws 15 = .ok (.iconst 0, 1) := by decide +kernel
theorem dX10_reckonLaws_16 : decode cX10_reckonLaws 16 = .ok (.istore_n 1, 1) := by decide +kernel
theorem dX10_reckonLaws_17 : decode cX10_reckonLaws 17 = .ok (.iload_n 1, 1) := by decide +kernel
theorem dX10_reckonLaws_18 : decode cX10_reckonLaws 18 = .ok (.aload_n 0, 1) := by decide +kernel
theorem dX10_reckonLaws_19 : decode cX10_reckonLaws 19 = .ok (.getfield 24, 3) := by decide +kernel
theorem dX10_reckonLaws_22 : decode cX10_reckonLaws 22 = .ok (.getfield 35, 3) := by decide +kernel
theorem dX10_reckonLaws_25 : decode cX10_reckonLaws 25 = .ok (.if_icmp .ge 37, 3) := by decide +kernel
theorem dX10_reckonLaws_28 : decode cX10_reckonLaws 28 = .ok (.aload_n 0, 1) := by decide +kernel
theorem dX10_reckonLaws_29 : decode cX10_reckonLaws 29 = .ok (.getfield 9, 3) := by decide +kernel
theorem dX10_reckonLaws_32 : decode cX10_reckonLaws 32 = .ok (.iload_n 1, 1) := by decide +kernel
theorem dX10_reckonLaws_33 : decode cX10_reckonLaws 33 = .ok (.aload_n 0, 1) := by decide +kernel
theorem dX10_reckonLaws_34 : decode cX10_reckonLaws 34 = .ok (.getfield 24, 3) := by decide +kernel
theorem dX10_reckonLaws_37 : decode cX10_reckonLaws 37 = .ok (.iload_n 1, 1) := by decide +kernel
theorem dX10_reckonLaws_38 : decode cX10_reckonLaws 38 = .ok (.invokevirtual 73, 3) := by decide +kernel
theorem dX10_reckonLaws_41 : decode cX10_reckonLaws 41 = .ok (.iastore, 1) := by decide +kernel
theorem dX10_reckonLaws_42 : decode cX10_reckonLaws 42 = .ok (.aload_n 0, 1) := by decide +kernel
theorem dX10_reckonLaws_43 : decode cX10_reckonLaws 43 = .ok (.getfield 15, 3) := by decide +kernel
theorem dX10_reckonLaws_46 : decode cX10_reckonLaws 46 = .ok (.iload_n 1, 1) := by decide +kernel
theorem dX10_reckonLaws_47 : decode cX10_reckonLaws 47 = .ok (.aload_n 0, 1) := by decide +kernel
theorem dX10_reckonLaws_48 : decode cX10_reckonLaws 48 = .ok (.getfield 24, 3) := by decide +kernel
theorem dX10_reckonLaws_51 : decode cX10_reckonLaws 51 = .ok (.iload_n 1, 1) := by decide +kernel
theorem dX10_reckonLaws_52 : decode cX10_reckonLaws 52 = .ok (.invokevirtual 76, 3) := by decide +kernel
theorem dX10_reckonLaws_55 : decode cX10_reckonLaws 55 = .ok (.iastore, 1) := by decide +kernel
theorem dX10_reckonLaws_56 : decode cX10_reckonLaws 56 = .ok (.iinc 1 1, 3) := by decide +kernel
theorem dX10_reckonLaws_59 : decode cX10_reckonLaws 59 = .ok (.goto (-42), 3) := by decide +kernel
theorem dX10_reckonLaws_62 : decode cX10_reckonLaws 62 = .ok (.aload_n 0, 1) := by decide +kernel
theorem dX10_reckonLaws_63 : decode cX10_reckonLaws 63 = .ok (.aload_n 0, 1) := by decide +kernel
theorem dX10_reckonLaws_64 : decode cX10_reckonLaws 64 = .ok (.getfield 24, 3) := by decide +kernel
theorem dX10_reckonLaws_67 : decode cX10_reckonLaws 67 = .ok (.getfield 72, 3) := by decide +kernel
theorem dX10_reckonLaws_70 : decode cX10_reckonLaws 70 = .ok (.putfield 28, 3) := by decide +kernel
theorem dX10_reckonLaws_73 : decode cX10_reckonLaws 73 = .ok (.return_, 1) := by decide +kernel
theorem dX11_init_0 : decode cX11_init 0 = .ok (.aload_n 0, 1) := by decide +kernel
theorem dX11_init_1 : decode cX11_init 1 = .ok (.invokespecial 1, 3) := by decide +kernel
theorem dX11_init_4 : decode cX11_init 4 = .ok (.aload_n 0, 1) := by decide +kernel
theorem dX11_init_5 : decode cX11_init 5 = .ok (.sipush 900, 3) := by decide +kernel
theorem dX11_init_8 : decode cX11_init 8 = .ok (.newarray .byte, 2) := by decide +kernel
theorem dX11_init_10 : decode cX11_init 10 = .ok (.putfield 9, 3) := by decide +kernel
theorem dX11_init_13 : decode cX11_init 13 = .ok (.aload_n 0, 1) := by decide +kernel
theorem dX11_init_14 : decode cX11_init 14 = .ok (.iconst (-1), 1) := by decide +kernel
theorem dX11_init_15 : decode cX11_init 15 = .ok (.putfield 13, 3) := by decide +kernel
theorem dX11_init_18 : decode cX11_init 18 = .ok (.aload_n 0, 1) := by decide +kernel
theorem dX11_init_19 : decode cX11_init 19 = .ok (.new 17, 3) := by decide +kernel
theorem dX11_init_22 : decode cX11_init 22 = .ok (.dup, 1) := by decide +kernel
theorem dX11_init_23 : decode cX11_init 23 = .ok (.aload_n 0, 1) := by decide +kernel
theorem dX11_init_24 : decode cX11_init 24 = .ok (.getfield 9, 3) := by decide +kernel
theorem dX11_init_27 : decode cX11_init 27 = .ok (.invokespecial 19, 3) := by decide +kernel
theorem dX11_init_30 : decode cX11_init 30 = .ok (.putfield 22, 3) := by decide +kernel
theorem dX11_init_33 : decode cX11_init 33 = .ok (.new 26, 3) := by decide +kernel
theorem dX11_init_36 : decode cX11_init 36 = .ok (.dup, 1) := by decide +kernel
theorem dX11_init_37 : decode cX11_init 37 = .ok (.invokespecial 28, 3) := by decide +kernel
theorem dX11_init_40 : decode cX11_init 40 = .ok (.astore_n 1, 1) := by decide +kernel
theorem dX11_init_41 : decode cX11_init 41 = .ok (.aload_n 0, 1) := by decide +kernel
theorem dX11_init_42 : decode cX11_init 42 = .ok (.new 29, 3) := by decide +kernel
theorem dX11_init_45 : decode cX11_init 45 = .ok (.dup, 1) := by decide +kernel
theorem dX11_init_46 : decode cX11_init 46 = .ok (.aload_n 1, 1) := by decide +kernel
theorem dX11_init_47 : decode cX11_init 47 = .ok (.invokespecial 31, 3) := by decide +kernel
theorem dX11_init_50 : decode cX11_init 50 = .ok (.putfield 34, 3) := by decide +kernel
theorem dX11_init_53 : decode cX11_init 53 = .ok (.aload_n 0, 1) := by decide +kernel
theorem dX11_init_54 : decode cX11_init 54 = .ok (.new 29, 3) := by decide +kernel
theorem dX11_init_57 : decode cX11_init 57 = .ok (.dup, 1) := by decide +kernel
theorem dX11_init_58 : decode cX11_init 58 = .ok (.aload_n 1, 1) := by decide +kernel
theorem dX11_init_59 : decode cX11_init 59 = .ok (.invokespecial 31, 3) := by decide +kernel
theorem dX11_init_62 : decode cX11_init 62 = .ok (.putfield 38, 3) := by decide +kernel
theorem dX11_init_65 : decode cX11_init 65 = .ok (.aload_n 0, 1) := by decide +kernel
theorem dX11_init_66 : decode cX11_init 66 = .ok (.iconst 3, 1) := by decide +kernel
theorem dX11_init_67 : decode cX11_init 67 = .ok (.anewarray 29, 3) := by decide +kernel
theorem dX11_init_70 : decode cX11_init 70 = .ok (.putfield 41, 3) := by decide +kernel
theorem dX11_init_73 : decode cX11_init 73 = .ok (.iconst 0, 1) := by decide +kernel
theorem dX11_init_74 : decode cX11_init 74 = .ok (.istore_n 2, 1) := by decide +kernel
theorem dX11_init_75 : decode cX11_init 75 = .ok (.iload_n 2, 1) := by decide +kernel
theorem dX11_init_76 : decode cX11_init 76 = .ok (.iconst 3, 1) := by decide +kernel
theorem dX11_init_77 : decode cX11_init 77 = .ok (.if_icmp .ge 23, 3) := by decide +kernel
theorem dX11_init_80 : decode cX11_init 80 = .ok (.aload_n 0, 1) := by decide +kernel
theorem dX11_init_81 : decode cX11_init 81 = .ok (.getfield 41, 3) := by decide +kernel
theorem dX11_init_84 : decode cX11_init 84 = .ok (.iload_n 2, 1) := by decide +kernel
theorem dX11_init_85 : decode cX11_init 85 = .ok (.new 29, 3) := by decide +kernel
theorem dX11_init_88 : decode cX11_init 88 = .ok (.dup, 1) := by decide +kernel
theorem dX11_init_89 : decode cX11_init 89 = .ok (.aload_n 1, 1) := by decide +kernel
theorem dX11_init_90 : decode cX11_init 90 = .ok (.invokespecial 31, 3) := by decide +kernel
theorem dX11_init_93 : decode cX11_init 93 = .ok (.aastore, 1) := by decide +kernel
theorem dX11_init_94 : decode cX11_init 94 = .ok (.iinc 2 1, 3) := by decide +kernel
theorem dX11_init_97 : decode cX11_init 97 = .ok (.goto (-22), 3) := by decide +kernel
theorem dX11_init_100 : decode cX11_init 100 = .ok (.aload_n 0, 1) := by decide +kernel
theorem dX11_init_101 : decode cX11_init 101 = .ok (.iconst 4, 1) := by decide +kernel
theorem dX11_init_102 : decode cX11_init 102 = .ok (.anewarray 45, 3) := by decide +kernel
theorem dX11_init_105 : decode cX11_init 105 = .ok (.putfield 47, 3) := by decide +kernel
theorem dX11_init_108 : decode cX11_init 108 = .ok (.iconst 0, 1) := by decide +kernel
theorem dX11_init_109 : decode cX11_init 109 = .ok (.istore_n 2, 1) := by decide +kernel
theorem dX11_init_110 : decode cX11_init 110 = .ok (.iload_n 2, 1) := by decide +kernel
theorem dX11_init_111 : decode cX11_init 111 = .ok (.iconst 4, 1) := by decide +kernel
theorem dX11_init_112 : decode cX11_init 112 = .ok (.if_icmp .ge 22, 3) := by decide +kernel
theorem dX11_init_115 : decode cX11_init 115 = .ok (.aload_n 0, 1) := by decide +kernel
theorem dX11_init_116 : decode cX11_init 116 = .ok (.getfield 47, 3) := by decide +kernel
theorem dX11_init_119 : decode cX11_init 119 = .ok (.iload_n 2, 1) := by decide +kernel
theorem dX11_init_120 : decode cX11_init 120 = .ok (.new 45, 3) := by decide +kernel
theorem dX11_init_123 : decode cX11_init 123 = .ok (.dup, 1) := by decide +kernel
theorem dX11_init_124 : decode cX11_init 124 = .ok (.invokespecial 51, 3) := by decide +kernel
theorem dX11_init_127 : decode cX11_init 127 = .ok (.aastore, 1) := by decide +kernel
theorem dX11_init_128 : decode cX11_init 128 = .ok (.iinc 2 1, 3) := by decide +kernel
theorem dX11_init_131 : decode cX11_init 131 = .ok (.goto (-21), 3) := by decide +kernel
theorem dX11_init_134 : decode cX11_init 134 = .ok (.new 52, 3) := by decide +kernel
theorem dX11_init_137 : decode cX11_init 137 = .ok (.dup, 1) := by decide +kernel
theorem dX11_init_138 : decode cX11_init 138 = .ok (.aload_n 0, 1) := by decide +kernel
theorem dX11_init_139 : decode cX11_init 139 = .ok (.getfield 34, 3) := by decide +kernel
theorem dX11_init_142 : decode cX11_init 142 = .ok (.invokespecial 54, 3) := by decide +kernel
theorem dX11_init_145 : decode cX11_init 145 = .ok (.astore_n 2, 1) := by decide +kernel
theorem dX11_init_146 : decode cX11_init 146 = .ok (.aload_n 0, 1) := by decide +kernel
theorem dX11_init_147 : decode cX11_init 147 = .ok (.new 57, 3) := by decide +kernel
theorem dX11_init_150 : decode cX11_init 150 = .ok (.dup, 1) := by decide +kernel
theorem dX11_init_151 : decode cX11_init 151 = .ok (.aload_n 0, 1) := by decide +kernel
theorem dX11_init_152 : decode cX11_init 152 = .ok (.getfield 34, 3) := by decide +kernel
theorem dX11_init_155 : decode cX11_init 155 = .ok (.aload_n 2, 1) := by decide +kernel
theorem dX11_init_156 : decode cX11_init 156 = .ok (.invokespecial 59, 3) := by decide +kernel
theorem dX11_init_159 : decode cX11_init 159 = .ok (.putfield 62, 3) := by decide +kernel
theorem dX11_init_162 : decode cX11_init 162 = .ok (.aload_n 0, 1) := by decide +kernel
theorem dX11_init_163 : decode cX11_init 163 = .ok (.new 66, 3) := by decide +kernel
theorem dX11_init_166 : decode cX11_init 166 = .ok (.dup, 1) := by decide +kernel
theorem dX11_init_167 : decode cX11_init 167 = .ok (.aload_n 0, 1) := by decide +kernel
theorem dX11_init_168 : decode cX11_init 168 = .ok (.getfield 34, 3) := by decide +kernel
theorem dX11_init_171 : decode cX11_init 171 = .ok (.aload_n 2, 1) := by decide +kernel
theorem dX11_init_172 : decode cX11_init 172 = .ok (.invokespecial 68, 3) := by decide +kernel
theorem dX11_init_175 : decode cX11_init 175 = .ok (.putfield 69, 3) := by decide +kernel
theorem dX11_init_178 : decode cX11_init 178 = .ok (.aload_n 0, 1) := by decide +kernel
theorem dX11_init_179 : decode cX11_init 179 = .ok (.new 73, 3) := by decide +kernel
theorem dX11_init_182 : decode cX11_init 182 = .ok (.dup, 1) := by decide +kernel
theorem dX11_init_183 : decode cX11_init 183 = .ok (.aload_n 0, 1) := by decide +kernel
theorem dX11_init_184 : decode cX11_init 184 = .ok (.getfield 34, 3) := by decide +kernel
theorem dX11_init_187 : decode cX11_init 187 = .ok (.invokespecial 75, 3) := by decide +kernel
theorem dX11_init_190 : decode cX11_init 190 = .ok (.putfield 76, 3) := by decide +kernel
theorem dX11_init_193 : decode cX11_init 193 = .ok (.return_, 1) := by decide +kernel
theorem dX11_feed_0 : decode cX11_feed 0 = .ok (.aload_n 0, 1) := by decide +kernel
theorem dX11_feed_1 : decode cX11_feed 1 = .ok (.getfield 80, 3) := by decide +kernel
theorem dX11_feed_4 : decode cX11_feed 4 = .ok (.bipush 20, 2) := by decide +kernel
theorem dX11_feed_6 : decode cX11_feed 6 = .ok (.iadd, 1) := by decide +kernel
theorem dX11_feed_7 : decode cX11_feed 7 = .ok (.sipush 900, 3) := by decide +kernel
theorem dX11_feed_10 : decode cX11_feed 10 = .ok (.if_icmp .le 5, 3) := by decide +kernel
theorem dX11_feed_13 : decode cX11_feed 13 = .ok (.iconst (-1), 1) := by decide +kernel
theorem dX11_feed_14 : decode cX11_feed 14 = .ok (.ireturn, 1) := by decide +kernel
theorem dX11_feed_15 : decode cX11_feed 15 = .ok (.aload_n 0, 1) := by decide +kernel
theorem dX11_feed_16 : decode cX11_feed 16 = .ok (.iload_n 1, 1) := by decide +kernel
theorem dX11_feed_17 : decode cX11_feed 17 = .ok (.invokevirtual 83, 3) := by decide +kernel
theorem dX11_feed_20 : decode cX11_feed 20 = .ok (.aload_n 0, 1) := by decide +kernel
theorem dX11_feed_21 : decode cX11_feed 21 = .ok (.iload_n 2, 1) := by decide +kernel
theorem dX11_feed_22 : decode cX11_feed 22 = .ok (.invokevirtual 83, 3) := by decide +kernel
theorem dX11_feed_25 : decode cX11_feed 25 = .ok (.aload_n 0, 1) := by decide +kernel
theorem dX11_feed_26 : decode cX11_feed 26 = .ok (.iload_n 3, 1) := by decide +kernel
theorem dX11_feed_27 : decode cX11_feed 27 = .ok (.invokevirtual 83, 3) := by decide +kernel
theorem dX11_feed_30 : decode cX11_feed 30 = .ok (.aload_n 0, 1) := by decide +kernel
theorem dX11_feed_31 : decode cX11_feed 31 = .ok (.iload 4, 2) := by decide +kernel
theorem dX11_feed_33 : decode cX11_feed 33 = .ok (.invokevirtual 83, 3) := by decide +kernel
theorem dX11_feed_36 : decode cX11_feed 36 = .ok (.aload_n 0, 1) := by decide +kernel
theorem dX11_feed_37 : decode cX11_feed 37 = .ok (.iload 5, 2) := by decide +kernel
theorem dX11_feed_39 : decode cX11_feed 39 = .ok (.invokevirtual 83, 3) := by decide +kernel
theorem dX11_feed_42 : decode cX11_feed 42 = .ok (.aload_n 0, 1) := by decide +kernel
theorem dX11_feed_43 : decode cX11_feed 43 = .ok (.getfield 80, 3) := by decide +kernel
theorem dX11_feed_46 : decode cX11_feed 46 = .ok (.ireturn, 1) := by decide +kernel
theorem dX11_board_0 : decode cX11_board 0 = .ok (.iload_n 1, 1) := by decide +kernel
theorem dX11_board_1 : decode cX11_board 1 = .ok (.ifCond .lt 11, 3) := by decide +kernel
theorem dX11_board_4 : decode cX11_board 4 = .ok (.iload_n 1, 1) := by decide +kernel
theorem dX11_board_5 : decode cX11_board 5 = .ok (.aload_n 0, 1) := by decide +kernel
theorem dX11_board_6 : decode cX11_board 6 = .ok (.getfield 80, 3) := by decide +kernel
theorem dX11_board_9 : decode cX11_board 9 = .ok (.if_icmp .le 13, 3) := by decide +kernel
theorem dX11_board_12 : decode cX11_board 12 = .ok (.new 87, 3) := by decide +kernel
theorem dX11_board_15 : decode cX11_board 15 = .ok (.dup, 1) := by decide +kernel
theorem dX11_board_16 : decode cX11_board 16 = .ok (.ldc 89, 2) := by decide +kernel
theorem dX11_board_18 : decode cX11_board 18 = .ok (.invokespecial 91, 3) := by decide +kernel
theorem dX11_board_21 : decode cX11_board 21 = .ok (.athrow, 1) := by decide +kernel
theorem dX11_board_22 : decode cX11_board 22 = .ok (.aload_n 0, 1) := by decide +kernel
theorem dX11_board_23 : decode cX11_board 23 = .ok (.iconst 0, 1) := by decide +kernel
theorem dX11_board_24 : decode cX11_board 24 = .ok (.putfield 80, 3) := by decide +kernel
theorem dX11_board_27 : decode cX11_board 27 = .ok (.aload_n 0, 1) := by decide +kernel
theorem dX11_board_28 : decode cX11_board 28 = .ok (.getfield 22, 3) := by decide +kernel
theorem dX11_board_31 : decode cX11_board 31 = .ok (.iload_n 1, 1) := by decide +kernel
theorem dX11_board_32 : decode cX11_board 32 = .ok (.invokevirtual 94, 3) := by decide +kernel
theorem dX11_board_35 : decode cX11_board 35 = .ok (.aload_n 0, 1) := by decide +kernel
theorem dX11_board_36 : decode cX11_board 36 = .ok (.aload_n 0, 1) := by decide +kernel
theorem dX11_board_37 : decode cX11_board 37 = .ok (.getfield 22, 3) := by decide +kernel
theorem dX11_board_40 : decode cX11_board 40 = .ok (.getfield 97, 3) := by decide +kernel
theorem dX11_board_43 : decode cX11_board 43 = .ok (.putfield 100, 3) := by decide +kernel
theorem dX11_board_46 : decode cX11_board 46 = .ok (.aload_n 0, 1) := by decide +kernel
theorem dX11_board_47 : decode cX11_board 47 = .ok (.aload_n 0, 1) := by decide +kernel
theorem dX11_board_48 : decode cX11_board 48 = .ok (.getfield 22, 3) := by decide +kernel
theorem dX11_board_51 : decode cX11_board 51 = .ok (.getfield 103, 3) := by decide +kernel
theorem dX11_board_54 : decode cX11_board 54 = .ok (.putfield 13, 3) := by decide +kernel
theorem dX11_board_57 : decode cX11_board 57 = .ok (.aload_n 0, 1) := by decide +kernel
theorem dX11_board_58 : decode cX11_board 58 = .ok (.getfield 100, 3) := by decide +kernel
theorem dX11_board_61 : decode cX11_board 61 = .ok (.ifCond .eq 11, 3) := by decide +kernel
theorem dX11_board_64 : decode cX11_board 64 = .ok (.bipush (-10), 2) := by decide +kernel
theorem dX11_board_66 : decode cX11_board 66 = .ok (.aload_n 0, 1) := by decide +kernel
theorem dX11_board_67 : decode cX11_board 67 = .ok (.getfield 100, 3) := by decide +kernel
theorem dX11_board_70 : decode cX11_board 70 = .ok (.isub, 1) := by decide +kernel
theorem dX11_board_71 : decode cX11_board 71 = .ok (.ireturn, 1) := by decide +kernel
theorem dX11_board_72 : decode cX11_board 72 = .ok (.aload_n 0, 1) := by decide +kernel
theorem dX11_board_73 : decode cX11_board 73 = .ok (.getfield 34, 3) := by decide +kernel
theorem dX11_board_76 : decode cX11_board 76 = .ok (.aload_n 0, 1) := by decide +kernel
theorem dX11_board_77 : decode cX11_board 77 = .ok (.getfield 22, 3) := by decide +kernel
theorem dX11_board_80 : decode cX11_board 80 = .ok (.invokevirtual 106, 3) := by decide +kernel
theorem dX11_board_83 : decode cX11_board 83 = .ok (.aload_n 0, 1) := by decide +kernel
theorem dX11_board_84 : decode cX11_board 84 = .ok (.getfield 34, 3) := by decide +kernel
theorem dX11_board_87 : decode cX11_board 87 = .ok (.getfield 110, 3) := by decide +kernel
theorem dX11_board_90 : decode cX11_board 90 = .ok (.ireturn, 1) := by decide +kernel
theorem dX11_fault_0 : decode cX11_fault 0 = .ok (.iload_n 1, 1) := by decide +kernel
theorem dX11_fault_1 : decode cX11_fault 1 = .ok (.ifCond .ne 8, 3) := by decide +kernel
theorem dX11_fault_4 : decode cX11_fault 4 = .ok (.aload_n 0, 1) := by decide +kernel
theorem dX11_fault_5 : decode cX11_fault 5 = .ok (.getfield 100, 3) := by decide +kernel
theorem dX11_fault_8 : decode cX11_fault 8 = .ok (.ireturn, 1) := by decide +kernel
theorem dX11_fault_9 : decode cX11_fault 9 = .ok (.iload_n 1, 1) := by decide +kernel
theorem dX11_fault_10 : decode cX11_fault 10 = .ok (.iconst 1, 1) := by decide +kernel
theorem dX11_fault_11 : decode cX11_fault 11 = .ok (.if_icmp .ne 10, 3) := by decide +kernel
theorem dX11_fault_14 : decode cX11_fault 14 = .ok (.aload_n 0, 1) := by decide +kernel
theorem dX11_fault_15 : decode cX11_fault 15 = .ok (.getfield 13, 3) := by decide +kernel
theorem dX11_fault_18 : decode cX11_fault 18 = .ok (.goto 4, 3) := by decide +kernel
theorem dX11_fault_21 : decode cX11_fault 21 = .ok (.iconst (-1), 1) := by decide +kernel
theorem dX11_fault_22 : decode cX11_fault 22 = .ok (.ireturn, 1) := by decide +kernel
theorem dX11_member_0 : decode cX11_member 0 = .ok (.aload_n 0, 1) := by decide +kernel
theorem dX11_member_1 : decode cX11_member 1 = .ok (.iload_n 1, 1) := by decide +kernel
theorem dX11_member_2 : decode cX11_member 2 = .ok (.invokevirtual 113, 3) := by decide +kernel
theorem dX11_member_5 : decode cX11_member 5 = .ok (.iload_n 2, 1) := by decide +kernel
theorem dX11_member_6 : decode cX11_member 6 = .ok (.tableswitch 116 0 5 #[38, 50, 59, 71, 90, 107], 38) := by decide +kernel
theorem dX11_member_44 : decode cX11_member 44 = .ok (.aload_n 0, 1) := by decide +kernel
theorem dX11_member_45 : decode cX11_member 45 = .ok (.getfield 34, 3) := by decide +kernel
theorem dX11_member_48 : decode cX11_member 48 = .ok (.getfield 116, 3) := by decide +kernel
theorem dX11_member_51 : decode cX11_member 51 = .ok (.iload_n 1, 1) := by decide +kernel
theorem dX11_member_52 : decode cX11_member 52 = .ok (.invokestatic 119, 3) := by decide +kernel
theorem dX11_member_55 : decode cX11_member 55 = .ok (.ireturn, 1) := by decide +kernel
theorem dX11_member_56 : decode cX11_member 56 = .ok (.aload_n 0, 1) := by decide +kernel
theorem dX11_member_57 : decode cX11_member 57 = .ok (.getfield 34, 3) := by decide +kernel
theorem dX11_member_60 : decode cX11_member 60 = .ok (.iload_n 1, 1) := by decide +kernel
theorem dX11_member_61 : decode cX11_member 61 = .ok (.invokevirtual 125, 3) := by decide +kernel
theorem dX11_member_64 : decode cX11_member 64 = .ok (.ireturn, 1) := by decide +kernel
theorem dX11_member_65 : decode cX11_member 65 = .ok (.aload_n 0, 1) := by decide +kernel
theorem dX11_member_66 : decode cX11_member 66 = .ok (.getfield 34, 3) := by decide +kernel
theorem dX11_member_69 : decode cX11_member 69 = .ok (.getfield 129, 3) := by decide +kernel
theorem dX11_member_72 : decode cX11_member 72 = .ok (.iload_n 1, 1) := by decide +kernel
theorem dX11_member_73 : decode cX11_member 73 = .ok (.invokestatic 119, 3) := by decide +kernel
theorem dX11_member_76 : decode cX11_member 76 = .ok (.ireturn, 1) := by decide +kernel
theorem dX11_member_77 : decode cX11_member 77 = .ok (.aload_n 0, 1) := by decide +kernel
theorem dX11_member_78 : decode cX11_member 78 = .ok (.getfield 34, 3) := by decide +kernel
theorem dX11_member_81 : decode cX11_member 81 = .ok (.aload_n 0, 1) := by decide +kernel
theorem dX11_member_82 : decode cX11_member 82 = .ok (.getfield 34, 3) := by decide +kernel
theorem dX11_member_85 : decode cX11_member 85 = .ok (.getfield 116, 3) := by decide +kernel
theorem dX11_member_88 : decode cX11_member 88 = .ok (.invokevirtual 132, 3) := by decide +kernel
theorem dX11_member_91 : decode cX11_member 91 = .ok (.iload_n 1, 1) := by decide +kernel
theorem dX11_member_92 : decode cX11_member 92 = .ok (.invokestatic 136, 3) := by decide +kernel
theorem dX11_member_95 : decode cX11_member 95 = .ok (.ireturn, 1) := by decide +kernel
theorem dX11_member_96 : decode cX11_member 96 = .ok (.aload_n 0, 1) := by decide +kernel
theorem dX11_member_97 : decode cX11_member 97 = .ok (.getfield 34, 3) := by decide +kernel
theorem dX11_member_100 : decode cX11_member 100 = .ok (.iload_n 1, 1) := by decide +kernel
theorem dX11_member_101 : decode cX11_member 101 = .ok (.invokevirtual 140, 3) := by decide +kernel
theorem dX11_member_104 : decode cX11_member 104 = .ok (.ifCond .eq 7, 3) := by decide +kernel
theorem dX11_member_107 : decode cX11_member 107 = .ok (.iconst 1, 1) := by decide +kernel
theorem dX11_member_108 : decode cX11_member 108 = .ok (.goto 4, 3) := by decide +kernel
theorem dX11_member_111 : decode cX11_member 111 = .ok (.iconst 0, 1) := by decide +kernel
theorem dX11_member_112 : decode cX11_member 112 = .ok (.ireturn, 1) := by decide +kernel
theorem dX11_member_113 : decode cX11_member 113 = .ok (.aload_n 0, 1) := by decide +kernel
theorem dX11_member_114 : decode cX11_member 114 = .ok (.getfield 34, 3) := by decide +kernel
theorem dX11_member_117 : decode cX11_member 117 = .ok (.iload_n 1, 1) := by decide +kernel
theorem dX11_member_118 : decode cX11_member 118 = .ok (.invokevirtual 144, 3) := by decide +kernel
theorem dX11_member_121 : decode cX11_member 121 = .ok (.ireturn, 1) := by decide +kernel
theorem dX11_member_122 : decode cX11_member 122 = .ok (.new 87, 3) := by decide +kernel
theorem dX11_member_125 : decode cX11_member 125 = .ok (.dup, 1) := by decide +kernel
theorem dX11_member_126 : decode cX11_member 126 = .ok (.ldc 147, 2) := by decide +kernel
theorem dX11_member_128 : decode cX11_member 128 = .ok (.invokespecial 91, 3) := by decide +kernel
theorem dX11_member_131 : decode cX11_member 131 = .ok (.athrow, 1) := by decide +kernel
theorem dX11_chair_0 : decode cX11_chair 0 = .ok (.aload_n 0, 1) := by decide +kernel
theorem dX11_chair_1 : decode cX11_chair 1 = .ok (.getfield 34, 3) := by decide +kernel
theorem dX11_chair_4 : decode cX11_chair 4 = .ok (.aload_n 0, 1) := by decide +kernel
theorem dX11_chair_5 : decode cX11_chair 5 = .ok (.getfield 34, 3) := by decide +kernel
theorem dX11_chair_8 : decode cX11_chair 8 = .ok (.getfield 116, 3) := by decide +kernel
theorem dX11_chair_11 : decode cX11_chair 11 = .ok (.invokevirtual 149, 3) := by decide +kernel
theorem dX11_chair_14 : decode cX11_chair 14 = .ok (.ireturn, 1) := by decide +kernel
theorem dX11_drags_0 : decode cX11_drags 0 = .ok (.aload_n 0, 1) := by decide +kernel
theorem dX11_drags_1 : decode cX11_drags 1 = .ok (.iload_n 1, 1) := by decide +kernel
theorem dX11_drags_2 : decode cX11_drags 2 = .ok (.invokevirtual 113, 3) := by decide +kernel
theorem dX11_drags_5 : decode cX11_drags 5 = .ok (.aload_n 0, 1) := by decide +kernel
theorem dX11_drags_6 : decode cX11_drags 6 = .ok (.getfield 34, 3) := by decide +kernel
theorem dX11_drags_9 : decode cX11_drags 9 = .ok (.iload_n 1, 1) := by decide +kernel
theorem dX11_drags_10 : decode cX11_drags 10 = .ok (.invokevirtual 152, 3) := by decide +kernel
theorem dX11_drags_13 : decode cX11_drags 13 = .ok (.ireturn, 1) := by decide +kernel
theorem dX11_goes_0 : decode cX11_goes 0 = .ok (.aload_n 0, 1) := by decide +kernel
theorem dX11_goes_1 : decode cX11_goes 1 = .ok (.iload_n 1, 1) := by decide +kernel
theorem dX11_goes_2 : decode cX11_goes 2 = .ok (.invokevirtual 113, 3) := by decide +kernel
theorem dX11_goes_5 : decode cX11_goes 5 = .ok (.aload_n 0, 1) := by decide +kernel
theorem dX11_goes_6 : decode cX11_goes 6 = .ok (.getfield 34, 3) := by decide +kernel
theorem dX11_goes_9 : decode cX11_goes 9 = .ok (.iload_n 1, 1) := by decide +kernel
theorem dX11_goes_10 : decode cX11_goes 10 = .ok (.invokevirtual 140, 3) := by decide +kernel
theorem dX11_goes_13 : decode cX11_goes 13 = .ok (.ifCond .eq 5, 3) := by decide +kernel
theorem dX11_goes_16 : decode cX11_goes 16 = .ok (.iconst 0, 1) := by decide +kernel
theorem dX11_goes_17 : decode cX11_goes 17 = .ok (.ireturn, 1) := by decide +kernel
theorem dX11_goes_18 : decode cX11_goes 18 = .ok (.aload_n 0, 1) := by decide +kernel
theorem dX11_goes_19 : decode cX11_goes 19 = .ok (.getfield 34, 3) := by decide +kernel
theorem dX11_goes_22 : decode cX11_goes 22 = .ok (.aload_n 0, 1) := by decide +kernel
theorem dX11_goes_23 : decode cX11_goes 23 = .ok (.getfield 34, 3) := by decide +kernel
theorem dX11_goes_26 : decode cX11_goes 26 = .ok (.getfield 116, 3) := by decide +kernel
theorem dX11_goes_29 : decode cX11_goes 29 = .ok (.invokevirtual 132, 3) := by decide +kernel
theorem dX11_goes_32 : decode cX11_goes 32 = .ok (.iload_n 1, 1) := by decide +kernel
theorem dX11_goes_33 : decode cX11_goes 33 = .ok (.invokestatic 136, 3) := by decide +kernel
theorem dX11_goes_36 : decode cX11_goes 36 = .ok (.istore_n 2, 1) := by decide +kernel
theorem dX11_goes_37 : decode cX11_goes 37 = .ok (.aload_n 0, 1) := by decide +kernel
theorem dX11_goes_38 : decode cX11_goes 38 = .ok (.getfield 34, 3) := by decide +kernel
theorem dX11_goes_41 : decode cX11_goes 41 = .ok (.iload_n 1, 1) := by decide +kernel
theorem dX11_goes_42 : decode cX11_goes 42 = .ok (.aload_n 0, 1) := by decide +kernel
theorem dX11_goes_43 : decode cX11_goes 43 = .ok (.getfield 34, 3) := by decide +kernel
theorem dX11_goes_46 : decode cX11_goes 46 = .ok (.getfield 116, 3) := by decide +kernel
theorem dX11_goes_49 : decode cX11_goes 49 = .ok (.iload_n 1, 1) := by decide +kernel
theorem dX11_goes_50 : decode cX11_goes 50 = .ok (.invokestatic 119, 3) := by decide +kernel
theorem dX11_goes_53 : decode cX11_goes 53 = .ok (.iload_n 2, 1) := by decide +kernel
theorem dX11_goes_54 : decode cX11_goes 54 = .ok (.invokevirtual 155, 3) := by decide +kernel
theorem dX11_goes_57 : decode cX11_goes 57 = .ok (.ireturn, 1) := by decide +kernel
theorem dX11_turn_0 : decode cX11_turn 0 = .ok (.aload_n 0, 1) := by decide +kernel
theorem dX11_turn_1 : decode cX11_turn 1 = .ok (.getfield 34, 3) := by decide +kernel
theorem dX11_turn_4 : decode cX11_turn 4 = .ok (.iload_n 1, 1) := by decide +kernel
theorem dX11_turn_5 : decode cX11_turn 5 = .ok (.iload_n 2, 1) := by decide +kernel
theorem dX11_turn_6 : decode cX11_turn 6 = .ok (.invokevirtual 159, 3) := by decide +kernel
theorem dX11_turn_9 : decode cX11_turn 9 = .ok (.istore_n 3, 1) := by decide +kernel
theorem dX11_turn_10 : decode cX11_turn 10 = .ok (.iload_n 3, 1) := by decide +kernel
theorem dX11_turn_11 : decode cX11_turn 11 = .ok (.ifCond .ne 16, 3) := by decide +kernel
theorem dX11_turn_14 : decode cX11_turn 14 = .ok (.iload_n 2, 1) := by decide +kernel
theorem dX11_turn_15 : decode cX11_turn 15 = .ok (.aload_n 0, 1) := by decide +kernel
theorem dX11_turn_16 : decode cX11_turn 16 = .ok (.getfield 34, 3) := by decide +kernel
theorem dX11_turn_19 : decode cX11_turn 19 = .ok (.iload_n 1, 1) := by decide +kernel
theorem dX11_turn_20 : decode cX11_turn 20 = .ok (.invokevirtual 144, 3) := by decide +kernel
theorem dX11_turn_23 : decode cX11_turn 23 = .ok (.imul, 1) := by decide +kernel
theorem dX11_turn_24 : decode cX11_turn 24 = .ok (.goto 5, 3) := by decide +kernel
theorem dX11_turn_27 : decode cX11_turn 27 = .ok (.iload_n 3, 1) := by decide +kernel
theorem dX11_turn_28 : decode cX11_turn 28 = .ok (.ineg, 1) := by decide +kernel
theorem dX11_turn_29 : decode cX11_turn 29 = .ok (.ireturn, 1) := by decide +kernel
theorem dX11_weigh_0 : decode cX11_weigh 0 = .ok (.aload_n 0, 1) := by decide +kernel
theorem dX11_weigh_1 : decode cX11_weigh 1 = .ok (.getfield 34, 3) := by decide +kernel
theorem dX11_weigh_4 : decode cX11_weigh 4 = .ok (.iload_n 1, 1) := by decide +kernel
theorem dX11_weigh_5 : decode cX11_weigh 5 = .ok (.invokevirtual 162, 3) := by decide +kernel
theorem dX11_weigh_8 : decode cX11_weigh 8 = .ok (.ifCond .eq 17, 3) := by decide +kernel
theorem dX11_weigh_11 : decode cX11_weigh 11 = .ok (.aload_n 0, 1) := by decide +kernel
theorem dX11_weigh_12 : decode cX11_weigh 12 = .ok (.getfield 34, 3) := by decide +kernel
theorem dX11_weigh_15 : decode cX11_weigh 15 = .ok (.getfield 129, 3) := by decide +kernel
theorem dX11_weigh_18 : decode cX11_weigh 18 = .ok (.iload_n 1, 1) := by decide +kernel
theorem dX11_weigh_19 : decode cX11_weigh 19 = .ok (.invokestatic 119, 3) := by decide +kernel
theorem dX11_weigh_22 : decode cX11_weigh 22 = .ok (.goto 4, 3) := by decide +kernel
theorem dX11_weigh_25 : decode cX11_weigh 25 = .ok (.iconst 0, 1) := by decide +kernel
theorem dX11_weigh_26 : decode cX11_weigh 26 = .ok (.istore_n 3, 1) := by decide +kernel
theorem dX11_weigh_27 : decode cX11_weigh 27 = .ok (.aload_n 0, 1) := by decide +kernel
theorem dX11_weigh_28 : decode cX11_weigh 28 = .ok (.getfield 34, 3) := by decide +kernel
theorem dX11_weigh_31 : decode cX11_weigh 31 = .ok (.iload_n 1, 1) := by decide +kernel
theorem dX11_weigh_32 : decode cX11_weigh 32 = .ok (.iload_n 2, 1) := by decide +kernel
theorem dX11_weigh_33 : decode cX11_weigh 33 = .ok (.invokevirtual 165, 3) := by decide +kernel
theorem dX11_weigh_36 : decode cX11_weigh 36 = .ok (.istore 4, 2) := by decide +kernel
theorem dX11_weigh_38 : decode cX11_weigh 38 = .ok (.iload 4, 2) := by decide +kernel
theorem dX11_weigh_40 : decode cX11_weigh 40 = .ok (.ifCond .ne 7, 3) := by decide +kernel
theorem dX11_weigh_43 : decode cX11_weigh 43 = .ok (.iload_n 3, 1) := by decide +kernel
theorem dX11_weigh_44 : decode cX11_weigh 44 = .ok (.goto 6, 3) := by decide +kernel
theorem dX11_weigh_47 : decode cX11_weigh 47 = .ok (.iload 4, 2) := by decide +kernel
theorem dX11_weigh_49 : decode cX11_weigh 49 = .ok (.ineg, 1) := by decide +kernel
theorem dX11_weigh_50 : decode cX11_weigh 50 = .ok (.ireturn, 1) := by decide +kernel
theorem dX11_stick_0 : decode cX11_stick 0 = .ok (.aload_n 0, 1) := by decide +kernel
theorem dX11_stick_1 : decode cX11_stick 1 = .ok (.getfield 34, 3) := by decide +kernel
theorem dX11_stick_4 : decode cX11_stick 4 = .ok (.iload_n 1, 1) := by decide +kernel
theorem dX11_stick_5 : decode cX11_stick 5 = .ok (.invokevirtual 168, 3) := by decide +kernel
theorem dX11_stick_8 : decode cX11_stick 8 = .ok (.istore_n 2, 1) := by decide +kernel
theorem dX11_stick_9 : decode cX11_stick 9 = .ok (.iload_n 2, 1) := by decide +kernel
theorem dX11_stick_10 : decode cX11_stick 10 = .ok (.ifCond .eq 6, 3) := by decide +kernel
theorem dX11_stick_13 : decode cX11_stick 13 = .ok (.iload_n 2, 1) := by decide +kernel
theorem dX11_stick_14 : decode cX11_stick 14 = .ok (.ineg, 1) := by decide +kernel
theorem dX11_stick_15 : decode cX11_stick 15 = .ok (.ireturn, 1) := by decide +kernel
theorem dX11_stick_16 : decode cX11_stick 16 = .ok (.aload_n 0, 1) := by decide +kernel
theorem dX11_stick_17 : decode cX11_stick 17 = .ok (.getfield 34, 3) := by decide +kernel
theorem dX11_stick_20 : decode cX11_stick 20 = .ok (.iload_n 1, 1) := by decide +kernel
theorem dX11_stick_21 : decode cX11_stick 21 = .ok (.invokevirtual 140, 3) := by decide +kernel
theorem dX11_stick_24 : decode cX11_stick 24 = .ok (.ifCond .eq 7, 3) := by decide +kernel
theorem dX11_stick_27 : decode cX11_stick 27 = .ok (.iconst 1, 1) := by decide +kernel
theorem dX11_stick_28 : decode cX11_stick 28 = .ok (.goto 4, 3) := by decide +kernel
theorem dX11_stick_31 : decode cX11_stick 31 = .ok (.iconst 0, 1) := by decide +kernel
theorem dX11_stick_32 : decode cX11_stick 32 = .ok (.ireturn, 1) := by decide +kernel
theorem dX11_minutes_0 : decode cX11_minutes 0 = .ok (.iload_n 1, 1) := by decide +kernel
theorem dX11_minutes_1 : decode cX11_minutes 1 = .ok (.iconst 1, 1) := by decide +kernel
theorem dX11_minutes_2 : decode cX11_minutes 2 = .ok (.if_icmp .lt 9, 3) := by decide +kernel
theorem dX11_minutes_5 : decode cX11_minutes 5 = .ok (.iload_n 1, 1) := by decide +kernel
theorem dX11_minutes_6 : decode cX11_minutes 6 = .ok (.bipush 99, 2) := by decide +kernel
theorem dX11_minutes_8 : decode cX11_minutes 8 = .ok (.if_icmp .le 13, 3) := by decide +kernel
theorem dX11_minutes_11 : decode cX11_minutes 11 = .ok (.new 87, 3) := by decide +kernel
theorem dX11_minutes_14 : decode cX11_minutes 14 = .ok (.dup, 1) := by decide +kernel
theorem dX11_minutes_15 : decode cX11_minutes 15 = .ok (.ldc 171, 2) := by decide +kernel
theorem dX11_minutes_17 : decode cX11_minutes 17 = .ok (.invokespecial 91, 3) := by decide +kernel
theorem dX11_minutes_20 : decode cX11_minutes 20 = .ok (.athrow, 1) := by decide +kernel
theorem dX11_minutes_21 : decode cX11_minutes 21 = .ok (.aload_n 0, 1) := by decide +kernel
theorem dX11_minutes_22 : decode cX11_minutes 22 = .ok (.getfield 34, 3) := by decide +kernel
theorem dX11_minutes_25 : decode cX11_minutes 25 = .ok (.invokevirtual 173, 3) := by decide +kernel
theorem dX11_minutes_28 : decode cX11_minutes 28 = .ok (.iconst 0, 1) := by decide +kernel
theorem dX11_minutes_29 : decode cX11_minutes 29 = .ok (.istore_n 2, 1) := by decide +kernel
theorem dX11_minutes_30 : decode cX11_minutes 30 = .ok (.aload_n 0, 1) := by decide +kernel
theorem dX11_minutes_31 : decode cX11_minutes 31 = .ok (.getfield 34, 3) := by decide +kernel
theorem dX11_minutes_34 : decode cX11_minutes 34 = .ok (.aload_n 0, 1) := by decide +kernel
theorem dX11_minutes_35 : decode cX11_minutes 35 = .ok (.getfield 34, 3) := by decide +kernel
theorem dX11_minutes_38 : decode cX11_minutes 38 = .ok (.getfield 116, 3) := by decide +kernel
theorem dX11_minutes_41 : decode cX11_minutes 41 = .ok (.invokevirtual 149, 3) := by decide +kernel
theorem dX11_minutes_44 : decode cX11_minutes 44 = .ok (.istore_n 3, 1) := by decide +kernel
theorem dX11_minutes_45 : decode cX11_minutes 45 = .ok (.iconst 0, 1) := by decide +kernel
theorem dX11_minutes_46 : decode cX11_minutes 46 = .ok (.istore 4, 2) := by decide +kernel
theorem dX11_minutes_48 : decode cX11_minutes 48 = .ok (.iload 4, 2) := by decide +kernel
theorem dX11_minutes_50 : decode cX11_minutes 50 = .ok (.iload_n 1, 1) := by decide +kernel
theorem dX11_minutes_51 : decode cX11_minutes 51 = .ok (.if_icmp .ge 44, 3) := by decide +kernel
theorem dX11_minutes_54 : decode cX11_minutes 54 = .ok (.aload_n 0, 1) := by decide +kernel
theorem dX11_minutes_55 : decode cX11_minutes 55 = .ok (.getfield 34, 3) := by decide +kernel
theorem dX11_minutes_58 : decode cX11_minutes 58 = .ok (.invokevirtual 176, 3) := by decide +kernel
theorem dX11_minutes_61 : decode cX11_minutes 61 = .ok (.aload_n 0, 1) := by decide +kernel
theorem dX11_minutes_62 : decode cX11_minutes 62 = .ok (.getfield 34, 3) := by decide +kernel
theorem dX11_minutes_65 : decode cX11_minutes 65 = .ok (.aload_n 0, 1) := by decide +kernel
theorem dX11_minutes_66 : decode cX11_minutes 66 = .ok (.getfield 34, 3) := by decide +kernel
theorem dX11_minutes_69 : decode cX11_minutes 69 = .ok (.getfield 116, 3) := by decide +kernel
theorem dX11_minutes_72 : decode cX11_minutes 72 = .ok (.invokevirtual 149, 3) := by decide +kernel
theorem dX11_minutes_75 : decode cX11_minutes 75 = .ok (.istore 5, 2) := by decide +kernel
theorem dX11_minutes_77 : decode cX11_minutes 77 = .ok (.iload 5, 2) := by decide +kernel
theorem dX11_minutes_79 : decode cX11_minutes 79 = .ok (.iload_n 3, 1) := by decide +kernel
theorem dX11_minutes_80 : decode cX11_minutes 80 = .ok (.if_icmp .eq 6, 3) := by decide +kernel
theorem dX11_minutes_83 : decode cX11_minutes 83 = .ok (.iinc 2 1, 3) := by decide +kernel
theorem dX11_minutes_86 : decode cX11_minutes 86 = .ok (.iload 5, 2) := by decide +kernel
theorem dX11_minutes_88 : decode cX11_minutes 88 = .ok (.istore_n 3, 1) := by decide +kernel
theorem dX11_minutes_89 : decode cX11_minutes 89 = .ok (.iinc 4 1, 3) := by decide +kernel
theorem dX11_minutes_92 : decode cX11_minutes 92 = .ok (.goto (-44), 3) := by decide +kernel
theorem dX11_minutes_95 : decode cX11_minutes 95 = .ok (.iload_n 2, 1) := by decide +kernel
theorem dX11_minutes_96 : decode cX11_minutes 96 = .ok (.ireturn, 1) := by decide +kernel
theorem dX11_undo_0 : decode cX11_undo 0 = .ok (.iload_n 1, 1) := by decide +kernel
theorem dX11_undo_1 : decode cX11_undo 1 = .ok (.iconst 1, 1) := by decide +kernel
theorem dX11_undo_2 : decode cX11_undo 2 = .ok (.if_icmp .lt 20, 3) := by decide +kernel
theorem dX11_undo_5 : decode cX11_undo 5 = .ok (.iload_n 1, 1) := by decide +kernel
theorem dX11_undo_6 : decode cX11_undo 6 = .ok (.bipush 10, 2) := by decide +kernel
theorem dX11_undo_8 : decode cX11_undo 8 = .ok (.if_icmp .gt 14, 3) := by decide +kernel
theorem dX11_undo_11 : decode cX11_undo 11 = .ok (.iload_n 1, 1) := by decide +kernel
theorem dX11_undo_12 : decode cX11_undo 12 = .ok (.aload_n 0, 1) := by decide +kernel
theorem dX11_undo_13 : decode cX11_undo 13 = .ok (.getfield 34, 3) := by decide +kernel
theorem dX11_undo_16 : decode cX11_undo 16 = .ok (.getfield 179, 3) := by decide +kernel
theorem dX11_undo_19 : decode cX11_undo 19 = .ok (.if_icmp .le 13, 3) := by decide +kernel
theorem dX11_undo_22 : decode cX11_undo 22 = .ok (.new 87, 3) := by decide +kernel
theorem dX11_undo_25 : decode cX11_undo 25 = .ok (.dup, 1) := by decide +kernel
theorem dX11_undo_26 : decode cX11_undo 26 = .ok (.ldc 182, 2) := by decide +kernel
theorem dX11_undo_28 : decode cX11_undo 28 = .ok (.invokespecial 91, 3) := by decide +kernel
theorem dX11_undo_31 : decode cX11_undo 31 = .ok (.athrow, 1) := by decide +kernel
theorem dX11_undo_32 : decode cX11_undo 32 = .ok (.iconst 0, 1) := by decide +kernel
theorem dX11_undo_33 : decode cX11_undo 33 = .ok (.istore_n 2, 1) := by decide +kernel
theorem dX11_undo_34 : decode cX11_undo 34 = .ok (.iload_n 2, 1) := by decide +kernel
theorem dX11_undo_35 : decode cX11_undo 35 = .ok (.iload_n 1, 1) := by decide +kernel
theorem dX11_undo_36 : decode cX11_undo 36 = .ok (.if_icmp .ge 16, 3) := by decide +kernel
theorem dX11_undo_39 : decode cX11_undo 39 = .ok (.aload_n 0, 1) := by decide +kernel
theorem dX11_undo_40 : decode cX11_undo 40 = .ok (.getfield 34, 3) := by decide +kernel
theorem dX11_undo_43 : decode cX11_undo 43 = .ok (.invokevirtual 184, 3) := by decide +kernel
theorem dX11_undo_46 : decode cX11_undo 46 = .ok (.iinc 2 1, 3) := by decide +kernel
theorem dX11_undo_49 : decode cX11_undo 49 = .ok (.goto (-15), 3) := by decide +kernel
theorem dX11_undo_52 : decode cX11_undo 52 = .ok (.aload_n 0, 1) := by decide +kernel
theorem dX11_undo_53 : decode cX11_undo 53 = .ok (.getfield 34, 3) := by decide +kernel
theorem dX11_undo_56 : decode cX11_undo 56 = .ok (.getfield 179, 3) := by decide +kernel
theorem dX11_undo_59 : decode cX11_undo 59 = .ok (.ireturn, 1) := by decide +kernel
theorem dX11_judge_0 : decode cX11_judge 0 = .ok (.aload_n 0, 1) := by decide +kernel
theorem dX11_judge_1 : decode cX11_judge 1 = .ok (.iload_n 1, 1) := by decide +kernel
theorem dX11_judge_2 : decode cX11_judge 2 = .ok (.invokevirtual 187, 3) := by decide +kernel
theorem dX11_judge_5 : decode cX11_judge 5 = .ok (.astore_n 3, 1) := by decide +kernel
theorem dX11_judge_6 : decode cX11_judge 6 = .ok (.iload_n 2, 1) := by decide +kernel
theorem dX11_judge_7 : decode cX11_judge 7 = .ok (.ifCond .lt 8, 3) := by decide +kernel
theorem dX11_judge_10 : decode cX11_judge 10 = .ok (.iload_n 2, 1) := by decide +kernel
theorem dX11_judge_11 : decode cX11_judge 11 = .ok (.iconst 3, 1) := by decide +kernel
theorem dX11_judge_12 : decode cX11_judge 12 = .ok (.if_icmp .le 13, 3) := by decide +kernel
theorem dX11_judge_15 : decode cX11_judge 15 = .ok (.new 87, 3) := by decide +kernel
theorem dX11_judge_18 : decode cX11_judge 18 = .ok (.dup, 1) := by decide +kernel
theorem dX11_judge_19 : decode cX11_judge 19 = .ok (.ldc 191, 2) := by decide +kernel
theorem dX11_judge_21 : decode cX11_judge 21 = .ok (.invokespecial 91, 3) := by decide +kernel
theorem dX11_judge_24 : decode cX11_judge 24 = .ok (.athrow, 1) := by decide +kernel
theorem dX11_judge_25 : decode cX11_judge 25 = .ok (.aload_n 0, 1) := by decide +kernel
theorem dX11_judge_26 : decode cX11_judge 26 = .ok (.getfield 38, 3) := by decide +kernel
theorem dX11_judge_29 : decode cX11_judge 29 = .ok (.aload_n 0, 1) := by decide +kernel
theorem dX11_judge_30 : decode cX11_judge 30 = .ok (.getfield 34, 3) := by decide +kernel
theorem dX11_judge_33 : decode cX11_judge 33 = .ok (.invokevirtual 193, 3) := by decide +kernel
theorem dX11_judge_36 : decode cX11_judge 36 = .ok (.iconst 0, 1) := by decide +kernel
theorem dX11_judge_37 : decode cX11_judge 37 = .ok (.istore 4, 2) := by decide +kernel
theorem dX11_judge_39 : decode cX11_judge 39 = .ok (.iconst (-1), 1) := by decide +kernel
theorem dX11_judge_40 : decode cX11_judge 40 = .ok (.istore 5, 2) := by decide +kernel
theorem dX11_judge_42 : decode cX11_judge 42 = .ok (.iconst 0, 1) := by decide +kernel
theorem dX11_judge_43 : decode cX11_judge 43 = .ok (.istore 6, 2) := by decide +kernel
theorem dX11_judge_45 : decode cX11_judge 45 = .ok (.iload 6, 2) := by decide +kernel
theorem dX11_judge_47 : decode cX11_judge 47 = .ok (.aload_n 3, 1) := by decide +kernel
theorem dX11_judge_48 : decode cX11_judge 48 = .ok (.getfield 196, 3) := by decide +kernel
theorem dX11_judge_51 : decode cX11_judge 51 = .ok (.if_icmp .ge 42, 3) := by decide +kernel
theorem dX11_judge_54 : decode cX11_judge 54 = .ok (.iload 4, 2) := by decide +kernel
theorem dX11_judge_56 : decode cX11_judge 56 = .ok (.ifCond .ne 37, 3) := by decide +kernel
theorem dX11_judge_59 : decode cX11_judge 59 = .ok (.aload_n 0, 1) := by decide +kernel
theorem dX11_judge_60 : decode cX11_judge 60 = .ok (.getfield 38, 3) := by decide +kernel
theorem dX11_judge_63 : decode cX11_judge 63 = .ok (.aload_n 3, 1) := by decide +kernel
theorem dX11_judge_64 : decode cX11_judge 64 = .ok (.iload 6, 2) := by decide +kernel
theorem dX11_judge_66 : decode cX11_judge 66 = .ok (.invokevirtual 199, 3) := by decide +kernel
theorem dX11_judge_69 : decode cX11_judge 69 = .ok (.invokevirtual 202, 3) := by decide +kernel
theorem dX11_judge_72 : decode cX11_judge 72 = .ok (.istore 4, 2) := by decide +kernel
theorem dX11_judge_74 : decode cX11_judge 74 = .ok (.iload 4, 2) := by decide +kernel
theorem dX11_judge_76 : decode cX11_judge 76 = .ok (.ifCond .ne 7, 3) := by decide +kernel
theorem dX11_judge_79 : decode cX11_judge 79 = .ok (.iconst (-1), 1) := by decide +kernel
theorem dX11_judge_80 : decode cX11_judge 80 = .ok (.goto 5, 3) := by decide +kernel
theorem dX11_judge_83 : decode cX11_judge 83 = .ok (.iload 6, 2) := by decide +kernel
theorem dX11_judge_85 : decode cX11_judge 85 = .ok (.istore 5, 2) := by decide +kernel
theorem dX11_judge_87 : decode cX11_judge 87 = .ok (.iinc 6 1, 3) := by decide +kernel
theorem dX11_judge_90 : decode cX11_judge 90 = .ok (.goto (-45), 3) := by decide +kernel
theorem dX11_judge_93 : decode cX11_judge 93 = .ok (.iload_n 2, 1) := by decide +kernel
theorem dX11_judge_94 : decode cX11_judge 94 = .ok (.tableswitch 47 0 2 #[26, 29, 32], 26) := by decide +kernel
theorem dX11_judge_120 : decode cX11_judge 120 = .ok (.iload 5, 2) := by decide +kernel
theorem dX11_judge_122 : decode cX11_judge 122 = .ok (.ireturn, 1) := by decide +kernel
theorem dX11_judge_123 : decode cX11_judge 123 = .ok (.iload 4, 2) := by decide +kernel
theorem dX11_judge_125 : decode cX11_judge 125 = .ok (.ireturn, 1) := by decide +kernel
theorem dX11_judge_126 : decode cX11_judge 126 = .ok (.aload_n 0, 1) := by decide +kernel
theorem dX11_judge_127 : decode cX11_judge 127 = .ok (.getfield 38, 3) := by decide +kernel
theorem dX11_judge_130 : decode cX11_judge 130 = .ok (.aload_n 0, 1) := by decide +kernel
theorem dX11_judge_131 : decode cX11_judge 131 = .ok (.getfield 38, 3) := by decide +kernel
theorem dX11_judge_134 : decode cX11_judge 134 = .ok (.getfield 116, 3) := by decide +kernel
theorem dX11_judge_137 : decode cX11_judge 137 = .ok (.invokevirtual 149, 3) := by decide +kernel
theorem dX11_judge_140 : decode cX11_judge 140 = .ok (.ireturn, 1) := by decide +kernel
theorem dX11_judge_141 : decode cX11_judge 141 = .ok (.aload_n 0, 1) := by decide +kernel
theorem dX11_judge_142 : decode cX11_judge 142 = .ok (.getfield 38, 3) := by decide +kernel
theorem dX11_judge_145 : decode cX11_judge 145 = .ok (.getfield 206, 3) := by decide +kernel
theorem dX11_judge_148 : decode cX11_judge 148 = .ok (.ireturn, 1) := by decide +kernel
theorem dX11_perform_0 : decode cX11_perform 0 = .ok (.aload_n 0, 1) := by decide +kernel
theorem dX11_perform_1 : decode cX11_perform 1 = .ok (.iload_n 1, 1) := by decide +kernel
theorem dX11_perform_2 : decode cX11_perform 2 = .ok (.invokevirtual 187, 3) := by decide +kernel
theorem dX11_perform_5 : decode cX11_perform 5 = .ok (.astore_n 2, 1) := by decide +kernel
theorem dX11_perform_6 : decode cX11_perform 6 = .ok (.iconst 0, 1) := by decide +kernel
theorem dX11_perform_7 : decode cX11_perform 7 = .ok (.istore_n 3, 1) := by decide +kernel
theorem dX11_perform_8 : decode cX11_perform 8 = .ok (.iload_n 3, 1) := by decide +kernel
theorem dX11_perform_9 : decode cX11_perform 9 = .ok (.aload_n 2, 1) := by decide +kernel
theorem dX11_perform_10 : decode cX11_perform 10 = .ok (.getfield 196, 3) := by decide +kernel
theorem dX11_perform_13 : decode cX11_perform 13 = .ok (.if_icmp .ge 24, 3) := by decide +kernel
theorem dX11_perform_16 : decode cX11_perform 16 = .ok (.aload_n 0, 1) := by decide +kernel
theorem dX11_perform_17 : decode cX11_perform 17 = .ok (.getfield 34, 3) := by decide +kernel
theorem dX11_perform_20 : decode cX11_perform 20 = .ok (.aload_n 2, 1) := by decide +kernel
theorem dX11_perform_21 : decode cX11_perform 21 = .ok (.iload_n 3, 1) := by decide +kernel
theorem dX11_perform_22 : decode cX11_perform 22 = .ok (.invokevirtual 199, 3) := by decide +kernel
theorem dX11_perform_25 : decode cX11_perform 25 = .ok (.invokevirtual 202, 3) := by decide +kernel
theorem dX11_perform_28 : decode cX11_perform 28 = .ok (.ifCond .ne 9, 3) := by decide +kernel
theorem dX11_perform_31 : decode cX11_perform 31 = .ok (.iinc 3 1, 3) := by decide +kernel
theorem dX11_perform_34 : decode cX11_perform 34 = .ok (.goto (-26), 3) := by decide +kernel
theorem dX11_perform_37 : decode cX11_perform 37 = .ok (.iload_n 3, 1) := by decide +kernel
theorem dX11_perform_38 : decode cX11_perform 38 = .ok (.ireturn, 1) := by decide +kernel
theorem dX11_session_0 : decode cX11_session 0 = .ok (.iload_n 2, 1) := by decide +kernel
theorem dX11_session_1 : decode cX11_session 1 = .ok (.iconst 1, 1) := by decide +kernel
theorem dX11_session_2 : decode cX11_session 2 = .ok (.if_icmp .lt 9, 3) := by decide +kernel
theorem dX11_session_5 : decode cX11_session 5 = .ok (.iload_n 2, 1) := by decide +kernel
theorem dX11_session_6 : decode cX11_session 6 = .ok (.bipush 30, 2) := by decide +kernel
theorem dX11_session_8 : decode cX11_session 8 = .ok (.if_icmp .le 13, 3) := by decide +kernel
theorem dX11_session_11 : decode cX11_session 11 = .ok (.new 87, 3) := by decide +kernel
theorem dX11_session_14 : decode cX11_session 14 = .ok (.dup, 1) := by decide +kernel
theorem dX11_session_15 : decode cX11_session 15 = .ok (.ldc 209, 2) := by decide +kernel
theorem dX11_session_17 : decode cX11_session 17 = .ok (.invokespecial 91, 3) := by decide +kernel
theorem dX11_session_20 : decode cX11_session 20 = .ok (.athrow, 1) := by decide +kernel
theorem dX11_session_21 : decode cX11_session 21 = .ok (.iload_n 1, 1) := by decide +kernel
theorem dX11_session_22 : decode cX11_session 22 = .ok (.istore_n 3, 1) := by decide +kernel
theorem dX11_session_23 : decode cX11_session 23 = .ok (.iconst 0, 1) := by decide +kernel
theorem dX11_session_24 : decode cX11_session 24 = .ok (.istore 4, 2) := by decide +kernel
theorem dX11_session_26 : decode cX11_session 26 = .ok (.iconst 0, 1) := by decide +kernel
theorem dX11_session_27 : decode cX11_session 27 = .ok (.istore 5, 2) := by decide +kernel
theorem dX11_session_29 : decode cX11_session 29 = .ok (.iload 5, 2) := by decide +kernel
theorem dX11_session_31 : decode cX11_session 31 = .ok (.iload_n 2, 1) := by decide +kernel
theorem dX11_session_32 : decode cX11_session 32 = .ok (.if_icmp .ge 101, 3) := by decide +kernel
theorem dX11_session_35 : decode cX11_session 35 = .ok (.iload_n 3, 1) := by decide +kernel
theorem dX11_session_36 : decode cX11_session 36 = .ok (.invokestatic 211, 3) := by decide +kernel
theorem dX11_session_39 : decode cX11_session 39 = .ok (.istore_n 3, 1) := by decide +kernel
theorem dX11_session_40 : decode cX11_session 40 = .ok (.iload_n 3, 1) := by decide +kernel
theorem dX11_session_41 : decode cX11_session 41 = .ok (.bipush 16, 2) := by decide +kernel
theorem dX11_session_43 : decode cX11_session 43 = .ok (.iushr, 1) := by decide +kernel
theorem dX11_session_44 : decode cX11_session 44 = .ok (.iconst 5, 1) := by decide +kernel
theorem dX11_session_45 : decode cX11_session 45 = .ok (.irem, 1) := by decide +kernel
theorem dX11_session_46 : decode cX11_session 46 = .ok (.istore 6, 2) := by decide +kernel
theorem dX11_session_48 : decode cX11_session 48 = .ok (.iconst 0, 1) := by decide +kernel
theorem dX11_session_49 : decode cX11_session 49 = .ok (.istore 7, 2) := by decide +kernel
theorem dX11_session_51 : decode cX11_session 51 = .ok (.iconst 0, 1) := by decide +kernel
theorem dX11_session_52 : decode cX11_session 52 = .ok (.istore 8, 2) := by decide +kernel
theorem dX11_session_54 : decode cX11_session 54 = .ok (.iload 6, 2) := by decide +kernel
theorem dX11_session_56 : decode cX11_session 56 = .ok (.ifCond .eq 17, 3) := by decide +kernel
theorem dX11_session_59 : decode cX11_session 59 = .ok (.iload_n 3, 1) := by decide +kernel
theorem dX11_session_60 : decode cX11_session 60 = .ok (.invokestatic 211, 3) := by decide +kernel
theorem dX11_session_63 : decode cX11_session 63 = .ok (.istore_n 3, 1) := by decide +kernel
theorem dX11_session_64 : decode cX11_session 64 = .ok (.iload_n 3, 1) := by decide +kernel
theorem dX11_session_65 : decode cX11_session 65 = .ok (.bipush 16, 2) := by decide +kernel
theorem dX11_session_67 : decode cX11_session 67 = .ok (.iushr, 1) := by decide +kernel
theorem dX11_session_68 : decode cX11_session 68 = .ok (.bipush 6, 2) := by decide +kernel
theorem dX11_session_70 : decode cX11_session 70 = .ok (.irem, 1) := by decide +kernel
theorem dX11_session_71 : decode cX11_session 71 = .ok (.istore 7, 2) := by decide +kernel
theorem dX11_session_73 : decode cX11_session 73 = .ok (.iload 6, 2) := by decide +kernel
theorem dX11_session_75 : decode cX11_session 75 = .ok (.iconst 1, 1) := by decide +kernel
theorem dX11_session_76 : decode cX11_session 76 = .ok (.if_icmp .lt 35, 3) := by decide +kernel
theorem dX11_session_79 : decode cX11_session 79 = .ok (.iload 6, 2) := by decide +kernel
theorem dX11_session_81 : decode cX11_session 81 = .ok (.iconst 3, 1) := by decide +kernel
theorem dX11_session_82 : decode cX11_session 82 = .ok (.if_icmp .gt 29, 3) := by decide +kernel
theorem dX11_session_85 : decode cX11_session 85 = .ok (.iload_n 3, 1) := by decide +kernel
theorem dX11_session_86 : decode cX11_session 86 = .ok (.invokestatic 211, 3) := by decide +kernel
theorem dX11_session_89 : decode cX11_session 89 = .ok (.istore_n 3, 1) := by decide +kernel
theorem dX11_session_90 : decode cX11_session 90 = .ok (.iconst 1, 1) := by decide +kernel
theorem dX11_session_91 : decode cX11_session 91 = .ok (.iload_n 3, 1) := by decide +kernel
theorem dX11_session_92 : decode cX11_session 92 = .ok (.bipush 16, 2) := by decide +kernel
theorem dX11_session_94 : decode cX11_session 94 = .ok (.iushr, 1) := by decide +kernel
theorem dX11_session_95 : decode cX11_session 95 = .ok (.iload 6, 2) := by decide +kernel
theorem dX11_session_97 : decode cX11_session 97 = .ok (.iconst 3, 1) := by decide +kernel
theorem dX11_session_98 : decode cX11_session 98 = .ok (.if_icmp .ne 8, 3) := by decide +kernel
theorem dX11_session_101 : decode cX11_session 101 = .ok (.bipush 9, 2) := by decide +kernel
theorem dX11_session_103 : decode cX11_session 103 = .ok (.goto 4, 3) := by decide +kernel
theorem dX11_session_106 : decode cX11_session 106 = .ok (.iconst 5, 1) := by decide +kernel
theorem dX11_session_107 : decode cX11_session 107 = .ok (.irem, 1) := by decide +kernel
theorem dX11_session_108 : decode cX11_session 108 = .ok (.iadd, 1) := by decide +kernel
theorem dX11_session_109 : decode cX11_session 109 = .ok (.istore 8, 2) := by decide +kernel
theorem dX11_session_111 : decode cX11_session 111 = .ok (.aload_n 0, 1) := by decide +kernel
theorem dX11_session_112 : decode cX11_session 112 = .ok (.iload 6, 2) := by decide +kernel
theorem dX11_session_114 : decode cX11_session 114 = .ok (.iload 7, 2) := by decide +kernel
theorem dX11_session_116 : decode cX11_session 116 = .ok (.iload 8, 2) := by decide +kernel
theorem dX11_session_118 : decode cX11_session 118 = .ok (.invokevirtual 214, 3) := by decide +kernel
theorem dX11_session_121 : decode cX11_session 121 = .ok (.ifCond .ne 6, 3) := by decide +kernel
theorem dX11_session_124 : decode cX11_session 124 = .ok (.iinc 4 1, 3) := by decide +kernel
theorem dX11_session_127 : decode cX11_session 127 = .ok (.iinc 5 1, 3) := by decide +kernel
theorem dX11_session_130 : decode cX11_session 130 = .ok (.goto (-101), 3) := by decide +kernel
theorem dX11_session_133 : decode cX11_session 133 = .ok (.iload 4, 2) := by decide +kernel
theorem dX11_session_135 : decode cX11_session 135 = .ok (.ireturn, 1) := by decide +kernel
theorem dX11_cheapest_0 : decode cX11_cheapest 0 = .ok (.aload_n 0, 1) := by decide +kernel
theorem dX11_cheapest_1 : decode cX11_cheapest 1 = .ok (.iload_n 1, 1) := by decide +kernel
theorem dX11_cheapest_2 : decode cX11_cheapest 2 = .ok (.invokevirtual 217, 3) := by decide +kernel
theorem dX11_cheapest_5 : decode cX11_cheapest 5 = .ok (.astore_n 3, 1) := by decide +kernel
theorem dX11_cheapest_6 : decode cX11_cheapest 6 = .ok (.aload_n 0, 1) := by decide +kernel
theorem dX11_cheapest_7 : decode cX11_cheapest 7 = .ok (.iload_n 2, 1) := by decide +kernel
theorem dX11_cheapest_8 : decode cX11_cheapest 8 = .ok (.invokevirtual 220, 3) := by decide +kernel
theorem dX11_cheapest_11 : decode cX11_cheapest 11 = .ok (.aload_n 0, 1) := by decide +kernel
theorem dX11_cheapest_12 : decode cX11_cheapest 12 = .ok (.getfield 62, 3) := by decide +kernel
theorem dX11_cheapest_15 : decode cX11_cheapest 15 = .ok (.aload_n 3, 1) := by decide +kernel
theorem dX11_cheapest_16 : decode cX11_cheapest 16 = .ok (.aload_n 0, 1) := by decide +kernel
theorem dX11_cheapest_17 : decode cX11_cheapest 17 = .ok (.getfield 34, 3) := by decide +kernel
theorem dX11_cheapest_20 : decode cX11_cheapest 20 = .ok (.getfield 223, 3) := by decide +kernel
theorem dX11_cheapest_23 : decode cX11_cheapest 23 = .ok (.invokevirtual 226, 3) := by decide +kernel
theorem dX11_cheapest_26 : decode cX11_cheapest 26 = .ok (.aload_n 3, 1) := by decide +kernel
theorem dX11_cheapest_27 : decode cX11_cheapest 27 = .ok (.aload_n 0, 1) := by decide +kernel
theorem dX11_cheapest_28 : decode cX11_cheapest 28 = .ok (.getfield 34, 3) := by decide +kernel
theorem dX11_cheapest_31 : decode cX11_cheapest 31 = .ok (.getfield 223, 3) := by decide +kernel
theorem dX11_cheapest_34 : decode cX11_cheapest 34 = .ok (.invokevirtual 229, 3) := by decide +kernel
theorem dX11_cheapest_37 : decode cX11_cheapest 37 = .ok (.invokevirtual 232, 3) := by decide +kernel
theorem dX11_cheapest_40 : decode cX11_cheapest 40 = .ok (.aload_n 0, 1) := by decide +kernel
theorem dX11_cheapest_41 : decode cX11_cheapest 41 = .ok (.aload_n 0, 1) := by decide +kernel
theorem dX11_cheapest_42 : decode cX11_cheapest 42 = .ok (.getfield 62, 3) := by decide +kernel
theorem dX11_cheapest_45 : decode cX11_cheapest 45 = .ok (.getfield 236, 3) := by decide +kernel
theorem dX11_cheapest_48 : decode cX11_cheapest 48 = .ok (.aload_n 0, 1) := by decide +kernel
theorem dX11_cheapest_49 : decode cX11_cheapest 49 = .ok (.getfield 62, 3) := by decide +kernel
theorem dX11_cheapest_52 : decode cX11_cheapest 52 = .ok (.getfield 239, 3) := by decide +kernel
theorem dX11_cheapest_55 : decode cX11_cheapest 55 = .ok (.iload_n 2, 1) := by decide +kernel
theorem dX11_cheapest_56 : decode cX11_cheapest 56 = .ok (.invokevirtual 242, 3) := by decide +kernel
theorem dX11_cheapest_59 : decode cX11_cheapest 59 = .ok (.ireturn, 1) := by decide +kernel
theorem dX11_ways_0 : decode cX11_ways 0 = .ok (.aload_n 0, 1) := by decide +kernel
theorem dX11_ways_1 : decode cX11_ways 1 = .ok (.iload_n 1, 1) := by decide +kernel
theorem dX11_ways_2 : decode cX11_ways 2 = .ok (.invokevirtual 217, 3) := by decide +kernel
theorem dX11_ways_5 : decode cX11_ways 5 = .ok (.astore_n 2, 1) := by decide +kernel
theorem dX11_ways_6 : decode cX11_ways 6 = .ok (.aload_n 0, 1) := by decide +kernel
theorem dX11_ways_7 : decode cX11_ways 7 = .ok (.getfield 62, 3) := by decide +kernel
theorem dX11_ways_10 : decode cX11_ways 10 = .ok (.aload_n 2, 1) := by decide +kernel
theorem dX11_ways_11 : decode cX11_ways 11 = .ok (.aload_n 0, 1) := by decide +kernel
theorem dX11_ways_12 : decode cX11_ways 12 = .ok (.getfield 34, 3) := by decide +kernel
theorem dX11_ways_15 : decode cX11_ways 15 = .ok (.getfield 223, 3) := by decide +kernel
theorem dX11_ways_18 : decode cX11_ways 18 = .ok (.invokevirtual 226, 3) := by decide +kernel
theorem dX11_ways_21 : decode cX11_ways 21 = .ok (.aload_n 2, 1) := by decide +kernel
theorem dX11_ways_22 : decode cX11_ways 22 = .ok (.aload_n 0, 1) := by decide +kernel
theorem dX11_ways_23 : decode cX11_ways 23 = .ok (.getfield 34, 3) := by decide +kernel
theorem dX11_ways_26 : decode cX11_ways 26 = .ok (.getfield 223, 3) := by decide +kernel
theorem dX11_ways_29 : decode cX11_ways 29 = .ok (.invokevirtual 229, 3) := by decide +kernel
theorem dX11_ways_32 : decode cX11_ways 32 = .ok (.invokevirtual 232, 3) := by decide +kernel
theorem dX11_ways_35 : decode cX11_ways 35 = .ok (.aload_n 0, 1) := by decide +kernel
theorem dX11_ways_36 : decode cX11_ways 36 = .ok (.getfield 62, 3) := by decide +kernel
theorem dX11_ways_39 : decode cX11_ways 39 = .ok (.getfield 245, 3) := by decide +kernel
theorem dX11_ways_42 : decode cX11_ways 42 = .ok (.ireturn, 1) := by decide +kernel
theorem dX11_throne_0 : decode cX11_throne 0 = .ok (.aload_n 0, 1) := by decide +kernel
theorem dX11_throne_1 : decode cX11_throne 1 = .ok (.iload_n 1, 1) := by decide +kernel
theorem dX11_throne_2 : decode cX11_throne 2 = .ok (.invokevirtual 113, 3) := by decide +kernel
theorem dX11_throne_5 : decode cX11_throne 5 = .ok (.aload_n 0, 1) := by decide +kernel
theorem dX11_throne_6 : decode cX11_throne 6 = .ok (.iload_n 2, 1) := by decide +kernel
theorem dX11_throne_7 : decode cX11_throne 7 = .ok (.invokevirtual 220, 3) := by decide +kernel
theorem dX11_throne_10 : decode cX11_throne 10 = .ok (.aload_n 0, 1) := by decide +kernel
theorem dX11_throne_11 : decode cX11_throne 11 = .ok (.getfield 62, 3) := by decide +kernel
theorem dX11_throne_14 : decode cX11_throne 14 = .ok (.invokevirtual 248, 3) := by decide +kernel
theorem dX11_throne_17 : decode cX11_throne 17 = .ok (.aload_n 0, 1) := by decide +kernel
theorem dX11_throne_18 : decode cX11_throne 18 = .ok (.aload_n 0, 1) := by decide +kernel
theorem dX11_throne_19 : decode cX11_throne 19 = .ok (.getfield 62, 3) := by decide +kernel
theorem dX11_throne_22 : decode cX11_throne 22 = .ok (.getfield 251, 3) := by decide +kernel
theorem dX11_throne_25 : decode cX11_throne 25 = .ok (.iload_n 1, 1) := by decide +kernel
theorem dX11_throne_26 : decode cX11_throne 26 = .ok (.iaload, 1) := by decide +kernel
theorem dX11_throne_27 : decode cX11_throne 27 = .ok (.aload_n 0, 1) := by decide +kernel
theorem dX11_throne_28 : decode cX11_throne 28 = .ok (.getfield 62, 3) := by decide +kernel
theorem dX11_throne_31 : decode cX11_throne 31 = .ok (.getfield 255, 3) := by decide +kernel
theorem dX11_throne_34 : decode cX11_throne 34 = .ok (.iload_n 1, 1) := by decide +kernel
theorem dX11_throne_35 : decode cX11_throne 35 = .ok (.iaload, 1) := by decide +kernel
theorem dX11_throne_36 : decode cX11_throne 36 = .ok (.iload_n 2, 1) := by decide +kernel
theorem dX11_throne_37 : decode cX11_throne 37 = .ok (.invokevirtual 242, 3) := by decide +kernel
theorem dX11_throne_40 : decode cX11_throne 40 = .ok (.ireturn, 1) := by decide +kernel
theorem dX11_looks_0 : decode cX11_looks 0 = .ok (.aload_n 0, 1) := by decide +kernel
theorem dX11_looks_1 : decode cX11_looks 1 = .ok (.invokevirtual 258, 3) := by decide +kernel
theorem dX11_looks_4 : decode cX11_looks 4 = .ok (.istore_n 1, 1) := by decide +kernel
theorem dX11_looks_5 : decode cX11_looks 5 = .ok (.iload_n 1, 1) := by decide +kernel
theorem dX11_looks_6 : decode cX11_looks 6 = .ok (.ifCond .le 15, 3) := by decide +kernel
theorem dX11_looks_9 : decode cX11_looks 9 = .ok (.aload_n 0, 1) := by decide +kernel
theorem dX11_looks_10 : decode cX11_looks 10 = .ok (.getfield 62, 3) := by decide +kernel
theorem dX11_looks_13 : decode cX11_looks 13 = .ok (.invokevirtual 262, 3) := by decide +kernel
theorem dX11_looks_16 : decode cX11_looks 16 = .ok (.iload_n 1, 1) := by decide +kernel
theorem dX11_looks_17 : decode cX11_looks 17 = .ok (.idiv, 1) := by decide +kernel
theorem dX11_looks_18 : decode cX11_looks 18 = .ok (.goto 4, 3) := by decide +kernel
theorem dX11_looks_21 : decode cX11_looks 21 = .ok (.iconst 0, 1) := by decide +kernel
theorem dX11_looks_22 : decode cX11_looks 22 = .ok (.ireturn, 1) := by decide +kernel
theorem dX11_idle_0 : decode cX11_idle 0 = .ok (.aload_n 0, 1) := by decide +kernel
theorem dX11_idle_1 : decode cX11_idle 1 = .ok (.getfield 62, 3) := by decide +kernel
theorem dX11_idle_4 : decode cX11_idle 4 = .ok (.ldc_w 265, 3) := by decide +kernel
theorem dX11_idle_7 : decode cX11_idle 7 = .ok (.aload_n 0, 1) := by decide +kernel
theorem dX11_idle_8 : decode cX11_idle 8 = .ok (.getfield 34, 3) := by decide +kernel
theorem dX11_idle_11 : decode cX11_idle 11 = .ok (.getfield 116, 3) := by decide +kernel
theorem dX11_idle_14 : decode cX11_idle 14 = .ok (.invokevirtual 232, 3) := by decide +kernel
theorem dX11_idle_17 : decode cX11_idle 17 = .ok (.aload_n 0, 1) := by decide +kernel
theorem dX11_idle_18 : decode cX11_idle 18 = .ok (.getfield 62, 3) := by decide +kernel
theorem dX11_idle_21 : decode cX11_idle 21 = .ok (.getfield 245, 3) := by decide +kernel
theorem dX11_idle_24 : decode cX11_idle 24 = .ok (.ireturn, 1) := by decide +kernel
theorem dX11_power_0 : decode cX11_power 0 = .ok (.aload_n 0, 1) := by decide +kernel
theorem dX11_power_1 : decode cX11_power 1 = .ok (.iload_n 1, 1) := by decide +kernel
theorem dX11_power_2 : decode cX11_power 2 = .ok (.invokevirtual 113, 3) := by decide +kernel
theorem dX11_power_5 : decode cX11_power 5 = .ok (.aload_n 0, 1) := by decide +kernel
theorem dX11_power_6 : decode cX11_power 6 = .ok (.getfield 62, 3) := by decide +kernel
theorem dX11_power_9 : decode cX11_power 9 = .ok (.invokevirtual 248, 3) := by decide +kernel
theorem dX11_power_12 : decode cX11_power 12 = .ok (.aload_n 0, 1) := by decide +kernel
theorem dX11_power_13 : decode cX11_power 13 = .ok (.invokevirtual 258, 3) := by decide +kernel
theorem dX11_power_16 : decode cX11_power 16 = .ok (.istore_n 2, 1) := by decide +kernel
theorem dX11_power_17 : decode cX11_power 17 = .ok (.iload_n 2, 1) := by decide +kernel
theorem dX11_power_18 : decode cX11_power 18 = .ok (.ifCond .le 17, 3) := by decide +kernel
theorem dX11_power_21 : decode cX11_power 21 = .ok (.aload_n 0, 1) := by decide +kernel
theorem dX11_power_22 : decode cX11_power 22 = .ok (.getfield 62, 3) := by decide +kernel
theorem dX11_power_25 : decode cX11_power 25 = .ok (.getfield 266, 3) := by decide +kernel
theorem dX11_power_28 : decode cX11_power 28 = .ok (.iload_n 1, 1) := by decide +kernel
theorem dX11_power_29 : decode cX11_power 29 = .ok (.iaload, 1) := by decide +kernel
theorem dX11_power_30 : decode cX11_power 30 = .ok (.iload_n 2, 1) := by decide +kernel
theorem dX11_power_31 : decode cX11_power 31 = .ok (.idiv, 1) := by decide +kernel
theorem dX11_power_32 : decode cX11_power 32 = .ok (.goto 4, 3) := by decide +kernel
theorem dX11_power_35 : decode cX11_power 35 = .ok (.iconst 0, 1) := by decide +kernel
theorem dX11_power_36 : decode cX11_power 36 = .ok (.ireturn, 1) := by decide +kernel
theorem dX11_strongest_0 : decode cX11_strongest 0 = .ok (.aload_n 0, 1) := by decide +kernel
theorem dX11_strongest_1 : decode cX11_strongest 1 = .ok (.getfield 62, 3) := by decide +kernel
theorem dX11_strongest_4 : decode cX11_strongest 4 = .ok (.invokevirtual 248, 3) := by decide +kernel
theorem dX11_strongest_7 : decode cX11_strongest 7 = .ok (.iconst 0, 1) := by decide +kernel
theorem dX11_strongest_8 : decode cX11_strongest 8 = .ok (.istore_n 1, 1) := by decide +kernel
theorem dX11_strongest_9 : decode cX11_strongest 9 = .ok (.iconst 1, 1) := by decide +kernel
theorem dX11_strongest_10 : decode cX11_strongest 10 = .ok (.istore_n 2, 1) := by decide +kernel
theorem dX11_strongest_11 : decode cX11_strongest 11 = .ok (.iload_n 2, 1) := by decide +kernel
theorem dX11_strongest_12 : decode cX11_strongest 12 = .ok (.aload_n 0, 1) := by decide +kernel
theorem dX11_strongest_13 : decode cX11_strongest 13 = .ok (.getfield 34, 3) := by decide +kernel
theorem dX11_strongest_16 : decode cX11_strongest 16 = .ok (.getfield 223, 3) := by decide +kernel
theorem dX11_strongest_19 : decode cX11_strongest 19 = .ok (.if_icmp .ge 32, 3) := by decide +kernel
theorem dX11_strongest_22 : decode cX11_strongest 22 = .ok (.aload_n 0, 1) := by decide +kernel
theorem dX11_strongest_23 : decode cX11_strongest 23 = .ok (.getfield 62, 3) := by decide +kernel
theorem dX11_strongest_26 : decode cX11_strongest 26 = .ok (.getfield 266, 3) := by decide +kernel
theorem dX11_strongest_29 : decode cX11_strongest 29 = .ok (.iload_n 2, 1) := by decide +kernel
theorem dX11_strongest_30 : decode cX11_strongest 30 = .ok (.iaload, 1) := by decide +kernel
theorem dX11_strongest_31 : decode cX11_strongest 31 = .ok (.aload_n 0, 1) := by decide +kernel
theorem dX11_strongest_32 : decode cX11_strongest 32 = .ok (.getfield 62, 3) := by decide +kernel
theorem dX11_strongest_35 : decode cX11_strongest 35 = .ok (.getfield 266, 3) := by decide +kernel
theorem dX11_strongest_38 : decode cX11_strongest 38 = .ok (.iload_n 1, 1) := by decide +kernel
theorem dX11_strongest_39 : decode cX11_strongest 39 = .ok (.iaload, 1) := by decide +kernel
theorem dX11_strongest_40 : decode cX11_strongest 40 = .ok (.if_icmp .le 5, 3) := by decide +kernel
theorem dX11_strongest_43 : decode cX11_strongest 43 = .ok (.iload_n 2, 1) := by decide +kernel
theorem dX11_strongest_44 : decode cX11_strongest 44 = .ok (.istore_n 1, 1) := by decide +kernel
theorem dX11_strongest_45 : decode cX11_strongest 45 = .ok (.iinc 2 1, 3) := by decide +kernel
theorem dX11_strongest_48 : decode cX11_strongest 48 = .ok (.goto (-37), 3) := by decide +kernel
theorem dX11_strongest_51 : decode cX11_strongest 51 = .ok (.iload_n 1, 1) := by decide +kernel
theorem dX11_strongest_52 : decode cX11_strongest 52 = .ok (.ireturn, 1) := by decide +kernel
theorem dX11_motion_0 : decode cX11_motion 0 = .ok (.aload_n 0, 1) := by decide +kernel
theorem dX11_motion_1 : decode cX11_motion 1 = .ok (.iload_n 1, 1) := by decide +kernel
theorem dX11_motion_2 : decode cX11_motion 2 = .ok (.invokevirtual 113, 3) := by decide +kernel
theorem dX11_motion_5 : decode cX11_motion 5 = .ok (.aload_n 0, 1) := by decide +kernel
theorem dX11_motion_6 : decode cX11_motion 6 = .ok (.getfield 34, 3) := by decide +kernel
theorem dX11_motion_9 : decode cX11_motion 9 = .ok (.aload_n 0, 1) := by decide +kernel
theorem dX11_motion_10 : decode cX11_motion 10 = .ok (.getfield 34, 3) := by decide +kernel
theorem dX11_motion_13 : decode cX11_motion 13 = .ok (.getfield 116, 3) := by decide +kernel
theorem dX11_motion_16 : decode cX11_motion 16 = .ok (.invokevirtual 149, 3) := by decide +kernel
theorem dX11_motion_19 : decode cX11_motion 19 = .ok (.iload_n 1, 1) := by decide +kernel
theorem dX11_motion_20 : decode cX11_motion 20 = .ok (.if_icmp .ne 5, 3) := by decide +kernel
theorem dX11_motion_23 : decode cX11_motion 23 = .ok (.iconst (-1), 1) := by decide +kernel
theorem dX11_motion_24 : decode cX11_motion 24 = .ok (.ireturn, 1) := by decide +kernel
theorem dX11_motion_25 : decode cX11_motion 25 = .ok (.aload_n 0, 1) := by decide +kernel
theorem dX11_motion_26 : decode cX11_motion 26 = .ok (.getfield 69, 3) := by decide +kernel
theorem dX11_motion_29 : decode cX11_motion 29 = .ok (.iconst 0, 1) := by decide +kernel
theorem dX11_motion_30 : decode cX11_motion 30 = .ok (.iconst 0, 1) := by decide +kernel
theorem dX11_motion_31 : decode cX11_motion 31 = .ok (.invokevirtual 269, 3) := by decide +kernel
theorem dX11_motion_34 : decode cX11_motion 34 = .ok (.iconst 0, 1) := by decide +kernel
theorem dX11_motion_35 : decode cX11_motion 35 = .ok (.istore_n 2, 1) := by decide +kernel
theorem dX11_motion_36 : decode cX11_motion 36 = .ok (.iload_n 2, 1) := by decide +kernel
theorem dX11_motion_37 : decode cX11_motion 37 = .ok (.aload_n 0, 1) := by decide +kernel
theorem dX11_motion_38 : decode cX11_motion 38 = .ok (.getfield 69, 3) := by decide +kernel
theorem dX11_motion_41 : decode cX11_motion 41 = .ok (.getfield 272, 3) := by decide +kernel
theorem dX11_motion_44 : decode cX11_motion 44 = .ok (.if_icmp .ge 39, 3) := by decide +kernel
theorem dX11_motion_47 : decode cX11_motion 47 = .ok (.aload_n 0, 1) := by decide +kernel
theorem dX11_motion_48 : decode cX11_motion 48 = .ok (.getfield 34, 3) := by decide +kernel
theorem dX11_motion_51 : decode cX11_motion 51 = .ok (.aload_n 0, 1) := by decide +kernel
theorem dX11_motion_52 : decode cX11_motion 52 = .ok (.getfield 69, 3) := by decide +kernel
theorem dX11_motion_55 : decode cX11_motion 55 = .ok (.getfield 275, 3) := by decide +kernel
theorem dX11_motion_58 : decode cX11_motion 58 = .ok (.iload_n 2, 1) := by decide +kernel
theorem dX11_motion_59 : decode cX11_motion 59 = .ok (.iaload, 1) := by decide +kernel
theorem dX11_motion_60 : decode cX11_motion 60 = .ok (.invokevirtual 149, 3) := by decide +kernel
theorem dX11_motion_63 : decode cX11_motion 63 = .ok (.iload_n 1, 1) := by decide +kernel
theorem dX11_motion_64 : decode cX11_motion 64 = .ok (.if_icmp .ne 13, 3) := by decide +kernel
theorem dX11_motion_67 : decode cX11_motion 67 = .ok (.aload_n 0, 1) := by decide +kernel
theorem dX11_motion_68 : decode cX11_motion 68 = .ok (.getfield 69, 3) := by decide +kernel
theorem dX11_motion_71 : decode cX11_motion 71 = .ok (.getfield 278, 3) := by decide +kernel
theorem dX11_motion_74 : decode cX11_motion 74 = .ok (.iload_n 2, 1) := by decide +kernel
theorem dX11_motion_75 : decode cX11_motion 75 = .ok (.iaload, 1) := by decide +kernel
theorem dX11_motion_76 : decode cX11_motion 76 = .ok (.ireturn, 1) := by decide +kernel
theorem dX11_motion_77 : decode cX11_motion 77 = .ok (.iinc 2 1, 3) := by decide +kernel
theorem dX11_motion_80 : decode cX11_motion 80 = .ok (.goto (-44), 3) := by decide +kernel
theorem dX11_motion_83 : decode cX11_motion 83 = .ok (.iconst (-1), 1) := by decide +kernel
theorem dX11_motion_84 : decode cX11_motion 84 = .ok (.ireturn, 1) := by decide +kernel
theorem dX11_helps_0 : decode cX11_helps 0 = .ok (.aload_n 0, 1) := by decide +kernel
theorem dX11_helps_1 : decode cX11_helps 1 = .ok (.iload_n 1, 1) := by decide +kernel
theorem dX11_helps_2 : decode cX11_helps 2 = .ok (.invokevirtual 113, 3) := by decide +kernel
theorem dX11_helps_5 : decode cX11_helps 5 = .ok (.iload_n 2, 1) := by decide +kernel
theorem dX11_helps_6 : decode cX11_helps 6 = .ok (.ifCond .eq 19, 3) := by decide +kernel
theorem dX11_helps_9 : decode cX11_helps 9 = .ok (.iload_n 2, 1) := by decide +kernel
theorem dX11_helps_10 : decode cX11_helps 10 = .ok (.iconst 1, 1) := by decide +kernel
theorem dX11_helps_11 : decode cX11_helps 11 = .ok (.if_icmp .eq 14, 3) := by decide +kernel
theorem dX11_helps_14 : decode cX11_helps 14 = .ok (.new 87, 3) := by decide +kernel
theorem dX11_helps_17 : decode cX11_helps 17 = .ok (.dup, 1) := by decide +kernel
theorem dX11_helps_18 : decode cX11_helps 18 = .ok (.ldc_w 281, 3) := by decide +kernel
theorem dX11_helps_21 : decode cX11_helps 21 = .ok (.invokespecial 91, 3) := by decide +kernel
theorem dX11_helps_24 : decode cX11_helps 24 = .ok (.athrow, 1) := by decide +kernel
theorem dX11_helps_25 : decode cX11_helps 25 = .ok (.aload_n 0, 1) := by decide +kernel
theorem dX11_helps_26 : decode cX11_helps 26 = .ok (.getfield 62, 3) := by decide +kernel
theorem dX11_helps_29 : decode cX11_helps 29 = .ok (.invokevirtual 248, 3) := by decide +kernel
theorem dX11_helps_32 : decode cX11_helps 32 = .ok (.aload_n 0, 1) := by decide +kernel
theorem dX11_helps_33 : decode cX11_helps 33 = .ok (.getfield 62, 3) := by decide +kernel
theorem dX11_helps_36 : decode cX11_helps 36 = .ok (.getfield 283, 3) := by decide +kernel
theorem dX11_helps_39 : decode cX11_helps 39 = .ok (.iload_n 1, 1) := by decide +kernel
theorem dX11_helps_40 : decode cX11_helps 40 = .ok (.iaload, 1) := by decide +kernel
theorem dX11_helps_41 : decode cX11_helps 41 = .ok (.istore_n 3, 1) := by decide +kernel
theorem dX11_helps_42 : decode cX11_helps 42 = .ok (.iload_n 3, 1) := by decide +kernel
theorem dX11_helps_43 : decode cX11_helps 43 = .ok (.iconst (-1), 1) := by decide +kernel
theorem dX11_helps_44 : decode cX11_helps 44 = .ok (.if_icmp .ne 5, 3) := by decide +kernel
theorem dX11_helps_47 : decode cX11_helps 47 = .ok (.iconst (-1), 1) := by decide +kernel
theorem dX11_helps_48 : decode cX11_helps 48 = .ok (.ireturn, 1) := by decide +kernel
theorem dX11_helps_49 : decode cX11_helps 49 = .ok (.iload_n 2, 1) := by decide +kernel
theorem dX11_helps_50 : decode cX11_helps 50 = .ok (.ifCond .ne 10, 3) := by decide +kernel
theorem dX11_helps_53 : decode cX11_helps 53 = .ok (.iload_n 3, 1) := by decide +kernel
theorem dX11_helps_54 : decode cX11_helps 54 = .ok (.invokestatic 286, 3) := by decide +kernel
theorem dX11_helps_57 : decode cX11_helps 57 = .ok (.goto 4, 3) := by decide +kernel
theorem dX11_helps_60 : decode cX11_helps 60 = .ok (.iload_n 3, 1) := by decide +kernel
theorem dX11_helps_61 : decode cX11_helps 61 = .ok (.ireturn, 1) := by decide +kernel
theorem dX11_vetoes_0 : decode cX11_vetoes 0 = .ok (.aload_n 0, 1) := by decide +kernel
theorem dX11_vetoes_1 : decode cX11_vetoes 1 = .ok (.iload_n 1, 1) := by decide +kernel
theorem dX11_vetoes_2 : decode cX11_vetoes 2 = .ok (.invokevirtual 113, 3) := by decide +kernel
theorem dX11_vetoes_5 : decode cX11_vetoes 5 = .ok (.aload_n 0, 1) := by decide +kernel
theorem dX11_vetoes_6 : decode cX11_vetoes 6 = .ok (.getfield 62, 3) := by decide +kernel
theorem dX11_vetoes_9 : decode cX11_vetoes 9 = .ok (.iload_n 1, 1) := by decide +kernel
theorem dX11_vetoes_10 : decode cX11_vetoes 10 = .ok (.aload_n 0, 1) := by decide +kernel
theorem dX11_vetoes_11 : decode cX11_vetoes 11 = .ok (.getfield 34, 3) := by decide +kernel
theorem dX11_vetoes_14 : decode cX11_vetoes 14 = .ok (.getfield 206, 3) := by decide +kernel
theorem dX11_vetoes_17 : decode cX11_vetoes 17 = .ok (.invokevirtual 291, 3) := by decide +kernel
theorem dX11_vetoes_20 : decode cX11_vetoes 20 = .ok (.ifCond .ne 5, 3) := by decide +kernel
theorem dX11_vetoes_23 : decode cX11_vetoes 23 = .ok (.iconst 0, 1) := by decide +kernel
theorem dX11_vetoes_24 : decode cX11_vetoes 24 = .ok (.ireturn, 1) := by decide +kernel
theorem dX11_vetoes_25 : decode cX11_vetoes 25 = .ok (.iconst 0, 1) := by decide +kernel
theorem dX11_vetoes_26 : decode cX11_vetoes 26 = .ok (.istore_n 2, 1) := by decide +kernel
theorem dX11_vetoes_27 : decode cX11_vetoes 27 = .ok (.iconst 0, 1) := by decide +kernel
theorem dX11_vetoes_28 : decode cX11_vetoes 28 = .ok (.istore_n 3, 1) := by decide +kernel
theorem dX11_vetoes_29 : decode cX11_vetoes 29 = .ok (.iload_n 3, 1) := by decide +kernel
theorem dX11_vetoes_30 : decode cX11_vetoes 30 = .ok (.aload_n 0, 1) := by decide +kernel
theorem dX11_vetoes_31 : decode cX11_vetoes 31 = .ok (.getfield 34, 3) := by decide +kernel
theorem dX11_vetoes_34 : decode cX11_vetoes 34 = .ok (.getfield 223, 3) := by decide +kernel
theorem dX11_vetoes_37 : decode cX11_vetoes 37 = .ok (.if_icmp .ge 48, 3) := by decide +kernel
theorem dX11_vetoes_40 : decode cX11_vetoes 40 = .ok (.aload_n 0, 1) := by decide +kernel
theorem dX11_vetoes_41 : decode cX11_vetoes 41 = .ok (.getfield 34, 3) := by decide +kernel
theorem dX11_vetoes_44 : decode cX11_vetoes 44 = .ok (.iload_n 3, 1) := by decide +kernel
theorem dX11_vetoes_45 : decode cX11_vetoes 45 = .ok (.invokevirtual 140, 3) := by decide +kernel
theorem dX11_vetoes_48 : decode cX11_vetoes 48 = .ok (.ifCond .ne 31, 3) := by decide +kernel
theorem dX11_vetoes_51 : decode cX11_vetoes 51 = .ok (.aload_n 0, 1) := by decide +kernel
theorem dX11_vetoes_52 : decode cX11_vetoes 52 = .ok (.getfield 62, 3) := by decide +kernel
theorem dX11_vetoes_55 : decode cX11_vetoes 55 = .ok (.iload_n 1, 1) := by decide +kernel
theorem dX11_vetoes_56 : decode cX11_vetoes 56 = .ok (.aload_n 0, 1) := by decide +kernel
theorem dX11_vetoes_57 : decode cX11_vetoes 57 = .ok (.getfield 34, 3) := by decide +kernel
theorem dX11_vetoes_60 : decode cX11_vetoes 60 = .ok (.getfield 206, 3) := by decide +kernel
theorem dX11_vetoes_63 : decode cX11_vetoes 63 = .ok (.iconst 1, 1) := by decide +kernel
theorem dX11_vetoes_64 : decode cX11_vetoes 64 = .ok (.iload_n 3, 1) := by decide +kernel
theorem dX11_vetoes_65 : decode cX11_vetoes 65 = .ok (.ishl, 1) := by decide +kernel
theorem dX11_vetoes_66 : decode cX11_vetoes 66 = .ok (.ior, 1) := by decide +kernel
theorem dX11_vetoes_67 : decode cX11_vetoes 67 = .ok (.invokevirtual 291, 3) := by decide +kernel
theorem dX11_vetoes_70 : decode cX11_vetoes 70 = .ok (.ifCond .ne 9, 3) := by decide +kernel
theorem dX11_vetoes_73 : decode cX11_vetoes 73 = .ok (.iload_n 2, 1) := by decide +kernel
theorem dX11_vetoes_74 : decode cX11_vetoes 74 = .ok (.iconst 1, 1) := by decide +kernel
theorem dX11_vetoes_75 : decode cX11_vetoes 75 = .ok (.iload_n 3, 1) := by decide +kernel
theorem dX11_vetoes_76 : decode cX11_vetoes 76 = .ok (.ishl, 1) := by decide +kernel
theorem dX11_vetoes_77 : decode cX11_vetoes 77 = .ok (.ior, 1) := by decide +kernel
theorem dX11_vetoes_78 : decode cX11_vetoes 78 = .ok (.istore_n 2, 1) := by decide +kernel
theorem dX11_vetoes_79 : decode cX11_vetoes 79 = .ok (.iinc 3 1, 3) := by decide +kernel
theorem dX11_vetoes_82 : decode cX11_vetoes 82 = .ok (.goto (-53), 3) := by decide +kernel
theorem dX11_vetoes_85 : decode cX11_vetoes 85 = .ok (.iload_n 2, 1) := by decide +kernel
theorem dX11_vetoes_86 : decode cX11_vetoes 86 = .ok (.ireturn, 1) := by decide +kernel
theorem dX11_knees_0 : decode cX11_knees 0 = .ok (.iload_n 1, 1) := by decide +kernel
theorem dX11_knees_1 : decode cX11_knees 1 = .ok (.iconst 1, 1) := by decide +kernel
theorem dX11_knees_2 : decode cX11_knees 2 = .ok (.if_icmp .eq 8, 3) := by decide +kernel
theorem dX11_knees_5 : decode cX11_knees 5 = .ok (.aload_n 0, 1) := by decide +kernel
theorem dX11_knees_6 : decode cX11_knees 6 = .ok (.iload_n 1, 1) := by decide +kernel
theorem dX11_knees_7 : decode cX11_knees 7 = .ok (.invokevirtual 220, 3) := by decide +kernel
theorem dX11_knees_10 : decode cX11_knees 10 = .ok (.aload_n 0, 1) := by decide +kernel
theorem dX11_knees_11 : decode cX11_knees 11 = .ok (.getfield 62, 3) := by decide +kernel
theorem dX11_knees_14 : decode cX11_knees 14 = .ok (.invokevirtual 295, 3) := by decide +kernel
theorem dX11_knees_17 : decode cX11_knees 17 = .ok (.iload_n 1, 1) := by decide +kernel
theorem dX11_knees_18 : decode cX11_knees 18 = .ok (.ifCond .ne 11, 3) := by decide +kernel
theorem dX11_knees_21 : decode cX11_knees 21 = .ok (.aload_n 0, 1) := by decide +kernel
theorem dX11_knees_22 : decode cX11_knees 22 = .ok (.getfield 62, 3) := by decide +kernel
theorem dX11_knees_25 : decode cX11_knees 25 = .ok (.getfield 298, 3) := by decide +kernel
theorem dX11_knees_28 : decode cX11_knees 28 = .ok (.ireturn, 1) := by decide +kernel
theorem dX11_knees_29 : decode cX11_knees 29 = .ok (.aload_n 0, 1) := by decide +kernel
theorem dX11_knees_30 : decode cX11_knees 30 = .ok (.aload_n 0, 1) := by decide +kernel
theorem dX11_knees_31 : decode cX11_knees 31 = .ok (.getfield 62, 3) := by decide +kernel
theorem dX11_knees_34 : decode cX11_knees 34 = .ok (.getfield 301, 3) := by decide +kernel
theorem dX11_knees_37 : decode cX11_knees 37 = .ok (.aload_n 0, 1) := by decide +kernel
theorem dX11_knees_38 : decode cX11_knees 38 = .ok (.getfield 62, 3) := by decide +kernel
theorem dX11_knees_41 : decode cX11_knees 41 = .ok (.getfield 304, 3) := by decide +kernel
theorem dX11_knees_44 : decode cX11_knees 44 = .ok (.iload_n 1, 1) := by decide +kernel
theorem dX11_knees_45 : decode cX11_knees 45 = .ok (.iconst 1, 1) := by decide +kernel
theorem dX11_knees_46 : decode cX11_knees 46 = .ok (.if_icmp .ne 7, 3) := by decide +kernel
theorem dX11_knees_49 : decode cX11_knees 49 = .ok (.iconst 0, 1) := by decide +kernel
theorem dX11_knees_50 : decode cX11_knees 50 = .ok (.goto 4, 3) := by decide +kernel
theorem dX11_knees_53 : decode cX11_knees 53 = .ok (.iload_n 1, 1) := by decide +kernel
theorem dX11_knees_54 : decode cX11_knees 54 = .ok (.invokevirtual 242, 3) := by decide +kernel
theorem dX11_knees_57 : decode cX11_knees 57 = .ok (.ireturn, 1) := by decide +kernel
theorem dX11_settles_0 : decode cX11_settles 0 = .ok (.iload_n 1, 1) := by decide +kernel
theorem dX11_settles_1 : decode cX11_settles 1 = .ok (.ifCond .eq 19, 3) := by decide +kernel
theorem dX11_settles_4 : decode cX11_settles 4 = .ok (.iload_n 1, 1) := by decide +kernel
theorem dX11_settles_5 : decode cX11_settles 5 = .ok (.iconst 1, 1) := by decide +kernel
theorem dX11_settles_6 : decode cX11_settles 6 = .ok (.if_icmp .eq 14, 3) := by decide +kernel
theorem dX11_settles_9 : decode cX11_settles 9 = .ok (.new 87, 3) := by decide +kernel
theorem dX11_settles_12 : decode cX11_settles 12 = .ok (.dup, 1) := by decide +kernel
theorem dX11_settles_13 : decode cX11_settles 13 = .ok (.ldc_w 307, 3) := by decide +kernel
theorem dX11_settles_16 : decode cX11_settles 16 = .ok (.invokespecial 91, 3) := by decide +kernel
theorem dX11_settles_19 : decode cX11_settles 19 = .ok (.athrow, 1) := by decide +kernel
theorem dX11_settles_20 : decode cX11_settles 20 = .ok (.aload_n 0, 1) := by decide +kernel
theorem dX11_settles_21 : decode cX11_settles 21 = .ok (.getfield 76, 3) := by decide +kernel
theorem dX11_settles_24 : decode cX11_settles 24 = .ok (.invokevirtual 309, 3) := by decide +kernel
theorem dX11_settles_27 : decode cX11_settles 27 = .ok (.iload_n 1, 1) := by decide +kernel
theorem dX11_settles_28 : decode cX11_settles 28 = .ok (.ifCond .ne 13, 3) := by decide +kernel
theorem dX11_settles_31 : decode cX11_settles 31 = .ok (.aload_n 0, 1) := by decide +kernel
theorem dX11_settles_32 : decode cX11_settles 32 = .ok (.getfield 76, 3) := by decide +kernel
theorem dX11_settles_35 : decode cX11_settles 35 = .ok (.getfield 312, 3) := by decide +kernel
theorem dX11_settles_38 : decode cX11_settles 38 = .ok (.goto 10, 3) := by decide +kernel
theorem dX11_settles_41 : decode cX11_settles 41 = .ok (.aload_n 0, 1) := by decide +kernel
theorem dX11_settles_42 : decode cX11_settles 42 = .ok (.getfield 76, 3) := by decide +kernel
theorem dX11_settles_45 : decode cX11_settles 45 = .ok (.getfield 315, 3) := by decide +kernel
theorem dX11_settles_48 : decode cX11_settles 48 = .ok (.ireturn, 1) := by decide +kernel
theorem dX11_chairIn_0 : decode cX11_chairIn 0 = .ok (.aload_n 0, 1) := by decide +kernel
theorem dX11_chairIn_1 : decode cX11_chairIn 1 = .ok (.iload_n 1, 1) := by decide +kernel
theorem dX11_chairIn_2 : decode cX11_chairIn 2 = .ok (.ldc_w 318, 3) := by decide +kernel
theorem dX11_chairIn_5 : decode cX11_chairIn 5 = .ok (.invokevirtual 319, 3) := by decide +kernel
theorem dX11_chairIn_8 : decode cX11_chairIn 8 = .ok (.aload_n 0, 1) := by decide +kernel
theorem dX11_chairIn_9 : decode cX11_chairIn 9 = .ok (.getfield 34, 3) := by decide +kernel
theorem dX11_chairIn_12 : decode cX11_chairIn 12 = .ok (.aload_n 0, 1) := by decide +kernel
theorem dX11_chairIn_13 : decode cX11_chairIn 13 = .ok (.getfield 76, 3) := by decide +kernel
theorem dX11_chairIn_16 : decode cX11_chairIn 16 = .ok (.iload_n 1, 1) := by decide +kernel
theorem dX11_chairIn_17 : decode cX11_chairIn 17 = .ok (.invokevirtual 322, 3) := by decide +kernel
theorem dX11_chairIn_20 : decode cX11_chairIn 20 = .ok (.invokevirtual 149, 3) := by decide +kernel
theorem dX11_chairIn_23 : decode cX11_chairIn 23 = .ok (.ireturn, 1) := by decide +kernel
theorem dX11_aimIn_0 : decode cX11_aimIn 0 = .ok (.aload_n 0, 1) := by decide +kernel
theorem dX11_aimIn_1 : decode cX11_aimIn 1 = .ok (.iload_n 1, 1) := by decide +kernel
theorem dX11_aimIn_2 : decode cX11_aimIn 2 = .ok (.invokevirtual 113, 3) := by decide +kernel
theorem dX11_aimIn_5 : decode cX11_aimIn 5 = .ok (.aload_n 0, 1) := by decide +kernel
theorem dX11_aimIn_6 : decode cX11_aimIn 6 = .ok (.iload_n 2, 1) := by decide +kernel
theorem dX11_aimIn_7 : decode cX11_aimIn 7 = .ok (.ldc_w 318, 3) := by decide +kernel
theorem dX11_aimIn_10 : decode cX11_aimIn 10 = .ok (.invokevirtual 319, 3) := by decide +kernel
theorem dX11_aimIn_13 : decode cX11_aimIn 13 = .ok (.aload_n 0, 1) := by decide +kernel
theorem dX11_aimIn_14 : decode cX11_aimIn 14 = .ok (.getfield 76, 3) := by decide +kernel
theorem dX11_aimIn_17 : decode cX11_aimIn 17 = .ok (.iload_n 2, 1) := by decide +kernel
theorem dX11_aimIn_18 : decode cX11_aimIn 18 = .ok (.invokevirtual 322, 3) := by decide +kernel
theorem dX11_aimIn_21 : decode cX11_aimIn 21 = .ok (.iload_n 1, 1) := by decide +kernel
theorem dX11_aimIn_22 : decode cX11_aimIn 22 = .ok (.invokestatic 119, 3) := by decide +kernel
theorem dX11_aimIn_25 : decode cX11_aimIn 25 = .ok (.ireturn, 1) := by decide +kernel
theorem dX11_reign_0 : decode cX11_reign 0 = .ok (.aload_n 0, 1) := by decide +kernel
theorem dX11_reign_1 : decode cX11_reign 1 = .ok (.iload_n 1, 1) := by decide +kernel
theorem dX11_reign_2 : decode cX11_reign 2 = .ok (.invokevirtual 113, 3) := by decide +kernel
theorem dX11_reign_5 : decode cX11_reign 5 = .ok (.aload_n 0, 1) := by decide +kernel
theorem dX11_reign_6 : decode cX11_reign 6 = .ok (.iload_n 2, 1) := by decide +kernel
theorem dX11_reign_7 : decode cX11_reign 7 = .ok (.sipush 9999, 3) := by decide +kernel
theorem dX11_reign_10 : decode cX11_reign 10 = .ok (.invokevirtual 319, 3) := by decide +kernel
theorem dX11_reign_13 : decode cX11_reign 13 = .ok (.aload_n 0, 1) := by decide +kernel
theorem dX11_reign_14 : decode cX11_reign 14 = .ok (.getfield 76, 3) := by decide +kernel
theorem dX11_reign_17 : decode cX11_reign 17 = .ok (.iload_n 1, 1) := by decide +kernel
theorem dX11_reign_18 : decode cX11_reign 18 = .ok (.iload_n 2, 1) := by decide +kernel
theorem dX11_reign_19 : decode cX11_reign 19 = .ok (.invokevirtual 325, 3) := by decide +kernel
theorem dX11_reign_22 : decode cX11_reign 22 = .ok (.ireturn, 1) := by decide +kernel
theorem dX11_first_0 : decode cX11_first 0 = .ok (.aload_n 0, 1) := by decide +kernel
theorem dX11_first_1 : decode cX11_first 1 = .ok (.iload_n 1, 1) := by decide +kernel
theorem dX11_first_2 : decode cX11_first 2 = .ok (.invokevirtual 113, 3) := by decide +kernel
theorem dX11_first_5 : decode cX11_first 5 = .ok (.aload_n 0, 1) := by decide +kernel
theorem dX11_first_6 : decode cX11_first 6 = .ok (.getfield 76, 3) := by decide +kernel
theorem dX11_first_9 : decode cX11_first 9 = .ok (.iload_n 1, 1) := by decide +kernel
theorem dX11_first_10 : decode cX11_first 10 = .ok (.invokevirtual 328, 3) := by decide +kernel
theorem dX11_first_13 : decode cX11_first 13 = .ok (.ireturn, 1) := by decide +kernel
theorem dX11_seen_0 : decode cX11_seen 0 = .ok (.aload_n 0, 1) := by decide +kernel
theorem dX11_seen_1 : decode cX11_seen 1 = .ok (.iload_n 1, 1) := by decide +kernel
theorem dX11_seen_2 : decode cX11_seen 2 = .ok (.invokevirtual 331, 3) := by decide +kernel
theorem dX11_seen_5 : decode cX11_seen 5 = .ok (.pop, 1) := by decide +kernel
theorem dX11_seen_6 : decode cX11_seen 6 = .ok (.aload_n 0, 1) := by decide +kernel
theorem dX11_seen_7 : decode cX11_seen 7 = .ok (.getfield 69, 3) := by decide +kernel
theorem dX11_seen_10 : decode cX11_seen 10 = .ok (.getfield 272, 3) := by decide +kernel
theorem dX11_seen_13 : decode cX11_seen 13 = .ok (.ireturn, 1) := by decide +kernel
theorem dX11_seenAt_0 : decode cX11_seenAt 0 = .ok (.aload_n 0, 1) := by decide +kernel
theorem dX11_seenAt_1 : decode cX11_seenAt 1 = .ok (.iload_n 1, 1) := by decide +kernel
theorem dX11_seenAt_2 : decode cX11_seenAt 2 = .ok (.invokevirtual 217, 3) := by decide +kernel
theorem dX11_seenAt_5 : decode cX11_seenAt 5 = .ok (.astore_n 3, 1) := by decide +kernel
theorem dX11_seenAt_6 : decode cX11_seenAt 6 = .ok (.iload_n 2, 1) := by decide +kernel
theorem dX11_seenAt_7 : decode cX11_seenAt 7 = .ok (.ifCond .ge 14, 3) := by decide +kernel
theorem dX11_seenAt_10 : decode cX11_seenAt 10 = .ok (.new 87, 3) := by decide +kernel
theorem dX11_seenAt_13 : decode cX11_seenAt 13 = .ok (.dup, 1) := by decide +kernel
theorem dX11_seenAt_14 : decode cX11_seenAt 14 = .ok (.ldc_w 334, 3) := by decide +kernel
theorem dX11_seenAt_17 : decode cX11_seenAt 17 = .ok (.invokespecial 91, 3) := by decide +kernel
theorem dX11_seenAt_20 : decode cX11_seenAt 20 = .ok (.athrow, 1) := by decide +kernel
theorem dX11_seenAt_21 : decode cX11_seenAt 21 = .ok (.aload_n 0, 1) := by decide +kernel
theorem dX11_seenAt_22 : decode cX11_seenAt 22 = .ok (.getfield 69, 3) := by decide +kernel
theorem dX11_seenAt_25 : decode cX11_seenAt 25 = .ok (.aload_n 3, 1) := by decide +kernel
theorem dX11_seenAt_26 : decode cX11_seenAt 26 = .ok (.aload_n 0, 1) := by decide +kernel
theorem dX11_seenAt_27 : decode cX11_seenAt 27 = .ok (.getfield 34, 3) := by decide +kernel
theorem dX11_seenAt_30 : decode cX11_seenAt 30 = .ok (.getfield 223, 3) := by decide +kernel
theorem dX11_seenAt_33 : decode cX11_seenAt 33 = .ok (.invokevirtual 226, 3) := by decide +kernel
theorem dX11_seenAt_36 : decode cX11_seenAt 36 = .ok (.aload_n 3, 1) := by decide +kernel
theorem dX11_seenAt_37 : decode cX11_seenAt 37 = .ok (.aload_n 0, 1) := by decide +kernel
theorem dX11_seenAt_38 : decode cX11_seenAt 38 = .ok (.getfield 34, 3) := by decide +kernel
theorem dX11_seenAt_41 : decode cX11_seenAt 41 = .ok (.getfield 223, 3) := by decide +kernel
theorem dX11_seenAt_44 : decode cX11_seenAt 44 = .ok (.invokevirtual 229, 3) := by decide +kernel
theorem dX11_seenAt_47 : decode cX11_seenAt 47 = .ok (.invokevirtual 269, 3) := by decide +kernel
theorem dX11_seenAt_50 : decode cX11_seenAt 50 = .ok (.iload_n 2, 1) := by decide +kernel
theorem dX11_seenAt_51 : decode cX11_seenAt 51 = .ok (.aload_n 0, 1) := by decide +kernel
theorem dX11_seenAt_52 : decode cX11_seenAt 52 = .ok (.getfield 69, 3) := by decide +kernel
theorem dX11_seenAt_55 : decode cX11_seenAt 55 = .ok (.getfield 272, 3) := by decide +kernel
theorem dX11_seenAt_58 : decode cX11_seenAt 58 = .ok (.if_icmp .ge 15, 3) := by decide +kernel
theorem dX11_seenAt_61 : decode cX11_seenAt 61 = .ok (.aload_n 0, 1) := by decide +kernel
theorem dX11_seenAt_62 : decode cX11_seenAt 62 = .ok (.getfield 69, 3) := by decide +kernel
theorem dX11_seenAt_65 : decode cX11_seenAt 65 = .ok (.getfield 278, 3) := by decide +kernel
theorem dX11_seenAt_68 : decode cX11_seenAt 68 = .ok (.iload_n 2, 1) := by decide +kernel
theorem dX11_seenAt_69 : decode cX11_seenAt 69 = .ok (.iaload, 1) := by decide +kernel
theorem dX11_seenAt_70 : decode cX11_seenAt 70 = .ok (.goto 4, 3) := by decide +kernel
theorem dX11_seenAt_73 : decode cX11_seenAt 73 = .ok (.iconst (-1), 1) := by decide +kernel
theorem dX11_seenAt_74 : decode cX11_seenAt 74 = .ok (.ireturn, 1) := by decide +kernel
theorem dX11_ask_0 : decode cX11_ask 0 = .ok (.aload_n 0, 1) := by decide +kernel
theorem dX11_ask_1 : decode cX11_ask 1 = .ok (.iload_n 1, 1) := by decide +kernel
theorem dX11_ask_2 : decode cX11_ask 2 = .ok (.invokevirtual 331, 3) := by decide +kernel
theorem dX11_ask_5 : decode cX11_ask 5 = .ok (.istore_n 2, 1) := by decide +kernel
theorem dX11_ask_6 : decode cX11_ask 6 = .ok (.aload_n 0, 1) := by decide +kernel
theorem dX11_ask_7 : decode cX11_ask 7 = .ok (.getfield 69, 3) := by decide +kernel
theorem dX11_ask_10 : decode cX11_ask 10 = .ok (.getfield 272, 3) := by decide +kernel
theorem dX11_ask_13 : decode cX11_ask 13 = .ok (.ifCond .ne 5, 3) := by decide +kernel
theorem dX11_ask_16 : decode cX11_ask 16 = .ok (.iconst (-1), 1) := by decide +kernel
theorem dX11_ask_17 : decode cX11_ask 17 = .ok (.ireturn, 1) := by decide +kernel
theorem dX11_ask_18 : decode cX11_ask 18 = .ok (.iconst (-1), 1) := by decide +kernel
theorem dX11_ask_19 : decode cX11_ask 19 = .ok (.istore_n 3, 1) := by decide +kernel
theorem dX11_ask_20 : decode cX11_ask 20 = .ok (.aload_n 0, 1) := by decide +kernel
theorem dX11_ask_21 : decode cX11_ask 21 = .ok (.getfield 69, 3) := by decide +kernel
theorem dX11_ask_24 : decode cX11_ask 24 = .ok (.getfield 272, 3) := by decide +kernel
theorem dX11_ask_27 : decode cX11_ask 27 = .ok (.iconst 1, 1) := by decide +kernel
theorem dX11_ask_28 : decode cX11_ask 28 = .ok (.iadd, 1) := by decide +kernel
theorem dX11_ask_29 : decode cX11_ask 29 = .ok (.istore 4, 2) := by decide +kernel
theorem dX11_ask_31 : decode cX11_ask 31 = .ok (.iconst 0, 1) := by decide +kernel
theorem dX11_ask_32 : decode cX11_ask 32 = .ok (.istore 5, 2) := by decide +kernel
theorem dX11_ask_34 : decode cX11_ask 34 = .ok (.iload 5, 2) := by decide +kernel
theorem dX11_ask_36 : decode cX11_ask 36 = .ok (.aload_n 0, 1) := by decide +kernel
theorem dX11_ask_37 : decode cX11_ask 37 = .ok (.getfield 34, 3) := by decide +kernel
theorem dX11_ask_40 : decode cX11_ask 40 = .ok (.getfield 223, 3) := by decide +kernel
theorem dX11_ask_43 : decode cX11_ask 43 = .ok (.if_icmp .ge 43, 3) := by decide +kernel
theorem dX11_ask_46 : decode cX11_ask 46 = .ok (.iload_n 2, 1) := by decide +kernel
theorem dX11_ask_47 : decode cX11_ask 47 = .ok (.iload 5, 2) := by decide +kernel
theorem dX11_ask_49 : decode cX11_ask 49 = .ok (.invokestatic 119, 3) := by decide +kernel
theorem dX11_ask_52 : decode cX11_ask 52 = .ok (.ifCond .ne 28, 3) := by decide +kernel
theorem dX11_ask_55 : decode cX11_ask 55 = .ok (.aload_n 0, 1) := by decide +kernel
theorem dX11_ask_56 : decode cX11_ask 56 = .ok (.getfield 69, 3) := by decide +kernel
theorem dX11_ask_59 : decode cX11_ask 59 = .ok (.iload 5, 2) := by decide +kernel
theorem dX11_ask_61 : decode cX11_ask 61 = .ok (.invokevirtual 336, 3) := by decide +kernel
theorem dX11_ask_64 : decode cX11_ask 64 = .ok (.istore 6, 2) := by decide +kernel
theorem dX11_ask_66 : decode cX11_ask 66 = .ok (.iload 6, 2) := by decide +kernel
theorem dX11_ask_68 : decode cX11_ask 68 = .ok (.iload 4, 2) := by decide +kernel
theorem dX11_ask_70 : decode cX11_ask 70 = .ok (.if_icmp .ge 10, 3) := by decide +kernel
theorem dX11_ask_73 : decode cX11_ask 73 = .ok (.iload 6, 2) := by decide +kernel
theorem dX11_ask_75 : decode cX11_ask 75 = .ok (.istore 4, 2) := by decide +kernel
theorem dX11_ask_77 : decode cX11_ask 77 = .ok (.iload 5, 2) := by decide +kernel
theorem dX11_ask_79 : decode cX11_ask 79 = .ok (.istore_n 3, 1) := by decide +kernel
theorem dX11_ask_80 : decode cX11_ask 80 = .ok (.iinc 5 1, 3) := by decide +kernel
theorem dX11_ask_83 : decode cX11_ask 83 = .ok (.goto (-49), 3) := by decide +kernel
theorem dX11_ask_86 : decode cX11_ask 86 = .ok (.iload_n 3, 1) := by decide +kernel
theorem dX11_ask_87 : decode cX11_ask 87 = .ok (.ireturn, 1) := by decide +kernel
theorem dX11_chance_0 : decode cX11_chance 0 = .ok (.aload_n 0, 1) := by decide +kernel
theorem dX11_chance_1 : decode cX11_chance 1 = .ok (.iload_n 1, 1) := by decide +kernel
theorem dX11_chance_2 : decode cX11_chance 2 = .ok (.invokevirtual 113, 3) := by decide +kernel
theorem dX11_chance_5 : decode cX11_chance 5 = .ok (.aload_n 0, 1) := by decide +kernel
theorem dX11_chance_6 : decode cX11_chance 6 = .ok (.iload_n 2, 1) := by decide +kernel
theorem dX11_chance_7 : decode cX11_chance 7 = .ok (.invokevirtual 339, 3) := by decide +kernel
theorem dX11_chance_10 : decode cX11_chance 10 = .ok (.iload_n 3, 1) := by decide +kernel
theorem dX11_chance_11 : decode cX11_chance 11 = .ok (.ifCond .eq 19, 3) := by decide +kernel
theorem dX11_chance_14 : decode cX11_chance 14 = .ok (.iload_n 3, 1) := by decide +kernel
theorem dX11_chance_15 : decode cX11_chance 15 = .ok (.iconst 1, 1) := by decide +kernel
theorem dX11_chance_16 : decode cX11_chance 16 = .ok (.if_icmp .eq 14, 3) := by decide +kernel
theorem dX11_chance_19 : decode cX11_chance 19 = .ok (.new 87, 3) := by decide +kernel
theorem dX11_chance_22 : decode cX11_chance 22 = .ok (.dup, 1) := by decide +kernel
theorem dX11_chance_23 : decode cX11_chance 23 = .ok (.ldc_w 342, 3) := by decide +kernel
theorem dX11_chance_26 : decode cX11_chance 26 = .ok (.invokespecial 91, 3) := by decide +kernel
theorem dX11_chance_29 : decode cX11_chance 29 = .ok (.athrow, 1) := by decide +kernel
theorem dX11_chance_30 : decode cX11_chance 30 = .ok (.aload_n 0, 1) := by decide +kernel
theorem dX11_chance_31 : decode cX11_chance 31 = .ok (.getfield 69, 3) := by decide +kernel
theorem dX11_chance_34 : decode cX11_chance 34 = .ok (.iload_n 2, 1) := by decide +kernel
theorem dX11_chance_35 : decode cX11_chance 35 = .ok (.invokevirtual 344, 3) := by decide +kernel
theorem dX11_chance_38 : decode cX11_chance 38 = .ok (.aload_n 0, 1) := by decide +kernel
theorem dX11_chance_39 : decode cX11_chance 39 = .ok (.getfield 69, 3) := by decide +kernel
theorem dX11_chance_42 : decode cX11_chance 42 = .ok (.getfield 347, 3) := by decide +kernel
theorem dX11_chance_45 : decode cX11_chance 45 = .ok (.iload_n 1, 1) := by decide +kernel
theorem dX11_chance_46 : decode cX11_chance 46 = .ok (.iaload, 1) := by decide +kernel
theorem dX11_chance_47 : decode cX11_chance 47 = .ok (.istore 4, 2) := by decide +kernel
theorem dX11_chance_49 : decode cX11_chance 49 = .ok (.aload_n 0, 1) := by decide +kernel
theorem dX11_chance_50 : decode cX11_chance 50 = .ok (.getfield 69, 3) := by decide +kernel
theorem dX11_chance_53 : decode cX11_chance 53 = .ok (.getfield 350, 3) := by decide +kernel
theorem dX11_chance_56 : decode cX11_chance 56 = .ok (.istore 5, 2) := by decide +kernel
theorem dX11_chance_58 : decode cX11_chance 58 = .ok (.iload 4, 2) := by decide +kernel
theorem dX11_chance_60 : decode cX11_chance 60 = .ok (.iload 5, 2) := by decide +kernel
theorem dX11_chance_62 : decode cX11_chance 62 = .ok (.invokestatic 353, 3) := by decide +kernel
theorem dX11_chance_65 : decode cX11_chance 65 = .ok (.istore 6, 2) := by decide +kernel
theorem dX11_chance_67 : decode cX11_chance 67 = .ok (.iload 6, 2) := by decide +kernel
theorem dX11_chance_69 : decode cX11_chance 69 = .ok (.iconst 1, 1) := by decide +kernel
theorem dX11_chance_70 : decode cX11_chance 70 = .ok (.if_icmp .ge 5, 3) := by decide +kernel
theorem dX11_chance_73 : decode cX11_chance 73 = .ok (.iconst 0, 1) := by decide +kernel
theorem dX11_chance_74 : decode cX11_chance 74 = .ok (.ireturn, 1) := by decide +kernel
theorem dX11_chance_75 : decode cX11_chance 75 = .ok (.iload_n 3, 1) := by decide +kernel
theorem dX11_chance_76 : decode cX11_chance 76 = .ok (.ifCond .ne 8, 3) := by decide +kernel
theorem dX11_chance_79 : decode cX11_chance 79 = .ok (.iload 4, 2) := by decide +kernel
theorem dX11_chance_81 : decode cX11_chance 81 = .ok (.goto 5, 3) := by decide +kernel
theorem dX11_chance_84 : decode cX11_chance 84 = .ok (.iload 5, 2) := by decide +kernel
theorem dX11_chance_86 : decode cX11_chance 86 = .ok (.iload 6, 2) := by decide +kernel
theorem dX11_chance_88 : decode cX11_chance 88 = .ok (.idiv, 1) := by decide +kernel
theorem dX11_chance_89 : decode cX11_chance 89 = .ok (.ireturn, 1) := by decide +kernel
theorem dX11_likeliest_0 : decode cX11_likeliest 0 = .ok (.aload_n 0, 1) := by decide +kernel
theorem dX11_likeliest_1 : decode cX11_likeliest 1 = .ok (.iload_n 1, 1) := by decide +kernel
theorem dX11_likeliest_2 : decode cX11_likeliest 2 = .ok (.invokevirtual 339, 3) := by decide +kernel
theorem dX11_likeliest_5 : decode cX11_likeliest 5 = .ok (.aload_n 0, 1) := by decide +kernel
theorem dX11_likeliest_6 : decode cX11_likeliest 6 = .ok (.getfield 69, 3) := by decide +kernel
theorem dX11_likeliest_9 : decode cX11_likeliest 9 = .ok (.iload_n 1, 1) := by decide +kernel
theorem dX11_likeliest_10 : decode cX11_likeliest 10 = .ok (.invokevirtual 344, 3) := by decide +kernel
theorem dX11_likeliest_13 : decode cX11_likeliest 13 = .ok (.iconst (-1), 1) := by decide +kernel
theorem dX11_likeliest_14 : decode cX11_likeliest 14 = .ok (.istore_n 2, 1) := by decide +kernel
theorem dX11_likeliest_15 : decode cX11_likeliest 15 = .ok (.iconst 0, 1) := by decide +kernel
theorem dX11_likeliest_16 : decode cX11_likeliest 16 = .ok (.istore_n 3, 1) := by decide +kernel
theorem dX11_likeliest_17 : decode cX11_likeliest 17 = .ok (.iconst 0, 1) := by decide +kernel
theorem dX11_likeliest_18 : decode cX11_likeliest 18 = .ok (.istore 4, 2) := by decide +kernel
theorem dX11_likeliest_20 : decode cX11_likeliest 20 = .ok (.iload 4, 2) := by decide +kernel
theorem dX11_likeliest_22 : decode cX11_likeliest 22 = .ok (.aload_n 0, 1) := by decide +kernel
theorem dX11_likeliest_23 : decode cX11_likeliest 23 = .ok (.getfield 34, 3) := by decide +kernel
theorem dX11_likeliest_26 : decode cX11_likeliest 26 = .ok (.getfield 223, 3) := by decide +kernel
theorem dX11_likeliest_29 : decode cX11_likeliest 29 = .ok (.if_icmp .ge 37, 3) := by decide +kernel
theorem dX11_likeliest_32 : decode cX11_likeliest 32 = .ok (.aload_n 0, 1) := by decide +kernel
theorem dX11_likeliest_33 : decode cX11_likeliest 33 = .ok (.getfield 69, 3) := by decide +kernel
theorem dX11_likeliest_36 : decode cX11_likeliest 36 = .ok (.getfield 347, 3) := by decide +kernel
theorem dX11_likeliest_39 : decode cX11_likeliest 39 = .ok (.iload 4, 2) := by decide +kernel
theorem dX11_likeliest_41 : decode cX11_likeliest 41 = .ok (.iaload, 1) := by decide +kernel
theorem dX11_likeliest_42 : decode cX11_likeliest 42 = .ok (.iload_n 3, 1) := by decide +kernel
theorem dX11_likeliest_43 : decode cX11_likeliest 43 = .ok (.if_icmp .le 17, 3) := by decide +kernel
theorem dX11_likeliest_46 : decode cX11_likeliest 46 = .ok (.aload_n 0, 1) := by decide +kernel
theorem dX11_likeliest_47 : decode cX11_likeliest 47 = .ok (.getfield 69, 3) := by decide +kernel
theorem dX11_likeliest_50 : decode cX11_likeliest 50 = .ok (.getfield 347, 3) := by decide +kernel
theorem dX11_likeliest_53 : decode cX11_likeliest 53 = .ok (.iload 4, 2) := by decide +kernel
theorem dX11_likeliest_55 : decode cX11_likeliest 55 = .ok (.iaload, 1) := by decide +kernel
theorem dX11_likeliest_56 : decode cX11_likeliest 56 = .ok (.istore_n 3, 1) := by decide +kernel
theorem dX11_likeliest_57 : decode cX11_likeliest 57 = .ok (.iload 4, 2) := by decide +kernel
theorem dX11_likeliest_59 : decode cX11_likeliest 59 = .ok (.istore_n 2, 1) := by decide +kernel
theorem dX11_likeliest_60 : decode cX11_likeliest 60 = .ok (.iinc 4 1, 3) := by decide +kernel
theorem dX11_likeliest_63 : decode cX11_likeliest 63 = .ok (.goto (-43), 3) := by decide +kernel
theorem dX11_likeliest_66 : decode cX11_likeliest 66 = .ok (.iload_n 2, 1) := by decide +kernel
theorem dX11_likeliest_67 : decode cX11_likeliest 67 = .ok (.ireturn, 1) := by decide +kernel
theorem dX11_tray_0 : decode cX11_tray 0 = .ok (.iload_n 1, 1) := by decide +kernel
theorem dX11_tray_1 : decode cX11_tray 1 = .ok (.ifCond .lt 8, 3) := by decide +kernel
theorem dX11_tray_4 : decode cX11_tray 4 = .ok (.iload_n 1, 1) := by decide +kernel
theorem dX11_tray_5 : decode cX11_tray 5 = .ok (.iconst 4, 1) := by decide +kernel
theorem dX11_tray_6 : decode cX11_tray 6 = .ok (.if_icmp .lt 14, 3) := by decide +kernel
theorem dX11_tray_9 : decode cX11_tray 9 = .ok (.new 356, 3) := by decide +kernel
theorem dX11_tray_12 : decode cX11_tray 12 = .ok (.dup, 1) := by decide +kernel
theorem dX11_tray_13 : decode cX11_tray 13 = .ok (.ldc_w 358, 3) := by decide +kernel
theorem dX11_tray_16 : decode cX11_tray 16 = .ok (.invokespecial 360, 3) := by decide +kernel
theorem dX11_tray_19 : decode cX11_tray 19 = .ok (.athrow, 1) := by decide +kernel
theorem dX11_tray_20 : decode cX11_tray 20 = .ok (.iload_n 2, 1) := by decide +kernel
theorem dX11_tray_21 : decode cX11_tray 21 = .ok (.ifCond .lt 18, 3) := by decide +kernel
theorem dX11_tray_24 : decode cX11_tray 24 = .ok (.iload_n 2, 1) := by decide +kernel
theorem dX11_tray_25 : decode cX11_tray 25 = .ok (.iconst 3, 1) := by decide +kernel
theorem dX11_tray_26 : decode cX11_tray 26 = .ok (.if_icmp .gt 13, 3) := by decide +kernel
theorem dX11_tray_29 : decode cX11_tray 29 = .ok (.iload_n 3, 1) := by decide +kernel
theorem dX11_tray_30 : decode cX11_tray 30 = .ok (.ifCond .lt 9, 3) := by decide +kernel
theorem dX11_tray_33 : decode cX11_tray 33 = .ok (.iload_n 3, 1) := by decide +kernel
theorem dX11_tray_34 : decode cX11_tray 34 = .ok (.bipush 30, 2) := by decide +kernel
theorem dX11_tray_36 : decode cX11_tray 36 = .ok (.if_icmp .le 14, 3) := by decide +kernel
theorem dX11_tray_39 : decode cX11_tray 39 = .ok (.new 87, 3) := by decide +kernel
theorem dX11_tray_42 : decode cX11_tray 42 = .ok (.dup, 1) := by decide +kernel
theorem dX11_tray_43 : decode cX11_tray 43 = .ok (.ldc_w 361, 3) := by decide +kernel
theorem dX11_tray_46 : decode cX11_tray 46 = .ok (.invokespecial 91, 3) := by decide +kernel
theorem dX11_tray_49 : decode cX11_tray 49 = .ok (.athrow, 1) := by decide +kernel
theorem dX11_tray_50 : decode cX11_tray 50 = .ok (.aload_n 0, 1) := by decide +kernel
theorem dX11_tray_51 : decode cX11_tray 51 = .ok (.getfield 47, 3) := by decide +kernel
theorem dX11_tray_54 : decode cX11_tray 54 = .ok (.iload_n 1, 1) := by decide +kernel
theorem dX11_tray_55 : decode cX11_tray 55 = .ok (.aaload, 1) := by decide +kernel
theorem dX11_tray_56 : decode cX11_tray 56 = .ok (.iload_n 2, 1) := by decide +kernel
theorem dX11_tray_57 : decode cX11_tray 57 = .ok (.iload_n 3, 1) := by decide +kernel
theorem dX11_tray_58 : decode cX11_tray 58 = .ok (.invokevirtual 363, 3) := by decide +kernel
theorem dX11_tray_61 : decode cX11_tray 61 = .ok (.return_, 1) := by decide +kernel
theorem dX11_write_0 : decode cX11_write 0 = .ok (.aload_n 0, 1) := by decide +kernel
theorem dX11_write_1 : decode cX11_write 1 = .ok (.iload_n 1, 1) := by decide +kernel
theorem dX11_write_2 : decode cX11_write 2 = .ok (.invokevirtual 187, 3) := by decide +kernel
theorem dX11_write_5 : decode cX11_write 5 = .ok (.astore 5, 2) := by decide +kernel
theorem dX11_write_7 : decode cX11_write 7 = .ok (.iload_n 2, 1) := by decide +kernel
theorem dX11_write_8 : decode cX11_write 8 = .ok (.ifCond .lt 12, 3) := by decide +kernel
theorem dX11_write_11 : decode cX11_write 11 = .ok (.iload_n 2, 1) := by decide +kernel
theorem dX11_write_12 : decode cX11_write 12 = .ok (.aload 5, 2) := by decide +kernel
theorem dX11_write_14 : decode cX11_write 14 = .ok (.getfield 196, 3) := by decide +kernel
theorem dX11_write_17 : decode cX11_write 17 = .ok (.if_icmp .lt 14, 3) := by decide +kernel
theorem dX11_write_20 : decode cX11_write 20 = .ok (.new 366, 3) := by decide +kernel
theorem dX11_write_23 : decode cX11_write 23 = .ok (.dup, 1) := by decide +kernel
theorem dX11_write_24 : decode cX11_write 24 = .ok (.ldc_w 368, 3) := by decide +kernel
theorem dX11_write_27 : decode cX11_write 27 = .ok (.invokespecial 370, 3) := by decide +kernel
theorem dX11_write_30 : decode cX11_write 30 = .ok (.athrow, 1) := by decide +kernel
theorem dX11_write_31 : decode cX11_write 31 = .ok (.aload 5, 2) := by decide +kernel
theorem dX11_write_33 : decode cX11_write 33 = .ok (.iload_n 2, 1) := by decide +kernel
theorem dX11_write_34 : decode cX11_write 34 = .ok (.lload_n 3, 1) := by decide +kernel
theorem dX11_write_35 : decode cX11_write 35 = .ok (.invokevirtual 371, 3) := by decide +kernel
theorem dX11_write_38 : decode cX11_write 38 = .ok (.lreturn, 1) := by decide +kernel
theorem dX11_copy_0 : decode cX11_copy 0 = .ok (.aload_n 0, 1) := by decide +kernel
theorem dX11_copy_1 : decode cX11_copy 1 = .ok (.iload_n 1, 1) := by decide +kernel
theorem dX11_copy_2 : decode cX11_copy 2 = .ok (.invokevirtual 187, 3) := by decide +kernel
theorem dX11_copy_5 : decode cX11_copy 5 = .ok (.astore_n 3, 1) := by decide +kernel
theorem dX11_copy_6 : decode cX11_copy 6 = .ok (.aload_n 0, 1) := by decide +kernel
theorem dX11_copy_7 : decode cX11_copy 7 = .ok (.iload_n 2, 1) := by decide +kernel
theorem dX11_copy_8 : decode cX11_copy 8 = .ok (.ldc_w 318, 3) := by decide +kernel
theorem dX11_copy_11 : decode cX11_copy 11 = .ok (.invokevirtual 319, 3) := by decide +kernel
theorem dX11_copy_14 : decode cX11_copy 14 = .ok (.aload_n 0, 1) := by decide +kernel
theorem dX11_copy_15 : decode cX11_copy 15 = .ok (.getfield 76, 3) := by decide +kernel
theorem dX11_copy_18 : decode cX11_copy 18 = .ok (.iload_n 2, 1) := by decide +kernel
theorem dX11_copy_19 : decode cX11_copy 19 = .ok (.invokevirtual 322, 3) := by decide +kernel
theorem dX11_copy_22 : decode cX11_copy 22 = .ok (.istore 4, 2) := by decide +kernel
theorem dX11_copy_24 : decode cX11_copy 24 = .ok (.aload_n 3, 1) := by decide +kernel
theorem dX11_copy_25 : decode cX11_copy 25 = .ok (.getfield 196, 3) := by decide +kernel
theorem dX11_copy_28 : decode cX11_copy 28 = .ok (.aload_n 0, 1) := by decide +kernel
theorem dX11_copy_29 : decode cX11_copy 29 = .ok (.getfield 34, 3) := by decide +kernel
theorem dX11_copy_32 : decode cX11_copy 32 = .ok (.getfield 223, 3) := by decide +kernel
theorem dX11_copy_35 : decode cX11_copy 35 = .ok (.invokestatic 375, 3) := by decide +kernel
theorem dX11_copy_38 : decode cX11_copy 38 = .ok (.istore 5, 2) := by decide +kernel
theorem dX11_copy_40 : decode cX11_copy 40 = .ok (.iconst 0, 1) := by decide +kernel
theorem dX11_copy_41 : decode cX11_copy 41 = .ok (.istore 6, 2) := by decide +kernel
theorem dX11_copy_43 : decode cX11_copy 43 = .ok (.iload 6, 2) := by decide +kernel
theorem dX11_copy_45 : decode cX11_copy 45 = .ok (.iload 5, 2) := by decide +kernel
theorem dX11_copy_47 : decode cX11_copy 47 = .ok (.if_icmp .ge 24, 3) := by decide +kernel
theorem dX11_copy_50 : decode cX11_copy 50 = .ok (.aload_n 3, 1) := by decide +kernel
theorem dX11_copy_51 : decode cX11_copy 51 = .ok (.iload 6, 2) := by decide +kernel
theorem dX11_copy_53 : decode cX11_copy 53 = .ok (.iload 4, 2) := by decide +kernel
theorem dX11_copy_55 : decode cX11_copy 55 = .ok (.iload 6, 2) := by decide +kernel
theorem dX11_copy_57 : decode cX11_copy 57 = .ok (.invokestatic 119, 3) := by decide +kernel
theorem dX11_copy_60 : decode cX11_copy 60 = .ok (.i2l, 1) := by decide +kernel
theorem dX11_copy_61 : decode cX11_copy 61 = .ok (.invokevirtual 371, 3) := by decide +kernel
theorem dX11_copy_64 : decode cX11_copy 64 = .ok (.pop2, 1) := by decide +kernel
theorem dX11_copy_65 : decode cX11_copy 65 = .ok (.iinc 6 1, 3) := by decide +kernel
theorem dX11_copy_68 : decode cX11_copy 68 = .ok (.goto (-25), 3) := by decide +kernel
theorem dX11_copy_71 : decode cX11_copy 71 = .ok (.iload 5, 2) := by decide +kernel
theorem dX11_copy_73 : decode cX11_copy 73 = .ok (.ireturn, 1) := by decide +kernel
theorem dX11_image_0 : decode cX11_image 0 = .ok (.aload_n 0, 1) := by decide +kernel
theorem dX11_image_1 : decode cX11_image 1 = .ok (.iload_n 1, 1) := by decide +kernel
theorem dX11_image_2 : decode cX11_image 2 = .ok (.invokevirtual 380, 3) := by decide +kernel
theorem dX11_image_5 : decode cX11_image 5 = .ok (.aload_n 0, 1) := by decide +kernel
theorem dX11_image_6 : decode cX11_image 6 = .ok (.getfield 41, 3) := by decide +kernel
theorem dX11_image_9 : decode cX11_image 9 = .ok (.iload_n 1, 1) := by decide +kernel
theorem dX11_image_10 : decode cX11_image 10 = .ok (.aaload, 1) := by decide +kernel
theorem dX11_image_11 : decode cX11_image 11 = .ok (.aload_n 0, 1) := by decide +kernel
theorem dX11_image_12 : decode cX11_image 12 = .ok (.getfield 34, 3) := by decide +kernel
theorem dX11_image_15 : decode cX11_image 15 = .ok (.invokevirtual 193, 3) := by decide +kernel
theorem dX11_image_18 : decode cX11_image 18 = .ok (.aload_n 0, 1) := by decide +kernel
theorem dX11_image_19 : decode cX11_image 19 = .ok (.dup, 1) := by decide +kernel
theorem dX11_image_20 : decode cX11_image 20 = .ok (.getfield 383, 3) := by decide +kernel
theorem dX11_image_23 : decode cX11_image 23 = .ok (.iconst 1, 1) := by decide +kernel
theorem dX11_image_24 : decode cX11_image 24 = .ok (.iload_n 1, 1) := by decide +kernel
theorem dX11_image_25 : decode cX11_image 25 = .ok (.ishl, 1) := by decide +kernel
theorem dX11_image_26 : decode cX11_image 26 = .ok (.ior, 1) := by decide +kernel
theorem dX11_image_27 : decode cX11_image 27 = .ok (.putfield 383, 3) := by decide +kernel
theorem dX11_image_30 : decode cX11_image 30 = .ok (.return_, 1) := by decide +kernel
theorem dX11_restore_0 : decode cX11_restore 0 = .ok (.aload_n 0, 1) := by decide +kernel
theorem dX11_restore_1 : decode cX11_restore 1 = .ok (.iload_n 1, 1) := by decide +kernel
theorem dX11_restore_2 : decode cX11_restore 2 = .ok (.invokevirtual 380, 3) := by decide +kernel
theorem dX11_restore_5 : decode cX11_restore 5 = .ok (.aload_n 0, 1) := by decide +kernel
theorem dX11_restore_6 : decode cX11_restore 6 = .ok (.getfield 383, 3) := by decide +kernel
theorem dX11_restore_9 : decode cX11_restore 9 = .ok (.iload_n 1, 1) := by decide +kernel
theorem dX11_restore_10 : decode cX11_restore 10 = .ok (.ishr, 1) := by decide +kernel
theorem dX11_restore_11 : decode cX11_restore 11 = .ok (.iconst 1, 1) := by decide +kernel
theorem dX11_restore_12 : decode cX11_restore 12 = .ok (.iand, 1) := by decide +kernel
theorem dX11_restore_13 : decode cX11_restore 13 = .ok (.ifCond .ne 14, 3) := by decide +kernel
theorem dX11_restore_16 : decode cX11_restore 16 = .ok (.new 386, 3) := by decide +kernel
theorem dX11_restore_19 : decode cX11_restore 19 = .ok (.dup, 1) := by decide +kernel
theorem dX11_restore_20 : decode cX11_restore 20 = .ok (.ldc_w 388, 3) := by decide +kernel
theorem dX11_restore_23 : decode cX11_restore 23 = .ok (.invokespecial 390, 3) := by decide +kernel
theorem dX11_restore_26 : decode cX11_restore 26 = .ok (.athrow, 1) := by decide +kernel
theorem dX11_restore_27 : decode cX11_restore 27 = .ok (.aload_n 0, 1) := by decide +kernel
theorem dX11_restore_28 : decode cX11_restore 28 = .ok (.getfield 34, 3) := by decide +kernel
theorem dX11_restore_31 : decode cX11_restore 31 = .ok (.aload_n 0, 1) := by decide +kernel
theorem dX11_restore_32 : decode cX11_restore 32 = .ok (.getfield 41, 3) := by decide +kernel
theorem dX11_restore_35 : decode cX11_restore 35 = .ok (.iload_n 1, 1) := by decide +kernel
theorem dX11_restore_36 : decode cX11_restore 36 = .ok (.aaload, 1) := by decide +kernel
theorem dX11_restore_37 : decode cX11_restore 37 = .ok (.invokevirtual 193, 3) := by decide +kernel
theorem dX11_restore_40 : decode cX11_restore 40 = .ok (.return_, 1) := by decide +kernel
theorem dX11_count_0 : decode cX11_count 0 = .ok (.iload_n 1, 1) := by decide +kernel
theorem dX11_count_1 : decode cX11_count 1 = .ok (.tableswitch 118 0 7 #[47, 55, 63, 71, 79, 97, 105, 113], 47) := by decide +kernel
theorem dX11_count_48 : decode cX11_count 48 = .ok (.aload_n 0, 1) := by decide +kernel
theorem dX11_count_49 : decode cX11_count 49 = .ok (.getfield 34, 3) := by decide +kernel
theorem dX11_count_52 : decode cX11_count 52 = .ok (.getfield 110, 3) := by decide +kernel
theorem dX11_count_55 : decode cX11_count 55 = .ok (.ireturn, 1) := by decide +kernel
theorem dX11_count_56 : decode cX11_count 56 = .ok (.aload_n 0, 1) := by decide +kernel
theorem dX11_count_57 : decode cX11_count 57 = .ok (.getfield 34, 3) := by decide +kernel
theorem dX11_count_60 : decode cX11_count 60 = .ok (.getfield 223, 3) := by decide +kernel
theorem dX11_count_63 : decode cX11_count 63 = .ok (.ireturn, 1) := by decide +kernel
theorem dX11_count_64 : decode cX11_count 64 = .ok (.aload_n 0, 1) := by decide +kernel
theorem dX11_count_65 : decode cX11_count 65 = .ok (.getfield 34, 3) := by decide +kernel
theorem dX11_count_68 : decode cX11_count 68 = .ok (.getfield 206, 3) := by decide +kernel
theorem dX11_count_71 : decode cX11_count 71 = .ok (.ireturn, 1) := by decide +kernel
theorem dX11_count_72 : decode cX11_count 72 = .ok (.aload_n 0, 1) := by decide +kernel
theorem dX11_count_73 : decode cX11_count 73 = .ok (.getfield 34, 3) := by decide +kernel
theorem dX11_count_76 : decode cX11_count 76 = .ok (.invokevirtual 391, 3) := by decide +kernel
theorem dX11_count_79 : decode cX11_count 79 = .ok (.ireturn, 1) := by decide +kernel
theorem dX11_count_80 : decode cX11_count 80 = .ok (.aload_n 0, 1) := by decide +kernel
theorem dX11_count_81 : decode cX11_count 81 = .ok (.getfield 34, 3) := by decide +kernel
theorem dX11_count_84 : decode cX11_count 84 = .ok (.getfield 116, 3) := by decide +kernel
theorem dX11_count_87 : decode cX11_count 87 = .ok (.aload_n 0, 1) := by decide +kernel
theorem dX11_count_88 : decode cX11_count 88 = .ok (.getfield 34, 3) := by decide +kernel
theorem dX11_count_91 : decode cX11_count 91 = .ok (.getfield 223, 3) := by decide +kernel
theorem dX11_count_94 : decode cX11_count 94 = .ok (.invokestatic 394, 3) := by decide +kernel
theorem dX11_count_97 : decode cX11_count 97 = .ok (.ireturn, 1) := by decide +kernel
theorem dX11_count_98 : decode cX11_count 98 = .ok (.aload_n 0, 1) := by decide +kernel
theorem dX11_count_99 : decode cX11_count 99 = .ok (.getfield 34, 3) := by decide +kernel
theorem dX11_count_102 : decode cX11_count 102 = .ok (.invokevirtual 397, 3) := by decide +kernel
theorem dX11_count_105 : decode cX11_count 105 = .ok (.ireturn, 1) := by decide +kernel
theorem dX11_count_106 : decode cX11_count 106 = .ok (.aload_n 0, 1) := by decide +kernel
theorem dX11_count_107 : decode cX11_count 107 = .ok (.getfield 34, 3) := by decide +kernel
theorem dX11_count_110 : decode cX11_count 110 = .ok (.getfield 179, 3) := by decide +kernel
theorem dX11_count_113 : decode cX11_count 113 = .ok (.ireturn, 1) := by decide +kernel
theorem dX11_count_114 : decode cX11_count 114 = .ok (.aload_n 0, 1) := by decide +kernel
theorem dX11_count_115 : decode cX11_count 115 = .ok (.getfield 80, 3) := by decide +kernel
theorem dX11_count_118 : decode cX11_count 118 = .ok (.ireturn, 1) := by decide +kernel
theorem dX11_count_119 : decode cX11_count 119 = .ok (.iconst (-1), 1) := by decide +kernel
theorem dX11_count_120 : decode cX11_count 120 = .ok (.ireturn, 1) := by decide +kernel
theorem dX11_append_0 : decode cX11_append 0 = .ok (.bipush 24, 2) := by decide +kernel
theorem dX11_append_2 : decode cX11_append 2 = .ok (.istore_n 2, 1) := by decide +kernel
theorem dX11_append_3 : decode cX11_append 3 = .ok (.iload_n 2, 1) := by decide +kernel
theorem dX11_append_4 : decode cX11_append 4 = .ok (.ifCond .lt 42, 3) := by decide +kernel
theorem dX11_append_7 : decode cX11_append 7 = .ok (.aload_n 0, 1) := by decide +kernel
theorem dX11_append_8 : decode cX11_append 8 = .ok (.getfield 80, 3) := by decide +kernel
theorem dX11_append_11 : decode cX11_append 11 = .ok (.sipush 900, 3) := by decide +kernel
theorem dX11_append_14 : decode cX11_append 14 = .ok (.if_icmp .ge 32, 3) := by decide +kernel
theorem dX11_append_17 : decode cX11_append 17 = .ok (.aload_n 0, 1) := by decide +kernel
theorem dX11_append_18 : decode cX11_append 18 = .ok (.getfield 9, 3) := by decide +kernel
theorem dX11_append_21 : decode cX11_append 21 = .ok (.aload_n 0, 1) := by decide +kernel
theorem dX11_append_22 : decode cX11_append 22 = .ok (.getfield 80, 3) := by decide +kernel
theorem dX11_append_25 : decode cX11_append 25 = .ok (.iload_n 1, 1) := by decide +kernel
theorem dX11_append_26 : decode cX11_append 26 = .ok (.iload_n 2, 1) := by decide +kernel
theorem dX11_append_27 : decode cX11_append 27 = .ok (.iushr, 1) := by decide +kernel
theorem dX11_append_28 : decode cX11_append 28 = .ok (.i2b, 1) := by decide +kernel
theorem dX11_append_29 : decode cX11_append 29 = .ok (.bastore, 1) := by decide +kernel
theorem dX11_append_30 : decode cX11_append 30 = .ok (.aload_n 0, 1) := by decide +kernel
theorem dX11_append_31 : decode cX11_append 31 = .ok (.dup, 1) := by decide +kernel
theorem dX11_append_32 : decode cX11_append 32 = .ok (.getfield 80, 3) := by decide +kernel
theorem dX11_append_35 : decode cX11_append 35 = .ok (.iconst 1, 1) := by decide +kernel
theorem dX11_append_36 : decode cX11_append 36 = .ok (.iadd, 1) := by decide +kernel
theorem dX11_append_37 : decode cX11_append 37 = .ok (.putfield 80, 3) := by decide +kernel
theorem dX11_append_40 : decode cX11_append 40 = .ok (.iinc 2 (-8), 3) := by decide +kernel
theorem dX11_append_43 : decode cX11_append 43 = .ok (.goto (-40), 3) := by decide +kernel
theorem dX11_append_46 : decode cX11_append 46 = .ok (.return_, 1) := by decide +kernel
theorem dX11_drawnFrom_0 : decode cX11_drawnFrom 0 = .ok (.ldc_w 400, 3) := by decide +kernel
theorem dX11_drawnFrom_3 : decode cX11_drawnFrom 3 = .ok (.iload_n 0, 1) := by decide +kernel
theorem dX11_drawnFrom_4 : decode cX11_drawnFrom 4 = .ok (.imul, 1) := by decide +kernel
theorem dX11_drawnFrom_5 : decode cX11_drawnFrom 5 = .ok (.sipush 12345, 3) := by decide +kernel
theorem dX11_drawnFrom_8 : decode cX11_drawnFrom 8 = .ok (.iadd, 1) := by decide +kernel
theorem dX11_drawnFrom_9 : decode cX11_drawnFrom 9 = .ok (.ireturn, 1) := by decide +kernel
theorem dX11_enactDrawn_0 : decode cX11_enactDrawn 0 = .ok (.iload_n 1, 1) := by decide +kernel
theorem dX11_enactDrawn_1 : decode cX11_enactDrawn 1 = .ok (.tableswitch 65 0 4 #[35, 65, 65, 46, 56], 35) := by decide +kernel
theorem dX11_enactDrawn_36 : decode cX11_enactDrawn 36 = .ok (.aload_n 0, 1) := by decide +kernel
theorem dX11_enactDrawn_37 : decode cX11_enactDrawn 37 = .ok (.getfield 34, 3) := by decide +kernel
theorem dX11_enactDrawn_40 : decode cX11_enactDrawn 40 = .ok (.ldc2_w 401, 3) := by decide +kernel
theorem dX11_enactDrawn_43 : decode cX11_enactDrawn 43 = .ok (.invokevirtual 202, 3) := by decide +kernel
theorem dX11_enactDrawn_46 : decode cX11_enactDrawn 46 = .ok (.ireturn, 1) := by decide +kernel
theorem dX11_enactDrawn_47 : decode cX11_enactDrawn 47 = .ok (.aload_n 0, 1) := by decide +kernel
theorem dX11_enactDrawn_48 : decode cX11_enactDrawn 48 = .ok (.getfield 34, 3) := by decide +kernel
theorem dX11_enactDrawn_51 : decode cX11_enactDrawn 51 = .ok (.iload_n 2, 1) := by decide +kernel
theorem dX11_enactDrawn_52 : decode cX11_enactDrawn 52 = .ok (.iload_n 3, 1) := by decide +kernel
theorem dX11_enactDrawn_53 : decode cX11_enactDrawn 53 = .ok (.invokevirtual 165, 3) := by decide +kernel
theorem dX11_enactDrawn_56 : decode cX11_enactDrawn 56 = .ok (.ireturn, 1) := by decide +kernel
theorem dX11_enactDrawn_57 : decode cX11_enactDrawn 57 = .ok (.aload_n 0, 1) := by decide +kernel
theorem dX11_enactDrawn_58 : decode cX11_enactDrawn 58 = .ok (.getfield 34, 3) := by decide +kernel
theorem dX11_enactDrawn_61 : decode cX11_enactDrawn 61 = .ok (.iload_n 2, 1) := by decide +kernel
theorem dX11_enactDrawn_62 : decode cX11_enactDrawn 62 = .ok (.invokevirtual 168, 3) := by decide +kernel
theorem dX11_enactDrawn_65 : decode cX11_enactDrawn 65 = .ok (.ireturn, 1) := by decide +kernel
theorem dX11_enactDrawn_66 : decode cX11_enactDrawn 66 = .ok (.aload_n 0, 1) := by decide +kernel
theorem dX11_enactDrawn_67 : decode cX11_enactDrawn 67 = .ok (.getfield 34, 3) := by decide +kernel
theorem dX11_enactDrawn_70 : decode cX11_enactDrawn 70 = .ok (.iload_n 2, 1) := by decide +kernel
theorem dX11_enactDrawn_71 : decode cX11_enactDrawn 71 = .ok (.iload_n 3, 1) := by decide +kernel
theorem dX11_enactDrawn_72 : decode cX11_enactDrawn 72 = .ok (.invokevirtual 159, 3) := by decide +kernel
theorem dX11_enactDrawn_75 : decode cX11_enactDrawn 75 = .ok (.ireturn, 1) := by decide +kernel
theorem dX11_needMember_0 : decode cX11_needMember 0 = .ok (.aload_n 0, 1) := by decide +kernel
theorem dX11_needMember_1 : decode cX11_needMember 1 = .ok (.getfield 34, 3) := by decide +kernel
theorem dX11_needMember_4 : decode cX11_needMember 4 = .ok (.iload_n 1, 1) := by decide +kernel
theorem dX11_needMember_5 : decode cX11_needMember 5 = .ok (.invokevirtual 162, 3) := by decide +kernel
theorem dX11_needMember_8 : decode cX11_needMember 8 = .ok (.ifCond .ne 14, 3) := by decide +kernel
theorem dX11_needMember_11 : decode cX11_needMember 11 = .ok (.new 356, 3) := by decide +kernel
theorem dX11_needMember_14 : decode cX11_needMember 14 = .ok (.dup, 1) := by decide +kernel
theorem dX11_needMember_15 : decode cX11_needMember 15 = .ok (.ldc_w 403, 3) := by decide +kernel
theorem dX11_needMember_18 : decode cX11_needMember 18 = .ok (.invokespecial 360, 3) := by decide +kernel
theorem dX11_needMember_21 : decode cX11_needMember 21 = .ok (.athrow, 1) := by decide +kernel
theorem dX11_needMember_22 : decode cX11_needMember 22 = .ok (.return_, 1) := by decide +kernel
theorem dX11_needTray_0 : decode cX11_needTray 0 = .ok (.iload_n 1, 1) := by decide +kernel
theorem dX11_needTray_1 : decode cX11_needTray 1 = .ok (.ifCond .lt 8, 3) := by decide +kernel
theorem dX11_needTray_4 : decode cX11_needTray 4 = .ok (.iload_n 1, 1) := by decide +kernel
theorem dX11_needTray_5 : decode cX11_needTray 5 = .ok (.iconst 4, 1) := by decide +kernel
theorem dX11_needTray_6 : decode cX11_needTray 6 = .ok (.if_icmp .lt 14, 3) := by decide +kernel
theorem dX11_needTray_9 : decode cX11_needTray 9 = .ok (.new 356, 3) := by decide +kernel
theorem dX11_needTray_12 : decode cX11_needTray 12 = .ok (.dup, 1) := by decide +kernel
theorem dX11_needTray_13 : decode cX11_needTray 13 = .ok (.ldc_w 358, 3) := by decide +kernel
theorem dX11_needTray_16 : decode cX11_needTray 16 = .ok (.invokespecial 360, 3) := by decide +kernel
theorem dX11_needTray_19 : decode cX11_needTray 19 = .ok (.athrow, 1) := by decide +kernel
theorem dX11_needTray_20 : decode cX11_needTray 20 = .ok (.aload_n 0, 1) := by decide +kernel
theorem dX11_needTray_21 : decode cX11_needTray 21 = .ok (.getfield 47, 3) := by decide +kernel
theorem dX11_needTray_24 : decode cX11_needTray 24 = .ok (.iload_n 1, 1) := by decide +kernel
theorem dX11_needTray_25 : decode cX11_needTray 25 = .ok (.aaload, 1) := by decide +kernel
theorem dX11_needTray_26 : decode cX11_needTray 26 = .ok (.astore_n 2, 1) := by decide +kernel
theorem dX11_needTray_27 : decode cX11_needTray 27 = .ok (.aload_n 2, 1) := by decide +kernel
theorem dX11_needTray_28 : decode cX11_needTray 28 = .ok (.getfield 196, 3) := by decide +kernel
theorem dX11_needTray_31 : decode cX11_needTray 31 = .ok (.iconst (-1), 1) := by decide +kernel
theorem dX11_needTray_32 : decode cX11_needTray 32 = .ok (.if_icmp .ne 14, 3) := by decide +kernel
theorem dX11_needTray_35 : decode cX11_needTray 35 = .ok (.new 386, 3) := by decide +kernel
theorem dX11_needTray_38 : decode cX11_needTray 38 = .ok (.dup, 1) := by decide +kernel
theorem dX11_needTray_39 : decode cX11_needTray 39 = .ok (.ldc_w 405, 3) := by decide +kernel
theorem dX11_needTray_42 : decode cX11_needTray 42 = .ok (.invokespecial 390, 3) := by decide +kernel
theorem dX11_needTray_45 : decode cX11_needTray 45 = .ok (.athrow, 1) := by decide +kernel
theorem dX11_needTray_46 : decode cX11_needTray 46 = .ok (.aload_n 2, 1) := by decide +kernel
theorem dX11_needTray_47 : decode cX11_needTray 47 = .ok (.areturn, 1) := by decide +kernel
theorem dX11_needLook_0 : decode cX11_needLook 0 = .ok (.aload_n 0, 1) := by decide +kernel
theorem dX11_needLook_1 : decode cX11_needLook 1 = .ok (.iload_n 1, 1) := by decide +kernel
theorem dX11_needLook_2 : decode cX11_needLook 2 = .ok (.invokevirtual 187, 3) := by decide +kernel
theorem dX11_needLook_5 : decode cX11_needLook 5 = .ok (.astore_n 2, 1) := by decide +kernel
theorem dX11_needLook_6 : decode cX11_needLook 6 = .ok (.aload_n 2, 1) := by decide +kernel
theorem dX11_needLook_7 : decode cX11_needLook 7 = .ok (.aload_n 0, 1) := by decide +kernel
theorem dX11_needLook_8 : decode cX11_needLook 8 = .ok (.getfield 34, 3) := by decide +kernel
theorem dX11_needLook_11 : decode cX11_needLook 11 = .ok (.getfield 223, 3) := by decide +kernel
theorem dX11_needLook_14 : decode cX11_needLook 14 = .ok (.invokevirtual 407, 3) := by decide +kernel
theorem dX11_needLook_17 : decode cX11_needLook 17 = .ok (.ifCond .ne 14, 3) := by decide +kernel
theorem dX11_needLook_20 : decode cX11_needLook 20 = .ok (.new 87, 3) := by decide +kernel
theorem dX11_needLook_23 : decode cX11_needLook 23 = .ok (.dup, 1) := by decide +kernel
theorem dX11_needLook_24 : decode cX11_needLook 24 = .ok (.ldc_w 410, 3) := by decide +kernel
theorem dX11_needLook_27 : decode cX11_needLook 27 = .ok (.invokespecial 91, 3) := by decide +kernel
theorem dX11_needLook_30 : decode cX11_needLook 30 = .ok (.athrow, 1) := by decide +kernel
theorem dX11_needLook_31 : decode cX11_needLook 31 = .ok (.aload_n 2, 1) := by decide +kernel
theorem dX11_needLook_32 : decode cX11_needLook 32 = .ok (.areturn, 1) := by decide +kernel
theorem dX11_needPathQuestion_0 : decode cX11_needPathQuestion 0 = .ok (.iload_n 1, 1) := by decide +kernel
theorem dX11_needPathQuestion_1 : decode cX11_needPathQuestion 1 = .ok (.ifCond .eq 26, 3) := by decide +kernel
theorem dX11_needPathQuestion_4 : decode cX11_needPathQuestion 4 = .ok (.iload_n 1, 1) := by decide +kernel
theorem dX11_needPathQuestion_5 : decode cX11_needPathQuestion 5 = .ok (.bipush 10, 2) := by decide +kernel
theorem dX11_needPathQuestion_7 : decode cX11_needPathQuestion 7 = .ok (.if_icmp .lt 9, 3) := by decide +kernel
theorem dX11_needPathQuestion_10 : decode cX11_needPathQuestion 10 = .ok (.iload_n 1, 1) := by decide +kernel
theorem dX11_needPathQuestion_11 : decode cX11_needPathQuestion 11 = .ok (.bipush 16, 2) := by decide +kernel
theorem dX11_needPathQuestion_13 : decode cX11_needPathQuestion 13 = .ok (.if_icmp .lt 14, 3) := by decide +kernel
theorem dX11_needPathQuestion_16 : decode cX11_needPathQuestion 16 = .ok (.new 87, 3) := by decide +kernel
theorem dX11_needPathQuestion_19 : decode cX11_needPathQuestion 19 = .ok (.dup, 1) := by decide +kernel
theorem dX11_needPathQuestion_20 : decode cX11_needPathQuestion 20 = .ok (.ldc_w 412, 3) := by decide +kernel
theorem dX11_needPathQuestion_23 : decode cX11_needPathQuestion 23 = .ok (.invokespecial 91, 3) := by decide +kernel
theorem dX11_needPathQuestion_26 : decode cX11_needPathQuestion 26 = .ok (.athrow, 1) := by decide +kernel
theorem dX11_needPathQuestion_27 : decode cX11_needPathQuestion 27 = .ok (.return_, 1) := by decide +kernel
theorem dX11_needMinutes_0 : decode cX11_needMinutes 0 = .ok (.iload_n 1, 1) := by decide +kernel
theorem dX11_needMinutes_1 : decode cX11_needMinutes 1 = .ok (.ifCond .lt 8, 3) := by decide +kernel
theorem dX11_needMinutes_4 : decode cX11_needMinutes 4 = .ok (.iload_n 1, 1) := by decide +kernel
theorem dX11_needMinutes_5 : decode cX11_needMinutes 5 = .ok (.iload_n 2, 1) := by decide +kernel
theorem dX11_needMinutes_6 : decode cX11_needMinutes 6 = .ok (.if_icmp .le 13, 3) := by decide +kernel
theorem dX11_needMinutes_9 : decode cX11_needMinutes 9 = .ok (.new 87, 3) := by decide +kernel
theorem dX11_needMinutes_12 : decode cX11_needMinutes 12 = .ok (.dup, 1) := by decide +kernel
theorem dX11_needMinutes_13 : decode cX11_needMinutes 13 = .ok (.ldc 171, 2) := by decide +kernel
theorem dX11_needMinutes_15 : decode cX11_needMinutes 15 = .ok (.invokespecial 91, 3) := by decide +kernel
theorem dX11_needMinutes_18 : decode cX11_needMinutes 18 = .ok (.athrow, 1) := by decide +kernel
theorem dX11_needMinutes_19 : decode cX11_needMinutes 19 = .ok (.return_, 1) := by decide +kernel
theorem dX11_needChances_0 : decode cX11_needChances 0 = .ok (.iload_n 1, 1) := by decide +kernel
theorem dX11_needChances_1 : decode cX11_needChances 1 = .ok (.ifCond .lt 9, 3) := by decide +kernel
theorem dX11_needChances_4 : decode cX11_needChances 4 = .ok (.iload_n 1, 1) := by decide +kernel
theorem dX11_needChances_5 : decode cX11_needChances 5 = .ok (.bipush 6, 2) := by decide +kernel
theorem dX11_needChances_7 : decode cX11_needChances 7 = .ok (.if_icmp .le 14, 3) := by decide +kernel
theorem dX11_needChances_10 : decode cX11_needChances 10 = .ok (.new 87, 3) := by decide +kernel
theorem dX11_needChances_13 : decode cX11_needChances 13 = .ok (.dup, 1) := by decide +kernel
theorem dX11_needChances_14 : decode cX11_needChances 14 = .ok (.ldc_w 414, 3) := by decide +kernel
theorem dX11_needChances_17 : decode cX11_needChances 17 = .ok (.invokespecial 91, 3) := by decide +kernel
theorem dX11_needChances_20 : decode cX11_needChances 20 = .ok (.athrow, 1) := by decide +kernel
theorem dX11_needChances_21 : decode cX11_needChances 21 = .ok (.return_, 1) := by decide +kernel
theorem dX11_needImage_0 : decode cX11_needImage 0 = .ok (.iload_n 1, 1) := by decide +kernel
theorem dX11_needImage_1 : decode cX11_needImage 1 = .ok (.ifCond .lt 8, 3) := by decide +kernel
theorem dX11_needImage_4 : decode cX11_needImage 4 = .ok (.iload_n 1, 1) := by decide +kernel
theorem dX11_needImage_5 : decode cX11_needImage 5 = .ok (.iconst 3, 1) := by decide +kernel
theorem dX11_needImage_6 : decode cX11_needImage 6 = .ok (.if_icmp .lt 14, 3) := by decide +kernel
theorem dX11_needImage_9 : decode cX11_needImage 9 = .ok (.new 356, 3) := by decide +kernel
theorem dX11_needImage_12 : decode cX11_needImage 12 = .ok (.dup, 1) := by decide +kernel
theorem dX11_needImage_13 : decode cX11_needImage 13 = .ok (.ldc_w 416, 3) := by decide +kernel
theorem dX11_needImage_16 : decode cX11_needImage 16 = .ok (.invokespecial 360, 3) := by decide +kernel
theorem dX11_needImage_19 : decode cX11_needImage 19 = .ok (.athrow, 1) := by decide +kernel
theorem dX11_needImage_20 : decode cX11_needImage 20 = .ok (.return_, 1) := by decide +kernel
theorem dX11_pathAnswer_0 : decode cX11_pathAnswer 0 = .ok (.iload_n 1, 1) := by decide +kernel
theorem dX11_pathAnswer_1 : decode cX11_pathAnswer 1 = .ok (.iconst (-1), 1) := by decide +kernel
theorem dX11_pathAnswer_2 : decode cX11_pathAnswer 2 = .ok (.if_icmp .eq 7, 3) := by decide +kernel
theorem dX11_pathAnswer_5 : decode cX11_pathAnswer 5 = .ok (.iload_n 3, 1) := by decide +kernel
theorem dX11_pathAnswer_6 : decode cX11_pathAnswer 6 = .ok (.ifCond .ne 5, 3) := by decide +kernel
theorem dX11_pathAnswer_9 : decode cX11_pathAnswer 9 = .ok (.iload_n 1, 1) := by decide +kernel
theorem dX11_pathAnswer_10 : decode cX11_pathAnswer 10 = .ok (.ireturn, 1) := by decide +kernel
theorem dX11_pathAnswer_11 : decode cX11_pathAnswer 11 = .ok (.iload_n 3, 1) := by decide +kernel
theorem dX11_pathAnswer_12 : decode cX11_pathAnswer 12 = .ok (.bipush 10, 2) := by decide +kernel
theorem dX11_pathAnswer_14 : decode cX11_pathAnswer 14 = .ok (.isub, 1) := by decide +kernel
theorem dX11_pathAnswer_15 : decode cX11_pathAnswer 15 = .ok (.istore 4, 2) := by decide +kernel
theorem dX11_pathAnswer_17 : decode cX11_pathAnswer 17 = .ok (.aload_n 0, 1) := by decide +kernel
theorem dX11_pathAnswer_18 : decode cX11_pathAnswer 18 = .ok (.getfield 34, 3) := by decide +kernel
theorem dX11_pathAnswer_21 : decode cX11_pathAnswer 21 = .ok (.iload 4, 2) := by decide +kernel
theorem dX11_pathAnswer_23 : decode cX11_pathAnswer 23 = .ok (.invokevirtual 162, 3) := by decide +kernel
theorem dX11_pathAnswer_26 : decode cX11_pathAnswer 26 = .ok (.ifCond .eq 12, 3) := by decide +kernel
theorem dX11_pathAnswer_29 : decode cX11_pathAnswer 29 = .ok (.iload_n 2, 1) := by decide +kernel
theorem dX11_pathAnswer_30 : decode cX11_pathAnswer 30 = .ok (.iload 4, 2) := by decide +kernel
theorem dX11_pathAnswer_32 : decode cX11_pathAnswer 32 = .ok (.invokestatic 119, 3) := by decide +kernel
theorem dX11_pathAnswer_35 : decode cX11_pathAnswer 35 = .ok (.goto 4, 3) := by decide +kernel
theorem dX11_pathAnswer_38 : decode cX11_pathAnswer 38 = .ok (.iconst (-1), 1) := by decide +kernel
theorem dX11_pathAnswer_39 : decode cX11_pathAnswer 39 = .ok (.ireturn, 1) := by decide +kernel
theorem dX11_listSeen_0 : decode cX11_listSeen 0 = .ok (.aload_n 0, 1) := by decide +kernel
theorem dX11_listSeen_1 : decode cX11_listSeen 1 = .ok (.iload_n 1, 1) := by decide +kernel
theorem dX11_listSeen_2 : decode cX11_listSeen 2 = .ok (.invokevirtual 217, 3) := by decide +kernel
theorem dX11_listSeen_5 : decode cX11_listSeen 5 = .ok (.astore_n 2, 1) := by decide +kernel
theorem dX11_listSeen_6 : decode cX11_listSeen 6 = .ok (.aload_n 2, 1) := by decide +kernel
theorem dX11_listSeen_7 : decode cX11_listSeen 7 = .ok (.aload_n 0, 1) := by decide +kernel
theorem dX11_listSeen_8 : decode cX11_listSeen 8 = .ok (.getfield 34, 3) := by decide +kernel
theorem dX11_listSeen_11 : decode cX11_listSeen 11 = .ok (.getfield 223, 3) := by decide +kernel
theorem dX11_listSeen_14 : decode cX11_listSeen 14 = .ok (.invokevirtual 226, 3) := by decide +kernel
theorem dX11_listSeen_17 : decode cX11_listSeen 17 = .ok (.istore_n 3, 1) := by decide +kernel
theorem dX11_listSeen_18 : decode cX11_listSeen 18 = .ok (.aload_n 0, 1) := by decide +kernel
theorem dX11_listSeen_19 : decode cX11_listSeen 19 = .ok (.getfield 69, 3) := by decide +kernel
theorem dX11_listSeen_22 : decode cX11_listSeen 22 = .ok (.iload_n 3, 1) := by decide +kernel
theorem dX11_listSeen_23 : decode cX11_listSeen 23 = .ok (.aload_n 2, 1) := by decide +kernel
theorem dX11_listSeen_24 : decode cX11_listSeen 24 = .ok (.aload_n 0, 1) := by decide +kernel
theorem dX11_listSeen_25 : decode cX11_listSeen 25 = .ok (.getfield 34, 3) := by decide +kernel
theorem dX11_listSeen_28 : decode cX11_listSeen 28 = .ok (.getfield 223, 3) := by decide +kernel
theorem dX11_listSeen_31 : decode cX11_listSeen 31 = .ok (.invokevirtual 229, 3) := by decide +kernel
theorem dX11_listSeen_34 : decode cX11_listSeen 34 = .ok (.invokevirtual 269, 3) := by decide +kernel
theorem dX11_listSeen_37 : decode cX11_listSeen 37 = .ok (.iload_n 3, 1) := by decide +kernel
theorem dX11_listSeen_38 : decode cX11_listSeen 38 = .ok (.ireturn, 1) := by decide +kernel
theorem dX11_commonMeasure_0 : decode cX11_commonMeasure 0 = .ok (.iload_n 0, 1) := by decide +kernel
theorem dX11_commonMeasure_1 : decode cX11_commonMeasure 1 = .ok (.istore_n 2, 1) := by decide +kernel
theorem dX11_commonMeasure_2 : decode cX11_commonMeasure 2 = .ok (.iload_n 1, 1) := by decide +kernel
theorem dX11_commonMeasure_3 : decode cX11_commonMeasure 3 = .ok (.istore_n 3, 1) := by decide +kernel
theorem dX11_commonMeasure_4 : decode cX11_commonMeasure 4 = .ok (.iconst 0, 1) := by decide +kernel
theorem dX11_commonMeasure_5 : decode cX11_commonMeasure 5 = .ok (.istore 4, 2) := by decide +kernel
theorem dX11_commonMeasure_7 : decode cX11_commonMeasure 7 = .ok (.iload 4, 2) := by decide +kernel
theorem dX11_commonMeasure_9 : decode cX11_commonMeasure 9 = .ok (.bipush 64, 2) := by decide +kernel
theorem dX11_commonMeasure_11 : decode cX11_commonMeasure 11 = .ok (.if_icmp .ge 23, 3) := by decide +kernel
theorem dX11_commonMeasure_14 : decode cX11_commonMeasure 14 = .ok (.iload_n 3, 1) := by decide +kernel
theorem dX11_commonMeasure_15 : decode cX11_commonMeasure 15 = .ok (.ifCond .le 19, 3) := by decide +kernel
theorem dX11_commonMeasure_18 : decode cX11_commonMeasure 18 = .ok (.iload_n 2, 1) := by decide +kernel
theorem dX11_commonMeasure_19 : decode cX11_commonMeasure 19 = .ok (.iload_n 3, 1) := by decide +kernel
theorem dX11_commonMeasure_20 : decode cX11_commonMeasure 20 = .ok (.irem, 1) := by decide +kernel
theorem dX11_commonMeasure_21 : decode cX11_commonMeasure 21 = .ok (.istore 5, 2) := by decide +kernel
theorem dX11_commonMeasure_23 : decode cX11_commonMeasure 23 = .ok (.iload_n 3, 1) := by decide +kernel
theorem dX11_commonMeasure_24 : decode cX11_commonMeasure 24 = .ok (.istore_n 2, 1) := by decide +kernel
theorem dX11_commonMeasure_25 : decode cX11_commonMeasure 25 = .ok (.iload 5, 2) := by decide +kernel
theorem dX11_commonMeasure_27 : decode cX11_commonMeasure 27 = .ok (.istore_n 3, 1) := by decide +kernel
theorem dX11_commonMeasure_28 : decode cX11_commonMeasure 28 = .ok (.iinc 4 1, 3) := by decide +kernel
theorem dX11_commonMeasure_31 : decode cX11_commonMeasure 31 = .ok (.goto (-24), 3) := by decide +kernel
theorem dX11_commonMeasure_34 : decode cX11_commonMeasure 34 = .ok (.iload_n 2, 1) := by decide +kernel
theorem dX11_commonMeasure_35 : decode cX11_commonMeasure 35 = .ok (.ireturn, 1) := by decide +kernel

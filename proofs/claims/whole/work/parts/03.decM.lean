theorem dX12_init_0 : decode cX12_init 0 = .ok (.aload_n 0, 1) := by decide +kernel
theorem dX12_init_1 : decode cX12_init 1 = .ok (.invokespecial 1, 3) := by decide +kernel
theorem dX12_init_4 : decode cX12_init 4 = .ok (.aload_n 0, 1) := by decide +kernel
theorem dX12_init_5 : decode cX12_init 5 = .ok (.sipush 2850, 3) := by decide +kernel
theorem dX12_init_8 : decode cX12_init 8 = .ok (.newarray .int, 2) := by decide +kernel
theorem dX12_init_10 : decode cX12_init 10 = .ok (.putfield 9, 3) := by decide +kernel
theorem dX12_init_13 : decode cX12_init 13 = .ok (.aload_n 0, 1) := by decide +kernel
theorem dX12_init_14 : decode cX12_init 14 = .ok (.sipush 2850, 3) := by decide +kernel
theorem dX12_init_17 : decode cX12_init 17 = .ok (.newarray .int, 2) := by decide +kernel
theorem dX12_init_19 : decode cX12_init 19 = .ok (.putfield 13, 3) := by decide +kernel
theorem dX12_init_22 : decode cX12_init 22 = .ok (.aload_n 0, 1) := by decide +kernel
theorem dX12_init_23 : decode cX12_init 23 = .ok (.sipush 8550, 3) := by decide +kernel
theorem dX12_init_26 : decode cX12_init 26 = .ok (.newarray .int, 2) := by decide +kernel
theorem dX12_init_28 : decode cX12_init 28 = .ok (.putfield 16, 3) := by decide +kernel
theorem dX12_init_31 : decode cX12_init 31 = .ok (.aload_n 0, 1) := by decide +kernel
theorem dX12_init_32 : decode cX12_init 32 = .ok (.iconst 3, 1) := by decide +kernel
theorem dX12_init_33 : decode cX12_init 33 = .ok (.newarray .boolean, 2) := by decide +kernel
theorem dX12_init_35 : decode cX12_init 35 = .ok (.putfield 19, 3) := by decide +kernel
theorem dX12_init_38 : decode cX12_init 38 = .ok (.aload_n 0, 1) := by decide +kernel
theorem dX12_init_39 : decode cX12_init 39 = .ok (.sipush 900, 3) := by decide +kernel
theorem dX12_init_42 : decode cX12_init 42 = .ok (.newarray .int, 2) := by decide +kernel
theorem dX12_init_44 : decode cX12_init 44 = .ok (.putfield 23, 3) := by decide +kernel
theorem dX12_init_47 : decode cX12_init 47 = .ok (.aload_n 0, 1) := by decide +kernel
theorem dX12_init_48 : decode cX12_init 48 = .ok (.iconst (-1), 1) := by decide +kernel
theorem dX12_init_49 : decode cX12_init 49 = .ok (.putfield 26, 3) := by decide +kernel
theorem dX12_init_52 : decode cX12_init 52 = .ok (.aload_n 0, 1) := by decide +kernel
theorem dX12_init_53 : decode cX12_init 53 = .ok (.bipush 64, 2) := by decide +kernel
theorem dX12_init_55 : decode cX12_init 55 = .ok (.newarray .int, 2) := by decide +kernel
theorem dX12_init_57 : decode cX12_init 57 = .ok (.putfield 30, 3) := by decide +kernel
theorem dX12_init_60 : decode cX12_init 60 = .ok (.aload_n 0, 1) := by decide +kernel
theorem dX12_init_61 : decode cX12_init 61 = .ok (.iconst 4, 1) := by decide +kernel
theorem dX12_init_62 : decode cX12_init 62 = .ok (.newarray .int, 2) := by decide +kernel
theorem dX12_init_64 : decode cX12_init 64 = .ok (.putfield 33, 3) := by decide +kernel
theorem dX12_init_67 : decode cX12_init 67 = .ok (.aload_n 0, 1) := by decide +kernel
theorem dX12_init_68 : decode cX12_init 68 = .ok (.bipush 6, 2) := by decide +kernel
theorem dX12_init_70 : decode cX12_init 70 = .ok (.newarray .int, 2) := by decide +kernel
theorem dX12_init_72 : decode cX12_init 72 = .ok (.putfield 36, 3) := by decide +kernel
theorem dX12_init_75 : decode cX12_init 75 = .ok (.aload_n 0, 1) := by decide +kernel
theorem dX12_init_76 : decode cX12_init 76 = .ok (.bipush 6, 2) := by decide +kernel
theorem dX12_init_78 : decode cX12_init 78 = .ok (.newarray .int, 2) := by decide +kernel
theorem dX12_init_80 : decode cX12_init 80 = .ok (.putfield 39, 3) := by decide +kernel
theorem dX12_init_83 : decode cX12_init 83 = .ok (.aload_n 0, 1) := by decide +kernel
theorem dX12_init_84 : decode cX12_init 84 = .ok (.bipush 6, 2) := by decide +kernel
theorem dX12_init_86 : decode cX12_init 86 = .ok (.newarray .int, 2) := by decide +kernel
theorem dX12_init_88 : decode cX12_init 88 = .ok (.putfield 42, 3) := by decide +kernel
theorem dX12_init_91 : decode cX12_init 91 = .ok (.aload_n 0, 1) := by decide +kernel
theorem dX12_init_92 : decode cX12_init 92 = .ok (.bipush 13, 2) := by decide +kernel
theorem dX12_init_94 : decode cX12_init 94 = .ok (.newarray .int, 2) := by decide +kernel
theorem dX12_init_96 : decode cX12_init 96 = .ok (.putfield 45, 3) := by decide +kernel
theorem dX12_init_99 : decode cX12_init 99 = .ok (.aload_n 0, 1) := by decide +kernel
theorem dX12_init_100 : decode cX12_init 100 = .ok (.bipush 6, 2) := by decide +kernel
theorem dX12_init_102 : decode cX12_init 102 = .ok (.newarray .int, 2) := by decide +kernel
theorem dX12_init_104 : decode cX12_init 104 = .ok (.putfield 48, 3) := by decide +kernel
theorem dX12_init_107 : decode cX12_init 107 = .ok (.aload_n 0, 1) := by decide +kernel
theorem dX12_init_108 : decode cX12_init 108 = .ok (.bipush 6, 2) := by decide +kernel
theorem dX12_init_110 : decode cX12_init 110 = .ok (.newarray .int, 2) := by decide +kernel
theorem dX12_init_112 : decode cX12_init 112 = .ok (.putfield 51, 3) := by decide +kernel
theorem dX12_init_115 : decode cX12_init 115 = .ok (.aload_n 0, 1) := by decide +kernel
theorem dX12_init_116 : decode cX12_init 116 = .ok (.bipush 6, 2) := by decide +kernel
theorem dX12_init_118 : decode cX12_init 118 = .ok (.newarray .int, 2) := by decide +kernel
theorem dX12_init_120 : decode cX12_init 120 = .ok (.putfield 54, 3) := by decide +kernel
theorem dX12_init_123 : decode cX12_init 123 = .ok (.aload_n 0, 1) := by decide +kernel
theorem dX12_init_124 : decode cX12_init 124 = .ok (.bipush 6, 2) := by decide +kernel
theorem dX12_init_126 : decode cX12_init 126 = .ok (.newarray .int, 2) := by decide +kernel
theorem dX12_init_128 : decode cX12_init 128 = .ok (.putfield 57, 3) := by decide +kernel
theorem dX12_init_131 : decode cX12_init 131 = .ok (.aload_n 0, 1) := by decide +kernel
theorem dX12_init_132 : decode cX12_init 132 = .ok (.bipush 6, 2) := by decide +kernel
theorem dX12_init_134 : decode cX12_init 134 = .ok (.newarray .int, 2) := by decide +kernel
theorem dX12_init_136 : decode cX12_init 136 = .ok (.putfield 60, 3) := by decide +kernel
theorem dX12_init_139 : decode cX12_init 139 = .ok (.aload_n 0, 1) := by decide +kernel
theorem dX12_init_140 : decode cX12_init 140 = .ok (.ldc 63, 2) := by decide +kernel
theorem dX12_init_142 : decode cX12_init 142 = .ok (.newarray .boolean, 2) := by decide +kernel
theorem dX12_init_144 : decode cX12_init 144 = .ok (.putfield 64, 3) := by decide +kernel
theorem dX12_init_147 : decode cX12_init 147 = .ok (.aload_n 0, 1) := by decide +kernel
theorem dX12_init_148 : decode cX12_init 148 = .ok (.ldc 63, 2) := by decide +kernel
theorem dX12_init_150 : decode cX12_init 150 = .ok (.newarray .int, 2) := by decide +kernel
theorem dX12_init_152 : decode cX12_init 152 = .ok (.putfield 67, 3) := by decide +kernel
theorem dX12_init_155 : decode cX12_init 155 = .ok (.aload_n 0, 1) := by decide +kernel
theorem dX12_init_156 : decode cX12_init 156 = .ok (.bipush 30, 2) := by decide +kernel
theorem dX12_init_158 : decode cX12_init 158 = .ok (.newarray .int, 2) := by decide +kernel
theorem dX12_init_160 : decode cX12_init 160 = .ok (.putfield 70, 3) := by decide +kernel
theorem dX12_init_163 : decode cX12_init 163 = .ok (.aload_n 0, 1) := by decide +kernel
theorem dX12_init_164 : decode cX12_init 164 = .ok (.sipush 180, 3) := by decide +kernel
theorem dX12_init_167 : decode cX12_init 167 = .ok (.newarray .int, 2) := by decide +kernel
theorem dX12_init_169 : decode cX12_init 169 = .ok (.putfield 73, 3) := by decide +kernel
theorem dX12_init_172 : decode cX12_init 172 = .ok (.aload_n 0, 1) := by decide +kernel
theorem dX12_init_173 : decode cX12_init 173 = .ok (.iconst 4, 1) := by decide +kernel
theorem dX12_init_174 : decode cX12_init 174 = .ok (.newarray .int, 2) := by decide +kernel
theorem dX12_init_176 : decode cX12_init 176 = .ok (.dup, 1) := by decide +kernel
theorem dX12_init_177 : decode cX12_init 177 = .ok (.iconst 0, 1) := by decide +kernel
theorem dX12_init_178 : decode cX12_init 178 = .ok (.iconst (-1), 1) := by decide +kernel
theorem dX12_init_179 : decode cX12_init 179 = .ok (.iastore, 1) := by decide +kernel
theorem dX12_init_180 : decode cX12_init 180 = .ok (.dup, 1) := by decide +kernel
theorem dX12_init_181 : decode cX12_init 181 = .ok (.iconst 1, 1) := by decide +kernel
theorem dX12_init_182 : decode cX12_init 182 = .ok (.iconst (-1), 1) := by decide +kernel
theorem dX12_init_183 : decode cX12_init 183 = .ok (.iastore, 1) := by decide +kernel
theorem dX12_init_184 : decode cX12_init 184 = .ok (.dup, 1) := by decide +kernel
theorem dX12_init_185 : decode cX12_init 185 = .ok (.iconst 2, 1) := by decide +kernel
theorem dX12_init_186 : decode cX12_init 186 = .ok (.iconst (-1), 1) := by decide +kernel
theorem dX12_init_187 : decode cX12_init 187 = .ok (.iastore, 1) := by decide +kernel
theorem dX12_init_188 : decode cX12_init 188 = .ok (.dup, 1) := by decide +kernel
theorem dX12_init_189 : decode cX12_init 189 = .ok (.iconst 3, 1) := by decide +kernel
theorem dX12_init_190 : decode cX12_init 190 = .ok (.iconst (-1), 1) := by decide +kernel
theorem dX12_init_191 : decode cX12_init 191 = .ok (.iastore, 1) := by decide +kernel
theorem dX12_init_192 : decode cX12_init 192 = .ok (.putfield 76, 3) := by decide +kernel
theorem dX12_init_195 : decode cX12_init 195 = .ok (.aload_n 0, 1) := by decide +kernel
theorem dX12_init_196 : decode cX12_init 196 = .ok (.iconst 4, 1) := by decide +kernel
theorem dX12_init_197 : decode cX12_init 197 = .ok (.newarray .int, 2) := by decide +kernel
theorem dX12_init_199 : decode cX12_init 199 = .ok (.putfield 79, 3) := by decide +kernel
theorem dX12_init_202 : decode cX12_init 202 = .ok (.aload_n 0, 1) := by decide +kernel
theorem dX12_init_203 : decode cX12_init 203 = .ok (.bipush 120, 2) := by decide +kernel
theorem dX12_init_205 : decode cX12_init 205 = .ok (.newarray .long, 2) := by decide +kernel
theorem dX12_init_207 : decode cX12_init 207 = .ok (.putfield 82, 3) := by decide +kernel
theorem dX12_init_210 : decode cX12_init 210 = .ok (.aload_n 0, 1) := by decide +kernel
theorem dX12_init_211 : decode cX12_init 211 = .ok (.getfield 9, 3) := by decide +kernel
theorem dX12_init_214 : decode cX12_init 214 = .ok (.iconst 1, 1) := by decide +kernel
theorem dX12_init_215 : decode cX12_init 215 = .ok (.iconst 2, 1) := by decide +kernel
theorem dX12_init_216 : decode cX12_init 216 = .ok (.iastore, 1) := by decide +kernel
theorem dX12_init_217 : decode cX12_init 217 = .ok (.iconst 0, 1) := by decide +kernel
theorem dX12_init_218 : decode cX12_init 218 = .ok (.istore_n 1, 1) := by decide +kernel
theorem dX12_init_219 : decode cX12_init 219 = .ok (.iload_n 1, 1) := by decide +kernel
theorem dX12_init_220 : decode cX12_init 220 = .ok (.bipush 6, 2) := by decide +kernel
theorem dX12_init_222 : decode cX12_init 222 = .ok (.if_icmp .ge 19, 3) := by decide +kernel
theorem dX12_init_225 : decode cX12_init 225 = .ok (.aload_n 0, 1) := by decide +kernel
theorem dX12_init_226 : decode cX12_init 226 = .ok (.getfield 9, 3) := by decide +kernel
theorem dX12_init_229 : decode cX12_init 229 = .ok (.bipush 12, 2) := by decide +kernel
theorem dX12_init_231 : decode cX12_init 231 = .ok (.iload_n 1, 1) := by decide +kernel
theorem dX12_init_232 : decode cX12_init 232 = .ok (.iadd, 1) := by decide +kernel
theorem dX12_init_233 : decode cX12_init 233 = .ok (.iconst 1, 1) := by decide +kernel
theorem dX12_init_234 : decode cX12_init 234 = .ok (.iastore, 1) := by decide +kernel
theorem dX12_init_235 : decode cX12_init 235 = .ok (.iinc 1 1, 3) := by decide +kernel
theorem dX12_init_238 : decode cX12_init 238 = .ok (.goto (-19), 3) := by decide +kernel
theorem dX12_init_241 : decode cX12_init 241 = .ok (.return_, 1) := by decide +kernel
theorem dX12_thrown_0 : decode cX12_thrown 0 = .ok (.aload_n 0, 1) := by decide +kernel
theorem dX12_thrown_1 : decode cX12_thrown 1 = .ok (.getfield 86, 3) := by decide +kernel
theorem dX12_thrown_4 : decode cX12_thrown 4 = .ok (.ireturn, 1) := by decide +kernel
theorem dX12_fails_0 : decode cX12_fails 0 = .ok (.aload_n 0, 1) := by decide +kernel
theorem dX12_fails_1 : decode cX12_fails 1 = .ok (.iload_n 1, 1) := by decide +kernel
theorem dX12_fails_2 : decode cX12_fails 2 = .ok (.putfield 86, 3) := by decide +kernel
theorem dX12_fails_5 : decode cX12_fails 5 = .ok (.iconst 0, 1) := by decide +kernel
theorem dX12_fails_6 : decode cX12_fails 6 = .ok (.ireturn, 1) := by decide +kernel
theorem dX12_within_0 : decode cX12_within 0 = .ok (.lload_n 0, 1) := by decide +kernel
theorem dX12_within_1 : decode cX12_within 1 = .ok (.lload_n 2, 1) := by decide +kernel
theorem dX12_within_2 : decode cX12_within 2 = .ok (.lcmp, 1) := by decide +kernel
theorem dX12_within_3 : decode cX12_within 3 = .ok (.ifCond .lt 14, 3) := by decide +kernel
theorem dX12_within_6 : decode cX12_within 6 = .ok (.lload_n 0, 1) := by decide +kernel
theorem dX12_within_7 : decode cX12_within 7 = .ok (.lload 4, 2) := by decide +kernel
theorem dX12_within_9 : decode cX12_within 9 = .ok (.lcmp, 1) := by decide +kernel
theorem dX12_within_10 : decode cX12_within 10 = .ok (.ifCond .gt 7, 3) := by decide +kernel
theorem dX12_within_13 : decode cX12_within 13 = .ok (.iconst 1, 1) := by decide +kernel
theorem dX12_within_14 : decode cX12_within 14 = .ok (.goto 4, 3) := by decide +kernel
theorem dX12_within_17 : decode cX12_within 17 = .ok (.iconst 0, 1) := by decide +kernel
theorem dX12_within_18 : decode cX12_within 18 = .ok (.ireturn, 1) := by decide +kernel
theorem dX12_has_0 : decode cX12_has 0 = .ok (.iload_n 0, 1) := by decide +kernel
theorem dX12_has_1 : decode cX12_has 1 = .ok (.iload_n 1, 1) := by decide +kernel
theorem dX12_has_2 : decode cX12_has 2 = .ok (.ishr, 1) := by decide +kernel
theorem dX12_has_3 : decode cX12_has 3 = .ok (.iconst 1, 1) := by decide +kernel
theorem dX12_has_4 : decode cX12_has 4 = .ok (.iand, 1) := by decide +kernel
theorem dX12_has_5 : decode cX12_has 5 = .ok (.iconst 1, 1) := by decide +kernel
theorem dX12_has_6 : decode cX12_has 6 = .ok (.if_icmp .ne 7, 3) := by decide +kernel
theorem dX12_has_9 : decode cX12_has 9 = .ok (.iconst 1, 1) := by decide +kernel
theorem dX12_has_10 : decode cX12_has 10 = .ok (.goto 4, 3) := by decide +kernel
theorem dX12_has_13 : decode cX12_has 13 = .ok (.iconst 0, 1) := by decide +kernel
theorem dX12_has_14 : decode cX12_has 14 = .ok (.ireturn, 1) := by decide +kernel
theorem dX12_bits_0 : decode cX12_bits 0 = .ok (.iconst 0, 1) := by decide +kernel
theorem dX12_bits_1 : decode cX12_bits 1 = .ok (.istore_n 1, 1) := by decide +kernel
theorem dX12_bits_2 : decode cX12_bits 2 = .ok (.iload_n 0, 1) := by decide +kernel
theorem dX12_bits_3 : decode cX12_bits 3 = .ok (.istore_n 2, 1) := by decide +kernel
theorem dX12_bits_4 : decode cX12_bits 4 = .ok (.iload_n 2, 1) := by decide +kernel
theorem dX12_bits_5 : decode cX12_bits 5 = .ok (.ifCond .eq 15, 3) := by decide +kernel
theorem dX12_bits_8 : decode cX12_bits 8 = .ok (.iinc 1 1, 3) := by decide +kernel
theorem dX12_bits_11 : decode cX12_bits 11 = .ok (.iload_n 2, 1) := by decide +kernel
theorem dX12_bits_12 : decode cX12_bits 12 = .ok (.iload_n 2, 1) := by decide +kernel
theorem dX12_bits_13 : decode cX12_bits 13 = .ok (.iconst 1, 1) := by decide +kernel
theorem dX12_bits_14 : decode cX12_bits 14 = .ok (.isub, 1) := by decide +kernel
theorem dX12_bits_15 : decode cX12_bits 15 = .ok (.iand, 1) := by decide +kernel
theorem dX12_bits_16 : decode cX12_bits 16 = .ok (.istore_n 2, 1) := by decide +kernel
theorem dX12_bits_17 : decode cX12_bits 17 = .ok (.goto (-13), 3) := by decide +kernel
theorem dX12_bits_20 : decode cX12_bits 20 = .ok (.iload_n 1, 1) := by decide +kernel
theorem dX12_bits_21 : decode cX12_bits 21 = .ok (.ireturn, 1) := by decide +kernel
theorem dX12_feed_0 : decode cX12_feed 0 = .ok (.aload_n 0, 1) := by decide +kernel
theorem dX12_feed_1 : decode cX12_feed 1 = .ok (.iconst 0, 1) := by decide +kernel
theorem dX12_feed_2 : decode cX12_feed 2 = .ok (.putfield 86, 3) := by decide +kernel
theorem dX12_feed_5 : decode cX12_feed 5 = .ok (.aload_n 0, 1) := by decide +kernel
theorem dX12_feed_6 : decode cX12_feed 6 = .ok (.getfield 89, 3) := by decide +kernel
theorem dX12_feed_9 : decode cX12_feed 9 = .ok (.bipush 20, 2) := by decide +kernel
theorem dX12_feed_11 : decode cX12_feed 11 = .ok (.iadd, 1) := by decide +kernel
theorem dX12_feed_12 : decode cX12_feed 12 = .ok (.sipush 900, 3) := by decide +kernel
theorem dX12_feed_15 : decode cX12_feed 15 = .ok (.if_icmp .le 5, 3) := by decide +kernel
theorem dX12_feed_18 : decode cX12_feed 18 = .ok (.iconst (-1), 1) := by decide +kernel
theorem dX12_feed_19 : decode cX12_feed 19 = .ok (.ireturn, 1) := by decide +kernel
theorem dX12_feed_20 : decode cX12_feed 20 = .ok (.iconst 0, 1) := by decide +kernel
theorem dX12_feed_21 : decode cX12_feed 21 = .ok (.istore 6, 2) := by decide +kernel
theorem dX12_feed_23 : decode cX12_feed 23 = .ok (.iload 6, 2) := by decide +kernel
theorem dX12_feed_25 : decode cX12_feed 25 = .ok (.bipush 20, 2) := by decide +kernel
theorem dX12_feed_27 : decode cX12_feed 27 = .ok (.if_icmp .ge 93, 3) := by decide +kernel
theorem dX12_feed_30 : decode cX12_feed 30 = .ok (.iload 6, 2) := by decide +kernel
theorem dX12_feed_32 : decode cX12_feed 32 = .ok (.iconst 4, 1) := by decide +kernel
theorem dX12_feed_33 : decode cX12_feed 33 = .ok (.if_icmp .ge 7, 3) := by decide +kernel
theorem dX12_feed_36 : decode cX12_feed 36 = .ok (.iload_n 1, 1) := by decide +kernel
theorem dX12_feed_37 : decode cX12_feed 37 = .ok (.goto 39, 3) := by decide +kernel
theorem dX12_feed_40 : decode cX12_feed 40 = .ok (.iload 6, 2) := by decide +kernel
theorem dX12_feed_42 : decode cX12_feed 42 = .ok (.bipush 8, 2) := by decide +kernel
theorem dX12_feed_44 : decode cX12_feed 44 = .ok (.if_icmp .ge 7, 3) := by decide +kernel
theorem dX12_feed_47 : decode cX12_feed 47 = .ok (.iload_n 2, 1) := by decide +kernel
theorem dX12_feed_48 : decode cX12_feed 48 = .ok (.goto 28, 3) := by decide +kernel
theorem dX12_feed_51 : decode cX12_feed 51 = .ok (.iload 6, 2) := by decide +kernel
theorem dX12_feed_53 : decode cX12_feed 53 = .ok (.bipush 12, 2) := by decide +kernel
theorem dX12_feed_55 : decode cX12_feed 55 = .ok (.if_icmp .ge 7, 3) := by decide +kernel
theorem dX12_feed_58 : decode cX12_feed 58 = .ok (.iload_n 3, 1) := by decide +kernel
theorem dX12_feed_59 : decode cX12_feed 59 = .ok (.goto 17, 3) := by decide +kernel
theorem dX12_feed_62 : decode cX12_feed 62 = .ok (.iload 6, 2) := by decide +kernel
theorem dX12_feed_64 : decode cX12_feed 64 = .ok (.bipush 16, 2) := by decide +kernel
theorem dX12_feed_66 : decode cX12_feed 66 = .ok (.if_icmp .ge 8, 3) := by decide +kernel
theorem dX12_feed_69 : decode cX12_feed 69 = .ok (.iload 4, 2) := by decide +kernel
theorem dX12_feed_71 : decode cX12_feed 71 = .ok (.goto 5, 3) := by decide +kernel
theorem dX12_feed_74 : decode cX12_feed 74 = .ok (.iload 5, 2) := by decide +kernel
theorem dX12_feed_76 : decode cX12_feed 76 = .ok (.istore 7, 2) := by decide +kernel
theorem dX12_feed_78 : decode cX12_feed 78 = .ok (.aload_n 0, 1) := by decide +kernel
theorem dX12_feed_79 : decode cX12_feed 79 = .ok (.getfield 23, 3) := by decide +kernel
theorem dX12_feed_82 : decode cX12_feed 82 = .ok (.aload_n 0, 1) := by decide +kernel
theorem dX12_feed_83 : decode cX12_feed 83 = .ok (.getfield 89, 3) := by decide +kernel
theorem dX12_feed_86 : decode cX12_feed 86 = .ok (.iload 7, 2) := by decide +kernel
theorem dX12_feed_88 : decode cX12_feed 88 = .ok (.bipush 24, 2) := by decide +kernel
theorem dX12_feed_90 : decode cX12_feed 90 = .ok (.bipush 8, 2) := by decide +kernel
theorem dX12_feed_92 : decode cX12_feed 92 = .ok (.iload 6, 2) := by decide +kernel
theorem dX12_feed_94 : decode cX12_feed 94 = .ok (.iconst 3, 1) := by decide +kernel
theorem dX12_feed_95 : decode cX12_feed 95 = .ok (.iand, 1) := by decide +kernel
theorem dX12_feed_96 : decode cX12_feed 96 = .ok (.imul, 1) := by decide +kernel
theorem dX12_feed_97 : decode cX12_feed 97 = .ok (.isub, 1) := by decide +kernel
theorem dX12_feed_98 : decode cX12_feed 98 = .ok (.iushr, 1) := by decide +kernel
theorem dX12_feed_99 : decode cX12_feed 99 = .ok (.sipush 255, 3) := by decide +kernel
theorem dX12_feed_102 : decode cX12_feed 102 = .ok (.iand, 1) := by decide +kernel
theorem dX12_feed_103 : decode cX12_feed 103 = .ok (.iastore, 1) := by decide +kernel
theorem dX12_feed_104 : decode cX12_feed 104 = .ok (.aload_n 0, 1) := by decide +kernel
theorem dX12_feed_105 : decode cX12_feed 105 = .ok (.dup, 1) := by decide +kernel
theorem dX12_feed_106 : decode cX12_feed 106 = .ok (.getfield 89, 3) := by decide +kernel
theorem dX12_feed_109 : decode cX12_feed 109 = .ok (.iconst 1, 1) := by decide +kernel
theorem dX12_feed_110 : decode cX12_feed 110 = .ok (.iadd, 1) := by decide +kernel
theorem dX12_feed_111 : decode cX12_feed 111 = .ok (.putfield 89, 3) := by decide +kernel
theorem dX12_feed_114 : decode cX12_feed 114 = .ok (.iinc 6 1, 3) := by decide +kernel
theorem dX12_feed_117 : decode cX12_feed 117 = .ok (.goto (-94), 3) := by decide +kernel
theorem dX12_feed_120 : decode cX12_feed 120 = .ok (.aload_n 0, 1) := by decide +kernel
theorem dX12_feed_121 : decode cX12_feed 121 = .ok (.getfield 89, 3) := by decide +kernel
theorem dX12_feed_124 : decode cX12_feed 124 = .ok (.ireturn, 1) := by decide +kernel
theorem dX12_see_0 : decode cX12_see 0 = .ok (.iload_n 1, 1) := by decide +kernel
theorem dX12_see_1 : decode cX12_see 1 = .ok (.aload_n 0, 1) := by decide +kernel
theorem dX12_see_2 : decode cX12_see 2 = .ok (.getfield 92, 3) := by decide +kernel
theorem dX12_see_5 : decode cX12_see 5 = .ok (.if_icmp .ge 12, 3) := by decide +kernel
theorem dX12_see_8 : decode cX12_see 8 = .ok (.aload_n 0, 1) := by decide +kernel
theorem dX12_see_9 : decode cX12_see 9 = .ok (.getfield 23, 3) := by decide +kernel
theorem dX12_see_12 : decode cX12_see 12 = .ok (.iload_n 1, 1) := by decide +kernel
theorem dX12_see_13 : decode cX12_see 13 = .ok (.iaload, 1) := by decide +kernel
theorem dX12_see_14 : decode cX12_see 14 = .ok (.goto 4, 3) := by decide +kernel
theorem dX12_see_17 : decode cX12_see 17 = .ok (.iconst 0, 1) := by decide +kernel
theorem dX12_see_18 : decode cX12_see 18 = .ok (.ireturn, 1) := by decide +kernel
theorem dX12_isLetter_0 : decode cX12_isLetter 0 = .ok (.iload_n 0, 1) := by decide +kernel
theorem dX12_isLetter_1 : decode cX12_isLetter 1 = .ok (.bipush 97, 2) := by decide +kernel
theorem dX12_isLetter_3 : decode cX12_isLetter 3 = .ok (.if_icmp .lt 13, 3) := by decide +kernel
theorem dX12_isLetter_6 : decode cX12_isLetter 6 = .ok (.iload_n 0, 1) := by decide +kernel
theorem dX12_isLetter_7 : decode cX12_isLetter 7 = .ok (.bipush 122, 2) := by decide +kernel
theorem dX12_isLetter_9 : decode cX12_isLetter 9 = .ok (.if_icmp .gt 7, 3) := by decide +kernel
theorem dX12_isLetter_12 : decode cX12_isLetter 12 = .ok (.iconst 1, 1) := by decide +kernel
theorem dX12_isLetter_13 : decode cX12_isLetter 13 = .ok (.goto 4, 3) := by decide +kernel
theorem dX12_isLetter_16 : decode cX12_isLetter 16 = .ok (.iconst 0, 1) := by decide +kernel
theorem dX12_isLetter_17 : decode cX12_isLetter 17 = .ok (.ireturn, 1) := by decide +kernel
theorem dX12_isDigit_0 : decode cX12_isDigit 0 = .ok (.iload_n 0, 1) := by decide +kernel
theorem dX12_isDigit_1 : decode cX12_isDigit 1 = .ok (.bipush 48, 2) := by decide +kernel
theorem dX12_isDigit_3 : decode cX12_isDigit 3 = .ok (.if_icmp .lt 13, 3) := by decide +kernel
theorem dX12_isDigit_6 : decode cX12_isDigit 6 = .ok (.iload_n 0, 1) := by decide +kernel
theorem dX12_isDigit_7 : decode cX12_isDigit 7 = .ok (.bipush 57, 2) := by decide +kernel
theorem dX12_isDigit_9 : decode cX12_isDigit 9 = .ok (.if_icmp .gt 7, 3) := by decide +kernel
theorem dX12_isDigit_12 : decode cX12_isDigit 12 = .ok (.iconst 1, 1) := by decide +kernel
theorem dX12_isDigit_13 : decode cX12_isDigit 13 = .ok (.goto 4, 3) := by decide +kernel
theorem dX12_isDigit_16 : decode cX12_isDigit 16 = .ok (.iconst 0, 1) := by decide +kernel
theorem dX12_isDigit_17 : decode cX12_isDigit 17 = .ok (.ireturn, 1) := by decide +kernel
theorem dX12_isSignByte_0 : decode cX12_isSignByte 0 = .ok (.iload_n 0, 1) := by decide +kernel
theorem dX12_isSignByte_1 : decode cX12_isSignByte 1 = .ok (.bipush 91, 2) := by decide +kernel
theorem dX12_isSignByte_3 : decode cX12_isSignByte 3 = .ok (.if_icmp .eq 33, 3) := by decide +kernel
theorem dX12_isSignByte_6 : decode cX12_isSignByte 6 = .ok (.iload_n 0, 1) := by decide +kernel
theorem dX12_isSignByte_7 : decode cX12_isSignByte 7 = .ok (.bipush 93, 2) := by decide +kernel
theorem dX12_isSignByte_9 : decode cX12_isSignByte 9 = .ok (.if_icmp .eq 27, 3) := by decide +kernel
theorem dX12_isSignByte_12 : decode cX12_isSignByte 12 = .ok (.iload_n 0, 1) := by decide +kernel
theorem dX12_isSignByte_13 : decode cX12_isSignByte 13 = .ok (.bipush 61, 2) := by decide +kernel
theorem dX12_isSignByte_15 : decode cX12_isSignByte 15 = .ok (.if_icmp .eq 21, 3) := by decide +kernel
theorem dX12_isSignByte_18 : decode cX12_isSignByte 18 = .ok (.iload_n 0, 1) := by decide +kernel
theorem dX12_isSignByte_19 : decode cX12_isSignByte 19 = .ok (.bipush 60, 2) := by decide +kernel
theorem dX12_isSignByte_21 : decode cX12_isSignByte 21 = .ok (.if_icmp .eq 15, 3) := by decide +kernel
theorem dX12_isSignByte_24 : decode cX12_isSignByte 24 = .ok (.iload_n 0, 1) := by decide +kernel
theorem dX12_isSignByte_25 : decode cX12_isSignByte 25 = .ok (.bipush 62, 2) := by decide +kernel
theorem dX12_isSignByte_27 : decode cX12_isSignByte 27 = .ok (.if_icmp .eq 9, 3) := by decide +kernel
theorem dX12_isSignByte_30 : decode cX12_isSignByte 30 = .ok (.iload_n 0, 1) := by decide +kernel
theorem dX12_isSignByte_31 : decode cX12_isSignByte 31 = .ok (.bipush 58, 2) := by decide +kernel
theorem dX12_isSignByte_33 : decode cX12_isSignByte 33 = .ok (.if_icmp .ne 7, 3) := by decide +kernel
theorem dX12_isSignByte_36 : decode cX12_isSignByte 36 = .ok (.iconst 1, 1) := by decide +kernel
theorem dX12_isSignByte_37 : decode cX12_isSignByte 37 = .ok (.goto 4, 3) := by decide +kernel
theorem dX12_isSignByte_40 : decode cX12_isSignByte 40 = .ok (.iconst 0, 1) := by decide +kernel
theorem dX12_isSignByte_41 : decode cX12_isSignByte 41 = .ok (.istore_n 1, 1) := by decide +kernel
theorem dX12_isSignByte_42 : decode cX12_isSignByte 42 = .ok (.iload_n 1, 1) := by decide +kernel
theorem dX12_isSignByte_43 : decode cX12_isSignByte 43 = .ok (.ifCond .ne 39, 3) := by decide +kernel
theorem dX12_isSignByte_46 : decode cX12_isSignByte 46 = .ok (.iload_n 0, 1) := by decide +kernel
theorem dX12_isSignByte_47 : decode cX12_isSignByte 47 = .ok (.bipush 59, 2) := by decide +kernel
theorem dX12_isSignByte_49 : decode cX12_isSignByte 49 = .ok (.if_icmp .eq 33, 3) := by decide +kernel
theorem dX12_isSignByte_52 : decode cX12_isSignByte 52 = .ok (.iload_n 0, 1) := by decide +kernel
theorem dX12_isSignByte_53 : decode cX12_isSignByte 53 = .ok (.bipush 43, 2) := by decide +kernel
theorem dX12_isSignByte_55 : decode cX12_isSignByte 55 = .ok (.if_icmp .eq 27, 3) := by decide +kernel
theorem dX12_isSignByte_58 : decode cX12_isSignByte 58 = .ok (.iload_n 0, 1) := by decide +kernel
theorem dX12_isSignByte_59 : decode cX12_isSignByte 59 = .ok (.bipush 45, 2) := by decide +kernel
theorem dX12_isSignByte_61 : decode cX12_isSignByte 61 = .ok (.if_icmp .eq 21, 3) := by decide +kernel
theorem dX12_isSignByte_64 : decode cX12_isSignByte 64 = .ok (.iload_n 0, 1) := by decide +kernel
theorem dX12_isSignByte_65 : decode cX12_isSignByte 65 = .ok (.bipush 42, 2) := by decide +kernel
theorem dX12_isSignByte_67 : decode cX12_isSignByte 67 = .ok (.if_icmp .eq 15, 3) := by decide +kernel
theorem dX12_isSignByte_70 : decode cX12_isSignByte 70 = .ok (.iload_n 0, 1) := by decide +kernel
theorem dX12_isSignByte_71 : decode cX12_isSignByte 71 = .ok (.bipush 40, 2) := by decide +kernel
theorem dX12_isSignByte_73 : decode cX12_isSignByte 73 = .ok (.if_icmp .eq 9, 3) := by decide +kernel
theorem dX12_isSignByte_76 : decode cX12_isSignByte 76 = .ok (.iload_n 0, 1) := by decide +kernel
theorem dX12_isSignByte_77 : decode cX12_isSignByte 77 = .ok (.bipush 41, 2) := by decide +kernel
theorem dX12_isSignByte_79 : decode cX12_isSignByte 79 = .ok (.if_icmp .ne 7, 3) := by decide +kernel
theorem dX12_isSignByte_82 : decode cX12_isSignByte 82 = .ok (.iconst 1, 1) := by decide +kernel
theorem dX12_isSignByte_83 : decode cX12_isSignByte 83 = .ok (.goto 4, 3) := by decide +kernel
theorem dX12_isSignByte_86 : decode cX12_isSignByte 86 = .ok (.iconst 0, 1) := by decide +kernel
theorem dX12_isSignByte_87 : decode cX12_isSignByte 87 = .ok (.ireturn, 1) := by decide +kernel
theorem dX12_readsOn_0 : decode cX12_readsOn 0 = .ok (.aload_n 0, 1) := by decide +kernel
theorem dX12_readsOn_1 : decode cX12_readsOn 1 = .ok (.getfield 95, 3) := by decide +kernel
theorem dX12_readsOn_4 : decode cX12_readsOn 4 = .ok (.aload_n 0, 1) := by decide +kernel
theorem dX12_readsOn_5 : decode cX12_readsOn 5 = .ok (.getfield 92, 3) := by decide +kernel
theorem dX12_readsOn_8 : decode cX12_readsOn 8 = .ok (.if_icmp .ge 44, 3) := by decide +kernel
theorem dX12_readsOn_11 : decode cX12_readsOn 11 = .ok (.aload_n 0, 1) := by decide +kernel
theorem dX12_readsOn_12 : decode cX12_readsOn 12 = .ok (.getfield 23, 3) := by decide +kernel
theorem dX12_readsOn_15 : decode cX12_readsOn 15 = .ok (.aload_n 0, 1) := by decide +kernel
theorem dX12_readsOn_16 : decode cX12_readsOn 16 = .ok (.getfield 95, 3) := by decide +kernel
theorem dX12_readsOn_19 : decode cX12_readsOn 19 = .ok (.iaload, 1) := by decide +kernel
theorem dX12_readsOn_20 : decode cX12_readsOn 20 = .ok (.bipush 32, 2) := by decide +kernel
theorem dX12_readsOn_22 : decode cX12_readsOn 22 = .ok (.if_icmp .eq 17, 3) := by decide +kernel
theorem dX12_readsOn_25 : decode cX12_readsOn 25 = .ok (.aload_n 0, 1) := by decide +kernel
theorem dX12_readsOn_26 : decode cX12_readsOn 26 = .ok (.getfield 23, 3) := by decide +kernel
theorem dX12_readsOn_29 : decode cX12_readsOn 29 = .ok (.aload_n 0, 1) := by decide +kernel
theorem dX12_readsOn_30 : decode cX12_readsOn 30 = .ok (.getfield 95, 3) := by decide +kernel
theorem dX12_readsOn_33 : decode cX12_readsOn 33 = .ok (.iaload, 1) := by decide +kernel
theorem dX12_readsOn_34 : decode cX12_readsOn 34 = .ok (.bipush 10, 2) := by decide +kernel
theorem dX12_readsOn_36 : decode cX12_readsOn 36 = .ok (.if_icmp .ne 16, 3) := by decide +kernel
theorem dX12_readsOn_39 : decode cX12_readsOn 39 = .ok (.aload_n 0, 1) := by decide +kernel
theorem dX12_readsOn_40 : decode cX12_readsOn 40 = .ok (.dup, 1) := by decide +kernel
theorem dX12_readsOn_41 : decode cX12_readsOn 41 = .ok (.getfield 95, 3) := by decide +kernel
theorem dX12_readsOn_44 : decode cX12_readsOn 44 = .ok (.iconst 1, 1) := by decide +kernel
theorem dX12_readsOn_45 : decode cX12_readsOn 45 = .ok (.iadd, 1) := by decide +kernel
theorem dX12_readsOn_46 : decode cX12_readsOn 46 = .ok (.putfield 95, 3) := by decide +kernel
theorem dX12_readsOn_49 : decode cX12_readsOn 49 = .ok (.goto (-49), 3) := by decide +kernel
theorem dX12_readsOn_52 : decode cX12_readsOn 52 = .ok (.aload_n 0, 1) := by decide +kernel
theorem dX12_readsOn_53 : decode cX12_readsOn 53 = .ok (.aload_n 0, 1) := by decide +kernel
theorem dX12_readsOn_54 : decode cX12_readsOn 54 = .ok (.getfield 95, 3) := by decide +kernel
theorem dX12_readsOn_57 : decode cX12_readsOn 57 = .ok (.putfield 98, 3) := by decide +kernel
theorem dX12_readsOn_60 : decode cX12_readsOn 60 = .ok (.aload_n 0, 1) := by decide +kernel
theorem dX12_readsOn_61 : decode cX12_readsOn 61 = .ok (.getfield 95, 3) := by decide +kernel
theorem dX12_readsOn_64 : decode cX12_readsOn 64 = .ok (.aload_n 0, 1) := by decide +kernel
theorem dX12_readsOn_65 : decode cX12_readsOn 65 = .ok (.getfield 92, 3) := by decide +kernel
theorem dX12_readsOn_68 : decode cX12_readsOn 68 = .ok (.if_icmp .lt 9, 3) := by decide +kernel
theorem dX12_readsOn_71 : decode cX12_readsOn 71 = .ok (.aload_n 0, 1) := by decide +kernel
theorem dX12_readsOn_72 : decode cX12_readsOn 72 = .ok (.iconst 0, 1) := by decide +kernel
theorem dX12_readsOn_73 : decode cX12_readsOn 73 = .ok (.putfield 101, 3) := by decide +kernel
theorem dX12_readsOn_76 : decode cX12_readsOn 76 = .ok (.return_, 1) := by decide +kernel
theorem dX12_readsOn_77 : decode cX12_readsOn 77 = .ok (.aload_n 0, 1) := by decide +kernel
theorem dX12_readsOn_78 : decode cX12_readsOn 78 = .ok (.getfield 23, 3) := by decide +kernel
theorem dX12_readsOn_81 : decode cX12_readsOn 81 = .ok (.aload_n 0, 1) := by decide +kernel
theorem dX12_readsOn_82 : decode cX12_readsOn 82 = .ok (.getfield 95, 3) := by decide +kernel
theorem dX12_readsOn_85 : decode cX12_readsOn 85 = .ok (.iaload, 1) := by decide +kernel
theorem dX12_readsOn_86 : decode cX12_readsOn 86 = .ok (.istore_n 1, 1) := by decide +kernel
theorem dX12_readsOn_87 : decode cX12_readsOn 87 = .ok (.iload_n 1, 1) := by decide +kernel
theorem dX12_readsOn_88 : decode cX12_readsOn 88 = .ok (.invokestatic 104, 3) := by decide +kernel
theorem dX12_readsOn_91 : decode cX12_readsOn 91 = .ok (.ifCond .eq 38, 3) := by decide +kernel
theorem dX12_readsOn_94 : decode cX12_readsOn 94 = .ok (.aload_n 0, 1) := by decide +kernel
theorem dX12_readsOn_95 : decode cX12_readsOn 95 = .ok (.aload_n 0, 1) := by decide +kernel
theorem dX12_readsOn_96 : decode cX12_readsOn 96 = .ok (.getfield 95, 3) := by decide +kernel
theorem dX12_readsOn_99 : decode cX12_readsOn 99 = .ok (.invokevirtual 108, 3) := by decide +kernel
theorem dX12_readsOn_102 : decode cX12_readsOn 102 = .ok (.invokestatic 104, 3) := by decide +kernel
theorem dX12_readsOn_105 : decode cX12_readsOn 105 = .ok (.ifCond .eq 16, 3) := by decide +kernel
theorem dX12_readsOn_108 : decode cX12_readsOn 108 = .ok (.aload_n 0, 1) := by decide +kernel
theorem dX12_readsOn_109 : decode cX12_readsOn 109 = .ok (.dup, 1) := by decide +kernel
theorem dX12_readsOn_110 : decode cX12_readsOn 110 = .ok (.getfield 95, 3) := by decide +kernel
theorem dX12_readsOn_113 : decode cX12_readsOn 113 = .ok (.iconst 1, 1) := by decide +kernel
theorem dX12_readsOn_114 : decode cX12_readsOn 114 = .ok (.iadd, 1) := by decide +kernel
theorem dX12_readsOn_115 : decode cX12_readsOn 115 = .ok (.putfield 95, 3) := by decide +kernel
theorem dX12_readsOn_118 : decode cX12_readsOn 118 = .ok (.goto (-24), 3) := by decide +kernel
theorem dX12_readsOn_121 : decode cX12_readsOn 121 = .ok (.aload_n 0, 1) := by decide +kernel
theorem dX12_readsOn_122 : decode cX12_readsOn 122 = .ok (.iconst 1, 1) := by decide +kernel
theorem dX12_readsOn_123 : decode cX12_readsOn 123 = .ok (.putfield 101, 3) := by decide +kernel
theorem dX12_readsOn_126 : decode cX12_readsOn 126 = .ok (.goto 137, 3) := by decide +kernel
theorem dX12_readsOn_129 : decode cX12_readsOn 129 = .ok (.iload_n 1, 1) := by decide +kernel
theorem dX12_readsOn_130 : decode cX12_readsOn 130 = .ok (.invokestatic 112, 3) := by decide +kernel
theorem dX12_readsOn_133 : decode cX12_readsOn 133 = .ok (.ifCond .eq 104, 3) := by decide +kernel
theorem dX12_readsOn_136 : decode cX12_readsOn 136 = .ok (.aload_n 0, 1) := by decide +kernel
theorem dX12_readsOn_137 : decode cX12_readsOn 137 = .ok (.iconst 0, 1) := by decide +kernel
theorem dX12_readsOn_138 : decode cX12_readsOn 138 = .ok (.putfield 115, 3) := by decide +kernel
theorem dX12_readsOn_141 : decode cX12_readsOn 141 = .ok (.aload_n 0, 1) := by decide +kernel
theorem dX12_readsOn_142 : decode cX12_readsOn 142 = .ok (.aload_n 0, 1) := by decide +kernel
theorem dX12_readsOn_143 : decode cX12_readsOn 143 = .ok (.getfield 95, 3) := by decide +kernel
theorem dX12_readsOn_146 : decode cX12_readsOn 146 = .ok (.invokevirtual 108, 3) := by decide +kernel
theorem dX12_readsOn_149 : decode cX12_readsOn 149 = .ok (.invokestatic 112, 3) := by decide +kernel
theorem dX12_readsOn_152 : decode cX12_readsOn 152 = .ok (.ifCond .eq 60, 3) := by decide +kernel
theorem dX12_readsOn_155 : decode cX12_readsOn 155 = .ok (.aload_n 0, 1) := by decide +kernel
theorem dX12_readsOn_156 : decode cX12_readsOn 156 = .ok (.aload_n 0, 1) := by decide +kernel
theorem dX12_readsOn_157 : decode cX12_readsOn 157 = .ok (.getfield 95, 3) := by decide +kernel
theorem dX12_readsOn_160 : decode cX12_readsOn 160 = .ok (.aload_n 0, 1) := by decide +kernel
theorem dX12_readsOn_161 : decode cX12_readsOn 161 = .ok (.getfield 98, 3) := by decide +kernel
theorem dX12_readsOn_164 : decode cX12_readsOn 164 = .ok (.isub, 1) := by decide +kernel
theorem dX12_readsOn_165 : decode cX12_readsOn 165 = .ok (.iconst 3, 1) := by decide +kernel
theorem dX12_readsOn_166 : decode cX12_readsOn 166 = .ok (.if_icmp .ge 26, 3) := by decide +kernel
theorem dX12_readsOn_169 : decode cX12_readsOn 169 = .ok (.bipush 10, 2) := by decide +kernel
theorem dX12_readsOn_171 : decode cX12_readsOn 171 = .ok (.aload_n 0, 1) := by decide +kernel
theorem dX12_readsOn_172 : decode cX12_readsOn 172 = .ok (.getfield 115, 3) := by decide +kernel
theorem dX12_readsOn_175 : decode cX12_readsOn 175 = .ok (.imul, 1) := by decide +kernel
theorem dX12_readsOn_176 : decode cX12_readsOn 176 = .ok (.aload_n 0, 1) := by decide +kernel
theorem dX12_readsOn_177 : decode cX12_readsOn 177 = .ok (.getfield 23, 3) := by decide +kernel
theorem dX12_readsOn_180 : decode cX12_readsOn 180 = .ok (.aload_n 0, 1) := by decide +kernel
theorem dX12_readsOn_181 : decode cX12_readsOn 181 = .ok (.getfield 95, 3) := by decide +kernel
theorem dX12_readsOn_184 : decode cX12_readsOn 184 = .ok (.iaload, 1) := by decide +kernel
theorem dX12_readsOn_185 : decode cX12_readsOn 185 = .ok (.iadd, 1) := by decide +kernel
theorem dX12_readsOn_186 : decode cX12_readsOn 186 = .ok (.bipush 48, 2) := by decide +kernel
theorem dX12_readsOn_188 : decode cX12_readsOn 188 = .ok (.isub, 1) := by decide +kernel
theorem dX12_readsOn_189 : decode cX12_readsOn 189 = .ok (.goto 7, 3) := by decide +kernel
theorem dX12_readsOn_192 : decode cX12_readsOn 192 = .ok (.aload_n 0, 1) := by decide +kernel
theorem dX12_readsOn_193 : decode cX12_readsOn 193 = .ok (.getfield 115, 3) := by decide +kernel
theorem dX12_readsOn_196 : decode cX12_readsOn 196 = .ok (.putfield 115, 3) := by decide +kernel
theorem dX12_readsOn_199 : decode cX12_readsOn 199 = .ok (.aload_n 0, 1) := by decide +kernel
theorem dX12_readsOn_200 : decode cX12_readsOn 200 = .ok (.dup, 1) := by decide +kernel
theorem dX12_readsOn_201 : decode cX12_readsOn 201 = .ok (.getfield 95, 3) := by decide +kernel
theorem dX12_readsOn_204 : decode cX12_readsOn 204 = .ok (.iconst 1, 1) := by decide +kernel
theorem dX12_readsOn_205 : decode cX12_readsOn 205 = .ok (.iadd, 1) := by decide +kernel
theorem dX12_readsOn_206 : decode cX12_readsOn 206 = .ok (.putfield 95, 3) := by decide +kernel
theorem dX12_readsOn_209 : decode cX12_readsOn 209 = .ok (.goto (-68), 3) := by decide +kernel
theorem dX12_readsOn_212 : decode cX12_readsOn 212 = .ok (.aload_n 0, 1) := by decide +kernel
theorem dX12_readsOn_213 : decode cX12_readsOn 213 = .ok (.aload_n 0, 1) := by decide +kernel
theorem dX12_readsOn_214 : decode cX12_readsOn 214 = .ok (.getfield 95, 3) := by decide +kernel
theorem dX12_readsOn_217 : decode cX12_readsOn 217 = .ok (.aload_n 0, 1) := by decide +kernel
theorem dX12_readsOn_218 : decode cX12_readsOn 218 = .ok (.getfield 98, 3) := by decide +kernel
theorem dX12_readsOn_221 : decode cX12_readsOn 221 = .ok (.isub, 1) := by decide +kernel
theorem dX12_readsOn_222 : decode cX12_readsOn 222 = .ok (.iconst 3, 1) := by decide +kernel
theorem dX12_readsOn_223 : decode cX12_readsOn 223 = .ok (.if_icmp .le 7, 3) := by decide +kernel
theorem dX12_readsOn_226 : decode cX12_readsOn 226 = .ok (.iconst 3, 1) := by decide +kernel
theorem dX12_readsOn_227 : decode cX12_readsOn 227 = .ok (.goto 4, 3) := by decide +kernel
theorem dX12_readsOn_230 : decode cX12_readsOn 230 = .ok (.iconst 2, 1) := by decide +kernel
theorem dX12_readsOn_231 : decode cX12_readsOn 231 = .ok (.putfield 101, 3) := by decide +kernel
theorem dX12_readsOn_234 : decode cX12_readsOn 234 = .ok (.goto 29, 3) := by decide +kernel
theorem dX12_readsOn_237 : decode cX12_readsOn 237 = .ok (.aload_n 0, 1) := by decide +kernel
theorem dX12_readsOn_238 : decode cX12_readsOn 238 = .ok (.iload_n 1, 1) := by decide +kernel
theorem dX12_readsOn_239 : decode cX12_readsOn 239 = .ok (.invokestatic 118, 3) := by decide +kernel
theorem dX12_readsOn_242 : decode cX12_readsOn 242 = .ok (.ifCond .eq 7, 3) := by decide +kernel
theorem dX12_readsOn_245 : decode cX12_readsOn 245 = .ok (.iload_n 1, 1) := by decide +kernel
theorem dX12_readsOn_246 : decode cX12_readsOn 246 = .ok (.goto 4, 3) := by decide +kernel
theorem dX12_readsOn_249 : decode cX12_readsOn 249 = .ok (.iconst 3, 1) := by decide +kernel
theorem dX12_readsOn_250 : decode cX12_readsOn 250 = .ok (.putfield 101, 3) := by decide +kernel
theorem dX12_readsOn_253 : decode cX12_readsOn 253 = .ok (.aload_n 0, 1) := by decide +kernel
theorem dX12_readsOn_254 : decode cX12_readsOn 254 = .ok (.dup, 1) := by decide +kernel
theorem dX12_readsOn_255 : decode cX12_readsOn 255 = .ok (.getfield 95, 3) := by decide +kernel
theorem dX12_readsOn_258 : decode cX12_readsOn 258 = .ok (.iconst 1, 1) := by decide +kernel
theorem dX12_readsOn_259 : decode cX12_readsOn 259 = .ok (.iadd, 1) := by decide +kernel
theorem dX12_readsOn_260 : decode cX12_readsOn 260 = .ok (.putfield 95, 3) := by decide +kernel
theorem dX12_readsOn_263 : decode cX12_readsOn 263 = .ok (.return_, 1) := by decide +kernel
theorem dX12_blames_0 : decode cX12_blames 0 = .ok (.aload_n 0, 1) := by decide +kernel
theorem dX12_blames_1 : decode cX12_blames 1 = .ok (.getfield 121, 3) := by decide +kernel
theorem dX12_blames_4 : decode cX12_blames 4 = .ok (.ifCond .eq 4, 3) := by decide +kernel
theorem dX12_blames_7 : decode cX12_blames 7 = .ok (.return_, 1) := by decide +kernel
theorem dX12_blames_8 : decode cX12_blames 8 = .ok (.aload_n 0, 1) := by decide +kernel
theorem dX12_blames_9 : decode cX12_blames 9 = .ok (.aload_n 0, 1) := by decide +kernel
theorem dX12_blames_10 : decode cX12_blames 10 = .ok (.getfield 101, 3) := by decide +kernel
theorem dX12_blames_13 : decode cX12_blames 13 = .ok (.iconst 3, 1) := by decide +kernel
theorem dX12_blames_14 : decode cX12_blames 14 = .ok (.if_icmp .ne 7, 3) := by decide +kernel
theorem dX12_blames_17 : decode cX12_blames 17 = .ok (.iconst 1, 1) := by decide +kernel
theorem dX12_blames_18 : decode cX12_blames 18 = .ok (.goto 4, 3) := by decide +kernel
theorem dX12_blames_21 : decode cX12_blames 21 = .ok (.iload_n 1, 1) := by decide +kernel
theorem dX12_blames_22 : decode cX12_blames 22 = .ok (.putfield 121, 3) := by decide +kernel
theorem dX12_blames_25 : decode cX12_blames 25 = .ok (.aload_n 0, 1) := by decide +kernel
theorem dX12_blames_26 : decode cX12_blames 26 = .ok (.aload_n 0, 1) := by decide +kernel
theorem dX12_blames_27 : decode cX12_blames 27 = .ok (.getfield 98, 3) := by decide +kernel
theorem dX12_blames_30 : decode cX12_blames 30 = .ok (.putfield 124, 3) := by decide +kernel
theorem dX12_blames_33 : decode cX12_blames 33 = .ok (.return_, 1) := by decide +kernel
theorem dX12_isWord_0 : decode cX12_isWord 0 = .ok (.aload_n 0, 1) := by decide +kernel
theorem dX12_isWord_1 : decode cX12_isWord 1 = .ok (.getfield 121, 3) := by decide +kernel
theorem dX12_isWord_4 : decode cX12_isWord 4 = .ok (.ifCond .ne 31, 3) := by decide +kernel
theorem dX12_isWord_7 : decode cX12_isWord 7 = .ok (.aload_n 0, 1) := by decide +kernel
theorem dX12_isWord_8 : decode cX12_isWord 8 = .ok (.getfield 101, 3) := by decide +kernel
theorem dX12_isWord_11 : decode cX12_isWord 11 = .ok (.iconst 1, 1) := by decide +kernel
theorem dX12_isWord_12 : decode cX12_isWord 12 = .ok (.if_icmp .ne 23, 3) := by decide +kernel
theorem dX12_isWord_15 : decode cX12_isWord 15 = .ok (.aload_n 0, 1) := by decide +kernel
theorem dX12_isWord_16 : decode cX12_isWord 16 = .ok (.getfield 95, 3) := by decide +kernel
theorem dX12_isWord_19 : decode cX12_isWord 19 = .ok (.aload_n 0, 1) := by decide +kernel
theorem dX12_isWord_20 : decode cX12_isWord 20 = .ok (.getfield 98, 3) := by decide +kernel
theorem dX12_isWord_23 : decode cX12_isWord 23 = .ok (.isub, 1) := by decide +kernel
theorem dX12_isWord_24 : decode cX12_isWord 24 = .ok (.aload_n 1, 1) := by decide +kernel
theorem dX12_isWord_25 : decode cX12_isWord 25 = .ok (.invokevirtual 127, 3) := by decide +kernel
theorem dX12_isWord_28 : decode cX12_isWord 28 = .ok (.if_icmp .ne 7, 3) := by decide +kernel
theorem dX12_isWord_31 : decode cX12_isWord 31 = .ok (.iconst 1, 1) := by decide +kernel
theorem dX12_isWord_32 : decode cX12_isWord 32 = .ok (.goto 4, 3) := by decide +kernel
theorem dX12_isWord_35 : decode cX12_isWord 35 = .ok (.iconst 0, 1) := by decide +kernel
theorem dX12_isWord_36 : decode cX12_isWord 36 = .ok (.istore_n 2, 1) := by decide +kernel
theorem dX12_isWord_37 : decode cX12_isWord 37 = .ok (.iconst 0, 1) := by decide +kernel
theorem dX12_isWord_38 : decode cX12_isWord 38 = .ok (.istore_n 3, 1) := by decide +kernel
theorem dX12_isWord_39 : decode cX12_isWord 39 = .ok (.iload_n 2, 1) := by decide +kernel
theorem dX12_isWord_40 : decode cX12_isWord 40 = .ok (.ifCond .eq 42, 3) := by decide +kernel
theorem dX12_isWord_43 : decode cX12_isWord 43 = .ok (.iload_n 3, 1) := by decide +kernel
theorem dX12_isWord_44 : decode cX12_isWord 44 = .ok (.aload_n 1, 1) := by decide +kernel
theorem dX12_isWord_45 : decode cX12_isWord 45 = .ok (.invokevirtual 127, 3) := by decide +kernel
theorem dX12_isWord_48 : decode cX12_isWord 48 = .ok (.if_icmp .ge 34, 3) := by decide +kernel
theorem dX12_isWord_51 : decode cX12_isWord 51 = .ok (.aload_n 0, 1) := by decide +kernel
theorem dX12_isWord_52 : decode cX12_isWord 52 = .ok (.getfield 23, 3) := by decide +kernel
theorem dX12_isWord_55 : decode cX12_isWord 55 = .ok (.aload_n 0, 1) := by decide +kernel
theorem dX12_isWord_56 : decode cX12_isWord 56 = .ok (.getfield 98, 3) := by decide +kernel
theorem dX12_isWord_59 : decode cX12_isWord 59 = .ok (.iload_n 3, 1) := by decide +kernel
theorem dX12_isWord_60 : decode cX12_isWord 60 = .ok (.iadd, 1) := by decide +kernel
theorem dX12_isWord_61 : decode cX12_isWord 61 = .ok (.iaload, 1) := by decide +kernel
theorem dX12_isWord_62 : decode cX12_isWord 62 = .ok (.aload_n 1, 1) := by decide +kernel
theorem dX12_isWord_63 : decode cX12_isWord 63 = .ok (.iload_n 3, 1) := by decide +kernel
theorem dX12_isWord_64 : decode cX12_isWord 64 = .ok (.invokevirtual 132, 3) := by decide +kernel
theorem dX12_isWord_67 : decode cX12_isWord 67 = .ok (.if_icmp .ne 7, 3) := by decide +kernel
theorem dX12_isWord_70 : decode cX12_isWord 70 = .ok (.iconst 1, 1) := by decide +kernel
theorem dX12_isWord_71 : decode cX12_isWord 71 = .ok (.goto 4, 3) := by decide +kernel
theorem dX12_isWord_74 : decode cX12_isWord 74 = .ok (.iconst 0, 1) := by decide +kernel
theorem dX12_isWord_75 : decode cX12_isWord 75 = .ok (.istore_n 2, 1) := by decide +kernel
theorem dX12_isWord_76 : decode cX12_isWord 76 = .ok (.iinc 3 1, 3) := by decide +kernel
theorem dX12_isWord_79 : decode cX12_isWord 79 = .ok (.goto (-40), 3) := by decide +kernel
theorem dX12_isWord_82 : decode cX12_isWord 82 = .ok (.iload_n 2, 1) := by decide +kernel
theorem dX12_isWord_83 : decode cX12_isWord 83 = .ok (.ireturn, 1) := by decide +kernel
theorem dX12_took_0 : decode cX12_took 0 = .ok (.aload_n 0, 1) := by decide +kernel
theorem dX12_took_1 : decode cX12_took 1 = .ok (.aload_n 1, 1) := by decide +kernel
theorem dX12_took_2 : decode cX12_took 2 = .ok (.invokevirtual 136, 3) := by decide +kernel
theorem dX12_took_5 : decode cX12_took 5 = .ok (.istore_n 2, 1) := by decide +kernel
theorem dX12_took_6 : decode cX12_took 6 = .ok (.iload_n 2, 1) := by decide +kernel
theorem dX12_took_7 : decode cX12_took 7 = .ok (.ifCond .eq 7, 3) := by decide +kernel
theorem dX12_took_10 : decode cX12_took 10 = .ok (.aload_n 0, 1) := by decide +kernel
theorem dX12_took_11 : decode cX12_took 11 = .ok (.invokevirtual 140, 3) := by decide +kernel
theorem dX12_took_14 : decode cX12_took 14 = .ok (.iload_n 2, 1) := by decide +kernel
theorem dX12_took_15 : decode cX12_took 15 = .ok (.ireturn, 1) := by decide +kernel
theorem dX12_isSign_0 : decode cX12_isSign 0 = .ok (.aload_n 0, 1) := by decide +kernel
theorem dX12_isSign_1 : decode cX12_isSign 1 = .ok (.getfield 121, 3) := by decide +kernel
theorem dX12_isSign_4 : decode cX12_isSign 4 = .ok (.ifCond .ne 15, 3) := by decide +kernel
theorem dX12_isSign_7 : decode cX12_isSign 7 = .ok (.aload_n 0, 1) := by decide +kernel
theorem dX12_isSign_8 : decode cX12_isSign 8 = .ok (.getfield 101, 3) := by decide +kernel
theorem dX12_isSign_11 : decode cX12_isSign 11 = .ok (.iload_n 1, 1) := by decide +kernel
theorem dX12_isSign_12 : decode cX12_isSign 12 = .ok (.if_icmp .ne 7, 3) := by decide +kernel
theorem dX12_isSign_15 : decode cX12_isSign 15 = .ok (.iconst 1, 1) := by decide +kernel
theorem dX12_isSign_16 : decode cX12_isSign 16 = .ok (.goto 4, 3) := by decide +kernel
theorem dX12_isSign_19 : decode cX12_isSign 19 = .ok (.iconst 0, 1) := by decide +kernel
theorem dX12_isSign_20 : decode cX12_isSign 20 = .ok (.ireturn, 1) := by decide +kernel
theorem dX12_mustSign_0 : decode cX12_mustSign 0 = .ok (.aload_n 0, 1) := by decide +kernel
theorem dX12_mustSign_1 : decode cX12_mustSign 1 = .ok (.getfield 101, 3) := by decide +kernel
theorem dX12_mustSign_4 : decode cX12_mustSign 4 = .ok (.iload_n 1, 1) := by decide +kernel
theorem dX12_mustSign_5 : decode cX12_mustSign 5 = .ok (.if_icmp .eq 8, 3) := by decide +kernel
theorem dX12_mustSign_8 : decode cX12_mustSign 8 = .ok (.aload_n 0, 1) := by decide +kernel
theorem dX12_mustSign_9 : decode cX12_mustSign 9 = .ok (.iconst 2, 1) := by decide +kernel
theorem dX12_mustSign_10 : decode cX12_mustSign 10 = .ok (.invokevirtual 143, 3) := by decide +kernel
theorem dX12_mustSign_13 : decode cX12_mustSign 13 = .ok (.aload_n 0, 1) := by decide +kernel
theorem dX12_mustSign_14 : decode cX12_mustSign 14 = .ok (.getfield 121, 3) := by decide +kernel
theorem dX12_mustSign_17 : decode cX12_mustSign 17 = .ok (.ifCond .ne 7, 3) := by decide +kernel
theorem dX12_mustSign_20 : decode cX12_mustSign 20 = .ok (.aload_n 0, 1) := by decide +kernel
theorem dX12_mustSign_21 : decode cX12_mustSign 21 = .ok (.invokevirtual 140, 3) := by decide +kernel
theorem dX12_mustSign_24 : decode cX12_mustSign 24 = .ok (.return_, 1) := by decide +kernel
theorem dX12_number_0 : decode cX12_number 0 = .ok (.aload_n 0, 1) := by decide +kernel
theorem dX12_number_1 : decode cX12_number 1 = .ok (.getfield 101, 3) := by decide +kernel
theorem dX12_number_4 : decode cX12_number 4 = .ok (.iconst 2, 1) := by decide +kernel
theorem dX12_number_5 : decode cX12_number 5 = .ok (.if_icmp .eq 11, 3) := by decide +kernel
theorem dX12_number_8 : decode cX12_number 8 = .ok (.aload_n 0, 1) := by decide +kernel
theorem dX12_number_9 : decode cX12_number 9 = .ok (.iconst 2, 1) := by decide +kernel
theorem dX12_number_10 : decode cX12_number 10 = .ok (.invokevirtual 143, 3) := by decide +kernel
theorem dX12_number_13 : decode cX12_number 13 = .ok (.goto 23, 3) := by decide +kernel
theorem dX12_number_16 : decode cX12_number 16 = .ok (.aload_n 0, 1) := by decide +kernel
theorem dX12_number_17 : decode cX12_number 17 = .ok (.getfield 115, 3) := by decide +kernel
theorem dX12_number_20 : decode cX12_number 20 = .ok (.i2l, 1) := by decide +kernel
theorem dX12_number_21 : decode cX12_number 21 = .ok (.iload_n 1, 1) := by decide +kernel
theorem dX12_number_22 : decode cX12_number 22 = .ok (.i2l, 1) := by decide +kernel
theorem dX12_number_23 : decode cX12_number 23 = .ok (.iload_n 2, 1) := by decide +kernel
theorem dX12_number_24 : decode cX12_number 24 = .ok (.i2l, 1) := by decide +kernel
theorem dX12_number_25 : decode cX12_number 25 = .ok (.invokestatic 147, 3) := by decide +kernel
theorem dX12_number_28 : decode cX12_number 28 = .ok (.ifCond .ne 8, 3) := by decide +kernel
theorem dX12_number_31 : decode cX12_number 31 = .ok (.aload_n 0, 1) := by decide +kernel
theorem dX12_number_32 : decode cX12_number 32 = .ok (.iconst 3, 1) := by decide +kernel
theorem dX12_number_33 : decode cX12_number 33 = .ok (.invokevirtual 143, 3) := by decide +kernel
theorem dX12_number_36 : decode cX12_number 36 = .ok (.aload_n 0, 1) := by decide +kernel
theorem dX12_number_37 : decode cX12_number 37 = .ok (.getfield 115, 3) := by decide +kernel
theorem dX12_number_40 : decode cX12_number 40 = .ok (.istore_n 3, 1) := by decide +kernel
theorem dX12_number_41 : decode cX12_number 41 = .ok (.aload_n 0, 1) := by decide +kernel
theorem dX12_number_42 : decode cX12_number 42 = .ok (.getfield 121, 3) := by decide +kernel
theorem dX12_number_45 : decode cX12_number 45 = .ok (.ifCond .ne 7, 3) := by decide +kernel
theorem dX12_number_48 : decode cX12_number 48 = .ok (.aload_n 0, 1) := by decide +kernel
theorem dX12_number_49 : decode cX12_number 49 = .ok (.invokevirtual 140, 3) := by decide +kernel
theorem dX12_number_52 : decode cX12_number 52 = .ok (.aload_n 0, 1) := by decide +kernel
theorem dX12_number_53 : decode cX12_number 53 = .ok (.getfield 121, 3) := by decide +kernel
theorem dX12_number_56 : decode cX12_number 56 = .ok (.ifCond .ne 7, 3) := by decide +kernel
theorem dX12_number_59 : decode cX12_number 59 = .ok (.iload_n 3, 1) := by decide +kernel
theorem dX12_number_60 : decode cX12_number 60 = .ok (.goto 4, 3) := by decide +kernel
theorem dX12_number_63 : decode cX12_number 63 = .ok (.iload_n 1, 1) := by decide +kernel
theorem dX12_number_64 : decode cX12_number 64 = .ok (.ireturn, 1) := by decide +kernel
theorem dX12_mustWord_0 : decode cX12_mustWord 0 = .ok (.aload_n 0, 1) := by decide +kernel
theorem dX12_mustWord_1 : decode cX12_mustWord 1 = .ok (.aload_n 1, 1) := by decide +kernel
theorem dX12_mustWord_2 : decode cX12_mustWord 2 = .ok (.invokevirtual 151, 3) := by decide +kernel
theorem dX12_mustWord_5 : decode cX12_mustWord 5 = .ok (.ifCond .ne 8, 3) := by decide +kernel
theorem dX12_mustWord_8 : decode cX12_mustWord 8 = .ok (.aload_n 0, 1) := by decide +kernel
theorem dX12_mustWord_9 : decode cX12_mustWord 9 = .ok (.iconst 2, 1) := by decide +kernel
theorem dX12_mustWord_10 : decode cX12_mustWord 10 = .ok (.invokevirtual 143, 3) := by decide +kernel
theorem dX12_mustWord_13 : decode cX12_mustWord 13 = .ok (.return_, 1) := by decide +kernel
theorem dX12_laysStep_0 : decode cX12_laysStep 0 = .ok (.aload_n 0, 1) := by decide +kernel
theorem dX12_laysStep_1 : decode cX12_laysStep 1 = .ok (.getfield 121, 3) := by decide +kernel
theorem dX12_laysStep_4 : decode cX12_laysStep 4 = .ok (.ifCond .eq 4, 3) := by decide +kernel
theorem dX12_laysStep_7 : decode cX12_laysStep 7 = .ok (.return_, 1) := by decide +kernel
theorem dX12_laysStep_8 : decode cX12_laysStep 8 = .ok (.aload_n 0, 1) := by decide +kernel
theorem dX12_laysStep_9 : decode cX12_laysStep 9 = .ok (.getfield 13, 3) := by decide +kernel
theorem dX12_laysStep_12 : decode cX12_laysStep 12 = .ok (.aload_n 0, 1) := by decide +kernel
theorem dX12_laysStep_13 : decode cX12_laysStep 13 = .ok (.getfield 154, 3) := by decide +kernel
theorem dX12_laysStep_16 : decode cX12_laysStep 16 = .ok (.aload_n 0, 1) := by decide +kernel
theorem dX12_laysStep_17 : decode cX12_laysStep 17 = .ok (.getfield 13, 3) := by decide +kernel
theorem dX12_laysStep_20 : decode cX12_laysStep 20 = .ok (.aload_n 0, 1) := by decide +kernel
theorem dX12_laysStep_21 : decode cX12_laysStep 21 = .ok (.getfield 157, 3) := by decide +kernel
theorem dX12_laysStep_24 : decode cX12_laysStep 24 = .ok (.iaload, 1) := by decide +kernel
theorem dX12_laysStep_25 : decode cX12_laysStep 25 = .ok (.iadd, 1) := by decide +kernel
theorem dX12_laysStep_26 : decode cX12_laysStep 26 = .ok (.iload_n 1, 1) := by decide +kernel
theorem dX12_laysStep_27 : decode cX12_laysStep 27 = .ok (.iastore, 1) := by decide +kernel
theorem dX12_laysStep_28 : decode cX12_laysStep 28 = .ok (.aload_n 0, 1) := by decide +kernel
theorem dX12_laysStep_29 : decode cX12_laysStep 29 = .ok (.getfield 13, 3) := by decide +kernel
theorem dX12_laysStep_32 : decode cX12_laysStep 32 = .ok (.aload_n 0, 1) := by decide +kernel
theorem dX12_laysStep_33 : decode cX12_laysStep 33 = .ok (.getfield 157, 3) := by decide +kernel
theorem dX12_laysStep_36 : decode cX12_laysStep 36 = .ok (.dup2, 1) := by decide +kernel
theorem dX12_laysStep_37 : decode cX12_laysStep 37 = .ok (.iaload, 1) := by decide +kernel
theorem dX12_laysStep_38 : decode cX12_laysStep 38 = .ok (.iconst 1, 1) := by decide +kernel
theorem dX12_laysStep_39 : decode cX12_laysStep 39 = .ok (.iadd, 1) := by decide +kernel
theorem dX12_laysStep_40 : decode cX12_laysStep 40 = .ok (.iastore, 1) := by decide +kernel
theorem dX12_laysStep_41 : decode cX12_laysStep 41 = .ok (.return_, 1) := by decide +kernel
theorem dX12_beginsLaw_0 : decode cX12_beginsLaw 0 = .ok (.aload_n 0, 1) := by decide +kernel
theorem dX12_beginsLaw_1 : decode cX12_beginsLaw 1 = .ok (.iload_n 1, 1) := by decide +kernel
theorem dX12_beginsLaw_2 : decode cX12_beginsLaw 2 = .ok (.putfield 157, 3) := by decide +kernel
theorem dX12_beginsLaw_5 : decode cX12_beginsLaw 5 = .ok (.aload_n 0, 1) := by decide +kernel
theorem dX12_beginsLaw_6 : decode cX12_beginsLaw 6 = .ok (.iload_n 2, 1) := by decide +kernel
theorem dX12_beginsLaw_7 : decode cX12_beginsLaw 7 = .ok (.putfield 154, 3) := by decide +kernel
theorem dX12_beginsLaw_10 : decode cX12_beginsLaw 10 = .ok (.aload_n 0, 1) := by decide +kernel
theorem dX12_beginsLaw_11 : decode cX12_beginsLaw 11 = .ok (.getfield 13, 3) := by decide +kernel
theorem dX12_beginsLaw_14 : decode cX12_beginsLaw 14 = .ok (.iload_n 1, 1) := by decide +kernel
theorem dX12_beginsLaw_15 : decode cX12_beginsLaw 15 = .ok (.iconst 0, 1) := by decide +kernel
theorem dX12_beginsLaw_16 : decode cX12_beginsLaw 16 = .ok (.iastore, 1) := by decide +kernel
theorem dX12_beginsLaw_17 : decode cX12_beginsLaw 17 = .ok (.aload_n 0, 1) := by decide +kernel
theorem dX12_beginsLaw_18 : decode cX12_beginsLaw 18 = .ok (.bipush 58, 2) := by decide +kernel
theorem dX12_beginsLaw_20 : decode cX12_beginsLaw 20 = .ok (.invokevirtual 160, 3) := by decide +kernel
theorem dX12_beginsLaw_23 : decode cX12_beginsLaw 23 = .ok (.return_, 1) := by decide +kernel
theorem dX12_goesIn_0 : decode cX12_goesIn 0 = .ok (.aload_n 0, 1) := by decide +kernel
theorem dX12_goesIn_1 : decode cX12_goesIn 1 = .ok (.getfield 163, 3) := by decide +kernel
theorem dX12_goesIn_4 : decode cX12_goesIn 4 = .ok (.bipush 6, 2) := by decide +kernel
theorem dX12_goesIn_6 : decode cX12_goesIn 6 = .ok (.if_icmp .ne 8, 3) := by decide +kernel
theorem dX12_goesIn_9 : decode cX12_goesIn 9 = .ok (.aload_n 0, 1) := by decide +kernel
theorem dX12_goesIn_10 : decode cX12_goesIn 10 = .ok (.iconst 4, 1) := by decide +kernel
theorem dX12_goesIn_11 : decode cX12_goesIn 11 = .ok (.invokevirtual 143, 3) := by decide +kernel
theorem dX12_goesIn_14 : decode cX12_goesIn 14 = .ok (.aload_n 0, 1) := by decide +kernel
theorem dX12_goesIn_15 : decode cX12_goesIn 15 = .ok (.dup, 1) := by decide +kernel
theorem dX12_goesIn_16 : decode cX12_goesIn 16 = .ok (.getfield 163, 3) := by decide +kernel
theorem dX12_goesIn_19 : decode cX12_goesIn 19 = .ok (.iconst 1, 1) := by decide +kernel
theorem dX12_goesIn_20 : decode cX12_goesIn 20 = .ok (.iadd, 1) := by decide +kernel
theorem dX12_goesIn_21 : decode cX12_goesIn 21 = .ok (.putfield 163, 3) := by decide +kernel
theorem dX12_goesIn_24 : decode cX12_goesIn 24 = .ok (.aload_n 0, 1) := by decide +kernel
theorem dX12_goesIn_25 : decode cX12_goesIn 25 = .ok (.getfield 121, 3) := by decide +kernel
theorem dX12_goesIn_28 : decode cX12_goesIn 28 = .ok (.ifCond .ne 7, 3) := by decide +kernel
theorem dX12_goesIn_31 : decode cX12_goesIn 31 = .ok (.aload_n 0, 1) := by decide +kernel
theorem dX12_goesIn_32 : decode cX12_goesIn 32 = .ok (.invokevirtual 140, 3) := by decide +kernel
theorem dX12_goesIn_35 : decode cX12_goesIn 35 = .ok (.return_, 1) := by decide +kernel
theorem dX12_readTruth_0 : decode cX12_readTruth 0 = .ok (.aload_n 0, 1) := by decide +kernel
theorem dX12_readTruth_1 : decode cX12_readTruth 1 = .ok (.invokevirtual 166, 3) := by decide +kernel
theorem dX12_readTruth_4 : decode cX12_readTruth 4 = .ok (.aload_n 0, 1) := by decide +kernel
theorem dX12_readTruth_5 : decode cX12_readTruth 5 = .ok (.ldc 169, 2) := by decide +kernel
theorem dX12_readTruth_7 : decode cX12_readTruth 7 = .ok (.invokevirtual 151, 3) := by decide +kernel
theorem dX12_readTruth_10 : decode cX12_readTruth 10 = .ok (.ifCond .eq 16, 3) := by decide +kernel
theorem dX12_readTruth_13 : decode cX12_readTruth 13 = .ok (.aload_n 0, 1) := by decide +kernel
theorem dX12_readTruth_14 : decode cX12_readTruth 14 = .ok (.invokevirtual 166, 3) := by decide +kernel
theorem dX12_readTruth_17 : decode cX12_readTruth 17 = .ok (.aload_n 0, 1) := by decide +kernel
theorem dX12_readTruth_18 : decode cX12_readTruth 18 = .ok (.bipush 17, 2) := by decide +kernel
theorem dX12_readTruth_20 : decode cX12_readTruth 20 = .ok (.invokevirtual 171, 3) := by decide +kernel
theorem dX12_readTruth_23 : decode cX12_readTruth 23 = .ok (.goto (-19), 3) := by decide +kernel
theorem dX12_readTruth_26 : decode cX12_readTruth 26 = .ok (.return_, 1) := by decide +kernel
theorem dX12_readBoth_0 : decode cX12_readBoth 0 = .ok (.aload_n 0, 1) := by decide +kernel
theorem dX12_readBoth_1 : decode cX12_readBoth 1 = .ok (.invokevirtual 174, 3) := by decide +kernel
theorem dX12_readBoth_4 : decode cX12_readBoth 4 = .ok (.aload_n 0, 1) := by decide +kernel
theorem dX12_readBoth_5 : decode cX12_readBoth 5 = .ok (.ldc 177, 2) := by decide +kernel
theorem dX12_readBoth_7 : decode cX12_readBoth 7 = .ok (.invokevirtual 151, 3) := by decide +kernel
theorem dX12_readBoth_10 : decode cX12_readBoth 10 = .ok (.ifCond .eq 16, 3) := by decide +kernel
theorem dX12_readBoth_13 : decode cX12_readBoth 13 = .ok (.aload_n 0, 1) := by decide +kernel
theorem dX12_readBoth_14 : decode cX12_readBoth 14 = .ok (.invokevirtual 174, 3) := by decide +kernel
theorem dX12_readBoth_17 : decode cX12_readBoth 17 = .ok (.aload_n 0, 1) := by decide +kernel
theorem dX12_readBoth_18 : decode cX12_readBoth 18 = .ok (.bipush 16, 2) := by decide +kernel
theorem dX12_readBoth_20 : decode cX12_readBoth 20 = .ok (.invokevirtual 171, 3) := by decide +kernel
theorem dX12_readBoth_23 : decode cX12_readBoth 23 = .ok (.goto (-19), 3) := by decide +kernel
theorem dX12_readBoth_26 : decode cX12_readBoth 26 = .ok (.return_, 1) := by decide +kernel
theorem dX12_readUnit_0 : decode cX12_readUnit 0 = .ok (.aload_n 0, 1) := by decide +kernel
theorem dX12_readUnit_1 : decode cX12_readUnit 1 = .ok (.getfield 121, 3) := by decide +kernel
theorem dX12_readUnit_4 : decode cX12_readUnit 4 = .ok (.ifCond .eq 4, 3) := by decide +kernel
theorem dX12_readUnit_7 : decode cX12_readUnit 7 = .ok (.return_, 1) := by decide +kernel
theorem dX12_readUnit_8 : decode cX12_readUnit 8 = .ok (.aload_n 0, 1) := by decide +kernel
theorem dX12_readUnit_9 : decode cX12_readUnit 9 = .ok (.ldc 179, 2) := by decide +kernel
theorem dX12_readUnit_11 : decode cX12_readUnit 11 = .ok (.invokevirtual 136, 3) := by decide +kernel
theorem dX12_readUnit_14 : decode cX12_readUnit 14 = .ok (.ifCond .eq 30, 3) := by decide +kernel
theorem dX12_readUnit_17 : decode cX12_readUnit 17 = .ok (.aload_n 0, 1) := by decide +kernel
theorem dX12_readUnit_18 : decode cX12_readUnit 18 = .ok (.invokevirtual 181, 3) := by decide +kernel
theorem dX12_readUnit_21 : decode cX12_readUnit 21 = .ok (.aload_n 0, 1) := by decide +kernel
theorem dX12_readUnit_22 : decode cX12_readUnit 22 = .ok (.invokevirtual 174, 3) := by decide +kernel
theorem dX12_readUnit_25 : decode cX12_readUnit 25 = .ok (.aload_n 0, 1) := by decide +kernel
theorem dX12_readUnit_26 : decode cX12_readUnit 26 = .ok (.bipush 18, 2) := by decide +kernel
theorem dX12_readUnit_28 : decode cX12_readUnit 28 = .ok (.invokevirtual 171, 3) := by decide +kernel
theorem dX12_readUnit_31 : decode cX12_readUnit 31 = .ok (.aload_n 0, 1) := by decide +kernel
theorem dX12_readUnit_32 : decode cX12_readUnit 32 = .ok (.dup, 1) := by decide +kernel
theorem dX12_readUnit_33 : decode cX12_readUnit 33 = .ok (.getfield 163, 3) := by decide +kernel
theorem dX12_readUnit_36 : decode cX12_readUnit 36 = .ok (.iconst 1, 1) := by decide +kernel
theorem dX12_readUnit_37 : decode cX12_readUnit 37 = .ok (.isub, 1) := by decide +kernel
theorem dX12_readUnit_38 : decode cX12_readUnit 38 = .ok (.putfield 163, 3) := by decide +kernel
theorem dX12_readUnit_41 : decode cX12_readUnit 41 = .ok (.goto 114, 3) := by decide +kernel
theorem dX12_readUnit_44 : decode cX12_readUnit 44 = .ok (.aload_n 0, 1) := by decide +kernel
theorem dX12_readUnit_45 : decode cX12_readUnit 45 = .ok (.bipush 91, 2) := by decide +kernel
theorem dX12_readUnit_47 : decode cX12_readUnit 47 = .ok (.invokevirtual 184, 3) := by decide +kernel
theorem dX12_readUnit_50 : decode cX12_readUnit 50 = .ok (.ifCond .eq 30, 3) := by decide +kernel
theorem dX12_readUnit_53 : decode cX12_readUnit 53 = .ok (.aload_n 0, 1) := by decide +kernel
theorem dX12_readUnit_54 : decode cX12_readUnit 54 = .ok (.invokevirtual 181, 3) := by decide +kernel
theorem dX12_readUnit_57 : decode cX12_readUnit 57 = .ok (.aload_n 0, 1) := by decide +kernel
theorem dX12_readUnit_58 : decode cX12_readUnit 58 = .ok (.invokevirtual 187, 3) := by decide +kernel
theorem dX12_readUnit_61 : decode cX12_readUnit 61 = .ok (.aload_n 0, 1) := by decide +kernel
theorem dX12_readUnit_62 : decode cX12_readUnit 62 = .ok (.bipush 93, 2) := by decide +kernel
theorem dX12_readUnit_64 : decode cX12_readUnit 64 = .ok (.invokevirtual 160, 3) := by decide +kernel
theorem dX12_readUnit_67 : decode cX12_readUnit 67 = .ok (.aload_n 0, 1) := by decide +kernel
theorem dX12_readUnit_68 : decode cX12_readUnit 68 = .ok (.dup, 1) := by decide +kernel
theorem dX12_readUnit_69 : decode cX12_readUnit 69 = .ok (.getfield 163, 3) := by decide +kernel
theorem dX12_readUnit_72 : decode cX12_readUnit 72 = .ok (.iconst 1, 1) := by decide +kernel
theorem dX12_readUnit_73 : decode cX12_readUnit 73 = .ok (.isub, 1) := by decide +kernel
theorem dX12_readUnit_74 : decode cX12_readUnit 74 = .ok (.putfield 163, 3) := by decide +kernel
theorem dX12_readUnit_77 : decode cX12_readUnit 77 = .ok (.goto 78, 3) := by decide +kernel
theorem dX12_readUnit_80 : decode cX12_readUnit 80 = .ok (.aload_n 0, 1) := by decide +kernel
theorem dX12_readUnit_81 : decode cX12_readUnit 81 = .ok (.invokevirtual 190, 3) := by decide +kernel
theorem dX12_readUnit_84 : decode cX12_readUnit 84 = .ok (.aload_n 0, 1) := by decide +kernel
theorem dX12_readUnit_85 : decode cX12_readUnit 85 = .ok (.getfield 101, 3) := by decide +kernel
theorem dX12_readUnit_88 : decode cX12_readUnit 88 = .ok (.istore_n 1, 1) := by decide +kernel
theorem dX12_readUnit_89 : decode cX12_readUnit 89 = .ok (.iload_n 1, 1) := by decide +kernel
theorem dX12_readUnit_90 : decode cX12_readUnit 90 = .ok (.bipush 61, 2) := by decide +kernel
theorem dX12_readUnit_92 : decode cX12_readUnit 92 = .ok (.if_icmp .eq 20, 3) := by decide +kernel
theorem dX12_readUnit_95 : decode cX12_readUnit 95 = .ok (.iload_n 1, 1) := by decide +kernel
theorem dX12_readUnit_96 : decode cX12_readUnit 96 = .ok (.bipush 60, 2) := by decide +kernel
theorem dX12_readUnit_98 : decode cX12_readUnit 98 = .ok (.if_icmp .eq 14, 3) := by decide +kernel
theorem dX12_readUnit_101 : decode cX12_readUnit 101 = .ok (.iload_n 1, 1) := by decide +kernel
theorem dX12_readUnit_102 : decode cX12_readUnit 102 = .ok (.bipush 62, 2) := by decide +kernel
theorem dX12_readUnit_104 : decode cX12_readUnit 104 = .ok (.if_icmp .eq 8, 3) := by decide +kernel
theorem dX12_readUnit_107 : decode cX12_readUnit 107 = .ok (.aload_n 0, 1) := by decide +kernel
theorem dX12_readUnit_108 : decode cX12_readUnit 108 = .ok (.iconst 2, 1) := by decide +kernel
theorem dX12_readUnit_109 : decode cX12_readUnit 109 = .ok (.invokevirtual 143, 3) := by decide +kernel
theorem dX12_readUnit_112 : decode cX12_readUnit 112 = .ok (.aload_n 0, 1) := by decide +kernel
theorem dX12_readUnit_113 : decode cX12_readUnit 113 = .ok (.getfield 121, 3) := by decide +kernel
theorem dX12_readUnit_116 : decode cX12_readUnit 116 = .ok (.ifCond .ne 7, 3) := by decide +kernel
theorem dX12_readUnit_119 : decode cX12_readUnit 119 = .ok (.aload_n 0, 1) := by decide +kernel
theorem dX12_readUnit_120 : decode cX12_readUnit 120 = .ok (.invokevirtual 140, 3) := by decide +kernel
theorem dX12_readUnit_123 : decode cX12_readUnit 123 = .ok (.aload_n 0, 1) := by decide +kernel
theorem dX12_readUnit_124 : decode cX12_readUnit 124 = .ok (.invokevirtual 190, 3) := by decide +kernel
theorem dX12_readUnit_127 : decode cX12_readUnit 127 = .ok (.aload_n 0, 1) := by decide +kernel
theorem dX12_readUnit_128 : decode cX12_readUnit 128 = .ok (.iload_n 1, 1) := by decide +kernel
theorem dX12_readUnit_129 : decode cX12_readUnit 129 = .ok (.bipush 61, 2) := by decide +kernel
theorem dX12_readUnit_131 : decode cX12_readUnit 131 = .ok (.if_icmp .ne 8, 3) := by decide +kernel
theorem dX12_readUnit_134 : decode cX12_readUnit 134 = .ok (.bipush 13, 2) := by decide +kernel
theorem dX12_readUnit_136 : decode cX12_readUnit 136 = .ok (.goto 16, 3) := by decide +kernel
theorem dX12_readUnit_139 : decode cX12_readUnit 139 = .ok (.iload_n 1, 1) := by decide +kernel
theorem dX12_readUnit_140 : decode cX12_readUnit 140 = .ok (.bipush 60, 2) := by decide +kernel
theorem dX12_readUnit_142 : decode cX12_readUnit 142 = .ok (.if_icmp .ne 8, 3) := by decide +kernel
theorem dX12_readUnit_145 : decode cX12_readUnit 145 = .ok (.bipush 14, 2) := by decide +kernel
theorem dX12_readUnit_147 : decode cX12_readUnit 147 = .ok (.goto 5, 3) := by decide +kernel
theorem dX12_readUnit_150 : decode cX12_readUnit 150 = .ok (.bipush 15, 2) := by decide +kernel
theorem dX12_readUnit_152 : decode cX12_readUnit 152 = .ok (.invokevirtual 171, 3) := by decide +kernel
theorem dX12_readUnit_155 : decode cX12_readUnit 155 = .ok (.return_, 1) := by decide +kernel
theorem dX12_readSum_0 : decode cX12_readSum 0 = .ok (.aload_n 0, 1) := by decide +kernel
theorem dX12_readSum_1 : decode cX12_readSum 1 = .ok (.invokevirtual 193, 3) := by decide +kernel
theorem dX12_readSum_4 : decode cX12_readSum 4 = .ok (.aload_n 0, 1) := by decide +kernel
theorem dX12_readSum_5 : decode cX12_readSum 5 = .ok (.bipush 43, 2) := by decide +kernel
theorem dX12_readSum_7 : decode cX12_readSum 7 = .ok (.invokevirtual 184, 3) := by decide +kernel
theorem dX12_readSum_10 : decode cX12_readSum 10 = .ok (.ifCond .ne 12, 3) := by decide +kernel
theorem dX12_readSum_13 : decode cX12_readSum 13 = .ok (.aload_n 0, 1) := by decide +kernel
theorem dX12_readSum_14 : decode cX12_readSum 14 = .ok (.bipush 45, 2) := by decide +kernel
theorem dX12_readSum_16 : decode cX12_readSum 16 = .ok (.invokevirtual 184, 3) := by decide +kernel
theorem dX12_readSum_19 : decode cX12_readSum 19 = .ok (.ifCond .eq 36, 3) := by decide +kernel
theorem dX12_readSum_22 : decode cX12_readSum 22 = .ok (.aload_n 0, 1) := by decide +kernel
theorem dX12_readSum_23 : decode cX12_readSum 23 = .ok (.getfield 101, 3) := by decide +kernel
theorem dX12_readSum_26 : decode cX12_readSum 26 = .ok (.istore_n 1, 1) := by decide +kernel
theorem dX12_readSum_27 : decode cX12_readSum 27 = .ok (.aload_n 0, 1) := by decide +kernel
theorem dX12_readSum_28 : decode cX12_readSum 28 = .ok (.invokevirtual 140, 3) := by decide +kernel
theorem dX12_readSum_31 : decode cX12_readSum 31 = .ok (.aload_n 0, 1) := by decide +kernel
theorem dX12_readSum_32 : decode cX12_readSum 32 = .ok (.invokevirtual 193, 3) := by decide +kernel
theorem dX12_readSum_35 : decode cX12_readSum 35 = .ok (.aload_n 0, 1) := by decide +kernel
theorem dX12_readSum_36 : decode cX12_readSum 36 = .ok (.iload_n 1, 1) := by decide +kernel
theorem dX12_readSum_37 : decode cX12_readSum 37 = .ok (.bipush 43, 2) := by decide +kernel
theorem dX12_readSum_39 : decode cX12_readSum 39 = .ok (.if_icmp .ne 8, 3) := by decide +kernel
theorem dX12_readSum_42 : decode cX12_readSum 42 = .ok (.bipush 10, 2) := by decide +kernel
theorem dX12_readSum_44 : decode cX12_readSum 44 = .ok (.goto 5, 3) := by decide +kernel
theorem dX12_readSum_47 : decode cX12_readSum 47 = .ok (.bipush 11, 2) := by decide +kernel
theorem dX12_readSum_49 : decode cX12_readSum 49 = .ok (.invokevirtual 171, 3) := by decide +kernel
theorem dX12_readSum_52 : decode cX12_readSum 52 = .ok (.goto (-48), 3) := by decide +kernel
theorem dX12_readSum_55 : decode cX12_readSum 55 = .ok (.return_, 1) := by decide +kernel
theorem dX12_readTerm_0 : decode cX12_readTerm 0 = .ok (.aload_n 0, 1) := by decide +kernel
theorem dX12_readTerm_1 : decode cX12_readTerm 1 = .ok (.invokevirtual 196, 3) := by decide +kernel
theorem dX12_readTerm_4 : decode cX12_readTerm 4 = .ok (.aload_n 0, 1) := by decide +kernel
theorem dX12_readTerm_5 : decode cX12_readTerm 5 = .ok (.bipush 42, 2) := by decide +kernel
theorem dX12_readTerm_7 : decode cX12_readTerm 7 = .ok (.invokevirtual 184, 3) := by decide +kernel
theorem dX12_readTerm_10 : decode cX12_readTerm 10 = .ok (.ifCond .eq 20, 3) := by decide +kernel
theorem dX12_readTerm_13 : decode cX12_readTerm 13 = .ok (.aload_n 0, 1) := by decide +kernel
theorem dX12_readTerm_14 : decode cX12_readTerm 14 = .ok (.invokevirtual 140, 3) := by decide +kernel
theorem dX12_readTerm_17 : decode cX12_readTerm 17 = .ok (.aload_n 0, 1) := by decide +kernel
theorem dX12_readTerm_18 : decode cX12_readTerm 18 = .ok (.invokevirtual 196, 3) := by decide +kernel
theorem dX12_readTerm_21 : decode cX12_readTerm 21 = .ok (.aload_n 0, 1) := by decide +kernel
theorem dX12_readTerm_22 : decode cX12_readTerm 22 = .ok (.bipush 12, 2) := by decide +kernel
theorem dX12_readTerm_24 : decode cX12_readTerm 24 = .ok (.invokevirtual 171, 3) := by decide +kernel
theorem dX12_readTerm_27 : decode cX12_readTerm 27 = .ok (.goto (-23), 3) := by decide +kernel
theorem dX12_readTerm_30 : decode cX12_readTerm 30 = .ok (.return_, 1) := by decide +kernel
theorem dX12_lawWord_0 : decode cX12_lawWord 0 = .ok (.aload_n 0, 1) := by decide +kernel
theorem dX12_lawWord_1 : decode cX12_lawWord 1 = .ok (.ldc 199, 2) := by decide +kernel
theorem dX12_lawWord_3 : decode cX12_lawWord 3 = .ok (.invokevirtual 151, 3) := by decide +kernel
theorem dX12_lawWord_6 : decode cX12_lawWord 6 = .ok (.ifCond .eq 5, 3) := by decide +kernel
theorem dX12_lawWord_9 : decode cX12_lawWord 9 = .ok (.iconst 0, 1) := by decide +kernel
theorem dX12_lawWord_10 : decode cX12_lawWord 10 = .ok (.ireturn, 1) := by decide +kernel
theorem dX12_lawWord_11 : decode cX12_lawWord 11 = .ok (.aload_n 0, 1) := by decide +kernel
theorem dX12_lawWord_12 : decode cX12_lawWord 12 = .ok (.ldc 201, 2) := by decide +kernel
theorem dX12_lawWord_14 : decode cX12_lawWord 14 = .ok (.invokevirtual 151, 3) := by decide +kernel
theorem dX12_lawWord_17 : decode cX12_lawWord 17 = .ok (.ifCond .eq 5, 3) := by decide +kernel
theorem dX12_lawWord_20 : decode cX12_lawWord 20 = .ok (.iconst 1, 1) := by decide +kernel
theorem dX12_lawWord_21 : decode cX12_lawWord 21 = .ok (.ireturn, 1) := by decide +kernel
theorem dX12_lawWord_22 : decode cX12_lawWord 22 = .ok (.aload_n 0, 1) := by decide +kernel
theorem dX12_lawWord_23 : decode cX12_lawWord 23 = .ok (.getfield 157, 3) := by decide +kernel
theorem dX12_lawWord_26 : decode cX12_lawWord 26 = .ok (.iconst 3, 1) := by decide +kernel
theorem dX12_lawWord_27 : decode cX12_lawWord 27 = .ok (.if_icmp .ne 5, 3) := by decide +kernel
theorem dX12_lawWord_30 : decode cX12_lawWord 30 = .ok (.iconst (-1), 1) := by decide +kernel
theorem dX12_lawWord_31 : decode cX12_lawWord 31 = .ok (.ireturn, 1) := by decide +kernel
theorem dX12_lawWord_32 : decode cX12_lawWord 32 = .ok (.aload_n 0, 1) := by decide +kernel
theorem dX12_lawWord_33 : decode cX12_lawWord 33 = .ok (.aload_n 0, 1) := by decide +kernel
theorem dX12_lawWord_34 : decode cX12_lawWord 34 = .ok (.getfield 157, 3) := by decide +kernel
theorem dX12_lawWord_37 : decode cX12_lawWord 37 = .ok (.iconst 2, 1) := by decide +kernel
theorem dX12_lawWord_38 : decode cX12_lawWord 38 = .ok (.if_icmp .ne 8, 3) := by decide +kernel
theorem dX12_lawWord_41 : decode cX12_lawWord 41 = .ok (.ldc 203, 2) := by decide +kernel
theorem dX12_lawWord_43 : decode cX12_lawWord 43 = .ok (.goto 5, 3) := by decide +kernel
theorem dX12_lawWord_46 : decode cX12_lawWord 46 = .ok (.ldc 205, 2) := by decide +kernel
theorem dX12_lawWord_48 : decode cX12_lawWord 48 = .ok (.invokevirtual 151, 3) := by decide +kernel
theorem dX12_lawWord_51 : decode cX12_lawWord 51 = .ok (.ifCond .eq 5, 3) := by decide +kernel
theorem dX12_lawWord_54 : decode cX12_lawWord 54 = .ok (.iconst 2, 1) := by decide +kernel
theorem dX12_lawWord_55 : decode cX12_lawWord 55 = .ok (.ireturn, 1) := by decide +kernel
theorem dX12_lawWord_56 : decode cX12_lawWord 56 = .ok (.aload_n 0, 1) := by decide +kernel
theorem dX12_lawWord_57 : decode cX12_lawWord 57 = .ok (.aload_n 0, 1) := by decide +kernel
theorem dX12_lawWord_58 : decode cX12_lawWord 58 = .ok (.getfield 157, 3) := by decide +kernel
theorem dX12_lawWord_61 : decode cX12_lawWord 61 = .ok (.iconst 2, 1) := by decide +kernel
theorem dX12_lawWord_62 : decode cX12_lawWord 62 = .ok (.if_icmp .ne 8, 3) := by decide +kernel
theorem dX12_lawWord_65 : decode cX12_lawWord 65 = .ok (.ldc 207, 2) := by decide +kernel
theorem dX12_lawWord_67 : decode cX12_lawWord 67 = .ok (.goto 5, 3) := by decide +kernel
theorem dX12_lawWord_70 : decode cX12_lawWord 70 = .ok (.ldc 209, 2) := by decide +kernel
theorem dX12_lawWord_72 : decode cX12_lawWord 72 = .ok (.invokevirtual 151, 3) := by decide +kernel
theorem dX12_lawWord_75 : decode cX12_lawWord 75 = .ok (.ifCond .eq 7, 3) := by decide +kernel
theorem dX12_lawWord_78 : decode cX12_lawWord 78 = .ok (.iconst 3, 1) := by decide +kernel
theorem dX12_lawWord_79 : decode cX12_lawWord 79 = .ok (.goto 4, 3) := by decide +kernel
theorem dX12_lawWord_82 : decode cX12_lawWord 82 = .ok (.iconst (-1), 1) := by decide +kernel
theorem dX12_lawWord_83 : decode cX12_lawWord 83 = .ok (.ireturn, 1) := by decide +kernel
theorem dX12_readAtom_0 : decode cX12_readAtom 0 = .ok (.aload_n 0, 1) := by decide +kernel
theorem dX12_readAtom_1 : decode cX12_readAtom 1 = .ok (.getfield 121, 3) := by decide +kernel
theorem dX12_readAtom_4 : decode cX12_readAtom 4 = .ok (.ifCond .eq 4, 3) := by decide +kernel
theorem dX12_readAtom_7 : decode cX12_readAtom 7 = .ok (.return_, 1) := by decide +kernel
theorem dX12_readAtom_8 : decode cX12_readAtom 8 = .ok (.aload_n 0, 1) := by decide +kernel
theorem dX12_readAtom_9 : decode cX12_readAtom 9 = .ok (.invokevirtual 210, 3) := by decide +kernel
theorem dX12_readAtom_12 : decode cX12_readAtom 12 = .ok (.istore_n 1, 1) := by decide +kernel
theorem dX12_readAtom_13 : decode cX12_readAtom 13 = .ok (.iload_n 1, 1) := by decide +kernel
theorem dX12_readAtom_14 : decode cX12_readAtom 14 = .ok (.iconst (-1), 1) := by decide +kernel
theorem dX12_readAtom_15 : decode cX12_readAtom 15 = .ok (.if_icmp .eq 14, 3) := by decide +kernel
theorem dX12_readAtom_18 : decode cX12_readAtom 18 = .ok (.aload_n 0, 1) := by decide +kernel
theorem dX12_readAtom_19 : decode cX12_readAtom 19 = .ok (.bipush 100, 2) := by decide +kernel
theorem dX12_readAtom_21 : decode cX12_readAtom 21 = .ok (.iload_n 1, 1) := by decide +kernel
theorem dX12_readAtom_22 : decode cX12_readAtom 22 = .ok (.iadd, 1) := by decide +kernel
theorem dX12_readAtom_23 : decode cX12_readAtom 23 = .ok (.invokevirtual 171, 3) := by decide +kernel
theorem dX12_readAtom_26 : decode cX12_readAtom 26 = .ok (.goto 57, 3) := by decide +kernel
theorem dX12_readAtom_29 : decode cX12_readAtom 29 = .ok (.aload_n 0, 1) := by decide +kernel
theorem dX12_readAtom_30 : decode cX12_readAtom 30 = .ok (.bipush 40, 2) := by decide +kernel
theorem dX12_readAtom_32 : decode cX12_readAtom 32 = .ok (.invokevirtual 184, 3) := by decide +kernel
theorem dX12_readAtom_35 : decode cX12_readAtom 35 = .ok (.ifCond .eq 30, 3) := by decide +kernel
theorem dX12_readAtom_38 : decode cX12_readAtom 38 = .ok (.aload_n 0, 1) := by decide +kernel
theorem dX12_readAtom_39 : decode cX12_readAtom 39 = .ok (.invokevirtual 181, 3) := by decide +kernel
theorem dX12_readAtom_42 : decode cX12_readAtom 42 = .ok (.aload_n 0, 1) := by decide +kernel
theorem dX12_readAtom_43 : decode cX12_readAtom 43 = .ok (.invokevirtual 190, 3) := by decide +kernel
theorem dX12_readAtom_46 : decode cX12_readAtom 46 = .ok (.aload_n 0, 1) := by decide +kernel
theorem dX12_readAtom_47 : decode cX12_readAtom 47 = .ok (.bipush 41, 2) := by decide +kernel
theorem dX12_readAtom_49 : decode cX12_readAtom 49 = .ok (.invokevirtual 160, 3) := by decide +kernel
theorem dX12_readAtom_52 : decode cX12_readAtom 52 = .ok (.aload_n 0, 1) := by decide +kernel
theorem dX12_readAtom_53 : decode cX12_readAtom 53 = .ok (.dup, 1) := by decide +kernel
theorem dX12_readAtom_54 : decode cX12_readAtom 54 = .ok (.getfield 163, 3) := by decide +kernel
theorem dX12_readAtom_57 : decode cX12_readAtom 57 = .ok (.iconst 1, 1) := by decide +kernel
theorem dX12_readAtom_58 : decode cX12_readAtom 58 = .ok (.isub, 1) := by decide +kernel
theorem dX12_readAtom_59 : decode cX12_readAtom 59 = .ok (.putfield 163, 3) := by decide +kernel
theorem dX12_readAtom_62 : decode cX12_readAtom 62 = .ok (.goto 21, 3) := by decide +kernel
theorem dX12_readAtom_65 : decode cX12_readAtom 65 = .ok (.aload_n 0, 1) := by decide +kernel
theorem dX12_readAtom_66 : decode cX12_readAtom 66 = .ok (.iconst 0, 1) := by decide +kernel
theorem dX12_readAtom_67 : decode cX12_readAtom 67 = .ok (.sipush 999, 3) := by decide +kernel
theorem dX12_readAtom_70 : decode cX12_readAtom 70 = .ok (.invokevirtual 213, 3) := by decide +kernel
theorem dX12_readAtom_73 : decode cX12_readAtom 73 = .ok (.istore_n 2, 1) := by decide +kernel
theorem dX12_readAtom_74 : decode cX12_readAtom 74 = .ok (.aload_n 0, 1) := by decide +kernel
theorem dX12_readAtom_75 : decode cX12_readAtom 75 = .ok (.sipush 1000, 3) := by decide +kernel
theorem dX12_readAtom_78 : decode cX12_readAtom 78 = .ok (.iload_n 2, 1) := by decide +kernel
theorem dX12_readAtom_79 : decode cX12_readAtom 79 = .ok (.iadd, 1) := by decide +kernel
theorem dX12_readAtom_80 : decode cX12_readAtom 80 = .ok (.invokevirtual 171, 3) := by decide +kernel
theorem dX12_readAtom_83 : decode cX12_readAtom 83 = .ok (.return_, 1) := by decide +kernel
theorem dX12_readMember_0 : decode cX12_readMember 0 = .ok (.aload_n 0, 1) := by decide +kernel
theorem dX12_readMember_1 : decode cX12_readMember 1 = .ok (.iconst 0, 1) := by decide +kernel
theorem dX12_readMember_2 : decode cX12_readMember 2 = .ok (.aload_n 0, 1) := by decide +kernel
theorem dX12_readMember_3 : decode cX12_readMember 3 = .ok (.getfield 13, 3) := by decide +kernel
theorem dX12_readMember_6 : decode cX12_readMember 6 = .ok (.iconst 1, 1) := by decide +kernel
theorem dX12_readMember_7 : decode cX12_readMember 7 = .ok (.iaload, 1) := by decide +kernel
theorem dX12_readMember_8 : decode cX12_readMember 8 = .ok (.iconst 1, 1) := by decide +kernel
theorem dX12_readMember_9 : decode cX12_readMember 9 = .ok (.isub, 1) := by decide +kernel
theorem dX12_readMember_10 : decode cX12_readMember 10 = .ok (.invokevirtual 213, 3) := by decide +kernel
theorem dX12_readMember_13 : decode cX12_readMember 13 = .ok (.istore_n 1, 1) := by decide +kernel
theorem dX12_readMember_14 : decode cX12_readMember 14 = .ok (.iconst 1, 1) := by decide +kernel
theorem dX12_readMember_15 : decode cX12_readMember 15 = .ok (.istore_n 2, 1) := by decide +kernel
theorem dX12_readMember_16 : decode cX12_readMember 16 = .ok (.aload_n 0, 1) := by decide +kernel
theorem dX12_readMember_17 : decode cX12_readMember 17 = .ok (.getfield 121, 3) := by decide +kernel
theorem dX12_readMember_20 : decode cX12_readMember 20 = .ok (.ifCond .ne 99, 3) := by decide +kernel
theorem dX12_readMember_23 : decode cX12_readMember 23 = .ok (.iload_n 2, 1) := by decide +kernel
theorem dX12_readMember_24 : decode cX12_readMember 24 = .ok (.ifCond .eq 95, 3) := by decide +kernel
theorem dX12_readMember_27 : decode cX12_readMember 27 = .ok (.aload_n 0, 1) := by decide +kernel
theorem dX12_readMember_28 : decode cX12_readMember 28 = .ok (.ldc 217, 2) := by decide +kernel
theorem dX12_readMember_30 : decode cX12_readMember 30 = .ok (.invokevirtual 151, 3) := by decide +kernel
theorem dX12_readMember_33 : decode cX12_readMember 33 = .ok (.ifCond .eq 28, 3) := by decide +kernel
theorem dX12_readMember_36 : decode cX12_readMember 36 = .ok (.aload_n 0, 1) := by decide +kernel
theorem dX12_readMember_37 : decode cX12_readMember 37 = .ok (.getfield 13, 3) := by decide +kernel
theorem dX12_readMember_40 : decode cX12_readMember 40 = .ok (.bipush 6, 2) := by decide +kernel
theorem dX12_readMember_42 : decode cX12_readMember 42 = .ok (.iload_n 1, 1) := by decide +kernel
theorem dX12_readMember_43 : decode cX12_readMember 43 = .ok (.iadd, 1) := by decide +kernel
theorem dX12_readMember_44 : decode cX12_readMember 44 = .ok (.aload_n 0, 1) := by decide +kernel
theorem dX12_readMember_45 : decode cX12_readMember 45 = .ok (.iconst 0, 1) := by decide +kernel
theorem dX12_readMember_46 : decode cX12_readMember 46 = .ok (.aload_n 0, 1) := by decide +kernel
theorem dX12_readMember_47 : decode cX12_readMember 47 = .ok (.getfield 13, 3) := by decide +kernel
theorem dX12_readMember_50 : decode cX12_readMember 50 = .ok (.iconst 1, 1) := by decide +kernel
theorem dX12_readMember_51 : decode cX12_readMember 51 = .ok (.iaload, 1) := by decide +kernel
theorem dX12_readMember_52 : decode cX12_readMember 52 = .ok (.iconst 1, 1) := by decide +kernel
theorem dX12_readMember_53 : decode cX12_readMember 53 = .ok (.isub, 1) := by decide +kernel
theorem dX12_readMember_54 : decode cX12_readMember 54 = .ok (.invokevirtual 213, 3) := by decide +kernel
theorem dX12_readMember_57 : decode cX12_readMember 57 = .ok (.iastore, 1) := by decide +kernel
theorem dX12_readMember_58 : decode cX12_readMember 58 = .ok (.goto (-42), 3) := by decide +kernel
theorem dX12_readMember_61 : decode cX12_readMember 61 = .ok (.aload_n 0, 1) := by decide +kernel
theorem dX12_readMember_62 : decode cX12_readMember 62 = .ok (.ldc 201, 2) := by decide +kernel
theorem dX12_readMember_64 : decode cX12_readMember 64 = .ok (.invokevirtual 151, 3) := by decide +kernel
theorem dX12_readMember_67 : decode cX12_readMember 67 = .ok (.ifCond .eq 22, 3) := by decide +kernel
theorem dX12_readMember_70 : decode cX12_readMember 70 = .ok (.aload_n 0, 1) := by decide +kernel
theorem dX12_readMember_71 : decode cX12_readMember 71 = .ok (.getfield 13, 3) := by decide +kernel
theorem dX12_readMember_74 : decode cX12_readMember 74 = .ok (.bipush 12, 2) := by decide +kernel
theorem dX12_readMember_76 : decode cX12_readMember 76 = .ok (.iload_n 1, 1) := by decide +kernel
theorem dX12_readMember_77 : decode cX12_readMember 77 = .ok (.iadd, 1) := by decide +kernel
theorem dX12_readMember_78 : decode cX12_readMember 78 = .ok (.aload_n 0, 1) := by decide +kernel
theorem dX12_readMember_79 : decode cX12_readMember 79 = .ok (.iconst 1, 1) := by decide +kernel
theorem dX12_readMember_80 : decode cX12_readMember 80 = .ok (.bipush 9, 2) := by decide +kernel
theorem dX12_readMember_82 : decode cX12_readMember 82 = .ok (.invokevirtual 213, 3) := by decide +kernel
theorem dX12_readMember_85 : decode cX12_readMember 85 = .ok (.iastore, 1) := by decide +kernel
theorem dX12_readMember_86 : decode cX12_readMember 86 = .ok (.goto (-70), 3) := by decide +kernel
theorem dX12_readMember_89 : decode cX12_readMember 89 = .ok (.aload_n 0, 1) := by decide +kernel
theorem dX12_readMember_90 : decode cX12_readMember 90 = .ok (.ldc 219, 2) := by decide +kernel
theorem dX12_readMember_92 : decode cX12_readMember 92 = .ok (.invokevirtual 151, 3) := by decide +kernel
theorem dX12_readMember_95 : decode cX12_readMember 95 = .ok (.ifCond .eq 19, 3) := by decide +kernel
theorem dX12_readMember_98 : decode cX12_readMember 98 = .ok (.aload_n 0, 1) := by decide +kernel
theorem dX12_readMember_99 : decode cX12_readMember 99 = .ok (.getfield 13, 3) := by decide +kernel
theorem dX12_readMember_102 : decode cX12_readMember 102 = .ok (.bipush 18, 2) := by decide +kernel
theorem dX12_readMember_104 : decode cX12_readMember 104 = .ok (.dup2, 1) := by decide +kernel
theorem dX12_readMember_105 : decode cX12_readMember 105 = .ok (.iaload, 1) := by decide +kernel
theorem dX12_readMember_106 : decode cX12_readMember 106 = .ok (.iconst 1, 1) := by decide +kernel
theorem dX12_readMember_107 : decode cX12_readMember 107 = .ok (.iload_n 1, 1) := by decide +kernel
theorem dX12_readMember_108 : decode cX12_readMember 108 = .ok (.ishl, 1) := by decide +kernel
theorem dX12_readMember_109 : decode cX12_readMember 109 = .ok (.ior, 1) := by decide +kernel
theorem dX12_readMember_110 : decode cX12_readMember 110 = .ok (.iastore, 1) := by decide +kernel
theorem dX12_readMember_111 : decode cX12_readMember 111 = .ok (.goto (-95), 3) := by decide +kernel
theorem dX12_readMember_114 : decode cX12_readMember 114 = .ok (.iconst 0, 1) := by decide +kernel
theorem dX12_readMember_115 : decode cX12_readMember 115 = .ok (.istore_n 2, 1) := by decide +kernel
theorem dX12_readMember_116 : decode cX12_readMember 116 = .ok (.goto (-100), 3) := by decide +kernel
theorem dX12_readMember_119 : decode cX12_readMember 119 = .ok (.return_, 1) := by decide +kernel
theorem dX12_readStop_0 : decode cX12_readStop 0 = .ok (.aload_n 0, 1) := by decide +kernel
theorem dX12_readStop_1 : decode cX12_readStop 1 = .ok (.bipush 59, 2) := by decide +kernel
theorem dX12_readStop_3 : decode cX12_readStop 3 = .ok (.invokevirtual 160, 3) := by decide +kernel
theorem dX12_readStop_6 : decode cX12_readStop 6 = .ok (.aload_n 0, 1) := by decide +kernel
theorem dX12_readStop_7 : decode cX12_readStop 7 = .ok (.getfield 121, 3) := by decide +kernel
theorem dX12_readStop_10 : decode cX12_readStop 10 = .ok (.ifCond .ne 13, 3) := by decide +kernel
theorem dX12_readStop_13 : decode cX12_readStop 13 = .ok (.aload_n 0, 1) := by decide +kernel
theorem dX12_readStop_14 : decode cX12_readStop 14 = .ok (.getfield 13, 3) := by decide +kernel
theorem dX12_readStop_17 : decode cX12_readStop 17 = .ok (.iconst 0, 1) := by decide +kernel
theorem dX12_readStop_18 : decode cX12_readStop 18 = .ok (.dup2, 1) := by decide +kernel
theorem dX12_readStop_19 : decode cX12_readStop 19 = .ok (.iaload, 1) := by decide +kernel
theorem dX12_readStop_20 : decode cX12_readStop 20 = .ok (.iconst 1, 1) := by decide +kernel
theorem dX12_readStop_21 : decode cX12_readStop 21 = .ok (.iadd, 1) := by decide +kernel
theorem dX12_readStop_22 : decode cX12_readStop 22 = .ok (.iastore, 1) := by decide +kernel
theorem dX12_readStop_23 : decode cX12_readStop 23 = .ok (.return_, 1) := by decide +kernel
theorem dX12_readLine_0 : decode cX12_readLine 0 = .ok (.aload_n 0, 1) := by decide +kernel
theorem dX12_readLine_1 : decode cX12_readLine 1 = .ok (.ldc 221, 2) := by decide +kernel
theorem dX12_readLine_3 : decode cX12_readLine 3 = .ok (.invokevirtual 151, 3) := by decide +kernel
theorem dX12_readLine_6 : decode cX12_readLine 6 = .ok (.ifCond .eq 10, 3) := by decide +kernel
theorem dX12_readLine_9 : decode cX12_readLine 9 = .ok (.aload_n 0, 1) := by decide +kernel
theorem dX12_readLine_10 : decode cX12_readLine 10 = .ok (.invokevirtual 223, 3) := by decide +kernel
theorem dX12_readLine_13 : decode cX12_readLine 13 = .ok (.goto 80, 3) := by decide +kernel
theorem dX12_readLine_16 : decode cX12_readLine 16 = .ok (.aload_n 0, 1) := by decide +kernel
theorem dX12_readLine_17 : decode cX12_readLine 17 = .ok (.ldc 226, 2) := by decide +kernel
theorem dX12_readLine_19 : decode cX12_readLine 19 = .ok (.invokevirtual 151, 3) := by decide +kernel
theorem dX12_readLine_22 : decode cX12_readLine 22 = .ok (.ifCond .eq 18, 3) := by decide +kernel
theorem dX12_readLine_25 : decode cX12_readLine 25 = .ok (.aload_n 0, 1) := by decide +kernel
theorem dX12_readLine_26 : decode cX12_readLine 26 = .ok (.iconst 2, 1) := by decide +kernel
theorem dX12_readLine_27 : decode cX12_readLine 27 = .ok (.sipush 149, 3) := by decide +kernel
theorem dX12_readLine_30 : decode cX12_readLine 30 = .ok (.invokevirtual 228, 3) := by decide +kernel
theorem dX12_readLine_33 : decode cX12_readLine 33 = .ok (.aload_n 0, 1) := by decide +kernel
theorem dX12_readLine_34 : decode cX12_readLine 34 = .ok (.invokevirtual 187, 3) := by decide +kernel
theorem dX12_readLine_37 : decode cX12_readLine 37 = .ok (.goto 56, 3) := by decide +kernel
theorem dX12_readLine_40 : decode cX12_readLine 40 = .ok (.aload_n 0, 1) := by decide +kernel
theorem dX12_readLine_41 : decode cX12_readLine 41 = .ok (.ldc 232, 2) := by decide +kernel
theorem dX12_readLine_43 : decode cX12_readLine 43 = .ok (.invokevirtual 151, 3) := by decide +kernel
theorem dX12_readLine_46 : decode cX12_readLine 46 = .ok (.ifCond .eq 18, 3) := by decide +kernel
theorem dX12_readLine_49 : decode cX12_readLine 49 = .ok (.aload_n 0, 1) := by decide +kernel
theorem dX12_readLine_50 : decode cX12_readLine 50 = .ok (.iconst 3, 1) := by decide +kernel
theorem dX12_readLine_51 : decode cX12_readLine 51 = .ok (.sipush 1049, 3) := by decide +kernel
theorem dX12_readLine_54 : decode cX12_readLine 54 = .ok (.invokevirtual 228, 3) := by decide +kernel
theorem dX12_readLine_57 : decode cX12_readLine 57 = .ok (.aload_n 0, 1) := by decide +kernel
theorem dX12_readLine_58 : decode cX12_readLine 58 = .ok (.invokevirtual 190, 3) := by decide +kernel
theorem dX12_readLine_61 : decode cX12_readLine 61 = .ok (.goto 32, 3) := by decide +kernel
theorem dX12_readLine_64 : decode cX12_readLine 64 = .ok (.aload_n 0, 1) := by decide +kernel
theorem dX12_readLine_65 : decode cX12_readLine 65 = .ok (.ldc 234, 2) := by decide +kernel
theorem dX12_readLine_67 : decode cX12_readLine 67 = .ok (.invokevirtual 151, 3) := by decide +kernel
theorem dX12_readLine_70 : decode cX12_readLine 70 = .ok (.ifCond .eq 18, 3) := by decide +kernel
theorem dX12_readLine_73 : decode cX12_readLine 73 = .ok (.aload_n 0, 1) := by decide +kernel
theorem dX12_readLine_74 : decode cX12_readLine 74 = .ok (.iconst 4, 1) := by decide +kernel
theorem dX12_readLine_75 : decode cX12_readLine 75 = .ok (.sipush 1949, 3) := by decide +kernel
theorem dX12_readLine_78 : decode cX12_readLine 78 = .ok (.invokevirtual 228, 3) := by decide +kernel
theorem dX12_readLine_81 : decode cX12_readLine 81 = .ok (.aload_n 0, 1) := by decide +kernel
theorem dX12_readLine_82 : decode cX12_readLine 82 = .ok (.invokevirtual 190, 3) := by decide +kernel
theorem dX12_readLine_85 : decode cX12_readLine 85 = .ok (.goto 8, 3) := by decide +kernel
theorem dX12_readLine_88 : decode cX12_readLine 88 = .ok (.aload_n 0, 1) := by decide +kernel
theorem dX12_readLine_89 : decode cX12_readLine 89 = .ok (.iconst 2, 1) := by decide +kernel
theorem dX12_readLine_90 : decode cX12_readLine 90 = .ok (.invokevirtual 143, 3) := by decide +kernel
theorem dX12_readLine_93 : decode cX12_readLine 93 = .ok (.aload_n 0, 1) := by decide +kernel
theorem dX12_readLine_94 : decode cX12_readLine 94 = .ok (.invokevirtual 236, 3) := by decide +kernel
theorem dX12_readLine_97 : decode cX12_readLine 97 = .ok (.return_, 1) := by decide +kernel
theorem dX12_board_0 : decode cX12_board 0 = .ok (.aload_n 0, 1) := by decide +kernel
theorem dX12_board_1 : decode cX12_board 1 = .ok (.iconst 0, 1) := by decide +kernel
theorem dX12_board_2 : decode cX12_board 2 = .ok (.putfield 86, 3) := by decide +kernel
theorem dX12_board_5 : decode cX12_board 5 = .ok (.iload_n 1, 1) := by decide +kernel
theorem dX12_board_6 : decode cX12_board 6 = .ok (.i2l, 1) := by decide +kernel
theorem dX12_board_7 : decode cX12_board 7 = .ok (.lconst 0, 1) := by decide +kernel
theorem dX12_board_8 : decode cX12_board 8 = .ok (.aload_n 0, 1) := by decide +kernel
theorem dX12_board_9 : decode cX12_board 9 = .ok (.getfield 89, 3) := by decide +kernel
theorem dX12_board_12 : decode cX12_board 12 = .ok (.i2l, 1) := by decide +kernel
theorem dX12_board_13 : decode cX12_board 13 = .ok (.invokestatic 147, 3) := by decide +kernel
theorem dX12_board_16 : decode cX12_board 16 = .ok (.ifCond .ne 9, 3) := by decide +kernel
theorem dX12_board_19 : decode cX12_board 19 = .ok (.aload_n 0, 1) := by decide +kernel
theorem dX12_board_20 : decode cX12_board 20 = .ok (.iconst 1, 1) := by decide +kernel
theorem dX12_board_21 : decode cX12_board 21 = .ok (.invokevirtual 239, 3) := by decide +kernel
theorem dX12_board_24 : decode cX12_board 24 = .ok (.ireturn, 1) := by decide +kernel
theorem dX12_board_25 : decode cX12_board 25 = .ok (.aload_n 0, 1) := by decide +kernel
theorem dX12_board_26 : decode cX12_board 26 = .ok (.iload_n 1, 1) := by decide +kernel
theorem dX12_board_27 : decode cX12_board 27 = .ok (.putfield 92, 3) := by decide +kernel
theorem dX12_board_30 : decode cX12_board 30 = .ok (.aload_n 0, 1) := by decide +kernel
theorem dX12_board_31 : decode cX12_board 31 = .ok (.iconst 0, 1) := by decide +kernel
theorem dX12_board_32 : decode cX12_board 32 = .ok (.putfield 89, 3) := by decide +kernel
theorem dX12_board_35 : decode cX12_board 35 = .ok (.aload_n 0, 1) := by decide +kernel
theorem dX12_board_36 : decode cX12_board 36 = .ok (.iconst 0, 1) := by decide +kernel
theorem dX12_board_37 : decode cX12_board 37 = .ok (.putfield 95, 3) := by decide +kernel
theorem dX12_board_40 : decode cX12_board 40 = .ok (.aload_n 0, 1) := by decide +kernel
theorem dX12_board_41 : decode cX12_board 41 = .ok (.iconst 0, 1) := by decide +kernel
theorem dX12_board_42 : decode cX12_board 42 = .ok (.putfield 121, 3) := by decide +kernel
theorem dX12_board_45 : decode cX12_board 45 = .ok (.aload_n 0, 1) := by decide +kernel
theorem dX12_board_46 : decode cX12_board 46 = .ok (.iconst 0, 1) := by decide +kernel
theorem dX12_board_47 : decode cX12_board 47 = .ok (.putfield 163, 3) := by decide +kernel
theorem dX12_board_50 : decode cX12_board 50 = .ok (.iconst 0, 1) := by decide +kernel
theorem dX12_board_51 : decode cX12_board 51 = .ok (.istore_n 2, 1) := by decide +kernel
theorem dX12_board_52 : decode cX12_board 52 = .ok (.iload_n 2, 1) := by decide +kernel
theorem dX12_board_53 : decode cX12_board 53 = .ok (.sipush 2850, 3) := by decide +kernel
theorem dX12_board_56 : decode cX12_board 56 = .ok (.if_icmp .ge 16, 3) := by decide +kernel
theorem dX12_board_59 : decode cX12_board 59 = .ok (.aload_n 0, 1) := by decide +kernel
theorem dX12_board_60 : decode cX12_board 60 = .ok (.getfield 13, 3) := by decide +kernel
theorem dX12_board_63 : decode cX12_board 63 = .ok (.iload_n 2, 1) := by decide +kernel
theorem dX12_board_64 : decode cX12_board 64 = .ok (.iconst 0, 1) := by decide +kernel
theorem dX12_board_65 : decode cX12_board 65 = .ok (.iastore, 1) := by decide +kernel
theorem dX12_board_66 : decode cX12_board 66 = .ok (.iinc 2 1, 3) := by decide +kernel
theorem dX12_board_69 : decode cX12_board 69 = .ok (.goto (-17), 3) := by decide +kernel
theorem dX12_board_72 : decode cX12_board 72 = .ok (.iconst 0, 1) := by decide +kernel
theorem dX12_board_73 : decode cX12_board 73 = .ok (.istore_n 2, 1) := by decide +kernel
theorem dX12_board_74 : decode cX12_board 74 = .ok (.iload_n 2, 1) := by decide +kernel
theorem dX12_board_75 : decode cX12_board 75 = .ok (.bipush 6, 2) := by decide +kernel
theorem dX12_board_77 : decode cX12_board 77 = .ok (.if_icmp .ge 19, 3) := by decide +kernel
theorem dX12_board_80 : decode cX12_board 80 = .ok (.aload_n 0, 1) := by decide +kernel
theorem dX12_board_81 : decode cX12_board 81 = .ok (.getfield 13, 3) := by decide +kernel
theorem dX12_board_84 : decode cX12_board 84 = .ok (.bipush 12, 2) := by decide +kernel
theorem dX12_board_86 : decode cX12_board 86 = .ok (.iload_n 2, 1) := by decide +kernel
theorem dX12_board_87 : decode cX12_board 87 = .ok (.iadd, 1) := by decide +kernel
theorem dX12_board_88 : decode cX12_board 88 = .ok (.iconst 1, 1) := by decide +kernel
theorem dX12_board_89 : decode cX12_board 89 = .ok (.iastore, 1) := by decide +kernel
theorem dX12_board_90 : decode cX12_board 90 = .ok (.iinc 2 1, 3) := by decide +kernel
theorem dX12_board_93 : decode cX12_board 93 = .ok (.goto (-19), 3) := by decide +kernel
theorem dX12_board_96 : decode cX12_board 96 = .ok (.aload_n 0, 1) := by decide +kernel
theorem dX12_board_97 : decode cX12_board 97 = .ok (.invokevirtual 140, 3) := by decide +kernel
theorem dX12_board_100 : decode cX12_board 100 = .ok (.aload_n 0, 1) := by decide +kernel
theorem dX12_board_101 : decode cX12_board 101 = .ok (.ldc 242, 2) := by decide +kernel
theorem dX12_board_103 : decode cX12_board 103 = .ok (.invokevirtual 244, 3) := by decide +kernel
theorem dX12_board_106 : decode cX12_board 106 = .ok (.aload_n 0, 1) := by decide +kernel
theorem dX12_board_107 : decode cX12_board 107 = .ok (.getfield 13, 3) := by decide +kernel
theorem dX12_board_110 : decode cX12_board 110 = .ok (.iconst 1, 1) := by decide +kernel
theorem dX12_board_111 : decode cX12_board 111 = .ok (.aload_n 0, 1) := by decide +kernel
theorem dX12_board_112 : decode cX12_board 112 = .ok (.iconst 2, 1) := by decide +kernel
theorem dX12_board_113 : decode cX12_board 113 = .ok (.bipush 6, 2) := by decide +kernel
theorem dX12_board_115 : decode cX12_board 115 = .ok (.invokevirtual 213, 3) := by decide +kernel
theorem dX12_board_118 : decode cX12_board 118 = .ok (.iastore, 1) := by decide +kernel
theorem dX12_board_119 : decode cX12_board 119 = .ok (.aload_n 0, 1) := by decide +kernel
theorem dX12_board_120 : decode cX12_board 120 = .ok (.invokevirtual 236, 3) := by decide +kernel
theorem dX12_board_123 : decode cX12_board 123 = .ok (.aload_n 0, 1) := by decide +kernel
theorem dX12_board_124 : decode cX12_board 124 = .ok (.getfield 121, 3) := by decide +kernel
theorem dX12_board_127 : decode cX12_board 127 = .ok (.ifCond .ne 17, 3) := by decide +kernel
theorem dX12_board_130 : decode cX12_board 130 = .ok (.aload_n 0, 1) := by decide +kernel
theorem dX12_board_131 : decode cX12_board 131 = .ok (.getfield 101, 3) := by decide +kernel
theorem dX12_board_134 : decode cX12_board 134 = .ok (.ifCond .eq 10, 3) := by decide +kernel
theorem dX12_board_137 : decode cX12_board 137 = .ok (.aload_n 0, 1) := by decide +kernel
theorem dX12_board_138 : decode cX12_board 138 = .ok (.invokevirtual 248, 3) := by decide +kernel
theorem dX12_board_141 : decode cX12_board 141 = .ok (.goto (-18), 3) := by decide +kernel
theorem dX12_board_144 : decode cX12_board 144 = .ok (.aload_n 0, 1) := by decide +kernel
theorem dX12_board_145 : decode cX12_board 145 = .ok (.aload_n 0, 1) := by decide +kernel
theorem dX12_board_146 : decode cX12_board 146 = .ok (.getfield 121, 3) := by decide +kernel
theorem dX12_board_149 : decode cX12_board 149 = .ok (.putfield 251, 3) := by decide +kernel
theorem dX12_board_152 : decode cX12_board 152 = .ok (.aload_n 0, 1) := by decide +kernel
theorem dX12_board_153 : decode cX12_board 153 = .ok (.aload_n 0, 1) := by decide +kernel
theorem dX12_board_154 : decode cX12_board 154 = .ok (.getfield 121, 3) := by decide +kernel
theorem dX12_board_157 : decode cX12_board 157 = .ok (.ifCond .ne 7, 3) := by decide +kernel
theorem dX12_board_160 : decode cX12_board 160 = .ok (.iconst (-1), 1) := by decide +kernel
theorem dX12_board_161 : decode cX12_board 161 = .ok (.goto 7, 3) := by decide +kernel
theorem dX12_board_164 : decode cX12_board 164 = .ok (.aload_n 0, 1) := by decide +kernel
theorem dX12_board_165 : decode cX12_board 165 = .ok (.getfield 124, 3) := by decide +kernel
theorem dX12_board_168 : decode cX12_board 168 = .ok (.putfield 26, 3) := by decide +kernel
theorem dX12_board_171 : decode cX12_board 171 = .ok (.aload_n 0, 1) := by decide +kernel
theorem dX12_board_172 : decode cX12_board 172 = .ok (.getfield 121, 3) := by decide +kernel
theorem dX12_board_175 : decode cX12_board 175 = .ok (.ifCond .eq 11, 3) := by decide +kernel
theorem dX12_board_178 : decode cX12_board 178 = .ok (.bipush (-10), 2) := by decide +kernel
theorem dX12_board_180 : decode cX12_board 180 = .ok (.aload_n 0, 1) := by decide +kernel
theorem dX12_board_181 : decode cX12_board 181 = .ok (.getfield 121, 3) := by decide +kernel
theorem dX12_board_184 : decode cX12_board 184 = .ok (.isub, 1) := by decide +kernel
theorem dX12_board_185 : decode cX12_board 185 = .ok (.ireturn, 1) := by decide +kernel
theorem dX12_board_186 : decode cX12_board 186 = .ok (.iconst 0, 1) := by decide +kernel
theorem dX12_board_187 : decode cX12_board 187 = .ok (.istore_n 2, 1) := by decide +kernel
theorem dX12_board_188 : decode cX12_board 188 = .ok (.iload_n 2, 1) := by decide +kernel
theorem dX12_board_189 : decode cX12_board 189 = .ok (.sipush 2850, 3) := by decide +kernel
theorem dX12_board_192 : decode cX12_board 192 = .ok (.if_icmp .ge 21, 3) := by decide +kernel
theorem dX12_board_195 : decode cX12_board 195 = .ok (.aload_n 0, 1) := by decide +kernel
theorem dX12_board_196 : decode cX12_board 196 = .ok (.getfield 9, 3) := by decide +kernel
theorem dX12_board_199 : decode cX12_board 199 = .ok (.iload_n 2, 1) := by decide +kernel
theorem dX12_board_200 : decode cX12_board 200 = .ok (.aload_n 0, 1) := by decide +kernel
theorem dX12_board_201 : decode cX12_board 201 = .ok (.getfield 13, 3) := by decide +kernel
theorem dX12_board_204 : decode cX12_board 204 = .ok (.iload_n 2, 1) := by decide +kernel
theorem dX12_board_205 : decode cX12_board 205 = .ok (.iaload, 1) := by decide +kernel
theorem dX12_board_206 : decode cX12_board 206 = .ok (.iastore, 1) := by decide +kernel
theorem dX12_board_207 : decode cX12_board 207 = .ok (.iinc 2 1, 3) := by decide +kernel
theorem dX12_board_210 : decode cX12_board 210 = .ok (.goto (-22), 3) := by decide +kernel
theorem dX12_board_213 : decode cX12_board 213 = .ok (.aload_n 0, 1) := by decide +kernel
theorem dX12_board_214 : decode cX12_board 214 = .ok (.getfield 9, 3) := by decide +kernel
theorem dX12_board_217 : decode cX12_board 217 = .ok (.iconst 0, 1) := by decide +kernel
theorem dX12_board_218 : decode cX12_board 218 = .ok (.iaload, 1) := by decide +kernel
theorem dX12_board_219 : decode cX12_board 219 = .ok (.ireturn, 1) := by decide +kernel
theorem dX12_fault_0 : decode cX12_fault 0 = .ok (.aload_n 0, 1) := by decide +kernel
theorem dX12_fault_1 : decode cX12_fault 1 = .ok (.iconst 0, 1) := by decide +kernel
theorem dX12_fault_2 : decode cX12_fault 2 = .ok (.putfield 86, 3) := by decide +kernel
theorem dX12_fault_5 : decode cX12_fault 5 = .ok (.iload_n 1, 1) := by decide +kernel
theorem dX12_fault_6 : decode cX12_fault 6 = .ok (.ifCond .ne 10, 3) := by decide +kernel
theorem dX12_fault_9 : decode cX12_fault 9 = .ok (.aload_n 0, 1) := by decide +kernel
theorem dX12_fault_10 : decode cX12_fault 10 = .ok (.getfield 251, 3) := by decide +kernel
theorem dX12_fault_13 : decode cX12_fault 13 = .ok (.goto 16, 3) := by decide +kernel
theorem dX12_fault_16 : decode cX12_fault 16 = .ok (.iload_n 1, 1) := by decide +kernel
theorem dX12_fault_17 : decode cX12_fault 17 = .ok (.iconst 1, 1) := by decide +kernel
theorem dX12_fault_18 : decode cX12_fault 18 = .ok (.if_icmp .ne 10, 3) := by decide +kernel
theorem dX12_fault_21 : decode cX12_fault 21 = .ok (.aload_n 0, 1) := by decide +kernel
theorem dX12_fault_22 : decode cX12_fault 22 = .ok (.getfield 26, 3) := by decide +kernel
theorem dX12_fault_25 : decode cX12_fault 25 = .ok (.goto 4, 3) := by decide +kernel
theorem dX12_fault_28 : decode cX12_fault 28 = .ok (.iconst (-1), 1) := by decide +kernel
theorem dX12_fault_29 : decode cX12_fault 29 = .ok (.ireturn, 1) := by decide +kernel
theorem dX12_size_0 : decode cX12_size 0 = .ok (.aload_n 0, 1) := by decide +kernel
theorem dX12_size_1 : decode cX12_size 1 = .ok (.getfield 9, 3) := by decide +kernel
theorem dX12_size_4 : decode cX12_size 4 = .ok (.iconst 1, 1) := by decide +kernel
theorem dX12_size_5 : decode cX12_size 5 = .ok (.iaload, 1) := by decide +kernel
theorem dX12_size_6 : decode cX12_size 6 = .ok (.ireturn, 1) := by decide +kernel
theorem dX12_isMember_0 : decode cX12_isMember 0 = .ok (.lload_n 1, 1) := by decide +kernel
theorem dX12_isMember_1 : decode cX12_isMember 1 = .ok (.lconst 0, 1) := by decide +kernel
theorem dX12_isMember_2 : decode cX12_isMember 2 = .ok (.aload_n 0, 1) := by decide +kernel
theorem dX12_isMember_3 : decode cX12_isMember 3 = .ok (.invokevirtual 254, 3) := by decide +kernel
theorem dX12_isMember_6 : decode cX12_isMember 6 = .ok (.iconst 1, 1) := by decide +kernel
theorem dX12_isMember_7 : decode cX12_isMember 7 = .ok (.isub, 1) := by decide +kernel
theorem dX12_isMember_8 : decode cX12_isMember 8 = .ok (.i2l, 1) := by decide +kernel
theorem dX12_isMember_9 : decode cX12_isMember 9 = .ok (.invokestatic 147, 3) := by decide +kernel
theorem dX12_isMember_12 : decode cX12_isMember 12 = .ok (.ireturn, 1) := by decide +kernel
theorem dX12_isStuck_0 : decode cX12_isStuck 0 = .ok (.aload_n 0, 1) := by decide +kernel
theorem dX12_isStuck_1 : decode cX12_isStuck 1 = .ok (.getfield 9, 3) := by decide +kernel
theorem dX12_isStuck_4 : decode cX12_isStuck 4 = .ok (.bipush 18, 2) := by decide +kernel
theorem dX12_isStuck_6 : decode cX12_isStuck 6 = .ok (.iaload, 1) := by decide +kernel
theorem dX12_isStuck_7 : decode cX12_isStuck 7 = .ok (.iload_n 1, 1) := by decide +kernel
theorem dX12_isStuck_8 : decode cX12_isStuck 8 = .ok (.invokestatic 257, 3) := by decide +kernel
theorem dX12_isStuck_11 : decode cX12_isStuck 11 = .ok (.ireturn, 1) := by decide +kernel
theorem dX12_bound_0 : decode cX12_bound 0 = .ok (.ldc2_w 261, 3) := by decide +kernel
theorem dX12_bound_3 : decode cX12_bound 3 = .ok (.ldc2_w 263, 3) := by decide +kernel
theorem dX12_bound_6 : decode cX12_bound 6 = .ok (.lload_n 0, 1) := by decide +kernel
theorem dX12_bound_7 : decode cX12_bound 7 = .ok (.invokestatic 265, 3) := by decide +kernel
theorem dX12_bound_10 : decode cX12_bound 10 = .ok (.invokestatic 271, 3) := by decide +kernel
theorem dX12_bound_13 : decode cX12_bound 13 = .ok (.l2i, 1) := by decide +kernel
theorem dX12_bound_14 : decode cX12_bound 14 = .ok (.ireturn, 1) := by decide +kernel
theorem dX12_done_0 : decode cX12_done 0 = .ok (.iload_n 0, 1) := by decide +kernel
theorem dX12_done_1 : decode cX12_done 1 = .ok (.tableswitch 114 10 16 #[43, 50, 57, 64, 76, 88, 100], 43) := by decide +kernel
theorem dX12_done_44 : decode cX12_done 44 = .ok (.lload_n 1, 1) := by decide +kernel
theorem dX12_done_45 : decode cX12_done 45 = .ok (.lload_n 3, 1) := by decide +kernel
theorem dX12_done_46 : decode cX12_done 46 = .ok (.ladd, 1) := by decide +kernel
theorem dX12_done_47 : decode cX12_done 47 = .ok (.invokestatic 274, 3) := by decide +kernel
theorem dX12_done_50 : decode cX12_done 50 = .ok (.ireturn, 1) := by decide +kernel
theorem dX12_done_51 : decode cX12_done 51 = .ok (.lload_n 1, 1) := by decide +kernel
theorem dX12_done_52 : decode cX12_done 52 = .ok (.lload_n 3, 1) := by decide +kernel
theorem dX12_done_53 : decode cX12_done 53 = .ok (.lsub, 1) := by decide +kernel
theorem dX12_done_54 : decode cX12_done 54 = .ok (.invokestatic 274, 3) := by decide +kernel
theorem dX12_done_57 : decode cX12_done 57 = .ok (.ireturn, 1) := by decide +kernel
theorem dX12_done_58 : decode cX12_done 58 = .ok (.lload_n 1, 1) := by decide +kernel
theorem dX12_done_59 : decode cX12_done 59 = .ok (.lload_n 3, 1) := by decide +kernel
theorem dX12_done_60 : decode cX12_done 60 = .ok (.lmul, 1) := by decide +kernel
theorem dX12_done_61 : decode cX12_done 61 = .ok (.invokestatic 274, 3) := by decide +kernel
theorem dX12_done_64 : decode cX12_done 64 = .ok (.ireturn, 1) := by decide +kernel
theorem dX12_done_65 : decode cX12_done 65 = .ok (.lload_n 1, 1) := by decide +kernel
theorem dX12_done_66 : decode cX12_done 66 = .ok (.lload_n 3, 1) := by decide +kernel
theorem dX12_done_67 : decode cX12_done 67 = .ok (.lcmp, 1) := by decide +kernel
theorem dX12_done_68 : decode cX12_done 68 = .ok (.ifCond .ne 7, 3) := by decide +kernel
theorem dX12_done_71 : decode cX12_done 71 = .ok (.iconst 1, 1) := by decide +kernel
theorem dX12_done_72 : decode cX12_done 72 = .ok (.goto 4, 3) := by decide +kernel
theorem dX12_done_75 : decode cX12_done 75 = .ok (.iconst 0, 1) := by decide +kernel
theorem dX12_done_76 : decode cX12_done 76 = .ok (.ireturn, 1) := by decide +kernel
theorem dX12_done_77 : decode cX12_done 77 = .ok (.lload_n 1, 1) := by decide +kernel
theorem dX12_done_78 : decode cX12_done 78 = .ok (.lload_n 3, 1) := by decide +kernel
theorem dX12_done_79 : decode cX12_done 79 = .ok (.lcmp, 1) := by decide +kernel
theorem dX12_done_80 : decode cX12_done 80 = .ok (.ifCond .ge 7, 3) := by decide +kernel
theorem dX12_done_83 : decode cX12_done 83 = .ok (.iconst 1, 1) := by decide +kernel
theorem dX12_done_84 : decode cX12_done 84 = .ok (.goto 4, 3) := by decide +kernel
theorem dX12_done_87 : decode cX12_done 87 = .ok (.iconst 0, 1) := by decide +kernel
theorem dX12_done_88 : decode cX12_done 88 = .ok (.ireturn, 1) := by decide +kernel
theorem dX12_done_89 : decode cX12_done 89 = .ok (.lload_n 1, 1) := by decide +kernel
theorem dX12_done_90 : decode cX12_done 90 = .ok (.lload_n 3, 1) := by decide +kernel
theorem dX12_done_91 : decode cX12_done 91 = .ok (.lcmp, 1) := by decide +kernel
theorem dX12_done_92 : decode cX12_done 92 = .ok (.ifCond .le 7, 3) := by decide +kernel
theorem dX12_done_95 : decode cX12_done 95 = .ok (.iconst 1, 1) := by decide +kernel
theorem dX12_done_96 : decode cX12_done 96 = .ok (.goto 4, 3) := by decide +kernel
theorem dX12_done_99 : decode cX12_done 99 = .ok (.iconst 0, 1) := by decide +kernel
theorem dX12_done_100 : decode cX12_done 100 = .ok (.ireturn, 1) := by decide +kernel
theorem dX12_done_101 : decode cX12_done 101 = .ok (.lload_n 1, 1) := by decide +kernel
theorem dX12_done_102 : decode cX12_done 102 = .ok (.lload_n 3, 1) := by decide +kernel
theorem dX12_done_103 : decode cX12_done 103 = .ok (.ladd, 1) := by decide +kernel
theorem dX12_done_104 : decode cX12_done 104 = .ok (.lconst 1, 1) := by decide +kernel
theorem dX12_done_105 : decode cX12_done 105 = .ok (.lcmp, 1) := by decide +kernel
theorem dX12_done_106 : decode cX12_done 106 = .ok (.ifCond .le 7, 3) := by decide +kernel
theorem dX12_done_109 : decode cX12_done 109 = .ok (.iconst 1, 1) := by decide +kernel
theorem dX12_done_110 : decode cX12_done 110 = .ok (.goto 4, 3) := by decide +kernel
theorem dX12_done_113 : decode cX12_done 113 = .ok (.iconst 0, 1) := by decide +kernel
theorem dX12_done_114 : decode cX12_done 114 = .ok (.ireturn, 1) := by decide +kernel
theorem dX12_done_115 : decode cX12_done 115 = .ok (.lload_n 1, 1) := by decide +kernel
theorem dX12_done_116 : decode cX12_done 116 = .ok (.lload_n 3, 1) := by decide +kernel
theorem dX12_done_117 : decode cX12_done 117 = .ok (.ladd, 1) := by decide +kernel
theorem dX12_done_118 : decode cX12_done 118 = .ok (.lconst 0, 1) := by decide +kernel
theorem dX12_done_119 : decode cX12_done 119 = .ok (.lcmp, 1) := by decide +kernel
theorem dX12_done_120 : decode cX12_done 120 = .ok (.ifCond .le 7, 3) := by decide +kernel
theorem dX12_done_123 : decode cX12_done 123 = .ok (.iconst 1, 1) := by decide +kernel
theorem dX12_done_124 : decode cX12_done 124 = .ok (.goto 4, 3) := by decide +kernel
theorem dX12_done_127 : decode cX12_done 127 = .ok (.iconst 0, 1) := by decide +kernel
theorem dX12_done_128 : decode cX12_done 128 = .ok (.ireturn, 1) := by decide +kernel
theorem dX12_lawOf_0 : decode cX12_lawOf 0 = .ok (.iconst 0, 1) := by decide +kernel
theorem dX12_lawOf_1 : decode cX12_lawOf 1 = .ok (.istore_n 3, 1) := by decide +kernel
theorem dX12_lawOf_2 : decode cX12_lawOf 2 = .ok (.iconst 0, 1) := by decide +kernel
theorem dX12_lawOf_3 : decode cX12_lawOf 3 = .ok (.istore 4, 2) := by decide +kernel
theorem dX12_lawOf_5 : decode cX12_lawOf 5 = .ok (.iload 4, 2) := by decide +kernel
theorem dX12_lawOf_7 : decode cX12_lawOf 7 = .ok (.aload_n 0, 1) := by decide +kernel
theorem dX12_lawOf_8 : decode cX12_lawOf 8 = .ok (.getfield 9, 3) := by decide +kernel
theorem dX12_lawOf_11 : decode cX12_lawOf 11 = .ok (.iload_n 1, 1) := by decide +kernel
theorem dX12_lawOf_12 : decode cX12_lawOf 12 = .ok (.iaload, 1) := by decide +kernel
theorem dX12_lawOf_13 : decode cX12_lawOf 13 = .ok (.if_icmp .ge 126, 3) := by decide +kernel
theorem dX12_lawOf_16 : decode cX12_lawOf 16 = .ok (.aload_n 0, 1) := by decide +kernel
theorem dX12_lawOf_17 : decode cX12_lawOf 17 = .ok (.getfield 9, 3) := by decide +kernel
theorem dX12_lawOf_20 : decode cX12_lawOf 20 = .ok (.iload_n 2, 1) := by decide +kernel
theorem dX12_lawOf_21 : decode cX12_lawOf 21 = .ok (.iload 4, 2) := by decide +kernel
theorem dX12_lawOf_23 : decode cX12_lawOf 23 = .ok (.iadd, 1) := by decide +kernel
theorem dX12_lawOf_24 : decode cX12_lawOf 24 = .ok (.iaload, 1) := by decide +kernel
theorem dX12_lawOf_25 : decode cX12_lawOf 25 = .ok (.istore 5, 2) := by decide +kernel
theorem dX12_lawOf_27 : decode cX12_lawOf 27 = .ok (.iload 5, 2) := by decide +kernel
theorem dX12_lawOf_29 : decode cX12_lawOf 29 = .ok (.bipush 100, 2) := by decide +kernel
theorem dX12_lawOf_31 : decode cX12_lawOf 31 = .ok (.if_icmp .lt 42, 3) := by decide +kernel
theorem dX12_lawOf_34 : decode cX12_lawOf 34 = .ok (.aload_n 0, 1) := by decide +kernel
theorem dX12_lawOf_35 : decode cX12_lawOf 35 = .ok (.getfield 30, 3) := by decide +kernel
theorem dX12_lawOf_38 : decode cX12_lawOf 38 = .ok (.iload_n 3, 1) := by decide +kernel
theorem dX12_lawOf_39 : decode cX12_lawOf 39 = .ok (.iload 5, 2) := by decide +kernel
theorem dX12_lawOf_41 : decode cX12_lawOf 41 = .ok (.sipush 1000, 3) := by decide +kernel
theorem dX12_lawOf_44 : decode cX12_lawOf 44 = .ok (.if_icmp .lt 12, 3) := by decide +kernel
theorem dX12_lawOf_47 : decode cX12_lawOf 47 = .ok (.iload 5, 2) := by decide +kernel
theorem dX12_lawOf_49 : decode cX12_lawOf 49 = .ok (.sipush 1000, 3) := by decide +kernel
theorem dX12_lawOf_52 : decode cX12_lawOf 52 = .ok (.isub, 1) := by decide +kernel
theorem dX12_lawOf_53 : decode cX12_lawOf 53 = .ok (.goto 13, 3) := by decide +kernel
theorem dX12_lawOf_56 : decode cX12_lawOf 56 = .ok (.aload_n 0, 1) := by decide +kernel
theorem dX12_lawOf_57 : decode cX12_lawOf 57 = .ok (.getfield 33, 3) := by decide +kernel
theorem dX12_lawOf_60 : decode cX12_lawOf 60 = .ok (.iload 5, 2) := by decide +kernel
theorem dX12_lawOf_62 : decode cX12_lawOf 62 = .ok (.bipush 100, 2) := by decide +kernel
theorem dX12_lawOf_64 : decode cX12_lawOf 64 = .ok (.isub, 1) := by decide +kernel
theorem dX12_lawOf_65 : decode cX12_lawOf 65 = .ok (.iaload, 1) := by decide +kernel
theorem dX12_lawOf_66 : decode cX12_lawOf 66 = .ok (.iastore, 1) := by decide +kernel
theorem dX12_lawOf_67 : decode cX12_lawOf 67 = .ok (.iinc 3 1, 3) := by decide +kernel
theorem dX12_lawOf_70 : decode cX12_lawOf 70 = .ok (.goto 63, 3) := by decide +kernel
theorem dX12_lawOf_73 : decode cX12_lawOf 73 = .ok (.iload 5, 2) := by decide +kernel
theorem dX12_lawOf_75 : decode cX12_lawOf 75 = .ok (.bipush 18, 2) := by decide +kernel
theorem dX12_lawOf_77 : decode cX12_lawOf 77 = .ok (.if_icmp .ne 24, 3) := by decide +kernel
theorem dX12_lawOf_80 : decode cX12_lawOf 80 = .ok (.aload_n 0, 1) := by decide +kernel
theorem dX12_lawOf_81 : decode cX12_lawOf 81 = .ok (.getfield 30, 3) := by decide +kernel
theorem dX12_lawOf_84 : decode cX12_lawOf 84 = .ok (.iload_n 3, 1) := by decide +kernel
theorem dX12_lawOf_85 : decode cX12_lawOf 85 = .ok (.iconst 1, 1) := by decide +kernel
theorem dX12_lawOf_86 : decode cX12_lawOf 86 = .ok (.isub, 1) := by decide +kernel
theorem dX12_lawOf_87 : decode cX12_lawOf 87 = .ok (.iconst 1, 1) := by decide +kernel
theorem dX12_lawOf_88 : decode cX12_lawOf 88 = .ok (.aload_n 0, 1) := by decide +kernel
theorem dX12_lawOf_89 : decode cX12_lawOf 89 = .ok (.getfield 30, 3) := by decide +kernel
theorem dX12_lawOf_92 : decode cX12_lawOf 92 = .ok (.iload_n 3, 1) := by decide +kernel
theorem dX12_lawOf_93 : decode cX12_lawOf 93 = .ok (.iconst 1, 1) := by decide +kernel
theorem dX12_lawOf_94 : decode cX12_lawOf 94 = .ok (.isub, 1) := by decide +kernel
theorem dX12_lawOf_95 : decode cX12_lawOf 95 = .ok (.iaload, 1) := by decide +kernel
theorem dX12_lawOf_96 : decode cX12_lawOf 96 = .ok (.isub, 1) := by decide +kernel
theorem dX12_lawOf_97 : decode cX12_lawOf 97 = .ok (.iastore, 1) := by decide +kernel
theorem dX12_lawOf_98 : decode cX12_lawOf 98 = .ok (.goto 35, 3) := by decide +kernel
theorem dX12_lawOf_101 : decode cX12_lawOf 101 = .ok (.iinc 3 (-1), 3) := by decide +kernel
theorem dX12_lawOf_104 : decode cX12_lawOf 104 = .ok (.aload_n 0, 1) := by decide +kernel
theorem dX12_lawOf_105 : decode cX12_lawOf 105 = .ok (.getfield 30, 3) := by decide +kernel
theorem dX12_lawOf_108 : decode cX12_lawOf 108 = .ok (.iload_n 3, 1) := by decide +kernel
theorem dX12_lawOf_109 : decode cX12_lawOf 109 = .ok (.iconst 1, 1) := by decide +kernel
theorem dX12_lawOf_110 : decode cX12_lawOf 110 = .ok (.isub, 1) := by decide +kernel
theorem dX12_lawOf_111 : decode cX12_lawOf 111 = .ok (.iload 5, 2) := by decide +kernel
theorem dX12_lawOf_113 : decode cX12_lawOf 113 = .ok (.aload_n 0, 1) := by decide +kernel
theorem dX12_lawOf_114 : decode cX12_lawOf 114 = .ok (.getfield 30, 3) := by decide +kernel
theorem dX12_lawOf_117 : decode cX12_lawOf 117 = .ok (.iload_n 3, 1) := by decide +kernel
theorem dX12_lawOf_118 : decode cX12_lawOf 118 = .ok (.iconst 1, 1) := by decide +kernel
theorem dX12_lawOf_119 : decode cX12_lawOf 119 = .ok (.isub, 1) := by decide +kernel
theorem dX12_lawOf_120 : decode cX12_lawOf 120 = .ok (.iaload, 1) := by decide +kernel
theorem dX12_lawOf_121 : decode cX12_lawOf 121 = .ok (.i2l, 1) := by decide +kernel
theorem dX12_lawOf_122 : decode cX12_lawOf 122 = .ok (.aload_n 0, 1) := by decide +kernel
theorem dX12_lawOf_123 : decode cX12_lawOf 123 = .ok (.getfield 30, 3) := by decide +kernel
theorem dX12_lawOf_126 : decode cX12_lawOf 126 = .ok (.iload_n 3, 1) := by decide +kernel
theorem dX12_lawOf_127 : decode cX12_lawOf 127 = .ok (.iaload, 1) := by decide +kernel
theorem dX12_lawOf_128 : decode cX12_lawOf 128 = .ok (.i2l, 1) := by decide +kernel
theorem dX12_lawOf_129 : decode cX12_lawOf 129 = .ok (.invokestatic 278, 3) := by decide +kernel
theorem dX12_lawOf_132 : decode cX12_lawOf 132 = .ok (.iastore, 1) := by decide +kernel
theorem dX12_lawOf_133 : decode cX12_lawOf 133 = .ok (.iinc 4 1, 3) := by decide +kernel
theorem dX12_lawOf_136 : decode cX12_lawOf 136 = .ok (.goto (-131), 3) := by decide +kernel
theorem dX12_lawOf_139 : decode cX12_lawOf 139 = .ok (.aload_n 0, 1) := by decide +kernel
theorem dX12_lawOf_140 : decode cX12_lawOf 140 = .ok (.getfield 30, 3) := by decide +kernel
theorem dX12_lawOf_143 : decode cX12_lawOf 143 = .ok (.iconst 0, 1) := by decide +kernel
theorem dX12_lawOf_144 : decode cX12_lawOf 144 = .ok (.iaload, 1) := by decide +kernel
theorem dX12_lawOf_145 : decode cX12_lawOf 145 = .ok (.ireturn, 1) := by decide +kernel
theorem dX12_asks_0 : decode cX12_asks 0 = .ok (.aload_n 0, 1) := by decide +kernel
theorem dX12_asks_1 : decode cX12_asks 1 = .ok (.getfield 33, 3) := by decide +kernel
theorem dX12_asks_4 : decode cX12_asks 4 = .ok (.iconst 0, 1) := by decide +kernel
theorem dX12_asks_5 : decode cX12_asks 5 = .ok (.iload_n 1, 1) := by decide +kernel
theorem dX12_asks_6 : decode cX12_asks 6 = .ok (.iastore, 1) := by decide +kernel
theorem dX12_asks_7 : decode cX12_asks 7 = .ok (.aload_n 0, 1) := by decide +kernel
theorem dX12_asks_8 : decode cX12_asks 8 = .ok (.getfield 33, 3) := by decide +kernel
theorem dX12_asks_11 : decode cX12_asks 11 = .ok (.iconst 1, 1) := by decide +kernel
theorem dX12_asks_12 : decode cX12_asks 12 = .ok (.aload_n 0, 1) := by decide +kernel
theorem dX12_asks_13 : decode cX12_asks 13 = .ok (.getfield 9, 3) := by decide +kernel
theorem dX12_asks_16 : decode cX12_asks 16 = .ok (.bipush 12, 2) := by decide +kernel
theorem dX12_asks_18 : decode cX12_asks 18 = .ok (.iload_n 1, 1) := by decide +kernel
theorem dX12_asks_19 : decode cX12_asks 19 = .ok (.iadd, 1) := by decide +kernel
theorem dX12_asks_20 : decode cX12_asks 20 = .ok (.iaload, 1) := by decide +kernel
theorem dX12_asks_21 : decode cX12_asks 21 = .ok (.iastore, 1) := by decide +kernel
theorem dX12_asks_22 : decode cX12_asks 22 = .ok (.aload_n 0, 1) := by decide +kernel
theorem dX12_asks_23 : decode cX12_asks 23 = .ok (.getfield 33, 3) := by decide +kernel
theorem dX12_asks_26 : decode cX12_asks 26 = .ok (.iconst 2, 1) := by decide +kernel
theorem dX12_asks_27 : decode cX12_asks 27 = .ok (.iload_n 2, 1) := by decide +kernel
theorem dX12_asks_28 : decode cX12_asks 28 = .ok (.iastore, 1) := by decide +kernel
theorem dX12_asks_29 : decode cX12_asks 29 = .ok (.aload_n 0, 1) := by decide +kernel
theorem dX12_asks_30 : decode cX12_asks 30 = .ok (.getfield 33, 3) := by decide +kernel
theorem dX12_asks_33 : decode cX12_asks 33 = .ok (.iconst 3, 1) := by decide +kernel
theorem dX12_asks_34 : decode cX12_asks 34 = .ok (.iload_n 3, 1) := by decide +kernel
theorem dX12_asks_35 : decode cX12_asks 35 = .ok (.iastore, 1) := by decide +kernel
theorem dX12_asks_36 : decode cX12_asks 36 = .ok (.return_, 1) := by decide +kernel
theorem dX12_apart_0 : decode cX12_apart 0 = .ok (.iload_n 1, 1) := by decide +kernel
theorem dX12_apart_1 : decode cX12_apart 1 = .ok (.iload_n 2, 1) := by decide +kernel
theorem dX12_apart_2 : decode cX12_apart 2 = .ok (.isub, 1) := by decide +kernel
theorem dX12_apart_3 : decode cX12_apart 3 = .ok (.invokestatic 282, 3) := by decide +kernel
theorem dX12_apart_6 : decode cX12_apart 6 = .ok (.istore_n 3, 1) := by decide +kernel
theorem dX12_apart_7 : decode cX12_apart 7 = .ok (.iload_n 3, 1) := by decide +kernel
theorem dX12_apart_8 : decode cX12_apart 8 = .ok (.aload_n 0, 1) := by decide +kernel
theorem dX12_apart_9 : decode cX12_apart 9 = .ok (.invokevirtual 254, 3) := by decide +kernel
theorem dX12_apart_12 : decode cX12_apart 12 = .ok (.iload_n 3, 1) := by decide +kernel
theorem dX12_apart_13 : decode cX12_apart 13 = .ok (.isub, 1) := by decide +kernel
theorem dX12_apart_14 : decode cX12_apart 14 = .ok (.invokestatic 285, 3) := by decide +kernel
theorem dX12_apart_17 : decode cX12_apart 17 = .ok (.ireturn, 1) := by decide +kernel
theorem dX12_goesAlong_0 : decode cX12_goesAlong 0 = .ok (.aload_n 0, 1) := by decide +kernel
theorem dX12_goesAlong_1 : decode cX12_goesAlong 1 = .ok (.iload_n 1, 1) := by decide +kernel
theorem dX12_goesAlong_2 : decode cX12_goesAlong 2 = .ok (.invokevirtual 287, 3) := by decide +kernel
theorem dX12_goesAlong_5 : decode cX12_goesAlong 5 = .ok (.ifCond .ne 11, 3) := by decide +kernel
theorem dX12_goesAlong_8 : decode cX12_goesAlong 8 = .ok (.aload_n 0, 1) := by decide +kernel
theorem dX12_goesAlong_9 : decode cX12_goesAlong 9 = .ok (.iload_n 2, 1) := by decide +kernel
theorem dX12_goesAlong_10 : decode cX12_goesAlong 10 = .ok (.invokevirtual 287, 3) := by decide +kernel
theorem dX12_goesAlong_13 : decode cX12_goesAlong 13 = .ok (.ifCond .eq 5, 3) := by decide +kernel
theorem dX12_goesAlong_16 : decode cX12_goesAlong 16 = .ok (.iconst 0, 1) := by decide +kernel
theorem dX12_goesAlong_17 : decode cX12_goesAlong 17 = .ok (.ireturn, 1) := by decide +kernel
theorem dX12_goesAlong_18 : decode cX12_goesAlong 18 = .ok (.iload_n 1, 1) := by decide +kernel
theorem dX12_goesAlong_19 : decode cX12_goesAlong 19 = .ok (.iload_n 2, 1) := by decide +kernel
theorem dX12_goesAlong_20 : decode cX12_goesAlong 20 = .ok (.if_icmp .ne 5, 3) := by decide +kernel
theorem dX12_goesAlong_23 : decode cX12_goesAlong 23 = .ok (.iconst 1, 1) := by decide +kernel
theorem dX12_goesAlong_24 : decode cX12_goesAlong 24 = .ok (.ireturn, 1) := by decide +kernel
theorem dX12_goesAlong_25 : decode cX12_goesAlong 25 = .ok (.aload_n 0, 1) := by decide +kernel
theorem dX12_goesAlong_26 : decode cX12_goesAlong 26 = .ok (.getfield 9, 3) := by decide +kernel
theorem dX12_goesAlong_29 : decode cX12_goesAlong 29 = .ok (.iconst 2, 1) := by decide +kernel
theorem dX12_goesAlong_30 : decode cX12_goesAlong 30 = .ok (.iaload, 1) := by decide +kernel
theorem dX12_goesAlong_31 : decode cX12_goesAlong 31 = .ok (.ifCond .ne 5, 3) := by decide +kernel
theorem dX12_goesAlong_34 : decode cX12_goesAlong 34 = .ok (.iconst 0, 1) := by decide +kernel
theorem dX12_goesAlong_35 : decode cX12_goesAlong 35 = .ok (.ireturn, 1) := by decide +kernel
theorem dX12_goesAlong_36 : decode cX12_goesAlong 36 = .ok (.aload_n 0, 1) := by decide +kernel
theorem dX12_goesAlong_37 : decode cX12_goesAlong 37 = .ok (.iload_n 1, 1) := by decide +kernel
theorem dX12_goesAlong_38 : decode cX12_goesAlong 38 = .ok (.iload_n 2, 1) := by decide +kernel
theorem dX12_goesAlong_39 : decode cX12_goesAlong 39 = .ok (.aload_n 0, 1) := by decide +kernel
theorem dX12_goesAlong_40 : decode cX12_goesAlong 40 = .ok (.iload_n 1, 1) := by decide +kernel
theorem dX12_goesAlong_41 : decode cX12_goesAlong 41 = .ok (.iload_n 2, 1) := by decide +kernel
theorem dX12_goesAlong_42 : decode cX12_goesAlong 42 = .ok (.invokevirtual 290, 3) := by decide +kernel
theorem dX12_goesAlong_45 : decode cX12_goesAlong 45 = .ok (.invokevirtual 292, 3) := by decide +kernel
theorem dX12_goesAlong_48 : decode cX12_goesAlong 48 = .ok (.aload_n 0, 1) := by decide +kernel
theorem dX12_goesAlong_49 : decode cX12_goesAlong 49 = .ok (.iconst 2, 1) := by decide +kernel
theorem dX12_goesAlong_50 : decode cX12_goesAlong 50 = .ok (.sipush 149, 3) := by decide +kernel
theorem dX12_goesAlong_53 : decode cX12_goesAlong 53 = .ok (.invokevirtual 296, 3) := by decide +kernel
theorem dX12_goesAlong_56 : decode cX12_goesAlong 56 = .ok (.iconst 1, 1) := by decide +kernel
theorem dX12_goesAlong_57 : decode cX12_goesAlong 57 = .ok (.if_icmp .ne 7, 3) := by decide +kernel
theorem dX12_goesAlong_60 : decode cX12_goesAlong 60 = .ok (.iconst 1, 1) := by decide +kernel
theorem dX12_goesAlong_61 : decode cX12_goesAlong 61 = .ok (.goto 4, 3) := by decide +kernel
theorem dX12_goesAlong_64 : decode cX12_goesAlong 64 = .ok (.iconst 0, 1) := by decide +kernel
theorem dX12_goesAlong_65 : decode cX12_goesAlong 65 = .ok (.ireturn, 1) := by decide +kernel
theorem dX12_draggedBy_0 : decode cX12_draggedBy 0 = .ok (.iconst 0, 1) := by decide +kernel
theorem dX12_draggedBy_1 : decode cX12_draggedBy 1 = .ok (.istore_n 2, 1) := by decide +kernel
theorem dX12_draggedBy_2 : decode cX12_draggedBy 2 = .ok (.iconst 0, 1) := by decide +kernel
theorem dX12_draggedBy_3 : decode cX12_draggedBy 3 = .ok (.istore_n 3, 1) := by decide +kernel
theorem dX12_draggedBy_4 : decode cX12_draggedBy 4 = .ok (.iload_n 3, 1) := by decide +kernel
theorem dX12_draggedBy_5 : decode cX12_draggedBy 5 = .ok (.aload_n 0, 1) := by decide +kernel
theorem dX12_draggedBy_6 : decode cX12_draggedBy 6 = .ok (.invokevirtual 254, 3) := by decide +kernel
theorem dX12_draggedBy_9 : decode cX12_draggedBy 9 = .ok (.if_icmp .ge 28, 3) := by decide +kernel
theorem dX12_draggedBy_12 : decode cX12_draggedBy 12 = .ok (.iload_n 2, 1) := by decide +kernel
theorem dX12_draggedBy_13 : decode cX12_draggedBy 13 = .ok (.aload_n 0, 1) := by decide +kernel
theorem dX12_draggedBy_14 : decode cX12_draggedBy 14 = .ok (.iload_n 1, 1) := by decide +kernel
theorem dX12_draggedBy_15 : decode cX12_draggedBy 15 = .ok (.iload_n 3, 1) := by decide +kernel
theorem dX12_draggedBy_16 : decode cX12_draggedBy 16 = .ok (.invokevirtual 299, 3) := by decide +kernel
theorem dX12_draggedBy_19 : decode cX12_draggedBy 19 = .ok (.ifCond .eq 9, 3) := by decide +kernel
theorem dX12_draggedBy_22 : decode cX12_draggedBy 22 = .ok (.iconst 1, 1) := by decide +kernel
theorem dX12_draggedBy_23 : decode cX12_draggedBy 23 = .ok (.iload_n 3, 1) := by decide +kernel
theorem dX12_draggedBy_24 : decode cX12_draggedBy 24 = .ok (.ishl, 1) := by decide +kernel
theorem dX12_draggedBy_25 : decode cX12_draggedBy 25 = .ok (.goto 4, 3) := by decide +kernel
theorem dX12_draggedBy_28 : decode cX12_draggedBy 28 = .ok (.iconst 0, 1) := by decide +kernel
theorem dX12_draggedBy_29 : decode cX12_draggedBy 29 = .ok (.ior, 1) := by decide +kernel
theorem dX12_draggedBy_30 : decode cX12_draggedBy 30 = .ok (.istore_n 2, 1) := by decide +kernel
theorem dX12_draggedBy_31 : decode cX12_draggedBy 31 = .ok (.iinc 3 1, 3) := by decide +kernel
theorem dX12_draggedBy_34 : decode cX12_draggedBy 34 = .ok (.goto (-30), 3) := by decide +kernel
theorem dX12_draggedBy_37 : decode cX12_draggedBy 37 = .ok (.iload_n 2, 1) := by decide +kernel
theorem dX12_draggedBy_38 : decode cX12_draggedBy 38 = .ok (.ireturn, 1) := by decide +kernel
theorem dX12_notchCosts_0 : decode cX12_notchCosts 0 = .ok (.aload_n 0, 1) := by decide +kernel
theorem dX12_notchCosts_1 : decode cX12_notchCosts 1 = .ok (.getfield 9, 3) := by decide +kernel
theorem dX12_notchCosts_4 : decode cX12_notchCosts 4 = .ok (.iconst 3, 1) := by decide +kernel
theorem dX12_notchCosts_5 : decode cX12_notchCosts 5 = .ok (.iaload, 1) := by decide +kernel
theorem dX12_notchCosts_6 : decode cX12_notchCosts 6 = .ok (.ifCond .ne 5, 3) := by decide +kernel
theorem dX12_notchCosts_9 : decode cX12_notchCosts 9 = .ok (.iconst 1, 1) := by decide +kernel
theorem dX12_notchCosts_10 : decode cX12_notchCosts 10 = .ok (.ireturn, 1) := by decide +kernel
theorem dX12_notchCosts_11 : decode cX12_notchCosts 11 = .ok (.aload_n 0, 1) := by decide +kernel
theorem dX12_notchCosts_12 : decode cX12_notchCosts 12 = .ok (.iload_n 1, 1) := by decide +kernel
theorem dX12_notchCosts_13 : decode cX12_notchCosts 13 = .ok (.iconst 0, 1) := by decide +kernel
theorem dX12_notchCosts_14 : decode cX12_notchCosts 14 = .ok (.iconst 0, 1) := by decide +kernel
theorem dX12_notchCosts_15 : decode cX12_notchCosts 15 = .ok (.invokevirtual 292, 3) := by decide +kernel
theorem dX12_notchCosts_18 : decode cX12_notchCosts 18 = .ok (.iconst 1, 1) := by decide +kernel
theorem dX12_notchCosts_19 : decode cX12_notchCosts 19 = .ok (.bipush 99, 2) := by decide +kernel
theorem dX12_notchCosts_21 : decode cX12_notchCosts 21 = .ok (.aload_n 0, 1) := by decide +kernel
theorem dX12_notchCosts_22 : decode cX12_notchCosts 22 = .ok (.iconst 3, 1) := by decide +kernel
theorem dX12_notchCosts_23 : decode cX12_notchCosts 23 = .ok (.sipush 1049, 3) := by decide +kernel
theorem dX12_notchCosts_26 : decode cX12_notchCosts 26 = .ok (.invokevirtual 296, 3) := by decide +kernel
theorem dX12_notchCosts_29 : decode cX12_notchCosts 29 = .ok (.invokestatic 285, 3) := by decide +kernel
theorem dX12_notchCosts_32 : decode cX12_notchCosts 32 = .ok (.invokestatic 302, 3) := by decide +kernel
theorem dX12_notchCosts_35 : decode cX12_notchCosts 35 = .ok (.ireturn, 1) := by decide +kernel
theorem dX12_aimsNow_0 : decode cX12_aimsNow 0 = .ok (.iconst 0, 1) := by decide +kernel
theorem dX12_aimsNow_1 : decode cX12_aimsNow 1 = .ok (.istore_n 1, 1) := by decide +kernel
theorem dX12_aimsNow_2 : decode cX12_aimsNow 2 = .ok (.iload_n 1, 1) := by decide +kernel
theorem dX12_aimsNow_3 : decode cX12_aimsNow 3 = .ok (.aload_n 0, 1) := by decide +kernel
theorem dX12_aimsNow_4 : decode cX12_aimsNow 4 = .ok (.invokevirtual 254, 3) := by decide +kernel
theorem dX12_aimsNow_7 : decode cX12_aimsNow 7 = .ok (.if_icmp .ge 24, 3) := by decide +kernel
theorem dX12_aimsNow_10 : decode cX12_aimsNow 10 = .ok (.aload_n 0, 1) := by decide +kernel
theorem dX12_aimsNow_11 : decode cX12_aimsNow 11 = .ok (.getfield 36, 3) := by decide +kernel
theorem dX12_aimsNow_14 : decode cX12_aimsNow 14 = .ok (.iload_n 1, 1) := by decide +kernel
theorem dX12_aimsNow_15 : decode cX12_aimsNow 15 = .ok (.aload_n 0, 1) := by decide +kernel
theorem dX12_aimsNow_16 : decode cX12_aimsNow 16 = .ok (.getfield 9, 3) := by decide +kernel
theorem dX12_aimsNow_19 : decode cX12_aimsNow 19 = .ok (.bipush 6, 2) := by decide +kernel
theorem dX12_aimsNow_21 : decode cX12_aimsNow 21 = .ok (.iload_n 1, 1) := by decide +kernel
theorem dX12_aimsNow_22 : decode cX12_aimsNow 22 = .ok (.iadd, 1) := by decide +kernel
theorem dX12_aimsNow_23 : decode cX12_aimsNow 23 = .ok (.iaload, 1) := by decide +kernel
theorem dX12_aimsNow_24 : decode cX12_aimsNow 24 = .ok (.iastore, 1) := by decide +kernel
theorem dX12_aimsNow_25 : decode cX12_aimsNow 25 = .ok (.iinc 1 1, 3) := by decide +kernel
theorem dX12_aimsNow_28 : decode cX12_aimsNow 28 = .ok (.goto (-26), 3) := by decide +kernel
theorem dX12_aimsNow_31 : decode cX12_aimsNow 31 = .ok (.return_, 1) := by decide +kernel
theorem dX12_faced_0 : decode cX12_faced 0 = .ok (.aload_n 0, 1) := by decide +kernel
theorem dX12_faced_1 : decode cX12_faced 1 = .ok (.getfield 36, 3) := by decide +kernel
theorem dX12_faced_4 : decode cX12_faced 4 = .ok (.iload_n 1, 1) := by decide +kernel
theorem dX12_faced_5 : decode cX12_faced 5 = .ok (.iaload, 1) := by decide +kernel
theorem dX12_faced_6 : decode cX12_faced 6 = .ok (.ifCond .ne 7, 3) := by decide +kernel
theorem dX12_faced_9 : decode cX12_faced 9 = .ok (.iconst (-1), 1) := by decide +kernel
theorem dX12_faced_10 : decode cX12_faced 10 = .ok (.goto 16, 3) := by decide +kernel
theorem dX12_faced_13 : decode cX12_faced 13 = .ok (.iload_n 1, 1) := by decide +kernel
theorem dX12_faced_14 : decode cX12_faced 14 = .ok (.aload_n 0, 1) := by decide +kernel
theorem dX12_faced_15 : decode cX12_faced 15 = .ok (.getfield 36, 3) := by decide +kernel
theorem dX12_faced_18 : decode cX12_faced 18 = .ok (.iload_n 1, 1) := by decide +kernel
theorem dX12_faced_19 : decode cX12_faced 19 = .ok (.iaload, 1) := by decide +kernel
theorem dX12_faced_20 : decode cX12_faced 20 = .ok (.iadd, 1) := by decide +kernel
theorem dX12_faced_21 : decode cX12_faced 21 = .ok (.aload_n 0, 1) := by decide +kernel
theorem dX12_faced_22 : decode cX12_faced 22 = .ok (.invokevirtual 254, 3) := by decide +kernel
theorem dX12_faced_25 : decode cX12_faced 25 = .ok (.irem, 1) := by decide +kernel
theorem dX12_faced_26 : decode cX12_faced 26 = .ok (.ireturn, 1) := by decide +kernel
theorem dX12_laysVotes_0 : decode cX12_laysVotes 0 = .ok (.iconst 0, 1) := by decide +kernel
theorem dX12_laysVotes_1 : decode cX12_laysVotes 1 = .ok (.istore_n 1, 1) := by decide +kernel
theorem dX12_laysVotes_2 : decode cX12_laysVotes 2 = .ok (.iload_n 1, 1) := by decide +kernel
theorem dX12_laysVotes_3 : decode cX12_laysVotes 3 = .ok (.aload_n 0, 1) := by decide +kernel
theorem dX12_laysVotes_4 : decode cX12_laysVotes 4 = .ok (.invokevirtual 254, 3) := by decide +kernel
theorem dX12_laysVotes_7 : decode cX12_laysVotes 7 = .ok (.if_icmp .ge 16, 3) := by decide +kernel
theorem dX12_laysVotes_10 : decode cX12_laysVotes 10 = .ok (.aload_n 0, 1) := by decide +kernel
theorem dX12_laysVotes_11 : decode cX12_laysVotes 11 = .ok (.getfield 39, 3) := by decide +kernel
theorem dX12_laysVotes_14 : decode cX12_laysVotes 14 = .ok (.iload_n 1, 1) := by decide +kernel
theorem dX12_laysVotes_15 : decode cX12_laysVotes 15 = .ok (.iconst 0, 1) := by decide +kernel
theorem dX12_laysVotes_16 : decode cX12_laysVotes 16 = .ok (.iastore, 1) := by decide +kernel
theorem dX12_laysVotes_17 : decode cX12_laysVotes 17 = .ok (.iinc 1 1, 3) := by decide +kernel
theorem dX12_laysVotes_20 : decode cX12_laysVotes 20 = .ok (.goto (-18), 3) := by decide +kernel
theorem dX12_laysVotes_23 : decode cX12_laysVotes 23 = .ok (.iconst 0, 1) := by decide +kernel
theorem dX12_laysVotes_24 : decode cX12_laysVotes 24 = .ok (.istore_n 1, 1) := by decide +kernel
theorem dX12_laysVotes_25 : decode cX12_laysVotes 25 = .ok (.iload_n 1, 1) := by decide +kernel
theorem dX12_laysVotes_26 : decode cX12_laysVotes 26 = .ok (.aload_n 0, 1) := by decide +kernel
theorem dX12_laysVotes_27 : decode cX12_laysVotes 27 = .ok (.invokevirtual 254, 3) := by decide +kernel
theorem dX12_laysVotes_30 : decode cX12_laysVotes 30 = .ok (.if_icmp .ge 40, 3) := by decide +kernel
theorem dX12_laysVotes_33 : decode cX12_laysVotes 33 = .ok (.aload_n 0, 1) := by decide +kernel
theorem dX12_laysVotes_34 : decode cX12_laysVotes 34 = .ok (.getfield 36, 3) := by decide +kernel
theorem dX12_laysVotes_37 : decode cX12_laysVotes 37 = .ok (.iload_n 1, 1) := by decide +kernel
theorem dX12_laysVotes_38 : decode cX12_laysVotes 38 = .ok (.iaload, 1) := by decide +kernel
theorem dX12_laysVotes_39 : decode cX12_laysVotes 39 = .ok (.ifCond .eq 25, 3) := by decide +kernel
theorem dX12_laysVotes_42 : decode cX12_laysVotes 42 = .ok (.aload_n 0, 1) := by decide +kernel
theorem dX12_laysVotes_43 : decode cX12_laysVotes 43 = .ok (.getfield 39, 3) := by decide +kernel
theorem dX12_laysVotes_46 : decode cX12_laysVotes 46 = .ok (.aload_n 0, 1) := by decide +kernel
theorem dX12_laysVotes_47 : decode cX12_laysVotes 47 = .ok (.iload_n 1, 1) := by decide +kernel
theorem dX12_laysVotes_48 : decode cX12_laysVotes 48 = .ok (.invokevirtual 304, 3) := by decide +kernel
theorem dX12_laysVotes_51 : decode cX12_laysVotes 51 = .ok (.dup2, 1) := by decide +kernel
theorem dX12_laysVotes_52 : decode cX12_laysVotes 52 = .ok (.iaload, 1) := by decide +kernel
theorem dX12_laysVotes_53 : decode cX12_laysVotes 53 = .ok (.aload_n 0, 1) := by decide +kernel
theorem dX12_laysVotes_54 : decode cX12_laysVotes 54 = .ok (.getfield 9, 3) := by decide +kernel
theorem dX12_laysVotes_57 : decode cX12_laysVotes 57 = .ok (.bipush 12, 2) := by decide +kernel
theorem dX12_laysVotes_59 : decode cX12_laysVotes 59 = .ok (.iload_n 1, 1) := by decide +kernel
theorem dX12_laysVotes_60 : decode cX12_laysVotes 60 = .ok (.iadd, 1) := by decide +kernel
theorem dX12_laysVotes_61 : decode cX12_laysVotes 61 = .ok (.iaload, 1) := by decide +kernel
theorem dX12_laysVotes_62 : decode cX12_laysVotes 62 = .ok (.iadd, 1) := by decide +kernel
theorem dX12_laysVotes_63 : decode cX12_laysVotes 63 = .ok (.iastore, 1) := by decide +kernel
theorem dX12_laysVotes_64 : decode cX12_laysVotes 64 = .ok (.iinc 1 1, 3) := by decide +kernel
theorem dX12_laysVotes_67 : decode cX12_laysVotes 67 = .ok (.goto (-42), 3) := by decide +kernel
theorem dX12_laysVotes_70 : decode cX12_laysVotes 70 = .ok (.return_, 1) := by decide +kernel
theorem dX12_chairBy_0 : decode cX12_chairBy 0 = .ok (.aload_n 0, 1) := by decide +kernel
theorem dX12_chairBy_1 : decode cX12_chairBy 1 = .ok (.invokevirtual 307, 3) := by decide +kernel
theorem dX12_chairBy_4 : decode cX12_chairBy 4 = .ok (.iconst (-1), 1) := by decide +kernel
theorem dX12_chairBy_5 : decode cX12_chairBy 5 = .ok (.istore_n 1, 1) := by decide +kernel
theorem dX12_chairBy_6 : decode cX12_chairBy 6 = .ok (.iconst 0, 1) := by decide +kernel
theorem dX12_chairBy_7 : decode cX12_chairBy 7 = .ok (.istore_n 2, 1) := by decide +kernel
theorem dX12_chairBy_8 : decode cX12_chairBy 8 = .ok (.iload_n 2, 1) := by decide +kernel
theorem dX12_chairBy_9 : decode cX12_chairBy 9 = .ok (.aload_n 0, 1) := by decide +kernel
theorem dX12_chairBy_10 : decode cX12_chairBy 10 = .ok (.invokevirtual 254, 3) := by decide +kernel
theorem dX12_chairBy_13 : decode cX12_chairBy 13 = .ok (.if_icmp .ge 35, 3) := by decide +kernel
theorem dX12_chairBy_16 : decode cX12_chairBy 16 = .ok (.aload_n 0, 1) := by decide +kernel
theorem dX12_chairBy_17 : decode cX12_chairBy 17 = .ok (.getfield 39, 3) := by decide +kernel
theorem dX12_chairBy_20 : decode cX12_chairBy 20 = .ok (.iload_n 2, 1) := by decide +kernel
theorem dX12_chairBy_21 : decode cX12_chairBy 21 = .ok (.iaload, 1) := by decide +kernel
theorem dX12_chairBy_22 : decode cX12_chairBy 22 = .ok (.iload_n 1, 1) := by decide +kernel
theorem dX12_chairBy_23 : decode cX12_chairBy 23 = .ok (.iconst (-1), 1) := by decide +kernel
theorem dX12_chairBy_24 : decode cX12_chairBy 24 = .ok (.if_icmp .ne 7, 3) := by decide +kernel
theorem dX12_chairBy_27 : decode cX12_chairBy 27 = .ok (.iconst 0, 1) := by decide +kernel
theorem dX12_chairBy_28 : decode cX12_chairBy 28 = .ok (.goto 9, 3) := by decide +kernel
theorem dX12_chairBy_31 : decode cX12_chairBy 31 = .ok (.aload_n 0, 1) := by decide +kernel
theorem dX12_chairBy_32 : decode cX12_chairBy 32 = .ok (.getfield 39, 3) := by decide +kernel
theorem dX12_chairBy_35 : decode cX12_chairBy 35 = .ok (.iload_n 1, 1) := by decide +kernel
theorem dX12_chairBy_36 : decode cX12_chairBy 36 = .ok (.iaload, 1) := by decide +kernel
theorem dX12_chairBy_37 : decode cX12_chairBy 37 = .ok (.if_icmp .le 5, 3) := by decide +kernel
theorem dX12_chairBy_40 : decode cX12_chairBy 40 = .ok (.iload_n 2, 1) := by decide +kernel
theorem dX12_chairBy_41 : decode cX12_chairBy 41 = .ok (.istore_n 1, 1) := by decide +kernel
theorem dX12_chairBy_42 : decode cX12_chairBy 42 = .ok (.iinc 2 1, 3) := by decide +kernel
theorem dX12_chairBy_45 : decode cX12_chairBy 45 = .ok (.goto (-37), 3) := by decide +kernel
theorem dX12_chairBy_48 : decode cX12_chairBy 48 = .ok (.iload_n 1, 1) := by decide +kernel
theorem dX12_chairBy_49 : decode cX12_chairBy 49 = .ok (.ireturn, 1) := by decide +kernel
theorem dX12_chairNow_0 : decode cX12_chairNow 0 = .ok (.aload_n 0, 1) := by decide +kernel
theorem dX12_chairNow_1 : decode cX12_chairNow 1 = .ok (.invokevirtual 310, 3) := by decide +kernel
theorem dX12_chairNow_4 : decode cX12_chairNow 4 = .ok (.aload_n 0, 1) := by decide +kernel
theorem dX12_chairNow_5 : decode cX12_chairNow 5 = .ok (.invokevirtual 313, 3) := by decide +kernel
theorem dX12_chairNow_8 : decode cX12_chairNow 8 = .ok (.ireturn, 1) := by decide +kernel
theorem dX12_kneesBy_0 : decode cX12_kneesBy 0 = .ok (.iconst 0, 1) := by decide +kernel
theorem dX12_kneesBy_1 : decode cX12_kneesBy 1 = .ok (.istore_n 1, 1) := by decide +kernel
theorem dX12_kneesBy_2 : decode cX12_kneesBy 2 = .ok (.iconst 0, 1) := by decide +kernel
theorem dX12_kneesBy_3 : decode cX12_kneesBy 3 = .ok (.istore_n 2, 1) := by decide +kernel
theorem dX12_kneesBy_4 : decode cX12_kneesBy 4 = .ok (.iload_n 2, 1) := by decide +kernel
theorem dX12_kneesBy_5 : decode cX12_kneesBy 5 = .ok (.aload_n 0, 1) := by decide +kernel
theorem dX12_kneesBy_6 : decode cX12_kneesBy 6 = .ok (.invokevirtual 254, 3) := by decide +kernel
theorem dX12_kneesBy_9 : decode cX12_kneesBy 9 = .ok (.if_icmp .ge 48, 3) := by decide +kernel
theorem dX12_kneesBy_12 : decode cX12_kneesBy 12 = .ok (.iconst 0, 1) := by decide +kernel
theorem dX12_kneesBy_13 : decode cX12_kneesBy 13 = .ok (.istore_n 3, 1) := by decide +kernel
theorem dX12_kneesBy_14 : decode cX12_kneesBy 14 = .ok (.iload_n 3, 1) := by decide +kernel
theorem dX12_kneesBy_15 : decode cX12_kneesBy 15 = .ok (.iload_n 2, 1) := by decide +kernel
theorem dX12_kneesBy_16 : decode cX12_kneesBy 16 = .ok (.if_icmp .ge 35, 3) := by decide +kernel
theorem dX12_kneesBy_19 : decode cX12_kneesBy 19 = .ok (.iload_n 1, 1) := by decide +kernel
theorem dX12_kneesBy_20 : decode cX12_kneesBy 20 = .ok (.aload_n 0, 1) := by decide +kernel
theorem dX12_kneesBy_21 : decode cX12_kneesBy 21 = .ok (.iload_n 2, 1) := by decide +kernel
theorem dX12_kneesBy_22 : decode cX12_kneesBy 22 = .ok (.invokevirtual 304, 3) := by decide +kernel
theorem dX12_kneesBy_25 : decode cX12_kneesBy 25 = .ok (.iload_n 3, 1) := by decide +kernel
theorem dX12_kneesBy_26 : decode cX12_kneesBy 26 = .ok (.if_icmp .ne 16, 3) := by decide +kernel
theorem dX12_kneesBy_29 : decode cX12_kneesBy 29 = .ok (.aload_n 0, 1) := by decide +kernel
theorem dX12_kneesBy_30 : decode cX12_kneesBy 30 = .ok (.iload_n 3, 1) := by decide +kernel
theorem dX12_kneesBy_31 : decode cX12_kneesBy 31 = .ok (.invokevirtual 304, 3) := by decide +kernel
theorem dX12_kneesBy_34 : decode cX12_kneesBy 34 = .ok (.iload_n 2, 1) := by decide +kernel
theorem dX12_kneesBy_35 : decode cX12_kneesBy 35 = .ok (.if_icmp .ne 7, 3) := by decide +kernel
theorem dX12_kneesBy_38 : decode cX12_kneesBy 38 = .ok (.iconst 1, 1) := by decide +kernel
theorem dX12_kneesBy_39 : decode cX12_kneesBy 39 = .ok (.goto 4, 3) := by decide +kernel
theorem dX12_kneesBy_42 : decode cX12_kneesBy 42 = .ok (.iconst 0, 1) := by decide +kernel
theorem dX12_kneesBy_43 : decode cX12_kneesBy 43 = .ok (.iadd, 1) := by decide +kernel
theorem dX12_kneesBy_44 : decode cX12_kneesBy 44 = .ok (.istore_n 1, 1) := by decide +kernel
theorem dX12_kneesBy_45 : decode cX12_kneesBy 45 = .ok (.iinc 3 1, 3) := by decide +kernel
theorem dX12_kneesBy_48 : decode cX12_kneesBy 48 = .ok (.goto (-34), 3) := by decide +kernel
theorem dX12_kneesBy_51 : decode cX12_kneesBy 51 = .ok (.iinc 2 1, 3) := by decide +kernel
theorem dX12_kneesBy_54 : decode cX12_kneesBy 54 = .ok (.goto (-50), 3) := by decide +kernel
theorem dX12_kneesBy_57 : decode cX12_kneesBy 57 = .ok (.iload_n 1, 1) := by decide +kernel
theorem dX12_kneesBy_58 : decode cX12_kneesBy 58 = .ok (.ireturn, 1) := by decide +kernel
theorem dX12_goesBy_0 : decode cX12_goesBy 0 = .ok (.aload_n 0, 1) := by decide +kernel
theorem dX12_goesBy_1 : decode cX12_goesBy 1 = .ok (.getfield 9, 3) := by decide +kernel
theorem dX12_goesBy_4 : decode cX12_goesBy 4 = .ok (.iconst 4, 1) := by decide +kernel
theorem dX12_goesBy_5 : decode cX12_goesBy 5 = .ok (.iaload, 1) := by decide +kernel
theorem dX12_goesBy_6 : decode cX12_goesBy 6 = .ok (.ifCond .ne 5, 3) := by decide +kernel
theorem dX12_goesBy_9 : decode cX12_goesBy 9 = .ok (.iconst 0, 1) := by decide +kernel
theorem dX12_goesBy_10 : decode cX12_goesBy 10 = .ok (.ireturn, 1) := by decide +kernel
theorem dX12_goesBy_11 : decode cX12_goesBy 11 = .ok (.aload_n 0, 1) := by decide +kernel
theorem dX12_goesBy_12 : decode cX12_goesBy 12 = .ok (.iload_n 1, 1) := by decide +kernel
theorem dX12_goesBy_13 : decode cX12_goesBy 13 = .ok (.aload_n 0, 1) := by decide +kernel
theorem dX12_goesBy_14 : decode cX12_goesBy 14 = .ok (.getfield 36, 3) := by decide +kernel
theorem dX12_goesBy_17 : decode cX12_goesBy 17 = .ok (.iload_n 1, 1) := by decide +kernel
theorem dX12_goesBy_18 : decode cX12_goesBy 18 = .ok (.iaload, 1) := by decide +kernel
theorem dX12_goesBy_19 : decode cX12_goesBy 19 = .ok (.aload_n 0, 1) := by decide +kernel
theorem dX12_goesBy_20 : decode cX12_goesBy 20 = .ok (.getfield 39, 3) := by decide +kernel
theorem dX12_goesBy_23 : decode cX12_goesBy 23 = .ok (.iload_n 1, 1) := by decide +kernel
theorem dX12_goesBy_24 : decode cX12_goesBy 24 = .ok (.iaload, 1) := by decide +kernel
theorem dX12_goesBy_25 : decode cX12_goesBy 25 = .ok (.invokevirtual 292, 3) := by decide +kernel
theorem dX12_goesBy_28 : decode cX12_goesBy 28 = .ok (.aload_n 0, 1) := by decide +kernel
theorem dX12_goesBy_29 : decode cX12_goesBy 29 = .ok (.iconst 4, 1) := by decide +kernel
theorem dX12_goesBy_30 : decode cX12_goesBy 30 = .ok (.sipush 1949, 3) := by decide +kernel
theorem dX12_goesBy_33 : decode cX12_goesBy 33 = .ok (.invokevirtual 296, 3) := by decide +kernel
theorem dX12_goesBy_36 : decode cX12_goesBy 36 = .ok (.aload_n 0, 1) := by decide +kernel
theorem dX12_goesBy_37 : decode cX12_goesBy 37 = .ok (.invokevirtual 254, 3) := by decide +kernel
theorem dX12_goesBy_40 : decode cX12_goesBy 40 = .ok (.irem, 1) := by decide +kernel
theorem dX12_goesBy_41 : decode cX12_goesBy 41 = .ok (.istore_n 2, 1) := by decide +kernel
theorem dX12_goesBy_42 : decode cX12_goesBy 42 = .ok (.iload_n 2, 1) := by decide +kernel
theorem dX12_goesBy_43 : decode cX12_goesBy 43 = .ok (.ifCond .ge 12, 3) := by decide +kernel
theorem dX12_goesBy_46 : decode cX12_goesBy 46 = .ok (.iload_n 2, 1) := by decide +kernel
theorem dX12_goesBy_47 : decode cX12_goesBy 47 = .ok (.aload_n 0, 1) := by decide +kernel
theorem dX12_goesBy_48 : decode cX12_goesBy 48 = .ok (.invokevirtual 254, 3) := by decide +kernel
theorem dX12_goesBy_51 : decode cX12_goesBy 51 = .ok (.iadd, 1) := by decide +kernel
theorem dX12_goesBy_52 : decode cX12_goesBy 52 = .ok (.goto 4, 3) := by decide +kernel
theorem dX12_goesBy_55 : decode cX12_goesBy 55 = .ok (.iload_n 2, 1) := by decide +kernel
theorem dX12_goesBy_56 : decode cX12_goesBy 56 = .ok (.ireturn, 1) := by decide +kernel
theorem dX12_minute_0 : decode cX12_minute 0 = .ok (.aload_n 0, 1) := by decide +kernel
theorem dX12_minute_1 : decode cX12_minute 1 = .ok (.invokevirtual 307, 3) := by decide +kernel
theorem dX12_minute_4 : decode cX12_minute 4 = .ok (.iconst 0, 1) := by decide +kernel
theorem dX12_minute_5 : decode cX12_minute 5 = .ok (.istore_n 1, 1) := by decide +kernel
theorem dX12_minute_6 : decode cX12_minute 6 = .ok (.iload_n 1, 1) := by decide +kernel
theorem dX12_minute_7 : decode cX12_minute 7 = .ok (.aload_n 0, 1) := by decide +kernel
theorem dX12_minute_8 : decode cX12_minute 8 = .ok (.invokevirtual 254, 3) := by decide +kernel
theorem dX12_minute_11 : decode cX12_minute 11 = .ok (.if_icmp .ge 32, 3) := by decide +kernel
theorem dX12_minute_14 : decode cX12_minute 14 = .ok (.aload_n 0, 1) := by decide +kernel
theorem dX12_minute_15 : decode cX12_minute 15 = .ok (.getfield 42, 3) := by decide +kernel
theorem dX12_minute_18 : decode cX12_minute 18 = .ok (.iload_n 1, 1) := by decide +kernel
theorem dX12_minute_19 : decode cX12_minute 19 = .ok (.aload_n 0, 1) := by decide +kernel
theorem dX12_minute_20 : decode cX12_minute 20 = .ok (.iload_n 1, 1) := by decide +kernel
theorem dX12_minute_21 : decode cX12_minute 21 = .ok (.invokevirtual 287, 3) := by decide +kernel
theorem dX12_minute_24 : decode cX12_minute 24 = .ok (.ifCond .eq 7, 3) := by decide +kernel
theorem dX12_minute_27 : decode cX12_minute 27 = .ok (.iconst 0, 1) := by decide +kernel
theorem dX12_minute_28 : decode cX12_minute 28 = .ok (.goto 8, 3) := by decide +kernel
theorem dX12_minute_31 : decode cX12_minute 31 = .ok (.aload_n 0, 1) := by decide +kernel
theorem dX12_minute_32 : decode cX12_minute 32 = .ok (.iload_n 1, 1) := by decide +kernel
theorem dX12_minute_33 : decode cX12_minute 33 = .ok (.invokevirtual 316, 3) := by decide +kernel
theorem dX12_minute_36 : decode cX12_minute 36 = .ok (.iastore, 1) := by decide +kernel
theorem dX12_minute_37 : decode cX12_minute 37 = .ok (.iinc 1 1, 3) := by decide +kernel
theorem dX12_minute_40 : decode cX12_minute 40 = .ok (.goto (-34), 3) := by decide +kernel
theorem dX12_minute_43 : decode cX12_minute 43 = .ok (.iconst 0, 1) := by decide +kernel
theorem dX12_minute_44 : decode cX12_minute 44 = .ok (.istore_n 1, 1) := by decide +kernel
theorem dX12_minute_45 : decode cX12_minute 45 = .ok (.iload_n 1, 1) := by decide +kernel
theorem dX12_minute_46 : decode cX12_minute 46 = .ok (.aload_n 0, 1) := by decide +kernel
theorem dX12_minute_47 : decode cX12_minute 47 = .ok (.invokevirtual 254, 3) := by decide +kernel
theorem dX12_minute_50 : decode cX12_minute 50 = .ok (.if_icmp .ge 33, 3) := by decide +kernel
theorem dX12_minute_53 : decode cX12_minute 53 = .ok (.aload_n 0, 1) := by decide +kernel
theorem dX12_minute_54 : decode cX12_minute 54 = .ok (.getfield 36, 3) := by decide +kernel
theorem dX12_minute_57 : decode cX12_minute 57 = .ok (.iload_n 1, 1) := by decide +kernel
theorem dX12_minute_58 : decode cX12_minute 58 = .ok (.aload_n 0, 1) := by decide +kernel
theorem dX12_minute_59 : decode cX12_minute 59 = .ok (.getfield 36, 3) := by decide +kernel
theorem dX12_minute_62 : decode cX12_minute 62 = .ok (.iload_n 1, 1) := by decide +kernel
theorem dX12_minute_63 : decode cX12_minute 63 = .ok (.iaload, 1) := by decide +kernel
theorem dX12_minute_64 : decode cX12_minute 64 = .ok (.aload_n 0, 1) := by decide +kernel
theorem dX12_minute_65 : decode cX12_minute 65 = .ok (.getfield 42, 3) := by decide +kernel
theorem dX12_minute_68 : decode cX12_minute 68 = .ok (.iload_n 1, 1) := by decide +kernel
theorem dX12_minute_69 : decode cX12_minute 69 = .ok (.iaload, 1) := by decide +kernel
theorem dX12_minute_70 : decode cX12_minute 70 = .ok (.iadd, 1) := by decide +kernel
theorem dX12_minute_71 : decode cX12_minute 71 = .ok (.aload_n 0, 1) := by decide +kernel
theorem dX12_minute_72 : decode cX12_minute 72 = .ok (.invokevirtual 254, 3) := by decide +kernel
theorem dX12_minute_75 : decode cX12_minute 75 = .ok (.irem, 1) := by decide +kernel
theorem dX12_minute_76 : decode cX12_minute 76 = .ok (.iastore, 1) := by decide +kernel
theorem dX12_minute_77 : decode cX12_minute 77 = .ok (.iinc 1 1, 3) := by decide +kernel
theorem dX12_minute_80 : decode cX12_minute 80 = .ok (.goto (-35), 3) := by decide +kernel
theorem dX12_minute_83 : decode cX12_minute 83 = .ok (.return_, 1) := by decide +kernel
theorem dX12_member_0 : decode cX12_member 0 = .ok (.aload_n 0, 1) := by decide +kernel
theorem dX12_member_1 : decode cX12_member 1 = .ok (.aload_n 0, 1) := by decide +kernel
theorem dX12_member_2 : decode cX12_member 2 = .ok (.iload_n 1, 1) := by decide +kernel
theorem dX12_member_3 : decode cX12_member 3 = .ok (.i2l, 1) := by decide +kernel
theorem dX12_member_4 : decode cX12_member 4 = .ok (.invokevirtual 319, 3) := by decide +kernel
theorem dX12_member_7 : decode cX12_member 7 = .ok (.ifCond .ne 7, 3) := by decide +kernel
theorem dX12_member_10 : decode cX12_member 10 = .ok (.iconst 1, 1) := by decide +kernel
theorem dX12_member_11 : decode cX12_member 11 = .ok (.goto 20, 3) := by decide +kernel
theorem dX12_member_14 : decode cX12_member 14 = .ok (.iload_n 2, 1) := by decide +kernel
theorem dX12_member_15 : decode cX12_member 15 = .ok (.i2l, 1) := by decide +kernel
theorem dX12_member_16 : decode cX12_member 16 = .ok (.lconst 0, 1) := by decide +kernel
theorem dX12_member_17 : decode cX12_member 17 = .ok (.ldc2_w 323, 3) := by decide +kernel
theorem dX12_member_20 : decode cX12_member 20 = .ok (.invokestatic 147, 3) := by decide +kernel
theorem dX12_member_23 : decode cX12_member 23 = .ok (.ifCond .eq 7, 3) := by decide +kernel
theorem dX12_member_26 : decode cX12_member 26 = .ok (.iconst 0, 1) := by decide +kernel
theorem dX12_member_27 : decode cX12_member 27 = .ok (.goto 4, 3) := by decide +kernel
theorem dX12_member_30 : decode cX12_member 30 = .ok (.iconst 2, 1) := by decide +kernel
theorem dX12_member_31 : decode cX12_member 31 = .ok (.putfield 86, 3) := by decide +kernel
theorem dX12_member_34 : decode cX12_member 34 = .ok (.aload_n 0, 1) := by decide +kernel
theorem dX12_member_35 : decode cX12_member 35 = .ok (.getfield 86, 3) := by decide +kernel
theorem dX12_member_38 : decode cX12_member 38 = .ok (.ifCond .le 5, 3) := by decide +kernel
theorem dX12_member_41 : decode cX12_member 41 = .ok (.iconst 0, 1) := by decide +kernel
theorem dX12_member_42 : decode cX12_member 42 = .ok (.ireturn, 1) := by decide +kernel
theorem dX12_member_43 : decode cX12_member 43 = .ok (.aload_n 0, 1) := by decide +kernel
theorem dX12_member_44 : decode cX12_member 44 = .ok (.invokevirtual 310, 3) := by decide +kernel
theorem dX12_member_47 : decode cX12_member 47 = .ok (.aload_n 0, 1) := by decide +kernel
theorem dX12_member_48 : decode cX12_member 48 = .ok (.invokevirtual 307, 3) := by decide +kernel
theorem dX12_member_51 : decode cX12_member 51 = .ok (.iload_n 2, 1) := by decide +kernel
theorem dX12_member_52 : decode cX12_member 52 = .ok (.tableswitch 80 0 4 #[36, 43, 49, 59, 66], 36) := by decide +kernel
theorem dX12_member_88 : decode cX12_member 88 = .ok (.aload_n 0, 1) := by decide +kernel
theorem dX12_member_89 : decode cX12_member 89 = .ok (.getfield 36, 3) := by decide +kernel
theorem dX12_member_92 : decode cX12_member 92 = .ok (.iload_n 1, 1) := by decide +kernel
theorem dX12_member_93 : decode cX12_member 93 = .ok (.iaload, 1) := by decide +kernel
theorem dX12_member_94 : decode cX12_member 94 = .ok (.ireturn, 1) := by decide +kernel
theorem dX12_member_95 : decode cX12_member 95 = .ok (.aload_n 0, 1) := by decide +kernel
theorem dX12_member_96 : decode cX12_member 96 = .ok (.iload_n 1, 1) := by decide +kernel
theorem dX12_member_97 : decode cX12_member 97 = .ok (.invokevirtual 304, 3) := by decide +kernel
theorem dX12_member_100 : decode cX12_member 100 = .ok (.ireturn, 1) := by decide +kernel
theorem dX12_member_101 : decode cX12_member 101 = .ok (.aload_n 0, 1) := by decide +kernel
theorem dX12_member_102 : decode cX12_member 102 = .ok (.getfield 9, 3) := by decide +kernel
theorem dX12_member_105 : decode cX12_member 105 = .ok (.bipush 12, 2) := by decide +kernel
theorem dX12_member_107 : decode cX12_member 107 = .ok (.iload_n 1, 1) := by decide +kernel
theorem dX12_member_108 : decode cX12_member 108 = .ok (.iadd, 1) := by decide +kernel
theorem dX12_member_109 : decode cX12_member 109 = .ok (.iaload, 1) := by decide +kernel
theorem dX12_member_110 : decode cX12_member 110 = .ok (.ireturn, 1) := by decide +kernel
theorem dX12_member_111 : decode cX12_member 111 = .ok (.aload_n 0, 1) := by decide +kernel
theorem dX12_member_112 : decode cX12_member 112 = .ok (.getfield 39, 3) := by decide +kernel
theorem dX12_member_115 : decode cX12_member 115 = .ok (.iload_n 1, 1) := by decide +kernel
theorem dX12_member_116 : decode cX12_member 116 = .ok (.iaload, 1) := by decide +kernel
theorem dX12_member_117 : decode cX12_member 117 = .ok (.ireturn, 1) := by decide +kernel
theorem dX12_member_118 : decode cX12_member 118 = .ok (.aload_n 0, 1) := by decide +kernel
theorem dX12_member_119 : decode cX12_member 119 = .ok (.iload_n 1, 1) := by decide +kernel
theorem dX12_member_120 : decode cX12_member 120 = .ok (.invokevirtual 287, 3) := by decide +kernel
theorem dX12_member_123 : decode cX12_member 123 = .ok (.ifCond .eq 7, 3) := by decide +kernel
theorem dX12_member_126 : decode cX12_member 126 = .ok (.iconst 1, 1) := by decide +kernel
theorem dX12_member_127 : decode cX12_member 127 = .ok (.goto 4, 3) := by decide +kernel
theorem dX12_member_130 : decode cX12_member 130 = .ok (.iconst 0, 1) := by decide +kernel
theorem dX12_member_131 : decode cX12_member 131 = .ok (.ireturn, 1) := by decide +kernel
theorem dX12_member_132 : decode cX12_member 132 = .ok (.aload_n 0, 1) := by decide +kernel
theorem dX12_member_133 : decode cX12_member 133 = .ok (.iload_n 1, 1) := by decide +kernel
theorem dX12_member_134 : decode cX12_member 134 = .ok (.invokevirtual 325, 3) := by decide +kernel
theorem dX12_member_137 : decode cX12_member 137 = .ok (.ireturn, 1) := by decide +kernel
theorem dX12_chair_0 : decode cX12_chair 0 = .ok (.aload_n 0, 1) := by decide +kernel
theorem dX12_chair_1 : decode cX12_chair 1 = .ok (.iconst 0, 1) := by decide +kernel
theorem dX12_chair_2 : decode cX12_chair 2 = .ok (.putfield 86, 3) := by decide +kernel
theorem dX12_chair_5 : decode cX12_chair 5 = .ok (.aload_n 0, 1) := by decide +kernel
theorem dX12_chair_6 : decode cX12_chair 6 = .ok (.invokevirtual 328, 3) := by decide +kernel
theorem dX12_chair_9 : decode cX12_chair 9 = .ok (.ireturn, 1) := by decide +kernel
theorem dX12_drags_0 : decode cX12_drags 0 = .ok (.aload_n 0, 1) := by decide +kernel
theorem dX12_drags_1 : decode cX12_drags 1 = .ok (.iconst 0, 1) := by decide +kernel
theorem dX12_drags_2 : decode cX12_drags 2 = .ok (.putfield 86, 3) := by decide +kernel
theorem dX12_drags_5 : decode cX12_drags 5 = .ok (.aload_n 0, 1) := by decide +kernel
theorem dX12_drags_6 : decode cX12_drags 6 = .ok (.iload_n 1, 1) := by decide +kernel
theorem dX12_drags_7 : decode cX12_drags 7 = .ok (.i2l, 1) := by decide +kernel
theorem dX12_drags_8 : decode cX12_drags 8 = .ok (.invokevirtual 319, 3) := by decide +kernel
theorem dX12_drags_11 : decode cX12_drags 11 = .ok (.ifCond .eq 11, 3) := by decide +kernel
theorem dX12_drags_14 : decode cX12_drags 14 = .ok (.aload_n 0, 1) := by decide +kernel
theorem dX12_drags_15 : decode cX12_drags 15 = .ok (.iload_n 1, 1) := by decide +kernel
theorem dX12_drags_16 : decode cX12_drags 16 = .ok (.invokevirtual 331, 3) := by decide +kernel
theorem dX12_drags_19 : decode cX12_drags 19 = .ok (.goto 8, 3) := by decide +kernel
theorem dX12_drags_22 : decode cX12_drags 22 = .ok (.aload_n 0, 1) := by decide +kernel
theorem dX12_drags_23 : decode cX12_drags 23 = .ok (.iconst 1, 1) := by decide +kernel
theorem dX12_drags_24 : decode cX12_drags 24 = .ok (.invokevirtual 239, 3) := by decide +kernel
theorem dX12_drags_27 : decode cX12_drags 27 = .ok (.ireturn, 1) := by decide +kernel
theorem dX12_goes_0 : decode cX12_goes 0 = .ok (.aload_n 0, 1) := by decide +kernel
theorem dX12_goes_1 : decode cX12_goes 1 = .ok (.iconst 0, 1) := by decide +kernel
theorem dX12_goes_2 : decode cX12_goes 2 = .ok (.putfield 86, 3) := by decide +kernel
theorem dX12_goes_5 : decode cX12_goes 5 = .ok (.aload_n 0, 1) := by decide +kernel
theorem dX12_goes_6 : decode cX12_goes 6 = .ok (.iload_n 1, 1) := by decide +kernel
theorem dX12_goes_7 : decode cX12_goes 7 = .ok (.i2l, 1) := by decide +kernel
theorem dX12_goes_8 : decode cX12_goes 8 = .ok (.invokevirtual 319, 3) := by decide +kernel
theorem dX12_goes_11 : decode cX12_goes 11 = .ok (.ifCond .ne 9, 3) := by decide +kernel
theorem dX12_goes_14 : decode cX12_goes 14 = .ok (.aload_n 0, 1) := by decide +kernel
theorem dX12_goes_15 : decode cX12_goes 15 = .ok (.iconst 1, 1) := by decide +kernel
theorem dX12_goes_16 : decode cX12_goes 16 = .ok (.invokevirtual 239, 3) := by decide +kernel
theorem dX12_goes_19 : decode cX12_goes 19 = .ok (.ireturn, 1) := by decide +kernel
theorem dX12_goes_20 : decode cX12_goes 20 = .ok (.aload_n 0, 1) := by decide +kernel
theorem dX12_goes_21 : decode cX12_goes 21 = .ok (.invokevirtual 310, 3) := by decide +kernel
theorem dX12_goes_24 : decode cX12_goes 24 = .ok (.aload_n 0, 1) := by decide +kernel
theorem dX12_goes_25 : decode cX12_goes 25 = .ok (.invokevirtual 307, 3) := by decide +kernel
theorem dX12_goes_28 : decode cX12_goes 28 = .ok (.aload_n 0, 1) := by decide +kernel
theorem dX12_goes_29 : decode cX12_goes 29 = .ok (.iload_n 1, 1) := by decide +kernel
theorem dX12_goes_30 : decode cX12_goes 30 = .ok (.invokevirtual 287, 3) := by decide +kernel
theorem dX12_goes_33 : decode cX12_goes 33 = .ok (.ifCond .eq 7, 3) := by decide +kernel
theorem dX12_goes_36 : decode cX12_goes 36 = .ok (.iconst 0, 1) := by decide +kernel
theorem dX12_goes_37 : decode cX12_goes 37 = .ok (.goto 8, 3) := by decide +kernel
theorem dX12_goes_40 : decode cX12_goes 40 = .ok (.aload_n 0, 1) := by decide +kernel
theorem dX12_goes_41 : decode cX12_goes 41 = .ok (.iload_n 1, 1) := by decide +kernel
theorem dX12_goes_42 : decode cX12_goes 42 = .ok (.invokevirtual 316, 3) := by decide +kernel
theorem dX12_goes_45 : decode cX12_goes 45 = .ok (.ireturn, 1) := by decide +kernel
theorem dX12_keeps_0 : decode cX12_keeps 0 = .ok (.aload_n 0, 1) := by decide +kernel
theorem dX12_keeps_1 : decode cX12_keeps 1 = .ok (.getfield 9, 3) := by decide +kernel
theorem dX12_keeps_4 : decode cX12_keeps 4 = .ok (.iconst 5, 1) := by decide +kernel
theorem dX12_keeps_5 : decode cX12_keeps 5 = .ok (.iaload, 1) := by decide +kernel
theorem dX12_keeps_6 : decode cX12_keeps 6 = .ok (.bipush 10, 2) := by decide +kernel
theorem dX12_keeps_8 : decode cX12_keeps 8 = .ok (.if_icmp .ne 44, 3) := by decide +kernel
theorem dX12_keeps_11 : decode cX12_keeps 11 = .ok (.bipush 19, 2) := by decide +kernel
theorem dX12_keeps_13 : decode cX12_keeps 13 = .ok (.istore_n 1, 1) := by decide +kernel
theorem dX12_keeps_14 : decode cX12_keeps 14 = .ok (.iload_n 1, 1) := by decide +kernel
theorem dX12_keeps_15 : decode cX12_keeps 15 = .ok (.sipush 136, 3) := by decide +kernel
theorem dX12_keeps_18 : decode cX12_keeps 18 = .ok (.if_icmp .ge 24, 3) := by decide +kernel
theorem dX12_keeps_21 : decode cX12_keeps 21 = .ok (.aload_n 0, 1) := by decide +kernel
theorem dX12_keeps_22 : decode cX12_keeps 22 = .ok (.getfield 9, 3) := by decide +kernel
theorem dX12_keeps_25 : decode cX12_keeps 25 = .ok (.iload_n 1, 1) := by decide +kernel
theorem dX12_keeps_26 : decode cX12_keeps 26 = .ok (.aload_n 0, 1) := by decide +kernel
theorem dX12_keeps_27 : decode cX12_keeps 27 = .ok (.getfield 9, 3) := by decide +kernel
theorem dX12_keeps_30 : decode cX12_keeps 30 = .ok (.iload_n 1, 1) := by decide +kernel
theorem dX12_keeps_31 : decode cX12_keeps 31 = .ok (.bipush 13, 2) := by decide +kernel
theorem dX12_keeps_33 : decode cX12_keeps 33 = .ok (.iadd, 1) := by decide +kernel
theorem dX12_keeps_34 : decode cX12_keeps 34 = .ok (.iaload, 1) := by decide +kernel
theorem dX12_keeps_35 : decode cX12_keeps 35 = .ok (.iastore, 1) := by decide +kernel
theorem dX12_keeps_36 : decode cX12_keeps 36 = .ok (.iinc 1 1, 3) := by decide +kernel
theorem dX12_keeps_39 : decode cX12_keeps 39 = .ok (.goto (-25), 3) := by decide +kernel
theorem dX12_keeps_42 : decode cX12_keeps 42 = .ok (.aload_n 0, 1) := by decide +kernel
theorem dX12_keeps_43 : decode cX12_keeps 43 = .ok (.getfield 9, 3) := by decide +kernel
theorem dX12_keeps_46 : decode cX12_keeps 46 = .ok (.iconst 5, 1) := by decide +kernel
theorem dX12_keeps_47 : decode cX12_keeps 47 = .ok (.dup2, 1) := by decide +kernel
theorem dX12_keeps_48 : decode cX12_keeps 48 = .ok (.iaload, 1) := by decide +kernel
theorem dX12_keeps_49 : decode cX12_keeps 49 = .ok (.iconst 1, 1) := by decide +kernel
theorem dX12_keeps_50 : decode cX12_keeps 50 = .ok (.isub, 1) := by decide +kernel
theorem dX12_keeps_51 : decode cX12_keeps 51 = .ok (.iastore, 1) := by decide +kernel
theorem dX12_keeps_52 : decode cX12_keeps 52 = .ok (.iconst 0, 1) := by decide +kernel
theorem dX12_keeps_53 : decode cX12_keeps 53 = .ok (.istore_n 1, 1) := by decide +kernel
theorem dX12_keeps_54 : decode cX12_keeps 54 = .ok (.iload_n 1, 1) := by decide +kernel
theorem dX12_keeps_55 : decode cX12_keeps 55 = .ok (.bipush 13, 2) := by decide +kernel
theorem dX12_keeps_57 : decode cX12_keeps 57 = .ok (.if_icmp .ge 37, 3) := by decide +kernel
theorem dX12_keeps_60 : decode cX12_keeps 60 = .ok (.aload_n 0, 1) := by decide +kernel
theorem dX12_keeps_61 : decode cX12_keeps 61 = .ok (.getfield 9, 3) := by decide +kernel
theorem dX12_keeps_64 : decode cX12_keeps 64 = .ok (.bipush 19, 2) := by decide +kernel
theorem dX12_keeps_66 : decode cX12_keeps 66 = .ok (.bipush 13, 2) := by decide +kernel
theorem dX12_keeps_68 : decode cX12_keeps 68 = .ok (.aload_n 0, 1) := by decide +kernel
theorem dX12_keeps_69 : decode cX12_keeps 69 = .ok (.getfield 9, 3) := by decide +kernel
theorem dX12_keeps_72 : decode cX12_keeps 72 = .ok (.iconst 5, 1) := by decide +kernel
theorem dX12_keeps_73 : decode cX12_keeps 73 = .ok (.iaload, 1) := by decide +kernel
theorem dX12_keeps_74 : decode cX12_keeps 74 = .ok (.imul, 1) := by decide +kernel
theorem dX12_keeps_75 : decode cX12_keeps 75 = .ok (.iadd, 1) := by decide +kernel
theorem dX12_keeps_76 : decode cX12_keeps 76 = .ok (.iload_n 1, 1) := by decide +kernel
theorem dX12_keeps_77 : decode cX12_keeps 77 = .ok (.iadd, 1) := by decide +kernel
theorem dX12_keeps_78 : decode cX12_keeps 78 = .ok (.aload_n 0, 1) := by decide +kernel
theorem dX12_keeps_79 : decode cX12_keeps 79 = .ok (.getfield 9, 3) := by decide +kernel
theorem dX12_keeps_82 : decode cX12_keeps 82 = .ok (.bipush 6, 2) := by decide +kernel
theorem dX12_keeps_84 : decode cX12_keeps 84 = .ok (.iload_n 1, 1) := by decide +kernel
theorem dX12_keeps_85 : decode cX12_keeps 85 = .ok (.iadd, 1) := by decide +kernel
theorem dX12_keeps_86 : decode cX12_keeps 86 = .ok (.iaload, 1) := by decide +kernel
theorem dX12_keeps_87 : decode cX12_keeps 87 = .ok (.iastore, 1) := by decide +kernel
theorem dX12_keeps_88 : decode cX12_keeps 88 = .ok (.iinc 1 1, 3) := by decide +kernel
theorem dX12_keeps_91 : decode cX12_keeps 91 = .ok (.goto (-37), 3) := by decide +kernel
theorem dX12_keeps_94 : decode cX12_keeps 94 = .ok (.aload_n 0, 1) := by decide +kernel
theorem dX12_keeps_95 : decode cX12_keeps 95 = .ok (.getfield 9, 3) := by decide +kernel
theorem dX12_keeps_98 : decode cX12_keeps 98 = .ok (.iconst 5, 1) := by decide +kernel
theorem dX12_keeps_99 : decode cX12_keeps 99 = .ok (.dup2, 1) := by decide +kernel
theorem dX12_keeps_100 : decode cX12_keeps 100 = .ok (.iaload, 1) := by decide +kernel
theorem dX12_keeps_101 : decode cX12_keeps 101 = .ok (.iconst 1, 1) := by decide +kernel
theorem dX12_keeps_102 : decode cX12_keeps 102 = .ok (.iadd, 1) := by decide +kernel
theorem dX12_keeps_103 : decode cX12_keeps 103 = .ok (.iastore, 1) := by decide +kernel
theorem dX12_keeps_104 : decode cX12_keeps 104 = .ok (.return_, 1) := by decide +kernel
theorem dX12_putsAside_0 : decode cX12_putsAside 0 = .ok (.iconst 0, 1) := by decide +kernel
theorem dX12_putsAside_1 : decode cX12_putsAside 1 = .ok (.istore_n 1, 1) := by decide +kernel
theorem dX12_putsAside_2 : decode cX12_putsAside 2 = .ok (.iload_n 1, 1) := by decide +kernel
theorem dX12_putsAside_3 : decode cX12_putsAside 3 = .ok (.bipush 13, 2) := by decide +kernel
theorem dX12_putsAside_5 : decode cX12_putsAside 5 = .ok (.if_icmp .ge 24, 3) := by decide +kernel
theorem dX12_putsAside_8 : decode cX12_putsAside 8 = .ok (.aload_n 0, 1) := by decide +kernel
theorem dX12_putsAside_9 : decode cX12_putsAside 9 = .ok (.getfield 45, 3) := by decide +kernel
theorem dX12_putsAside_12 : decode cX12_putsAside 12 = .ok (.iload_n 1, 1) := by decide +kernel
theorem dX12_putsAside_13 : decode cX12_putsAside 13 = .ok (.aload_n 0, 1) := by decide +kernel
theorem dX12_putsAside_14 : decode cX12_putsAside 14 = .ok (.getfield 9, 3) := by decide +kernel
theorem dX12_putsAside_17 : decode cX12_putsAside 17 = .ok (.bipush 6, 2) := by decide +kernel
theorem dX12_putsAside_19 : decode cX12_putsAside 19 = .ok (.iload_n 1, 1) := by decide +kernel
theorem dX12_putsAside_20 : decode cX12_putsAside 20 = .ok (.iadd, 1) := by decide +kernel
theorem dX12_putsAside_21 : decode cX12_putsAside 21 = .ok (.iaload, 1) := by decide +kernel
theorem dX12_putsAside_22 : decode cX12_putsAside 22 = .ok (.iastore, 1) := by decide +kernel
theorem dX12_putsAside_23 : decode cX12_putsAside 23 = .ok (.iinc 1 1, 3) := by decide +kernel
theorem dX12_putsAside_26 : decode cX12_putsAside 26 = .ok (.goto (-24), 3) := by decide +kernel
theorem dX12_putsAside_29 : decode cX12_putsAside 29 = .ok (.return_, 1) := by decide +kernel
theorem dX12_putsBack_0 : decode cX12_putsBack 0 = .ok (.iconst 0, 1) := by decide +kernel
theorem dX12_putsBack_1 : decode cX12_putsBack 1 = .ok (.istore_n 1, 1) := by decide +kernel
theorem dX12_putsBack_2 : decode cX12_putsBack 2 = .ok (.iload_n 1, 1) := by decide +kernel
theorem dX12_putsBack_3 : decode cX12_putsBack 3 = .ok (.bipush 13, 2) := by decide +kernel
theorem dX12_putsBack_5 : decode cX12_putsBack 5 = .ok (.if_icmp .ge 24, 3) := by decide +kernel
theorem dX12_putsBack_8 : decode cX12_putsBack 8 = .ok (.aload_n 0, 1) := by decide +kernel
theorem dX12_putsBack_9 : decode cX12_putsBack 9 = .ok (.getfield 9, 3) := by decide +kernel
theorem dX12_putsBack_12 : decode cX12_putsBack 12 = .ok (.bipush 6, 2) := by decide +kernel
theorem dX12_putsBack_14 : decode cX12_putsBack 14 = .ok (.iload_n 1, 1) := by decide +kernel
theorem dX12_putsBack_15 : decode cX12_putsBack 15 = .ok (.iadd, 1) := by decide +kernel
theorem dX12_putsBack_16 : decode cX12_putsBack 16 = .ok (.aload_n 0, 1) := by decide +kernel
theorem dX12_putsBack_17 : decode cX12_putsBack 17 = .ok (.getfield 45, 3) := by decide +kernel
theorem dX12_putsBack_20 : decode cX12_putsBack 20 = .ok (.iload_n 1, 1) := by decide +kernel
theorem dX12_putsBack_21 : decode cX12_putsBack 21 = .ok (.iaload, 1) := by decide +kernel
theorem dX12_putsBack_22 : decode cX12_putsBack 22 = .ok (.iastore, 1) := by decide +kernel
theorem dX12_putsBack_23 : decode cX12_putsBack 23 = .ok (.iinc 1 1, 3) := by decide +kernel
theorem dX12_putsBack_26 : decode cX12_putsBack 26 = .ok (.goto (-24), 3) := by decide +kernel
theorem dX12_putsBack_29 : decode cX12_putsBack 29 = .ok (.return_, 1) := by decide +kernel
theorem dX12_whyTurn_0 : decode cX12_whyTurn 0 = .ok (.aload_n 0, 1) := by decide +kernel
theorem dX12_whyTurn_1 : decode cX12_whyTurn 1 = .ok (.lload_n 1, 1) := by decide +kernel
theorem dX12_whyTurn_2 : decode cX12_whyTurn 2 = .ok (.invokevirtual 319, 3) := by decide +kernel
theorem dX12_whyTurn_5 : decode cX12_whyTurn 5 = .ok (.ifCond .eq 18, 3) := by decide +kernel
theorem dX12_whyTurn_8 : decode cX12_whyTurn 8 = .ok (.lload_n 3, 1) := by decide +kernel
theorem dX12_whyTurn_9 : decode cX12_whyTurn 9 = .ok (.lconst 1, 1) := by decide +kernel
theorem dX12_whyTurn_10 : decode cX12_whyTurn 10 = .ok (.aload_n 0, 1) := by decide +kernel
theorem dX12_whyTurn_11 : decode cX12_whyTurn 11 = .ok (.invokevirtual 254, 3) := by decide +kernel
theorem dX12_whyTurn_14 : decode cX12_whyTurn 14 = .ok (.iconst 1, 1) := by decide +kernel
theorem dX12_whyTurn_15 : decode cX12_whyTurn 15 = .ok (.isub, 1) := by decide +kernel
theorem dX12_whyTurn_16 : decode cX12_whyTurn 16 = .ok (.i2l, 1) := by decide +kernel
theorem dX12_whyTurn_17 : decode cX12_whyTurn 17 = .ok (.invokestatic 147, 3) := by decide +kernel
theorem dX12_whyTurn_20 : decode cX12_whyTurn 20 = .ok (.ifCond .ne 7, 3) := by decide +kernel
theorem dX12_whyTurn_23 : decode cX12_whyTurn 23 = .ok (.iconst 1, 1) := by decide +kernel
theorem dX12_whyTurn_24 : decode cX12_whyTurn 24 = .ok (.goto 17, 3) := by decide +kernel
theorem dX12_whyTurn_27 : decode cX12_whyTurn 27 = .ok (.aload_n 0, 1) := by decide +kernel
theorem dX12_whyTurn_28 : decode cX12_whyTurn 28 = .ok (.lload_n 1, 1) := by decide +kernel
theorem dX12_whyTurn_29 : decode cX12_whyTurn 29 = .ok (.l2i, 1) := by decide +kernel
theorem dX12_whyTurn_30 : decode cX12_whyTurn 30 = .ok (.invokevirtual 287, 3) := by decide +kernel
theorem dX12_whyTurn_33 : decode cX12_whyTurn 33 = .ok (.ifCond .eq 7, 3) := by decide +kernel
theorem dX12_whyTurn_36 : decode cX12_whyTurn 36 = .ok (.iconst 2, 1) := by decide +kernel
theorem dX12_whyTurn_37 : decode cX12_whyTurn 37 = .ok (.goto 4, 3) := by decide +kernel
theorem dX12_whyTurn_40 : decode cX12_whyTurn 40 = .ok (.iconst 0, 1) := by decide +kernel
theorem dX12_whyTurn_41 : decode cX12_whyTurn 41 = .ok (.ireturn, 1) := by decide +kernel
theorem dX12_turnsBy_0 : decode cX12_turnsBy 0 = .ok (.aload_n 0, 1) := by decide +kernel
theorem dX12_turnsBy_1 : decode cX12_turnsBy 1 = .ok (.iload_n 1, 1) := by decide +kernel
theorem dX12_turnsBy_2 : decode cX12_turnsBy 2 = .ok (.invokevirtual 331, 3) := by decide +kernel
theorem dX12_turnsBy_5 : decode cX12_turnsBy 5 = .ok (.istore_n 3, 1) := by decide +kernel
theorem dX12_turnsBy_6 : decode cX12_turnsBy 6 = .ok (.iconst 0, 1) := by decide +kernel
theorem dX12_turnsBy_7 : decode cX12_turnsBy 7 = .ok (.istore 4, 2) := by decide +kernel
theorem dX12_turnsBy_9 : decode cX12_turnsBy 9 = .ok (.iload 4, 2) := by decide +kernel
theorem dX12_turnsBy_11 : decode cX12_turnsBy 11 = .ok (.aload_n 0, 1) := by decide +kernel
theorem dX12_turnsBy_12 : decode cX12_turnsBy 12 = .ok (.invokevirtual 254, 3) := by decide +kernel
theorem dX12_turnsBy_15 : decode cX12_turnsBy 15 = .ok (.if_icmp .ge 45, 3) := by decide +kernel
theorem dX12_turnsBy_18 : decode cX12_turnsBy 18 = .ok (.iload_n 3, 1) := by decide +kernel
theorem dX12_turnsBy_19 : decode cX12_turnsBy 19 = .ok (.iload 4, 2) := by decide +kernel
theorem dX12_turnsBy_21 : decode cX12_turnsBy 21 = .ok (.invokestatic 257, 3) := by decide +kernel
theorem dX12_turnsBy_24 : decode cX12_turnsBy 24 = .ok (.ifCond .eq 30, 3) := by decide +kernel
theorem dX12_turnsBy_27 : decode cX12_turnsBy 27 = .ok (.aload_n 0, 1) := by decide +kernel
theorem dX12_turnsBy_28 : decode cX12_turnsBy 28 = .ok (.getfield 9, 3) := by decide +kernel
theorem dX12_turnsBy_31 : decode cX12_turnsBy 31 = .ok (.bipush 6, 2) := by decide +kernel
theorem dX12_turnsBy_33 : decode cX12_turnsBy 33 = .ok (.iload 4, 2) := by decide +kernel
theorem dX12_turnsBy_35 : decode cX12_turnsBy 35 = .ok (.iadd, 1) := by decide +kernel
theorem dX12_turnsBy_36 : decode cX12_turnsBy 36 = .ok (.aload_n 0, 1) := by decide +kernel
theorem dX12_turnsBy_37 : decode cX12_turnsBy 37 = .ok (.getfield 9, 3) := by decide +kernel
theorem dX12_turnsBy_40 : decode cX12_turnsBy 40 = .ok (.bipush 6, 2) := by decide +kernel
theorem dX12_turnsBy_42 : decode cX12_turnsBy 42 = .ok (.iload 4, 2) := by decide +kernel
theorem dX12_turnsBy_44 : decode cX12_turnsBy 44 = .ok (.iadd, 1) := by decide +kernel
theorem dX12_turnsBy_45 : decode cX12_turnsBy 45 = .ok (.iaload, 1) := by decide +kernel
theorem dX12_turnsBy_46 : decode cX12_turnsBy 46 = .ok (.iload_n 2, 1) := by decide +kernel
theorem dX12_turnsBy_47 : decode cX12_turnsBy 47 = .ok (.iadd, 1) := by decide +kernel
theorem dX12_turnsBy_48 : decode cX12_turnsBy 48 = .ok (.aload_n 0, 1) := by decide +kernel
theorem dX12_turnsBy_49 : decode cX12_turnsBy 49 = .ok (.invokevirtual 254, 3) := by decide +kernel
theorem dX12_turnsBy_52 : decode cX12_turnsBy 52 = .ok (.irem, 1) := by decide +kernel
theorem dX12_turnsBy_53 : decode cX12_turnsBy 53 = .ok (.iastore, 1) := by decide +kernel
theorem dX12_turnsBy_54 : decode cX12_turnsBy 54 = .ok (.iinc 4 1, 3) := by decide +kernel
theorem dX12_turnsBy_57 : decode cX12_turnsBy 57 = .ok (.goto (-48), 3) := by decide +kernel
theorem dX12_turnsBy_60 : decode cX12_turnsBy 60 = .ok (.return_, 1) := by decide +kernel
theorem dX12_minuteNow_0 : decode cX12_minuteNow 0 = .ok (.aload_n 0, 1) := by decide +kernel
theorem dX12_minuteNow_1 : decode cX12_minuteNow 1 = .ok (.invokevirtual 310, 3) := by decide +kernel
theorem dX12_minuteNow_4 : decode cX12_minuteNow 4 = .ok (.aload_n 0, 1) := by decide +kernel
theorem dX12_minuteNow_5 : decode cX12_minuteNow 5 = .ok (.invokevirtual 334, 3) := by decide +kernel
theorem dX12_minuteNow_8 : decode cX12_minuteNow 8 = .ok (.iconst 0, 1) := by decide +kernel
theorem dX12_minuteNow_9 : decode cX12_minuteNow 9 = .ok (.istore_n 1, 1) := by decide +kernel
theorem dX12_minuteNow_10 : decode cX12_minuteNow 10 = .ok (.iload_n 1, 1) := by decide +kernel
theorem dX12_minuteNow_11 : decode cX12_minuteNow 11 = .ok (.aload_n 0, 1) := by decide +kernel
theorem dX12_minuteNow_12 : decode cX12_minuteNow 12 = .ok (.invokevirtual 254, 3) := by decide +kernel
theorem dX12_minuteNow_15 : decode cX12_minuteNow 15 = .ok (.if_icmp .ge 24, 3) := by decide +kernel
theorem dX12_minuteNow_18 : decode cX12_minuteNow 18 = .ok (.aload_n 0, 1) := by decide +kernel
theorem dX12_minuteNow_19 : decode cX12_minuteNow 19 = .ok (.getfield 9, 3) := by decide +kernel
theorem dX12_minuteNow_22 : decode cX12_minuteNow 22 = .ok (.bipush 6, 2) := by decide +kernel
theorem dX12_minuteNow_24 : decode cX12_minuteNow 24 = .ok (.iload_n 1, 1) := by decide +kernel
theorem dX12_minuteNow_25 : decode cX12_minuteNow 25 = .ok (.iadd, 1) := by decide +kernel
theorem dX12_minuteNow_26 : decode cX12_minuteNow 26 = .ok (.aload_n 0, 1) := by decide +kernel
theorem dX12_minuteNow_27 : decode cX12_minuteNow 27 = .ok (.getfield 36, 3) := by decide +kernel
theorem dX12_minuteNow_30 : decode cX12_minuteNow 30 = .ok (.iload_n 1, 1) := by decide +kernel
theorem dX12_minuteNow_31 : decode cX12_minuteNow 31 = .ok (.iaload, 1) := by decide +kernel
theorem dX12_minuteNow_32 : decode cX12_minuteNow 32 = .ok (.iastore, 1) := by decide +kernel
theorem dX12_minuteNow_33 : decode cX12_minuteNow 33 = .ok (.iinc 1 1, 3) := by decide +kernel
theorem dX12_minuteNow_36 : decode cX12_minuteNow 36 = .ok (.goto (-26), 3) := by decide +kernel
theorem dX12_minuteNow_39 : decode cX12_minuteNow 39 = .ok (.return_, 1) := by decide +kernel
theorem dX12_turn_0 : decode cX12_turn 0 = .ok (.aload_n 0, 1) := by decide +kernel
theorem dX12_turn_1 : decode cX12_turn 1 = .ok (.iconst 0, 1) := by decide +kernel
theorem dX12_turn_2 : decode cX12_turn 2 = .ok (.putfield 86, 3) := by decide +kernel
theorem dX12_turn_5 : decode cX12_turn 5 = .ok (.aload_n 0, 1) := by decide +kernel
theorem dX12_turn_6 : decode cX12_turn 6 = .ok (.iload_n 1, 1) := by decide +kernel
theorem dX12_turn_7 : decode cX12_turn 7 = .ok (.i2l, 1) := by decide +kernel
theorem dX12_turn_8 : decode cX12_turn 8 = .ok (.iload_n 2, 1) := by decide +kernel
theorem dX12_turn_9 : decode cX12_turn 9 = .ok (.i2l, 1) := by decide +kernel
theorem dX12_turn_10 : decode cX12_turn 10 = .ok (.invokevirtual 337, 3) := by decide +kernel
theorem dX12_turn_13 : decode cX12_turn 13 = .ok (.istore_n 3, 1) := by decide +kernel
theorem dX12_turn_14 : decode cX12_turn 14 = .ok (.iload_n 3, 1) := by decide +kernel
theorem dX12_turn_15 : decode cX12_turn 15 = .ok (.ifCond .eq 6, 3) := by decide +kernel
theorem dX12_turn_18 : decode cX12_turn 18 = .ok (.iload_n 3, 1) := by decide +kernel
theorem dX12_turn_19 : decode cX12_turn 19 = .ok (.ineg, 1) := by decide +kernel
theorem dX12_turn_20 : decode cX12_turn 20 = .ok (.ireturn, 1) := by decide +kernel
theorem dX12_turn_21 : decode cX12_turn 21 = .ok (.aload_n 0, 1) := by decide +kernel
theorem dX12_turn_22 : decode cX12_turn 22 = .ok (.invokevirtual 341, 3) := by decide +kernel
theorem dX12_turn_25 : decode cX12_turn 25 = .ok (.aload_n 0, 1) := by decide +kernel
theorem dX12_turn_26 : decode cX12_turn 26 = .ok (.iload_n 1, 1) := by decide +kernel
theorem dX12_turn_27 : decode cX12_turn 27 = .ok (.iload_n 2, 1) := by decide +kernel
theorem dX12_turn_28 : decode cX12_turn 28 = .ok (.invokevirtual 344, 3) := by decide +kernel
theorem dX12_turn_31 : decode cX12_turn 31 = .ok (.iload_n 2, 1) := by decide +kernel
theorem dX12_turn_32 : decode cX12_turn 32 = .ok (.aload_n 0, 1) := by decide +kernel
theorem dX12_turn_33 : decode cX12_turn 33 = .ok (.iload_n 1, 1) := by decide +kernel
theorem dX12_turn_34 : decode cX12_turn 34 = .ok (.invokevirtual 325, 3) := by decide +kernel
theorem dX12_turn_37 : decode cX12_turn 37 = .ok (.imul, 1) := by decide +kernel
theorem dX12_turn_38 : decode cX12_turn 38 = .ok (.ireturn, 1) := by decide +kernel
theorem dX12_weigh_0 : decode cX12_weigh 0 = .ok (.aload_n 0, 1) := by decide +kernel
theorem dX12_weigh_1 : decode cX12_weigh 1 = .ok (.iconst 0, 1) := by decide +kernel
theorem dX12_weigh_2 : decode cX12_weigh 2 = .ok (.putfield 86, 3) := by decide +kernel
theorem dX12_weigh_5 : decode cX12_weigh 5 = .ok (.aload_n 0, 1) := by decide +kernel
theorem dX12_weigh_6 : decode cX12_weigh 6 = .ok (.iload_n 1, 1) := by decide +kernel
theorem dX12_weigh_7 : decode cX12_weigh 7 = .ok (.i2l, 1) := by decide +kernel
theorem dX12_weigh_8 : decode cX12_weigh 8 = .ok (.invokevirtual 319, 3) := by decide +kernel
theorem dX12_weigh_11 : decode cX12_weigh 11 = .ok (.ifCond .eq 15, 3) := by decide +kernel
theorem dX12_weigh_14 : decode cX12_weigh 14 = .ok (.iload_n 2, 1) := by decide +kernel
theorem dX12_weigh_15 : decode cX12_weigh 15 = .ok (.i2l, 1) := by decide +kernel
theorem dX12_weigh_16 : decode cX12_weigh 16 = .ok (.lconst 1, 1) := by decide +kernel
theorem dX12_weigh_17 : decode cX12_weigh 17 = .ok (.ldc2_w 347, 3) := by decide +kernel
theorem dX12_weigh_20 : decode cX12_weigh 20 = .ok (.invokestatic 147, 3) := by decide +kernel
theorem dX12_weigh_23 : decode cX12_weigh 23 = .ok (.ifCond .ne 5, 3) := by decide +kernel
theorem dX12_weigh_26 : decode cX12_weigh 26 = .ok (.iconst (-1), 1) := by decide +kernel
theorem dX12_weigh_27 : decode cX12_weigh 27 = .ok (.ireturn, 1) := by decide +kernel
theorem dX12_weigh_28 : decode cX12_weigh 28 = .ok (.aload_n 0, 1) := by decide +kernel
theorem dX12_weigh_29 : decode cX12_weigh 29 = .ok (.invokevirtual 341, 3) := by decide +kernel
theorem dX12_weigh_32 : decode cX12_weigh 32 = .ok (.aload_n 0, 1) := by decide +kernel
theorem dX12_weigh_33 : decode cX12_weigh 33 = .ok (.getfield 9, 3) := by decide +kernel
theorem dX12_weigh_36 : decode cX12_weigh 36 = .ok (.bipush 12, 2) := by decide +kernel
theorem dX12_weigh_38 : decode cX12_weigh 38 = .ok (.iload_n 1, 1) := by decide +kernel
theorem dX12_weigh_39 : decode cX12_weigh 39 = .ok (.iadd, 1) := by decide +kernel
theorem dX12_weigh_40 : decode cX12_weigh 40 = .ok (.iaload, 1) := by decide +kernel
theorem dX12_weigh_41 : decode cX12_weigh 41 = .ok (.istore_n 3, 1) := by decide +kernel
theorem dX12_weigh_42 : decode cX12_weigh 42 = .ok (.aload_n 0, 1) := by decide +kernel
theorem dX12_weigh_43 : decode cX12_weigh 43 = .ok (.getfield 9, 3) := by decide +kernel
theorem dX12_weigh_46 : decode cX12_weigh 46 = .ok (.bipush 12, 2) := by decide +kernel
theorem dX12_weigh_48 : decode cX12_weigh 48 = .ok (.iload_n 1, 1) := by decide +kernel
theorem dX12_weigh_49 : decode cX12_weigh 49 = .ok (.iadd, 1) := by decide +kernel
theorem dX12_weigh_50 : decode cX12_weigh 50 = .ok (.iload_n 2, 1) := by decide +kernel
theorem dX12_weigh_51 : decode cX12_weigh 51 = .ok (.iastore, 1) := by decide +kernel
theorem dX12_weigh_52 : decode cX12_weigh 52 = .ok (.iload_n 3, 1) := by decide +kernel
theorem dX12_weigh_53 : decode cX12_weigh 53 = .ok (.ireturn, 1) := by decide +kernel
theorem dX12_stick_0 : decode cX12_stick 0 = .ok (.aload_n 0, 1) := by decide +kernel
theorem dX12_stick_1 : decode cX12_stick 1 = .ok (.iconst 0, 1) := by decide +kernel
theorem dX12_stick_2 : decode cX12_stick 2 = .ok (.putfield 86, 3) := by decide +kernel
theorem dX12_stick_5 : decode cX12_stick 5 = .ok (.aload_n 0, 1) := by decide +kernel
theorem dX12_stick_6 : decode cX12_stick 6 = .ok (.iload_n 1, 1) := by decide +kernel
theorem dX12_stick_7 : decode cX12_stick 7 = .ok (.i2l, 1) := by decide +kernel
theorem dX12_stick_8 : decode cX12_stick 8 = .ok (.invokevirtual 319, 3) := by decide +kernel
theorem dX12_stick_11 : decode cX12_stick 11 = .ok (.ifCond .ne 5, 3) := by decide +kernel
theorem dX12_stick_14 : decode cX12_stick 14 = .ok (.iconst (-1), 1) := by decide +kernel
theorem dX12_stick_15 : decode cX12_stick 15 = .ok (.ireturn, 1) := by decide +kernel
theorem dX12_stick_16 : decode cX12_stick 16 = .ok (.aload_n 0, 1) := by decide +kernel
theorem dX12_stick_17 : decode cX12_stick 17 = .ok (.invokevirtual 341, 3) := by decide +kernel
theorem dX12_stick_20 : decode cX12_stick 20 = .ok (.aload_n 0, 1) := by decide +kernel
theorem dX12_stick_21 : decode cX12_stick 21 = .ok (.getfield 9, 3) := by decide +kernel
theorem dX12_stick_24 : decode cX12_stick 24 = .ok (.bipush 18, 2) := by decide +kernel
theorem dX12_stick_26 : decode cX12_stick 26 = .ok (.dup2, 1) := by decide +kernel
theorem dX12_stick_27 : decode cX12_stick 27 = .ok (.iaload, 1) := by decide +kernel
theorem dX12_stick_28 : decode cX12_stick 28 = .ok (.iconst 1, 1) := by decide +kernel
theorem dX12_stick_29 : decode cX12_stick 29 = .ok (.iload_n 1, 1) := by decide +kernel
theorem dX12_stick_30 : decode cX12_stick 30 = .ok (.ishl, 1) := by decide +kernel
theorem dX12_stick_31 : decode cX12_stick 31 = .ok (.ixor, 1) := by decide +kernel
theorem dX12_stick_32 : decode cX12_stick 32 = .ok (.iastore, 1) := by decide +kernel
theorem dX12_stick_33 : decode cX12_stick 33 = .ok (.aload_n 0, 1) := by decide +kernel
theorem dX12_stick_34 : decode cX12_stick 34 = .ok (.iload_n 1, 1) := by decide +kernel
theorem dX12_stick_35 : decode cX12_stick 35 = .ok (.invokevirtual 287, 3) := by decide +kernel
theorem dX12_stick_38 : decode cX12_stick 38 = .ok (.ifCond .eq 7, 3) := by decide +kernel
theorem dX12_stick_41 : decode cX12_stick 41 = .ok (.iconst 1, 1) := by decide +kernel
theorem dX12_stick_42 : decode cX12_stick 42 = .ok (.goto 4, 3) := by decide +kernel
theorem dX12_stick_45 : decode cX12_stick 45 = .ok (.iconst 0, 1) := by decide +kernel
theorem dX12_stick_46 : decode cX12_stick 46 = .ok (.ireturn, 1) := by decide +kernel
theorem dX12_minutes_0 : decode cX12_minutes 0 = .ok (.aload_n 0, 1) := by decide +kernel
theorem dX12_minutes_1 : decode cX12_minutes 1 = .ok (.iconst 0, 1) := by decide +kernel
theorem dX12_minutes_2 : decode cX12_minutes 2 = .ok (.putfield 86, 3) := by decide +kernel
theorem dX12_minutes_5 : decode cX12_minutes 5 = .ok (.iload_n 1, 1) := by decide +kernel
theorem dX12_minutes_6 : decode cX12_minutes 6 = .ok (.i2l, 1) := by decide +kernel
theorem dX12_minutes_7 : decode cX12_minutes 7 = .ok (.lconst 1, 1) := by decide +kernel
theorem dX12_minutes_8 : decode cX12_minutes 8 = .ok (.ldc2_w 349, 3) := by decide +kernel
theorem dX12_minutes_11 : decode cX12_minutes 11 = .ok (.invokestatic 147, 3) := by decide +kernel
theorem dX12_minutes_14 : decode cX12_minutes 14 = .ok (.ifCond .ne 9, 3) := by decide +kernel
theorem dX12_minutes_17 : decode cX12_minutes 17 = .ok (.aload_n 0, 1) := by decide +kernel
theorem dX12_minutes_18 : decode cX12_minutes 18 = .ok (.iconst 1, 1) := by decide +kernel
theorem dX12_minutes_19 : decode cX12_minutes 19 = .ok (.invokevirtual 239, 3) := by decide +kernel
theorem dX12_minutes_22 : decode cX12_minutes 22 = .ok (.ireturn, 1) := by decide +kernel
theorem dX12_minutes_23 : decode cX12_minutes 23 = .ok (.aload_n 0, 1) := by decide +kernel
theorem dX12_minutes_24 : decode cX12_minutes 24 = .ok (.invokevirtual 341, 3) := by decide +kernel
theorem dX12_minutes_27 : decode cX12_minutes 27 = .ok (.iconst 0, 1) := by decide +kernel
theorem dX12_minutes_28 : decode cX12_minutes 28 = .ok (.istore_n 2, 1) := by decide +kernel
theorem dX12_minutes_29 : decode cX12_minutes 29 = .ok (.aload_n 0, 1) := by decide +kernel
theorem dX12_minutes_30 : decode cX12_minutes 30 = .ok (.invokevirtual 328, 3) := by decide +kernel
theorem dX12_minutes_33 : decode cX12_minutes 33 = .ok (.istore_n 3, 1) := by decide +kernel
theorem dX12_minutes_34 : decode cX12_minutes 34 = .ok (.iconst 0, 1) := by decide +kernel
theorem dX12_minutes_35 : decode cX12_minutes 35 = .ok (.istore 4, 2) := by decide +kernel
theorem dX12_minutes_37 : decode cX12_minutes 37 = .ok (.iload 4, 2) := by decide +kernel
theorem dX12_minutes_39 : decode cX12_minutes 39 = .ok (.iload_n 1, 1) := by decide +kernel
theorem dX12_minutes_40 : decode cX12_minutes 40 = .ok (.if_icmp .ge 36, 3) := by decide +kernel
theorem dX12_minutes_43 : decode cX12_minutes 43 = .ok (.aload_n 0, 1) := by decide +kernel
theorem dX12_minutes_44 : decode cX12_minutes 44 = .ok (.invokevirtual 351, 3) := by decide +kernel
theorem dX12_minutes_47 : decode cX12_minutes 47 = .ok (.aload_n 0, 1) := by decide +kernel
theorem dX12_minutes_48 : decode cX12_minutes 48 = .ok (.invokevirtual 328, 3) := by decide +kernel
theorem dX12_minutes_51 : decode cX12_minutes 51 = .ok (.istore 5, 2) := by decide +kernel
theorem dX12_minutes_53 : decode cX12_minutes 53 = .ok (.iload_n 2, 1) := by decide +kernel
theorem dX12_minutes_54 : decode cX12_minutes 54 = .ok (.iload 5, 2) := by decide +kernel
theorem dX12_minutes_56 : decode cX12_minutes 56 = .ok (.iload_n 3, 1) := by decide +kernel
theorem dX12_minutes_57 : decode cX12_minutes 57 = .ok (.if_icmp .ne 7, 3) := by decide +kernel
theorem dX12_minutes_60 : decode cX12_minutes 60 = .ok (.iconst 0, 1) := by decide +kernel
theorem dX12_minutes_61 : decode cX12_minutes 61 = .ok (.goto 4, 3) := by decide +kernel
theorem dX12_minutes_64 : decode cX12_minutes 64 = .ok (.iconst 1, 1) := by decide +kernel
theorem dX12_minutes_65 : decode cX12_minutes 65 = .ok (.iadd, 1) := by decide +kernel
theorem dX12_minutes_66 : decode cX12_minutes 66 = .ok (.istore_n 2, 1) := by decide +kernel
theorem dX12_minutes_67 : decode cX12_minutes 67 = .ok (.iload 5, 2) := by decide +kernel
theorem dX12_minutes_69 : decode cX12_minutes 69 = .ok (.istore_n 3, 1) := by decide +kernel
theorem dX12_minutes_70 : decode cX12_minutes 70 = .ok (.iinc 4 1, 3) := by decide +kernel
theorem dX12_minutes_73 : decode cX12_minutes 73 = .ok (.goto (-36), 3) := by decide +kernel
theorem dX12_minutes_76 : decode cX12_minutes 76 = .ok (.iload_n 2, 1) := by decide +kernel
theorem dX12_minutes_77 : decode cX12_minutes 77 = .ok (.ireturn, 1) := by decide +kernel
theorem dX12_undo_0 : decode cX12_undo 0 = .ok (.aload_n 0, 1) := by decide +kernel
theorem dX12_undo_1 : decode cX12_undo 1 = .ok (.iconst 0, 1) := by decide +kernel
theorem dX12_undo_2 : decode cX12_undo 2 = .ok (.putfield 86, 3) := by decide +kernel
theorem dX12_undo_5 : decode cX12_undo 5 = .ok (.iload_n 1, 1) := by decide +kernel
theorem dX12_undo_6 : decode cX12_undo 6 = .ok (.i2l, 1) := by decide +kernel
theorem dX12_undo_7 : decode cX12_undo 7 = .ok (.lconst 1, 1) := by decide +kernel
theorem dX12_undo_8 : decode cX12_undo 8 = .ok (.ldc2_w 354, 3) := by decide +kernel
theorem dX12_undo_11 : decode cX12_undo 11 = .ok (.invokestatic 147, 3) := by decide +kernel
theorem dX12_undo_14 : decode cX12_undo 14 = .ok (.ifCond .eq 13, 3) := by decide +kernel
theorem dX12_undo_17 : decode cX12_undo 17 = .ok (.iload_n 1, 1) := by decide +kernel
theorem dX12_undo_18 : decode cX12_undo 18 = .ok (.aload_n 0, 1) := by decide +kernel
theorem dX12_undo_19 : decode cX12_undo 19 = .ok (.getfield 9, 3) := by decide +kernel
theorem dX12_undo_22 : decode cX12_undo 22 = .ok (.iconst 5, 1) := by decide +kernel
theorem dX12_undo_23 : decode cX12_undo 23 = .ok (.iaload, 1) := by decide +kernel
theorem dX12_undo_24 : decode cX12_undo 24 = .ok (.if_icmp .le 9, 3) := by decide +kernel
theorem dX12_undo_27 : decode cX12_undo 27 = .ok (.aload_n 0, 1) := by decide +kernel
theorem dX12_undo_28 : decode cX12_undo 28 = .ok (.iconst 1, 1) := by decide +kernel
theorem dX12_undo_29 : decode cX12_undo 29 = .ok (.invokevirtual 239, 3) := by decide +kernel
theorem dX12_undo_32 : decode cX12_undo 32 = .ok (.ireturn, 1) := by decide +kernel
theorem dX12_undo_33 : decode cX12_undo 33 = .ok (.aload_n 0, 1) := by decide +kernel
theorem dX12_undo_34 : decode cX12_undo 34 = .ok (.getfield 9, 3) := by decide +kernel
theorem dX12_undo_37 : decode cX12_undo 37 = .ok (.iconst 5, 1) := by decide +kernel
theorem dX12_undo_38 : decode cX12_undo 38 = .ok (.dup2, 1) := by decide +kernel
theorem dX12_undo_39 : decode cX12_undo 39 = .ok (.iaload, 1) := by decide +kernel
theorem dX12_undo_40 : decode cX12_undo 40 = .ok (.iload_n 1, 1) := by decide +kernel
theorem dX12_undo_41 : decode cX12_undo 41 = .ok (.isub, 1) := by decide +kernel
theorem dX12_undo_42 : decode cX12_undo 42 = .ok (.iastore, 1) := by decide +kernel
theorem dX12_undo_43 : decode cX12_undo 43 = .ok (.iconst 0, 1) := by decide +kernel
theorem dX12_undo_44 : decode cX12_undo 44 = .ok (.istore_n 2, 1) := by decide +kernel
theorem dX12_undo_45 : decode cX12_undo 45 = .ok (.iload_n 2, 1) := by decide +kernel
theorem dX12_undo_46 : decode cX12_undo 46 = .ok (.bipush 13, 2) := by decide +kernel
theorem dX12_undo_48 : decode cX12_undo 48 = .ok (.if_icmp .ge 37, 3) := by decide +kernel
theorem dX12_undo_51 : decode cX12_undo 51 = .ok (.aload_n 0, 1) := by decide +kernel
theorem dX12_undo_52 : decode cX12_undo 52 = .ok (.getfield 9, 3) := by decide +kernel
theorem dX12_undo_55 : decode cX12_undo 55 = .ok (.bipush 6, 2) := by decide +kernel
theorem dX12_undo_57 : decode cX12_undo 57 = .ok (.iload_n 2, 1) := by decide +kernel
theorem dX12_undo_58 : decode cX12_undo 58 = .ok (.iadd, 1) := by decide +kernel
theorem dX12_undo_59 : decode cX12_undo 59 = .ok (.aload_n 0, 1) := by decide +kernel
theorem dX12_undo_60 : decode cX12_undo 60 = .ok (.getfield 9, 3) := by decide +kernel
theorem dX12_undo_63 : decode cX12_undo 63 = .ok (.bipush 19, 2) := by decide +kernel
theorem dX12_undo_65 : decode cX12_undo 65 = .ok (.bipush 13, 2) := by decide +kernel
theorem dX12_undo_67 : decode cX12_undo 67 = .ok (.aload_n 0, 1) := by decide +kernel
theorem dX12_undo_68 : decode cX12_undo 68 = .ok (.getfield 9, 3) := by decide +kernel
theorem dX12_undo_71 : decode cX12_undo 71 = .ok (.iconst 5, 1) := by decide +kernel
theorem dX12_undo_72 : decode cX12_undo 72 = .ok (.iaload, 1) := by decide +kernel
theorem dX12_undo_73 : decode cX12_undo 73 = .ok (.imul, 1) := by decide +kernel
theorem dX12_undo_74 : decode cX12_undo 74 = .ok (.iadd, 1) := by decide +kernel
theorem dX12_undo_75 : decode cX12_undo 75 = .ok (.iload_n 2, 1) := by decide +kernel
theorem dX12_undo_76 : decode cX12_undo 76 = .ok (.iadd, 1) := by decide +kernel
theorem dX12_undo_77 : decode cX12_undo 77 = .ok (.iaload, 1) := by decide +kernel
theorem dX12_undo_78 : decode cX12_undo 78 = .ok (.iastore, 1) := by decide +kernel
theorem dX12_undo_79 : decode cX12_undo 79 = .ok (.iinc 2 1, 3) := by decide +kernel
theorem dX12_undo_82 : decode cX12_undo 82 = .ok (.goto (-37), 3) := by decide +kernel
theorem dX12_undo_85 : decode cX12_undo 85 = .ok (.aload_n 0, 1) := by decide +kernel
theorem dX12_undo_86 : decode cX12_undo 86 = .ok (.getfield 9, 3) := by decide +kernel
theorem dX12_undo_89 : decode cX12_undo 89 = .ok (.iconst 5, 1) := by decide +kernel
theorem dX12_undo_90 : decode cX12_undo 90 = .ok (.iaload, 1) := by decide +kernel
theorem dX12_undo_91 : decode cX12_undo 91 = .ok (.ireturn, 1) := by decide +kernel
theorem dX12_trayFault_0 : decode cX12_trayFault 0 = .ok (.iload_n 1, 1) := by decide +kernel
theorem dX12_trayFault_1 : decode cX12_trayFault 1 = .ok (.invokestatic 356, 3) := by decide +kernel
theorem dX12_trayFault_4 : decode cX12_trayFault 4 = .ok (.ifCond .ne 7, 3) := by decide +kernel
theorem dX12_trayFault_7 : decode cX12_trayFault 7 = .ok (.iconst 1, 1) := by decide +kernel
theorem dX12_trayFault_8 : decode cX12_trayFault 8 = .ok (.goto 18, 3) := by decide +kernel
theorem dX12_trayFault_11 : decode cX12_trayFault 11 = .ok (.aload_n 0, 1) := by decide +kernel
theorem dX12_trayFault_12 : decode cX12_trayFault 12 = .ok (.getfield 76, 3) := by decide +kernel
theorem dX12_trayFault_15 : decode cX12_trayFault 15 = .ok (.iload_n 1, 1) := by decide +kernel
theorem dX12_trayFault_16 : decode cX12_trayFault 16 = .ok (.iaload, 1) := by decide +kernel
theorem dX12_trayFault_17 : decode cX12_trayFault 17 = .ok (.iconst (-1), 1) := by decide +kernel
theorem dX12_trayFault_18 : decode cX12_trayFault 18 = .ok (.if_icmp .ne 7, 3) := by decide +kernel
theorem dX12_trayFault_21 : decode cX12_trayFault 21 = .ok (.iconst 2, 1) := by decide +kernel
theorem dX12_trayFault_22 : decode cX12_trayFault 22 = .ok (.goto 4, 3) := by decide +kernel
theorem dX12_trayFault_25 : decode cX12_trayFault 25 = .ok (.iconst 0, 1) := by decide +kernel
theorem dX12_trayFault_26 : decode cX12_trayFault 26 = .ok (.ireturn, 1) := by decide +kernel
theorem dX12_whyTold_0 : decode cX12_whyTold 0 = .ok (.lload_n 1, 1) := by decide +kernel
theorem dX12_whyTold_1 : decode cX12_whyTold 1 = .ok (.ldc2_w 359, 3) := by decide +kernel
theorem dX12_whyTold_4 : decode cX12_whyTold 4 = .ok (.lcmp, 1) := by decide +kernel
theorem dX12_whyTold_5 : decode cX12_whyTold 5 = .ok (.ifCond .ne 5, 3) := by decide +kernel
theorem dX12_whyTold_8 : decode cX12_whyTold 8 = .ok (.iconst 0, 1) := by decide +kernel
theorem dX12_whyTold_9 : decode cX12_whyTold 9 = .ok (.ireturn, 1) := by decide +kernel
theorem dX12_whyTold_10 : decode cX12_whyTold 10 = .ok (.lload_n 1, 1) := by decide +kernel
theorem dX12_whyTold_11 : decode cX12_whyTold 11 = .ok (.lconst 0, 1) := by decide +kernel
theorem dX12_whyTold_12 : decode cX12_whyTold 12 = .ok (.ldc2_w 349, 3) := by decide +kernel
theorem dX12_whyTold_15 : decode cX12_whyTold 15 = .ok (.invokestatic 147, 3) := by decide +kernel
theorem dX12_whyTold_18 : decode cX12_whyTold 18 = .ok (.ifCond .eq 18, 3) := by decide +kernel
theorem dX12_whyTold_21 : decode cX12_whyTold 21 = .ok (.aload_n 0, 1) := by decide +kernel
theorem dX12_whyTold_22 : decode cX12_whyTold 22 = .ok (.lload_n 1, 1) := by decide +kernel
theorem dX12_whyTold_23 : decode cX12_whyTold 23 = .ok (.ldc2_w 354, 3) := by decide +kernel
theorem dX12_whyTold_26 : decode cX12_whyTold 26 = .ok (.ldiv, 1) := by decide +kernel
theorem dX12_whyTold_27 : decode cX12_whyTold 27 = .ok (.lload_n 1, 1) := by decide +kernel
theorem dX12_whyTold_28 : decode cX12_whyTold 28 = .ok (.ldc2_w 354, 3) := by decide +kernel
theorem dX12_whyTold_31 : decode cX12_whyTold 31 = .ok (.lrem, 1) := by decide +kernel
theorem dX12_whyTold_32 : decode cX12_whyTold 32 = .ok (.invokevirtual 337, 3) := by decide +kernel
theorem dX12_whyTold_35 : decode cX12_whyTold 35 = .ok (.ireturn, 1) := by decide +kernel
theorem dX12_whyTold_36 : decode cX12_whyTold 36 = .ok (.lload_n 1, 1) := by decide +kernel
theorem dX12_whyTold_37 : decode cX12_whyTold 37 = .ok (.ldc2_w 361, 3) := by decide +kernel
theorem dX12_whyTold_40 : decode cX12_whyTold 40 = .ok (.ldc2_w 363, 3) := by decide +kernel
theorem dX12_whyTold_43 : decode cX12_whyTold 43 = .ok (.invokestatic 147, 3) := by decide +kernel
theorem dX12_whyTold_46 : decode cX12_whyTold 46 = .ok (.ifCond .eq 35, 3) := by decide +kernel
theorem dX12_whyTold_49 : decode cX12_whyTold 49 = .ok (.aload_n 0, 1) := by decide +kernel
theorem dX12_whyTold_50 : decode cX12_whyTold 50 = .ok (.lload_n 1, 1) := by decide +kernel
theorem dX12_whyTold_51 : decode cX12_whyTold 51 = .ok (.ldc2_w 361, 3) := by decide +kernel
theorem dX12_whyTold_54 : decode cX12_whyTold 54 = .ok (.lsub, 1) := by decide +kernel
theorem dX12_whyTold_55 : decode cX12_whyTold 55 = .ok (.ldc2_w 354, 3) := by decide +kernel
theorem dX12_whyTold_58 : decode cX12_whyTold 58 = .ok (.ldiv, 1) := by decide +kernel
theorem dX12_whyTold_59 : decode cX12_whyTold 59 = .ok (.invokevirtual 319, 3) := by decide +kernel
theorem dX12_whyTold_62 : decode cX12_whyTold 62 = .ok (.ifCond .eq 17, 3) := by decide +kernel
theorem dX12_whyTold_65 : decode cX12_whyTold 65 = .ok (.lload_n 1, 1) := by decide +kernel
theorem dX12_whyTold_66 : decode cX12_whyTold 66 = .ok (.ldc2_w 354, 3) := by decide +kernel
theorem dX12_whyTold_69 : decode cX12_whyTold 69 = .ok (.lrem, 1) := by decide +kernel
theorem dX12_whyTold_70 : decode cX12_whyTold 70 = .ok (.lconst 0, 1) := by decide +kernel
theorem dX12_whyTold_71 : decode cX12_whyTold 71 = .ok (.lcmp, 1) := by decide +kernel
theorem dX12_whyTold_72 : decode cX12_whyTold 72 = .ok (.ifCond .le 7, 3) := by decide +kernel
theorem dX12_whyTold_75 : decode cX12_whyTold 75 = .ok (.iconst 0, 1) := by decide +kernel
theorem dX12_whyTold_76 : decode cX12_whyTold 76 = .ok (.goto 4, 3) := by decide +kernel
theorem dX12_whyTold_79 : decode cX12_whyTold 79 = .ok (.iconst 1, 1) := by decide +kernel
theorem dX12_whyTold_80 : decode cX12_whyTold 80 = .ok (.ireturn, 1) := by decide +kernel
theorem dX12_whyTold_81 : decode cX12_whyTold 81 = .ok (.lload_n 1, 1) := by decide +kernel
theorem dX12_whyTold_82 : decode cX12_whyTold 82 = .ok (.ldc2_w 365, 3) := by decide +kernel
theorem dX12_whyTold_85 : decode cX12_whyTold 85 = .ok (.ldc2_w 367, 3) := by decide +kernel
theorem dX12_whyTold_88 : decode cX12_whyTold 88 = .ok (.invokestatic 147, 3) := by decide +kernel
theorem dX12_whyTold_91 : decode cX12_whyTold 91 = .ok (.ifCond .eq 19, 3) := by decide +kernel
theorem dX12_whyTold_94 : decode cX12_whyTold 94 = .ok (.aload_n 0, 1) := by decide +kernel
theorem dX12_whyTold_95 : decode cX12_whyTold 95 = .ok (.lload_n 1, 1) := by decide +kernel
theorem dX12_whyTold_96 : decode cX12_whyTold 96 = .ok (.ldc2_w 365, 3) := by decide +kernel
theorem dX12_whyTold_99 : decode cX12_whyTold 99 = .ok (.lsub, 1) := by decide +kernel
theorem dX12_whyTold_100 : decode cX12_whyTold 100 = .ok (.invokevirtual 319, 3) := by decide +kernel
theorem dX12_whyTold_103 : decode cX12_whyTold 103 = .ok (.ifCond .eq 7, 3) := by decide +kernel
theorem dX12_whyTold_106 : decode cX12_whyTold 106 = .ok (.iconst 0, 1) := by decide +kernel
theorem dX12_whyTold_107 : decode cX12_whyTold 107 = .ok (.goto 4, 3) := by decide +kernel
theorem dX12_whyTold_110 : decode cX12_whyTold 110 = .ok (.iconst 1, 1) := by decide +kernel
theorem dX12_whyTold_111 : decode cX12_whyTold 111 = .ok (.ireturn, 1) := by decide +kernel
theorem dX12_does_0 : decode cX12_does 0 = .ok (.iload_n 1, 1) := by decide +kernel
theorem dX12_does_1 : decode cX12_does 1 = .ok (.iconst (-1), 1) := by decide +kernel
theorem dX12_does_2 : decode cX12_does 2 = .ok (.if_icmp .ne 10, 3) := by decide +kernel
theorem dX12_does_5 : decode cX12_does 5 = .ok (.aload_n 0, 1) := by decide +kernel
theorem dX12_does_6 : decode cX12_does 6 = .ok (.invokevirtual 351, 3) := by decide +kernel
theorem dX12_does_9 : decode cX12_does 9 = .ok (.goto 70, 3) := by decide +kernel
theorem dX12_does_12 : decode cX12_does 12 = .ok (.iload_n 1, 1) := by decide +kernel
theorem dX12_does_13 : decode cX12_does 13 = .ok (.bipush 100, 2) := by decide +kernel
theorem dX12_does_15 : decode cX12_does 15 = .ok (.if_icmp .ge 18, 3) := by decide +kernel
theorem dX12_does_18 : decode cX12_does 18 = .ok (.aload_n 0, 1) := by decide +kernel
theorem dX12_does_19 : decode cX12_does 19 = .ok (.iload_n 1, 1) := by decide +kernel
theorem dX12_does_20 : decode cX12_does 20 = .ok (.bipush 10, 2) := by decide +kernel
theorem dX12_does_22 : decode cX12_does 22 = .ok (.idiv, 1) := by decide +kernel
theorem dX12_does_23 : decode cX12_does 23 = .ok (.iload_n 1, 1) := by decide +kernel
theorem dX12_does_24 : decode cX12_does 24 = .ok (.bipush 10, 2) := by decide +kernel
theorem dX12_does_26 : decode cX12_does 26 = .ok (.irem, 1) := by decide +kernel
theorem dX12_does_27 : decode cX12_does 27 = .ok (.invokevirtual 344, 3) := by decide +kernel
theorem dX12_does_30 : decode cX12_does 30 = .ok (.goto 49, 3) := by decide +kernel
theorem dX12_does_33 : decode cX12_does 33 = .ok (.iload_n 1, 1) := by decide +kernel
theorem dX12_does_34 : decode cX12_does 34 = .ok (.sipush 200, 3) := by decide +kernel
theorem dX12_does_37 : decode cX12_does 37 = .ok (.if_icmp .ge 25, 3) := by decide +kernel
theorem dX12_does_40 : decode cX12_does 40 = .ok (.aload_n 0, 1) := by decide +kernel
theorem dX12_does_41 : decode cX12_does 41 = .ok (.getfield 9, 3) := by decide +kernel
theorem dX12_does_44 : decode cX12_does 44 = .ok (.bipush 12, 2) := by decide +kernel
theorem dX12_does_46 : decode cX12_does 46 = .ok (.iload_n 1, 1) := by decide +kernel
theorem dX12_does_47 : decode cX12_does 47 = .ok (.bipush 100, 2) := by decide +kernel
theorem dX12_does_49 : decode cX12_does 49 = .ok (.isub, 1) := by decide +kernel
theorem dX12_does_50 : decode cX12_does 50 = .ok (.bipush 10, 2) := by decide +kernel
theorem dX12_does_52 : decode cX12_does 52 = .ok (.idiv, 1) := by decide +kernel
theorem dX12_does_53 : decode cX12_does 53 = .ok (.iadd, 1) := by decide +kernel
theorem dX12_does_54 : decode cX12_does 54 = .ok (.iload_n 1, 1) := by decide +kernel
theorem dX12_does_55 : decode cX12_does 55 = .ok (.bipush 10, 2) := by decide +kernel
theorem dX12_does_57 : decode cX12_does 57 = .ok (.irem, 1) := by decide +kernel
theorem dX12_does_58 : decode cX12_does 58 = .ok (.iastore, 1) := by decide +kernel
theorem dX12_does_59 : decode cX12_does 59 = .ok (.goto 20, 3) := by decide +kernel
theorem dX12_does_62 : decode cX12_does 62 = .ok (.aload_n 0, 1) := by decide +kernel
theorem dX12_does_63 : decode cX12_does 63 = .ok (.getfield 9, 3) := by decide +kernel
theorem dX12_does_66 : decode cX12_does 66 = .ok (.bipush 18, 2) := by decide +kernel
theorem dX12_does_68 : decode cX12_does 68 = .ok (.dup2, 1) := by decide +kernel
theorem dX12_does_69 : decode cX12_does 69 = .ok (.iaload, 1) := by decide +kernel
theorem dX12_does_70 : decode cX12_does 70 = .ok (.iconst 1, 1) := by decide +kernel
theorem dX12_does_71 : decode cX12_does 71 = .ok (.iload_n 1, 1) := by decide +kernel
theorem dX12_does_72 : decode cX12_does 72 = .ok (.sipush 200, 3) := by decide +kernel
theorem dX12_does_75 : decode cX12_does 75 = .ok (.isub, 1) := by decide +kernel
theorem dX12_does_76 : decode cX12_does 76 = .ok (.ishl, 1) := by decide +kernel
theorem dX12_does_77 : decode cX12_does 77 = .ok (.ixor, 1) := by decide +kernel
theorem dX12_does_78 : decode cX12_does 78 = .ok (.iastore, 1) := by decide +kernel
theorem dX12_does_79 : decode cX12_does 79 = .ok (.return_, 1) := by decide +kernel
theorem dX12_judge_0 : decode cX12_judge 0 = .ok (.aload_n 0, 1) := by decide +kernel
theorem dX12_judge_1 : decode cX12_judge 1 = .ok (.aload_n 0, 1) := by decide +kernel
theorem dX12_judge_2 : decode cX12_judge 2 = .ok (.iload_n 1, 1) := by decide +kernel
theorem dX12_judge_3 : decode cX12_judge 3 = .ok (.invokevirtual 369, 3) := by decide +kernel
theorem dX12_judge_6 : decode cX12_judge 6 = .ok (.putfield 86, 3) := by decide +kernel
theorem dX12_judge_9 : decode cX12_judge 9 = .ok (.aload_n 0, 1) := by decide +kernel
theorem dX12_judge_10 : decode cX12_judge 10 = .ok (.getfield 86, 3) := by decide +kernel
theorem dX12_judge_13 : decode cX12_judge 13 = .ok (.ifCond .ne 20, 3) := by decide +kernel
theorem dX12_judge_16 : decode cX12_judge 16 = .ok (.iload_n 2, 1) := by decide +kernel
theorem dX12_judge_17 : decode cX12_judge 17 = .ok (.i2l, 1) := by decide +kernel
theorem dX12_judge_18 : decode cX12_judge 18 = .ok (.lconst 0, 1) := by decide +kernel
theorem dX12_judge_19 : decode cX12_judge 19 = .ok (.ldc2_w 372, 3) := by decide +kernel
theorem dX12_judge_22 : decode cX12_judge 22 = .ok (.invokestatic 147, 3) := by decide +kernel
theorem dX12_judge_25 : decode cX12_judge 25 = .ok (.ifCond .ne 8, 3) := by decide +kernel
theorem dX12_judge_28 : decode cX12_judge 28 = .ok (.aload_n 0, 1) := by decide +kernel
theorem dX12_judge_29 : decode cX12_judge 29 = .ok (.iconst 3, 1) := by decide +kernel
theorem dX12_judge_30 : decode cX12_judge 30 = .ok (.putfield 86, 3) := by decide +kernel
theorem dX12_judge_33 : decode cX12_judge 33 = .ok (.aload_n 0, 1) := by decide +kernel
theorem dX12_judge_34 : decode cX12_judge 34 = .ok (.getfield 86, 3) := by decide +kernel
theorem dX12_judge_37 : decode cX12_judge 37 = .ok (.ifCond .le 5, 3) := by decide +kernel
theorem dX12_judge_40 : decode cX12_judge 40 = .ok (.iconst 0, 1) := by decide +kernel
theorem dX12_judge_41 : decode cX12_judge 41 = .ok (.ireturn, 1) := by decide +kernel
theorem dX12_judge_42 : decode cX12_judge 42 = .ok (.aload_n 0, 1) := by decide +kernel
theorem dX12_judge_43 : decode cX12_judge 43 = .ok (.invokevirtual 374, 3) := by decide +kernel
theorem dX12_judge_46 : decode cX12_judge 46 = .ok (.iconst (-1), 1) := by decide +kernel
theorem dX12_judge_47 : decode cX12_judge 47 = .ok (.istore_n 3, 1) := by decide +kernel
theorem dX12_judge_48 : decode cX12_judge 48 = .ok (.iconst 0, 1) := by decide +kernel
theorem dX12_judge_49 : decode cX12_judge 49 = .ok (.istore 4, 2) := by decide +kernel
theorem dX12_judge_51 : decode cX12_judge 51 = .ok (.iconst 0, 1) := by decide +kernel
theorem dX12_judge_52 : decode cX12_judge 52 = .ok (.istore 5, 2) := by decide +kernel
theorem dX12_judge_54 : decode cX12_judge 54 = .ok (.iload 5, 2) := by decide +kernel
theorem dX12_judge_56 : decode cX12_judge 56 = .ok (.aload_n 0, 1) := by decide +kernel
theorem dX12_judge_57 : decode cX12_judge 57 = .ok (.getfield 79, 3) := by decide +kernel
theorem dX12_judge_60 : decode cX12_judge 60 = .ok (.iload_n 1, 1) := by decide +kernel
theorem dX12_judge_61 : decode cX12_judge 61 = .ok (.iaload, 1) := by decide +kernel
theorem dX12_judge_62 : decode cX12_judge 62 = .ok (.if_icmp .ge 60, 3) := by decide +kernel
theorem dX12_judge_65 : decode cX12_judge 65 = .ok (.iload_n 3, 1) := by decide +kernel
theorem dX12_judge_66 : decode cX12_judge 66 = .ok (.iconst (-1), 1) := by decide +kernel
theorem dX12_judge_67 : decode cX12_judge 67 = .ok (.if_icmp .ne 55, 3) := by decide +kernel
theorem dX12_judge_70 : decode cX12_judge 70 = .ok (.aload_n 0, 1) := by decide +kernel
theorem dX12_judge_71 : decode cX12_judge 71 = .ok (.aload_n 0, 1) := by decide +kernel
theorem dX12_judge_72 : decode cX12_judge 72 = .ok (.getfield 82, 3) := by decide +kernel
theorem dX12_judge_75 : decode cX12_judge 75 = .ok (.bipush 30, 2) := by decide +kernel
theorem dX12_judge_77 : decode cX12_judge 77 = .ok (.iload_n 1, 1) := by decide +kernel
theorem dX12_judge_78 : decode cX12_judge 78 = .ok (.imul, 1) := by decide +kernel
theorem dX12_judge_79 : decode cX12_judge 79 = .ok (.iload 5, 2) := by decide +kernel
theorem dX12_judge_81 : decode cX12_judge 81 = .ok (.iadd, 1) := by decide +kernel
theorem dX12_judge_82 : decode cX12_judge 82 = .ok (.laload, 1) := by decide +kernel
theorem dX12_judge_83 : decode cX12_judge 83 = .ok (.invokevirtual 377, 3) := by decide +kernel
theorem dX12_judge_86 : decode cX12_judge 86 = .ok (.istore 4, 2) := by decide +kernel
theorem dX12_judge_88 : decode cX12_judge 88 = .ok (.iload 4, 2) := by decide +kernel
theorem dX12_judge_90 : decode cX12_judge 90 = .ok (.ifCond .ne 23, 3) := by decide +kernel
theorem dX12_judge_93 : decode cX12_judge 93 = .ok (.aload_n 0, 1) := by decide +kernel
theorem dX12_judge_94 : decode cX12_judge 94 = .ok (.aload_n 0, 1) := by decide +kernel
theorem dX12_judge_95 : decode cX12_judge 95 = .ok (.getfield 82, 3) := by decide +kernel
theorem dX12_judge_98 : decode cX12_judge 98 = .ok (.bipush 30, 2) := by decide +kernel
theorem dX12_judge_100 : decode cX12_judge 100 = .ok (.iload_n 1, 1) := by decide +kernel
theorem dX12_judge_101 : decode cX12_judge 101 = .ok (.imul, 1) := by decide +kernel
theorem dX12_judge_102 : decode cX12_judge 102 = .ok (.iload 5, 2) := by decide +kernel
theorem dX12_judge_104 : decode cX12_judge 104 = .ok (.iadd, 1) := by decide +kernel
theorem dX12_judge_105 : decode cX12_judge 105 = .ok (.laload, 1) := by decide +kernel
theorem dX12_judge_106 : decode cX12_judge 106 = .ok (.l2i, 1) := by decide +kernel
theorem dX12_judge_107 : decode cX12_judge 107 = .ok (.invokevirtual 380, 3) := by decide +kernel
theorem dX12_judge_110 : decode cX12_judge 110 = .ok (.goto 6, 3) := by decide +kernel
theorem dX12_judge_113 : decode cX12_judge 113 = .ok (.iload 5, 2) := by decide +kernel
theorem dX12_judge_115 : decode cX12_judge 115 = .ok (.istore_n 3, 1) := by decide +kernel
theorem dX12_judge_116 : decode cX12_judge 116 = .ok (.iinc 5 1, 3) := by decide +kernel
theorem dX12_judge_119 : decode cX12_judge 119 = .ok (.goto (-65), 3) := by decide +kernel
theorem dX12_judge_122 : decode cX12_judge 122 = .ok (.aload_n 0, 1) := by decide +kernel
theorem dX12_judge_123 : decode cX12_judge 123 = .ok (.invokevirtual 328, 3) := by decide +kernel
theorem dX12_judge_126 : decode cX12_judge 126 = .ok (.istore 5, 2) := by decide +kernel
theorem dX12_judge_128 : decode cX12_judge 128 = .ok (.aload_n 0, 1) := by decide +kernel
theorem dX12_judge_129 : decode cX12_judge 129 = .ok (.getfield 9, 3) := by decide +kernel
theorem dX12_judge_132 : decode cX12_judge 132 = .ok (.bipush 18, 2) := by decide +kernel
theorem dX12_judge_134 : decode cX12_judge 134 = .ok (.iaload, 1) := by decide +kernel
theorem dX12_judge_135 : decode cX12_judge 135 = .ok (.istore 6, 2) := by decide +kernel
theorem dX12_judge_137 : decode cX12_judge 137 = .ok (.aload_n 0, 1) := by decide +kernel
theorem dX12_judge_138 : decode cX12_judge 138 = .ok (.invokevirtual 383, 3) := by decide +kernel
theorem dX12_judge_141 : decode cX12_judge 141 = .ok (.iload_n 2, 1) := by decide +kernel
theorem dX12_judge_142 : decode cX12_judge 142 = .ok (.ifCond .ne 7, 3) := by decide +kernel
theorem dX12_judge_145 : decode cX12_judge 145 = .ok (.iload_n 3, 1) := by decide +kernel
theorem dX12_judge_146 : decode cX12_judge 146 = .ok (.goto 25, 3) := by decide +kernel
theorem dX12_judge_149 : decode cX12_judge 149 = .ok (.iload_n 2, 1) := by decide +kernel
theorem dX12_judge_150 : decode cX12_judge 150 = .ok (.iconst 1, 1) := by decide +kernel
theorem dX12_judge_151 : decode cX12_judge 151 = .ok (.if_icmp .ne 8, 3) := by decide +kernel
theorem dX12_judge_154 : decode cX12_judge 154 = .ok (.iload 4, 2) := by decide +kernel
theorem dX12_judge_156 : decode cX12_judge 156 = .ok (.goto 15, 3) := by decide +kernel
theorem dX12_judge_159 : decode cX12_judge 159 = .ok (.iload_n 2, 1) := by decide +kernel
theorem dX12_judge_160 : decode cX12_judge 160 = .ok (.iconst 2, 1) := by decide +kernel
theorem dX12_judge_161 : decode cX12_judge 161 = .ok (.if_icmp .ne 8, 3) := by decide +kernel
theorem dX12_judge_164 : decode cX12_judge 164 = .ok (.iload 5, 2) := by decide +kernel
theorem dX12_judge_166 : decode cX12_judge 166 = .ok (.goto 5, 3) := by decide +kernel
theorem dX12_judge_169 : decode cX12_judge 169 = .ok (.iload 6, 2) := by decide +kernel
theorem dX12_judge_171 : decode cX12_judge 171 = .ok (.ireturn, 1) := by decide +kernel
theorem dX12_perform_0 : decode cX12_perform 0 = .ok (.aload_n 0, 1) := by decide +kernel
theorem dX12_perform_1 : decode cX12_perform 1 = .ok (.aload_n 0, 1) := by decide +kernel
theorem dX12_perform_2 : decode cX12_perform 2 = .ok (.iload_n 1, 1) := by decide +kernel
theorem dX12_perform_3 : decode cX12_perform 3 = .ok (.invokevirtual 369, 3) := by decide +kernel
theorem dX12_perform_6 : decode cX12_perform 6 = .ok (.putfield 86, 3) := by decide +kernel
theorem dX12_perform_9 : decode cX12_perform 9 = .ok (.aload_n 0, 1) := by decide +kernel
theorem dX12_perform_10 : decode cX12_perform 10 = .ok (.getfield 86, 3) := by decide +kernel
theorem dX12_perform_13 : decode cX12_perform 13 = .ok (.ifCond .le 5, 3) := by decide +kernel
theorem dX12_perform_16 : decode cX12_perform 16 = .ok (.iconst 0, 1) := by decide +kernel
theorem dX12_perform_17 : decode cX12_perform 17 = .ok (.ireturn, 1) := by decide +kernel
theorem dX12_perform_18 : decode cX12_perform 18 = .ok (.iconst 0, 1) := by decide +kernel
theorem dX12_perform_19 : decode cX12_perform 19 = .ok (.istore_n 2, 1) := by decide +kernel
theorem dX12_perform_20 : decode cX12_perform 20 = .ok (.iload_n 2, 1) := by decide +kernel
theorem dX12_perform_21 : decode cX12_perform 21 = .ok (.aload_n 0, 1) := by decide +kernel
theorem dX12_perform_22 : decode cX12_perform 22 = .ok (.getfield 79, 3) := by decide +kernel
theorem dX12_perform_25 : decode cX12_perform 25 = .ok (.iload_n 1, 1) := by decide +kernel
theorem dX12_perform_26 : decode cX12_perform 26 = .ok (.iaload, 1) := by decide +kernel
theorem dX12_perform_27 : decode cX12_perform 27 = .ok (.if_icmp .ge 47, 3) := by decide +kernel
theorem dX12_perform_30 : decode cX12_perform 30 = .ok (.aload_n 0, 1) := by decide +kernel
theorem dX12_perform_31 : decode cX12_perform 31 = .ok (.aload_n 0, 1) := by decide +kernel
theorem dX12_perform_32 : decode cX12_perform 32 = .ok (.getfield 82, 3) := by decide +kernel
theorem dX12_perform_35 : decode cX12_perform 35 = .ok (.bipush 30, 2) := by decide +kernel
theorem dX12_perform_37 : decode cX12_perform 37 = .ok (.iload_n 1, 1) := by decide +kernel
theorem dX12_perform_38 : decode cX12_perform 38 = .ok (.imul, 1) := by decide +kernel
theorem dX12_perform_39 : decode cX12_perform 39 = .ok (.iload_n 2, 1) := by decide +kernel
theorem dX12_perform_40 : decode cX12_perform 40 = .ok (.iadd, 1) := by decide +kernel
theorem dX12_perform_41 : decode cX12_perform 41 = .ok (.laload, 1) := by decide +kernel
theorem dX12_perform_42 : decode cX12_perform 42 = .ok (.invokevirtual 377, 3) := by decide +kernel
theorem dX12_perform_45 : decode cX12_perform 45 = .ok (.ifCond .ne 29, 3) := by decide +kernel
theorem dX12_perform_48 : decode cX12_perform 48 = .ok (.aload_n 0, 1) := by decide +kernel
theorem dX12_perform_49 : decode cX12_perform 49 = .ok (.invokevirtual 341, 3) := by decide +kernel
theorem dX12_perform_52 : decode cX12_perform 52 = .ok (.aload_n 0, 1) := by decide +kernel
theorem dX12_perform_53 : decode cX12_perform 53 = .ok (.aload_n 0, 1) := by decide +kernel
theorem dX12_perform_54 : decode cX12_perform 54 = .ok (.getfield 82, 3) := by decide +kernel
theorem dX12_perform_57 : decode cX12_perform 57 = .ok (.bipush 30, 2) := by decide +kernel
theorem dX12_perform_59 : decode cX12_perform 59 = .ok (.iload_n 1, 1) := by decide +kernel
theorem dX12_perform_60 : decode cX12_perform 60 = .ok (.imul, 1) := by decide +kernel
theorem dX12_perform_61 : decode cX12_perform 61 = .ok (.iload_n 2, 1) := by decide +kernel
theorem dX12_perform_62 : decode cX12_perform 62 = .ok (.iadd, 1) := by decide +kernel
theorem dX12_perform_63 : decode cX12_perform 63 = .ok (.laload, 1) := by decide +kernel
theorem dX12_perform_64 : decode cX12_perform 64 = .ok (.l2i, 1) := by decide +kernel
theorem dX12_perform_65 : decode cX12_perform 65 = .ok (.invokevirtual 380, 3) := by decide +kernel
theorem dX12_perform_68 : decode cX12_perform 68 = .ok (.iinc 2 1, 3) := by decide +kernel
theorem dX12_perform_71 : decode cX12_perform 71 = .ok (.goto (-51), 3) := by decide +kernel
theorem dX12_perform_74 : decode cX12_perform 74 = .ok (.iload_n 2, 1) := by decide +kernel
theorem dX12_perform_75 : decode cX12_perform 75 = .ok (.ireturn, 1) := by decide +kernel
theorem dX12_draw_0 : decode cX12_draw 0 = .ok (.aload_n 0, 1) := by decide +kernel
theorem dX12_draw_1 : decode cX12_draw 1 = .ok (.ldc_w 386, 3) := by decide +kernel
theorem dX12_draw_4 : decode cX12_draw 4 = .ok (.aload_n 0, 1) := by decide +kernel
theorem dX12_draw_5 : decode cX12_draw 5 = .ok (.getfield 387, 3) := by decide +kernel
theorem dX12_draw_8 : decode cX12_draw 8 = .ok (.imul, 1) := by decide +kernel
theorem dX12_draw_9 : decode cX12_draw 9 = .ok (.sipush 12345, 3) := by decide +kernel
theorem dX12_draw_12 : decode cX12_draw 12 = .ok (.iadd, 1) := by decide +kernel
theorem dX12_draw_13 : decode cX12_draw 13 = .ok (.putfield 387, 3) := by decide +kernel
theorem dX12_draw_16 : decode cX12_draw 16 = .ok (.aload_n 0, 1) := by decide +kernel
theorem dX12_draw_17 : decode cX12_draw 17 = .ok (.getfield 387, 3) := by decide +kernel
theorem dX12_draw_20 : decode cX12_draw 20 = .ok (.bipush 16, 2) := by decide +kernel
theorem dX12_draw_22 : decode cX12_draw 22 = .ok (.iushr, 1) := by decide +kernel
theorem dX12_draw_23 : decode cX12_draw 23 = .ok (.iload_n 1, 1) := by decide +kernel
theorem dX12_draw_24 : decode cX12_draw 24 = .ok (.irem, 1) := by decide +kernel
theorem dX12_draw_25 : decode cX12_draw 25 = .ok (.ireturn, 1) := by decide +kernel
theorem dX12_session_0 : decode cX12_session 0 = .ok (.aload_n 0, 1) := by decide +kernel
theorem dX12_session_1 : decode cX12_session 1 = .ok (.iconst 0, 1) := by decide +kernel
theorem dX12_session_2 : decode cX12_session 2 = .ok (.putfield 86, 3) := by decide +kernel
theorem dX12_session_5 : decode cX12_session 5 = .ok (.iload_n 2, 1) := by decide +kernel
theorem dX12_session_6 : decode cX12_session 6 = .ok (.i2l, 1) := by decide +kernel
theorem dX12_session_7 : decode cX12_session 7 = .ok (.lconst 1, 1) := by decide +kernel
theorem dX12_session_8 : decode cX12_session 8 = .ok (.ldc2_w 390, 3) := by decide +kernel
theorem dX12_session_11 : decode cX12_session 11 = .ok (.invokestatic 147, 3) := by decide +kernel
theorem dX12_session_14 : decode cX12_session 14 = .ok (.ifCond .ne 9, 3) := by decide +kernel
theorem dX12_session_17 : decode cX12_session 17 = .ok (.aload_n 0, 1) := by decide +kernel
theorem dX12_session_18 : decode cX12_session 18 = .ok (.iconst 1, 1) := by decide +kernel
theorem dX12_session_19 : decode cX12_session 19 = .ok (.invokevirtual 239, 3) := by decide +kernel
theorem dX12_session_22 : decode cX12_session 22 = .ok (.ireturn, 1) := by decide +kernel
theorem dX12_session_23 : decode cX12_session 23 = .ok (.aload_n 0, 1) := by decide +kernel
theorem dX12_session_24 : decode cX12_session 24 = .ok (.iload_n 1, 1) := by decide +kernel
theorem dX12_session_25 : decode cX12_session 25 = .ok (.putfield 387, 3) := by decide +kernel
theorem dX12_session_28 : decode cX12_session 28 = .ok (.iconst 0, 1) := by decide +kernel
theorem dX12_session_29 : decode cX12_session 29 = .ok (.istore_n 3, 1) := by decide +kernel
theorem dX12_session_30 : decode cX12_session 30 = .ok (.iconst 0, 1) := by decide +kernel
theorem dX12_session_31 : decode cX12_session 31 = .ok (.istore 4, 2) := by decide +kernel
theorem dX12_session_33 : decode cX12_session 33 = .ok (.iload 4, 2) := by decide +kernel
theorem dX12_session_35 : decode cX12_session 35 = .ok (.iload_n 2, 1) := by decide +kernel
theorem dX12_session_36 : decode cX12_session 36 = .ok (.if_icmp .ge 65, 3) := by decide +kernel
theorem dX12_session_39 : decode cX12_session 39 = .ok (.aload_n 0, 1) := by decide +kernel
theorem dX12_session_40 : decode cX12_session 40 = .ok (.iconst 5, 1) := by decide +kernel
theorem dX12_session_41 : decode cX12_session 41 = .ok (.invokevirtual 392, 3) := by decide +kernel
theorem dX12_session_44 : decode cX12_session 44 = .ok (.istore 5, 2) := by decide +kernel
theorem dX12_session_46 : decode cX12_session 46 = .ok (.iload 5, 2) := by decide +kernel
theorem dX12_session_48 : decode cX12_session 48 = .ok (.ifCond .ne 7, 3) := by decide +kernel
theorem dX12_session_51 : decode cX12_session 51 = .ok (.iconst (-1), 1) := by decide +kernel
theorem dX12_session_52 : decode cX12_session 52 = .ok (.goto 15, 3) := by decide +kernel
theorem dX12_session_55 : decode cX12_session 55 = .ok (.aload_n 0, 1) := by decide +kernel
theorem dX12_session_56 : decode cX12_session 56 = .ok (.iload 5, 2) := by decide +kernel
theorem dX12_session_58 : decode cX12_session 58 = .ok (.aload_n 0, 1) := by decide +kernel
theorem dX12_session_59 : decode cX12_session 59 = .ok (.bipush 6, 2) := by decide +kernel
theorem dX12_session_61 : decode cX12_session 61 = .ok (.invokevirtual 392, 3) := by decide +kernel
theorem dX12_session_64 : decode cX12_session 64 = .ok (.invokevirtual 395, 3) := by decide +kernel
theorem dX12_session_67 : decode cX12_session 67 = .ok (.istore 6, 2) := by decide +kernel
theorem dX12_session_69 : decode cX12_session 69 = .ok (.aload_n 0, 1) := by decide +kernel
theorem dX12_session_70 : decode cX12_session 70 = .ok (.iload 6, 2) := by decide +kernel
theorem dX12_session_72 : decode cX12_session 72 = .ok (.i2l, 1) := by decide +kernel
theorem dX12_session_73 : decode cX12_session 73 = .ok (.invokevirtual 377, 3) := by decide +kernel
theorem dX12_session_76 : decode cX12_session 76 = .ok (.ifCond .eq 6, 3) := by decide +kernel
theorem dX12_session_79 : decode cX12_session 79 = .ok (.goto 16, 3) := by decide +kernel
theorem dX12_session_82 : decode cX12_session 82 = .ok (.aload_n 0, 1) := by decide +kernel
theorem dX12_session_83 : decode cX12_session 83 = .ok (.invokevirtual 341, 3) := by decide +kernel
theorem dX12_session_86 : decode cX12_session 86 = .ok (.aload_n 0, 1) := by decide +kernel
theorem dX12_session_87 : decode cX12_session 87 = .ok (.iload 6, 2) := by decide +kernel
theorem dX12_session_89 : decode cX12_session 89 = .ok (.invokevirtual 380, 3) := by decide +kernel
theorem dX12_session_92 : decode cX12_session 92 = .ok (.iinc 3 1, 3) := by decide +kernel
theorem dX12_session_95 : decode cX12_session 95 = .ok (.iinc 4 1, 3) := by decide +kernel
theorem dX12_session_98 : decode cX12_session 98 = .ok (.goto (-65), 3) := by decide +kernel
theorem dX12_session_101 : decode cX12_session 101 = .ok (.iload_n 3, 1) := by decide +kernel
theorem dX12_session_102 : decode cX12_session 102 = .ok (.ireturn, 1) := by decide +kernel
theorem dX12_drawn_0 : decode cX12_drawn 0 = .ok (.iload_n 1, 1) := by decide +kernel
theorem dX12_drawn_1 : decode cX12_drawn 1 = .ok (.iconst 4, 1) := by decide +kernel
theorem dX12_drawn_2 : decode cX12_drawn 2 = .ok (.if_icmp .ne 9, 3) := by decide +kernel
theorem dX12_drawn_5 : decode cX12_drawn 5 = .ok (.sipush 200, 3) := by decide +kernel
theorem dX12_drawn_8 : decode cX12_drawn 8 = .ok (.iload_n 2, 1) := by decide +kernel
theorem dX12_drawn_9 : decode cX12_drawn 9 = .ok (.iadd, 1) := by decide +kernel
theorem dX12_drawn_10 : decode cX12_drawn 10 = .ok (.ireturn, 1) := by decide +kernel
theorem dX12_drawn_11 : decode cX12_drawn 11 = .ok (.iload_n 1, 1) := by decide +kernel
theorem dX12_drawn_12 : decode cX12_drawn 12 = .ok (.iconst 3, 1) := by decide +kernel
theorem dX12_drawn_13 : decode cX12_drawn 13 = .ok (.if_icmp .ne 20, 3) := by decide +kernel
theorem dX12_drawn_16 : decode cX12_drawn 16 = .ok (.bipush 101, 2) := by decide +kernel
theorem dX12_drawn_18 : decode cX12_drawn 18 = .ok (.bipush 10, 2) := by decide +kernel
theorem dX12_drawn_20 : decode cX12_drawn 20 = .ok (.iload_n 2, 1) := by decide +kernel
theorem dX12_drawn_21 : decode cX12_drawn 21 = .ok (.imul, 1) := by decide +kernel
theorem dX12_drawn_22 : decode cX12_drawn 22 = .ok (.iadd, 1) := by decide +kernel
theorem dX12_drawn_23 : decode cX12_drawn 23 = .ok (.aload_n 0, 1) := by decide +kernel
theorem dX12_drawn_24 : decode cX12_drawn 24 = .ok (.bipush 9, 2) := by decide +kernel
theorem dX12_drawn_26 : decode cX12_drawn 26 = .ok (.invokevirtual 392, 3) := by decide +kernel
theorem dX12_drawn_29 : decode cX12_drawn 29 = .ok (.iadd, 1) := by decide +kernel
theorem dX12_drawn_30 : decode cX12_drawn 30 = .ok (.goto 15, 3) := by decide +kernel
theorem dX12_drawn_33 : decode cX12_drawn 33 = .ok (.iconst 1, 1) := by decide +kernel
theorem dX12_drawn_34 : decode cX12_drawn 34 = .ok (.bipush 10, 2) := by decide +kernel
theorem dX12_drawn_36 : decode cX12_drawn 36 = .ok (.iload_n 2, 1) := by decide +kernel
theorem dX12_drawn_37 : decode cX12_drawn 37 = .ok (.imul, 1) := by decide +kernel
theorem dX12_drawn_38 : decode cX12_drawn 38 = .ok (.iadd, 1) := by decide +kernel
theorem dX12_drawn_39 : decode cX12_drawn 39 = .ok (.aload_n 0, 1) := by decide +kernel
theorem dX12_drawn_40 : decode cX12_drawn 40 = .ok (.iconst 5, 1) := by decide +kernel
theorem dX12_drawn_41 : decode cX12_drawn 41 = .ok (.invokevirtual 392, 3) := by decide +kernel
theorem dX12_drawn_44 : decode cX12_drawn 44 = .ok (.iadd, 1) := by decide +kernel
theorem dX12_drawn_45 : decode cX12_drawn 45 = .ok (.ireturn, 1) := by decide +kernel
theorem dX12_laysAlong_0 : decode cX12_laysAlong 0 = .ok (.iconst 0, 1) := by decide +kernel
theorem dX12_laysAlong_1 : decode cX12_laysAlong 1 = .ok (.istore_n 1, 1) := by decide +kernel
theorem dX12_laysAlong_2 : decode cX12_laysAlong 2 = .ok (.iload_n 1, 1) := by decide +kernel
theorem dX12_laysAlong_3 : decode cX12_laysAlong 3 = .ok (.aload_n 0, 1) := by decide +kernel
theorem dX12_laysAlong_4 : decode cX12_laysAlong 4 = .ok (.invokevirtual 254, 3) := by decide +kernel
theorem dX12_laysAlong_7 : decode cX12_laysAlong 7 = .ok (.if_icmp .ge 31, 3) := by decide +kernel
theorem dX12_laysAlong_10 : decode cX12_laysAlong 10 = .ok (.aload_n 0, 1) := by decide +kernel
theorem dX12_laysAlong_11 : decode cX12_laysAlong 11 = .ok (.getfield 51, 3) := by decide +kernel
theorem dX12_laysAlong_14 : decode cX12_laysAlong 14 = .ok (.iload_n 1, 1) := by decide +kernel
theorem dX12_laysAlong_15 : decode cX12_laysAlong 15 = .ok (.aload_n 0, 1) := by decide +kernel
theorem dX12_laysAlong_16 : decode cX12_laysAlong 16 = .ok (.iload_n 1, 1) := by decide +kernel
theorem dX12_laysAlong_17 : decode cX12_laysAlong 17 = .ok (.invokevirtual 331, 3) := by decide +kernel
theorem dX12_laysAlong_20 : decode cX12_laysAlong 20 = .ok (.iastore, 1) := by decide +kernel
theorem dX12_laysAlong_21 : decode cX12_laysAlong 21 = .ok (.aload_n 0, 1) := by decide +kernel
theorem dX12_laysAlong_22 : decode cX12_laysAlong 22 = .ok (.getfield 54, 3) := by decide +kernel
theorem dX12_laysAlong_25 : decode cX12_laysAlong 25 = .ok (.iload_n 1, 1) := by decide +kernel
theorem dX12_laysAlong_26 : decode cX12_laysAlong 26 = .ok (.aload_n 0, 1) := by decide +kernel
theorem dX12_laysAlong_27 : decode cX12_laysAlong 27 = .ok (.iload_n 1, 1) := by decide +kernel
theorem dX12_laysAlong_28 : decode cX12_laysAlong 28 = .ok (.invokevirtual 325, 3) := by decide +kernel
theorem dX12_laysAlong_31 : decode cX12_laysAlong 31 = .ok (.iastore, 1) := by decide +kernel
theorem dX12_laysAlong_32 : decode cX12_laysAlong 32 = .ok (.iinc 1 1, 3) := by decide +kernel
theorem dX12_laysAlong_35 : decode cX12_laysAlong 35 = .ok (.goto (-33), 3) := by decide +kernel
theorem dX12_laysAlong_38 : decode cX12_laysAlong 38 = .ok (.return_, 1) := by decide +kernel
theorem dX12_aimsBehind_0 : decode cX12_aimsBehind 0 = .ok (.aload_n 0, 1) := by decide +kernel
theorem dX12_aimsBehind_1 : decode cX12_aimsBehind 1 = .ok (.invokevirtual 310, 3) := by decide +kernel
theorem dX12_aimsBehind_4 : decode cX12_aimsBehind 4 = .ok (.iconst 0, 1) := by decide +kernel
theorem dX12_aimsBehind_5 : decode cX12_aimsBehind 5 = .ok (.istore_n 1, 1) := by decide +kernel
theorem dX12_aimsBehind_6 : decode cX12_aimsBehind 6 = .ok (.iload_n 1, 1) := by decide +kernel
theorem dX12_aimsBehind_7 : decode cX12_aimsBehind 7 = .ok (.aload_n 0, 1) := by decide +kernel
theorem dX12_aimsBehind_8 : decode cX12_aimsBehind 8 = .ok (.invokevirtual 254, 3) := by decide +kernel
theorem dX12_aimsBehind_11 : decode cX12_aimsBehind 11 = .ok (.if_icmp .ge 62, 3) := by decide +kernel
theorem dX12_aimsBehind_14 : decode cX12_aimsBehind 14 = .ok (.iconst 0, 1) := by decide +kernel
theorem dX12_aimsBehind_15 : decode cX12_aimsBehind 15 = .ok (.istore_n 2, 1) := by decide +kernel
theorem dX12_aimsBehind_16 : decode cX12_aimsBehind 16 = .ok (.iload_n 2, 1) := by decide +kernel
theorem dX12_aimsBehind_17 : decode cX12_aimsBehind 17 = .ok (.aload_n 0, 1) := by decide +kernel
theorem dX12_aimsBehind_18 : decode cX12_aimsBehind 18 = .ok (.invokevirtual 254, 3) := by decide +kernel
theorem dX12_aimsBehind_21 : decode cX12_aimsBehind 21 = .ok (.if_icmp .ge 46, 3) := by decide +kernel
theorem dX12_aimsBehind_24 : decode cX12_aimsBehind 24 = .ok (.aload_n 0, 1) := by decide +kernel
theorem dX12_aimsBehind_25 : decode cX12_aimsBehind 25 = .ok (.getfield 51, 3) := by decide +kernel
theorem dX12_aimsBehind_28 : decode cX12_aimsBehind 28 = .ok (.iload_n 1, 1) := by decide +kernel
theorem dX12_aimsBehind_29 : decode cX12_aimsBehind 29 = .ok (.iaload, 1) := by decide +kernel
theorem dX12_aimsBehind_30 : decode cX12_aimsBehind 30 = .ok (.iload_n 2, 1) := by decide +kernel
theorem dX12_aimsBehind_31 : decode cX12_aimsBehind 31 = .ok (.invokestatic 257, 3) := by decide +kernel
theorem dX12_aimsBehind_34 : decode cX12_aimsBehind 34 = .ok (.ifCond .eq 27, 3) := by decide +kernel
theorem dX12_aimsBehind_37 : decode cX12_aimsBehind 37 = .ok (.aload_n 0, 1) := by decide +kernel
theorem dX12_aimsBehind_38 : decode cX12_aimsBehind 38 = .ok (.getfield 36, 3) := by decide +kernel
theorem dX12_aimsBehind_41 : decode cX12_aimsBehind 41 = .ok (.iload_n 2, 1) := by decide +kernel
theorem dX12_aimsBehind_42 : decode cX12_aimsBehind 42 = .ok (.aload_n 0, 1) := by decide +kernel
theorem dX12_aimsBehind_43 : decode cX12_aimsBehind 43 = .ok (.getfield 36, 3) := by decide +kernel
theorem dX12_aimsBehind_46 : decode cX12_aimsBehind 46 = .ok (.iload_n 2, 1) := by decide +kernel
theorem dX12_aimsBehind_47 : decode cX12_aimsBehind 47 = .ok (.iaload, 1) := by decide +kernel
theorem dX12_aimsBehind_48 : decode cX12_aimsBehind 48 = .ok (.aload_n 0, 1) := by decide +kernel
theorem dX12_aimsBehind_49 : decode cX12_aimsBehind 49 = .ok (.getfield 48, 3) := by decide +kernel
theorem dX12_aimsBehind_52 : decode cX12_aimsBehind 52 = .ok (.iload_n 1, 1) := by decide +kernel
theorem dX12_aimsBehind_53 : decode cX12_aimsBehind 53 = .ok (.iaload, 1) := by decide +kernel
theorem dX12_aimsBehind_54 : decode cX12_aimsBehind 54 = .ok (.iadd, 1) := by decide +kernel
theorem dX12_aimsBehind_55 : decode cX12_aimsBehind 55 = .ok (.aload_n 0, 1) := by decide +kernel
theorem dX12_aimsBehind_56 : decode cX12_aimsBehind 56 = .ok (.invokevirtual 254, 3) := by decide +kernel
theorem dX12_aimsBehind_59 : decode cX12_aimsBehind 59 = .ok (.irem, 1) := by decide +kernel
theorem dX12_aimsBehind_60 : decode cX12_aimsBehind 60 = .ok (.iastore, 1) := by decide +kernel
theorem dX12_aimsBehind_61 : decode cX12_aimsBehind 61 = .ok (.iinc 2 1, 3) := by decide +kernel
theorem dX12_aimsBehind_64 : decode cX12_aimsBehind 64 = .ok (.goto (-48), 3) := by decide +kernel
theorem dX12_aimsBehind_67 : decode cX12_aimsBehind 67 = .ok (.iinc 1 1, 3) := by decide +kernel
theorem dX12_aimsBehind_70 : decode cX12_aimsBehind 70 = .ok (.goto (-64), 3) := by decide +kernel
theorem dX12_aimsBehind_73 : decode cX12_aimsBehind 73 = .ok (.return_, 1) := by decide +kernel
theorem dX12_costOf_0 : decode cX12_costOf 0 = .ok (.iconst 0, 1) := by decide +kernel
theorem dX12_costOf_1 : decode cX12_costOf 1 = .ok (.istore_n 1, 1) := by decide +kernel
theorem dX12_costOf_2 : decode cX12_costOf 2 = .ok (.iconst 0, 1) := by decide +kernel
theorem dX12_costOf_3 : decode cX12_costOf 3 = .ok (.istore_n 2, 1) := by decide +kernel
theorem dX12_costOf_4 : decode cX12_costOf 4 = .ok (.iload_n 2, 1) := by decide +kernel
theorem dX12_costOf_5 : decode cX12_costOf 5 = .ok (.aload_n 0, 1) := by decide +kernel
theorem dX12_costOf_6 : decode cX12_costOf 6 = .ok (.invokevirtual 254, 3) := by decide +kernel
theorem dX12_costOf_9 : decode cX12_costOf 9 = .ok (.if_icmp .ge 25, 3) := by decide +kernel
theorem dX12_costOf_12 : decode cX12_costOf 12 = .ok (.iload_n 1, 1) := by decide +kernel
theorem dX12_costOf_13 : decode cX12_costOf 13 = .ok (.aload_n 0, 1) := by decide +kernel
theorem dX12_costOf_14 : decode cX12_costOf 14 = .ok (.getfield 54, 3) := by decide +kernel
theorem dX12_costOf_17 : decode cX12_costOf 17 = .ok (.iload_n 2, 1) := by decide +kernel
theorem dX12_costOf_18 : decode cX12_costOf 18 = .ok (.iaload, 1) := by decide +kernel
theorem dX12_costOf_19 : decode cX12_costOf 19 = .ok (.aload_n 0, 1) := by decide +kernel
theorem dX12_costOf_20 : decode cX12_costOf 20 = .ok (.getfield 48, 3) := by decide +kernel
theorem dX12_costOf_23 : decode cX12_costOf 23 = .ok (.iload_n 2, 1) := by decide +kernel
theorem dX12_costOf_24 : decode cX12_costOf 24 = .ok (.iaload, 1) := by decide +kernel
theorem dX12_costOf_25 : decode cX12_costOf 25 = .ok (.imul, 1) := by decide +kernel
theorem dX12_costOf_26 : decode cX12_costOf 26 = .ok (.iadd, 1) := by decide +kernel
theorem dX12_costOf_27 : decode cX12_costOf 27 = .ok (.istore_n 1, 1) := by decide +kernel
theorem dX12_costOf_28 : decode cX12_costOf 28 = .ok (.iinc 2 1, 3) := by decide +kernel
theorem dX12_costOf_31 : decode cX12_costOf 31 = .ok (.goto (-27), 3) := by decide +kernel
theorem dX12_costOf_34 : decode cX12_costOf 34 = .ok (.iload_n 1, 1) := by decide +kernel
theorem dX12_costOf_35 : decode cX12_costOf 35 = .ok (.ireturn, 1) := by decide +kernel
theorem dX12_lookCode_0 : decode cX12_lookCode 0 = .ok (.iconst 0, 1) := by decide +kernel
theorem dX12_lookCode_1 : decode cX12_lookCode 1 = .ok (.istore_n 1, 1) := by decide +kernel
theorem dX12_lookCode_2 : decode cX12_lookCode 2 = .ok (.iconst 0, 1) := by decide +kernel
theorem dX12_lookCode_3 : decode cX12_lookCode 3 = .ok (.istore_n 2, 1) := by decide +kernel
theorem dX12_lookCode_4 : decode cX12_lookCode 4 = .ok (.iload_n 2, 1) := by decide +kernel
theorem dX12_lookCode_5 : decode cX12_lookCode 5 = .ok (.aload_n 0, 1) := by decide +kernel
theorem dX12_lookCode_6 : decode cX12_lookCode 6 = .ok (.invokevirtual 254, 3) := by decide +kernel
theorem dX12_lookCode_9 : decode cX12_lookCode 9 = .ok (.if_icmp .ge 21, 3) := by decide +kernel
theorem dX12_lookCode_12 : decode cX12_lookCode 12 = .ok (.bipush 6, 2) := by decide +kernel
theorem dX12_lookCode_14 : decode cX12_lookCode 14 = .ok (.iload_n 1, 1) := by decide +kernel
theorem dX12_lookCode_15 : decode cX12_lookCode 15 = .ok (.imul, 1) := by decide +kernel
theorem dX12_lookCode_16 : decode cX12_lookCode 16 = .ok (.aload_n 0, 1) := by decide +kernel
theorem dX12_lookCode_17 : decode cX12_lookCode 17 = .ok (.getfield 36, 3) := by decide +kernel
theorem dX12_lookCode_20 : decode cX12_lookCode 20 = .ok (.iload_n 2, 1) := by decide +kernel
theorem dX12_lookCode_21 : decode cX12_lookCode 21 = .ok (.iaload, 1) := by decide +kernel
theorem dX12_lookCode_22 : decode cX12_lookCode 22 = .ok (.iadd, 1) := by decide +kernel
theorem dX12_lookCode_23 : decode cX12_lookCode 23 = .ok (.istore_n 1, 1) := by decide +kernel
theorem dX12_lookCode_24 : decode cX12_lookCode 24 = .ok (.iinc 2 1, 3) := by decide +kernel
theorem dX12_lookCode_27 : decode cX12_lookCode 27 = .ok (.goto (-23), 3) := by decide +kernel
theorem dX12_lookCode_30 : decode cX12_lookCode 30 = .ok (.iload_n 1, 1) := by decide +kernel
theorem dX12_lookCode_31 : decode cX12_lookCode 31 = .ok (.ireturn, 1) := by decide +kernel
theorem dX12_keepsRow_0 : decode cX12_keepsRow 0 = .ok (.aload_n 0, 1) := by decide +kernel
theorem dX12_keepsRow_1 : decode cX12_keepsRow 1 = .ok (.aload_n 0, 1) := by decide +kernel
theorem dX12_keepsRow_2 : decode cX12_keepsRow 2 = .ok (.invokevirtual 398, 3) := by decide +kernel
theorem dX12_keepsRow_5 : decode cX12_keepsRow 5 = .ok (.putfield 401, 3) := by decide +kernel
theorem dX12_keepsRow_8 : decode cX12_keepsRow 8 = .ok (.iconst 0, 1) := by decide +kernel
theorem dX12_keepsRow_9 : decode cX12_keepsRow 9 = .ok (.istore_n 1, 1) := by decide +kernel
theorem dX12_keepsRow_10 : decode cX12_keepsRow 10 = .ok (.iload_n 1, 1) := by decide +kernel
theorem dX12_keepsRow_11 : decode cX12_keepsRow 11 = .ok (.bipush 6, 2) := by decide +kernel
theorem dX12_keepsRow_13 : decode cX12_keepsRow 13 = .ok (.if_icmp .ge 33, 3) := by decide +kernel
theorem dX12_keepsRow_16 : decode cX12_keepsRow 16 = .ok (.aload_n 0, 1) := by decide +kernel
theorem dX12_keepsRow_17 : decode cX12_keepsRow 17 = .ok (.getfield 57, 3) := by decide +kernel
theorem dX12_keepsRow_20 : decode cX12_keepsRow 20 = .ok (.iload_n 1, 1) := by decide +kernel
theorem dX12_keepsRow_21 : decode cX12_keepsRow 21 = .ok (.iload_n 1, 1) := by decide +kernel
theorem dX12_keepsRow_22 : decode cX12_keepsRow 22 = .ok (.aload_n 0, 1) := by decide +kernel
theorem dX12_keepsRow_23 : decode cX12_keepsRow 23 = .ok (.invokevirtual 254, 3) := by decide +kernel
theorem dX12_keepsRow_26 : decode cX12_keepsRow 26 = .ok (.if_icmp .ge 12, 3) := by decide +kernel
theorem dX12_keepsRow_29 : decode cX12_keepsRow 29 = .ok (.aload_n 0, 1) := by decide +kernel
theorem dX12_keepsRow_30 : decode cX12_keepsRow 30 = .ok (.getfield 48, 3) := by decide +kernel
theorem dX12_keepsRow_33 : decode cX12_keepsRow 33 = .ok (.iload_n 1, 1) := by decide +kernel
theorem dX12_keepsRow_34 : decode cX12_keepsRow 34 = .ok (.iaload, 1) := by decide +kernel
theorem dX12_keepsRow_35 : decode cX12_keepsRow 35 = .ok (.goto 4, 3) := by decide +kernel
theorem dX12_keepsRow_38 : decode cX12_keepsRow 38 = .ok (.iconst (-1), 1) := by decide +kernel
theorem dX12_keepsRow_39 : decode cX12_keepsRow 39 = .ok (.iastore, 1) := by decide +kernel
theorem dX12_keepsRow_40 : decode cX12_keepsRow 40 = .ok (.iinc 1 1, 3) := by decide +kernel
theorem dX12_keepsRow_43 : decode cX12_keepsRow 43 = .ok (.goto (-33), 3) := by decide +kernel
theorem dX12_keepsRow_46 : decode cX12_keepsRow 46 = .ok (.return_, 1) := by decide +kernel
theorem dX12_goesRows_0 : decode cX12_goesRows 0 = .ok (.iload_n 1, 1) := by decide +kernel
theorem dX12_goesRows_1 : decode cX12_goesRows 1 = .ok (.aload_n 0, 1) := by decide +kernel
theorem dX12_goesRows_2 : decode cX12_goesRows 2 = .ok (.invokevirtual 254, 3) := by decide +kernel
theorem dX12_goesRows_5 : decode cX12_goesRows 5 = .ok (.if_icmp .ne 8, 3) := by decide +kernel
theorem dX12_goesRows_8 : decode cX12_goesRows 8 = .ok (.aload_n 0, 1) := by decide +kernel
theorem dX12_goesRows_9 : decode cX12_goesRows 9 = .ok (.invokevirtual 404, 3) := by decide +kernel
theorem dX12_goesRows_12 : decode cX12_goesRows 12 = .ok (.return_, 1) := by decide +kernel
theorem dX12_goesRows_13 : decode cX12_goesRows 13 = .ok (.aload_n 0, 1) := by decide +kernel
theorem dX12_goesRows_14 : decode cX12_goesRows 14 = .ok (.iload_n 1, 1) := by decide +kernel
theorem dX12_goesRows_15 : decode cX12_goesRows 15 = .ok (.invokevirtual 287, 3) := by decide +kernel
theorem dX12_goesRows_18 : decode cX12_goesRows 18 = .ok (.ifCond .eq 7, 3) := by decide +kernel
theorem dX12_goesRows_21 : decode cX12_goesRows 21 = .ok (.iconst 0, 1) := by decide +kernel
theorem dX12_goesRows_22 : decode cX12_goesRows 22 = .ok (.goto 9, 3) := by decide +kernel
theorem dX12_goesRows_25 : decode cX12_goesRows 25 = .ok (.aload_n 0, 1) := by decide +kernel
theorem dX12_goesRows_26 : decode cX12_goesRows 26 = .ok (.invokevirtual 254, 3) := by decide +kernel
theorem dX12_goesRows_29 : decode cX12_goesRows 29 = .ok (.iconst 1, 1) := by decide +kernel
theorem dX12_goesRows_30 : decode cX12_goesRows 30 = .ok (.isub, 1) := by decide +kernel
theorem dX12_goesRows_31 : decode cX12_goesRows 31 = .ok (.istore_n 2, 1) := by decide +kernel
theorem dX12_goesRows_32 : decode cX12_goesRows 32 = .ok (.iconst 0, 1) := by decide +kernel
theorem dX12_goesRows_33 : decode cX12_goesRows 33 = .ok (.istore_n 3, 1) := by decide +kernel
theorem dX12_goesRows_34 : decode cX12_goesRows 34 = .ok (.iload_n 3, 1) := by decide +kernel
theorem dX12_goesRows_35 : decode cX12_goesRows 35 = .ok (.iload_n 2, 1) := by decide +kernel
theorem dX12_goesRows_36 : decode cX12_goesRows 36 = .ok (.if_icmp .gt 23, 3) := by decide +kernel
theorem dX12_goesRows_39 : decode cX12_goesRows 39 = .ok (.aload_n 0, 1) := by decide +kernel
theorem dX12_goesRows_40 : decode cX12_goesRows 40 = .ok (.getfield 48, 3) := by decide +kernel
theorem dX12_goesRows_43 : decode cX12_goesRows 43 = .ok (.iload_n 1, 1) := by decide +kernel
theorem dX12_goesRows_44 : decode cX12_goesRows 44 = .ok (.iload_n 3, 1) := by decide +kernel
theorem dX12_goesRows_45 : decode cX12_goesRows 45 = .ok (.iastore, 1) := by decide +kernel
theorem dX12_goesRows_46 : decode cX12_goesRows 46 = .ok (.aload_n 0, 1) := by decide +kernel
theorem dX12_goesRows_47 : decode cX12_goesRows 47 = .ok (.iload_n 1, 1) := by decide +kernel
theorem dX12_goesRows_48 : decode cX12_goesRows 48 = .ok (.iconst 1, 1) := by decide +kernel
theorem dX12_goesRows_49 : decode cX12_goesRows 49 = .ok (.iadd, 1) := by decide +kernel
theorem dX12_goesRows_50 : decode cX12_goesRows 50 = .ok (.invokevirtual 407, 3) := by decide +kernel
theorem dX12_goesRows_53 : decode cX12_goesRows 53 = .ok (.iinc 3 1, 3) := by decide +kernel
theorem dX12_goesRows_56 : decode cX12_goesRows 56 = .ok (.goto (-22), 3) := by decide +kernel
theorem dX12_goesRows_59 : decode cX12_goesRows 59 = .ok (.aload_n 0, 1) := by decide +kernel
theorem dX12_goesRows_60 : decode cX12_goesRows 60 = .ok (.getfield 48, 3) := by decide +kernel
theorem dX12_goesRows_63 : decode cX12_goesRows 63 = .ok (.iload_n 1, 1) := by decide +kernel
theorem dX12_goesRows_64 : decode cX12_goesRows 64 = .ok (.iconst 0, 1) := by decide +kernel
theorem dX12_goesRows_65 : decode cX12_goesRows 65 = .ok (.iastore, 1) := by decide +kernel
theorem dX12_goesRows_66 : decode cX12_goesRows 66 = .ok (.return_, 1) := by decide +kernel
theorem dX12_asksRows_0 : decode cX12_asksRows 0 = .ok (.aload_n 0, 1) := by decide +kernel
theorem dX12_asksRows_1 : decode cX12_asksRows 1 = .ok (.iload_n 1, 1) := by decide +kernel
theorem dX12_asksRows_2 : decode cX12_asksRows 2 = .ok (.putfield 410, 3) := by decide +kernel
theorem dX12_asksRows_5 : decode cX12_asksRows 5 = .ok (.aload_n 0, 1) := by decide +kernel
theorem dX12_asksRows_6 : decode cX12_asksRows 6 = .ok (.iconst 0, 1) := by decide +kernel
theorem dX12_asksRows_7 : decode cX12_asksRows 7 = .ok (.putfield 413, 3) := by decide +kernel
theorem dX12_asksRows_10 : decode cX12_asksRows 10 = .ok (.aload_n 0, 1) := by decide +kernel
theorem dX12_asksRows_11 : decode cX12_asksRows 11 = .ok (.ldc_w 416, 3) := by decide +kernel
theorem dX12_asksRows_14 : decode cX12_asksRows 14 = .ok (.putfield 401, 3) := by decide +kernel
theorem dX12_asksRows_17 : decode cX12_asksRows 17 = .ok (.aload_n 0, 1) := by decide +kernel
theorem dX12_asksRows_18 : decode cX12_asksRows 18 = .ok (.iconst (-1), 1) := by decide +kernel
theorem dX12_asksRows_19 : decode cX12_asksRows 19 = .ok (.putfield 417, 3) := by decide +kernel
theorem dX12_asksRows_22 : decode cX12_asksRows 22 = .ok (.aload_n 0, 1) := by decide +kernel
theorem dX12_asksRows_23 : decode cX12_asksRows 23 = .ok (.iconst (-1), 1) := by decide +kernel
theorem dX12_asksRows_24 : decode cX12_asksRows 24 = .ok (.putfield 420, 3) := by decide +kernel
theorem dX12_asksRows_27 : decode cX12_asksRows 27 = .ok (.aload_n 0, 1) := by decide +kernel
theorem dX12_asksRows_28 : decode cX12_asksRows 28 = .ok (.invokevirtual 423, 3) := by decide +kernel
theorem dX12_asksRows_31 : decode cX12_asksRows 31 = .ok (.aload_n 0, 1) := by decide +kernel
theorem dX12_asksRows_32 : decode cX12_asksRows 32 = .ok (.iconst 0, 1) := by decide +kernel
theorem dX12_asksRows_33 : decode cX12_asksRows 33 = .ok (.invokevirtual 407, 3) := by decide +kernel
theorem dX12_asksRows_36 : decode cX12_asksRows 36 = .ok (.return_, 1) := by decide +kernel
theorem dX12_looksSo_0 : decode cX12_looksSo 0 = .ok (.iconst 0, 1) := by decide +kernel
theorem dX12_looksSo_1 : decode cX12_looksSo 1 = .ok (.istore_n 2, 1) := by decide +kernel
theorem dX12_looksSo_2 : decode cX12_looksSo 2 = .ok (.iload_n 2, 1) := by decide +kernel
theorem dX12_looksSo_3 : decode cX12_looksSo 3 = .ok (.aload_n 0, 1) := by decide +kernel
theorem dX12_looksSo_4 : decode cX12_looksSo 4 = .ok (.invokevirtual 254, 3) := by decide +kernel
theorem dX12_looksSo_7 : decode cX12_looksSo 7 = .ok (.if_icmp .ge 51, 3) := by decide +kernel
theorem dX12_looksSo_10 : decode cX12_looksSo 10 = .ok (.aload_n 0, 1) := by decide +kernel
theorem dX12_looksSo_11 : decode cX12_looksSo 11 = .ok (.getfield 82, 3) := by decide +kernel
theorem dX12_looksSo_14 : decode cX12_looksSo 14 = .ok (.bipush 30, 2) := by decide +kernel
theorem dX12_looksSo_16 : decode cX12_looksSo 16 = .ok (.iload_n 1, 1) := by decide +kernel
theorem dX12_looksSo_17 : decode cX12_looksSo 17 = .ok (.imul, 1) := by decide +kernel
theorem dX12_looksSo_18 : decode cX12_looksSo 18 = .ok (.iload_n 2, 1) := by decide +kernel
theorem dX12_looksSo_19 : decode cX12_looksSo 19 = .ok (.iadd, 1) := by decide +kernel
theorem dX12_looksSo_20 : decode cX12_looksSo 20 = .ok (.laload, 1) := by decide +kernel
theorem dX12_looksSo_21 : decode cX12_looksSo 21 = .ok (.ldc2_w 359, 3) := by decide +kernel
theorem dX12_looksSo_24 : decode cX12_looksSo 24 = .ok (.lcmp, 1) := by decide +kernel
theorem dX12_looksSo_25 : decode cX12_looksSo 25 = .ok (.ifCond .eq 27, 3) := by decide +kernel
theorem dX12_looksSo_28 : decode cX12_looksSo 28 = .ok (.aload_n 0, 1) := by decide +kernel
theorem dX12_looksSo_29 : decode cX12_looksSo 29 = .ok (.getfield 82, 3) := by decide +kernel
theorem dX12_looksSo_32 : decode cX12_looksSo 32 = .ok (.bipush 30, 2) := by decide +kernel
theorem dX12_looksSo_34 : decode cX12_looksSo 34 = .ok (.iload_n 1, 1) := by decide +kernel
theorem dX12_looksSo_35 : decode cX12_looksSo 35 = .ok (.imul, 1) := by decide +kernel
theorem dX12_looksSo_36 : decode cX12_looksSo 36 = .ok (.iload_n 2, 1) := by decide +kernel
theorem dX12_looksSo_37 : decode cX12_looksSo 37 = .ok (.iadd, 1) := by decide +kernel
theorem dX12_looksSo_38 : decode cX12_looksSo 38 = .ok (.laload, 1) := by decide +kernel
theorem dX12_looksSo_39 : decode cX12_looksSo 39 = .ok (.aload_n 0, 1) := by decide +kernel
theorem dX12_looksSo_40 : decode cX12_looksSo 40 = .ok (.getfield 36, 3) := by decide +kernel
theorem dX12_looksSo_43 : decode cX12_looksSo 43 = .ok (.iload_n 2, 1) := by decide +kernel
theorem dX12_looksSo_44 : decode cX12_looksSo 44 = .ok (.iaload, 1) := by decide +kernel
theorem dX12_looksSo_45 : decode cX12_looksSo 45 = .ok (.i2l, 1) := by decide +kernel
theorem dX12_looksSo_46 : decode cX12_looksSo 46 = .ok (.lcmp, 1) := by decide +kernel
theorem dX12_looksSo_47 : decode cX12_looksSo 47 = .ok (.ifCond .eq 5, 3) := by decide +kernel
theorem dX12_looksSo_50 : decode cX12_looksSo 50 = .ok (.iconst 0, 1) := by decide +kernel
theorem dX12_looksSo_51 : decode cX12_looksSo 51 = .ok (.ireturn, 1) := by decide +kernel
theorem dX12_looksSo_52 : decode cX12_looksSo 52 = .ok (.iinc 2 1, 3) := by decide +kernel
theorem dX12_looksSo_55 : decode cX12_looksSo 55 = .ok (.goto (-53), 3) := by decide +kernel
theorem dX12_looksSo_58 : decode cX12_looksSo 58 = .ok (.iconst 1, 1) := by decide +kernel
theorem dX12_looksSo_59 : decode cX12_looksSo 59 = .ok (.ireturn, 1) := by decide +kernel
theorem dX12_sees_0 : decode cX12_sees 0 = .ok (.aload_n 0, 1) := by decide +kernel
theorem dX12_sees_1 : decode cX12_sees 1 = .ok (.invokevirtual 426, 3) := by decide +kernel
theorem dX12_sees_4 : decode cX12_sees 4 = .ok (.aload_n 0, 1) := by decide +kernel
theorem dX12_sees_5 : decode cX12_sees 5 = .ok (.getfield 410, 3) := by decide +kernel
theorem dX12_sees_8 : decode cX12_sees 8 = .ok (.tableswitch 110 0 4 #[36, 54, 72, 79, 86], 36) := by decide +kernel
theorem dX12_sees_44 : decode cX12_sees 44 = .ok (.aload_n 0, 1) := by decide +kernel
theorem dX12_sees_45 : decode cX12_sees 45 = .ok (.aload_n 0, 1) := by decide +kernel
theorem dX12_sees_46 : decode cX12_sees 46 = .ok (.getfield 429, 3) := by decide +kernel
theorem dX12_sees_49 : decode cX12_sees 49 = .ok (.invokevirtual 432, 3) := by decide +kernel
theorem dX12_sees_52 : decode cX12_sees 52 = .ok (.ifCond .eq 81, 3) := by decide +kernel
theorem dX12_sees_55 : decode cX12_sees 55 = .ok (.aload_n 0, 1) := by decide +kernel
theorem dX12_sees_56 : decode cX12_sees 56 = .ok (.invokevirtual 435, 3) := by decide +kernel
theorem dX12_sees_59 : decode cX12_sees 59 = .ok (.goto 74, 3) := by decide +kernel
theorem dX12_sees_62 : decode cX12_sees 62 = .ok (.aload_n 0, 1) := by decide +kernel
theorem dX12_sees_63 : decode cX12_sees 63 = .ok (.invokevirtual 313, 3) := by decide +kernel
theorem dX12_sees_66 : decode cX12_sees 66 = .ok (.aload_n 0, 1) := by decide +kernel
theorem dX12_sees_67 : decode cX12_sees 67 = .ok (.getfield 438, 3) := by decide +kernel
theorem dX12_sees_70 : decode cX12_sees 70 = .ok (.if_icmp .ne 63, 3) := by decide +kernel
theorem dX12_sees_73 : decode cX12_sees 73 = .ok (.aload_n 0, 1) := by decide +kernel
theorem dX12_sees_74 : decode cX12_sees 74 = .ok (.invokevirtual 435, 3) := by decide +kernel
theorem dX12_sees_77 : decode cX12_sees 77 = .ok (.goto 56, 3) := by decide +kernel
theorem dX12_sees_80 : decode cX12_sees 80 = .ok (.aload_n 0, 1) := by decide +kernel
theorem dX12_sees_81 : decode cX12_sees 81 = .ok (.invokevirtual 441, 3) := by decide +kernel
theorem dX12_sees_84 : decode cX12_sees 84 = .ok (.goto 49, 3) := by decide +kernel
theorem dX12_sees_87 : decode cX12_sees 87 = .ok (.aload_n 0, 1) := by decide +kernel
theorem dX12_sees_88 : decode cX12_sees 88 = .ok (.invokevirtual 444, 3) := by decide +kernel
theorem dX12_sees_91 : decode cX12_sees 91 = .ok (.goto 42, 3) := by decide +kernel
theorem dX12_sees_94 : decode cX12_sees 94 = .ok (.aload_n 0, 1) := by decide +kernel
theorem dX12_sees_95 : decode cX12_sees 95 = .ok (.dup, 1) := by decide +kernel
theorem dX12_sees_96 : decode cX12_sees 96 = .ok (.getfield 413, 3) := by decide +kernel
theorem dX12_sees_99 : decode cX12_sees 99 = .ok (.aload_n 0, 1) := by decide +kernel
theorem dX12_sees_100 : decode cX12_sees 100 = .ok (.invokevirtual 447, 3) := by decide +kernel
theorem dX12_sees_103 : decode cX12_sees 103 = .ok (.ifCond .eq 7, 3) := by decide +kernel
theorem dX12_sees_106 : decode cX12_sees 106 = .ok (.iconst 1, 1) := by decide +kernel
theorem dX12_sees_107 : decode cX12_sees 107 = .ok (.goto 4, 3) := by decide +kernel
theorem dX12_sees_110 : decode cX12_sees 110 = .ok (.iconst 0, 1) := by decide +kernel
theorem dX12_sees_111 : decode cX12_sees 111 = .ok (.iadd, 1) := by decide +kernel
theorem dX12_sees_112 : decode cX12_sees 112 = .ok (.putfield 413, 3) := by decide +kernel
theorem dX12_sees_115 : decode cX12_sees 115 = .ok (.goto 18, 3) := by decide +kernel
theorem dX12_sees_118 : decode cX12_sees 118 = .ok (.aload_n 0, 1) := by decide +kernel
theorem dX12_sees_119 : decode cX12_sees 119 = .ok (.invokevirtual 313, 3) := by decide +kernel
theorem dX12_sees_122 : decode cX12_sees 122 = .ok (.aload_n 0, 1) := by decide +kernel
theorem dX12_sees_123 : decode cX12_sees 123 = .ok (.getfield 438, 3) := by decide +kernel
theorem dX12_sees_126 : decode cX12_sees 126 = .ok (.if_icmp .ne 7, 3) := by decide +kernel
theorem dX12_sees_129 : decode cX12_sees 129 = .ok (.aload_n 0, 1) := by decide +kernel
theorem dX12_sees_130 : decode cX12_sees 130 = .ok (.invokevirtual 451, 3) := by decide +kernel
theorem dX12_sees_133 : decode cX12_sees 133 = .ok (.return_, 1) := by decide +kernel
theorem dX12_seesOne_0 : decode cX12_seesOne 0 = .ok (.aload_n 0, 1) := by decide +kernel
theorem dX12_seesOne_1 : decode cX12_seesOne 1 = .ok (.dup, 1) := by decide +kernel
theorem dX12_seesOne_2 : decode cX12_seesOne 2 = .ok (.getfield 413, 3) := by decide +kernel
theorem dX12_seesOne_5 : decode cX12_seesOne 5 = .ok (.iconst 1, 1) := by decide +kernel
theorem dX12_seesOne_6 : decode cX12_seesOne 6 = .ok (.iadd, 1) := by decide +kernel
theorem dX12_seesOne_7 : decode cX12_seesOne 7 = .ok (.putfield 413, 3) := by decide +kernel
theorem dX12_seesOne_10 : decode cX12_seesOne 10 = .ok (.aload_n 0, 1) := by decide +kernel
theorem dX12_seesOne_11 : decode cX12_seesOne 11 = .ok (.invokevirtual 398, 3) := by decide +kernel
theorem dX12_seesOne_14 : decode cX12_seesOne 14 = .ok (.aload_n 0, 1) := by decide +kernel
theorem dX12_seesOne_15 : decode cX12_seesOne 15 = .ok (.getfield 401, 3) := by decide +kernel
theorem dX12_seesOne_18 : decode cX12_seesOne 18 = .ok (.if_icmp .ge 7, 3) := by decide +kernel
theorem dX12_seesOne_21 : decode cX12_seesOne 21 = .ok (.aload_n 0, 1) := by decide +kernel
theorem dX12_seesOne_22 : decode cX12_seesOne 22 = .ok (.invokevirtual 454, 3) := by decide +kernel
theorem dX12_seesOne_25 : decode cX12_seesOne 25 = .ok (.return_, 1) := by decide +kernel
theorem dX12_seesKnees_0 : decode cX12_seesKnees 0 = .ok (.aload_n 0, 1) := by decide +kernel
theorem dX12_seesKnees_1 : decode cX12_seesKnees 1 = .ok (.invokevirtual 457, 3) := by decide +kernel
theorem dX12_seesKnees_4 : decode cX12_seesKnees 4 = .ok (.istore_n 1, 1) := by decide +kernel
theorem dX12_seesKnees_5 : decode cX12_seesKnees 5 = .ok (.iload_n 1, 1) := by decide +kernel
theorem dX12_seesKnees_6 : decode cX12_seesKnees 6 = .ok (.aload_n 0, 1) := by decide +kernel
theorem dX12_seesKnees_7 : decode cX12_seesKnees 7 = .ok (.getfield 417, 3) := by decide +kernel
theorem dX12_seesKnees_10 : decode cX12_seesKnees 10 = .ok (.if_icmp .lt 22, 3) := by decide +kernel
theorem dX12_seesKnees_13 : decode cX12_seesKnees 13 = .ok (.iload_n 1, 1) := by decide +kernel
theorem dX12_seesKnees_14 : decode cX12_seesKnees 14 = .ok (.aload_n 0, 1) := by decide +kernel
theorem dX12_seesKnees_15 : decode cX12_seesKnees 15 = .ok (.getfield 417, 3) := by decide +kernel
theorem dX12_seesKnees_18 : decode cX12_seesKnees 18 = .ok (.if_icmp .ne 15, 3) := by decide +kernel
theorem dX12_seesKnees_21 : decode cX12_seesKnees 21 = .ok (.aload_n 0, 1) := by decide +kernel
theorem dX12_seesKnees_22 : decode cX12_seesKnees 22 = .ok (.invokevirtual 398, 3) := by decide +kernel
theorem dX12_seesKnees_25 : decode cX12_seesKnees 25 = .ok (.aload_n 0, 1) := by decide +kernel
theorem dX12_seesKnees_26 : decode cX12_seesKnees 26 = .ok (.getfield 401, 3) := by decide +kernel
theorem dX12_seesKnees_29 : decode cX12_seesKnees 29 = .ok (.if_icmp .lt 4, 3) := by decide +kernel
theorem dX12_seesKnees_32 : decode cX12_seesKnees 32 = .ok (.return_, 1) := by decide +kernel
theorem dX12_seesKnees_33 : decode cX12_seesKnees 33 = .ok (.aload_n 0, 1) := by decide +kernel
theorem dX12_seesKnees_34 : decode cX12_seesKnees 34 = .ok (.iload_n 1, 1) := by decide +kernel
theorem dX12_seesKnees_35 : decode cX12_seesKnees 35 = .ok (.putfield 417, 3) := by decide +kernel
theorem dX12_seesKnees_38 : decode cX12_seesKnees 38 = .ok (.aload_n 0, 1) := by decide +kernel
theorem dX12_seesKnees_39 : decode cX12_seesKnees 39 = .ok (.invokevirtual 454, 3) := by decide +kernel
theorem dX12_seesKnees_42 : decode cX12_seesKnees 42 = .ok (.return_, 1) := by decide +kernel
theorem dX12_seesLook_0 : decode cX12_seesLook 0 = .ok (.aload_n 0, 1) := by decide +kernel
theorem dX12_seesLook_1 : decode cX12_seesLook 1 = .ok (.invokevirtual 460, 3) := by decide +kernel
theorem dX12_seesLook_4 : decode cX12_seesLook 4 = .ok (.istore_n 1, 1) := by decide +kernel
theorem dX12_seesLook_5 : decode cX12_seesLook 5 = .ok (.aload_n 0, 1) := by decide +kernel
theorem dX12_seesLook_6 : decode cX12_seesLook 6 = .ok (.getfield 64, 3) := by decide +kernel
theorem dX12_seesLook_9 : decode cX12_seesLook 9 = .ok (.iload_n 1, 1) := by decide +kernel
theorem dX12_seesLook_10 : decode cX12_seesLook 10 = .ok (.baload, 1) := by decide +kernel
theorem dX12_seesLook_11 : decode cX12_seesLook 11 = .ok (.ifCond .eq 4, 3) := by decide +kernel
theorem dX12_seesLook_14 : decode cX12_seesLook 14 = .ok (.return_, 1) := by decide +kernel
theorem dX12_seesLook_15 : decode cX12_seesLook 15 = .ok (.aload_n 0, 1) := by decide +kernel
theorem dX12_seesLook_16 : decode cX12_seesLook 16 = .ok (.getfield 64, 3) := by decide +kernel
theorem dX12_seesLook_19 : decode cX12_seesLook 19 = .ok (.iload_n 1, 1) := by decide +kernel
theorem dX12_seesLook_20 : decode cX12_seesLook 20 = .ok (.iconst 1, 1) := by decide +kernel
theorem dX12_seesLook_21 : decode cX12_seesLook 21 = .ok (.bastore, 1) := by decide +kernel
theorem dX12_seesLook_22 : decode cX12_seesLook 22 = .ok (.aload_n 0, 1) := by decide +kernel
theorem dX12_seesLook_23 : decode cX12_seesLook 23 = .ok (.dup, 1) := by decide +kernel
theorem dX12_seesLook_24 : decode cX12_seesLook 24 = .ok (.getfield 413, 3) := by decide +kernel
theorem dX12_seesLook_27 : decode cX12_seesLook 27 = .ok (.iconst 1, 1) := by decide +kernel
theorem dX12_seesLook_28 : decode cX12_seesLook 28 = .ok (.iadd, 1) := by decide +kernel
theorem dX12_seesLook_29 : decode cX12_seesLook 29 = .ok (.putfield 413, 3) := by decide +kernel
theorem dX12_seesLook_32 : decode cX12_seesLook 32 = .ok (.aload_n 0, 1) := by decide +kernel
theorem dX12_seesLook_33 : decode cX12_seesLook 33 = .ok (.invokevirtual 313, 3) := by decide +kernel
theorem dX12_seesLook_36 : decode cX12_seesLook 36 = .ok (.istore_n 2, 1) := by decide +kernel
theorem dX12_seesLook_37 : decode cX12_seesLook 37 = .ok (.iload_n 2, 1) := by decide +kernel
theorem dX12_seesLook_38 : decode cX12_seesLook 38 = .ok (.iconst (-1), 1) := by decide +kernel
theorem dX12_seesLook_39 : decode cX12_seesLook 39 = .ok (.if_icmp .eq 13, 3) := by decide +kernel
theorem dX12_seesLook_42 : decode cX12_seesLook 42 = .ok (.aload_n 0, 1) := by decide +kernel
theorem dX12_seesLook_43 : decode cX12_seesLook 43 = .ok (.getfield 60, 3) := by decide +kernel
theorem dX12_seesLook_46 : decode cX12_seesLook 46 = .ok (.iload_n 2, 1) := by decide +kernel
theorem dX12_seesLook_47 : decode cX12_seesLook 47 = .ok (.dup2, 1) := by decide +kernel
theorem dX12_seesLook_48 : decode cX12_seesLook 48 = .ok (.iaload, 1) := by decide +kernel
theorem dX12_seesLook_49 : decode cX12_seesLook 49 = .ok (.iconst 1, 1) := by decide +kernel
theorem dX12_seesLook_50 : decode cX12_seesLook 50 = .ok (.iadd, 1) := by decide +kernel
theorem dX12_seesLook_51 : decode cX12_seesLook 51 = .ok (.iastore, 1) := by decide +kernel
theorem dX12_seesLook_52 : decode cX12_seesLook 52 = .ok (.return_, 1) := by decide +kernel
theorem dX12_isAsNow_0 : decode cX12_isAsNow 0 = .ok (.iconst 0, 1) := by decide +kernel
theorem dX12_isAsNow_1 : decode cX12_isAsNow 1 = .ok (.istore_n 1, 1) := by decide +kernel
theorem dX12_isAsNow_2 : decode cX12_isAsNow 2 = .ok (.iload_n 1, 1) := by decide +kernel
theorem dX12_isAsNow_3 : decode cX12_isAsNow 3 = .ok (.aload_n 0, 1) := by decide +kernel
theorem dX12_isAsNow_4 : decode cX12_isAsNow 4 = .ok (.invokevirtual 254, 3) := by decide +kernel
theorem dX12_isAsNow_7 : decode cX12_isAsNow 7 = .ok (.if_icmp .ge 29, 3) := by decide +kernel
theorem dX12_isAsNow_10 : decode cX12_isAsNow 10 = .ok (.aload_n 0, 1) := by decide +kernel
theorem dX12_isAsNow_11 : decode cX12_isAsNow 11 = .ok (.getfield 36, 3) := by decide +kernel
theorem dX12_isAsNow_14 : decode cX12_isAsNow 14 = .ok (.iload_n 1, 1) := by decide +kernel
theorem dX12_isAsNow_15 : decode cX12_isAsNow 15 = .ok (.iaload, 1) := by decide +kernel
theorem dX12_isAsNow_16 : decode cX12_isAsNow 16 = .ok (.aload_n 0, 1) := by decide +kernel
theorem dX12_isAsNow_17 : decode cX12_isAsNow 17 = .ok (.getfield 9, 3) := by decide +kernel
theorem dX12_isAsNow_20 : decode cX12_isAsNow 20 = .ok (.bipush 6, 2) := by decide +kernel
theorem dX12_isAsNow_22 : decode cX12_isAsNow 22 = .ok (.iload_n 1, 1) := by decide +kernel
theorem dX12_isAsNow_23 : decode cX12_isAsNow 23 = .ok (.iadd, 1) := by decide +kernel
theorem dX12_isAsNow_24 : decode cX12_isAsNow 24 = .ok (.iaload, 1) := by decide +kernel
theorem dX12_isAsNow_25 : decode cX12_isAsNow 25 = .ok (.if_icmp .eq 5, 3) := by decide +kernel
theorem dX12_isAsNow_28 : decode cX12_isAsNow 28 = .ok (.iconst 0, 1) := by decide +kernel
theorem dX12_isAsNow_29 : decode cX12_isAsNow 29 = .ok (.ireturn, 1) := by decide +kernel
theorem dX12_isAsNow_30 : decode cX12_isAsNow 30 = .ok (.iinc 1 1, 3) := by decide +kernel
theorem dX12_isAsNow_33 : decode cX12_isAsNow 33 = .ok (.goto (-31), 3) := by decide +kernel
theorem dX12_isAsNow_36 : decode cX12_isAsNow 36 = .ok (.iconst 1, 1) := by decide +kernel
theorem dX12_isAsNow_37 : decode cX12_isAsNow 37 = .ok (.ireturn, 1) := by decide +kernel
theorem dX12_seesHelp_0 : decode cX12_seesHelp 0 = .ok (.iconst 0, 1) := by decide +kernel
theorem dX12_seesHelp_1 : decode cX12_seesHelp 1 = .ok (.istore_n 1, 1) := by decide +kernel
theorem dX12_seesHelp_2 : decode cX12_seesHelp 2 = .ok (.iconst 0, 1) := by decide +kernel
theorem dX12_seesHelp_3 : decode cX12_seesHelp 3 = .ok (.istore_n 2, 1) := by decide +kernel
theorem dX12_seesHelp_4 : decode cX12_seesHelp 4 = .ok (.iload_n 2, 1) := by decide +kernel
theorem dX12_seesHelp_5 : decode cX12_seesHelp 5 = .ok (.aload_n 0, 1) := by decide +kernel
theorem dX12_seesHelp_6 : decode cX12_seesHelp 6 = .ok (.invokevirtual 254, 3) := by decide +kernel
theorem dX12_seesHelp_9 : decode cX12_seesHelp 9 = .ok (.if_icmp .ge 28, 3) := by decide +kernel
theorem dX12_seesHelp_12 : decode cX12_seesHelp 12 = .ok (.iload_n 1, 1) := by decide +kernel
theorem dX12_seesHelp_13 : decode cX12_seesHelp 13 = .ok (.aload_n 0, 1) := by decide +kernel
theorem dX12_seesHelp_14 : decode cX12_seesHelp 14 = .ok (.getfield 48, 3) := by decide +kernel
theorem dX12_seesHelp_17 : decode cX12_seesHelp 17 = .ok (.iload_n 2, 1) := by decide +kernel
theorem dX12_seesHelp_18 : decode cX12_seesHelp 18 = .ok (.iaload, 1) := by decide +kernel
theorem dX12_seesHelp_19 : decode cX12_seesHelp 19 = .ok (.ifCond .le 9, 3) := by decide +kernel
theorem dX12_seesHelp_22 : decode cX12_seesHelp 22 = .ok (.iconst 1, 1) := by decide +kernel
theorem dX12_seesHelp_23 : decode cX12_seesHelp 23 = .ok (.iload_n 2, 1) := by decide +kernel
theorem dX12_seesHelp_24 : decode cX12_seesHelp 24 = .ok (.ishl, 1) := by decide +kernel
theorem dX12_seesHelp_25 : decode cX12_seesHelp 25 = .ok (.goto 4, 3) := by decide +kernel
theorem dX12_seesHelp_28 : decode cX12_seesHelp 28 = .ok (.iconst 0, 1) := by decide +kernel
theorem dX12_seesHelp_29 : decode cX12_seesHelp 29 = .ok (.ior, 1) := by decide +kernel
theorem dX12_seesHelp_30 : decode cX12_seesHelp 30 = .ok (.istore_n 1, 1) := by decide +kernel
theorem dX12_seesHelp_31 : decode cX12_seesHelp 31 = .ok (.iinc 2 1, 3) := by decide +kernel
theorem dX12_seesHelp_34 : decode cX12_seesHelp 34 = .ok (.goto (-30), 3) := by decide +kernel
theorem dX12_seesHelp_37 : decode cX12_seesHelp 37 = .ok (.aload_n 0, 1) := by decide +kernel
theorem dX12_seesHelp_38 : decode cX12_seesHelp 38 = .ok (.getfield 420, 3) := by decide +kernel
theorem dX12_seesHelp_41 : decode cX12_seesHelp 41 = .ok (.iconst (-1), 1) := by decide +kernel
theorem dX12_seesHelp_42 : decode cX12_seesHelp 42 = .ok (.if_icmp .eq 39, 3) := by decide +kernel
theorem dX12_seesHelp_45 : decode cX12_seesHelp 45 = .ok (.iload_n 1, 1) := by decide +kernel
theorem dX12_seesHelp_46 : decode cX12_seesHelp 46 = .ok (.invokestatic 463, 3) := by decide +kernel
theorem dX12_seesHelp_49 : decode cX12_seesHelp 49 = .ok (.aload_n 0, 1) := by decide +kernel
theorem dX12_seesHelp_50 : decode cX12_seesHelp 50 = .ok (.getfield 420, 3) := by decide +kernel
theorem dX12_seesHelp_53 : decode cX12_seesHelp 53 = .ok (.invokestatic 463, 3) := by decide +kernel
theorem dX12_seesHelp_56 : decode cX12_seesHelp 56 = .ok (.if_icmp .lt 25, 3) := by decide +kernel
theorem dX12_seesHelp_59 : decode cX12_seesHelp 59 = .ok (.iload_n 1, 1) := by decide +kernel
theorem dX12_seesHelp_60 : decode cX12_seesHelp 60 = .ok (.invokestatic 463, 3) := by decide +kernel
theorem dX12_seesHelp_63 : decode cX12_seesHelp 63 = .ok (.aload_n 0, 1) := by decide +kernel
theorem dX12_seesHelp_64 : decode cX12_seesHelp 64 = .ok (.getfield 420, 3) := by decide +kernel
theorem dX12_seesHelp_67 : decode cX12_seesHelp 67 = .ok (.invokestatic 463, 3) := by decide +kernel
theorem dX12_seesHelp_70 : decode cX12_seesHelp 70 = .ok (.if_icmp .ne 16, 3) := by decide +kernel
theorem dX12_seesHelp_73 : decode cX12_seesHelp 73 = .ok (.iload_n 1, 1) := by decide +kernel
theorem dX12_seesHelp_74 : decode cX12_seesHelp 74 = .ok (.aload_n 0, 1) := by decide +kernel
theorem dX12_seesHelp_75 : decode cX12_seesHelp 75 = .ok (.getfield 420, 3) := by decide +kernel
theorem dX12_seesHelp_78 : decode cX12_seesHelp 78 = .ok (.if_icmp .ge 8, 3) := by decide +kernel
theorem dX12_seesHelp_81 : decode cX12_seesHelp 81 = .ok (.aload_n 0, 1) := by decide +kernel
theorem dX12_seesHelp_82 : decode cX12_seesHelp 82 = .ok (.iload_n 1, 1) := by decide +kernel
theorem dX12_seesHelp_83 : decode cX12_seesHelp 83 = .ok (.putfield 420, 3) := by decide +kernel
theorem dX12_seesHelp_86 : decode cX12_seesHelp 86 = .ok (.return_, 1) := by decide +kernel
theorem dX12_lookFault_0 : decode cX12_lookFault 0 = .ok (.aload_n 0, 1) := by decide +kernel
theorem dX12_lookFault_1 : decode cX12_lookFault 1 = .ok (.iload_n 1, 1) := by decide +kernel
theorem dX12_lookFault_2 : decode cX12_lookFault 2 = .ok (.invokevirtual 369, 3) := by decide +kernel
theorem dX12_lookFault_5 : decode cX12_lookFault 5 = .ok (.istore_n 2, 1) := by decide +kernel
theorem dX12_lookFault_6 : decode cX12_lookFault 6 = .ok (.iload_n 2, 1) := by decide +kernel
theorem dX12_lookFault_7 : decode cX12_lookFault 7 = .ok (.ifCond .eq 5, 3) := by decide +kernel
theorem dX12_lookFault_10 : decode cX12_lookFault 10 = .ok (.iload_n 2, 1) := by decide +kernel
theorem dX12_lookFault_11 : decode cX12_lookFault 11 = .ok (.ireturn, 1) := by decide +kernel
theorem dX12_lookFault_12 : decode cX12_lookFault 12 = .ok (.aload_n 0, 1) := by decide +kernel
theorem dX12_lookFault_13 : decode cX12_lookFault 13 = .ok (.getfield 79, 3) := by decide +kernel
theorem dX12_lookFault_16 : decode cX12_lookFault 16 = .ok (.iload_n 1, 1) := by decide +kernel
theorem dX12_lookFault_17 : decode cX12_lookFault 17 = .ok (.iaload, 1) := by decide +kernel
theorem dX12_lookFault_18 : decode cX12_lookFault 18 = .ok (.aload_n 0, 1) := by decide +kernel
theorem dX12_lookFault_19 : decode cX12_lookFault 19 = .ok (.invokevirtual 254, 3) := by decide +kernel
theorem dX12_lookFault_22 : decode cX12_lookFault 22 = .ok (.if_icmp .ne 7, 3) := by decide +kernel
theorem dX12_lookFault_25 : decode cX12_lookFault 25 = .ok (.iconst 1, 1) := by decide +kernel
theorem dX12_lookFault_26 : decode cX12_lookFault 26 = .ok (.goto 4, 3) := by decide +kernel
theorem dX12_lookFault_29 : decode cX12_lookFault 29 = .ok (.iconst 0, 1) := by decide +kernel
theorem dX12_lookFault_30 : decode cX12_lookFault 30 = .ok (.istore_n 3, 1) := by decide +kernel
theorem dX12_lookFault_31 : decode cX12_lookFault 31 = .ok (.iconst 0, 1) := by decide +kernel
theorem dX12_lookFault_32 : decode cX12_lookFault 32 = .ok (.istore 4, 2) := by decide +kernel
theorem dX12_lookFault_34 : decode cX12_lookFault 34 = .ok (.iload 4, 2) := by decide +kernel
theorem dX12_lookFault_36 : decode cX12_lookFault 36 = .ok (.aload_n 0, 1) := by decide +kernel
theorem dX12_lookFault_37 : decode cX12_lookFault 37 = .ok (.getfield 79, 3) := by decide +kernel
theorem dX12_lookFault_40 : decode cX12_lookFault 40 = .ok (.iload_n 1, 1) := by decide +kernel
theorem dX12_lookFault_41 : decode cX12_lookFault 41 = .ok (.iaload, 1) := by decide +kernel
theorem dX12_lookFault_42 : decode cX12_lookFault 42 = .ok (.if_icmp .ge 39, 3) := by decide +kernel
theorem dX12_lookFault_45 : decode cX12_lookFault 45 = .ok (.iload_n 3, 1) := by decide +kernel
theorem dX12_lookFault_46 : decode cX12_lookFault 46 = .ok (.ifCond .eq 35, 3) := by decide +kernel
theorem dX12_lookFault_49 : decode cX12_lookFault 49 = .ok (.aload_n 0, 1) := by decide +kernel
theorem dX12_lookFault_50 : decode cX12_lookFault 50 = .ok (.getfield 82, 3) := by decide +kernel
theorem dX12_lookFault_53 : decode cX12_lookFault 53 = .ok (.bipush 30, 2) := by decide +kernel
theorem dX12_lookFault_55 : decode cX12_lookFault 55 = .ok (.iload_n 1, 1) := by decide +kernel
theorem dX12_lookFault_56 : decode cX12_lookFault 56 = .ok (.imul, 1) := by decide +kernel
theorem dX12_lookFault_57 : decode cX12_lookFault 57 = .ok (.iload 4, 2) := by decide +kernel
theorem dX12_lookFault_59 : decode cX12_lookFault 59 = .ok (.iadd, 1) := by decide +kernel
theorem dX12_lookFault_60 : decode cX12_lookFault 60 = .ok (.laload, 1) := by decide +kernel
theorem dX12_lookFault_61 : decode cX12_lookFault 61 = .ok (.ldc2_w 359, 3) := by decide +kernel
theorem dX12_lookFault_64 : decode cX12_lookFault 64 = .ok (.aload_n 0, 1) := by decide +kernel
theorem dX12_lookFault_65 : decode cX12_lookFault 65 = .ok (.invokevirtual 254, 3) := by decide +kernel
theorem dX12_lookFault_68 : decode cX12_lookFault 68 = .ok (.iconst 1, 1) := by decide +kernel
theorem dX12_lookFault_69 : decode cX12_lookFault 69 = .ok (.isub, 1) := by decide +kernel
theorem dX12_lookFault_70 : decode cX12_lookFault 70 = .ok (.i2l, 1) := by decide +kernel
theorem dX12_lookFault_71 : decode cX12_lookFault 71 = .ok (.invokestatic 147, 3) := by decide +kernel
theorem dX12_lookFault_74 : decode cX12_lookFault 74 = .ok (.istore_n 3, 1) := by decide +kernel
theorem dX12_lookFault_75 : decode cX12_lookFault 75 = .ok (.iinc 4 1, 3) := by decide +kernel
theorem dX12_lookFault_78 : decode cX12_lookFault 78 = .ok (.goto (-44), 3) := by decide +kernel
theorem dX12_lookFault_81 : decode cX12_lookFault 81 = .ok (.iload_n 3, 1) := by decide +kernel
theorem dX12_lookFault_82 : decode cX12_lookFault 82 = .ok (.ifCond .eq 7, 3) := by decide +kernel
theorem dX12_lookFault_85 : decode cX12_lookFault 85 = .ok (.iconst 0, 1) := by decide +kernel
theorem dX12_lookFault_86 : decode cX12_lookFault 86 = .ok (.goto 4, 3) := by decide +kernel
theorem dX12_lookFault_89 : decode cX12_lookFault 89 = .ok (.iconst 3, 1) := by decide +kernel
theorem dX12_lookFault_90 : decode cX12_lookFault 90 = .ok (.ireturn, 1) := by decide +kernel
theorem dX12_isWhat_0 : decode cX12_isWhat 0 = .ok (.iload_n 0, 1) := by decide +kernel
theorem dX12_isWhat_1 : decode cX12_isWhat 1 = .ok (.ifCond .eq 17, 3) := by decide +kernel
theorem dX12_isWhat_4 : decode cX12_isWhat 4 = .ok (.iload_n 0, 1) := by decide +kernel
theorem dX12_isWhat_5 : decode cX12_isWhat 5 = .ok (.i2l, 1) := by decide +kernel
theorem dX12_isWhat_6 : decode cX12_isWhat 6 = .ok (.ldc2_w 354, 3) := by decide +kernel
theorem dX12_isWhat_9 : decode cX12_isWhat 9 = .ok (.ldc2_w 466, 3) := by decide +kernel
theorem dX12_isWhat_12 : decode cX12_isWhat 12 = .ok (.invokestatic 147, 3) := by decide +kernel
theorem dX12_isWhat_15 : decode cX12_isWhat 15 = .ok (.ifCond .eq 7, 3) := by decide +kernel
theorem dX12_isWhat_18 : decode cX12_isWhat 18 = .ok (.iconst 1, 1) := by decide +kernel
theorem dX12_isWhat_19 : decode cX12_isWhat 19 = .ok (.goto 4, 3) := by decide +kernel
theorem dX12_isWhat_22 : decode cX12_isWhat 22 = .ok (.iconst 0, 1) := by decide +kernel
theorem dX12_isWhat_23 : decode cX12_isWhat 23 = .ok (.ireturn, 1) := by decide +kernel
theorem dX12_toldRow_0 : decode cX12_toldRow 0 = .ok (.aload_n 0, 1) := by decide +kernel
theorem dX12_toldRow_1 : decode cX12_toldRow 1 = .ok (.getfield 401, 3) := by decide +kernel
theorem dX12_toldRow_4 : decode cX12_toldRow 4 = .ok (.ldc_w 416, 3) := by decide +kernel
theorem dX12_toldRow_7 : decode cX12_toldRow 7 = .ok (.if_icmp .ne 7, 3) := by decide +kernel
theorem dX12_toldRow_10 : decode cX12_toldRow 10 = .ok (.iconst (-1), 1) := by decide +kernel
theorem dX12_toldRow_11 : decode cX12_toldRow 11 = .ok (.goto 23, 3) := by decide +kernel
theorem dX12_toldRow_14 : decode cX12_toldRow 14 = .ok (.iload_n 1, 1) := by decide +kernel
theorem dX12_toldRow_15 : decode cX12_toldRow 15 = .ok (.ifCond .ne 10, 3) := by decide +kernel
theorem dX12_toldRow_18 : decode cX12_toldRow 18 = .ok (.aload_n 0, 1) := by decide +kernel
theorem dX12_toldRow_19 : decode cX12_toldRow 19 = .ok (.getfield 401, 3) := by decide +kernel
theorem dX12_toldRow_22 : decode cX12_toldRow 22 = .ok (.goto 12, 3) := by decide +kernel
theorem dX12_toldRow_25 : decode cX12_toldRow 25 = .ok (.aload_n 0, 1) := by decide +kernel
theorem dX12_toldRow_26 : decode cX12_toldRow 26 = .ok (.getfield 57, 3) := by decide +kernel
theorem dX12_toldRow_29 : decode cX12_toldRow 29 = .ok (.iload_n 1, 1) := by decide +kernel
theorem dX12_toldRow_30 : decode cX12_toldRow 30 = .ok (.bipush 10, 2) := by decide +kernel
theorem dX12_toldRow_32 : decode cX12_toldRow 32 = .ok (.isub, 1) := by decide +kernel
theorem dX12_toldRow_33 : decode cX12_toldRow 33 = .ok (.iaload, 1) := by decide +kernel
theorem dX12_toldRow_34 : decode cX12_toldRow 34 = .ok (.ireturn, 1) := by decide +kernel
theorem dX12_cheapest_0 : decode cX12_cheapest 0 = .ok (.aload_n 0, 1) := by decide +kernel
theorem dX12_cheapest_1 : decode cX12_cheapest 1 = .ok (.aload_n 0, 1) := by decide +kernel
theorem dX12_cheapest_2 : decode cX12_cheapest 2 = .ok (.iload_n 1, 1) := by decide +kernel
theorem dX12_cheapest_3 : decode cX12_cheapest 3 = .ok (.invokevirtual 468, 3) := by decide +kernel
theorem dX12_cheapest_6 : decode cX12_cheapest 6 = .ok (.putfield 86, 3) := by decide +kernel
theorem dX12_cheapest_9 : decode cX12_cheapest 9 = .ok (.aload_n 0, 1) := by decide +kernel
theorem dX12_cheapest_10 : decode cX12_cheapest 10 = .ok (.getfield 86, 3) := by decide +kernel
theorem dX12_cheapest_13 : decode cX12_cheapest 13 = .ok (.ifCond .ne 15, 3) := by decide +kernel
theorem dX12_cheapest_16 : decode cX12_cheapest 16 = .ok (.iload_n 2, 1) := by decide +kernel
theorem dX12_cheapest_17 : decode cX12_cheapest 17 = .ok (.invokestatic 471, 3) := by decide +kernel
theorem dX12_cheapest_20 : decode cX12_cheapest 20 = .ok (.ifCond .ne 8, 3) := by decide +kernel
theorem dX12_cheapest_23 : decode cX12_cheapest 23 = .ok (.aload_n 0, 1) := by decide +kernel
theorem dX12_cheapest_24 : decode cX12_cheapest 24 = .ok (.iconst 3, 1) := by decide +kernel
theorem dX12_cheapest_25 : decode cX12_cheapest 25 = .ok (.putfield 86, 3) := by decide +kernel
theorem dX12_cheapest_28 : decode cX12_cheapest 28 = .ok (.aload_n 0, 1) := by decide +kernel
theorem dX12_cheapest_29 : decode cX12_cheapest 29 = .ok (.getfield 86, 3) := by decide +kernel
theorem dX12_cheapest_32 : decode cX12_cheapest 32 = .ok (.ifCond .le 5, 3) := by decide +kernel
theorem dX12_cheapest_35 : decode cX12_cheapest 35 = .ok (.iconst 0, 1) := by decide +kernel
theorem dX12_cheapest_36 : decode cX12_cheapest 36 = .ok (.ireturn, 1) := by decide +kernel
theorem dX12_cheapest_37 : decode cX12_cheapest 37 = .ok (.aload_n 0, 1) := by decide +kernel
theorem dX12_cheapest_38 : decode cX12_cheapest 38 = .ok (.iload_n 1, 1) := by decide +kernel
theorem dX12_cheapest_39 : decode cX12_cheapest 39 = .ok (.putfield 429, 3) := by decide +kernel
theorem dX12_cheapest_42 : decode cX12_cheapest 42 = .ok (.aload_n 0, 1) := by decide +kernel
theorem dX12_cheapest_43 : decode cX12_cheapest 43 = .ok (.iconst 0, 1) := by decide +kernel
theorem dX12_cheapest_44 : decode cX12_cheapest 44 = .ok (.invokevirtual 474, 3) := by decide +kernel
theorem dX12_cheapest_47 : decode cX12_cheapest 47 = .ok (.aload_n 0, 1) := by decide +kernel
theorem dX12_cheapest_48 : decode cX12_cheapest 48 = .ok (.iload_n 2, 1) := by decide +kernel
theorem dX12_cheapest_49 : decode cX12_cheapest 49 = .ok (.invokevirtual 477, 3) := by decide +kernel
theorem dX12_cheapest_52 : decode cX12_cheapest 52 = .ok (.ireturn, 1) := by decide +kernel
theorem dX12_ways_0 : decode cX12_ways 0 = .ok (.aload_n 0, 1) := by decide +kernel
theorem dX12_ways_1 : decode cX12_ways 1 = .ok (.aload_n 0, 1) := by decide +kernel
theorem dX12_ways_2 : decode cX12_ways 2 = .ok (.iload_n 1, 1) := by decide +kernel
theorem dX12_ways_3 : decode cX12_ways 3 = .ok (.invokevirtual 468, 3) := by decide +kernel
theorem dX12_ways_6 : decode cX12_ways 6 = .ok (.putfield 86, 3) := by decide +kernel
theorem dX12_ways_9 : decode cX12_ways 9 = .ok (.aload_n 0, 1) := by decide +kernel
theorem dX12_ways_10 : decode cX12_ways 10 = .ok (.getfield 86, 3) := by decide +kernel
theorem dX12_ways_13 : decode cX12_ways 13 = .ok (.ifCond .le 5, 3) := by decide +kernel
theorem dX12_ways_16 : decode cX12_ways 16 = .ok (.iconst 0, 1) := by decide +kernel
theorem dX12_ways_17 : decode cX12_ways 17 = .ok (.ireturn, 1) := by decide +kernel
theorem dX12_ways_18 : decode cX12_ways 18 = .ok (.aload_n 0, 1) := by decide +kernel
theorem dX12_ways_19 : decode cX12_ways 19 = .ok (.iload_n 1, 1) := by decide +kernel
theorem dX12_ways_20 : decode cX12_ways 20 = .ok (.putfield 429, 3) := by decide +kernel
theorem dX12_ways_23 : decode cX12_ways 23 = .ok (.aload_n 0, 1) := by decide +kernel
theorem dX12_ways_24 : decode cX12_ways 24 = .ok (.iconst 0, 1) := by decide +kernel
theorem dX12_ways_25 : decode cX12_ways 25 = .ok (.invokevirtual 474, 3) := by decide +kernel
theorem dX12_ways_28 : decode cX12_ways 28 = .ok (.aload_n 0, 1) := by decide +kernel
theorem dX12_ways_29 : decode cX12_ways 29 = .ok (.getfield 413, 3) := by decide +kernel
theorem dX12_ways_32 : decode cX12_ways 32 = .ok (.ireturn, 1) := by decide +kernel
theorem dX12_throne_0 : decode cX12_throne 0 = .ok (.aload_n 0, 1) := by decide +kernel
theorem dX12_throne_1 : decode cX12_throne 1 = .ok (.aload_n 0, 1) := by decide +kernel
theorem dX12_throne_2 : decode cX12_throne 2 = .ok (.iload_n 1, 1) := by decide +kernel
theorem dX12_throne_3 : decode cX12_throne 3 = .ok (.i2l, 1) := by decide +kernel
theorem dX12_throne_4 : decode cX12_throne 4 = .ok (.invokevirtual 319, 3) := by decide +kernel
theorem dX12_throne_7 : decode cX12_throne 7 = .ok (.ifCond .ne 7, 3) := by decide +kernel
theorem dX12_throne_10 : decode cX12_throne 10 = .ok (.iconst 1, 1) := by decide +kernel
theorem dX12_throne_11 : decode cX12_throne 11 = .ok (.goto 15, 3) := by decide +kernel
theorem dX12_throne_14 : decode cX12_throne 14 = .ok (.iload_n 2, 1) := by decide +kernel
theorem dX12_throne_15 : decode cX12_throne 15 = .ok (.invokestatic 471, 3) := by decide +kernel
theorem dX12_throne_18 : decode cX12_throne 18 = .ok (.ifCond .eq 7, 3) := by decide +kernel
theorem dX12_throne_21 : decode cX12_throne 21 = .ok (.iconst 0, 1) := by decide +kernel
theorem dX12_throne_22 : decode cX12_throne 22 = .ok (.goto 4, 3) := by decide +kernel
theorem dX12_throne_25 : decode cX12_throne 25 = .ok (.iconst 2, 1) := by decide +kernel
theorem dX12_throne_26 : decode cX12_throne 26 = .ok (.putfield 86, 3) := by decide +kernel
theorem dX12_throne_29 : decode cX12_throne 29 = .ok (.aload_n 0, 1) := by decide +kernel
theorem dX12_throne_30 : decode cX12_throne 30 = .ok (.getfield 86, 3) := by decide +kernel
theorem dX12_throne_33 : decode cX12_throne 33 = .ok (.ifCond .le 5, 3) := by decide +kernel
theorem dX12_throne_36 : decode cX12_throne 36 = .ok (.iconst 0, 1) := by decide +kernel
theorem dX12_throne_37 : decode cX12_throne 37 = .ok (.ireturn, 1) := by decide +kernel
theorem dX12_throne_38 : decode cX12_throne 38 = .ok (.aload_n 0, 1) := by decide +kernel
theorem dX12_throne_39 : decode cX12_throne 39 = .ok (.iload_n 1, 1) := by decide +kernel
theorem dX12_throne_40 : decode cX12_throne 40 = .ok (.putfield 438, 3) := by decide +kernel
theorem dX12_throne_43 : decode cX12_throne 43 = .ok (.aload_n 0, 1) := by decide +kernel
theorem dX12_throne_44 : decode cX12_throne 44 = .ok (.iconst 1, 1) := by decide +kernel
theorem dX12_throne_45 : decode cX12_throne 45 = .ok (.invokevirtual 474, 3) := by decide +kernel
theorem dX12_throne_48 : decode cX12_throne 48 = .ok (.aload_n 0, 1) := by decide +kernel
theorem dX12_throne_49 : decode cX12_throne 49 = .ok (.iload_n 2, 1) := by decide +kernel
theorem dX12_throne_50 : decode cX12_throne 50 = .ok (.invokevirtual 477, 3) := by decide +kernel
theorem dX12_throne_53 : decode cX12_throne 53 = .ok (.ireturn, 1) := by decide +kernel
theorem dX12_laysLooks_0 : decode cX12_laysLooks 0 = .ok (.iconst 0, 1) := by decide +kernel
theorem dX12_laysLooks_1 : decode cX12_laysLooks 1 = .ok (.istore_n 1, 1) := by decide +kernel
theorem dX12_laysLooks_2 : decode cX12_laysLooks 2 = .ok (.iload_n 1, 1) := by decide +kernel
theorem dX12_laysLooks_3 : decode cX12_laysLooks 3 = .ok (.ldc 63, 2) := by decide +kernel
theorem dX12_laysLooks_5 : decode cX12_laysLooks 5 = .ok (.if_icmp .ge 16, 3) := by decide +kernel
theorem dX12_laysLooks_8 : decode cX12_laysLooks 8 = .ok (.aload_n 0, 1) := by decide +kernel
theorem dX12_laysLooks_9 : decode cX12_laysLooks 9 = .ok (.getfield 64, 3) := by decide +kernel
theorem dX12_laysLooks_12 : decode cX12_laysLooks 12 = .ok (.iload_n 1, 1) := by decide +kernel
theorem dX12_laysLooks_13 : decode cX12_laysLooks 13 = .ok (.iconst 0, 1) := by decide +kernel
theorem dX12_laysLooks_14 : decode cX12_laysLooks 14 = .ok (.bastore, 1) := by decide +kernel
theorem dX12_laysLooks_15 : decode cX12_laysLooks 15 = .ok (.iinc 1 1, 3) := by decide +kernel
theorem dX12_laysLooks_18 : decode cX12_laysLooks 18 = .ok (.goto (-16), 3) := by decide +kernel
theorem dX12_laysLooks_21 : decode cX12_laysLooks 21 = .ok (.iconst 0, 1) := by decide +kernel
theorem dX12_laysLooks_22 : decode cX12_laysLooks 22 = .ok (.istore_n 1, 1) := by decide +kernel
theorem dX12_laysLooks_23 : decode cX12_laysLooks 23 = .ok (.iload_n 1, 1) := by decide +kernel
theorem dX12_laysLooks_24 : decode cX12_laysLooks 24 = .ok (.bipush 6, 2) := by decide +kernel
theorem dX12_laysLooks_26 : decode cX12_laysLooks 26 = .ok (.if_icmp .ge 16, 3) := by decide +kernel
theorem dX12_laysLooks_29 : decode cX12_laysLooks 29 = .ok (.aload_n 0, 1) := by decide +kernel
theorem dX12_laysLooks_30 : decode cX12_laysLooks 30 = .ok (.getfield 60, 3) := by decide +kernel
theorem dX12_laysLooks_33 : decode cX12_laysLooks 33 = .ok (.iload_n 1, 1) := by decide +kernel
theorem dX12_laysLooks_34 : decode cX12_laysLooks 34 = .ok (.iconst 0, 1) := by decide +kernel
theorem dX12_laysLooks_35 : decode cX12_laysLooks 35 = .ok (.iastore, 1) := by decide +kernel
theorem dX12_laysLooks_36 : decode cX12_laysLooks 36 = .ok (.iinc 1 1, 3) := by decide +kernel
theorem dX12_laysLooks_39 : decode cX12_laysLooks 39 = .ok (.goto (-16), 3) := by decide +kernel
theorem dX12_laysLooks_42 : decode cX12_laysLooks 42 = .ok (.aload_n 0, 1) := by decide +kernel
theorem dX12_laysLooks_43 : decode cX12_laysLooks 43 = .ok (.iconst 3, 1) := by decide +kernel
theorem dX12_laysLooks_44 : decode cX12_laysLooks 44 = .ok (.invokevirtual 474, 3) := by decide +kernel
theorem dX12_laysLooks_47 : decode cX12_laysLooks 47 = .ok (.return_, 1) := by decide +kernel
theorem dX12_looks_0 : decode cX12_looks 0 = .ok (.aload_n 0, 1) := by decide +kernel
theorem dX12_looks_1 : decode cX12_looks 1 = .ok (.iconst 0, 1) := by decide +kernel
theorem dX12_looks_2 : decode cX12_looks 2 = .ok (.putfield 86, 3) := by decide +kernel
theorem dX12_looks_5 : decode cX12_looks 5 = .ok (.aload_n 0, 1) := by decide +kernel
theorem dX12_looks_6 : decode cX12_looks 6 = .ok (.invokevirtual 480, 3) := by decide +kernel
theorem dX12_looks_9 : decode cX12_looks 9 = .ok (.aload_n 0, 1) := by decide +kernel
theorem dX12_looks_10 : decode cX12_looks 10 = .ok (.getfield 413, 3) := by decide +kernel
theorem dX12_looks_13 : decode cX12_looks 13 = .ok (.ireturn, 1) := by decide +kernel
theorem dX12_idle_0 : decode cX12_idle 0 = .ok (.aload_n 0, 1) := by decide +kernel
theorem dX12_idle_1 : decode cX12_idle 1 = .ok (.iconst 0, 1) := by decide +kernel
theorem dX12_idle_2 : decode cX12_idle 2 = .ok (.putfield 86, 3) := by decide +kernel
theorem dX12_idle_5 : decode cX12_idle 5 = .ok (.aload_n 0, 1) := by decide +kernel
theorem dX12_idle_6 : decode cX12_idle 6 = .ok (.iconst 4, 1) := by decide +kernel
theorem dX12_idle_7 : decode cX12_idle 7 = .ok (.invokevirtual 474, 3) := by decide +kernel
theorem dX12_idle_10 : decode cX12_idle 10 = .ok (.aload_n 0, 1) := by decide +kernel
theorem dX12_idle_11 : decode cX12_idle 11 = .ok (.getfield 413, 3) := by decide +kernel
theorem dX12_idle_14 : decode cX12_idle 14 = .ok (.ireturn, 1) := by decide +kernel
theorem dX12_power_0 : decode cX12_power 0 = .ok (.aload_n 0, 1) := by decide +kernel
theorem dX12_power_1 : decode cX12_power 1 = .ok (.iconst 0, 1) := by decide +kernel
theorem dX12_power_2 : decode cX12_power 2 = .ok (.putfield 86, 3) := by decide +kernel
theorem dX12_power_5 : decode cX12_power 5 = .ok (.aload_n 0, 1) := by decide +kernel
theorem dX12_power_6 : decode cX12_power 6 = .ok (.iload_n 1, 1) := by decide +kernel
theorem dX12_power_7 : decode cX12_power 7 = .ok (.i2l, 1) := by decide +kernel
theorem dX12_power_8 : decode cX12_power 8 = .ok (.invokevirtual 319, 3) := by decide +kernel
theorem dX12_power_11 : decode cX12_power 11 = .ok (.ifCond .ne 9, 3) := by decide +kernel
theorem dX12_power_14 : decode cX12_power 14 = .ok (.aload_n 0, 1) := by decide +kernel
theorem dX12_power_15 : decode cX12_power 15 = .ok (.iconst 1, 1) := by decide +kernel
theorem dX12_power_16 : decode cX12_power 16 = .ok (.invokevirtual 239, 3) := by decide +kernel
theorem dX12_power_19 : decode cX12_power 19 = .ok (.ireturn, 1) := by decide +kernel
theorem dX12_power_20 : decode cX12_power 20 = .ok (.aload_n 0, 1) := by decide +kernel
theorem dX12_power_21 : decode cX12_power 21 = .ok (.invokevirtual 480, 3) := by decide +kernel
theorem dX12_power_24 : decode cX12_power 24 = .ok (.aload_n 0, 1) := by decide +kernel
theorem dX12_power_25 : decode cX12_power 25 = .ok (.getfield 60, 3) := by decide +kernel
theorem dX12_power_28 : decode cX12_power 28 = .ok (.iload_n 1, 1) := by decide +kernel
theorem dX12_power_29 : decode cX12_power 29 = .ok (.iaload, 1) := by decide +kernel
theorem dX12_power_30 : decode cX12_power 30 = .ok (.ireturn, 1) := by decide +kernel
theorem dX12_strongest_0 : decode cX12_strongest 0 = .ok (.aload_n 0, 1) := by decide +kernel
theorem dX12_strongest_1 : decode cX12_strongest 1 = .ok (.iconst 0, 1) := by decide +kernel
theorem dX12_strongest_2 : decode cX12_strongest 2 = .ok (.putfield 86, 3) := by decide +kernel
theorem dX12_strongest_5 : decode cX12_strongest 5 = .ok (.aload_n 0, 1) := by decide +kernel
theorem dX12_strongest_6 : decode cX12_strongest 6 = .ok (.invokevirtual 480, 3) := by decide +kernel
theorem dX12_strongest_9 : decode cX12_strongest 9 = .ok (.iconst 0, 1) := by decide +kernel
theorem dX12_strongest_10 : decode cX12_strongest 10 = .ok (.istore_n 1, 1) := by decide +kernel
theorem dX12_strongest_11 : decode cX12_strongest 11 = .ok (.iconst 1, 1) := by decide +kernel
theorem dX12_strongest_12 : decode cX12_strongest 12 = .ok (.istore_n 2, 1) := by decide +kernel
theorem dX12_strongest_13 : decode cX12_strongest 13 = .ok (.iload_n 2, 1) := by decide +kernel
theorem dX12_strongest_14 : decode cX12_strongest 14 = .ok (.aload_n 0, 1) := by decide +kernel
theorem dX12_strongest_15 : decode cX12_strongest 15 = .ok (.invokevirtual 254, 3) := by decide +kernel
theorem dX12_strongest_18 : decode cX12_strongest 18 = .ok (.if_icmp .ge 26, 3) := by decide +kernel
theorem dX12_strongest_21 : decode cX12_strongest 21 = .ok (.aload_n 0, 1) := by decide +kernel
theorem dX12_strongest_22 : decode cX12_strongest 22 = .ok (.getfield 60, 3) := by decide +kernel
theorem dX12_strongest_25 : decode cX12_strongest 25 = .ok (.iload_n 2, 1) := by decide +kernel
theorem dX12_strongest_26 : decode cX12_strongest 26 = .ok (.iaload, 1) := by decide +kernel
theorem dX12_strongest_27 : decode cX12_strongest 27 = .ok (.aload_n 0, 1) := by decide +kernel
theorem dX12_strongest_28 : decode cX12_strongest 28 = .ok (.getfield 60, 3) := by decide +kernel
theorem dX12_strongest_31 : decode cX12_strongest 31 = .ok (.iload_n 1, 1) := by decide +kernel
theorem dX12_strongest_32 : decode cX12_strongest 32 = .ok (.iaload, 1) := by decide +kernel
theorem dX12_strongest_33 : decode cX12_strongest 33 = .ok (.if_icmp .le 5, 3) := by decide +kernel
theorem dX12_strongest_36 : decode cX12_strongest 36 = .ok (.iload_n 2, 1) := by decide +kernel
theorem dX12_strongest_37 : decode cX12_strongest 37 = .ok (.istore_n 1, 1) := by decide +kernel
theorem dX12_strongest_38 : decode cX12_strongest 38 = .ok (.iinc 2 1, 3) := by decide +kernel
theorem dX12_strongest_41 : decode cX12_strongest 41 = .ok (.goto (-28), 3) := by decide +kernel
theorem dX12_strongest_44 : decode cX12_strongest 44 = .ok (.iload_n 1, 1) := by decide +kernel
theorem dX12_strongest_45 : decode cX12_strongest 45 = .ok (.ireturn, 1) := by decide +kernel
theorem dX12_aimsBehindOne_0 : decode cX12_aimsBehindOne 0 = .ok (.iconst 0, 1) := by decide +kernel
theorem dX12_aimsBehindOne_1 : decode cX12_aimsBehindOne 1 = .ok (.istore_n 3, 1) := by decide +kernel
theorem dX12_aimsBehindOne_2 : decode cX12_aimsBehindOne 2 = .ok (.iload_n 3, 1) := by decide +kernel
theorem dX12_aimsBehindOne_3 : decode cX12_aimsBehindOne 3 = .ok (.aload_n 0, 1) := by decide +kernel
theorem dX12_aimsBehindOne_4 : decode cX12_aimsBehindOne 4 = .ok (.invokevirtual 254, 3) := by decide +kernel
theorem dX12_aimsBehindOne_7 : decode cX12_aimsBehindOne 7 = .ok (.if_icmp .ge 25, 3) := by decide +kernel
theorem dX12_aimsBehindOne_10 : decode cX12_aimsBehindOne 10 = .ok (.aload_n 0, 1) := by decide +kernel
theorem dX12_aimsBehindOne_11 : decode cX12_aimsBehindOne 11 = .ok (.getfield 48, 3) := by decide +kernel
theorem dX12_aimsBehindOne_14 : decode cX12_aimsBehindOne 14 = .ok (.iload_n 3, 1) := by decide +kernel
theorem dX12_aimsBehindOne_15 : decode cX12_aimsBehindOne 15 = .ok (.iload_n 3, 1) := by decide +kernel
theorem dX12_aimsBehindOne_16 : decode cX12_aimsBehindOne 16 = .ok (.iload_n 1, 1) := by decide +kernel
theorem dX12_aimsBehindOne_17 : decode cX12_aimsBehindOne 17 = .ok (.if_icmp .ne 7, 3) := by decide +kernel
theorem dX12_aimsBehindOne_20 : decode cX12_aimsBehindOne 20 = .ok (.iload_n 2, 1) := by decide +kernel
theorem dX12_aimsBehindOne_21 : decode cX12_aimsBehindOne 21 = .ok (.goto 4, 3) := by decide +kernel
theorem dX12_aimsBehindOne_24 : decode cX12_aimsBehindOne 24 = .ok (.iconst 0, 1) := by decide +kernel
theorem dX12_aimsBehindOne_25 : decode cX12_aimsBehindOne 25 = .ok (.iastore, 1) := by decide +kernel
theorem dX12_aimsBehindOne_26 : decode cX12_aimsBehindOne 26 = .ok (.iinc 3 1, 3) := by decide +kernel
theorem dX12_aimsBehindOne_29 : decode cX12_aimsBehindOne 29 = .ok (.goto (-27), 3) := by decide +kernel
theorem dX12_aimsBehindOne_32 : decode cX12_aimsBehindOne 32 = .ok (.aload_n 0, 1) := by decide +kernel
theorem dX12_aimsBehindOne_33 : decode cX12_aimsBehindOne 33 = .ok (.invokevirtual 426, 3) := by decide +kernel
theorem dX12_aimsBehindOne_36 : decode cX12_aimsBehindOne 36 = .ok (.aload_n 0, 1) := by decide +kernel
theorem dX12_aimsBehindOne_37 : decode cX12_aimsBehindOne 37 = .ok (.getfield 48, 3) := by decide +kernel
theorem dX12_aimsBehindOne_40 : decode cX12_aimsBehindOne 40 = .ok (.iload_n 1, 1) := by decide +kernel
theorem dX12_aimsBehindOne_41 : decode cX12_aimsBehindOne 41 = .ok (.iconst 0, 1) := by decide +kernel
theorem dX12_aimsBehindOne_42 : decode cX12_aimsBehindOne 42 = .ok (.iastore, 1) := by decide +kernel
theorem dX12_aimsBehindOne_43 : decode cX12_aimsBehindOne 43 = .ok (.return_, 1) := by decide +kernel
theorem dX12_motion_0 : decode cX12_motion 0 = .ok (.aload_n 0, 1) := by decide +kernel
theorem dX12_motion_1 : decode cX12_motion 1 = .ok (.iconst 0, 1) := by decide +kernel
theorem dX12_motion_2 : decode cX12_motion 2 = .ok (.putfield 86, 3) := by decide +kernel
theorem dX12_motion_5 : decode cX12_motion 5 = .ok (.aload_n 0, 1) := by decide +kernel
theorem dX12_motion_6 : decode cX12_motion 6 = .ok (.iload_n 1, 1) := by decide +kernel
theorem dX12_motion_7 : decode cX12_motion 7 = .ok (.i2l, 1) := by decide +kernel
theorem dX12_motion_8 : decode cX12_motion 8 = .ok (.invokevirtual 319, 3) := by decide +kernel
theorem dX12_motion_11 : decode cX12_motion 11 = .ok (.ifCond .ne 9, 3) := by decide +kernel
theorem dX12_motion_14 : decode cX12_motion 14 = .ok (.aload_n 0, 1) := by decide +kernel
theorem dX12_motion_15 : decode cX12_motion 15 = .ok (.iconst 1, 1) := by decide +kernel
theorem dX12_motion_16 : decode cX12_motion 16 = .ok (.invokevirtual 239, 3) := by decide +kernel
theorem dX12_motion_19 : decode cX12_motion 19 = .ok (.ireturn, 1) := by decide +kernel
theorem dX12_motion_20 : decode cX12_motion 20 = .ok (.aload_n 0, 1) := by decide +kernel
theorem dX12_motion_21 : decode cX12_motion 21 = .ok (.invokevirtual 328, 3) := by decide +kernel
theorem dX12_motion_24 : decode cX12_motion 24 = .ok (.iload_n 1, 1) := by decide +kernel
theorem dX12_motion_25 : decode cX12_motion 25 = .ok (.if_icmp .ne 5, 3) := by decide +kernel
theorem dX12_motion_28 : decode cX12_motion 28 = .ok (.iconst (-1), 1) := by decide +kernel
theorem dX12_motion_29 : decode cX12_motion 29 = .ok (.ireturn, 1) := by decide +kernel
theorem dX12_motion_30 : decode cX12_motion 30 = .ok (.aload_n 0, 1) := by decide +kernel
theorem dX12_motion_31 : decode cX12_motion 31 = .ok (.invokevirtual 423, 3) := by decide +kernel
theorem dX12_motion_34 : decode cX12_motion 34 = .ok (.iconst 0, 1) := by decide +kernel
theorem dX12_motion_35 : decode cX12_motion 35 = .ok (.istore_n 2, 1) := by decide +kernel
theorem dX12_motion_36 : decode cX12_motion 36 = .ok (.iload_n 2, 1) := by decide +kernel
theorem dX12_motion_37 : decode cX12_motion 37 = .ok (.bipush 10, 2) := by decide +kernel
theorem dX12_motion_39 : decode cX12_motion 39 = .ok (.aload_n 0, 1) := by decide +kernel
theorem dX12_motion_40 : decode cX12_motion 40 = .ok (.invokevirtual 254, 3) := by decide +kernel
theorem dX12_motion_43 : decode cX12_motion 43 = .ok (.imul, 1) := by decide +kernel
theorem dX12_motion_44 : decode cX12_motion 44 = .ok (.if_icmp .ge 51, 3) := by decide +kernel
theorem dX12_motion_47 : decode cX12_motion 47 = .ok (.aload_n 0, 1) := by decide +kernel
theorem dX12_motion_48 : decode cX12_motion 48 = .ok (.iload_n 2, 1) := by decide +kernel
theorem dX12_motion_49 : decode cX12_motion 49 = .ok (.bipush 10, 2) := by decide +kernel
theorem dX12_motion_51 : decode cX12_motion 51 = .ok (.idiv, 1) := by decide +kernel
theorem dX12_motion_52 : decode cX12_motion 52 = .ok (.i2l, 1) := by decide +kernel
theorem dX12_motion_53 : decode cX12_motion 53 = .ok (.iload_n 2, 1) := by decide +kernel
theorem dX12_motion_54 : decode cX12_motion 54 = .ok (.bipush 10, 2) := by decide +kernel
theorem dX12_motion_56 : decode cX12_motion 56 = .ok (.irem, 1) := by decide +kernel
theorem dX12_motion_57 : decode cX12_motion 57 = .ok (.i2l, 1) := by decide +kernel
theorem dX12_motion_58 : decode cX12_motion 58 = .ok (.invokevirtual 337, 3) := by decide +kernel
theorem dX12_motion_61 : decode cX12_motion 61 = .ok (.ifCond .eq 6, 3) := by decide +kernel
theorem dX12_motion_64 : decode cX12_motion 64 = .ok (.goto 25, 3) := by decide +kernel
theorem dX12_motion_67 : decode cX12_motion 67 = .ok (.aload_n 0, 1) := by decide +kernel
theorem dX12_motion_68 : decode cX12_motion 68 = .ok (.iload_n 2, 1) := by decide +kernel
theorem dX12_motion_69 : decode cX12_motion 69 = .ok (.bipush 10, 2) := by decide +kernel
theorem dX12_motion_71 : decode cX12_motion 71 = .ok (.idiv, 1) := by decide +kernel
theorem dX12_motion_72 : decode cX12_motion 72 = .ok (.iload_n 2, 1) := by decide +kernel
theorem dX12_motion_73 : decode cX12_motion 73 = .ok (.bipush 10, 2) := by decide +kernel
theorem dX12_motion_75 : decode cX12_motion 75 = .ok (.irem, 1) := by decide +kernel
theorem dX12_motion_76 : decode cX12_motion 76 = .ok (.invokevirtual 483, 3) := by decide +kernel
theorem dX12_motion_79 : decode cX12_motion 79 = .ok (.aload_n 0, 1) := by decide +kernel
theorem dX12_motion_80 : decode cX12_motion 80 = .ok (.invokevirtual 313, 3) := by decide +kernel
theorem dX12_motion_83 : decode cX12_motion 83 = .ok (.iload_n 1, 1) := by decide +kernel
theorem dX12_motion_84 : decode cX12_motion 84 = .ok (.if_icmp .ne 5, 3) := by decide +kernel
theorem dX12_motion_87 : decode cX12_motion 87 = .ok (.iload_n 2, 1) := by decide +kernel
theorem dX12_motion_88 : decode cX12_motion 88 = .ok (.ireturn, 1) := by decide +kernel
theorem dX12_motion_89 : decode cX12_motion 89 = .ok (.iinc 2 1, 3) := by decide +kernel
theorem dX12_motion_92 : decode cX12_motion 92 = .ok (.goto (-56), 3) := by decide +kernel
theorem dX12_motion_95 : decode cX12_motion 95 = .ok (.iconst (-1), 1) := by decide +kernel
theorem dX12_motion_96 : decode cX12_motion 96 = .ok (.ireturn, 1) := by decide +kernel
theorem dX12_helps_0 : decode cX12_helps 0 = .ok (.aload_n 0, 1) := by decide +kernel
theorem dX12_helps_1 : decode cX12_helps 1 = .ok (.aload_n 0, 1) := by decide +kernel
theorem dX12_helps_2 : decode cX12_helps 2 = .ok (.iload_n 1, 1) := by decide +kernel
theorem dX12_helps_3 : decode cX12_helps 3 = .ok (.i2l, 1) := by decide +kernel
theorem dX12_helps_4 : decode cX12_helps 4 = .ok (.invokevirtual 319, 3) := by decide +kernel
theorem dX12_helps_7 : decode cX12_helps 7 = .ok (.ifCond .ne 7, 3) := by decide +kernel
theorem dX12_helps_10 : decode cX12_helps 10 = .ok (.iconst 1, 1) := by decide +kernel
theorem dX12_helps_11 : decode cX12_helps 11 = .ok (.goto 18, 3) := by decide +kernel
theorem dX12_helps_14 : decode cX12_helps 14 = .ok (.iload_n 2, 1) := by decide +kernel
theorem dX12_helps_15 : decode cX12_helps 15 = .ok (.i2l, 1) := by decide +kernel
theorem dX12_helps_16 : decode cX12_helps 16 = .ok (.lconst 0, 1) := by decide +kernel
theorem dX12_helps_17 : decode cX12_helps 17 = .ok (.lconst 1, 1) := by decide +kernel
theorem dX12_helps_18 : decode cX12_helps 18 = .ok (.invokestatic 147, 3) := by decide +kernel
theorem dX12_helps_21 : decode cX12_helps 21 = .ok (.ifCond .eq 7, 3) := by decide +kernel
theorem dX12_helps_24 : decode cX12_helps 24 = .ok (.iconst 0, 1) := by decide +kernel
theorem dX12_helps_25 : decode cX12_helps 25 = .ok (.goto 4, 3) := by decide +kernel
theorem dX12_helps_28 : decode cX12_helps 28 = .ok (.iconst 2, 1) := by decide +kernel
theorem dX12_helps_29 : decode cX12_helps 29 = .ok (.putfield 86, 3) := by decide +kernel
theorem dX12_helps_32 : decode cX12_helps 32 = .ok (.aload_n 0, 1) := by decide +kernel
theorem dX12_helps_33 : decode cX12_helps 33 = .ok (.getfield 86, 3) := by decide +kernel
theorem dX12_helps_36 : decode cX12_helps 36 = .ok (.ifCond .le 5, 3) := by decide +kernel
theorem dX12_helps_39 : decode cX12_helps 39 = .ok (.iconst 0, 1) := by decide +kernel
theorem dX12_helps_40 : decode cX12_helps 40 = .ok (.ireturn, 1) := by decide +kernel
theorem dX12_helps_41 : decode cX12_helps 41 = .ok (.aload_n 0, 1) := by decide +kernel
theorem dX12_helps_42 : decode cX12_helps 42 = .ok (.iload_n 1, 1) := by decide +kernel
theorem dX12_helps_43 : decode cX12_helps 43 = .ok (.putfield 438, 3) := by decide +kernel
theorem dX12_helps_46 : decode cX12_helps 46 = .ok (.aload_n 0, 1) := by decide +kernel
theorem dX12_helps_47 : decode cX12_helps 47 = .ok (.iconst 5, 1) := by decide +kernel
theorem dX12_helps_48 : decode cX12_helps 48 = .ok (.invokevirtual 474, 3) := by decide +kernel
theorem dX12_helps_51 : decode cX12_helps 51 = .ok (.aload_n 0, 1) := by decide +kernel
theorem dX12_helps_52 : decode cX12_helps 52 = .ok (.getfield 420, 3) := by decide +kernel
theorem dX12_helps_55 : decode cX12_helps 55 = .ok (.iconst (-1), 1) := by decide +kernel
theorem dX12_helps_56 : decode cX12_helps 56 = .ok (.if_icmp .eq 8, 3) := by decide +kernel
theorem dX12_helps_59 : decode cX12_helps 59 = .ok (.iload_n 2, 1) := by decide +kernel
theorem dX12_helps_60 : decode cX12_helps 60 = .ok (.iconst 1, 1) := by decide +kernel
theorem dX12_helps_61 : decode cX12_helps 61 = .ok (.if_icmp .ne 10, 3) := by decide +kernel
theorem dX12_helps_64 : decode cX12_helps 64 = .ok (.aload_n 0, 1) := by decide +kernel
theorem dX12_helps_65 : decode cX12_helps 65 = .ok (.getfield 420, 3) := by decide +kernel
theorem dX12_helps_68 : decode cX12_helps 68 = .ok (.goto 10, 3) := by decide +kernel
theorem dX12_helps_71 : decode cX12_helps 71 = .ok (.aload_n 0, 1) := by decide +kernel
theorem dX12_helps_72 : decode cX12_helps 72 = .ok (.getfield 420, 3) := by decide +kernel
theorem dX12_helps_75 : decode cX12_helps 75 = .ok (.invokestatic 463, 3) := by decide +kernel
theorem dX12_helps_78 : decode cX12_helps 78 = .ok (.ireturn, 1) := by decide +kernel
theorem dX12_vetoes_0 : decode cX12_vetoes 0 = .ok (.aload_n 0, 1) := by decide +kernel
theorem dX12_vetoes_1 : decode cX12_vetoes 1 = .ok (.iconst 0, 1) := by decide +kernel
theorem dX12_vetoes_2 : decode cX12_vetoes 2 = .ok (.putfield 86, 3) := by decide +kernel
theorem dX12_vetoes_5 : decode cX12_vetoes 5 = .ok (.aload_n 0, 1) := by decide +kernel
theorem dX12_vetoes_6 : decode cX12_vetoes 6 = .ok (.iload_n 1, 1) := by decide +kernel
theorem dX12_vetoes_7 : decode cX12_vetoes 7 = .ok (.i2l, 1) := by decide +kernel
theorem dX12_vetoes_8 : decode cX12_vetoes 8 = .ok (.invokevirtual 319, 3) := by decide +kernel
theorem dX12_vetoes_11 : decode cX12_vetoes 11 = .ok (.ifCond .ne 9, 3) := by decide +kernel
theorem dX12_vetoes_14 : decode cX12_vetoes 14 = .ok (.aload_n 0, 1) := by decide +kernel
theorem dX12_vetoes_15 : decode cX12_vetoes 15 = .ok (.iconst 1, 1) := by decide +kernel
theorem dX12_vetoes_16 : decode cX12_vetoes 16 = .ok (.invokevirtual 239, 3) := by decide +kernel
theorem dX12_vetoes_19 : decode cX12_vetoes 19 = .ok (.ireturn, 1) := by decide +kernel
theorem dX12_vetoes_20 : decode cX12_vetoes 20 = .ok (.aload_n 0, 1) := by decide +kernel
theorem dX12_vetoes_21 : decode cX12_vetoes 21 = .ok (.iload_n 1, 1) := by decide +kernel
theorem dX12_vetoes_22 : decode cX12_vetoes 22 = .ok (.putfield 438, 3) := by decide +kernel
theorem dX12_vetoes_25 : decode cX12_vetoes 25 = .ok (.aload_n 0, 1) := by decide +kernel
theorem dX12_vetoes_26 : decode cX12_vetoes 26 = .ok (.iconst 1, 1) := by decide +kernel
theorem dX12_vetoes_27 : decode cX12_vetoes 27 = .ok (.invokevirtual 474, 3) := by decide +kernel
theorem dX12_vetoes_30 : decode cX12_vetoes 30 = .ok (.aload_n 0, 1) := by decide +kernel
theorem dX12_vetoes_31 : decode cX12_vetoes 31 = .ok (.getfield 413, 3) := by decide +kernel
theorem dX12_vetoes_34 : decode cX12_vetoes 34 = .ok (.ifCond .ne 5, 3) := by decide +kernel
theorem dX12_vetoes_37 : decode cX12_vetoes 37 = .ok (.iconst 0, 1) := by decide +kernel
theorem dX12_vetoes_38 : decode cX12_vetoes 38 = .ok (.ireturn, 1) := by decide +kernel
theorem dX12_vetoes_39 : decode cX12_vetoes 39 = .ok (.iconst 0, 1) := by decide +kernel
theorem dX12_vetoes_40 : decode cX12_vetoes 40 = .ok (.istore_n 2, 1) := by decide +kernel
theorem dX12_vetoes_41 : decode cX12_vetoes 41 = .ok (.iconst 0, 1) := by decide +kernel
theorem dX12_vetoes_42 : decode cX12_vetoes 42 = .ok (.istore_n 3, 1) := by decide +kernel
theorem dX12_vetoes_43 : decode cX12_vetoes 43 = .ok (.iload_n 3, 1) := by decide +kernel
theorem dX12_vetoes_44 : decode cX12_vetoes 44 = .ok (.aload_n 0, 1) := by decide +kernel
theorem dX12_vetoes_45 : decode cX12_vetoes 45 = .ok (.invokevirtual 254, 3) := by decide +kernel
theorem dX12_vetoes_48 : decode cX12_vetoes 48 = .ok (.if_icmp .ge 70, 3) := by decide +kernel
theorem dX12_vetoes_51 : decode cX12_vetoes 51 = .ok (.aload_n 0, 1) := by decide +kernel
theorem dX12_vetoes_52 : decode cX12_vetoes 52 = .ok (.iload_n 3, 1) := by decide +kernel
theorem dX12_vetoes_53 : decode cX12_vetoes 53 = .ok (.invokevirtual 287, 3) := by decide +kernel
theorem dX12_vetoes_56 : decode cX12_vetoes 56 = .ok (.ifCond .eq 6, 3) := by decide +kernel
theorem dX12_vetoes_59 : decode cX12_vetoes 59 = .ok (.goto 53, 3) := by decide +kernel
theorem dX12_vetoes_62 : decode cX12_vetoes 62 = .ok (.aload_n 0, 1) := by decide +kernel
theorem dX12_vetoes_63 : decode cX12_vetoes 63 = .ok (.getfield 9, 3) := by decide +kernel
theorem dX12_vetoes_66 : decode cX12_vetoes 66 = .ok (.bipush 18, 2) := by decide +kernel
theorem dX12_vetoes_68 : decode cX12_vetoes 68 = .ok (.dup2, 1) := by decide +kernel
theorem dX12_vetoes_69 : decode cX12_vetoes 69 = .ok (.iaload, 1) := by decide +kernel
theorem dX12_vetoes_70 : decode cX12_vetoes 70 = .ok (.iconst 1, 1) := by decide +kernel
theorem dX12_vetoes_71 : decode cX12_vetoes 71 = .ok (.iload_n 3, 1) := by decide +kernel
theorem dX12_vetoes_72 : decode cX12_vetoes 72 = .ok (.ishl, 1) := by decide +kernel
theorem dX12_vetoes_73 : decode cX12_vetoes 73 = .ok (.ior, 1) := by decide +kernel
theorem dX12_vetoes_74 : decode cX12_vetoes 74 = .ok (.iastore, 1) := by decide +kernel
theorem dX12_vetoes_75 : decode cX12_vetoes 75 = .ok (.aload_n 0, 1) := by decide +kernel
theorem dX12_vetoes_76 : decode cX12_vetoes 76 = .ok (.iconst 1, 1) := by decide +kernel
theorem dX12_vetoes_77 : decode cX12_vetoes 77 = .ok (.invokevirtual 474, 3) := by decide +kernel
theorem dX12_vetoes_80 : decode cX12_vetoes 80 = .ok (.aload_n 0, 1) := by decide +kernel
theorem dX12_vetoes_81 : decode cX12_vetoes 81 = .ok (.getfield 9, 3) := by decide +kernel
theorem dX12_vetoes_84 : decode cX12_vetoes 84 = .ok (.bipush 18, 2) := by decide +kernel
theorem dX12_vetoes_86 : decode cX12_vetoes 86 = .ok (.dup2, 1) := by decide +kernel
theorem dX12_vetoes_87 : decode cX12_vetoes 87 = .ok (.iaload, 1) := by decide +kernel
theorem dX12_vetoes_88 : decode cX12_vetoes 88 = .ok (.iconst 1, 1) := by decide +kernel
theorem dX12_vetoes_89 : decode cX12_vetoes 89 = .ok (.iload_n 3, 1) := by decide +kernel
theorem dX12_vetoes_90 : decode cX12_vetoes 90 = .ok (.ishl, 1) := by decide +kernel
theorem dX12_vetoes_91 : decode cX12_vetoes 91 = .ok (.iconst (-1), 1) := by decide +kernel
theorem dX12_vetoes_92 : decode cX12_vetoes 92 = .ok (.ixor, 1) := by decide +kernel
theorem dX12_vetoes_93 : decode cX12_vetoes 93 = .ok (.iand, 1) := by decide +kernel
theorem dX12_vetoes_94 : decode cX12_vetoes 94 = .ok (.iastore, 1) := by decide +kernel
theorem dX12_vetoes_95 : decode cX12_vetoes 95 = .ok (.iload_n 2, 1) := by decide +kernel
theorem dX12_vetoes_96 : decode cX12_vetoes 96 = .ok (.aload_n 0, 1) := by decide +kernel
theorem dX12_vetoes_97 : decode cX12_vetoes 97 = .ok (.getfield 413, 3) := by decide +kernel
theorem dX12_vetoes_100 : decode cX12_vetoes 100 = .ok (.ifCond .ne 9, 3) := by decide +kernel
theorem dX12_vetoes_103 : decode cX12_vetoes 103 = .ok (.iconst 1, 1) := by decide +kernel
theorem dX12_vetoes_104 : decode cX12_vetoes 104 = .ok (.iload_n 3, 1) := by decide +kernel
theorem dX12_vetoes_105 : decode cX12_vetoes 105 = .ok (.ishl, 1) := by decide +kernel
theorem dX12_vetoes_106 : decode cX12_vetoes 106 = .ok (.goto 4, 3) := by decide +kernel
theorem dX12_vetoes_109 : decode cX12_vetoes 109 = .ok (.iconst 0, 1) := by decide +kernel
theorem dX12_vetoes_110 : decode cX12_vetoes 110 = .ok (.ior, 1) := by decide +kernel
theorem dX12_vetoes_111 : decode cX12_vetoes 111 = .ok (.istore_n 2, 1) := by decide +kernel
theorem dX12_vetoes_112 : decode cX12_vetoes 112 = .ok (.iinc 3 1, 3) := by decide +kernel
theorem dX12_vetoes_115 : decode cX12_vetoes 115 = .ok (.goto (-72), 3) := by decide +kernel
theorem dX12_vetoes_118 : decode cX12_vetoes 118 = .ok (.iload_n 2, 1) := by decide +kernel
theorem dX12_vetoes_119 : decode cX12_vetoes 119 = .ok (.ireturn, 1) := by decide +kernel
theorem dX12_knees_0 : decode cX12_knees 0 = .ok (.aload_n 0, 1) := by decide +kernel
theorem dX12_knees_1 : decode cX12_knees 1 = .ok (.iconst 0, 1) := by decide +kernel
theorem dX12_knees_2 : decode cX12_knees 2 = .ok (.putfield 86, 3) := by decide +kernel
theorem dX12_knees_5 : decode cX12_knees 5 = .ok (.iload_n 1, 1) := by decide +kernel
theorem dX12_knees_6 : decode cX12_knees 6 = .ok (.iconst 1, 1) := by decide +kernel
theorem dX12_knees_7 : decode cX12_knees 7 = .ok (.if_icmp .eq 16, 3) := by decide +kernel
theorem dX12_knees_10 : decode cX12_knees 10 = .ok (.iload_n 1, 1) := by decide +kernel
theorem dX12_knees_11 : decode cX12_knees 11 = .ok (.invokestatic 471, 3) := by decide +kernel
theorem dX12_knees_14 : decode cX12_knees 14 = .ok (.ifCond .ne 9, 3) := by decide +kernel
theorem dX12_knees_17 : decode cX12_knees 17 = .ok (.aload_n 0, 1) := by decide +kernel
theorem dX12_knees_18 : decode cX12_knees 18 = .ok (.iconst 1, 1) := by decide +kernel
theorem dX12_knees_19 : decode cX12_knees 19 = .ok (.invokevirtual 239, 3) := by decide +kernel
theorem dX12_knees_22 : decode cX12_knees 22 = .ok (.ireturn, 1) := by decide +kernel
theorem dX12_knees_23 : decode cX12_knees 23 = .ok (.aload_n 0, 1) := by decide +kernel
theorem dX12_knees_24 : decode cX12_knees 24 = .ok (.iconst 2, 1) := by decide +kernel
theorem dX12_knees_25 : decode cX12_knees 25 = .ok (.invokevirtual 474, 3) := by decide +kernel
theorem dX12_knees_28 : decode cX12_knees 28 = .ok (.iload_n 1, 1) := by decide +kernel
theorem dX12_knees_29 : decode cX12_knees 29 = .ok (.ifCond .ne 10, 3) := by decide +kernel
theorem dX12_knees_32 : decode cX12_knees 32 = .ok (.aload_n 0, 1) := by decide +kernel
theorem dX12_knees_33 : decode cX12_knees 33 = .ok (.getfield 417, 3) := by decide +kernel
theorem dX12_knees_36 : decode cX12_knees 36 = .ok (.goto 24, 3) := by decide +kernel
theorem dX12_knees_39 : decode cX12_knees 39 = .ok (.iload_n 1, 1) := by decide +kernel
theorem dX12_knees_40 : decode cX12_knees 40 = .ok (.iconst 1, 1) := by decide +kernel
theorem dX12_knees_41 : decode cX12_knees 41 = .ok (.if_icmp .ne 10, 3) := by decide +kernel
theorem dX12_knees_44 : decode cX12_knees 44 = .ok (.aload_n 0, 1) := by decide +kernel
theorem dX12_knees_45 : decode cX12_knees 45 = .ok (.getfield 401, 3) := by decide +kernel
theorem dX12_knees_48 : decode cX12_knees 48 = .ok (.goto 12, 3) := by decide +kernel
theorem dX12_knees_51 : decode cX12_knees 51 = .ok (.aload_n 0, 1) := by decide +kernel
theorem dX12_knees_52 : decode cX12_knees 52 = .ok (.getfield 57, 3) := by decide +kernel
theorem dX12_knees_55 : decode cX12_knees 55 = .ok (.iload_n 1, 1) := by decide +kernel
theorem dX12_knees_56 : decode cX12_knees 56 = .ok (.bipush 10, 2) := by decide +kernel
theorem dX12_knees_58 : decode cX12_knees 58 = .ok (.isub, 1) := by decide +kernel
theorem dX12_knees_59 : decode cX12_knees 59 = .ok (.iaload, 1) := by decide +kernel
theorem dX12_knees_60 : decode cX12_knees 60 = .ok (.ireturn, 1) := by decide +kernel
theorem dX12_laysRound_0 : decode cX12_laysRound 0 = .ok (.iconst 0, 1) := by decide +kernel
theorem dX12_laysRound_1 : decode cX12_laysRound 1 = .ok (.istore_n 1, 1) := by decide +kernel
theorem dX12_laysRound_2 : decode cX12_laysRound 2 = .ok (.iload_n 1, 1) := by decide +kernel
theorem dX12_laysRound_3 : decode cX12_laysRound 3 = .ok (.ldc 63, 2) := by decide +kernel
theorem dX12_laysRound_5 : decode cX12_laysRound 5 = .ok (.if_icmp .ge 16, 3) := by decide +kernel
theorem dX12_laysRound_8 : decode cX12_laysRound 8 = .ok (.aload_n 0, 1) := by decide +kernel
theorem dX12_laysRound_9 : decode cX12_laysRound 9 = .ok (.getfield 67, 3) := by decide +kernel
theorem dX12_laysRound_12 : decode cX12_laysRound 12 = .ok (.iload_n 1, 1) := by decide +kernel
theorem dX12_laysRound_13 : decode cX12_laysRound 13 = .ok (.iconst (-1), 1) := by decide +kernel
theorem dX12_laysRound_14 : decode cX12_laysRound 14 = .ok (.iastore, 1) := by decide +kernel
theorem dX12_laysRound_15 : decode cX12_laysRound 15 = .ok (.iinc 1 1, 3) := by decide +kernel
theorem dX12_laysRound_18 : decode cX12_laysRound 18 = .ok (.goto (-16), 3) := by decide +kernel
theorem dX12_laysRound_21 : decode cX12_laysRound 21 = .ok (.aload_n 0, 1) := by decide +kernel
theorem dX12_laysRound_22 : decode cX12_laysRound 22 = .ok (.invokevirtual 310, 3) := by decide +kernel
theorem dX12_laysRound_25 : decode cX12_laysRound 25 = .ok (.iconst 0, 1) := by decide +kernel
theorem dX12_laysRound_26 : decode cX12_laysRound 26 = .ok (.istore_n 1, 1) := by decide +kernel
theorem dX12_laysRound_27 : decode cX12_laysRound 27 = .ok (.aload_n 0, 1) := by decide +kernel
theorem dX12_laysRound_28 : decode cX12_laysRound 28 = .ok (.getfield 67, 3) := by decide +kernel
theorem dX12_laysRound_31 : decode cX12_laysRound 31 = .ok (.aload_n 0, 1) := by decide +kernel
theorem dX12_laysRound_32 : decode cX12_laysRound 32 = .ok (.invokevirtual 460, 3) := by decide +kernel
theorem dX12_laysRound_35 : decode cX12_laysRound 35 = .ok (.iaload, 1) := by decide +kernel
theorem dX12_laysRound_36 : decode cX12_laysRound 36 = .ok (.iconst (-1), 1) := by decide +kernel
theorem dX12_laysRound_37 : decode cX12_laysRound 37 = .ok (.if_icmp .ne 23, 3) := by decide +kernel
theorem dX12_laysRound_40 : decode cX12_laysRound 40 = .ok (.aload_n 0, 1) := by decide +kernel
theorem dX12_laysRound_41 : decode cX12_laysRound 41 = .ok (.getfield 67, 3) := by decide +kernel
theorem dX12_laysRound_44 : decode cX12_laysRound 44 = .ok (.aload_n 0, 1) := by decide +kernel
theorem dX12_laysRound_45 : decode cX12_laysRound 45 = .ok (.invokevirtual 460, 3) := by decide +kernel
theorem dX12_laysRound_48 : decode cX12_laysRound 48 = .ok (.iload_n 1, 1) := by decide +kernel
theorem dX12_laysRound_49 : decode cX12_laysRound 49 = .ok (.iastore, 1) := by decide +kernel
theorem dX12_laysRound_50 : decode cX12_laysRound 50 = .ok (.aload_n 0, 1) := by decide +kernel
theorem dX12_laysRound_51 : decode cX12_laysRound 51 = .ok (.invokevirtual 334, 3) := by decide +kernel
theorem dX12_laysRound_54 : decode cX12_laysRound 54 = .ok (.iinc 1 1, 3) := by decide +kernel
theorem dX12_laysRound_57 : decode cX12_laysRound 57 = .ok (.goto (-30), 3) := by decide +kernel
theorem dX12_laysRound_60 : decode cX12_laysRound 60 = .ok (.aload_n 0, 1) := by decide +kernel
theorem dX12_laysRound_61 : decode cX12_laysRound 61 = .ok (.aload_n 0, 1) := by decide +kernel
theorem dX12_laysRound_62 : decode cX12_laysRound 62 = .ok (.getfield 67, 3) := by decide +kernel
theorem dX12_laysRound_65 : decode cX12_laysRound 65 = .ok (.aload_n 0, 1) := by decide +kernel
theorem dX12_laysRound_66 : decode cX12_laysRound 66 = .ok (.invokevirtual 460, 3) := by decide +kernel
theorem dX12_laysRound_69 : decode cX12_laysRound 69 = .ok (.iaload, 1) := by decide +kernel
theorem dX12_laysRound_70 : decode cX12_laysRound 70 = .ok (.putfield 486, 3) := by decide +kernel
theorem dX12_laysRound_73 : decode cX12_laysRound 73 = .ok (.aload_n 0, 1) := by decide +kernel
theorem dX12_laysRound_74 : decode cX12_laysRound 74 = .ok (.iload_n 1, 1) := by decide +kernel
theorem dX12_laysRound_75 : decode cX12_laysRound 75 = .ok (.aload_n 0, 1) := by decide +kernel
theorem dX12_laysRound_76 : decode cX12_laysRound 76 = .ok (.getfield 486, 3) := by decide +kernel
theorem dX12_laysRound_79 : decode cX12_laysRound 79 = .ok (.isub, 1) := by decide +kernel
theorem dX12_laysRound_80 : decode cX12_laysRound 80 = .ok (.putfield 489, 3) := by decide +kernel
theorem dX12_laysRound_83 : decode cX12_laysRound 83 = .ok (.return_, 1) := by decide +kernel
theorem dX12_aimsIn_0 : decode cX12_aimsIn 0 = .ok (.aload_n 0, 1) := by decide +kernel
theorem dX12_aimsIn_1 : decode cX12_aimsIn 1 = .ok (.invokevirtual 492, 3) := by decide +kernel
theorem dX12_aimsIn_4 : decode cX12_aimsIn 4 = .ok (.iload_n 1, 1) := by decide +kernel
theorem dX12_aimsIn_5 : decode cX12_aimsIn 5 = .ok (.aload_n 0, 1) := by decide +kernel
theorem dX12_aimsIn_6 : decode cX12_aimsIn 6 = .ok (.getfield 486, 3) := by decide +kernel
theorem dX12_aimsIn_9 : decode cX12_aimsIn 9 = .ok (.if_icmp .ge 7, 3) := by decide +kernel
theorem dX12_aimsIn_12 : decode cX12_aimsIn 12 = .ok (.iload_n 1, 1) := by decide +kernel
theorem dX12_aimsIn_13 : decode cX12_aimsIn 13 = .ok (.goto 19, 3) := by decide +kernel
theorem dX12_aimsIn_16 : decode cX12_aimsIn 16 = .ok (.aload_n 0, 1) := by decide +kernel
theorem dX12_aimsIn_17 : decode cX12_aimsIn 17 = .ok (.getfield 486, 3) := by decide +kernel
theorem dX12_aimsIn_20 : decode cX12_aimsIn 20 = .ok (.iload_n 1, 1) := by decide +kernel
theorem dX12_aimsIn_21 : decode cX12_aimsIn 21 = .ok (.aload_n 0, 1) := by decide +kernel
theorem dX12_aimsIn_22 : decode cX12_aimsIn 22 = .ok (.getfield 486, 3) := by decide +kernel
theorem dX12_aimsIn_25 : decode cX12_aimsIn 25 = .ok (.isub, 1) := by decide +kernel
theorem dX12_aimsIn_26 : decode cX12_aimsIn 26 = .ok (.aload_n 0, 1) := by decide +kernel
theorem dX12_aimsIn_27 : decode cX12_aimsIn 27 = .ok (.getfield 489, 3) := by decide +kernel
theorem dX12_aimsIn_30 : decode cX12_aimsIn 30 = .ok (.irem, 1) := by decide +kernel
theorem dX12_aimsIn_31 : decode cX12_aimsIn 31 = .ok (.iadd, 1) := by decide +kernel
theorem dX12_aimsIn_32 : decode cX12_aimsIn 32 = .ok (.istore_n 2, 1) := by decide +kernel
theorem dX12_aimsIn_33 : decode cX12_aimsIn 33 = .ok (.aload_n 0, 1) := by decide +kernel
theorem dX12_aimsIn_34 : decode cX12_aimsIn 34 = .ok (.invokevirtual 310, 3) := by decide +kernel
theorem dX12_aimsIn_37 : decode cX12_aimsIn 37 = .ok (.iconst 0, 1) := by decide +kernel
theorem dX12_aimsIn_38 : decode cX12_aimsIn 38 = .ok (.istore_n 3, 1) := by decide +kernel
theorem dX12_aimsIn_39 : decode cX12_aimsIn 39 = .ok (.iload_n 3, 1) := by decide +kernel
theorem dX12_aimsIn_40 : decode cX12_aimsIn 40 = .ok (.iload_n 2, 1) := by decide +kernel
theorem dX12_aimsIn_41 : decode cX12_aimsIn 41 = .ok (.if_icmp .ge 13, 3) := by decide +kernel
theorem dX12_aimsIn_44 : decode cX12_aimsIn 44 = .ok (.aload_n 0, 1) := by decide +kernel
theorem dX12_aimsIn_45 : decode cX12_aimsIn 45 = .ok (.invokevirtual 334, 3) := by decide +kernel
theorem dX12_aimsIn_48 : decode cX12_aimsIn 48 = .ok (.iinc 3 1, 3) := by decide +kernel
theorem dX12_aimsIn_51 : decode cX12_aimsIn 51 = .ok (.goto (-12), 3) := by decide +kernel
theorem dX12_aimsIn_54 : decode cX12_aimsIn 54 = .ok (.return_, 1) := by decide +kernel
theorem dX12_settles_0 : decode cX12_settles 0 = .ok (.aload_n 0, 1) := by decide +kernel
theorem dX12_settles_1 : decode cX12_settles 1 = .ok (.iconst 0, 1) := by decide +kernel
theorem dX12_settles_2 : decode cX12_settles 2 = .ok (.putfield 86, 3) := by decide +kernel
theorem dX12_settles_5 : decode cX12_settles 5 = .ok (.iload_n 1, 1) := by decide +kernel
theorem dX12_settles_6 : decode cX12_settles 6 = .ok (.i2l, 1) := by decide +kernel
theorem dX12_settles_7 : decode cX12_settles 7 = .ok (.lconst 0, 1) := by decide +kernel
theorem dX12_settles_8 : decode cX12_settles 8 = .ok (.lconst 1, 1) := by decide +kernel
theorem dX12_settles_9 : decode cX12_settles 9 = .ok (.invokestatic 147, 3) := by decide +kernel
theorem dX12_settles_12 : decode cX12_settles 12 = .ok (.ifCond .ne 9, 3) := by decide +kernel
theorem dX12_settles_15 : decode cX12_settles 15 = .ok (.aload_n 0, 1) := by decide +kernel
theorem dX12_settles_16 : decode cX12_settles 16 = .ok (.iconst 1, 1) := by decide +kernel
theorem dX12_settles_17 : decode cX12_settles 17 = .ok (.invokevirtual 239, 3) := by decide +kernel
theorem dX12_settles_20 : decode cX12_settles 20 = .ok (.ireturn, 1) := by decide +kernel
theorem dX12_settles_21 : decode cX12_settles 21 = .ok (.aload_n 0, 1) := by decide +kernel
theorem dX12_settles_22 : decode cX12_settles 22 = .ok (.invokevirtual 492, 3) := by decide +kernel
theorem dX12_settles_25 : decode cX12_settles 25 = .ok (.iload_n 1, 1) := by decide +kernel
theorem dX12_settles_26 : decode cX12_settles 26 = .ok (.ifCond .ne 10, 3) := by decide +kernel
theorem dX12_settles_29 : decode cX12_settles 29 = .ok (.aload_n 0, 1) := by decide +kernel
theorem dX12_settles_30 : decode cX12_settles 30 = .ok (.getfield 486, 3) := by decide +kernel
theorem dX12_settles_33 : decode cX12_settles 33 = .ok (.goto 7, 3) := by decide +kernel
theorem dX12_settles_36 : decode cX12_settles 36 = .ok (.aload_n 0, 1) := by decide +kernel
theorem dX12_settles_37 : decode cX12_settles 37 = .ok (.getfield 489, 3) := by decide +kernel
theorem dX12_settles_40 : decode cX12_settles 40 = .ok (.ireturn, 1) := by decide +kernel
theorem dX12_isFar_0 : decode cX12_isFar 0 = .ok (.iload_n 0, 1) := by decide +kernel
theorem dX12_isFar_1 : decode cX12_isFar 1 = .ok (.i2l, 1) := by decide +kernel
theorem dX12_isFar_2 : decode cX12_isFar 2 = .ok (.lconst 0, 1) := by decide +kernel
theorem dX12_isFar_3 : decode cX12_isFar 3 = .ok (.ldc2_w 495, 3) := by decide +kernel
theorem dX12_isFar_6 : decode cX12_isFar 6 = .ok (.invokestatic 147, 3) := by decide +kernel
theorem dX12_isFar_9 : decode cX12_isFar 9 = .ok (.ireturn, 1) := by decide +kernel
theorem dX12_chairIn_0 : decode cX12_chairIn 0 = .ok (.aload_n 0, 1) := by decide +kernel
theorem dX12_chairIn_1 : decode cX12_chairIn 1 = .ok (.iconst 0, 1) := by decide +kernel
theorem dX12_chairIn_2 : decode cX12_chairIn 2 = .ok (.putfield 86, 3) := by decide +kernel
theorem dX12_chairIn_5 : decode cX12_chairIn 5 = .ok (.iload_n 1, 1) := by decide +kernel
theorem dX12_chairIn_6 : decode cX12_chairIn 6 = .ok (.invokestatic 497, 3) := by decide +kernel
theorem dX12_chairIn_9 : decode cX12_chairIn 9 = .ok (.ifCond .ne 9, 3) := by decide +kernel
theorem dX12_chairIn_12 : decode cX12_chairIn 12 = .ok (.aload_n 0, 1) := by decide +kernel
theorem dX12_chairIn_13 : decode cX12_chairIn 13 = .ok (.iconst 1, 1) := by decide +kernel
theorem dX12_chairIn_14 : decode cX12_chairIn 14 = .ok (.invokevirtual 239, 3) := by decide +kernel
theorem dX12_chairIn_17 : decode cX12_chairIn 17 = .ok (.ireturn, 1) := by decide +kernel
theorem dX12_chairIn_18 : decode cX12_chairIn 18 = .ok (.aload_n 0, 1) := by decide +kernel
theorem dX12_chairIn_19 : decode cX12_chairIn 19 = .ok (.iload_n 1, 1) := by decide +kernel
theorem dX12_chairIn_20 : decode cX12_chairIn 20 = .ok (.invokevirtual 500, 3) := by decide +kernel
theorem dX12_chairIn_23 : decode cX12_chairIn 23 = .ok (.aload_n 0, 1) := by decide +kernel
theorem dX12_chairIn_24 : decode cX12_chairIn 24 = .ok (.invokevirtual 313, 3) := by decide +kernel
theorem dX12_chairIn_27 : decode cX12_chairIn 27 = .ok (.ireturn, 1) := by decide +kernel
theorem dX12_aimIn_0 : decode cX12_aimIn 0 = .ok (.aload_n 0, 1) := by decide +kernel
theorem dX12_aimIn_1 : decode cX12_aimIn 1 = .ok (.aload_n 0, 1) := by decide +kernel
theorem dX12_aimIn_2 : decode cX12_aimIn 2 = .ok (.iload_n 1, 1) := by decide +kernel
theorem dX12_aimIn_3 : decode cX12_aimIn 3 = .ok (.i2l, 1) := by decide +kernel
theorem dX12_aimIn_4 : decode cX12_aimIn 4 = .ok (.invokevirtual 319, 3) := by decide +kernel
theorem dX12_aimIn_7 : decode cX12_aimIn 7 = .ok (.ifCond .ne 7, 3) := by decide +kernel
theorem dX12_aimIn_10 : decode cX12_aimIn 10 = .ok (.iconst 1, 1) := by decide +kernel
theorem dX12_aimIn_11 : decode cX12_aimIn 11 = .ok (.goto 15, 3) := by decide +kernel
theorem dX12_aimIn_14 : decode cX12_aimIn 14 = .ok (.iload_n 2, 1) := by decide +kernel
theorem dX12_aimIn_15 : decode cX12_aimIn 15 = .ok (.invokestatic 497, 3) := by decide +kernel
theorem dX12_aimIn_18 : decode cX12_aimIn 18 = .ok (.ifCond .eq 7, 3) := by decide +kernel
theorem dX12_aimIn_21 : decode cX12_aimIn 21 = .ok (.iconst 0, 1) := by decide +kernel
theorem dX12_aimIn_22 : decode cX12_aimIn 22 = .ok (.goto 4, 3) := by decide +kernel
theorem dX12_aimIn_25 : decode cX12_aimIn 25 = .ok (.iconst 2, 1) := by decide +kernel
theorem dX12_aimIn_26 : decode cX12_aimIn 26 = .ok (.putfield 86, 3) := by decide +kernel
theorem dX12_aimIn_29 : decode cX12_aimIn 29 = .ok (.aload_n 0, 1) := by decide +kernel
theorem dX12_aimIn_30 : decode cX12_aimIn 30 = .ok (.getfield 86, 3) := by decide +kernel
theorem dX12_aimIn_33 : decode cX12_aimIn 33 = .ok (.ifCond .le 5, 3) := by decide +kernel
theorem dX12_aimIn_36 : decode cX12_aimIn 36 = .ok (.iconst 0, 1) := by decide +kernel
theorem dX12_aimIn_37 : decode cX12_aimIn 37 = .ok (.ireturn, 1) := by decide +kernel
theorem dX12_aimIn_38 : decode cX12_aimIn 38 = .ok (.aload_n 0, 1) := by decide +kernel
theorem dX12_aimIn_39 : decode cX12_aimIn 39 = .ok (.iload_n 2, 1) := by decide +kernel
theorem dX12_aimIn_40 : decode cX12_aimIn 40 = .ok (.invokevirtual 500, 3) := by decide +kernel
theorem dX12_aimIn_43 : decode cX12_aimIn 43 = .ok (.aload_n 0, 1) := by decide +kernel
theorem dX12_aimIn_44 : decode cX12_aimIn 44 = .ok (.getfield 36, 3) := by decide +kernel
theorem dX12_aimIn_47 : decode cX12_aimIn 47 = .ok (.iload_n 1, 1) := by decide +kernel
theorem dX12_aimIn_48 : decode cX12_aimIn 48 = .ok (.iaload, 1) := by decide +kernel
theorem dX12_aimIn_49 : decode cX12_aimIn 49 = .ok (.ireturn, 1) := by decide +kernel
theorem dX12_reign_0 : decode cX12_reign 0 = .ok (.aload_n 0, 1) := by decide +kernel
theorem dX12_reign_1 : decode cX12_reign 1 = .ok (.aload_n 0, 1) := by decide +kernel
theorem dX12_reign_2 : decode cX12_reign 2 = .ok (.iload_n 1, 1) := by decide +kernel
theorem dX12_reign_3 : decode cX12_reign 3 = .ok (.i2l, 1) := by decide +kernel
theorem dX12_reign_4 : decode cX12_reign 4 = .ok (.invokevirtual 319, 3) := by decide +kernel
theorem dX12_reign_7 : decode cX12_reign 7 = .ok (.ifCond .ne 7, 3) := by decide +kernel
theorem dX12_reign_10 : decode cX12_reign 10 = .ok (.iconst 1, 1) := by decide +kernel
theorem dX12_reign_11 : decode cX12_reign 11 = .ok (.goto 20, 3) := by decide +kernel
theorem dX12_reign_14 : decode cX12_reign 14 = .ok (.iload_n 2, 1) := by decide +kernel
theorem dX12_reign_15 : decode cX12_reign 15 = .ok (.i2l, 1) := by decide +kernel
theorem dX12_reign_16 : decode cX12_reign 16 = .ok (.lconst 0, 1) := by decide +kernel
theorem dX12_reign_17 : decode cX12_reign 17 = .ok (.ldc2_w 503, 3) := by decide +kernel
theorem dX12_reign_20 : decode cX12_reign 20 = .ok (.invokestatic 147, 3) := by decide +kernel
theorem dX12_reign_23 : decode cX12_reign 23 = .ok (.ifCond .eq 7, 3) := by decide +kernel
theorem dX12_reign_26 : decode cX12_reign 26 = .ok (.iconst 0, 1) := by decide +kernel
theorem dX12_reign_27 : decode cX12_reign 27 = .ok (.goto 4, 3) := by decide +kernel
theorem dX12_reign_30 : decode cX12_reign 30 = .ok (.iconst 2, 1) := by decide +kernel
theorem dX12_reign_31 : decode cX12_reign 31 = .ok (.putfield 86, 3) := by decide +kernel
theorem dX12_reign_34 : decode cX12_reign 34 = .ok (.aload_n 0, 1) := by decide +kernel
theorem dX12_reign_35 : decode cX12_reign 35 = .ok (.getfield 86, 3) := by decide +kernel
theorem dX12_reign_38 : decode cX12_reign 38 = .ok (.ifCond .le 5, 3) := by decide +kernel
theorem dX12_reign_41 : decode cX12_reign 41 = .ok (.iconst 0, 1) := by decide +kernel
theorem dX12_reign_42 : decode cX12_reign 42 = .ok (.ireturn, 1) := by decide +kernel
theorem dX12_reign_43 : decode cX12_reign 43 = .ok (.aload_n 0, 1) := by decide +kernel
theorem dX12_reign_44 : decode cX12_reign 44 = .ok (.invokevirtual 310, 3) := by decide +kernel
theorem dX12_reign_47 : decode cX12_reign 47 = .ok (.iconst 0, 1) := by decide +kernel
theorem dX12_reign_48 : decode cX12_reign 48 = .ok (.istore_n 3, 1) := by decide +kernel
theorem dX12_reign_49 : decode cX12_reign 49 = .ok (.iconst 0, 1) := by decide +kernel
theorem dX12_reign_50 : decode cX12_reign 50 = .ok (.istore 4, 2) := by decide +kernel
theorem dX12_reign_52 : decode cX12_reign 52 = .ok (.iload 4, 2) := by decide +kernel
theorem dX12_reign_54 : decode cX12_reign 54 = .ok (.iload_n 2, 1) := by decide +kernel
theorem dX12_reign_55 : decode cX12_reign 55 = .ok (.if_icmp .gt 29, 3) := by decide +kernel
theorem dX12_reign_58 : decode cX12_reign 58 = .ok (.iload_n 3, 1) := by decide +kernel
theorem dX12_reign_59 : decode cX12_reign 59 = .ok (.aload_n 0, 1) := by decide +kernel
theorem dX12_reign_60 : decode cX12_reign 60 = .ok (.invokevirtual 313, 3) := by decide +kernel
theorem dX12_reign_63 : decode cX12_reign 63 = .ok (.iload_n 1, 1) := by decide +kernel
theorem dX12_reign_64 : decode cX12_reign 64 = .ok (.if_icmp .ne 7, 3) := by decide +kernel
theorem dX12_reign_67 : decode cX12_reign 67 = .ok (.iconst 1, 1) := by decide +kernel
theorem dX12_reign_68 : decode cX12_reign 68 = .ok (.goto 4, 3) := by decide +kernel
theorem dX12_reign_71 : decode cX12_reign 71 = .ok (.iconst 0, 1) := by decide +kernel
theorem dX12_reign_72 : decode cX12_reign 72 = .ok (.iadd, 1) := by decide +kernel
theorem dX12_reign_73 : decode cX12_reign 73 = .ok (.istore_n 3, 1) := by decide +kernel
theorem dX12_reign_74 : decode cX12_reign 74 = .ok (.aload_n 0, 1) := by decide +kernel
theorem dX12_reign_75 : decode cX12_reign 75 = .ok (.invokevirtual 334, 3) := by decide +kernel
theorem dX12_reign_78 : decode cX12_reign 78 = .ok (.iinc 4 1, 3) := by decide +kernel
theorem dX12_reign_81 : decode cX12_reign 81 = .ok (.goto (-29), 3) := by decide +kernel
theorem dX12_reign_84 : decode cX12_reign 84 = .ok (.iload_n 3, 1) := by decide +kernel
theorem dX12_reign_85 : decode cX12_reign 85 = .ok (.ireturn, 1) := by decide +kernel
theorem dX12_first_0 : decode cX12_first 0 = .ok (.aload_n 0, 1) := by decide +kernel
theorem dX12_first_1 : decode cX12_first 1 = .ok (.iconst 0, 1) := by decide +kernel
theorem dX12_first_2 : decode cX12_first 2 = .ok (.putfield 86, 3) := by decide +kernel
theorem dX12_first_5 : decode cX12_first 5 = .ok (.aload_n 0, 1) := by decide +kernel
theorem dX12_first_6 : decode cX12_first 6 = .ok (.iload_n 1, 1) := by decide +kernel
theorem dX12_first_7 : decode cX12_first 7 = .ok (.i2l, 1) := by decide +kernel
theorem dX12_first_8 : decode cX12_first 8 = .ok (.invokevirtual 319, 3) := by decide +kernel
theorem dX12_first_11 : decode cX12_first 11 = .ok (.ifCond .ne 9, 3) := by decide +kernel
theorem dX12_first_14 : decode cX12_first 14 = .ok (.aload_n 0, 1) := by decide +kernel
theorem dX12_first_15 : decode cX12_first 15 = .ok (.iconst 1, 1) := by decide +kernel
theorem dX12_first_16 : decode cX12_first 16 = .ok (.invokevirtual 239, 3) := by decide +kernel
theorem dX12_first_19 : decode cX12_first 19 = .ok (.ireturn, 1) := by decide +kernel
theorem dX12_first_20 : decode cX12_first 20 = .ok (.aload_n 0, 1) := by decide +kernel
theorem dX12_first_21 : decode cX12_first 21 = .ok (.invokevirtual 492, 3) := by decide +kernel
theorem dX12_first_24 : decode cX12_first 24 = .ok (.aload_n 0, 1) := by decide +kernel
theorem dX12_first_25 : decode cX12_first 25 = .ok (.invokevirtual 310, 3) := by decide +kernel
theorem dX12_first_28 : decode cX12_first 28 = .ok (.iconst 0, 1) := by decide +kernel
theorem dX12_first_29 : decode cX12_first 29 = .ok (.istore_n 2, 1) := by decide +kernel
theorem dX12_first_30 : decode cX12_first 30 = .ok (.iload_n 2, 1) := by decide +kernel
theorem dX12_first_31 : decode cX12_first 31 = .ok (.aload_n 0, 1) := by decide +kernel
theorem dX12_first_32 : decode cX12_first 32 = .ok (.getfield 486, 3) := by decide +kernel
theorem dX12_first_35 : decode cX12_first 35 = .ok (.aload_n 0, 1) := by decide +kernel
theorem dX12_first_36 : decode cX12_first 36 = .ok (.getfield 489, 3) := by decide +kernel
theorem dX12_first_39 : decode cX12_first 39 = .ok (.iadd, 1) := by decide +kernel
theorem dX12_first_40 : decode cX12_first 40 = .ok (.if_icmp .ge 23, 3) := by decide +kernel
theorem dX12_first_43 : decode cX12_first 43 = .ok (.aload_n 0, 1) := by decide +kernel
theorem dX12_first_44 : decode cX12_first 44 = .ok (.invokevirtual 313, 3) := by decide +kernel
theorem dX12_first_47 : decode cX12_first 47 = .ok (.iload_n 1, 1) := by decide +kernel
theorem dX12_first_48 : decode cX12_first 48 = .ok (.if_icmp .ne 5, 3) := by decide +kernel
theorem dX12_first_51 : decode cX12_first 51 = .ok (.iload_n 2, 1) := by decide +kernel
theorem dX12_first_52 : decode cX12_first 52 = .ok (.ireturn, 1) := by decide +kernel
theorem dX12_first_53 : decode cX12_first 53 = .ok (.aload_n 0, 1) := by decide +kernel
theorem dX12_first_54 : decode cX12_first 54 = .ok (.invokevirtual 334, 3) := by decide +kernel
theorem dX12_first_57 : decode cX12_first 57 = .ok (.iinc 2 1, 3) := by decide +kernel
theorem dX12_first_60 : decode cX12_first 60 = .ok (.goto (-30), 3) := by decide +kernel
theorem dX12_first_63 : decode cX12_first 63 = .ok (.iconst (-1), 1) := by decide +kernel
theorem dX12_first_64 : decode cX12_first 64 = .ok (.ireturn, 1) := by decide +kernel
theorem dX12_laysSeen_0 : decode cX12_laysSeen 0 = .ok (.aload_n 0, 1) := by decide +kernel
theorem dX12_laysSeen_1 : decode cX12_laysSeen 1 = .ok (.iconst 0, 1) := by decide +kernel
theorem dX12_laysSeen_2 : decode cX12_laysSeen 2 = .ok (.putfield 505, 3) := by decide +kernel
theorem dX12_laysSeen_5 : decode cX12_laysSeen 5 = .ok (.aload_n 0, 1) := by decide +kernel
theorem dX12_laysSeen_6 : decode cX12_laysSeen 6 = .ok (.invokevirtual 423, 3) := by decide +kernel
theorem dX12_laysSeen_9 : decode cX12_laysSeen 9 = .ok (.iconst 0, 1) := by decide +kernel
theorem dX12_laysSeen_10 : decode cX12_laysSeen 10 = .ok (.istore_n 2, 1) := by decide +kernel
theorem dX12_laysSeen_11 : decode cX12_laysSeen 11 = .ok (.iload_n 2, 1) := by decide +kernel
theorem dX12_laysSeen_12 : decode cX12_laysSeen 12 = .ok (.bipush 10, 2) := by decide +kernel
theorem dX12_laysSeen_14 : decode cX12_laysSeen 14 = .ok (.aload_n 0, 1) := by decide +kernel
theorem dX12_laysSeen_15 : decode cX12_laysSeen 15 = .ok (.invokevirtual 254, 3) := by decide +kernel
theorem dX12_laysSeen_18 : decode cX12_laysSeen 18 = .ok (.imul, 1) := by decide +kernel
theorem dX12_laysSeen_19 : decode cX12_laysSeen 19 = .ok (.if_icmp .ge 108, 3) := by decide +kernel
theorem dX12_laysSeen_22 : decode cX12_laysSeen 22 = .ok (.aload_n 0, 1) := by decide +kernel
theorem dX12_laysSeen_23 : decode cX12_laysSeen 23 = .ok (.iload_n 2, 1) := by decide +kernel
theorem dX12_laysSeen_24 : decode cX12_laysSeen 24 = .ok (.bipush 10, 2) := by decide +kernel
theorem dX12_laysSeen_26 : decode cX12_laysSeen 26 = .ok (.idiv, 1) := by decide +kernel
theorem dX12_laysSeen_27 : decode cX12_laysSeen 27 = .ok (.i2l, 1) := by decide +kernel
theorem dX12_laysSeen_28 : decode cX12_laysSeen 28 = .ok (.iload_n 2, 1) := by decide +kernel
theorem dX12_laysSeen_29 : decode cX12_laysSeen 29 = .ok (.bipush 10, 2) := by decide +kernel
theorem dX12_laysSeen_31 : decode cX12_laysSeen 31 = .ok (.irem, 1) := by decide +kernel
theorem dX12_laysSeen_32 : decode cX12_laysSeen 32 = .ok (.i2l, 1) := by decide +kernel
theorem dX12_laysSeen_33 : decode cX12_laysSeen 33 = .ok (.invokevirtual 337, 3) := by decide +kernel
theorem dX12_laysSeen_36 : decode cX12_laysSeen 36 = .ok (.ifCond .eq 6, 3) := by decide +kernel
theorem dX12_laysSeen_39 : decode cX12_laysSeen 39 = .ok (.goto 82, 3) := by decide +kernel
theorem dX12_laysSeen_42 : decode cX12_laysSeen 42 = .ok (.aload_n 0, 1) := by decide +kernel
theorem dX12_laysSeen_43 : decode cX12_laysSeen 43 = .ok (.iload_n 2, 1) := by decide +kernel
theorem dX12_laysSeen_44 : decode cX12_laysSeen 44 = .ok (.bipush 10, 2) := by decide +kernel
theorem dX12_laysSeen_46 : decode cX12_laysSeen 46 = .ok (.idiv, 1) := by decide +kernel
theorem dX12_laysSeen_47 : decode cX12_laysSeen 47 = .ok (.iload_n 2, 1) := by decide +kernel
theorem dX12_laysSeen_48 : decode cX12_laysSeen 48 = .ok (.bipush 10, 2) := by decide +kernel
theorem dX12_laysSeen_50 : decode cX12_laysSeen 50 = .ok (.irem, 1) := by decide +kernel
theorem dX12_laysSeen_51 : decode cX12_laysSeen 51 = .ok (.invokevirtual 483, 3) := by decide +kernel
theorem dX12_laysSeen_54 : decode cX12_laysSeen 54 = .ok (.aload_n 0, 1) := by decide +kernel
theorem dX12_laysSeen_55 : decode cX12_laysSeen 55 = .ok (.iload_n 1, 1) := by decide +kernel
theorem dX12_laysSeen_56 : decode cX12_laysSeen 56 = .ok (.invokevirtual 432, 3) := by decide +kernel
theorem dX12_laysSeen_59 : decode cX12_laysSeen 59 = .ok (.ifCond .ne 6, 3) := by decide +kernel
theorem dX12_laysSeen_62 : decode cX12_laysSeen 62 = .ok (.goto 59, 3) := by decide +kernel
theorem dX12_laysSeen_65 : decode cX12_laysSeen 65 = .ok (.aload_n 0, 1) := by decide +kernel
theorem dX12_laysSeen_66 : decode cX12_laysSeen 66 = .ok (.getfield 70, 3) := by decide +kernel
theorem dX12_laysSeen_69 : decode cX12_laysSeen 69 = .ok (.aload_n 0, 1) := by decide +kernel
theorem dX12_laysSeen_70 : decode cX12_laysSeen 70 = .ok (.getfield 505, 3) := by decide +kernel
theorem dX12_laysSeen_73 : decode cX12_laysSeen 73 = .ok (.iload_n 2, 1) := by decide +kernel
theorem dX12_laysSeen_74 : decode cX12_laysSeen 74 = .ok (.iastore, 1) := by decide +kernel
theorem dX12_laysSeen_75 : decode cX12_laysSeen 75 = .ok (.iconst 0, 1) := by decide +kernel
theorem dX12_laysSeen_76 : decode cX12_laysSeen 76 = .ok (.istore_n 3, 1) := by decide +kernel
theorem dX12_laysSeen_77 : decode cX12_laysSeen 77 = .ok (.iload_n 3, 1) := by decide +kernel
theorem dX12_laysSeen_78 : decode cX12_laysSeen 78 = .ok (.aload_n 0, 1) := by decide +kernel
theorem dX12_laysSeen_79 : decode cX12_laysSeen 79 = .ok (.invokevirtual 254, 3) := by decide +kernel
theorem dX12_laysSeen_82 : decode cX12_laysSeen 82 = .ok (.if_icmp .ge 29, 3) := by decide +kernel
theorem dX12_laysSeen_85 : decode cX12_laysSeen 85 = .ok (.aload_n 0, 1) := by decide +kernel
theorem dX12_laysSeen_86 : decode cX12_laysSeen 86 = .ok (.getfield 73, 3) := by decide +kernel
theorem dX12_laysSeen_89 : decode cX12_laysSeen 89 = .ok (.bipush 6, 2) := by decide +kernel
theorem dX12_laysSeen_91 : decode cX12_laysSeen 91 = .ok (.aload_n 0, 1) := by decide +kernel
theorem dX12_laysSeen_92 : decode cX12_laysSeen 92 = .ok (.getfield 505, 3) := by decide +kernel
theorem dX12_laysSeen_95 : decode cX12_laysSeen 95 = .ok (.imul, 1) := by decide +kernel
theorem dX12_laysSeen_96 : decode cX12_laysSeen 96 = .ok (.iload_n 3, 1) := by decide +kernel
theorem dX12_laysSeen_97 : decode cX12_laysSeen 97 = .ok (.iadd, 1) := by decide +kernel
theorem dX12_laysSeen_98 : decode cX12_laysSeen 98 = .ok (.aload_n 0, 1) := by decide +kernel
theorem dX12_laysSeen_99 : decode cX12_laysSeen 99 = .ok (.getfield 36, 3) := by decide +kernel
theorem dX12_laysSeen_102 : decode cX12_laysSeen 102 = .ok (.iload_n 3, 1) := by decide +kernel
theorem dX12_laysSeen_103 : decode cX12_laysSeen 103 = .ok (.iaload, 1) := by decide +kernel
theorem dX12_laysSeen_104 : decode cX12_laysSeen 104 = .ok (.iastore, 1) := by decide +kernel
theorem dX12_laysSeen_105 : decode cX12_laysSeen 105 = .ok (.iinc 3 1, 3) := by decide +kernel
theorem dX12_laysSeen_108 : decode cX12_laysSeen 108 = .ok (.goto (-31), 3) := by decide +kernel
theorem dX12_laysSeen_111 : decode cX12_laysSeen 111 = .ok (.aload_n 0, 1) := by decide +kernel
theorem dX12_laysSeen_112 : decode cX12_laysSeen 112 = .ok (.dup, 1) := by decide +kernel
theorem dX12_laysSeen_113 : decode cX12_laysSeen 113 = .ok (.getfield 505, 3) := by decide +kernel
theorem dX12_laysSeen_116 : decode cX12_laysSeen 116 = .ok (.iconst 1, 1) := by decide +kernel
theorem dX12_laysSeen_117 : decode cX12_laysSeen 117 = .ok (.iadd, 1) := by decide +kernel
theorem dX12_laysSeen_118 : decode cX12_laysSeen 118 = .ok (.putfield 505, 3) := by decide +kernel
theorem dX12_laysSeen_121 : decode cX12_laysSeen 121 = .ok (.iinc 2 1, 3) := by decide +kernel
theorem dX12_laysSeen_124 : decode cX12_laysSeen 124 = .ok (.goto (-113), 3) := by decide +kernel
theorem dX12_laysSeen_127 : decode cX12_laysSeen 127 = .ok (.return_, 1) := by decide +kernel
theorem dX12_seen_0 : decode cX12_seen 0 = .ok (.aload_n 0, 1) := by decide +kernel
theorem dX12_seen_1 : decode cX12_seen 1 = .ok (.aload_n 0, 1) := by decide +kernel
theorem dX12_seen_2 : decode cX12_seen 2 = .ok (.iload_n 1, 1) := by decide +kernel
theorem dX12_seen_3 : decode cX12_seen 3 = .ok (.invokevirtual 468, 3) := by decide +kernel
theorem dX12_seen_6 : decode cX12_seen 6 = .ok (.putfield 86, 3) := by decide +kernel
theorem dX12_seen_9 : decode cX12_seen 9 = .ok (.aload_n 0, 1) := by decide +kernel
theorem dX12_seen_10 : decode cX12_seen 10 = .ok (.getfield 86, 3) := by decide +kernel
theorem dX12_seen_13 : decode cX12_seen 13 = .ok (.ifCond .le 5, 3) := by decide +kernel
theorem dX12_seen_16 : decode cX12_seen 16 = .ok (.iconst 0, 1) := by decide +kernel
theorem dX12_seen_17 : decode cX12_seen 17 = .ok (.ireturn, 1) := by decide +kernel
theorem dX12_seen_18 : decode cX12_seen 18 = .ok (.aload_n 0, 1) := by decide +kernel
theorem dX12_seen_19 : decode cX12_seen 19 = .ok (.iload_n 1, 1) := by decide +kernel
theorem dX12_seen_20 : decode cX12_seen 20 = .ok (.invokevirtual 508, 3) := by decide +kernel
theorem dX12_seen_23 : decode cX12_seen 23 = .ok (.aload_n 0, 1) := by decide +kernel
theorem dX12_seen_24 : decode cX12_seen 24 = .ok (.getfield 505, 3) := by decide +kernel
theorem dX12_seen_27 : decode cX12_seen 27 = .ok (.ireturn, 1) := by decide +kernel
theorem dX12_seenAt_0 : decode cX12_seenAt 0 = .ok (.aload_n 0, 1) := by decide +kernel
theorem dX12_seenAt_1 : decode cX12_seenAt 1 = .ok (.aload_n 0, 1) := by decide +kernel
theorem dX12_seenAt_2 : decode cX12_seenAt 2 = .ok (.iload_n 1, 1) := by decide +kernel
theorem dX12_seenAt_3 : decode cX12_seenAt 3 = .ok (.invokevirtual 468, 3) := by decide +kernel
theorem dX12_seenAt_6 : decode cX12_seenAt 6 = .ok (.putfield 86, 3) := by decide +kernel
theorem dX12_seenAt_9 : decode cX12_seenAt 9 = .ok (.aload_n 0, 1) := by decide +kernel
theorem dX12_seenAt_10 : decode cX12_seenAt 10 = .ok (.getfield 86, 3) := by decide +kernel
theorem dX12_seenAt_13 : decode cX12_seenAt 13 = .ok (.ifCond .ne 12, 3) := by decide +kernel
theorem dX12_seenAt_16 : decode cX12_seenAt 16 = .ok (.iload_n 2, 1) := by decide +kernel
theorem dX12_seenAt_17 : decode cX12_seenAt 17 = .ok (.ifCond .ge 8, 3) := by decide +kernel
theorem dX12_seenAt_20 : decode cX12_seenAt 20 = .ok (.aload_n 0, 1) := by decide +kernel
theorem dX12_seenAt_21 : decode cX12_seenAt 21 = .ok (.iconst 3, 1) := by decide +kernel
theorem dX12_seenAt_22 : decode cX12_seenAt 22 = .ok (.putfield 86, 3) := by decide +kernel
theorem dX12_seenAt_25 : decode cX12_seenAt 25 = .ok (.aload_n 0, 1) := by decide +kernel
theorem dX12_seenAt_26 : decode cX12_seenAt 26 = .ok (.getfield 86, 3) := by decide +kernel
theorem dX12_seenAt_29 : decode cX12_seenAt 29 = .ok (.ifCond .le 5, 3) := by decide +kernel
theorem dX12_seenAt_32 : decode cX12_seenAt 32 = .ok (.iconst 0, 1) := by decide +kernel
theorem dX12_seenAt_33 : decode cX12_seenAt 33 = .ok (.ireturn, 1) := by decide +kernel
theorem dX12_seenAt_34 : decode cX12_seenAt 34 = .ok (.aload_n 0, 1) := by decide +kernel
theorem dX12_seenAt_35 : decode cX12_seenAt 35 = .ok (.iload_n 1, 1) := by decide +kernel
theorem dX12_seenAt_36 : decode cX12_seenAt 36 = .ok (.invokevirtual 508, 3) := by decide +kernel
theorem dX12_seenAt_39 : decode cX12_seenAt 39 = .ok (.iload_n 2, 1) := by decide +kernel
theorem dX12_seenAt_40 : decode cX12_seenAt 40 = .ok (.aload_n 0, 1) := by decide +kernel
theorem dX12_seenAt_41 : decode cX12_seenAt 41 = .ok (.getfield 505, 3) := by decide +kernel
theorem dX12_seenAt_44 : decode cX12_seenAt 44 = .ok (.if_icmp .ge 12, 3) := by decide +kernel
theorem dX12_seenAt_47 : decode cX12_seenAt 47 = .ok (.aload_n 0, 1) := by decide +kernel
theorem dX12_seenAt_48 : decode cX12_seenAt 48 = .ok (.getfield 70, 3) := by decide +kernel
theorem dX12_seenAt_51 : decode cX12_seenAt 51 = .ok (.iload_n 2, 1) := by decide +kernel
theorem dX12_seenAt_52 : decode cX12_seenAt 52 = .ok (.iaload, 1) := by decide +kernel
theorem dX12_seenAt_53 : decode cX12_seenAt 53 = .ok (.goto 4, 3) := by decide +kernel
theorem dX12_seenAt_56 : decode cX12_seenAt 56 = .ok (.iconst (-1), 1) := by decide +kernel
theorem dX12_seenAt_57 : decode cX12_seenAt 57 = .ok (.ireturn, 1) := by decide +kernel
theorem dX12_mostAlike_0 : decode cX12_mostAlike 0 = .ok (.iconst 0, 1) := by decide +kernel
theorem dX12_mostAlike_1 : decode cX12_mostAlike 1 = .ok (.istore_n 2, 1) := by decide +kernel
theorem dX12_mostAlike_2 : decode cX12_mostAlike 2 = .ok (.iconst 0, 1) := by decide +kernel
theorem dX12_mostAlike_3 : decode cX12_mostAlike 3 = .ok (.istore_n 3, 1) := by decide +kernel
theorem dX12_mostAlike_4 : decode cX12_mostAlike 4 = .ok (.iload_n 3, 1) := by decide +kernel
theorem dX12_mostAlike_5 : decode cX12_mostAlike 5 = .ok (.aload_n 0, 1) := by decide +kernel
theorem dX12_mostAlike_6 : decode cX12_mostAlike 6 = .ok (.getfield 505, 3) := by decide +kernel
theorem dX12_mostAlike_9 : decode cX12_mostAlike 9 = .ok (.if_icmp .ge 73, 3) := by decide +kernel
theorem dX12_mostAlike_12 : decode cX12_mostAlike 12 = .ok (.iconst 0, 1) := by decide +kernel
theorem dX12_mostAlike_13 : decode cX12_mostAlike 13 = .ok (.istore 4, 2) := by decide +kernel
theorem dX12_mostAlike_15 : decode cX12_mostAlike 15 = .ok (.iconst 0, 1) := by decide +kernel
theorem dX12_mostAlike_16 : decode cX12_mostAlike 16 = .ok (.istore 5, 2) := by decide +kernel
theorem dX12_mostAlike_18 : decode cX12_mostAlike 18 = .ok (.iload 5, 2) := by decide +kernel
theorem dX12_mostAlike_20 : decode cX12_mostAlike 20 = .ok (.aload_n 0, 1) := by decide +kernel
theorem dX12_mostAlike_21 : decode cX12_mostAlike 21 = .ok (.getfield 505, 3) := by decide +kernel
theorem dX12_mostAlike_24 : decode cX12_mostAlike 24 = .ok (.if_icmp .ge 45, 3) := by decide +kernel
theorem dX12_mostAlike_27 : decode cX12_mostAlike 27 = .ok (.iload 4, 2) := by decide +kernel
theorem dX12_mostAlike_29 : decode cX12_mostAlike 29 = .ok (.aload_n 0, 1) := by decide +kernel
theorem dX12_mostAlike_30 : decode cX12_mostAlike 30 = .ok (.getfield 73, 3) := by decide +kernel
theorem dX12_mostAlike_33 : decode cX12_mostAlike 33 = .ok (.bipush 6, 2) := by decide +kernel
theorem dX12_mostAlike_35 : decode cX12_mostAlike 35 = .ok (.iload 5, 2) := by decide +kernel
theorem dX12_mostAlike_37 : decode cX12_mostAlike 37 = .ok (.imul, 1) := by decide +kernel
theorem dX12_mostAlike_38 : decode cX12_mostAlike 38 = .ok (.iload_n 1, 1) := by decide +kernel
theorem dX12_mostAlike_39 : decode cX12_mostAlike 39 = .ok (.iadd, 1) := by decide +kernel
theorem dX12_mostAlike_40 : decode cX12_mostAlike 40 = .ok (.iaload, 1) := by decide +kernel
theorem dX12_mostAlike_41 : decode cX12_mostAlike 41 = .ok (.aload_n 0, 1) := by decide +kernel
theorem dX12_mostAlike_42 : decode cX12_mostAlike 42 = .ok (.getfield 73, 3) := by decide +kernel
theorem dX12_mostAlike_45 : decode cX12_mostAlike 45 = .ok (.bipush 6, 2) := by decide +kernel
theorem dX12_mostAlike_47 : decode cX12_mostAlike 47 = .ok (.iload_n 3, 1) := by decide +kernel
theorem dX12_mostAlike_48 : decode cX12_mostAlike 48 = .ok (.imul, 1) := by decide +kernel
theorem dX12_mostAlike_49 : decode cX12_mostAlike 49 = .ok (.iload_n 1, 1) := by decide +kernel
theorem dX12_mostAlike_50 : decode cX12_mostAlike 50 = .ok (.iadd, 1) := by decide +kernel
theorem dX12_mostAlike_51 : decode cX12_mostAlike 51 = .ok (.iaload, 1) := by decide +kernel
theorem dX12_mostAlike_52 : decode cX12_mostAlike 52 = .ok (.if_icmp .ne 7, 3) := by decide +kernel
theorem dX12_mostAlike_55 : decode cX12_mostAlike 55 = .ok (.iconst 1, 1) := by decide +kernel
theorem dX12_mostAlike_56 : decode cX12_mostAlike 56 = .ok (.goto 4, 3) := by decide +kernel
theorem dX12_mostAlike_59 : decode cX12_mostAlike 59 = .ok (.iconst 0, 1) := by decide +kernel
theorem dX12_mostAlike_60 : decode cX12_mostAlike 60 = .ok (.iadd, 1) := by decide +kernel
theorem dX12_mostAlike_61 : decode cX12_mostAlike 61 = .ok (.istore 4, 2) := by decide +kernel
theorem dX12_mostAlike_63 : decode cX12_mostAlike 63 = .ok (.iinc 5 1, 3) := by decide +kernel
theorem dX12_mostAlike_66 : decode cX12_mostAlike 66 = .ok (.goto (-48), 3) := by decide +kernel
theorem dX12_mostAlike_69 : decode cX12_mostAlike 69 = .ok (.iload_n 2, 1) := by decide +kernel
theorem dX12_mostAlike_70 : decode cX12_mostAlike 70 = .ok (.iload 4, 2) := by decide +kernel
theorem dX12_mostAlike_72 : decode cX12_mostAlike 72 = .ok (.invokestatic 302, 3) := by decide +kernel
theorem dX12_mostAlike_75 : decode cX12_mostAlike 75 = .ok (.istore_n 2, 1) := by decide +kernel
theorem dX12_mostAlike_76 : decode cX12_mostAlike 76 = .ok (.iinc 3 1, 3) := by decide +kernel
theorem dX12_mostAlike_79 : decode cX12_mostAlike 79 = .ok (.goto (-75), 3) := by decide +kernel
theorem dX12_mostAlike_82 : decode cX12_mostAlike 82 = .ok (.iload_n 2, 1) := by decide +kernel
theorem dX12_mostAlike_83 : decode cX12_mostAlike 83 = .ok (.ireturn, 1) := by decide +kernel
theorem dX12_ask_0 : decode cX12_ask 0 = .ok (.aload_n 0, 1) := by decide +kernel
theorem dX12_ask_1 : decode cX12_ask 1 = .ok (.aload_n 0, 1) := by decide +kernel
theorem dX12_ask_2 : decode cX12_ask 2 = .ok (.iload_n 1, 1) := by decide +kernel
theorem dX12_ask_3 : decode cX12_ask 3 = .ok (.invokevirtual 468, 3) := by decide +kernel
theorem dX12_ask_6 : decode cX12_ask 6 = .ok (.putfield 86, 3) := by decide +kernel
theorem dX12_ask_9 : decode cX12_ask 9 = .ok (.aload_n 0, 1) := by decide +kernel
theorem dX12_ask_10 : decode cX12_ask 10 = .ok (.getfield 86, 3) := by decide +kernel
theorem dX12_ask_13 : decode cX12_ask 13 = .ok (.ifCond .le 5, 3) := by decide +kernel
theorem dX12_ask_16 : decode cX12_ask 16 = .ok (.iconst 0, 1) := by decide +kernel
theorem dX12_ask_17 : decode cX12_ask 17 = .ok (.ireturn, 1) := by decide +kernel
theorem dX12_ask_18 : decode cX12_ask 18 = .ok (.aload_n 0, 1) := by decide +kernel
theorem dX12_ask_19 : decode cX12_ask 19 = .ok (.iload_n 1, 1) := by decide +kernel
theorem dX12_ask_20 : decode cX12_ask 20 = .ok (.invokevirtual 508, 3) := by decide +kernel
theorem dX12_ask_23 : decode cX12_ask 23 = .ok (.iconst (-1), 1) := by decide +kernel
theorem dX12_ask_24 : decode cX12_ask 24 = .ok (.istore_n 2, 1) := by decide +kernel
theorem dX12_ask_25 : decode cX12_ask 25 = .ok (.ldc_w 416, 3) := by decide +kernel
theorem dX12_ask_28 : decode cX12_ask 28 = .ok (.istore_n 3, 1) := by decide +kernel
theorem dX12_ask_29 : decode cX12_ask 29 = .ok (.iconst 0, 1) := by decide +kernel
theorem dX12_ask_30 : decode cX12_ask 30 = .ok (.istore 4, 2) := by decide +kernel
theorem dX12_ask_32 : decode cX12_ask 32 = .ok (.iload 4, 2) := by decide +kernel
theorem dX12_ask_34 : decode cX12_ask 34 = .ok (.aload_n 0, 1) := by decide +kernel
theorem dX12_ask_35 : decode cX12_ask 35 = .ok (.invokevirtual 254, 3) := by decide +kernel
theorem dX12_ask_38 : decode cX12_ask 38 = .ok (.if_icmp .ge 58, 3) := by decide +kernel
theorem dX12_ask_41 : decode cX12_ask 41 = .ok (.aload_n 0, 1) := by decide +kernel
theorem dX12_ask_42 : decode cX12_ask 42 = .ok (.getfield 505, 3) := by decide +kernel
theorem dX12_ask_45 : decode cX12_ask 45 = .ok (.ifCond .le 51, 3) := by decide +kernel
theorem dX12_ask_48 : decode cX12_ask 48 = .ok (.aload_n 0, 1) := by decide +kernel
theorem dX12_ask_49 : decode cX12_ask 49 = .ok (.getfield 82, 3) := by decide +kernel
theorem dX12_ask_52 : decode cX12_ask 52 = .ok (.bipush 30, 2) := by decide +kernel
theorem dX12_ask_54 : decode cX12_ask 54 = .ok (.iload_n 1, 1) := by decide +kernel
theorem dX12_ask_55 : decode cX12_ask 55 = .ok (.imul, 1) := by decide +kernel
theorem dX12_ask_56 : decode cX12_ask 56 = .ok (.iload 4, 2) := by decide +kernel
theorem dX12_ask_58 : decode cX12_ask 58 = .ok (.iadd, 1) := by decide +kernel
theorem dX12_ask_59 : decode cX12_ask 59 = .ok (.laload, 1) := by decide +kernel
theorem dX12_ask_60 : decode cX12_ask 60 = .ok (.ldc2_w 359, 3) := by decide +kernel
theorem dX12_ask_63 : decode cX12_ask 63 = .ok (.lcmp, 1) := by decide +kernel
theorem dX12_ask_64 : decode cX12_ask 64 = .ok (.ifCond .ne 26, 3) := by decide +kernel
theorem dX12_ask_67 : decode cX12_ask 67 = .ok (.aload_n 0, 1) := by decide +kernel
theorem dX12_ask_68 : decode cX12_ask 68 = .ok (.iload 4, 2) := by decide +kernel
theorem dX12_ask_70 : decode cX12_ask 70 = .ok (.invokevirtual 511, 3) := by decide +kernel
theorem dX12_ask_73 : decode cX12_ask 73 = .ok (.iload_n 3, 1) := by decide +kernel
theorem dX12_ask_74 : decode cX12_ask 74 = .ok (.if_icmp .lt 6, 3) := by decide +kernel
theorem dX12_ask_77 : decode cX12_ask 77 = .ok (.goto 13, 3) := by decide +kernel
theorem dX12_ask_80 : decode cX12_ask 80 = .ok (.iload 4, 2) := by decide +kernel
theorem dX12_ask_82 : decode cX12_ask 82 = .ok (.istore_n 2, 1) := by decide +kernel
theorem dX12_ask_83 : decode cX12_ask 83 = .ok (.aload_n 0, 1) := by decide +kernel
theorem dX12_ask_84 : decode cX12_ask 84 = .ok (.iload 4, 2) := by decide +kernel
theorem dX12_ask_86 : decode cX12_ask 86 = .ok (.invokevirtual 511, 3) := by decide +kernel
theorem dX12_ask_89 : decode cX12_ask 89 = .ok (.istore_n 3, 1) := by decide +kernel
theorem dX12_ask_90 : decode cX12_ask 90 = .ok (.iinc 4 1, 3) := by decide +kernel
theorem dX12_ask_93 : decode cX12_ask 93 = .ok (.goto (-61), 3) := by decide +kernel
theorem dX12_ask_96 : decode cX12_ask 96 = .ok (.iload_n 2, 1) := by decide +kernel
theorem dX12_ask_97 : decode cX12_ask 97 = .ok (.ireturn, 1) := by decide +kernel
theorem dX12_loose_0 : decode cX12_loose 0 = .ok (.iconst 0, 1) := by decide +kernel
theorem dX12_loose_1 : decode cX12_loose 1 = .ok (.istore_n 1, 1) := by decide +kernel
theorem dX12_loose_2 : decode cX12_loose 2 = .ok (.iconst 0, 1) := by decide +kernel
theorem dX12_loose_3 : decode cX12_loose 3 = .ok (.istore_n 2, 1) := by decide +kernel
theorem dX12_loose_4 : decode cX12_loose 4 = .ok (.iload_n 2, 1) := by decide +kernel
theorem dX12_loose_5 : decode cX12_loose 5 = .ok (.aload_n 0, 1) := by decide +kernel
theorem dX12_loose_6 : decode cX12_loose 6 = .ok (.invokevirtual 254, 3) := by decide +kernel
theorem dX12_loose_9 : decode cX12_loose 9 = .ok (.if_icmp .ge 25, 3) := by decide +kernel
theorem dX12_loose_12 : decode cX12_loose 12 = .ok (.iload_n 1, 1) := by decide +kernel
theorem dX12_loose_13 : decode cX12_loose 13 = .ok (.aload_n 0, 1) := by decide +kernel
theorem dX12_loose_14 : decode cX12_loose 14 = .ok (.iload_n 2, 1) := by decide +kernel
theorem dX12_loose_15 : decode cX12_loose 15 = .ok (.invokevirtual 287, 3) := by decide +kernel
theorem dX12_loose_18 : decode cX12_loose 18 = .ok (.ifCond .eq 7, 3) := by decide +kernel
theorem dX12_loose_21 : decode cX12_loose 21 = .ok (.iconst 0, 1) := by decide +kernel
theorem dX12_loose_22 : decode cX12_loose 22 = .ok (.goto 4, 3) := by decide +kernel
theorem dX12_loose_25 : decode cX12_loose 25 = .ok (.iconst 1, 1) := by decide +kernel
theorem dX12_loose_26 : decode cX12_loose 26 = .ok (.iadd, 1) := by decide +kernel
theorem dX12_loose_27 : decode cX12_loose 27 = .ok (.istore_n 1, 1) := by decide +kernel
theorem dX12_loose_28 : decode cX12_loose 28 = .ok (.iinc 2 1, 3) := by decide +kernel
theorem dX12_loose_31 : decode cX12_loose 31 = .ok (.goto (-27), 3) := by decide +kernel
theorem dX12_loose_34 : decode cX12_loose 34 = .ok (.iload_n 1, 1) := by decide +kernel
theorem dX12_loose_35 : decode cX12_loose 35 = .ok (.ireturn, 1) := by decide +kernel
theorem dX12_goesChance_0 : decode cX12_goesChance 0 = .ok (.iload_n 1, 1) := by decide +kernel
theorem dX12_goesChance_1 : decode cX12_goesChance 1 = .ok (.ifCond .eq 10, 3) := by decide +kernel
theorem dX12_goesChance_4 : decode cX12_goesChance 4 = .ok (.aload_n 0, 1) := by decide +kernel
theorem dX12_goesChance_5 : decode cX12_goesChance 5 = .ok (.invokevirtual 514, 3) := by decide +kernel
theorem dX12_goesChance_8 : decode cX12_goesChance 8 = .ok (.ifCond .ne 28, 3) := by decide +kernel
theorem dX12_goesChance_11 : decode cX12_goesChance 11 = .ok (.aload_n 0, 1) := by decide +kernel
theorem dX12_goesChance_12 : decode cX12_goesChance 12 = .ok (.invokevirtual 426, 3) := by decide +kernel
theorem dX12_goesChance_15 : decode cX12_goesChance 15 = .ok (.aload_n 0, 1) := by decide +kernel
theorem dX12_goesChance_16 : decode cX12_goesChance 16 = .ok (.invokevirtual 313, 3) := by decide +kernel
theorem dX12_goesChance_19 : decode cX12_goesChance 19 = .ok (.istore_n 2, 1) := by decide +kernel
theorem dX12_goesChance_20 : decode cX12_goesChance 20 = .ok (.iload_n 2, 1) := by decide +kernel
theorem dX12_goesChance_21 : decode cX12_goesChance 21 = .ok (.iconst (-1), 1) := by decide +kernel
theorem dX12_goesChance_22 : decode cX12_goesChance 22 = .ok (.if_icmp .eq 13, 3) := by decide +kernel
theorem dX12_goesChance_25 : decode cX12_goesChance 25 = .ok (.aload_n 0, 1) := by decide +kernel
theorem dX12_goesChance_26 : decode cX12_goesChance 26 = .ok (.getfield 60, 3) := by decide +kernel
theorem dX12_goesChance_29 : decode cX12_goesChance 29 = .ok (.iload_n 2, 1) := by decide +kernel
theorem dX12_goesChance_30 : decode cX12_goesChance 30 = .ok (.dup2, 1) := by decide +kernel
theorem dX12_goesChance_31 : decode cX12_goesChance 31 = .ok (.iaload, 1) := by decide +kernel
theorem dX12_goesChance_32 : decode cX12_goesChance 32 = .ok (.iconst 1, 1) := by decide +kernel
theorem dX12_goesChance_33 : decode cX12_goesChance 33 = .ok (.iadd, 1) := by decide +kernel
theorem dX12_goesChance_34 : decode cX12_goesChance 34 = .ok (.iastore, 1) := by decide +kernel
theorem dX12_goesChance_35 : decode cX12_goesChance 35 = .ok (.return_, 1) := by decide +kernel
theorem dX12_goesChance_36 : decode cX12_goesChance 36 = .ok (.iconst 0, 1) := by decide +kernel
theorem dX12_goesChance_37 : decode cX12_goesChance 37 = .ok (.istore_n 2, 1) := by decide +kernel
theorem dX12_goesChance_38 : decode cX12_goesChance 38 = .ok (.iload_n 2, 1) := by decide +kernel
theorem dX12_goesChance_39 : decode cX12_goesChance 39 = .ok (.aload_n 0, 1) := by decide +kernel
theorem dX12_goesChance_40 : decode cX12_goesChance 40 = .ok (.invokevirtual 254, 3) := by decide +kernel
theorem dX12_goesChance_43 : decode cX12_goesChance 43 = .ok (.if_icmp .ge 47, 3) := by decide +kernel
theorem dX12_goesChance_46 : decode cX12_goesChance 46 = .ok (.aload_n 0, 1) := by decide +kernel
theorem dX12_goesChance_47 : decode cX12_goesChance 47 = .ok (.iload_n 2, 1) := by decide +kernel
theorem dX12_goesChance_48 : decode cX12_goesChance 48 = .ok (.invokevirtual 287, 3) := by decide +kernel
theorem dX12_goesChance_51 : decode cX12_goesChance 51 = .ok (.ifCond .eq 6, 3) := by decide +kernel
theorem dX12_goesChance_54 : decode cX12_goesChance 54 = .ok (.goto 30, 3) := by decide +kernel
theorem dX12_goesChance_57 : decode cX12_goesChance 57 = .ok (.aload_n 0, 1) := by decide +kernel
theorem dX12_goesChance_58 : decode cX12_goesChance 58 = .ok (.getfield 48, 3) := by decide +kernel
theorem dX12_goesChance_61 : decode cX12_goesChance 61 = .ok (.iload_n 2, 1) := by decide +kernel
theorem dX12_goesChance_62 : decode cX12_goesChance 62 = .ok (.dup2, 1) := by decide +kernel
theorem dX12_goesChance_63 : decode cX12_goesChance 63 = .ok (.iaload, 1) := by decide +kernel
theorem dX12_goesChance_64 : decode cX12_goesChance 64 = .ok (.iconst 1, 1) := by decide +kernel
theorem dX12_goesChance_65 : decode cX12_goesChance 65 = .ok (.iadd, 1) := by decide +kernel
theorem dX12_goesChance_66 : decode cX12_goesChance 66 = .ok (.iastore, 1) := by decide +kernel
theorem dX12_goesChance_67 : decode cX12_goesChance 67 = .ok (.aload_n 0, 1) := by decide +kernel
theorem dX12_goesChance_68 : decode cX12_goesChance 68 = .ok (.iload_n 1, 1) := by decide +kernel
theorem dX12_goesChance_69 : decode cX12_goesChance 69 = .ok (.iconst 1, 1) := by decide +kernel
theorem dX12_goesChance_70 : decode cX12_goesChance 70 = .ok (.isub, 1) := by decide +kernel
theorem dX12_goesChance_71 : decode cX12_goesChance 71 = .ok (.invokevirtual 517, 3) := by decide +kernel
theorem dX12_goesChance_74 : decode cX12_goesChance 74 = .ok (.aload_n 0, 1) := by decide +kernel
theorem dX12_goesChance_75 : decode cX12_goesChance 75 = .ok (.getfield 48, 3) := by decide +kernel
theorem dX12_goesChance_78 : decode cX12_goesChance 78 = .ok (.iload_n 2, 1) := by decide +kernel
theorem dX12_goesChance_79 : decode cX12_goesChance 79 = .ok (.dup2, 1) := by decide +kernel
theorem dX12_goesChance_80 : decode cX12_goesChance 80 = .ok (.iaload, 1) := by decide +kernel
theorem dX12_goesChance_81 : decode cX12_goesChance 81 = .ok (.iconst 1, 1) := by decide +kernel
theorem dX12_goesChance_82 : decode cX12_goesChance 82 = .ok (.isub, 1) := by decide +kernel
theorem dX12_goesChance_83 : decode cX12_goesChance 83 = .ok (.iastore, 1) := by decide +kernel
theorem dX12_goesChance_84 : decode cX12_goesChance 84 = .ok (.iinc 2 1, 3) := by decide +kernel
theorem dX12_goesChance_87 : decode cX12_goesChance 87 = .ok (.goto (-49), 3) := by decide +kernel
theorem dX12_goesChance_90 : decode cX12_goesChance 90 = .ok (.return_, 1) := by decide +kernel
theorem dX12_laysChance_0 : decode cX12_laysChance 0 = .ok (.iconst 0, 1) := by decide +kernel
theorem dX12_laysChance_1 : decode cX12_laysChance 1 = .ok (.istore_n 2, 1) := by decide +kernel
theorem dX12_laysChance_2 : decode cX12_laysChance 2 = .ok (.iload_n 2, 1) := by decide +kernel
theorem dX12_laysChance_3 : decode cX12_laysChance 3 = .ok (.bipush 6, 2) := by decide +kernel
theorem dX12_laysChance_5 : decode cX12_laysChance 5 = .ok (.if_icmp .ge 23, 3) := by decide +kernel
theorem dX12_laysChance_8 : decode cX12_laysChance 8 = .ok (.aload_n 0, 1) := by decide +kernel
theorem dX12_laysChance_9 : decode cX12_laysChance 9 = .ok (.getfield 60, 3) := by decide +kernel
theorem dX12_laysChance_12 : decode cX12_laysChance 12 = .ok (.iload_n 2, 1) := by decide +kernel
theorem dX12_laysChance_13 : decode cX12_laysChance 13 = .ok (.iconst 0, 1) := by decide +kernel
theorem dX12_laysChance_14 : decode cX12_laysChance 14 = .ok (.iastore, 1) := by decide +kernel
theorem dX12_laysChance_15 : decode cX12_laysChance 15 = .ok (.aload_n 0, 1) := by decide +kernel
theorem dX12_laysChance_16 : decode cX12_laysChance 16 = .ok (.getfield 48, 3) := by decide +kernel
theorem dX12_laysChance_19 : decode cX12_laysChance 19 = .ok (.iload_n 2, 1) := by decide +kernel
theorem dX12_laysChance_20 : decode cX12_laysChance 20 = .ok (.iconst 0, 1) := by decide +kernel
theorem dX12_laysChance_21 : decode cX12_laysChance 21 = .ok (.iastore, 1) := by decide +kernel
theorem dX12_laysChance_22 : decode cX12_laysChance 22 = .ok (.iinc 2 1, 3) := by decide +kernel
theorem dX12_laysChance_25 : decode cX12_laysChance 25 = .ok (.goto (-23), 3) := by decide +kernel
theorem dX12_laysChance_28 : decode cX12_laysChance 28 = .ok (.aload_n 0, 1) := by decide +kernel
theorem dX12_laysChance_29 : decode cX12_laysChance 29 = .ok (.invokevirtual 423, 3) := by decide +kernel
theorem dX12_laysChance_32 : decode cX12_laysChance 32 = .ok (.aload_n 0, 1) := by decide +kernel
theorem dX12_laysChance_33 : decode cX12_laysChance 33 = .ok (.iload_n 1, 1) := by decide +kernel
theorem dX12_laysChance_34 : decode cX12_laysChance 34 = .ok (.invokevirtual 517, 3) := by decide +kernel
theorem dX12_laysChance_37 : decode cX12_laysChance 37 = .ok (.return_, 1) := by decide +kernel
theorem dX12_common_0 : decode cX12_common 0 = .ok (.iload_n 0, 1) := by decide +kernel
theorem dX12_common_1 : decode cX12_common 1 = .ok (.istore_n 2, 1) := by decide +kernel
theorem dX12_common_2 : decode cX12_common 2 = .ok (.iload_n 1, 1) := by decide +kernel
theorem dX12_common_3 : decode cX12_common 3 = .ok (.istore_n 3, 1) := by decide +kernel
theorem dX12_common_4 : decode cX12_common 4 = .ok (.iload_n 3, 1) := by decide +kernel
theorem dX12_common_5 : decode cX12_common 5 = .ok (.ifCond .eq 16, 3) := by decide +kernel
theorem dX12_common_8 : decode cX12_common 8 = .ok (.iload_n 2, 1) := by decide +kernel
theorem dX12_common_9 : decode cX12_common 9 = .ok (.iload_n 3, 1) := by decide +kernel
theorem dX12_common_10 : decode cX12_common 10 = .ok (.irem, 1) := by decide +kernel
theorem dX12_common_11 : decode cX12_common 11 = .ok (.istore 4, 2) := by decide +kernel
theorem dX12_common_13 : decode cX12_common 13 = .ok (.iload_n 3, 1) := by decide +kernel
theorem dX12_common_14 : decode cX12_common 14 = .ok (.istore_n 2, 1) := by decide +kernel
theorem dX12_common_15 : decode cX12_common 15 = .ok (.iload 4, 2) := by decide +kernel
theorem dX12_common_17 : decode cX12_common 17 = .ok (.istore_n 3, 1) := by decide +kernel
theorem dX12_common_18 : decode cX12_common 18 = .ok (.goto (-14), 3) := by decide +kernel
theorem dX12_common_21 : decode cX12_common 21 = .ok (.iload_n 2, 1) := by decide +kernel
theorem dX12_common_22 : decode cX12_common 22 = .ok (.ireturn, 1) := by decide +kernel
theorem dX12_chance_0 : decode cX12_chance 0 = .ok (.aload_n 0, 1) := by decide +kernel
theorem dX12_chance_1 : decode cX12_chance 1 = .ok (.aload_n 0, 1) := by decide +kernel
theorem dX12_chance_2 : decode cX12_chance 2 = .ok (.iload_n 1, 1) := by decide +kernel
theorem dX12_chance_3 : decode cX12_chance 3 = .ok (.i2l, 1) := by decide +kernel
theorem dX12_chance_4 : decode cX12_chance 4 = .ok (.invokevirtual 319, 3) := by decide +kernel
theorem dX12_chance_7 : decode cX12_chance 7 = .ok (.ifCond .ne 7, 3) := by decide +kernel
theorem dX12_chance_10 : decode cX12_chance 10 = .ok (.iconst 1, 1) := by decide +kernel
theorem dX12_chance_11 : decode cX12_chance 11 = .ok (.goto 30, 3) := by decide +kernel
theorem dX12_chance_14 : decode cX12_chance 14 = .ok (.iload_n 2, 1) := by decide +kernel
theorem dX12_chance_15 : decode cX12_chance 15 = .ok (.i2l, 1) := by decide +kernel
theorem dX12_chance_16 : decode cX12_chance 16 = .ok (.lconst 0, 1) := by decide +kernel
theorem dX12_chance_17 : decode cX12_chance 17 = .ok (.ldc2_w 520, 3) := by decide +kernel
theorem dX12_chance_20 : decode cX12_chance 20 = .ok (.invokestatic 147, 3) := by decide +kernel
theorem dX12_chance_23 : decode cX12_chance 23 = .ok (.ifCond .eq 17, 3) := by decide +kernel
theorem dX12_chance_26 : decode cX12_chance 26 = .ok (.iload_n 3, 1) := by decide +kernel
theorem dX12_chance_27 : decode cX12_chance 27 = .ok (.i2l, 1) := by decide +kernel
theorem dX12_chance_28 : decode cX12_chance 28 = .ok (.lconst 0, 1) := by decide +kernel
theorem dX12_chance_29 : decode cX12_chance 29 = .ok (.lconst 1, 1) := by decide +kernel
theorem dX12_chance_30 : decode cX12_chance 30 = .ok (.invokestatic 147, 3) := by decide +kernel
theorem dX12_chance_33 : decode cX12_chance 33 = .ok (.ifCond .eq 7, 3) := by decide +kernel
theorem dX12_chance_36 : decode cX12_chance 36 = .ok (.iconst 0, 1) := by decide +kernel
theorem dX12_chance_37 : decode cX12_chance 37 = .ok (.goto 4, 3) := by decide +kernel
theorem dX12_chance_40 : decode cX12_chance 40 = .ok (.iconst 2, 1) := by decide +kernel
theorem dX12_chance_41 : decode cX12_chance 41 = .ok (.putfield 86, 3) := by decide +kernel
theorem dX12_chance_44 : decode cX12_chance 44 = .ok (.aload_n 0, 1) := by decide +kernel
theorem dX12_chance_45 : decode cX12_chance 45 = .ok (.getfield 86, 3) := by decide +kernel
theorem dX12_chance_48 : decode cX12_chance 48 = .ok (.ifCond .le 5, 3) := by decide +kernel
theorem dX12_chance_51 : decode cX12_chance 51 = .ok (.iconst 0, 1) := by decide +kernel
theorem dX12_chance_52 : decode cX12_chance 52 = .ok (.ireturn, 1) := by decide +kernel
theorem dX12_chance_53 : decode cX12_chance 53 = .ok (.aload_n 0, 1) := by decide +kernel
theorem dX12_chance_54 : decode cX12_chance 54 = .ok (.iload_n 2, 1) := by decide +kernel
theorem dX12_chance_55 : decode cX12_chance 55 = .ok (.invokevirtual 522, 3) := by decide +kernel
theorem dX12_chance_58 : decode cX12_chance 58 = .ok (.iconst 1, 1) := by decide +kernel
theorem dX12_chance_59 : decode cX12_chance 59 = .ok (.istore 4, 2) := by decide +kernel
theorem dX12_chance_61 : decode cX12_chance 61 = .ok (.iconst 0, 1) := by decide +kernel
theorem dX12_chance_62 : decode cX12_chance 62 = .ok (.istore 5, 2) := by decide +kernel
theorem dX12_chance_64 : decode cX12_chance 64 = .ok (.iload 5, 2) := by decide +kernel
theorem dX12_chance_66 : decode cX12_chance 66 = .ok (.iload_n 2, 1) := by decide +kernel
theorem dX12_chance_67 : decode cX12_chance 67 = .ok (.if_icmp .ge 25, 3) := by decide +kernel
theorem dX12_chance_70 : decode cX12_chance 70 = .ok (.aload_n 0, 1) := by decide +kernel
theorem dX12_chance_71 : decode cX12_chance 71 = .ok (.invokevirtual 514, 3) := by decide +kernel
theorem dX12_chance_74 : decode cX12_chance 74 = .ok (.ifCond .le 18, 3) := by decide +kernel
theorem dX12_chance_77 : decode cX12_chance 77 = .ok (.iload 4, 2) := by decide +kernel
theorem dX12_chance_79 : decode cX12_chance 79 = .ok (.aload_n 0, 1) := by decide +kernel
theorem dX12_chance_80 : decode cX12_chance 80 = .ok (.invokevirtual 514, 3) := by decide +kernel
theorem dX12_chance_83 : decode cX12_chance 83 = .ok (.imul, 1) := by decide +kernel
theorem dX12_chance_84 : decode cX12_chance 84 = .ok (.istore 4, 2) := by decide +kernel
theorem dX12_chance_86 : decode cX12_chance 86 = .ok (.iinc 5 1, 3) := by decide +kernel
theorem dX12_chance_89 : decode cX12_chance 89 = .ok (.goto (-25), 3) := by decide +kernel
theorem dX12_chance_92 : decode cX12_chance 92 = .ok (.iload 4, 2) := by decide +kernel
theorem dX12_chance_94 : decode cX12_chance 94 = .ok (.aload_n 0, 1) := by decide +kernel
theorem dX12_chance_95 : decode cX12_chance 95 = .ok (.getfield 60, 3) := by decide +kernel
theorem dX12_chance_98 : decode cX12_chance 98 = .ok (.iload_n 1, 1) := by decide +kernel
theorem dX12_chance_99 : decode cX12_chance 99 = .ok (.iaload, 1) := by decide +kernel
theorem dX12_chance_100 : decode cX12_chance 100 = .ok (.invokestatic 525, 3) := by decide +kernel
theorem dX12_chance_103 : decode cX12_chance 103 = .ok (.istore 5, 2) := by decide +kernel
theorem dX12_chance_105 : decode cX12_chance 105 = .ok (.iload_n 3, 1) := by decide +kernel
theorem dX12_chance_106 : decode cX12_chance 106 = .ok (.ifCond .ne 15, 3) := by decide +kernel
theorem dX12_chance_109 : decode cX12_chance 109 = .ok (.aload_n 0, 1) := by decide +kernel
theorem dX12_chance_110 : decode cX12_chance 110 = .ok (.getfield 60, 3) := by decide +kernel
theorem dX12_chance_113 : decode cX12_chance 113 = .ok (.iload_n 1, 1) := by decide +kernel
theorem dX12_chance_114 : decode cX12_chance 114 = .ok (.iaload, 1) := by decide +kernel
theorem dX12_chance_115 : decode cX12_chance 115 = .ok (.iload 5, 2) := by decide +kernel
theorem dX12_chance_117 : decode cX12_chance 117 = .ok (.idiv, 1) := by decide +kernel
theorem dX12_chance_118 : decode cX12_chance 118 = .ok (.goto 8, 3) := by decide +kernel
theorem dX12_chance_121 : decode cX12_chance 121 = .ok (.iload 4, 2) := by decide +kernel
theorem dX12_chance_123 : decode cX12_chance 123 = .ok (.iload 5, 2) := by decide +kernel
theorem dX12_chance_125 : decode cX12_chance 125 = .ok (.idiv, 1) := by decide +kernel
theorem dX12_chance_126 : decode cX12_chance 126 = .ok (.ireturn, 1) := by decide +kernel
theorem dX12_likeliest_0 : decode cX12_likeliest 0 = .ok (.aload_n 0, 1) := by decide +kernel
theorem dX12_likeliest_1 : decode cX12_likeliest 1 = .ok (.iconst 0, 1) := by decide +kernel
theorem dX12_likeliest_2 : decode cX12_likeliest 2 = .ok (.putfield 86, 3) := by decide +kernel
theorem dX12_likeliest_5 : decode cX12_likeliest 5 = .ok (.iload_n 1, 1) := by decide +kernel
theorem dX12_likeliest_6 : decode cX12_likeliest 6 = .ok (.i2l, 1) := by decide +kernel
theorem dX12_likeliest_7 : decode cX12_likeliest 7 = .ok (.lconst 0, 1) := by decide +kernel
theorem dX12_likeliest_8 : decode cX12_likeliest 8 = .ok (.ldc2_w 520, 3) := by decide +kernel
theorem dX12_likeliest_11 : decode cX12_likeliest 11 = .ok (.invokestatic 147, 3) := by decide +kernel
theorem dX12_likeliest_14 : decode cX12_likeliest 14 = .ok (.ifCond .ne 9, 3) := by decide +kernel
theorem dX12_likeliest_17 : decode cX12_likeliest 17 = .ok (.aload_n 0, 1) := by decide +kernel
theorem dX12_likeliest_18 : decode cX12_likeliest 18 = .ok (.iconst 1, 1) := by decide +kernel
theorem dX12_likeliest_19 : decode cX12_likeliest 19 = .ok (.invokevirtual 239, 3) := by decide +kernel
theorem dX12_likeliest_22 : decode cX12_likeliest 22 = .ok (.ireturn, 1) := by decide +kernel
theorem dX12_likeliest_23 : decode cX12_likeliest 23 = .ok (.aload_n 0, 1) := by decide +kernel
theorem dX12_likeliest_24 : decode cX12_likeliest 24 = .ok (.iload_n 1, 1) := by decide +kernel
theorem dX12_likeliest_25 : decode cX12_likeliest 25 = .ok (.invokevirtual 522, 3) := by decide +kernel
theorem dX12_likeliest_28 : decode cX12_likeliest 28 = .ok (.iconst (-1), 1) := by decide +kernel
theorem dX12_likeliest_29 : decode cX12_likeliest 29 = .ok (.istore_n 2, 1) := by decide +kernel
theorem dX12_likeliest_30 : decode cX12_likeliest 30 = .ok (.iconst 0, 1) := by decide +kernel
theorem dX12_likeliest_31 : decode cX12_likeliest 31 = .ok (.istore_n 3, 1) := by decide +kernel
theorem dX12_likeliest_32 : decode cX12_likeliest 32 = .ok (.iload_n 3, 1) := by decide +kernel
theorem dX12_likeliest_33 : decode cX12_likeliest 33 = .ok (.aload_n 0, 1) := by decide +kernel
theorem dX12_likeliest_34 : decode cX12_likeliest 34 = .ok (.invokevirtual 254, 3) := by decide +kernel
theorem dX12_likeliest_37 : decode cX12_likeliest 37 = .ok (.if_icmp .ge 35, 3) := by decide +kernel
theorem dX12_likeliest_40 : decode cX12_likeliest 40 = .ok (.aload_n 0, 1) := by decide +kernel
theorem dX12_likeliest_41 : decode cX12_likeliest 41 = .ok (.getfield 60, 3) := by decide +kernel
theorem dX12_likeliest_44 : decode cX12_likeliest 44 = .ok (.iload_n 3, 1) := by decide +kernel
theorem dX12_likeliest_45 : decode cX12_likeliest 45 = .ok (.iaload, 1) := by decide +kernel
theorem dX12_likeliest_46 : decode cX12_likeliest 46 = .ok (.iload_n 2, 1) := by decide +kernel
theorem dX12_likeliest_47 : decode cX12_likeliest 47 = .ok (.iconst (-1), 1) := by decide +kernel
theorem dX12_likeliest_48 : decode cX12_likeliest 48 = .ok (.if_icmp .ne 7, 3) := by decide +kernel
theorem dX12_likeliest_51 : decode cX12_likeliest 51 = .ok (.iconst 0, 1) := by decide +kernel
theorem dX12_likeliest_52 : decode cX12_likeliest 52 = .ok (.goto 9, 3) := by decide +kernel
theorem dX12_likeliest_55 : decode cX12_likeliest 55 = .ok (.aload_n 0, 1) := by decide +kernel
theorem dX12_likeliest_56 : decode cX12_likeliest 56 = .ok (.getfield 60, 3) := by decide +kernel
theorem dX12_likeliest_59 : decode cX12_likeliest 59 = .ok (.iload_n 2, 1) := by decide +kernel
theorem dX12_likeliest_60 : decode cX12_likeliest 60 = .ok (.iaload, 1) := by decide +kernel
theorem dX12_likeliest_61 : decode cX12_likeliest 61 = .ok (.if_icmp .le 5, 3) := by decide +kernel
theorem dX12_likeliest_64 : decode cX12_likeliest 64 = .ok (.iload_n 3, 1) := by decide +kernel
theorem dX12_likeliest_65 : decode cX12_likeliest 65 = .ok (.istore_n 2, 1) := by decide +kernel
theorem dX12_likeliest_66 : decode cX12_likeliest 66 = .ok (.iinc 3 1, 3) := by decide +kernel
theorem dX12_likeliest_69 : decode cX12_likeliest 69 = .ok (.goto (-37), 3) := by decide +kernel
theorem dX12_likeliest_72 : decode cX12_likeliest 72 = .ok (.iload_n 2, 1) := by decide +kernel
theorem dX12_likeliest_73 : decode cX12_likeliest 73 = .ok (.ireturn, 1) := by decide +kernel
theorem dX12_isTray_0 : decode cX12_isTray 0 = .ok (.iload_n 0, 1) := by decide +kernel
theorem dX12_isTray_1 : decode cX12_isTray 1 = .ok (.i2l, 1) := by decide +kernel
theorem dX12_isTray_2 : decode cX12_isTray 2 = .ok (.lconst 0, 1) := by decide +kernel
theorem dX12_isTray_3 : decode cX12_isTray 3 = .ok (.ldc2_w 372, 3) := by decide +kernel
theorem dX12_isTray_6 : decode cX12_isTray 6 = .ok (.invokestatic 147, 3) := by decide +kernel
theorem dX12_isTray_9 : decode cX12_isTray 9 = .ok (.ireturn, 1) := by decide +kernel
theorem dX12_tray_0 : decode cX12_tray 0 = .ok (.aload_n 0, 1) := by decide +kernel
theorem dX12_tray_1 : decode cX12_tray 1 = .ok (.iload_n 1, 1) := by decide +kernel
theorem dX12_tray_2 : decode cX12_tray 2 = .ok (.invokestatic 356, 3) := by decide +kernel
theorem dX12_tray_5 : decode cX12_tray 5 = .ok (.ifCond .ne 7, 3) := by decide +kernel
theorem dX12_tray_8 : decode cX12_tray 8 = .ok (.iconst 1, 1) := by decide +kernel
theorem dX12_tray_9 : decode cX12_tray 9 = .ok (.goto 32, 3) := by decide +kernel
theorem dX12_tray_12 : decode cX12_tray 12 = .ok (.iload_n 2, 1) := by decide +kernel
theorem dX12_tray_13 : decode cX12_tray 13 = .ok (.i2l, 1) := by decide +kernel
theorem dX12_tray_14 : decode cX12_tray 14 = .ok (.lconst 0, 1) := by decide +kernel
theorem dX12_tray_15 : decode cX12_tray 15 = .ok (.ldc2_w 372, 3) := by decide +kernel
theorem dX12_tray_18 : decode cX12_tray 18 = .ok (.invokestatic 147, 3) := by decide +kernel
theorem dX12_tray_21 : decode cX12_tray 21 = .ok (.ifCond .eq 15, 3) := by decide +kernel
theorem dX12_tray_24 : decode cX12_tray 24 = .ok (.iload_n 3, 1) := by decide +kernel
theorem dX12_tray_25 : decode cX12_tray 25 = .ok (.i2l, 1) := by decide +kernel
theorem dX12_tray_26 : decode cX12_tray 26 = .ok (.lconst 0, 1) := by decide +kernel
theorem dX12_tray_27 : decode cX12_tray 27 = .ok (.ldc2_w 390, 3) := by decide +kernel
theorem dX12_tray_30 : decode cX12_tray 30 = .ok (.invokestatic 147, 3) := by decide +kernel
theorem dX12_tray_33 : decode cX12_tray 33 = .ok (.ifCond .ne 7, 3) := by decide +kernel
theorem dX12_tray_36 : decode cX12_tray 36 = .ok (.iconst 2, 1) := by decide +kernel
theorem dX12_tray_37 : decode cX12_tray 37 = .ok (.goto 4, 3) := by decide +kernel
theorem dX12_tray_40 : decode cX12_tray 40 = .ok (.iconst 0, 1) := by decide +kernel
theorem dX12_tray_41 : decode cX12_tray 41 = .ok (.putfield 86, 3) := by decide +kernel
theorem dX12_tray_44 : decode cX12_tray 44 = .ok (.aload_n 0, 1) := by decide +kernel
theorem dX12_tray_45 : decode cX12_tray 45 = .ok (.getfield 86, 3) := by decide +kernel
theorem dX12_tray_48 : decode cX12_tray 48 = .ok (.ifCond .le 4, 3) := by decide +kernel
theorem dX12_tray_51 : decode cX12_tray 51 = .ok (.return_, 1) := by decide +kernel
theorem dX12_tray_52 : decode cX12_tray 52 = .ok (.aload_n 0, 1) := by decide +kernel
theorem dX12_tray_53 : decode cX12_tray 53 = .ok (.getfield 76, 3) := by decide +kernel
theorem dX12_tray_56 : decode cX12_tray 56 = .ok (.iload_n 1, 1) := by decide +kernel
theorem dX12_tray_57 : decode cX12_tray 57 = .ok (.iload_n 2, 1) := by decide +kernel
theorem dX12_tray_58 : decode cX12_tray 58 = .ok (.iastore, 1) := by decide +kernel
theorem dX12_tray_59 : decode cX12_tray 59 = .ok (.aload_n 0, 1) := by decide +kernel
theorem dX12_tray_60 : decode cX12_tray 60 = .ok (.getfield 79, 3) := by decide +kernel
theorem dX12_tray_63 : decode cX12_tray 63 = .ok (.iload_n 1, 1) := by decide +kernel
theorem dX12_tray_64 : decode cX12_tray 64 = .ok (.iload_n 3, 1) := by decide +kernel
theorem dX12_tray_65 : decode cX12_tray 65 = .ok (.iastore, 1) := by decide +kernel
theorem dX12_tray_66 : decode cX12_tray 66 = .ok (.iconst 0, 1) := by decide +kernel
theorem dX12_tray_67 : decode cX12_tray 67 = .ok (.istore 4, 2) := by decide +kernel
theorem dX12_tray_69 : decode cX12_tray 69 = .ok (.iload 4, 2) := by decide +kernel
theorem dX12_tray_71 : decode cX12_tray 71 = .ok (.bipush 30, 2) := by decide +kernel
theorem dX12_tray_73 : decode cX12_tray 73 = .ok (.if_icmp .ge 22, 3) := by decide +kernel
theorem dX12_tray_76 : decode cX12_tray 76 = .ok (.aload_n 0, 1) := by decide +kernel
theorem dX12_tray_77 : decode cX12_tray 77 = .ok (.getfield 82, 3) := by decide +kernel
theorem dX12_tray_80 : decode cX12_tray 80 = .ok (.bipush 30, 2) := by decide +kernel
theorem dX12_tray_82 : decode cX12_tray 82 = .ok (.iload_n 1, 1) := by decide +kernel
theorem dX12_tray_83 : decode cX12_tray 83 = .ok (.imul, 1) := by decide +kernel
theorem dX12_tray_84 : decode cX12_tray 84 = .ok (.iload 4, 2) := by decide +kernel
theorem dX12_tray_86 : decode cX12_tray 86 = .ok (.iadd, 1) := by decide +kernel
theorem dX12_tray_87 : decode cX12_tray 87 = .ok (.lconst 0, 1) := by decide +kernel
theorem dX12_tray_88 : decode cX12_tray 88 = .ok (.lastore, 1) := by decide +kernel
theorem dX12_tray_89 : decode cX12_tray 89 = .ok (.iinc 4 1, 3) := by decide +kernel
theorem dX12_tray_92 : decode cX12_tray 92 = .ok (.goto (-23), 3) := by decide +kernel
theorem dX12_tray_95 : decode cX12_tray 95 = .ok (.return_, 1) := by decide +kernel
theorem dX12_cut_0 : decode cX12_cut 0 = .ok (.bipush 64, 2) := by decide +kernel
theorem dX12_cut_2 : decode cX12_cut 2 = .ok (.bipush 8, 2) := by decide +kernel
theorem dX12_cut_4 : decode cX12_cut 4 = .ok (.aload_n 0, 1) := by decide +kernel
theorem dX12_cut_5 : decode cX12_cut 5 = .ok (.getfield 76, 3) := by decide +kernel
theorem dX12_cut_8 : decode cX12_cut 8 = .ok (.iload_n 1, 1) := by decide +kernel
theorem dX12_cut_9 : decode cX12_cut 9 = .ok (.iaload, 1) := by decide +kernel
theorem dX12_cut_10 : decode cX12_cut 10 = .ok (.ishl, 1) := by decide +kernel
theorem dX12_cut_11 : decode cX12_cut 11 = .ok (.isub, 1) := by decide +kernel
theorem dX12_cut_12 : decode cX12_cut 12 = .ok (.istore 5, 2) := by decide +kernel
theorem dX12_cut_14 : decode cX12_cut 14 = .ok (.aload_n 0, 1) := by decide +kernel
theorem dX12_cut_15 : decode cX12_cut 15 = .ok (.getfield 82, 3) := by decide +kernel
theorem dX12_cut_18 : decode cX12_cut 18 = .ok (.bipush 30, 2) := by decide +kernel
theorem dX12_cut_20 : decode cX12_cut 20 = .ok (.iload_n 1, 1) := by decide +kernel
theorem dX12_cut_21 : decode cX12_cut 21 = .ok (.imul, 1) := by decide +kernel
theorem dX12_cut_22 : decode cX12_cut 22 = .ok (.iload_n 2, 1) := by decide +kernel
theorem dX12_cut_23 : decode cX12_cut 23 = .ok (.iadd, 1) := by decide +kernel
theorem dX12_cut_24 : decode cX12_cut 24 = .ok (.lload_n 3, 1) := by decide +kernel
theorem dX12_cut_25 : decode cX12_cut 25 = .ok (.iload 5, 2) := by decide +kernel
theorem dX12_cut_27 : decode cX12_cut 27 = .ok (.lshl, 1) := by decide +kernel
theorem dX12_cut_28 : decode cX12_cut 28 = .ok (.iload 5, 2) := by decide +kernel
theorem dX12_cut_30 : decode cX12_cut 30 = .ok (.lshr, 1) := by decide +kernel
theorem dX12_cut_31 : decode cX12_cut 31 = .ok (.lastore, 1) := by decide +kernel
theorem dX12_cut_32 : decode cX12_cut 32 = .ok (.aload_n 0, 1) := by decide +kernel
theorem dX12_cut_33 : decode cX12_cut 33 = .ok (.getfield 82, 3) := by decide +kernel
theorem dX12_cut_36 : decode cX12_cut 36 = .ok (.bipush 30, 2) := by decide +kernel
theorem dX12_cut_38 : decode cX12_cut 38 = .ok (.iload_n 1, 1) := by decide +kernel
theorem dX12_cut_39 : decode cX12_cut 39 = .ok (.imul, 1) := by decide +kernel
theorem dX12_cut_40 : decode cX12_cut 40 = .ok (.iload_n 2, 1) := by decide +kernel
theorem dX12_cut_41 : decode cX12_cut 41 = .ok (.iadd, 1) := by decide +kernel
theorem dX12_cut_42 : decode cX12_cut 42 = .ok (.laload, 1) := by decide +kernel
theorem dX12_cut_43 : decode cX12_cut 43 = .ok (.lreturn, 1) := by decide +kernel
theorem dX12_write_0 : decode cX12_write 0 = .ok (.aload_n 0, 1) := by decide +kernel
theorem dX12_write_1 : decode cX12_write 1 = .ok (.aload_n 0, 1) := by decide +kernel
theorem dX12_write_2 : decode cX12_write 2 = .ok (.iload_n 1, 1) := by decide +kernel
theorem dX12_write_3 : decode cX12_write 3 = .ok (.invokevirtual 369, 3) := by decide +kernel
theorem dX12_write_6 : decode cX12_write 6 = .ok (.putfield 86, 3) := by decide +kernel
theorem dX12_write_9 : decode cX12_write 9 = .ok (.aload_n 0, 1) := by decide +kernel
theorem dX12_write_10 : decode cX12_write 10 = .ok (.getfield 86, 3) := by decide +kernel
theorem dX12_write_13 : decode cX12_write 13 = .ok (.ifCond .le 5, 3) := by decide +kernel
theorem dX12_write_16 : decode cX12_write 16 = .ok (.lconst 0, 1) := by decide +kernel
theorem dX12_write_17 : decode cX12_write 17 = .ok (.lreturn, 1) := by decide +kernel
theorem dX12_write_18 : decode cX12_write 18 = .ok (.iload_n 2, 1) := by decide +kernel
theorem dX12_write_19 : decode cX12_write 19 = .ok (.i2l, 1) := by decide +kernel
theorem dX12_write_20 : decode cX12_write 20 = .ok (.lconst 0, 1) := by decide +kernel
theorem dX12_write_21 : decode cX12_write 21 = .ok (.aload_n 0, 1) := by decide +kernel
theorem dX12_write_22 : decode cX12_write 22 = .ok (.getfield 79, 3) := by decide +kernel
theorem dX12_write_25 : decode cX12_write 25 = .ok (.iload_n 1, 1) := by decide +kernel
theorem dX12_write_26 : decode cX12_write 26 = .ok (.iaload, 1) := by decide +kernel
theorem dX12_write_27 : decode cX12_write 27 = .ok (.iconst 1, 1) := by decide +kernel
theorem dX12_write_28 : decode cX12_write 28 = .ok (.isub, 1) := by decide +kernel
theorem dX12_write_29 : decode cX12_write 29 = .ok (.i2l, 1) := by decide +kernel
theorem dX12_write_30 : decode cX12_write 30 = .ok (.invokestatic 147, 3) := by decide +kernel
theorem dX12_write_33 : decode cX12_write 33 = .ok (.ifCond .eq 13, 3) := by decide +kernel
theorem dX12_write_36 : decode cX12_write 36 = .ok (.aload_n 0, 1) := by decide +kernel
theorem dX12_write_37 : decode cX12_write 37 = .ok (.iload_n 1, 1) := by decide +kernel
theorem dX12_write_38 : decode cX12_write 38 = .ok (.iload_n 2, 1) := by decide +kernel
theorem dX12_write_39 : decode cX12_write 39 = .ok (.lload_n 3, 1) := by decide +kernel
theorem dX12_write_40 : decode cX12_write 40 = .ok (.invokevirtual 528, 3) := by decide +kernel
theorem dX12_write_43 : decode cX12_write 43 = .ok (.goto 9, 3) := by decide +kernel
theorem dX12_write_46 : decode cX12_write 46 = .ok (.aload_n 0, 1) := by decide +kernel
theorem dX12_write_47 : decode cX12_write 47 = .ok (.iconst 3, 1) := by decide +kernel
theorem dX12_write_48 : decode cX12_write 48 = .ok (.invokevirtual 239, 3) := by decide +kernel
theorem dX12_write_51 : decode cX12_write 51 = .ok (.i2l, 1) := by decide +kernel
theorem dX12_write_52 : decode cX12_write 52 = .ok (.lreturn, 1) := by decide +kernel
theorem dX12_copy_0 : decode cX12_copy 0 = .ok (.aload_n 0, 1) := by decide +kernel
theorem dX12_copy_1 : decode cX12_copy 1 = .ok (.aload_n 0, 1) := by decide +kernel
theorem dX12_copy_2 : decode cX12_copy 2 = .ok (.iload_n 1, 1) := by decide +kernel
theorem dX12_copy_3 : decode cX12_copy 3 = .ok (.invokevirtual 369, 3) := by decide +kernel
theorem dX12_copy_6 : decode cX12_copy 6 = .ok (.putfield 86, 3) := by decide +kernel
theorem dX12_copy_9 : decode cX12_copy 9 = .ok (.aload_n 0, 1) := by decide +kernel
theorem dX12_copy_10 : decode cX12_copy 10 = .ok (.getfield 86, 3) := by decide +kernel
theorem dX12_copy_13 : decode cX12_copy 13 = .ok (.ifCond .ne 15, 3) := by decide +kernel
theorem dX12_copy_16 : decode cX12_copy 16 = .ok (.iload_n 2, 1) := by decide +kernel
theorem dX12_copy_17 : decode cX12_copy 17 = .ok (.invokestatic 497, 3) := by decide +kernel
theorem dX12_copy_20 : decode cX12_copy 20 = .ok (.ifCond .ne 8, 3) := by decide +kernel
theorem dX12_copy_23 : decode cX12_copy 23 = .ok (.aload_n 0, 1) := by decide +kernel
theorem dX12_copy_24 : decode cX12_copy 24 = .ok (.iconst 3, 1) := by decide +kernel
theorem dX12_copy_25 : decode cX12_copy 25 = .ok (.putfield 86, 3) := by decide +kernel
theorem dX12_copy_28 : decode cX12_copy 28 = .ok (.aload_n 0, 1) := by decide +kernel
theorem dX12_copy_29 : decode cX12_copy 29 = .ok (.getfield 86, 3) := by decide +kernel
theorem dX12_copy_32 : decode cX12_copy 32 = .ok (.ifCond .le 5, 3) := by decide +kernel
theorem dX12_copy_35 : decode cX12_copy 35 = .ok (.iconst 0, 1) := by decide +kernel
theorem dX12_copy_36 : decode cX12_copy 36 = .ok (.ireturn, 1) := by decide +kernel
theorem dX12_copy_37 : decode cX12_copy 37 = .ok (.aload_n 0, 1) := by decide +kernel
theorem dX12_copy_38 : decode cX12_copy 38 = .ok (.iload_n 2, 1) := by decide +kernel
theorem dX12_copy_39 : decode cX12_copy 39 = .ok (.invokevirtual 500, 3) := by decide +kernel
theorem dX12_copy_42 : decode cX12_copy 42 = .ok (.aload_n 0, 1) := by decide +kernel
theorem dX12_copy_43 : decode cX12_copy 43 = .ok (.getfield 79, 3) := by decide +kernel
theorem dX12_copy_46 : decode cX12_copy 46 = .ok (.iload_n 1, 1) := by decide +kernel
theorem dX12_copy_47 : decode cX12_copy 47 = .ok (.iaload, 1) := by decide +kernel
theorem dX12_copy_48 : decode cX12_copy 48 = .ok (.aload_n 0, 1) := by decide +kernel
theorem dX12_copy_49 : decode cX12_copy 49 = .ok (.invokevirtual 254, 3) := by decide +kernel
theorem dX12_copy_52 : decode cX12_copy 52 = .ok (.invokestatic 285, 3) := by decide +kernel
theorem dX12_copy_55 : decode cX12_copy 55 = .ok (.istore_n 3, 1) := by decide +kernel
theorem dX12_copy_56 : decode cX12_copy 56 = .ok (.iconst 0, 1) := by decide +kernel
theorem dX12_copy_57 : decode cX12_copy 57 = .ok (.istore 4, 2) := by decide +kernel
theorem dX12_copy_59 : decode cX12_copy 59 = .ok (.iload 4, 2) := by decide +kernel
theorem dX12_copy_61 : decode cX12_copy 61 = .ok (.iload_n 3, 1) := by decide +kernel
theorem dX12_copy_62 : decode cX12_copy 62 = .ok (.if_icmp .ge 25, 3) := by decide +kernel
theorem dX12_copy_65 : decode cX12_copy 65 = .ok (.aload_n 0, 1) := by decide +kernel
theorem dX12_copy_66 : decode cX12_copy 66 = .ok (.iload_n 1, 1) := by decide +kernel
theorem dX12_copy_67 : decode cX12_copy 67 = .ok (.iload 4, 2) := by decide +kernel
theorem dX12_copy_69 : decode cX12_copy 69 = .ok (.aload_n 0, 1) := by decide +kernel
theorem dX12_copy_70 : decode cX12_copy 70 = .ok (.getfield 36, 3) := by decide +kernel
theorem dX12_copy_73 : decode cX12_copy 73 = .ok (.iload 4, 2) := by decide +kernel
theorem dX12_copy_75 : decode cX12_copy 75 = .ok (.iaload, 1) := by decide +kernel
theorem dX12_copy_76 : decode cX12_copy 76 = .ok (.i2l, 1) := by decide +kernel
theorem dX12_copy_77 : decode cX12_copy 77 = .ok (.invokevirtual 528, 3) := by decide +kernel
theorem dX12_copy_80 : decode cX12_copy 80 = .ok (.pop2, 1) := by decide +kernel
theorem dX12_copy_81 : decode cX12_copy 81 = .ok (.iinc 4 1, 3) := by decide +kernel
theorem dX12_copy_84 : decode cX12_copy 84 = .ok (.goto (-25), 3) := by decide +kernel
theorem dX12_copy_87 : decode cX12_copy 87 = .ok (.iload_n 3, 1) := by decide +kernel
theorem dX12_copy_88 : decode cX12_copy 88 = .ok (.ireturn, 1) := by decide +kernel
theorem dX12_image_0 : decode cX12_image 0 = .ok (.aload_n 0, 1) := by decide +kernel
theorem dX12_image_1 : decode cX12_image 1 = .ok (.iload_n 1, 1) := by decide +kernel
theorem dX12_image_2 : decode cX12_image 2 = .ok (.i2l, 1) := by decide +kernel
theorem dX12_image_3 : decode cX12_image 3 = .ok (.lconst 0, 1) := by decide +kernel
theorem dX12_image_4 : decode cX12_image 4 = .ok (.ldc2_w 532, 3) := by decide +kernel
theorem dX12_image_7 : decode cX12_image 7 = .ok (.invokestatic 147, 3) := by decide +kernel
theorem dX12_image_10 : decode cX12_image 10 = .ok (.ifCond .eq 7, 3) := by decide +kernel
theorem dX12_image_13 : decode cX12_image 13 = .ok (.iconst 0, 1) := by decide +kernel
theorem dX12_image_14 : decode cX12_image 14 = .ok (.goto 4, 3) := by decide +kernel
theorem dX12_image_17 : decode cX12_image 17 = .ok (.iconst 1, 1) := by decide +kernel
theorem dX12_image_18 : decode cX12_image 18 = .ok (.putfield 86, 3) := by decide +kernel
theorem dX12_image_21 : decode cX12_image 21 = .ok (.aload_n 0, 1) := by decide +kernel
theorem dX12_image_22 : decode cX12_image 22 = .ok (.getfield 86, 3) := by decide +kernel
theorem dX12_image_25 : decode cX12_image 25 = .ok (.ifCond .le 4, 3) := by decide +kernel
theorem dX12_image_28 : decode cX12_image 28 = .ok (.return_, 1) := by decide +kernel
theorem dX12_image_29 : decode cX12_image 29 = .ok (.aload_n 0, 1) := by decide +kernel
theorem dX12_image_30 : decode cX12_image 30 = .ok (.getfield 19, 3) := by decide +kernel
theorem dX12_image_33 : decode cX12_image 33 = .ok (.iload_n 1, 1) := by decide +kernel
theorem dX12_image_34 : decode cX12_image 34 = .ok (.iconst 1, 1) := by decide +kernel
theorem dX12_image_35 : decode cX12_image 35 = .ok (.bastore, 1) := by decide +kernel
theorem dX12_image_36 : decode cX12_image 36 = .ok (.iconst 0, 1) := by decide +kernel
theorem dX12_image_37 : decode cX12_image 37 = .ok (.istore_n 2, 1) := by decide +kernel
theorem dX12_image_38 : decode cX12_image 38 = .ok (.iload_n 2, 1) := by decide +kernel
theorem dX12_image_39 : decode cX12_image 39 = .ok (.sipush 2850, 3) := by decide +kernel
theorem dX12_image_42 : decode cX12_image 42 = .ok (.if_icmp .ge 27, 3) := by decide +kernel
theorem dX12_image_45 : decode cX12_image 45 = .ok (.aload_n 0, 1) := by decide +kernel
theorem dX12_image_46 : decode cX12_image 46 = .ok (.getfield 16, 3) := by decide +kernel
theorem dX12_image_49 : decode cX12_image 49 = .ok (.sipush 2850, 3) := by decide +kernel
theorem dX12_image_52 : decode cX12_image 52 = .ok (.iload_n 1, 1) := by decide +kernel
theorem dX12_image_53 : decode cX12_image 53 = .ok (.imul, 1) := by decide +kernel
theorem dX12_image_54 : decode cX12_image 54 = .ok (.iload_n 2, 1) := by decide +kernel
theorem dX12_image_55 : decode cX12_image 55 = .ok (.iadd, 1) := by decide +kernel
theorem dX12_image_56 : decode cX12_image 56 = .ok (.aload_n 0, 1) := by decide +kernel
theorem dX12_image_57 : decode cX12_image 57 = .ok (.getfield 9, 3) := by decide +kernel
theorem dX12_image_60 : decode cX12_image 60 = .ok (.iload_n 2, 1) := by decide +kernel
theorem dX12_image_61 : decode cX12_image 61 = .ok (.iaload, 1) := by decide +kernel
theorem dX12_image_62 : decode cX12_image 62 = .ok (.iastore, 1) := by decide +kernel
theorem dX12_image_63 : decode cX12_image 63 = .ok (.iinc 2 1, 3) := by decide +kernel
theorem dX12_image_66 : decode cX12_image 66 = .ok (.goto (-28), 3) := by decide +kernel
theorem dX12_image_69 : decode cX12_image 69 = .ok (.return_, 1) := by decide +kernel
theorem dX12_restore_0 : decode cX12_restore 0 = .ok (.aload_n 0, 1) := by decide +kernel
theorem dX12_restore_1 : decode cX12_restore 1 = .ok (.iload_n 1, 1) := by decide +kernel
theorem dX12_restore_2 : decode cX12_restore 2 = .ok (.i2l, 1) := by decide +kernel
theorem dX12_restore_3 : decode cX12_restore 3 = .ok (.lconst 0, 1) := by decide +kernel
theorem dX12_restore_4 : decode cX12_restore 4 = .ok (.ldc2_w 532, 3) := by decide +kernel
theorem dX12_restore_7 : decode cX12_restore 7 = .ok (.invokestatic 147, 3) := by decide +kernel
theorem dX12_restore_10 : decode cX12_restore 10 = .ok (.ifCond .ne 7, 3) := by decide +kernel
theorem dX12_restore_13 : decode cX12_restore 13 = .ok (.iconst 1, 1) := by decide +kernel
theorem dX12_restore_14 : decode cX12_restore 14 = .ok (.goto 17, 3) := by decide +kernel
theorem dX12_restore_17 : decode cX12_restore 17 = .ok (.aload_n 0, 1) := by decide +kernel
theorem dX12_restore_18 : decode cX12_restore 18 = .ok (.getfield 19, 3) := by decide +kernel
theorem dX12_restore_21 : decode cX12_restore 21 = .ok (.iload_n 1, 1) := by decide +kernel
theorem dX12_restore_22 : decode cX12_restore 22 = .ok (.baload, 1) := by decide +kernel
theorem dX12_restore_23 : decode cX12_restore 23 = .ok (.ifCond .ne 7, 3) := by decide +kernel
theorem dX12_restore_26 : decode cX12_restore 26 = .ok (.iconst 2, 1) := by decide +kernel
theorem dX12_restore_27 : decode cX12_restore 27 = .ok (.goto 4, 3) := by decide +kernel
theorem dX12_restore_30 : decode cX12_restore 30 = .ok (.iconst 0, 1) := by decide +kernel
theorem dX12_restore_31 : decode cX12_restore 31 = .ok (.putfield 86, 3) := by decide +kernel
theorem dX12_restore_34 : decode cX12_restore 34 = .ok (.aload_n 0, 1) := by decide +kernel
theorem dX12_restore_35 : decode cX12_restore 35 = .ok (.getfield 86, 3) := by decide +kernel
theorem dX12_restore_38 : decode cX12_restore 38 = .ok (.ifCond .le 4, 3) := by decide +kernel
theorem dX12_restore_41 : decode cX12_restore 41 = .ok (.return_, 1) := by decide +kernel
theorem dX12_restore_42 : decode cX12_restore 42 = .ok (.iconst 0, 1) := by decide +kernel
theorem dX12_restore_43 : decode cX12_restore 43 = .ok (.istore_n 2, 1) := by decide +kernel
theorem dX12_restore_44 : decode cX12_restore 44 = .ok (.iload_n 2, 1) := by decide +kernel
theorem dX12_restore_45 : decode cX12_restore 45 = .ok (.sipush 2850, 3) := by decide +kernel
theorem dX12_restore_48 : decode cX12_restore 48 = .ok (.if_icmp .ge 27, 3) := by decide +kernel
theorem dX12_restore_51 : decode cX12_restore 51 = .ok (.aload_n 0, 1) := by decide +kernel
theorem dX12_restore_52 : decode cX12_restore 52 = .ok (.getfield 9, 3) := by decide +kernel
theorem dX12_restore_55 : decode cX12_restore 55 = .ok (.iload_n 2, 1) := by decide +kernel
theorem dX12_restore_56 : decode cX12_restore 56 = .ok (.aload_n 0, 1) := by decide +kernel
theorem dX12_restore_57 : decode cX12_restore 57 = .ok (.getfield 16, 3) := by decide +kernel
theorem dX12_restore_60 : decode cX12_restore 60 = .ok (.sipush 2850, 3) := by decide +kernel
theorem dX12_restore_63 : decode cX12_restore 63 = .ok (.iload_n 1, 1) := by decide +kernel
theorem dX12_restore_64 : decode cX12_restore 64 = .ok (.imul, 1) := by decide +kernel
theorem dX12_restore_65 : decode cX12_restore 65 = .ok (.iload_n 2, 1) := by decide +kernel
theorem dX12_restore_66 : decode cX12_restore 66 = .ok (.iadd, 1) := by decide +kernel
theorem dX12_restore_67 : decode cX12_restore 67 = .ok (.iaload, 1) := by decide +kernel
theorem dX12_restore_68 : decode cX12_restore 68 = .ok (.iastore, 1) := by decide +kernel
theorem dX12_restore_69 : decode cX12_restore 69 = .ok (.iinc 2 1, 3) := by decide +kernel
theorem dX12_restore_72 : decode cX12_restore 72 = .ok (.goto (-28), 3) := by decide +kernel
theorem dX12_restore_75 : decode cX12_restore 75 = .ok (.return_, 1) := by decide +kernel
theorem dX12_outs_0 : decode cX12_outs 0 = .ok (.iconst 0, 1) := by decide +kernel
theorem dX12_outs_1 : decode cX12_outs 1 = .ok (.istore_n 1, 1) := by decide +kernel
theorem dX12_outs_2 : decode cX12_outs 2 = .ok (.iconst 0, 1) := by decide +kernel
theorem dX12_outs_3 : decode cX12_outs 3 = .ok (.istore_n 2, 1) := by decide +kernel
theorem dX12_outs_4 : decode cX12_outs 4 = .ok (.iload_n 2, 1) := by decide +kernel
theorem dX12_outs_5 : decode cX12_outs 5 = .ok (.aload_n 0, 1) := by decide +kernel
theorem dX12_outs_6 : decode cX12_outs 6 = .ok (.invokevirtual 254, 3) := by decide +kernel
theorem dX12_outs_9 : decode cX12_outs 9 = .ok (.if_icmp .ge 31, 3) := by decide +kernel
theorem dX12_outs_12 : decode cX12_outs 12 = .ok (.iload_n 1, 1) := by decide +kernel
theorem dX12_outs_13 : decode cX12_outs 13 = .ok (.aload_n 0, 1) := by decide +kernel
theorem dX12_outs_14 : decode cX12_outs 14 = .ok (.getfield 9, 3) := by decide +kernel
theorem dX12_outs_17 : decode cX12_outs 17 = .ok (.bipush 6, 2) := by decide +kernel
theorem dX12_outs_19 : decode cX12_outs 19 = .ok (.iload_n 2, 1) := by decide +kernel
theorem dX12_outs_20 : decode cX12_outs 20 = .ok (.iadd, 1) := by decide +kernel
theorem dX12_outs_21 : decode cX12_outs 21 = .ok (.iaload, 1) := by decide +kernel
theorem dX12_outs_22 : decode cX12_outs 22 = .ok (.ifCond .ne 9, 3) := by decide +kernel
theorem dX12_outs_25 : decode cX12_outs 25 = .ok (.iconst 1, 1) := by decide +kernel
theorem dX12_outs_26 : decode cX12_outs 26 = .ok (.iload_n 2, 1) := by decide +kernel
theorem dX12_outs_27 : decode cX12_outs 27 = .ok (.ishl, 1) := by decide +kernel
theorem dX12_outs_28 : decode cX12_outs 28 = .ok (.goto 4, 3) := by decide +kernel
theorem dX12_outs_31 : decode cX12_outs 31 = .ok (.iconst 0, 1) := by decide +kernel
theorem dX12_outs_32 : decode cX12_outs 32 = .ok (.ior, 1) := by decide +kernel
theorem dX12_outs_33 : decode cX12_outs 33 = .ok (.istore_n 1, 1) := by decide +kernel
theorem dX12_outs_34 : decode cX12_outs 34 = .ok (.iinc 2 1, 3) := by decide +kernel
theorem dX12_outs_37 : decode cX12_outs 37 = .ok (.goto (-33), 3) := by decide +kernel
theorem dX12_outs_40 : decode cX12_outs 40 = .ok (.iload_n 1, 1) := by decide +kernel
theorem dX12_outs_41 : decode cX12_outs 41 = .ok (.ireturn, 1) := by decide +kernel
theorem dX12_weights_0 : decode cX12_weights 0 = .ok (.iconst 0, 1) := by decide +kernel
theorem dX12_weights_1 : decode cX12_weights 1 = .ok (.istore_n 1, 1) := by decide +kernel
theorem dX12_weights_2 : decode cX12_weights 2 = .ok (.iconst 0, 1) := by decide +kernel
theorem dX12_weights_3 : decode cX12_weights 3 = .ok (.istore_n 2, 1) := by decide +kernel
theorem dX12_weights_4 : decode cX12_weights 4 = .ok (.iload_n 2, 1) := by decide +kernel
theorem dX12_weights_5 : decode cX12_weights 5 = .ok (.aload_n 0, 1) := by decide +kernel
theorem dX12_weights_6 : decode cX12_weights 6 = .ok (.invokevirtual 254, 3) := by decide +kernel
theorem dX12_weights_9 : decode cX12_weights 9 = .ok (.if_icmp .ge 21, 3) := by decide +kernel
theorem dX12_weights_12 : decode cX12_weights 12 = .ok (.iload_n 1, 1) := by decide +kernel
theorem dX12_weights_13 : decode cX12_weights 13 = .ok (.aload_n 0, 1) := by decide +kernel
theorem dX12_weights_14 : decode cX12_weights 14 = .ok (.getfield 9, 3) := by decide +kernel
theorem dX12_weights_17 : decode cX12_weights 17 = .ok (.bipush 12, 2) := by decide +kernel
theorem dX12_weights_19 : decode cX12_weights 19 = .ok (.iload_n 2, 1) := by decide +kernel
theorem dX12_weights_20 : decode cX12_weights 20 = .ok (.iadd, 1) := by decide +kernel
theorem dX12_weights_21 : decode cX12_weights 21 = .ok (.iaload, 1) := by decide +kernel
theorem dX12_weights_22 : decode cX12_weights 22 = .ok (.iadd, 1) := by decide +kernel
theorem dX12_weights_23 : decode cX12_weights 23 = .ok (.istore_n 1, 1) := by decide +kernel
theorem dX12_weights_24 : decode cX12_weights 24 = .ok (.iinc 2 1, 3) := by decide +kernel
theorem dX12_weights_27 : decode cX12_weights 27 = .ok (.goto (-23), 3) := by decide +kernel
theorem dX12_weights_30 : decode cX12_weights 30 = .ok (.iload_n 1, 1) := by decide +kernel
theorem dX12_weights_31 : decode cX12_weights 31 = .ok (.ireturn, 1) := by decide +kernel
theorem dX12_count_0 : decode cX12_count 0 = .ok (.aload_n 0, 1) := by decide +kernel
theorem dX12_count_1 : decode cX12_count 1 = .ok (.iconst 0, 1) := by decide +kernel
theorem dX12_count_2 : decode cX12_count 2 = .ok (.putfield 86, 3) := by decide +kernel
theorem dX12_count_5 : decode cX12_count 5 = .ok (.aload_n 0, 1) := by decide +kernel
theorem dX12_count_6 : decode cX12_count 6 = .ok (.invokevirtual 310, 3) := by decide +kernel
theorem dX12_count_9 : decode cX12_count 9 = .ok (.iload_n 1, 1) := by decide +kernel
theorem dX12_count_10 : decode cX12_count 10 = .ok (.tableswitch 93 0 7 #[46, 53, 58, 66, 71, 76, 81, 88], 46) := by decide +kernel
theorem dX12_count_56 : decode cX12_count 56 = .ok (.aload_n 0, 1) := by decide +kernel
theorem dX12_count_57 : decode cX12_count 57 = .ok (.getfield 9, 3) := by decide +kernel
theorem dX12_count_60 : decode cX12_count 60 = .ok (.iconst 0, 1) := by decide +kernel
theorem dX12_count_61 : decode cX12_count 61 = .ok (.iaload, 1) := by decide +kernel
theorem dX12_count_62 : decode cX12_count 62 = .ok (.ireturn, 1) := by decide +kernel
theorem dX12_count_63 : decode cX12_count 63 = .ok (.aload_n 0, 1) := by decide +kernel
theorem dX12_count_64 : decode cX12_count 64 = .ok (.invokevirtual 254, 3) := by decide +kernel
theorem dX12_count_67 : decode cX12_count 67 = .ok (.ireturn, 1) := by decide +kernel
theorem dX12_count_68 : decode cX12_count 68 = .ok (.aload_n 0, 1) := by decide +kernel
theorem dX12_count_69 : decode cX12_count 69 = .ok (.getfield 9, 3) := by decide +kernel
theorem dX12_count_72 : decode cX12_count 72 = .ok (.bipush 18, 2) := by decide +kernel
theorem dX12_count_74 : decode cX12_count 74 = .ok (.iaload, 1) := by decide +kernel
theorem dX12_count_75 : decode cX12_count 75 = .ok (.ireturn, 1) := by decide +kernel
theorem dX12_count_76 : decode cX12_count 76 = .ok (.aload_n 0, 1) := by decide +kernel
theorem dX12_count_77 : decode cX12_count 77 = .ok (.invokevirtual 534, 3) := by decide +kernel
theorem dX12_count_80 : decode cX12_count 80 = .ok (.ireturn, 1) := by decide +kernel
theorem dX12_count_81 : decode cX12_count 81 = .ok (.aload_n 0, 1) := by decide +kernel
theorem dX12_count_82 : decode cX12_count 82 = .ok (.invokevirtual 457, 3) := by decide +kernel
theorem dX12_count_85 : decode cX12_count 85 = .ok (.ireturn, 1) := by decide +kernel
theorem dX12_count_86 : decode cX12_count 86 = .ok (.aload_n 0, 1) := by decide +kernel
theorem dX12_count_87 : decode cX12_count 87 = .ok (.invokevirtual 537, 3) := by decide +kernel
theorem dX12_count_90 : decode cX12_count 90 = .ok (.ireturn, 1) := by decide +kernel
theorem dX12_count_91 : decode cX12_count 91 = .ok (.aload_n 0, 1) := by decide +kernel
theorem dX12_count_92 : decode cX12_count 92 = .ok (.getfield 9, 3) := by decide +kernel
theorem dX12_count_95 : decode cX12_count 95 = .ok (.iconst 5, 1) := by decide +kernel
theorem dX12_count_96 : decode cX12_count 96 = .ok (.iaload, 1) := by decide +kernel
theorem dX12_count_97 : decode cX12_count 97 = .ok (.ireturn, 1) := by decide +kernel
theorem dX12_count_98 : decode cX12_count 98 = .ok (.aload_n 0, 1) := by decide +kernel
theorem dX12_count_99 : decode cX12_count 99 = .ok (.getfield 89, 3) := by decide +kernel
theorem dX12_count_102 : decode cX12_count 102 = .ok (.ireturn, 1) := by decide +kernel
theorem dX12_count_103 : decode cX12_count 103 = .ok (.iconst (-1), 1) := by decide +kernel
theorem dX12_count_104 : decode cX12_count 104 = .ok (.ireturn, 1) := by decide +kernel

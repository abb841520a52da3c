theorem dX8_init_0 : decode cX8_init 0 = .ok (.aload_n 0, 1) := by decide +kernel
theorem dX8_init_1 : decode cX8_init 1 = .ok (.invokespecial 1, 3) := by decide +kernel
theorem dX8_init_4 : decode cX8_init 4 = .ok (.aload_n 0, 1) := by decide +kernel
theorem dX8_init_5 : decode cX8_init 5 = .ok (.ldc 7, 2) := by decide +kernel
theorem dX8_init_7 : decode cX8_init 7 = .ok (.newarray .int, 2) := by decide +kernel
theorem dX8_init_9 : decode cX8_init 9 = .ok (.putfield 8, 3) := by decide +kernel
theorem dX8_init_12 : decode cX8_init 12 = .ok (.aload_n 0, 1) := by decide +kernel
theorem dX8_init_13 : decode cX8_init 13 = .ok (.bipush 12, 2) := by decide +kernel
theorem dX8_init_15 : decode cX8_init 15 = .ok (.newarray .int, 2) := by decide +kernel
theorem dX8_init_17 : decode cX8_init 17 = .ok (.dup, 1) := by decide +kernel
theorem dX8_init_18 : decode cX8_init 18 = .ok (.iconst 0, 1) := by decide +kernel
theorem dX8_init_19 : decode cX8_init 19 = .ok (.bipush 31, 2) := by decide +kernel
theorem dX8_init_21 : decode cX8_init 21 = .ok (.iastore, 1) := by decide +kernel
theorem dX8_init_22 : decode cX8_init 22 = .ok (.dup, 1) := by decide +kernel
theorem dX8_init_23 : decode cX8_init 23 = .ok (.iconst 1, 1) := by decide +kernel
theorem dX8_init_24 : decode cX8_init 24 = .ok (.bipush 28, 2) := by decide +kernel
theorem dX8_init_26 : decode cX8_init 26 = .ok (.iastore, 1) := by decide +kernel
theorem dX8_init_27 : decode cX8_init 27 = .ok (.dup, 1) := by decide +kernel
theorem dX8_init_28 : decode cX8_init 28 = .ok (.iconst 2, 1) := by decide +kernel
theorem dX8_init_29 : decode cX8_init 29 = .ok (.bipush 31, 2) := by decide +kernel
theorem dX8_init_31 : decode cX8_init 31 = .ok (.iastore, 1) := by decide +kernel
theorem dX8_init_32 : decode cX8_init 32 = .ok (.dup, 1) := by decide +kernel
theorem dX8_init_33 : decode cX8_init 33 = .ok (.iconst 3, 1) := by decide +kernel
theorem dX8_init_34 : decode cX8_init 34 = .ok (.bipush 30, 2) := by decide +kernel
theorem dX8_init_36 : decode cX8_init 36 = .ok (.iastore, 1) := by decide +kernel
theorem dX8_init_37 : decode cX8_init 37 = .ok (.dup, 1) := by decide +kernel
theorem dX8_init_38 : decode cX8_init 38 = .ok (.iconst 4, 1) := by decide +kernel
theorem dX8_init_39 : decode cX8_init 39 = .ok (.bipush 31, 2) := by decide +kernel
theorem dX8_init_41 : decode cX8_init 41 = .ok (.iastore, 1) := by decide +kernel
theorem dX8_init_42 : decode cX8_init 42 = .ok (.dup, 1) := by decide +kernel
theorem dX8_init_43 : decode cX8_init 43 = .ok (.iconst 5, 1) := by decide +kernel
theorem dX8_init_44 : decode cX8_init 44 = .ok (.bipush 30, 2) := by decide +kernel
theorem dX8_init_46 : decode cX8_init 46 = .ok (.iastore, 1) := by decide +kernel
theorem dX8_init_47 : decode cX8_init 47 = .ok (.dup, 1) := by decide +kernel
theorem dX8_init_48 : decode cX8_init 48 = .ok (.bipush 6, 2) := by decide +kernel
theorem dX8_init_50 : decode cX8_init 50 = .ok (.bipush 31, 2) := by decide +kernel
theorem dX8_init_52 : decode cX8_init 52 = .ok (.iastore, 1) := by decide +kernel
theorem dX8_init_53 : decode cX8_init 53 = .ok (.dup, 1) := by decide +kernel
theorem dX8_init_54 : decode cX8_init 54 = .ok (.bipush 7, 2) := by decide +kernel
theorem dX8_init_56 : decode cX8_init 56 = .ok (.bipush 31, 2) := by decide +kernel
theorem dX8_init_58 : decode cX8_init 58 = .ok (.iastore, 1) := by decide +kernel
theorem dX8_init_59 : decode cX8_init 59 = .ok (.dup, 1) := by decide +kernel
theorem dX8_init_60 : decode cX8_init 60 = .ok (.bipush 8, 2) := by decide +kernel
theorem dX8_init_62 : decode cX8_init 62 = .ok (.bipush 30, 2) := by decide +kernel
theorem dX8_init_64 : decode cX8_init 64 = .ok (.iastore, 1) := by decide +kernel
theorem dX8_init_65 : decode cX8_init 65 = .ok (.dup, 1) := by decide +kernel
theorem dX8_init_66 : decode cX8_init 66 = .ok (.bipush 9, 2) := by decide +kernel
theorem dX8_init_68 : decode cX8_init 68 = .ok (.bipush 31, 2) := by decide +kernel
theorem dX8_init_70 : decode cX8_init 70 = .ok (.iastore, 1) := by decide +kernel
theorem dX8_init_71 : decode cX8_init 71 = .ok (.dup, 1) := by decide +kernel
theorem dX8_init_72 : decode cX8_init 72 = .ok (.bipush 10, 2) := by decide +kernel
theorem dX8_init_74 : decode cX8_init 74 = .ok (.bipush 30, 2) := by decide +kernel
theorem dX8_init_76 : decode cX8_init 76 = .ok (.iastore, 1) := by decide +kernel
theorem dX8_init_77 : decode cX8_init 77 = .ok (.dup, 1) := by decide +kernel
theorem dX8_init_78 : decode cX8_init 78 = .ok (.bipush 11, 2) := by decide +kernel
theorem dX8_init_80 : decode cX8_init 80 = .ok (.bipush 31, 2) := by decide +kernel
theorem dX8_init_82 : decode cX8_init 82 = .ok (.iastore, 1) := by decide +kernel
theorem dX8_init_83 : decode cX8_init 83 = .ok (.putfield 14, 3) := by decide +kernel
theorem dX8_init_86 : decode cX8_init 86 = .ok (.aload_n 0, 1) := by decide +kernel
theorem dX8_init_87 : decode cX8_init 87 = .ok (.sipush 200, 3) := by decide +kernel
theorem dX8_init_90 : decode cX8_init 90 = .ok (.newarray .int, 2) := by decide +kernel
theorem dX8_init_92 : decode cX8_init 92 = .ok (.putfield 17, 3) := by decide +kernel
theorem dX8_init_95 : decode cX8_init 95 = .ok (.aload_n 0, 1) := by decide +kernel
theorem dX8_init_96 : decode cX8_init 96 = .ok (.iconst (-1), 1) := by decide +kernel
theorem dX8_init_97 : decode cX8_init 97 = .ok (.putfield 20, 3) := by decide +kernel
theorem dX8_init_100 : decode cX8_init 100 = .ok (.aload_n 0, 1) := by decide +kernel
theorem dX8_init_101 : decode cX8_init 101 = .ok (.bipush 8, 2) := by decide +kernel
theorem dX8_init_103 : decode cX8_init 103 = .ok (.newarray .boolean, 2) := by decide +kernel
theorem dX8_init_105 : decode cX8_init 105 = .ok (.putfield 24, 3) := by decide +kernel
theorem dX8_init_108 : decode cX8_init 108 = .ok (.aload_n 0, 1) := by decide +kernel
theorem dX8_init_109 : decode cX8_init 109 = .ok (.bipush 13, 2) := by decide +kernel
theorem dX8_init_111 : decode cX8_init 111 = .ok (.newarray .boolean, 2) := by decide +kernel
theorem dX8_init_113 : decode cX8_init 113 = .ok (.putfield 28, 3) := by decide +kernel
theorem dX8_init_116 : decode cX8_init 116 = .ok (.aload_n 0, 1) := by decide +kernel
theorem dX8_init_117 : decode cX8_init 117 = .ok (.bipush 63, 2) := by decide +kernel
theorem dX8_init_119 : decode cX8_init 119 = .ok (.newarray .boolean, 2) := by decide +kernel
theorem dX8_init_121 : decode cX8_init 121 = .ok (.putfield 31, 3) := by decide +kernel
theorem dX8_init_124 : decode cX8_init 124 = .ok (.aload_n 0, 1) := by decide +kernel
theorem dX8_init_125 : decode cX8_init 125 = .ok (.sipush 733, 3) := by decide +kernel
theorem dX8_init_128 : decode cX8_init 128 = .ok (.newarray .boolean, 2) := by decide +kernel
theorem dX8_init_130 : decode cX8_init 130 = .ok (.putfield 34, 3) := by decide +kernel
theorem dX8_init_133 : decode cX8_init 133 = .ok (.aload_n 0, 1) := by decide +kernel
theorem dX8_init_134 : decode cX8_init 134 = .ok (.sipush 749, 3) := by decide +kernel
theorem dX8_init_137 : decode cX8_init 137 = .ok (.newarray .boolean, 2) := by decide +kernel
theorem dX8_init_139 : decode cX8_init 139 = .ok (.putfield 37, 3) := by decide +kernel
theorem dX8_init_142 : decode cX8_init 142 = .ok (.aload_n 0, 1) := by decide +kernel
theorem dX8_init_143 : decode cX8_init 143 = .ok (.bipush 12, 2) := by decide +kernel
theorem dX8_init_145 : decode cX8_init 145 = .ok (.newarray .boolean, 2) := by decide +kernel
theorem dX8_init_147 : decode cX8_init 147 = .ok (.putfield 40, 3) := by decide +kernel
theorem dX8_init_150 : decode cX8_init 150 = .ok (.aload_n 0, 1) := by decide +kernel
theorem dX8_init_151 : decode cX8_init 151 = .ok (.ldc 43, 2) := by decide +kernel
theorem dX8_init_153 : decode cX8_init 153 = .ok (.newarray .int, 2) := by decide +kernel
theorem dX8_init_155 : decode cX8_init 155 = .ok (.putfield 44, 3) := by decide +kernel
theorem dX8_init_158 : decode cX8_init 158 = .ok (.aload_n 0, 1) := by decide +kernel
theorem dX8_init_159 : decode cX8_init 159 = .ok (.ldc 43, 2) := by decide +kernel
theorem dX8_init_161 : decode cX8_init 161 = .ok (.newarray .int, 2) := by decide +kernel
theorem dX8_init_163 : decode cX8_init 163 = .ok (.putfield 47, 3) := by decide +kernel
theorem dX8_init_166 : decode cX8_init 166 = .ok (.aload_n 0, 1) := by decide +kernel
theorem dX8_init_167 : decode cX8_init 167 = .ok (.ldc 43, 2) := by decide +kernel
theorem dX8_init_169 : decode cX8_init 169 = .ok (.newarray .int, 2) := by decide +kernel
theorem dX8_init_171 : decode cX8_init 171 = .ok (.putfield 50, 3) := by decide +kernel
theorem dX8_init_174 : decode cX8_init 174 = .ok (.aload_n 0, 1) := by decide +kernel
theorem dX8_init_175 : decode cX8_init 175 = .ok (.sipush 366, 3) := by decide +kernel
theorem dX8_init_178 : decode cX8_init 178 = .ok (.newarray .int, 2) := by decide +kernel
theorem dX8_init_180 : decode cX8_init 180 = .ok (.putfield 53, 3) := by decide +kernel
theorem dX8_init_183 : decode cX8_init 183 = .ok (.aload_n 0, 1) := by decide +kernel
theorem dX8_init_184 : decode cX8_init 184 = .ok (.sipush 300, 3) := by decide +kernel
theorem dX8_init_187 : decode cX8_init 187 = .ok (.newarray .long, 2) := by decide +kernel
theorem dX8_init_189 : decode cX8_init 189 = .ok (.putfield 56, 3) := by decide +kernel
theorem dX8_init_192 : decode cX8_init 192 = .ok (.iconst 0, 1) := by decide +kernel
theorem dX8_init_193 : decode cX8_init 193 = .ok (.istore_n 1, 1) := by decide +kernel
theorem dX8_init_194 : decode cX8_init 194 = .ok (.sipush 1900, 3) := by decide +kernel
theorem dX8_init_197 : decode cX8_init 197 = .ok (.istore_n 2, 1) := by decide +kernel
theorem dX8_init_198 : decode cX8_init 198 = .ok (.iload_n 2, 1) := by decide +kernel
theorem dX8_init_199 : decode cX8_init 199 = .ok (.sipush 2200, 3) := by decide +kernel
theorem dX8_init_202 : decode cX8_init 202 = .ok (.if_icmp .ge 65, 3) := by decide +kernel
theorem dX8_init_205 : decode cX8_init 205 = .ok (.iconst 1, 1) := by decide +kernel
theorem dX8_init_206 : decode cX8_init 206 = .ok (.istore_n 3, 1) := by decide +kernel
theorem dX8_init_207 : decode cX8_init 207 = .ok (.iload_n 3, 1) := by decide +kernel
theorem dX8_init_208 : decode cX8_init 208 = .ok (.bipush 13, 2) := by decide +kernel
theorem dX8_init_210 : decode cX8_init 210 = .ok (.if_icmp .ge 51, 3) := by decide +kernel
theorem dX8_init_213 : decode cX8_init 213 = .ok (.iconst 1, 1) := by decide +kernel
theorem dX8_init_214 : decode cX8_init 214 = .ok (.istore 4, 2) := by decide +kernel
theorem dX8_init_216 : decode cX8_init 216 = .ok (.iload 4, 2) := by decide +kernel
theorem dX8_init_218 : decode cX8_init 218 = .ok (.aload_n 0, 1) := by decide +kernel
theorem dX8_init_219 : decode cX8_init 219 = .ok (.iload_n 2, 1) := by decide +kernel
theorem dX8_init_220 : decode cX8_init 220 = .ok (.iload_n 3, 1) := by decide +kernel
theorem dX8_init_221 : decode cX8_init 221 = .ok (.invokevirtual 60, 3) := by decide +kernel
theorem dX8_init_224 : decode cX8_init 224 = .ok (.if_icmp .gt 31, 3) := by decide +kernel
theorem dX8_init_227 : decode cX8_init 227 = .ok (.aload_n 0, 1) := by decide +kernel
theorem dX8_init_228 : decode cX8_init 228 = .ok (.getfield 8, 3) := by decide +kernel
theorem dX8_init_231 : decode cX8_init 231 = .ok (.iload_n 1, 1) := by decide +kernel
theorem dX8_init_232 : decode cX8_init 232 = .ok (.sipush 10000, 3) := by decide +kernel
theorem dX8_init_235 : decode cX8_init 235 = .ok (.iload_n 2, 1) := by decide +kernel
theorem dX8_init_236 : decode cX8_init 236 = .ok (.imul, 1) := by decide +kernel
theorem dX8_init_237 : decode cX8_init 237 = .ok (.bipush 100, 2) := by decide +kernel
theorem dX8_init_239 : decode cX8_init 239 = .ok (.iload_n 3, 1) := by decide +kernel
theorem dX8_init_240 : decode cX8_init 240 = .ok (.imul, 1) := by decide +kernel
theorem dX8_init_241 : decode cX8_init 241 = .ok (.iadd, 1) := by decide +kernel
theorem dX8_init_242 : decode cX8_init 242 = .ok (.iload 4, 2) := by decide +kernel
theorem dX8_init_244 : decode cX8_init 244 = .ok (.iadd, 1) := by decide +kernel
theorem dX8_init_245 : decode cX8_init 245 = .ok (.iastore, 1) := by decide +kernel
theorem dX8_init_246 : decode cX8_init 246 = .ok (.iinc 1 1, 3) := by decide +kernel
theorem dX8_init_249 : decode cX8_init 249 = .ok (.iinc 4 1, 3) := by decide +kernel
theorem dX8_init_252 : decode cX8_init 252 = .ok (.goto (-36), 3) := by decide +kernel
theorem dX8_init_255 : decode cX8_init 255 = .ok (.iinc 3 1, 3) := by decide +kernel
theorem dX8_init_258 : decode cX8_init 258 = .ok (.goto (-51), 3) := by decide +kernel
theorem dX8_init_261 : decode cX8_init 261 = .ok (.iinc 2 1, 3) := by decide +kernel
theorem dX8_init_264 : decode cX8_init 264 = .ok (.goto (-66), 3) := by decide +kernel
theorem dX8_init_267 : decode cX8_init 267 = .ok (.return_, 1) := by decide +kernel
theorem dX8_thrown_0 : decode cX8_thrown 0 = .ok (.aload_n 0, 1) := by decide +kernel
theorem dX8_thrown_1 : decode cX8_thrown 1 = .ok (.getfield 64, 3) := by decide +kernel
theorem dX8_thrown_4 : decode cX8_thrown 4 = .ok (.ireturn, 1) := by decide +kernel
theorem dX8_isLeap_0 : decode cX8_isLeap 0 = .ok (.iload_n 0, 1) := by decide +kernel
theorem dX8_isLeap_1 : decode cX8_isLeap 1 = .ok (.iconst 4, 1) := by decide +kernel
theorem dX8_isLeap_2 : decode cX8_isLeap 2 = .ok (.irem, 1) := by decide +kernel
theorem dX8_isLeap_3 : decode cX8_isLeap 3 = .ok (.ifCond .ne 10, 3) := by decide +kernel
theorem dX8_isLeap_6 : decode cX8_isLeap 6 = .ok (.iload_n 0, 1) := by decide +kernel
theorem dX8_isLeap_7 : decode cX8_isLeap 7 = .ok (.bipush 100, 2) := by decide +kernel
theorem dX8_isLeap_9 : decode cX8_isLeap 9 = .ok (.irem, 1) := by decide +kernel
theorem dX8_isLeap_10 : decode cX8_isLeap 10 = .ok (.ifCond .ne 11, 3) := by decide +kernel
theorem dX8_isLeap_13 : decode cX8_isLeap 13 = .ok (.iload_n 0, 1) := by decide +kernel
theorem dX8_isLeap_14 : decode cX8_isLeap 14 = .ok (.sipush 400, 3) := by decide +kernel
theorem dX8_isLeap_17 : decode cX8_isLeap 17 = .ok (.irem, 1) := by decide +kernel
theorem dX8_isLeap_18 : decode cX8_isLeap 18 = .ok (.ifCond .ne 7, 3) := by decide +kernel
theorem dX8_isLeap_21 : decode cX8_isLeap 21 = .ok (.iconst 1, 1) := by decide +kernel
theorem dX8_isLeap_22 : decode cX8_isLeap 22 = .ok (.goto 4, 3) := by decide +kernel
theorem dX8_isLeap_25 : decode cX8_isLeap 25 = .ok (.iconst 0, 1) := by decide +kernel
theorem dX8_isLeap_26 : decode cX8_isLeap 26 = .ok (.ireturn, 1) := by decide +kernel
theorem dX8_monthLength_0 : decode cX8_monthLength 0 = .ok (.iload_n 2, 1) := by decide +kernel
theorem dX8_monthLength_1 : decode cX8_monthLength 1 = .ok (.iconst 2, 1) := by decide +kernel
theorem dX8_monthLength_2 : decode cX8_monthLength 2 = .ok (.if_icmp .ne 15, 3) := by decide +kernel
theorem dX8_monthLength_5 : decode cX8_monthLength 5 = .ok (.iload_n 1, 1) := by decide +kernel
theorem dX8_monthLength_6 : decode cX8_monthLength 6 = .ok (.invokestatic 67, 3) := by decide +kernel
theorem dX8_monthLength_9 : decode cX8_monthLength 9 = .ok (.ifCond .eq 8, 3) := by decide +kernel
theorem dX8_monthLength_12 : decode cX8_monthLength 12 = .ok (.bipush 29, 2) := by decide +kernel
theorem dX8_monthLength_14 : decode cX8_monthLength 14 = .ok (.goto 11, 3) := by decide +kernel
theorem dX8_monthLength_17 : decode cX8_monthLength 17 = .ok (.aload_n 0, 1) := by decide +kernel
theorem dX8_monthLength_18 : decode cX8_monthLength 18 = .ok (.getfield 14, 3) := by decide +kernel
theorem dX8_monthLength_21 : decode cX8_monthLength 21 = .ok (.iload_n 2, 1) := by decide +kernel
theorem dX8_monthLength_22 : decode cX8_monthLength 22 = .ok (.iconst 1, 1) := by decide +kernel
theorem dX8_monthLength_23 : decode cX8_monthLength 23 = .ok (.isub, 1) := by decide +kernel
theorem dX8_monthLength_24 : decode cX8_monthLength 24 = .ok (.iaload, 1) := by decide +kernel
theorem dX8_monthLength_25 : decode cX8_monthLength 25 = .ok (.ireturn, 1) := by decide +kernel
theorem dX8_dayOf_0 : decode cX8_dayOf 0 = .ok (.iconst 0, 1) := by decide +kernel
theorem dX8_dayOf_1 : decode cX8_dayOf 1 = .ok (.istore_n 2, 1) := by decide +kernel
theorem dX8_dayOf_2 : decode cX8_dayOf 2 = .ok (.ldc 7, 2) := by decide +kernel
theorem dX8_dayOf_4 : decode cX8_dayOf 4 = .ok (.istore_n 3, 1) := by decide +kernel
theorem dX8_dayOf_5 : decode cX8_dayOf 5 = .ok (.iload_n 2, 1) := by decide +kernel
theorem dX8_dayOf_6 : decode cX8_dayOf 6 = .ok (.iload_n 3, 1) := by decide +kernel
theorem dX8_dayOf_7 : decode cX8_dayOf 7 = .ok (.if_icmp .ge 35, 3) := by decide +kernel
theorem dX8_dayOf_10 : decode cX8_dayOf 10 = .ok (.iload_n 2, 1) := by decide +kernel
theorem dX8_dayOf_11 : decode cX8_dayOf 11 = .ok (.iload_n 3, 1) := by decide +kernel
theorem dX8_dayOf_12 : decode cX8_dayOf 12 = .ok (.iadd, 1) := by decide +kernel
theorem dX8_dayOf_13 : decode cX8_dayOf 13 = .ok (.iconst 2, 1) := by decide +kernel
theorem dX8_dayOf_14 : decode cX8_dayOf 14 = .ok (.idiv, 1) := by decide +kernel
theorem dX8_dayOf_15 : decode cX8_dayOf 15 = .ok (.istore 4, 2) := by decide +kernel
theorem dX8_dayOf_17 : decode cX8_dayOf 17 = .ok (.aload_n 0, 1) := by decide +kernel
theorem dX8_dayOf_18 : decode cX8_dayOf 18 = .ok (.getfield 8, 3) := by decide +kernel
theorem dX8_dayOf_21 : decode cX8_dayOf 21 = .ok (.iload 4, 2) := by decide +kernel
theorem dX8_dayOf_23 : decode cX8_dayOf 23 = .ok (.iaload, 1) := by decide +kernel
theorem dX8_dayOf_24 : decode cX8_dayOf 24 = .ok (.iload_n 1, 1) := by decide +kernel
theorem dX8_dayOf_25 : decode cX8_dayOf 25 = .ok (.if_icmp .ge 11, 3) := by decide +kernel
theorem dX8_dayOf_28 : decode cX8_dayOf 28 = .ok (.iload 4, 2) := by decide +kernel
theorem dX8_dayOf_30 : decode cX8_dayOf 30 = .ok (.iconst 1, 1) := by decide +kernel
theorem dX8_dayOf_31 : decode cX8_dayOf 31 = .ok (.iadd, 1) := by decide +kernel
theorem dX8_dayOf_32 : decode cX8_dayOf 32 = .ok (.istore_n 2, 1) := by decide +kernel
theorem dX8_dayOf_33 : decode cX8_dayOf 33 = .ok (.goto 6, 3) := by decide +kernel
theorem dX8_dayOf_36 : decode cX8_dayOf 36 = .ok (.iload 4, 2) := by decide +kernel
theorem dX8_dayOf_38 : decode cX8_dayOf 38 = .ok (.istore_n 3, 1) := by decide +kernel
theorem dX8_dayOf_39 : decode cX8_dayOf 39 = .ok (.goto (-34), 3) := by decide +kernel
theorem dX8_dayOf_42 : decode cX8_dayOf 42 = .ok (.iload_n 2, 1) := by decide +kernel
theorem dX8_dayOf_43 : decode cX8_dayOf 43 = .ok (.ldc 7, 2) := by decide +kernel
theorem dX8_dayOf_45 : decode cX8_dayOf 45 = .ok (.if_icmp .ge 17, 3) := by decide +kernel
theorem dX8_dayOf_48 : decode cX8_dayOf 48 = .ok (.aload_n 0, 1) := by decide +kernel
theorem dX8_dayOf_49 : decode cX8_dayOf 49 = .ok (.getfield 8, 3) := by decide +kernel
theorem dX8_dayOf_52 : decode cX8_dayOf 52 = .ok (.iload_n 2, 1) := by decide +kernel
theorem dX8_dayOf_53 : decode cX8_dayOf 53 = .ok (.iaload, 1) := by decide +kernel
theorem dX8_dayOf_54 : decode cX8_dayOf 54 = .ok (.iload_n 1, 1) := by decide +kernel
theorem dX8_dayOf_55 : decode cX8_dayOf 55 = .ok (.if_icmp .ne 7, 3) := by decide +kernel
theorem dX8_dayOf_58 : decode cX8_dayOf 58 = .ok (.iload_n 2, 1) := by decide +kernel
theorem dX8_dayOf_59 : decode cX8_dayOf 59 = .ok (.goto 4, 3) := by decide +kernel
theorem dX8_dayOf_62 : decode cX8_dayOf 62 = .ok (.iconst (-1), 1) := by decide +kernel
theorem dX8_dayOf_63 : decode cX8_dayOf 63 = .ok (.ireturn, 1) := by decide +kernel
theorem dX8_yearOf_0 : decode cX8_yearOf 0 = .ok (.aload_n 0, 1) := by decide +kernel
theorem dX8_yearOf_1 : decode cX8_yearOf 1 = .ok (.getfield 8, 3) := by decide +kernel
theorem dX8_yearOf_4 : decode cX8_yearOf 4 = .ok (.iload_n 1, 1) := by decide +kernel
theorem dX8_yearOf_5 : decode cX8_yearOf 5 = .ok (.iaload, 1) := by decide +kernel
theorem dX8_yearOf_6 : decode cX8_yearOf 6 = .ok (.sipush 10000, 3) := by decide +kernel
theorem dX8_yearOf_9 : decode cX8_yearOf 9 = .ok (.idiv, 1) := by decide +kernel
theorem dX8_yearOf_10 : decode cX8_yearOf 10 = .ok (.ireturn, 1) := by decide +kernel
theorem dX8_monthOf_0 : decode cX8_monthOf 0 = .ok (.aload_n 0, 1) := by decide +kernel
theorem dX8_monthOf_1 : decode cX8_monthOf 1 = .ok (.getfield 8, 3) := by decide +kernel
theorem dX8_monthOf_4 : decode cX8_monthOf 4 = .ok (.iload_n 1, 1) := by decide +kernel
theorem dX8_monthOf_5 : decode cX8_monthOf 5 = .ok (.iaload, 1) := by decide +kernel
theorem dX8_monthOf_6 : decode cX8_monthOf 6 = .ok (.bipush 100, 2) := by decide +kernel
theorem dX8_monthOf_8 : decode cX8_monthOf 8 = .ok (.idiv, 1) := by decide +kernel
theorem dX8_monthOf_9 : decode cX8_monthOf 9 = .ok (.bipush 100, 2) := by decide +kernel
theorem dX8_monthOf_11 : decode cX8_monthOf 11 = .ok (.irem, 1) := by decide +kernel
theorem dX8_monthOf_12 : decode cX8_monthOf 12 = .ok (.ireturn, 1) := by decide +kernel
theorem dX8_monthDayOf_0 : decode cX8_monthDayOf 0 = .ok (.aload_n 0, 1) := by decide +kernel
theorem dX8_monthDayOf_1 : decode cX8_monthDayOf 1 = .ok (.getfield 8, 3) := by decide +kernel
theorem dX8_monthDayOf_4 : decode cX8_monthDayOf 4 = .ok (.iload_n 1, 1) := by decide +kernel
theorem dX8_monthDayOf_5 : decode cX8_monthDayOf 5 = .ok (.iaload, 1) := by decide +kernel
theorem dX8_monthDayOf_6 : decode cX8_monthDayOf 6 = .ok (.bipush 100, 2) := by decide +kernel
theorem dX8_monthDayOf_8 : decode cX8_monthDayOf 8 = .ok (.irem, 1) := by decide +kernel
theorem dX8_monthDayOf_9 : decode cX8_monthDayOf 9 = .ok (.ireturn, 1) := by decide +kernel
theorem dX8_periodOf_0 : decode cX8_periodOf 0 = .ok (.aload_n 0, 1) := by decide +kernel
theorem dX8_periodOf_1 : decode cX8_periodOf 1 = .ok (.getfield 71, 3) := by decide +kernel
theorem dX8_periodOf_4 : decode cX8_periodOf 4 = .ok (.tableswitch 50 0 2 #[28, 30, 35], 28) := by decide +kernel
theorem dX8_periodOf_32 : decode cX8_periodOf 32 = .ok (.iload_n 1, 1) := by decide +kernel
theorem dX8_periodOf_33 : decode cX8_periodOf 33 = .ok (.ireturn, 1) := by decide +kernel
theorem dX8_periodOf_34 : decode cX8_periodOf 34 = .ok (.iload_n 1, 1) := by decide +kernel
theorem dX8_periodOf_35 : decode cX8_periodOf 35 = .ok (.bipush 7, 2) := by decide +kernel
theorem dX8_periodOf_37 : decode cX8_periodOf 37 = .ok (.idiv, 1) := by decide +kernel
theorem dX8_periodOf_38 : decode cX8_periodOf 38 = .ok (.ireturn, 1) := by decide +kernel
theorem dX8_periodOf_39 : decode cX8_periodOf 39 = .ok (.bipush 12, 2) := by decide +kernel
theorem dX8_periodOf_41 : decode cX8_periodOf 41 = .ok (.aload_n 0, 1) := by decide +kernel
theorem dX8_periodOf_42 : decode cX8_periodOf 42 = .ok (.iload_n 1, 1) := by decide +kernel
theorem dX8_periodOf_43 : decode cX8_periodOf 43 = .ok (.invokevirtual 74, 3) := by decide +kernel
theorem dX8_periodOf_46 : decode cX8_periodOf 46 = .ok (.imul, 1) := by decide +kernel
theorem dX8_periodOf_47 : decode cX8_periodOf 47 = .ok (.aload_n 0, 1) := by decide +kernel
theorem dX8_periodOf_48 : decode cX8_periodOf 48 = .ok (.iload_n 1, 1) := by decide +kernel
theorem dX8_periodOf_49 : decode cX8_periodOf 49 = .ok (.invokevirtual 78, 3) := by decide +kernel
theorem dX8_periodOf_52 : decode cX8_periodOf 52 = .ok (.iadd, 1) := by decide +kernel
theorem dX8_periodOf_53 : decode cX8_periodOf 53 = .ok (.ireturn, 1) := by decide +kernel
theorem dX8_periodOf_54 : decode cX8_periodOf 54 = .ok (.aload_n 0, 1) := by decide +kernel
theorem dX8_periodOf_55 : decode cX8_periodOf 55 = .ok (.iload_n 1, 1) := by decide +kernel
theorem dX8_periodOf_56 : decode cX8_periodOf 56 = .ok (.invokevirtual 74, 3) := by decide +kernel
theorem dX8_periodOf_59 : decode cX8_periodOf 59 = .ok (.ireturn, 1) := by decide +kernel
theorem dX8_feed_0 : decode cX8_feed 0 = .ok (.aload_n 0, 1) := by decide +kernel
theorem dX8_feed_1 : decode cX8_feed 1 = .ok (.iload_n 1, 1) := by decide +kernel
theorem dX8_feed_2 : decode cX8_feed 2 = .ok (.iconst 1, 1) := by decide +kernel
theorem dX8_feed_3 : decode cX8_feed 3 = .ok (.if_icmp .lt 9, 3) := by decide +kernel
theorem dX8_feed_6 : decode cX8_feed 6 = .ok (.iload_n 1, 1) := by decide +kernel
theorem dX8_feed_7 : decode cX8_feed 7 = .ok (.bipush 8, 2) := by decide +kernel
theorem dX8_feed_9 : decode cX8_feed 9 = .ok (.if_icmp .le 7, 3) := by decide +kernel
theorem dX8_feed_12 : decode cX8_feed 12 = .ok (.iconst 1, 1) := by decide +kernel
theorem dX8_feed_13 : decode cX8_feed 13 = .ok (.goto 4, 3) := by decide +kernel
theorem dX8_feed_16 : decode cX8_feed 16 = .ok (.iconst 0, 1) := by decide +kernel
theorem dX8_feed_17 : decode cX8_feed 17 = .ok (.putfield 64, 3) := by decide +kernel
theorem dX8_feed_20 : decode cX8_feed 20 = .ok (.aload_n 0, 1) := by decide +kernel
theorem dX8_feed_21 : decode cX8_feed 21 = .ok (.getfield 64, 3) := by decide +kernel
theorem dX8_feed_24 : decode cX8_feed 24 = .ok (.ifCond .le 5, 3) := by decide +kernel
theorem dX8_feed_27 : decode cX8_feed 27 = .ok (.iconst 0, 1) := by decide +kernel
theorem dX8_feed_28 : decode cX8_feed 28 = .ok (.ireturn, 1) := by decide +kernel
theorem dX8_feed_29 : decode cX8_feed 29 = .ok (.aload_n 0, 1) := by decide +kernel
theorem dX8_feed_30 : decode cX8_feed 30 = .ok (.getfield 81, 3) := by decide +kernel
theorem dX8_feed_33 : decode cX8_feed 33 = .ok (.iload_n 1, 1) := by decide +kernel
theorem dX8_feed_34 : decode cX8_feed 34 = .ok (.iadd, 1) := by decide +kernel
theorem dX8_feed_35 : decode cX8_feed 35 = .ok (.sipush 200, 3) := by decide +kernel
theorem dX8_feed_38 : decode cX8_feed 38 = .ok (.if_icmp .le 5, 3) := by decide +kernel
theorem dX8_feed_41 : decode cX8_feed 41 = .ok (.iconst (-1), 1) := by decide +kernel
theorem dX8_feed_42 : decode cX8_feed 42 = .ok (.ireturn, 1) := by decide +kernel
theorem dX8_feed_43 : decode cX8_feed 43 = .ok (.iconst 0, 1) := by decide +kernel
theorem dX8_feed_44 : decode cX8_feed 44 = .ok (.istore 4, 2) := by decide +kernel
theorem dX8_feed_46 : decode cX8_feed 46 = .ok (.iload 4, 2) := by decide +kernel
theorem dX8_feed_48 : decode cX8_feed 48 = .ok (.iload_n 1, 1) := by decide +kernel
theorem dX8_feed_49 : decode cX8_feed 49 = .ok (.if_icmp .ge 40, 3) := by decide +kernel
theorem dX8_feed_52 : decode cX8_feed 52 = .ok (.aload_n 0, 1) := by decide +kernel
theorem dX8_feed_53 : decode cX8_feed 53 = .ok (.getfield 17, 3) := by decide +kernel
theorem dX8_feed_56 : decode cX8_feed 56 = .ok (.aload_n 0, 1) := by decide +kernel
theorem dX8_feed_57 : decode cX8_feed 57 = .ok (.getfield 81, 3) := by decide +kernel
theorem dX8_feed_60 : decode cX8_feed 60 = .ok (.lload_n 2, 1) := by decide +kernel
theorem dX8_feed_61 : decode cX8_feed 61 = .ok (.bipush 8, 2) := by decide +kernel
theorem dX8_feed_63 : decode cX8_feed 63 = .ok (.iload 4, 2) := by decide +kernel
theorem dX8_feed_65 : decode cX8_feed 65 = .ok (.imul, 1) := by decide +kernel
theorem dX8_feed_66 : decode cX8_feed 66 = .ok (.lshr, 1) := by decide +kernel
theorem dX8_feed_67 : decode cX8_feed 67 = .ok (.ldc2_w 84, 3) := by decide +kernel
theorem dX8_feed_70 : decode cX8_feed 70 = .ok (.land, 1) := by decide +kernel
theorem dX8_feed_71 : decode cX8_feed 71 = .ok (.l2i, 1) := by decide +kernel
theorem dX8_feed_72 : decode cX8_feed 72 = .ok (.iastore, 1) := by decide +kernel
theorem dX8_feed_73 : decode cX8_feed 73 = .ok (.aload_n 0, 1) := by decide +kernel
theorem dX8_feed_74 : decode cX8_feed 74 = .ok (.dup, 1) := by decide +kernel
theorem dX8_feed_75 : decode cX8_feed 75 = .ok (.getfield 81, 3) := by decide +kernel
theorem dX8_feed_78 : decode cX8_feed 78 = .ok (.iconst 1, 1) := by decide +kernel
theorem dX8_feed_79 : decode cX8_feed 79 = .ok (.iadd, 1) := by decide +kernel
theorem dX8_feed_80 : decode cX8_feed 80 = .ok (.putfield 81, 3) := by decide +kernel
theorem dX8_feed_83 : decode cX8_feed 83 = .ok (.iinc 4 1, 3) := by decide +kernel
theorem dX8_feed_86 : decode cX8_feed 86 = .ok (.goto (-40), 3) := by decide +kernel
theorem dX8_feed_89 : decode cX8_feed 89 = .ok (.aload_n 0, 1) := by decide +kernel
theorem dX8_feed_90 : decode cX8_feed 90 = .ok (.getfield 81, 3) := by decide +kernel
theorem dX8_feed_93 : decode cX8_feed 93 = .ok (.ireturn, 1) := by decide +kernel
theorem dX8_wipe_0 : decode cX8_wipe 0 = .ok (.aload_n 0, 1) := by decide +kernel
theorem dX8_wipe_1 : decode cX8_wipe 1 = .ok (.iconst 0, 1) := by decide +kernel
theorem dX8_wipe_2 : decode cX8_wipe 2 = .ok (.putfield 64, 3) := by decide +kernel
theorem dX8_wipe_5 : decode cX8_wipe 5 = .ok (.aload_n 0, 1) := by decide +kernel
theorem dX8_wipe_6 : decode cX8_wipe 6 = .ok (.getfield 81, 3) := by decide +kernel
theorem dX8_wipe_9 : decode cX8_wipe 9 = .ok (.istore_n 1, 1) := by decide +kernel
theorem dX8_wipe_10 : decode cX8_wipe 10 = .ok (.aload_n 0, 1) := by decide +kernel
theorem dX8_wipe_11 : decode cX8_wipe 11 = .ok (.iconst 0, 1) := by decide +kernel
theorem dX8_wipe_12 : decode cX8_wipe 12 = .ok (.putfield 81, 3) := by decide +kernel
theorem dX8_wipe_15 : decode cX8_wipe 15 = .ok (.iload_n 1, 1) := by decide +kernel
theorem dX8_wipe_16 : decode cX8_wipe 16 = .ok (.ireturn, 1) := by decide +kernel
theorem dX8_fail_0 : decode cX8_fail 0 = .ok (.aload_n 0, 1) := by decide +kernel
theorem dX8_fail_1 : decode cX8_fail 1 = .ok (.getfield 86, 3) := by decide +kernel
theorem dX8_fail_4 : decode cX8_fail 4 = .ok (.ifCond .ne 13, 3) := by decide +kernel
theorem dX8_fail_7 : decode cX8_fail 7 = .ok (.aload_n 0, 1) := by decide +kernel
theorem dX8_fail_8 : decode cX8_fail 8 = .ok (.iload_n 1, 1) := by decide +kernel
theorem dX8_fail_9 : decode cX8_fail 9 = .ok (.putfield 86, 3) := by decide +kernel
theorem dX8_fail_12 : decode cX8_fail 12 = .ok (.aload_n 0, 1) := by decide +kernel
theorem dX8_fail_13 : decode cX8_fail 13 = .ok (.iload_n 2, 1) := by decide +kernel
theorem dX8_fail_14 : decode cX8_fail 14 = .ok (.putfield 20, 3) := by decide +kernel
theorem dX8_fail_17 : decode cX8_fail 17 = .ok (.return_, 1) := by decide +kernel
theorem dX8_byteAt_0 : decode cX8_byteAt 0 = .ok (.iload_n 1, 1) := by decide +kernel
theorem dX8_byteAt_1 : decode cX8_byteAt 1 = .ok (.aload_n 0, 1) := by decide +kernel
theorem dX8_byteAt_2 : decode cX8_byteAt 2 = .ok (.getfield 81, 3) := by decide +kernel
theorem dX8_byteAt_5 : decode cX8_byteAt 5 = .ok (.if_icmp .ge 12, 3) := by decide +kernel
theorem dX8_byteAt_8 : decode cX8_byteAt 8 = .ok (.aload_n 0, 1) := by decide +kernel
theorem dX8_byteAt_9 : decode cX8_byteAt 9 = .ok (.getfield 17, 3) := by decide +kernel
theorem dX8_byteAt_12 : decode cX8_byteAt 12 = .ok (.iload_n 1, 1) := by decide +kernel
theorem dX8_byteAt_13 : decode cX8_byteAt 13 = .ok (.iaload, 1) := by decide +kernel
theorem dX8_byteAt_14 : decode cX8_byteAt 14 = .ok (.goto 4, 3) := by decide +kernel
theorem dX8_byteAt_17 : decode cX8_byteAt 17 = .ok (.iconst (-1), 1) := by decide +kernel
theorem dX8_byteAt_18 : decode cX8_byteAt 18 = .ok (.ireturn, 1) := by decide +kernel
theorem dX8_isCapital_0 : decode cX8_isCapital 0 = .ok (.iload_n 0, 1) := by decide +kernel
theorem dX8_isCapital_1 : decode cX8_isCapital 1 = .ok (.bipush 65, 2) := by decide +kernel
theorem dX8_isCapital_3 : decode cX8_isCapital 3 = .ok (.if_icmp .lt 13, 3) := by decide +kernel
theorem dX8_isCapital_6 : decode cX8_isCapital 6 = .ok (.iload_n 0, 1) := by decide +kernel
theorem dX8_isCapital_7 : decode cX8_isCapital 7 = .ok (.bipush 90, 2) := by decide +kernel
theorem dX8_isCapital_9 : decode cX8_isCapital 9 = .ok (.if_icmp .gt 7, 3) := by decide +kernel
theorem dX8_isCapital_12 : decode cX8_isCapital 12 = .ok (.iconst 1, 1) := by decide +kernel
theorem dX8_isCapital_13 : decode cX8_isCapital 13 = .ok (.goto 4, 3) := by decide +kernel
theorem dX8_isCapital_16 : decode cX8_isCapital 16 = .ok (.iconst 0, 1) := by decide +kernel
theorem dX8_isCapital_17 : decode cX8_isCapital 17 = .ok (.ireturn, 1) := by decide +kernel
theorem dX8_isFigure_0 : decode cX8_isFigure 0 = .ok (.iload_n 0, 1) := by decide +kernel
theorem dX8_isFigure_1 : decode cX8_isFigure 1 = .ok (.bipush 48, 2) := by decide +kernel
theorem dX8_isFigure_3 : decode cX8_isFigure 3 = .ok (.if_icmp .lt 13, 3) := by decide +kernel
theorem dX8_isFigure_6 : decode cX8_isFigure 6 = .ok (.iload_n 0, 1) := by decide +kernel
theorem dX8_isFigure_7 : decode cX8_isFigure 7 = .ok (.bipush 57, 2) := by decide +kernel
theorem dX8_isFigure_9 : decode cX8_isFigure 9 = .ok (.if_icmp .gt 7, 3) := by decide +kernel
theorem dX8_isFigure_12 : decode cX8_isFigure 12 = .ok (.iconst 1, 1) := by decide +kernel
theorem dX8_isFigure_13 : decode cX8_isFigure 13 = .ok (.goto 4, 3) := by decide +kernel
theorem dX8_isFigure_16 : decode cX8_isFigure 16 = .ok (.iconst 0, 1) := by decide +kernel
theorem dX8_isFigure_17 : decode cX8_isFigure 17 = .ok (.ireturn, 1) := by decide +kernel
theorem dX8_lettersAt_0 : decode cX8_lettersAt 0 = .ok (.lconst 0, 1) := by decide +kernel
theorem dX8_lettersAt_1 : decode cX8_lettersAt 1 = .ok (.lstore_n 2, 1) := by decide +kernel
theorem dX8_lettersAt_2 : decode cX8_lettersAt 2 = .ok (.iconst 0, 1) := by decide +kernel
theorem dX8_lettersAt_3 : decode cX8_lettersAt 3 = .ok (.istore 4, 2) := by decide +kernel
theorem dX8_lettersAt_5 : decode cX8_lettersAt 5 = .ok (.iload 4, 2) := by decide +kernel
theorem dX8_lettersAt_7 : decode cX8_lettersAt 7 = .ok (.bipush 12, 2) := by decide +kernel
theorem dX8_lettersAt_9 : decode cX8_lettersAt 9 = .ok (.if_icmp .ge 40, 3) := by decide +kernel
theorem dX8_lettersAt_12 : decode cX8_lettersAt 12 = .ok (.aload_n 0, 1) := by decide +kernel
theorem dX8_lettersAt_13 : decode cX8_lettersAt 13 = .ok (.iload_n 1, 1) := by decide +kernel
theorem dX8_lettersAt_14 : decode cX8_lettersAt 14 = .ok (.iload 4, 2) := by decide +kernel
theorem dX8_lettersAt_16 : decode cX8_lettersAt 16 = .ok (.iadd, 1) := by decide +kernel
theorem dX8_lettersAt_17 : decode cX8_lettersAt 17 = .ok (.invokevirtual 89, 3) := by decide +kernel
theorem dX8_lettersAt_20 : decode cX8_lettersAt 20 = .ok (.invokestatic 92, 3) := by decide +kernel
theorem dX8_lettersAt_23 : decode cX8_lettersAt 23 = .ok (.ifCond .eq 26, 3) := by decide +kernel
theorem dX8_lettersAt_26 : decode cX8_lettersAt 26 = .ok (.lload_n 2, 1) := by decide +kernel
theorem dX8_lettersAt_27 : decode cX8_lettersAt 27 = .ok (.iconst 5, 1) := by decide +kernel
theorem dX8_lettersAt_28 : decode cX8_lettersAt 28 = .ok (.lshl, 1) := by decide +kernel
theorem dX8_lettersAt_29 : decode cX8_lettersAt 29 = .ok (.aload_n 0, 1) := by decide +kernel
theorem dX8_lettersAt_30 : decode cX8_lettersAt 30 = .ok (.iload_n 1, 1) := by decide +kernel
theorem dX8_lettersAt_31 : decode cX8_lettersAt 31 = .ok (.iload 4, 2) := by decide +kernel
theorem dX8_lettersAt_33 : decode cX8_lettersAt 33 = .ok (.iadd, 1) := by decide +kernel
theorem dX8_lettersAt_34 : decode cX8_lettersAt 34 = .ok (.invokevirtual 89, 3) := by decide +kernel
theorem dX8_lettersAt_37 : decode cX8_lettersAt 37 = .ok (.bipush 64, 2) := by decide +kernel
theorem dX8_lettersAt_39 : decode cX8_lettersAt 39 = .ok (.isub, 1) := by decide +kernel
theorem dX8_lettersAt_40 : decode cX8_lettersAt 40 = .ok (.i2l, 1) := by decide +kernel
theorem dX8_lettersAt_41 : decode cX8_lettersAt 41 = .ok (.lor, 1) := by decide +kernel
theorem dX8_lettersAt_42 : decode cX8_lettersAt 42 = .ok (.lstore_n 2, 1) := by decide +kernel
theorem dX8_lettersAt_43 : decode cX8_lettersAt 43 = .ok (.iinc 4 1, 3) := by decide +kernel
theorem dX8_lettersAt_46 : decode cX8_lettersAt 46 = .ok (.goto (-41), 3) := by decide +kernel
theorem dX8_lettersAt_49 : decode cX8_lettersAt 49 = .ok (.lload_n 2, 1) := by decide +kernel
theorem dX8_lettersAt_50 : decode cX8_lettersAt 50 = .ok (.lreturn, 1) := by decide +kernel
theorem dX8_word_0 : decode cX8_word 0 = .ok (.iload_n 0, 1) := by decide +kernel
theorem dX8_word_1 : decode cX8_word 1 = .ok (.i2l, 1) := by decide +kernel
theorem dX8_word_2 : decode cX8_word 2 = .ok (.bipush 15, 2) := by decide +kernel
theorem dX8_word_4 : decode cX8_word 4 = .ok (.lshl, 1) := by decide +kernel
theorem dX8_word_5 : decode cX8_word 5 = .ok (.iload_n 1, 1) := by decide +kernel
theorem dX8_word_6 : decode cX8_word 6 = .ok (.i2l, 1) := by decide +kernel
theorem dX8_word_7 : decode cX8_word 7 = .ok (.bipush 10, 2) := by decide +kernel
theorem dX8_word_9 : decode cX8_word 9 = .ok (.lshl, 1) := by decide +kernel
theorem dX8_word_10 : decode cX8_word 10 = .ok (.lor, 1) := by decide +kernel
theorem dX8_word_11 : decode cX8_word 11 = .ok (.iload_n 2, 1) := by decide +kernel
theorem dX8_word_12 : decode cX8_word 12 = .ok (.i2l, 1) := by decide +kernel
theorem dX8_word_13 : decode cX8_word 13 = .ok (.iconst 5, 1) := by decide +kernel
theorem dX8_word_14 : decode cX8_word 14 = .ok (.lshl, 1) := by decide +kernel
theorem dX8_word_15 : decode cX8_word 15 = .ok (.lor, 1) := by decide +kernel
theorem dX8_word_16 : decode cX8_word 16 = .ok (.iload_n 3, 1) := by decide +kernel
theorem dX8_word_17 : decode cX8_word 17 = .ok (.i2l, 1) := by decide +kernel
theorem dX8_word_18 : decode cX8_word 18 = .ok (.lor, 1) := by decide +kernel
theorem dX8_word_19 : decode cX8_word 19 = .ok (.ldc2_w 95, 3) := by decide +kernel
theorem dX8_word_22 : decode cX8_word 22 = .ok (.land, 1) := by decide +kernel
theorem dX8_word_23 : decode cX8_word 23 = .ok (.lreturn, 1) := by decide +kernel
theorem dX8_nameOf_0 : decode cX8_nameOf 0 = .ok (.bipush 6, 2) := by decide +kernel
theorem dX8_nameOf_2 : decode cX8_nameOf 2 = .ok (.bipush 18, 2) := by decide +kernel
theorem dX8_nameOf_4 : decode cX8_nameOf 4 = .ok (.iconst 5, 1) := by decide +kernel
theorem dX8_nameOf_5 : decode cX8_nameOf 5 = .ok (.bipush 17, 2) := by decide +kernel
theorem dX8_nameOf_7 : decode cX8_nameOf 7 = .ok (.invokestatic 97, 3) := by decide +kernel
theorem dX8_nameOf_10 : decode cX8_nameOf 10 = .ok (.lstore_n 3, 1) := by decide +kernel
theorem dX8_nameOf_11 : decode cX8_nameOf 11 = .ok (.iconst 3, 1) := by decide +kernel
theorem dX8_nameOf_12 : decode cX8_nameOf 12 = .ok (.bipush 15, 2) := by decide +kernel
theorem dX8_nameOf_14 : decode cX8_nameOf 14 = .ok (.bipush 21, 2) := by decide +kernel
theorem dX8_nameOf_16 : decode cX8_nameOf 16 = .ok (.bipush 14, 2) := by decide +kernel
theorem dX8_nameOf_18 : decode cX8_nameOf 18 = .ok (.invokestatic 97, 3) := by decide +kernel
theorem dX8_nameOf_21 : decode cX8_nameOf 21 = .ok (.iconst 5, 1) := by decide +kernel
theorem dX8_nameOf_22 : decode cX8_nameOf 22 = .ok (.lshl, 1) := by decide +kernel
theorem dX8_nameOf_23 : decode cX8_nameOf 23 = .ok (.ldc2_w 101, 3) := by decide +kernel
theorem dX8_nameOf_26 : decode cX8_nameOf 26 = .ok (.lor, 1) := by decide +kernel
theorem dX8_nameOf_27 : decode cX8_nameOf 27 = .ok (.lstore 5, 2) := by decide +kernel
theorem dX8_nameOf_29 : decode cX8_nameOf 29 = .ok (.bipush 21, 2) := by decide +kernel
theorem dX8_nameOf_31 : decode cX8_nameOf 31 = .ok (.bipush 14, 2) := by decide +kernel
theorem dX8_nameOf_33 : decode cX8_nameOf 33 = .ok (.bipush 20, 2) := by decide +kernel
theorem dX8_nameOf_35 : decode cX8_nameOf 35 = .ok (.bipush 9, 2) := by decide +kernel
theorem dX8_nameOf_37 : decode cX8_nameOf 37 = .ok (.invokestatic 97, 3) := by decide +kernel
theorem dX8_nameOf_40 : decode cX8_nameOf 40 = .ok (.iconst 5, 1) := by decide +kernel
theorem dX8_nameOf_41 : decode cX8_nameOf 41 = .ok (.lshl, 1) := by decide +kernel
theorem dX8_nameOf_42 : decode cX8_nameOf 42 = .ok (.ldc2_w 103, 3) := by decide +kernel
theorem dX8_nameOf_45 : decode cX8_nameOf 45 = .ok (.lor, 1) := by decide +kernel
theorem dX8_nameOf_46 : decode cX8_nameOf 46 = .ok (.lstore 7, 2) := by decide +kernel
theorem dX8_nameOf_48 : decode cX8_nameOf 48 = .ok (.bipush 9, 2) := by decide +kernel
theorem dX8_nameOf_50 : decode cX8_nameOf 50 = .ok (.bipush 14, 2) := by decide +kernel
theorem dX8_nameOf_52 : decode cX8_nameOf 52 = .ok (.bipush 20, 2) := by decide +kernel
theorem dX8_nameOf_54 : decode cX8_nameOf 54 = .ok (.iconst 5, 1) := by decide +kernel
theorem dX8_nameOf_55 : decode cX8_nameOf 55 = .ok (.invokestatic 97, 3) := by decide +kernel
theorem dX8_nameOf_58 : decode cX8_nameOf 58 = .ok (.bipush 20, 2) := by decide +kernel
theorem dX8_nameOf_60 : decode cX8_nameOf 60 = .ok (.lshl, 1) := by decide +kernel
theorem dX8_nameOf_61 : decode cX8_nameOf 61 = .ok (.bipush 18, 2) := by decide +kernel
theorem dX8_nameOf_63 : decode cX8_nameOf 63 = .ok (.bipush 22, 2) := by decide +kernel
theorem dX8_nameOf_65 : decode cX8_nameOf 65 = .ok (.iconst 1, 1) := by decide +kernel
theorem dX8_nameOf_66 : decode cX8_nameOf 66 = .ok (.bipush 12, 2) := by decide +kernel
theorem dX8_nameOf_68 : decode cX8_nameOf 68 = .ok (.invokestatic 97, 3) := by decide +kernel
theorem dX8_nameOf_71 : decode cX8_nameOf 71 = .ok (.lor, 1) := by decide +kernel
theorem dX8_nameOf_72 : decode cX8_nameOf 72 = .ok (.lstore 9, 2) := by decide +kernel
theorem dX8_nameOf_74 : decode cX8_nameOf 74 = .ok (.iconst 2, 1) := by decide +kernel
theorem dX8_nameOf_75 : decode cX8_nameOf 75 = .ok (.bipush 25, 2) := by decide +kernel
theorem dX8_nameOf_77 : decode cX8_nameOf 77 = .ok (.bipush 13, 2) := by decide +kernel
theorem dX8_nameOf_79 : decode cX8_nameOf 79 = .ok (.bipush 15, 2) := by decide +kernel
theorem dX8_nameOf_81 : decode cX8_nameOf 81 = .ok (.invokestatic 97, 3) := by decide +kernel
theorem dX8_nameOf_84 : decode cX8_nameOf 84 = .ok (.bipush 15, 2) := by decide +kernel
theorem dX8_nameOf_86 : decode cX8_nameOf 86 = .ok (.lshl, 1) := by decide +kernel
theorem dX8_nameOf_87 : decode cX8_nameOf 87 = .ok (.iconst 0, 1) := by decide +kernel
theorem dX8_nameOf_88 : decode cX8_nameOf 88 = .ok (.bipush 14, 2) := by decide +kernel
theorem dX8_nameOf_90 : decode cX8_nameOf 90 = .ok (.bipush 20, 2) := by decide +kernel
theorem dX8_nameOf_92 : decode cX8_nameOf 92 = .ok (.bipush 8, 2) := by decide +kernel
theorem dX8_nameOf_94 : decode cX8_nameOf 94 = .ok (.invokestatic 97, 3) := by decide +kernel
theorem dX8_nameOf_97 : decode cX8_nameOf 97 = .ok (.lor, 1) := by decide +kernel
theorem dX8_nameOf_98 : decode cX8_nameOf 98 = .ok (.lstore 11, 2) := by decide +kernel
theorem dX8_nameOf_100 : decode cX8_nameOf 100 = .ok (.lload 11, 2) := by decide +kernel
theorem dX8_nameOf_102 : decode cX8_nameOf 102 = .ok (.bipush 15, 2) := by decide +kernel
theorem dX8_nameOf_104 : decode cX8_nameOf 104 = .ok (.lshl, 1) := by decide +kernel
theorem dX8_nameOf_105 : decode cX8_nameOf 105 = .ok (.iconst 0, 1) := by decide +kernel
theorem dX8_nameOf_106 : decode cX8_nameOf 106 = .ok (.iconst 4, 1) := by decide +kernel
theorem dX8_nameOf_107 : decode cX8_nameOf 107 = .ok (.iconst 1, 1) := by decide +kernel
theorem dX8_nameOf_108 : decode cX8_nameOf 108 = .ok (.bipush 25, 2) := by decide +kernel
theorem dX8_nameOf_110 : decode cX8_nameOf 110 = .ok (.invokestatic 97, 3) := by decide +kernel
theorem dX8_nameOf_113 : decode cX8_nameOf 113 = .ok (.lor, 1) := by decide +kernel
theorem dX8_nameOf_114 : decode cX8_nameOf 114 = .ok (.lstore 13, 2) := by decide +kernel
theorem dX8_nameOf_116 : decode cX8_nameOf 116 = .ok (.iconst 2, 1) := by decide +kernel
theorem dX8_nameOf_117 : decode cX8_nameOf 117 = .ok (.bipush 25, 2) := by decide +kernel
theorem dX8_nameOf_119 : decode cX8_nameOf 119 = .ok (.bipush 19, 2) := by decide +kernel
theorem dX8_nameOf_121 : decode cX8_nameOf 121 = .ok (.iconst 5, 1) := by decide +kernel
theorem dX8_nameOf_122 : decode cX8_nameOf 122 = .ok (.invokestatic 97, 3) := by decide +kernel
theorem dX8_nameOf_125 : decode cX8_nameOf 125 = .ok (.bipush 20, 2) := by decide +kernel
theorem dX8_nameOf_127 : decode cX8_nameOf 127 = .ok (.lshl, 1) := by decide +kernel
theorem dX8_nameOf_128 : decode cX8_nameOf 128 = .ok (.bipush 20, 2) := by decide +kernel
theorem dX8_nameOf_130 : decode cX8_nameOf 130 = .ok (.bipush 16, 2) := by decide +kernel
theorem dX8_nameOf_132 : decode cX8_nameOf 132 = .ok (.bipush 15, 2) := by decide +kernel
theorem dX8_nameOf_134 : decode cX8_nameOf 134 = .ok (.bipush 19, 2) := by decide +kernel
theorem dX8_nameOf_136 : decode cX8_nameOf 136 = .ok (.invokestatic 97, 3) := by decide +kernel
theorem dX8_nameOf_139 : decode cX8_nameOf 139 = .ok (.lor, 1) := by decide +kernel
theorem dX8_nameOf_140 : decode cX8_nameOf 140 = .ok (.lstore 15, 2) := by decide +kernel
theorem dX8_nameOf_142 : decode cX8_nameOf 142 = .ok (.iconst 2, 1) := by decide +kernel
theorem dX8_nameOf_143 : decode cX8_nameOf 143 = .ok (.bipush 25, 2) := by decide +kernel
theorem dX8_nameOf_145 : decode cX8_nameOf 145 = .ok (.iconst 4, 1) := by decide +kernel
theorem dX8_nameOf_146 : decode cX8_nameOf 146 = .ok (.iconst 1, 1) := by decide +kernel
theorem dX8_nameOf_147 : decode cX8_nameOf 147 = .ok (.invokestatic 97, 3) := by decide +kernel
theorem dX8_nameOf_150 : decode cX8_nameOf 150 = .ok (.iconst 5, 1) := by decide +kernel
theorem dX8_nameOf_151 : decode cX8_nameOf 151 = .ok (.lshl, 1) := by decide +kernel
theorem dX8_nameOf_152 : decode cX8_nameOf 152 = .ok (.ldc2_w 105, 3) := by decide +kernel
theorem dX8_nameOf_155 : decode cX8_nameOf 155 = .ok (.lor, 1) := by decide +kernel
theorem dX8_nameOf_156 : decode cX8_nameOf 156 = .ok (.lstore 17, 2) := by decide +kernel
theorem dX8_nameOf_158 : decode cX8_nameOf 158 = .ok (.iload_n 2, 1) := by decide +kernel
theorem dX8_nameOf_159 : decode cX8_nameOf 159 = .ok (.iconst 4, 1) := by decide +kernel
theorem dX8_nameOf_160 : decode cX8_nameOf 160 = .ok (.if_icmp .ne 13, 3) := by decide +kernel
theorem dX8_nameOf_163 : decode cX8_nameOf 163 = .ok (.lload_n 0, 1) := by decide +kernel
theorem dX8_nameOf_164 : decode cX8_nameOf 164 = .ok (.lload_n 3, 1) := by decide +kernel
theorem dX8_nameOf_165 : decode cX8_nameOf 165 = .ok (.lcmp, 1) := by decide +kernel
theorem dX8_nameOf_166 : decode cX8_nameOf 166 = .ok (.ifCond .ne 7, 3) := by decide +kernel
theorem dX8_nameOf_169 : decode cX8_nameOf 169 = .ok (.iconst 0, 1) := by decide +kernel
theorem dX8_nameOf_170 : decode cX8_nameOf 170 = .ok (.goto 122, 3) := by decide +kernel
theorem dX8_nameOf_173 : decode cX8_nameOf 173 = .ok (.iload_n 2, 1) := by decide +kernel
theorem dX8_nameOf_174 : decode cX8_nameOf 174 = .ok (.iconst 5, 1) := by decide +kernel
theorem dX8_nameOf_175 : decode cX8_nameOf 175 = .ok (.if_icmp .ne 14, 3) := by decide +kernel
theorem dX8_nameOf_178 : decode cX8_nameOf 178 = .ok (.lload_n 0, 1) := by decide +kernel
theorem dX8_nameOf_179 : decode cX8_nameOf 179 = .ok (.lload 5, 2) := by decide +kernel
theorem dX8_nameOf_181 : decode cX8_nameOf 181 = .ok (.lcmp, 1) := by decide +kernel
theorem dX8_nameOf_182 : decode cX8_nameOf 182 = .ok (.ifCond .ne 7, 3) := by decide +kernel
theorem dX8_nameOf_185 : decode cX8_nameOf 185 = .ok (.iconst 2, 1) := by decide +kernel
theorem dX8_nameOf_186 : decode cX8_nameOf 186 = .ok (.goto 106, 3) := by decide +kernel
theorem dX8_nameOf_189 : decode cX8_nameOf 189 = .ok (.iload_n 2, 1) := by decide +kernel
theorem dX8_nameOf_190 : decode cX8_nameOf 190 = .ok (.iconst 5, 1) := by decide +kernel
theorem dX8_nameOf_191 : decode cX8_nameOf 191 = .ok (.if_icmp .ne 14, 3) := by decide +kernel
theorem dX8_nameOf_194 : decode cX8_nameOf 194 = .ok (.lload_n 0, 1) := by decide +kernel
theorem dX8_nameOf_195 : decode cX8_nameOf 195 = .ok (.lload 7, 2) := by decide +kernel
theorem dX8_nameOf_197 : decode cX8_nameOf 197 = .ok (.lcmp, 1) := by decide +kernel
theorem dX8_nameOf_198 : decode cX8_nameOf 198 = .ok (.ifCond .ne 7, 3) := by decide +kernel
theorem dX8_nameOf_201 : decode cX8_nameOf 201 = .ok (.iconst 3, 1) := by decide +kernel
theorem dX8_nameOf_202 : decode cX8_nameOf 202 = .ok (.goto 90, 3) := by decide +kernel
theorem dX8_nameOf_205 : decode cX8_nameOf 205 = .ok (.iload_n 2, 1) := by decide +kernel
theorem dX8_nameOf_206 : decode cX8_nameOf 206 = .ok (.bipush 8, 2) := by decide +kernel
theorem dX8_nameOf_208 : decode cX8_nameOf 208 = .ok (.if_icmp .ne 14, 3) := by decide +kernel
theorem dX8_nameOf_211 : decode cX8_nameOf 211 = .ok (.lload_n 0, 1) := by decide +kernel
theorem dX8_nameOf_212 : decode cX8_nameOf 212 = .ok (.lload 9, 2) := by decide +kernel
theorem dX8_nameOf_214 : decode cX8_nameOf 214 = .ok (.lcmp, 1) := by decide +kernel
theorem dX8_nameOf_215 : decode cX8_nameOf 215 = .ok (.ifCond .ne 7, 3) := by decide +kernel
theorem dX8_nameOf_218 : decode cX8_nameOf 218 = .ok (.iconst 1, 1) := by decide +kernel
theorem dX8_nameOf_219 : decode cX8_nameOf 219 = .ok (.goto 73, 3) := by decide +kernel
theorem dX8_nameOf_222 : decode cX8_nameOf 222 = .ok (.iload_n 2, 1) := by decide +kernel
theorem dX8_nameOf_223 : decode cX8_nameOf 223 = .ok (.bipush 7, 2) := by decide +kernel
theorem dX8_nameOf_225 : decode cX8_nameOf 225 = .ok (.if_icmp .ne 14, 3) := by decide +kernel
theorem dX8_nameOf_228 : decode cX8_nameOf 228 = .ok (.lload_n 0, 1) := by decide +kernel
theorem dX8_nameOf_229 : decode cX8_nameOf 229 = .ok (.lload 11, 2) := by decide +kernel
theorem dX8_nameOf_231 : decode cX8_nameOf 231 = .ok (.lcmp, 1) := by decide +kernel
theorem dX8_nameOf_232 : decode cX8_nameOf 232 = .ok (.ifCond .ne 7, 3) := by decide +kernel
theorem dX8_nameOf_235 : decode cX8_nameOf 235 = .ok (.iconst 4, 1) := by decide +kernel
theorem dX8_nameOf_236 : decode cX8_nameOf 236 = .ok (.goto 56, 3) := by decide +kernel
theorem dX8_nameOf_239 : decode cX8_nameOf 239 = .ok (.iload_n 2, 1) := by decide +kernel
theorem dX8_nameOf_240 : decode cX8_nameOf 240 = .ok (.bipush 10, 2) := by decide +kernel
theorem dX8_nameOf_242 : decode cX8_nameOf 242 = .ok (.if_icmp .ne 14, 3) := by decide +kernel
theorem dX8_nameOf_245 : decode cX8_nameOf 245 = .ok (.lload_n 0, 1) := by decide +kernel
theorem dX8_nameOf_246 : decode cX8_nameOf 246 = .ok (.lload 13, 2) := by decide +kernel
theorem dX8_nameOf_248 : decode cX8_nameOf 248 = .ok (.lcmp, 1) := by decide +kernel
theorem dX8_nameOf_249 : decode cX8_nameOf 249 = .ok (.ifCond .ne 7, 3) := by decide +kernel
theorem dX8_nameOf_252 : decode cX8_nameOf 252 = .ok (.iconst 5, 1) := by decide +kernel
theorem dX8_nameOf_253 : decode cX8_nameOf 253 = .ok (.goto 39, 3) := by decide +kernel
theorem dX8_nameOf_256 : decode cX8_nameOf 256 = .ok (.iload_n 2, 1) := by decide +kernel
theorem dX8_nameOf_257 : decode cX8_nameOf 257 = .ok (.bipush 8, 2) := by decide +kernel
theorem dX8_nameOf_259 : decode cX8_nameOf 259 = .ok (.if_icmp .ne 15, 3) := by decide +kernel
theorem dX8_nameOf_262 : decode cX8_nameOf 262 = .ok (.lload_n 0, 1) := by decide +kernel
theorem dX8_nameOf_263 : decode cX8_nameOf 263 = .ok (.lload 15, 2) := by decide +kernel
theorem dX8_nameOf_265 : decode cX8_nameOf 265 = .ok (.lcmp, 1) := by decide +kernel
theorem dX8_nameOf_266 : decode cX8_nameOf 266 = .ok (.ifCond .ne 8, 3) := by decide +kernel
theorem dX8_nameOf_269 : decode cX8_nameOf 269 = .ok (.bipush 6, 2) := by decide +kernel
theorem dX8_nameOf_271 : decode cX8_nameOf 271 = .ok (.goto 21, 3) := by decide +kernel
theorem dX8_nameOf_274 : decode cX8_nameOf 274 = .ok (.iload_n 2, 1) := by decide +kernel
theorem dX8_nameOf_275 : decode cX8_nameOf 275 = .ok (.iconst 5, 1) := by decide +kernel
theorem dX8_nameOf_276 : decode cX8_nameOf 276 = .ok (.if_icmp .ne 15, 3) := by decide +kernel
theorem dX8_nameOf_279 : decode cX8_nameOf 279 = .ok (.lload_n 0, 1) := by decide +kernel
theorem dX8_nameOf_280 : decode cX8_nameOf 280 = .ok (.lload 17, 2) := by decide +kernel
theorem dX8_nameOf_282 : decode cX8_nameOf 282 = .ok (.lcmp, 1) := by decide +kernel
theorem dX8_nameOf_283 : decode cX8_nameOf 283 = .ok (.ifCond .ne 8, 3) := by decide +kernel
theorem dX8_nameOf_286 : decode cX8_nameOf 286 = .ok (.bipush 7, 2) := by decide +kernel
theorem dX8_nameOf_288 : decode cX8_nameOf 288 = .ok (.goto 4, 3) := by decide +kernel
theorem dX8_nameOf_291 : decode cX8_nameOf 291 = .ok (.iconst (-1), 1) := by decide +kernel
theorem dX8_nameOf_292 : decode cX8_nameOf 292 = .ok (.ireturn, 1) := by decide +kernel
theorem dX8_freqOf_0 : decode cX8_freqOf 0 = .ok (.iconst 4, 1) := by decide +kernel
theorem dX8_freqOf_1 : decode cX8_freqOf 1 = .ok (.iconst 1, 1) := by decide +kernel
theorem dX8_freqOf_2 : decode cX8_freqOf 2 = .ok (.bipush 9, 2) := by decide +kernel
theorem dX8_freqOf_4 : decode cX8_freqOf 4 = .ok (.bipush 12, 2) := by decide +kernel
theorem dX8_freqOf_6 : decode cX8_freqOf 6 = .ok (.invokestatic 97, 3) := by decide +kernel
theorem dX8_freqOf_9 : decode cX8_freqOf 9 = .ok (.iconst 5, 1) := by decide +kernel
theorem dX8_freqOf_10 : decode cX8_freqOf 10 = .ok (.lshl, 1) := by decide +kernel
theorem dX8_freqOf_11 : decode cX8_freqOf 11 = .ok (.ldc2_w 105, 3) := by decide +kernel
theorem dX8_freqOf_14 : decode cX8_freqOf 14 = .ok (.lor, 1) := by decide +kernel
theorem dX8_freqOf_15 : decode cX8_freqOf 15 = .ok (.lstore_n 3, 1) := by decide +kernel
theorem dX8_freqOf_16 : decode cX8_freqOf 16 = .ok (.bipush 23, 2) := by decide +kernel
theorem dX8_freqOf_18 : decode cX8_freqOf 18 = .ok (.iconst 5, 1) := by decide +kernel
theorem dX8_freqOf_19 : decode cX8_freqOf 19 = .ok (.iconst 5, 1) := by decide +kernel
theorem dX8_freqOf_20 : decode cX8_freqOf 20 = .ok (.bipush 11, 2) := by decide +kernel
theorem dX8_freqOf_22 : decode cX8_freqOf 22 = .ok (.invokestatic 97, 3) := by decide +kernel
theorem dX8_freqOf_25 : decode cX8_freqOf 25 = .ok (.bipush 10, 2) := by decide +kernel
theorem dX8_freqOf_27 : decode cX8_freqOf 27 = .ok (.lshl, 1) := by decide +kernel
theorem dX8_freqOf_28 : decode cX8_freqOf 28 = .ok (.iconst 0, 1) := by decide +kernel
theorem dX8_freqOf_29 : decode cX8_freqOf 29 = .ok (.iconst 0, 1) := by decide +kernel
theorem dX8_freqOf_30 : decode cX8_freqOf 30 = .ok (.bipush 12, 2) := by decide +kernel
theorem dX8_freqOf_32 : decode cX8_freqOf 32 = .ok (.bipush 25, 2) := by decide +kernel
theorem dX8_freqOf_34 : decode cX8_freqOf 34 = .ok (.invokestatic 97, 3) := by decide +kernel
theorem dX8_freqOf_37 : decode cX8_freqOf 37 = .ok (.lor, 1) := by decide +kernel
theorem dX8_freqOf_38 : decode cX8_freqOf 38 = .ok (.lstore 5, 2) := by decide +kernel
theorem dX8_freqOf_40 : decode cX8_freqOf 40 = .ok (.bipush 13, 2) := by decide +kernel
theorem dX8_freqOf_42 : decode cX8_freqOf 42 = .ok (.bipush 15, 2) := by decide +kernel
theorem dX8_freqOf_44 : decode cX8_freqOf 44 = .ok (.bipush 14, 2) := by decide +kernel
theorem dX8_freqOf_46 : decode cX8_freqOf 46 = .ok (.bipush 20, 2) := by decide +kernel
theorem dX8_freqOf_48 : decode cX8_freqOf 48 = .ok (.invokestatic 97, 3) := by decide +kernel
theorem dX8_freqOf_51 : decode cX8_freqOf 51 = .ok (.bipush 15, 2) := by decide +kernel
theorem dX8_freqOf_53 : decode cX8_freqOf 53 = .ok (.lshl, 1) := by decide +kernel
theorem dX8_freqOf_54 : decode cX8_freqOf 54 = .ok (.iconst 0, 1) := by decide +kernel
theorem dX8_freqOf_55 : decode cX8_freqOf 55 = .ok (.bipush 8, 2) := by decide +kernel
theorem dX8_freqOf_57 : decode cX8_freqOf 57 = .ok (.bipush 12, 2) := by decide +kernel
theorem dX8_freqOf_59 : decode cX8_freqOf 59 = .ok (.bipush 25, 2) := by decide +kernel
theorem dX8_freqOf_61 : decode cX8_freqOf 61 = .ok (.invokestatic 97, 3) := by decide +kernel
theorem dX8_freqOf_64 : decode cX8_freqOf 64 = .ok (.lor, 1) := by decide +kernel
theorem dX8_freqOf_65 : decode cX8_freqOf 65 = .ok (.lstore 7, 2) := by decide +kernel
theorem dX8_freqOf_67 : decode cX8_freqOf 67 = .ok (.bipush 25, 2) := by decide +kernel
theorem dX8_freqOf_69 : decode cX8_freqOf 69 = .ok (.iconst 5, 1) := by decide +kernel
theorem dX8_freqOf_70 : decode cX8_freqOf 70 = .ok (.iconst 1, 1) := by decide +kernel
theorem dX8_freqOf_71 : decode cX8_freqOf 71 = .ok (.bipush 18, 2) := by decide +kernel
theorem dX8_freqOf_73 : decode cX8_freqOf 73 = .ok (.invokestatic 97, 3) := by decide +kernel
theorem dX8_freqOf_76 : decode cX8_freqOf 76 = .ok (.bipush 10, 2) := by decide +kernel
theorem dX8_freqOf_78 : decode cX8_freqOf 78 = .ok (.lshl, 1) := by decide +kernel
theorem dX8_freqOf_79 : decode cX8_freqOf 79 = .ok (.iconst 0, 1) := by decide +kernel
theorem dX8_freqOf_80 : decode cX8_freqOf 80 = .ok (.iconst 0, 1) := by decide +kernel
theorem dX8_freqOf_81 : decode cX8_freqOf 81 = .ok (.bipush 12, 2) := by decide +kernel
theorem dX8_freqOf_83 : decode cX8_freqOf 83 = .ok (.bipush 25, 2) := by decide +kernel
theorem dX8_freqOf_85 : decode cX8_freqOf 85 = .ok (.invokestatic 97, 3) := by decide +kernel
theorem dX8_freqOf_88 : decode cX8_freqOf 88 = .ok (.lor, 1) := by decide +kernel
theorem dX8_freqOf_89 : decode cX8_freqOf 89 = .ok (.lstore 9, 2) := by decide +kernel
theorem dX8_freqOf_91 : decode cX8_freqOf 91 = .ok (.iload_n 2, 1) := by decide +kernel
theorem dX8_freqOf_92 : decode cX8_freqOf 92 = .ok (.iconst 5, 1) := by decide +kernel
theorem dX8_freqOf_93 : decode cX8_freqOf 93 = .ok (.if_icmp .ne 13, 3) := by decide +kernel
theorem dX8_freqOf_96 : decode cX8_freqOf 96 = .ok (.lload_n 0, 1) := by decide +kernel
theorem dX8_freqOf_97 : decode cX8_freqOf 97 = .ok (.lload_n 3, 1) := by decide +kernel
theorem dX8_freqOf_98 : decode cX8_freqOf 98 = .ok (.lcmp, 1) := by decide +kernel
theorem dX8_freqOf_99 : decode cX8_freqOf 99 = .ok (.ifCond .ne 7, 3) := by decide +kernel
theorem dX8_freqOf_102 : decode cX8_freqOf 102 = .ok (.iconst 0, 1) := by decide +kernel
theorem dX8_freqOf_103 : decode cX8_freqOf 103 = .ok (.goto 55, 3) := by decide +kernel
theorem dX8_freqOf_106 : decode cX8_freqOf 106 = .ok (.iload_n 2, 1) := by decide +kernel
theorem dX8_freqOf_107 : decode cX8_freqOf 107 = .ok (.bipush 6, 2) := by decide +kernel
theorem dX8_freqOf_109 : decode cX8_freqOf 109 = .ok (.if_icmp .ne 14, 3) := by decide +kernel
theorem dX8_freqOf_112 : decode cX8_freqOf 112 = .ok (.lload_n 0, 1) := by decide +kernel
theorem dX8_freqOf_113 : decode cX8_freqOf 113 = .ok (.lload 5, 2) := by decide +kernel
theorem dX8_freqOf_115 : decode cX8_freqOf 115 = .ok (.lcmp, 1) := by decide +kernel
theorem dX8_freqOf_116 : decode cX8_freqOf 116 = .ok (.ifCond .ne 7, 3) := by decide +kernel
theorem dX8_freqOf_119 : decode cX8_freqOf 119 = .ok (.iconst 1, 1) := by decide +kernel
theorem dX8_freqOf_120 : decode cX8_freqOf 120 = .ok (.goto 38, 3) := by decide +kernel
theorem dX8_freqOf_123 : decode cX8_freqOf 123 = .ok (.iload_n 2, 1) := by decide +kernel
theorem dX8_freqOf_124 : decode cX8_freqOf 124 = .ok (.bipush 7, 2) := by decide +kernel
theorem dX8_freqOf_126 : decode cX8_freqOf 126 = .ok (.if_icmp .ne 14, 3) := by decide +kernel
theorem dX8_freqOf_129 : decode cX8_freqOf 129 = .ok (.lload_n 0, 1) := by decide +kernel
theorem dX8_freqOf_130 : decode cX8_freqOf 130 = .ok (.lload 7, 2) := by decide +kernel
theorem dX8_freqOf_132 : decode cX8_freqOf 132 = .ok (.lcmp, 1) := by decide +kernel
theorem dX8_freqOf_133 : decode cX8_freqOf 133 = .ok (.ifCond .ne 7, 3) := by decide +kernel
theorem dX8_freqOf_136 : decode cX8_freqOf 136 = .ok (.iconst 2, 1) := by decide +kernel
theorem dX8_freqOf_137 : decode cX8_freqOf 137 = .ok (.goto 21, 3) := by decide +kernel
theorem dX8_freqOf_140 : decode cX8_freqOf 140 = .ok (.iload_n 2, 1) := by decide +kernel
theorem dX8_freqOf_141 : decode cX8_freqOf 141 = .ok (.bipush 6, 2) := by decide +kernel
theorem dX8_freqOf_143 : decode cX8_freqOf 143 = .ok (.if_icmp .ne 14, 3) := by decide +kernel
theorem dX8_freqOf_146 : decode cX8_freqOf 146 = .ok (.lload_n 0, 1) := by decide +kernel
theorem dX8_freqOf_147 : decode cX8_freqOf 147 = .ok (.lload 9, 2) := by decide +kernel
theorem dX8_freqOf_149 : decode cX8_freqOf 149 = .ok (.lcmp, 1) := by decide +kernel
theorem dX8_freqOf_150 : decode cX8_freqOf 150 = .ok (.ifCond .ne 7, 3) := by decide +kernel
theorem dX8_freqOf_153 : decode cX8_freqOf 153 = .ok (.iconst 3, 1) := by decide +kernel
theorem dX8_freqOf_154 : decode cX8_freqOf 154 = .ok (.goto 4, 3) := by decide +kernel
theorem dX8_freqOf_157 : decode cX8_freqOf 157 = .ok (.iconst (-1), 1) := by decide +kernel
theorem dX8_freqOf_158 : decode cX8_freqOf 158 = .ok (.ireturn, 1) := by decide +kernel
theorem dX8_capitals_0 : decode cX8_capitals 0 = .ok (.iconst 0, 1) := by decide +kernel
theorem dX8_capitals_1 : decode cX8_capitals 1 = .ok (.istore_n 2, 1) := by decide +kernel
theorem dX8_capitals_2 : decode cX8_capitals 2 = .ok (.aload_n 0, 1) := by decide +kernel
theorem dX8_capitals_3 : decode cX8_capitals 3 = .ok (.iload_n 1, 1) := by decide +kernel
theorem dX8_capitals_4 : decode cX8_capitals 4 = .ok (.iload_n 2, 1) := by decide +kernel
theorem dX8_capitals_5 : decode cX8_capitals 5 = .ok (.iadd, 1) := by decide +kernel
theorem dX8_capitals_6 : decode cX8_capitals 6 = .ok (.invokevirtual 89, 3) := by decide +kernel
theorem dX8_capitals_9 : decode cX8_capitals 9 = .ok (.invokestatic 92, 3) := by decide +kernel
theorem dX8_capitals_12 : decode cX8_capitals 12 = .ok (.ifCond .eq 9, 3) := by decide +kernel
theorem dX8_capitals_15 : decode cX8_capitals 15 = .ok (.iinc 2 1, 3) := by decide +kernel
theorem dX8_capitals_18 : decode cX8_capitals 18 = .ok (.goto (-16), 3) := by decide +kernel
theorem dX8_capitals_21 : decode cX8_capitals 21 = .ok (.iload_n 2, 1) := by decide +kernel
theorem dX8_capitals_22 : decode cX8_capitals 22 = .ok (.ireturn, 1) := by decide +kernel
theorem dX8_number_0 : decode cX8_number 0 = .ok (.aload_n 0, 1) := by decide +kernel
theorem dX8_number_1 : decode cX8_number 1 = .ok (.getfield 107, 3) := by decide +kernel
theorem dX8_number_4 : decode cX8_number 4 = .ok (.istore_n 3, 1) := by decide +kernel
theorem dX8_number_5 : decode cX8_number 5 = .ok (.iconst 0, 1) := by decide +kernel
theorem dX8_number_6 : decode cX8_number 6 = .ok (.istore 4, 2) := by decide +kernel
theorem dX8_number_8 : decode cX8_number 8 = .ok (.iload_n 1, 1) := by decide +kernel
theorem dX8_number_9 : decode cX8_number 9 = .ok (.ifCond .ge 59, 3) := by decide +kernel
theorem dX8_number_12 : decode cX8_number 12 = .ok (.aload_n 0, 1) := by decide +kernel
theorem dX8_number_13 : decode cX8_number 13 = .ok (.aload_n 0, 1) := by decide +kernel
theorem dX8_number_14 : decode cX8_number 14 = .ok (.getfield 107, 3) := by decide +kernel
theorem dX8_number_17 : decode cX8_number 17 = .ok (.invokevirtual 89, 3) := by decide +kernel
theorem dX8_number_20 : decode cX8_number 20 = .ok (.bipush 43, 2) := by decide +kernel
theorem dX8_number_22 : decode cX8_number 22 = .ok (.if_icmp .eq 16, 3) := by decide +kernel
theorem dX8_number_25 : decode cX8_number 25 = .ok (.aload_n 0, 1) := by decide +kernel
theorem dX8_number_26 : decode cX8_number 26 = .ok (.aload_n 0, 1) := by decide +kernel
theorem dX8_number_27 : decode cX8_number 27 = .ok (.getfield 107, 3) := by decide +kernel
theorem dX8_number_30 : decode cX8_number 30 = .ok (.invokevirtual 89, 3) := by decide +kernel
theorem dX8_number_33 : decode cX8_number 33 = .ok (.bipush 45, 2) := by decide +kernel
theorem dX8_number_35 : decode cX8_number 35 = .ok (.if_icmp .ne 33, 3) := by decide +kernel
theorem dX8_number_38 : decode cX8_number 38 = .ok (.aload_n 0, 1) := by decide +kernel
theorem dX8_number_39 : decode cX8_number 39 = .ok (.aload_n 0, 1) := by decide +kernel
theorem dX8_number_40 : decode cX8_number 40 = .ok (.getfield 107, 3) := by decide +kernel
theorem dX8_number_43 : decode cX8_number 43 = .ok (.invokevirtual 89, 3) := by decide +kernel
theorem dX8_number_46 : decode cX8_number 46 = .ok (.bipush 45, 2) := by decide +kernel
theorem dX8_number_48 : decode cX8_number 48 = .ok (.if_icmp .ne 7, 3) := by decide +kernel
theorem dX8_number_51 : decode cX8_number 51 = .ok (.iconst 1, 1) := by decide +kernel
theorem dX8_number_52 : decode cX8_number 52 = .ok (.goto 4, 3) := by decide +kernel
theorem dX8_number_55 : decode cX8_number 55 = .ok (.iconst 0, 1) := by decide +kernel
theorem dX8_number_56 : decode cX8_number 56 = .ok (.istore 4, 2) := by decide +kernel
theorem dX8_number_58 : decode cX8_number 58 = .ok (.aload_n 0, 1) := by decide +kernel
theorem dX8_number_59 : decode cX8_number 59 = .ok (.dup, 1) := by decide +kernel
theorem dX8_number_60 : decode cX8_number 60 = .ok (.getfield 107, 3) := by decide +kernel
theorem dX8_number_63 : decode cX8_number 63 = .ok (.iconst 1, 1) := by decide +kernel
theorem dX8_number_64 : decode cX8_number 64 = .ok (.iadd, 1) := by decide +kernel
theorem dX8_number_65 : decode cX8_number 65 = .ok (.putfield 107, 3) := by decide +kernel
theorem dX8_number_68 : decode cX8_number 68 = .ok (.aload_n 0, 1) := by decide +kernel
theorem dX8_number_69 : decode cX8_number 69 = .ok (.aload_n 0, 1) := by decide +kernel
theorem dX8_number_70 : decode cX8_number 70 = .ok (.getfield 107, 3) := by decide +kernel
theorem dX8_number_73 : decode cX8_number 73 = .ok (.invokevirtual 89, 3) := by decide +kernel
theorem dX8_number_76 : decode cX8_number 76 = .ok (.invokestatic 110, 3) := by decide +kernel
theorem dX8_number_79 : decode cX8_number 79 = .ok (.ifCond .ne 14, 3) := by decide +kernel
theorem dX8_number_82 : decode cX8_number 82 = .ok (.aload_n 0, 1) := by decide +kernel
theorem dX8_number_83 : decode cX8_number 83 = .ok (.iconst 1, 1) := by decide +kernel
theorem dX8_number_84 : decode cX8_number 84 = .ok (.aload_n 0, 1) := by decide +kernel
theorem dX8_number_85 : decode cX8_number 85 = .ok (.getfield 107, 3) := by decide +kernel
theorem dX8_number_88 : decode cX8_number 88 = .ok (.invokevirtual 113, 3) := by decide +kernel
theorem dX8_number_91 : decode cX8_number 91 = .ok (.iconst 0, 1) := by decide +kernel
theorem dX8_number_92 : decode cX8_number 92 = .ok (.ireturn, 1) := by decide +kernel
theorem dX8_number_93 : decode cX8_number 93 = .ok (.lconst 0, 1) := by decide +kernel
theorem dX8_number_94 : decode cX8_number 94 = .ok (.lstore 5, 2) := by decide +kernel
theorem dX8_number_96 : decode cX8_number 96 = .ok (.aload_n 0, 1) := by decide +kernel
theorem dX8_number_97 : decode cX8_number 97 = .ok (.aload_n 0, 1) := by decide +kernel
theorem dX8_number_98 : decode cX8_number 98 = .ok (.getfield 107, 3) := by decide +kernel
theorem dX8_number_101 : decode cX8_number 101 = .ok (.invokevirtual 89, 3) := by decide +kernel
theorem dX8_number_104 : decode cX8_number 104 = .ok (.invokestatic 110, 3) := by decide +kernel
theorem dX8_number_107 : decode cX8_number 107 = .ok (.ifCond .eq 57, 3) := by decide +kernel
theorem dX8_number_110 : decode cX8_number 110 = .ok (.lload 5, 2) := by decide +kernel
theorem dX8_number_112 : decode cX8_number 112 = .ok (.ldc2_w 117, 3) := by decide +kernel
theorem dX8_number_115 : decode cX8_number 115 = .ok (.lmul, 1) := by decide +kernel
theorem dX8_number_116 : decode cX8_number 116 = .ok (.aload_n 0, 1) := by decide +kernel
theorem dX8_number_117 : decode cX8_number 117 = .ok (.aload_n 0, 1) := by decide +kernel
theorem dX8_number_118 : decode cX8_number 118 = .ok (.getfield 107, 3) := by decide +kernel
theorem dX8_number_121 : decode cX8_number 121 = .ok (.invokevirtual 89, 3) := by decide +kernel
theorem dX8_number_124 : decode cX8_number 124 = .ok (.i2l, 1) := by decide +kernel
theorem dX8_number_125 : decode cX8_number 125 = .ok (.ladd, 1) := by decide +kernel
theorem dX8_number_126 : decode cX8_number 126 = .ok (.ldc2_w 119, 3) := by decide +kernel
theorem dX8_number_129 : decode cX8_number 129 = .ok (.lsub, 1) := by decide +kernel
theorem dX8_number_130 : decode cX8_number 130 = .ok (.lstore 5, 2) := by decide +kernel
theorem dX8_number_132 : decode cX8_number 132 = .ok (.lload 5, 2) := by decide +kernel
theorem dX8_number_134 : decode cX8_number 134 = .ok (.ldc2_w 121, 3) := by decide +kernel
theorem dX8_number_137 : decode cX8_number 137 = .ok (.lcmp, 1) := by decide +kernel
theorem dX8_number_138 : decode cX8_number 138 = .ok (.ifCond .le 9, 3) := by decide +kernel
theorem dX8_number_141 : decode cX8_number 141 = .ok (.ldc2_w 121, 3) := by decide +kernel
theorem dX8_number_144 : decode cX8_number 144 = .ok (.goto 5, 3) := by decide +kernel
theorem dX8_number_147 : decode cX8_number 147 = .ok (.lload 5, 2) := by decide +kernel
theorem dX8_number_149 : decode cX8_number 149 = .ok (.lstore 5, 2) := by decide +kernel
theorem dX8_number_151 : decode cX8_number 151 = .ok (.aload_n 0, 1) := by decide +kernel
theorem dX8_number_152 : decode cX8_number 152 = .ok (.dup, 1) := by decide +kernel
theorem dX8_number_153 : decode cX8_number 153 = .ok (.getfield 107, 3) := by decide +kernel
theorem dX8_number_156 : decode cX8_number 156 = .ok (.iconst 1, 1) := by decide +kernel
theorem dX8_number_157 : decode cX8_number 157 = .ok (.iadd, 1) := by decide +kernel
theorem dX8_number_158 : decode cX8_number 158 = .ok (.putfield 107, 3) := by decide +kernel
theorem dX8_number_161 : decode cX8_number 161 = .ok (.goto (-65), 3) := by decide +kernel
theorem dX8_number_164 : decode cX8_number 164 = .ok (.iload 4, 2) := by decide +kernel
theorem dX8_number_166 : decode cX8_number 166 = .ok (.ifCond .eq 9, 3) := by decide +kernel
theorem dX8_number_169 : decode cX8_number 169 = .ok (.lload 5, 2) := by decide +kernel
theorem dX8_number_171 : decode cX8_number 171 = .ok (.lneg, 1) := by decide +kernel
theorem dX8_number_172 : decode cX8_number 172 = .ok (.goto 5, 3) := by decide +kernel
theorem dX8_number_175 : decode cX8_number 175 = .ok (.lload 5, 2) := by decide +kernel
theorem dX8_number_177 : decode cX8_number 177 = .ok (.lstore 5, 2) := by decide +kernel
theorem dX8_number_179 : decode cX8_number 179 = .ok (.lload 5, 2) := by decide +kernel
theorem dX8_number_181 : decode cX8_number 181 = .ok (.iload_n 1, 1) := by decide +kernel
theorem dX8_number_182 : decode cX8_number 182 = .ok (.i2l, 1) := by decide +kernel
theorem dX8_number_183 : decode cX8_number 183 = .ok (.lcmp, 1) := by decide +kernel
theorem dX8_number_184 : decode cX8_number 184 = .ok (.ifCond .lt 22, 3) := by decide +kernel
theorem dX8_number_187 : decode cX8_number 187 = .ok (.lload 5, 2) := by decide +kernel
theorem dX8_number_189 : decode cX8_number 189 = .ok (.iload_n 2, 1) := by decide +kernel
theorem dX8_number_190 : decode cX8_number 190 = .ok (.i2l, 1) := by decide +kernel
theorem dX8_number_191 : decode cX8_number 191 = .ok (.lcmp, 1) := by decide +kernel
theorem dX8_number_192 : decode cX8_number 192 = .ok (.ifCond .gt 14, 3) := by decide +kernel
theorem dX8_number_195 : decode cX8_number 195 = .ok (.iload_n 1, 1) := by decide +kernel
theorem dX8_number_196 : decode cX8_number 196 = .ok (.ifCond .ge 16, 3) := by decide +kernel
theorem dX8_number_199 : decode cX8_number 199 = .ok (.lload 5, 2) := by decide +kernel
theorem dX8_number_201 : decode cX8_number 201 = .ok (.lconst 0, 1) := by decide +kernel
theorem dX8_number_202 : decode cX8_number 202 = .ok (.lcmp, 1) := by decide +kernel
theorem dX8_number_203 : decode cX8_number 203 = .ok (.ifCond .ne 9, 3) := by decide +kernel
theorem dX8_number_206 : decode cX8_number 206 = .ok (.aload_n 0, 1) := by decide +kernel
theorem dX8_number_207 : decode cX8_number 207 = .ok (.iconst 2, 1) := by decide +kernel
theorem dX8_number_208 : decode cX8_number 208 = .ok (.iload_n 3, 1) := by decide +kernel
theorem dX8_number_209 : decode cX8_number 209 = .ok (.invokevirtual 113, 3) := by decide +kernel
theorem dX8_number_212 : decode cX8_number 212 = .ok (.lload 5, 2) := by decide +kernel
theorem dX8_number_214 : decode cX8_number 214 = .ok (.l2i, 1) := by decide +kernel
theorem dX8_number_215 : decode cX8_number 215 = .ok (.ireturn, 1) := by decide +kernel
theorem dX8_untilDate_0 : decode cX8_untilDate 0 = .ok (.aload_n 0, 1) := by decide +kernel
theorem dX8_untilDate_1 : decode cX8_untilDate 1 = .ok (.getfield 107, 3) := by decide +kernel
theorem dX8_untilDate_4 : decode cX8_untilDate 4 = .ok (.istore_n 1, 1) := by decide +kernel
theorem dX8_untilDate_5 : decode cX8_untilDate 5 = .ok (.aload_n 0, 1) := by decide +kernel
theorem dX8_untilDate_6 : decode cX8_untilDate 6 = .ok (.aload_n 0, 1) := by decide +kernel
theorem dX8_untilDate_7 : decode cX8_untilDate 7 = .ok (.aload_n 0, 1) := by decide +kernel
theorem dX8_untilDate_8 : decode cX8_untilDate 8 = .ok (.iconst 0, 1) := by decide +kernel
theorem dX8_untilDate_9 : decode cX8_untilDate 9 = .ok (.ldc 123, 2) := by decide +kernel
theorem dX8_untilDate_11 : decode cX8_untilDate 11 = .ok (.invokevirtual 124, 3) := by decide +kernel
theorem dX8_untilDate_14 : decode cX8_untilDate 14 = .ok (.invokevirtual 127, 3) := by decide +kernel
theorem dX8_untilDate_17 : decode cX8_untilDate 17 = .ok (.putfield 130, 3) := by decide +kernel
theorem dX8_untilDate_20 : decode cX8_untilDate 20 = .ok (.aload_n 0, 1) := by decide +kernel
theorem dX8_untilDate_21 : decode cX8_untilDate 21 = .ok (.getfield 130, 3) := by decide +kernel
theorem dX8_untilDate_24 : decode cX8_untilDate 24 = .ok (.ifCond .ge 9, 3) := by decide +kernel
theorem dX8_untilDate_27 : decode cX8_untilDate 27 = .ok (.aload_n 0, 1) := by decide +kernel
theorem dX8_untilDate_28 : decode cX8_untilDate 28 = .ok (.iconst 2, 1) := by decide +kernel
theorem dX8_untilDate_29 : decode cX8_untilDate 29 = .ok (.iload_n 1, 1) := by decide +kernel
theorem dX8_untilDate_30 : decode cX8_untilDate 30 = .ok (.invokevirtual 113, 3) := by decide +kernel
theorem dX8_untilDate_33 : decode cX8_untilDate 33 = .ok (.return_, 1) := by decide +kernel
theorem dX8_weekday_0 : decode cX8_weekday 0 = .ok (.bipush 100, 2) := by decide +kernel
theorem dX8_weekday_2 : decode cX8_weekday 2 = .ok (.iload_n 0, 1) := by decide +kernel
theorem dX8_weekday_3 : decode cX8_weekday 3 = .ok (.imul, 1) := by decide +kernel
theorem dX8_weekday_4 : decode cX8_weekday 4 = .ok (.iload_n 1, 1) := by decide +kernel
theorem dX8_weekday_5 : decode cX8_weekday 5 = .ok (.iadd, 1) := by decide +kernel
theorem dX8_weekday_6 : decode cX8_weekday 6 = .ok (.istore_n 2, 1) := by decide +kernel
theorem dX8_weekday_7 : decode cX8_weekday 7 = .ok (.iload_n 2, 1) := by decide +kernel
theorem dX8_weekday_8 : decode cX8_weekday 8 = .ok (.sipush 7779, 3) := by decide +kernel
theorem dX8_weekday_11 : decode cX8_weekday 11 = .ok (.if_icmp .ne 7, 3) := by decide +kernel
theorem dX8_weekday_14 : decode cX8_weekday 14 = .ok (.iconst 0, 1) := by decide +kernel
theorem dX8_weekday_15 : decode cX8_weekday 15 = .ok (.goto 71, 3) := by decide +kernel
theorem dX8_weekday_18 : decode cX8_weekday 18 = .ok (.iload_n 2, 1) := by decide +kernel
theorem dX8_weekday_19 : decode cX8_weekday 19 = .ok (.sipush 8485, 3) := by decide +kernel
theorem dX8_weekday_22 : decode cX8_weekday 22 = .ok (.if_icmp .ne 7, 3) := by decide +kernel
theorem dX8_weekday_25 : decode cX8_weekday 25 = .ok (.iconst 1, 1) := by decide +kernel
theorem dX8_weekday_26 : decode cX8_weekday 26 = .ok (.goto 60, 3) := by decide +kernel
theorem dX8_weekday_29 : decode cX8_weekday 29 = .ok (.iload_n 2, 1) := by decide +kernel
theorem dX8_weekday_30 : decode cX8_weekday 30 = .ok (.sipush 8769, 3) := by decide +kernel
theorem dX8_weekday_33 : decode cX8_weekday 33 = .ok (.if_icmp .ne 7, 3) := by decide +kernel
theorem dX8_weekday_36 : decode cX8_weekday 36 = .ok (.iconst 2, 1) := by decide +kernel
theorem dX8_weekday_37 : decode cX8_weekday 37 = .ok (.goto 49, 3) := by decide +kernel
theorem dX8_weekday_40 : decode cX8_weekday 40 = .ok (.iload_n 2, 1) := by decide +kernel
theorem dX8_weekday_41 : decode cX8_weekday 41 = .ok (.sipush 8472, 3) := by decide +kernel
theorem dX8_weekday_44 : decode cX8_weekday 44 = .ok (.if_icmp .ne 7, 3) := by decide +kernel
theorem dX8_weekday_47 : decode cX8_weekday 47 = .ok (.iconst 3, 1) := by decide +kernel
theorem dX8_weekday_48 : decode cX8_weekday 48 = .ok (.goto 38, 3) := by decide +kernel
theorem dX8_weekday_51 : decode cX8_weekday 51 = .ok (.iload_n 2, 1) := by decide +kernel
theorem dX8_weekday_52 : decode cX8_weekday 52 = .ok (.sipush 7082, 3) := by decide +kernel
theorem dX8_weekday_55 : decode cX8_weekday 55 = .ok (.if_icmp .ne 7, 3) := by decide +kernel
theorem dX8_weekday_58 : decode cX8_weekday 58 = .ok (.iconst 4, 1) := by decide +kernel
theorem dX8_weekday_59 : decode cX8_weekday 59 = .ok (.goto 27, 3) := by decide +kernel
theorem dX8_weekday_62 : decode cX8_weekday 62 = .ok (.iload_n 2, 1) := by decide +kernel
theorem dX8_weekday_63 : decode cX8_weekday 63 = .ok (.sipush 8365, 3) := by decide +kernel
theorem dX8_weekday_66 : decode cX8_weekday 66 = .ok (.if_icmp .ne 7, 3) := by decide +kernel
theorem dX8_weekday_69 : decode cX8_weekday 69 = .ok (.iconst 5, 1) := by decide +kernel
theorem dX8_weekday_70 : decode cX8_weekday 70 = .ok (.goto 16, 3) := by decide +kernel
theorem dX8_weekday_73 : decode cX8_weekday 73 = .ok (.iload_n 2, 1) := by decide +kernel
theorem dX8_weekday_74 : decode cX8_weekday 74 = .ok (.sipush 8385, 3) := by decide +kernel
theorem dX8_weekday_77 : decode cX8_weekday 77 = .ok (.if_icmp .ne 8, 3) := by decide +kernel
theorem dX8_weekday_80 : decode cX8_weekday 80 = .ok (.bipush 6, 2) := by decide +kernel
theorem dX8_weekday_82 : decode cX8_weekday 82 = .ok (.goto 4, 3) := by decide +kernel
theorem dX8_weekday_85 : decode cX8_weekday 85 = .ok (.iconst (-1), 1) := by decide +kernel
theorem dX8_weekday_86 : decode cX8_weekday 86 = .ok (.ireturn, 1) := by decide +kernel
theorem dX8_dayItem_0 : decode cX8_dayItem 0 = .ok (.iconst 0, 1) := by decide +kernel
theorem dX8_dayItem_1 : decode cX8_dayItem 1 = .ok (.istore_n 1, 1) := by decide +kernel
theorem dX8_dayItem_2 : decode cX8_dayItem 2 = .ok (.aload_n 0, 1) := by decide +kernel
theorem dX8_dayItem_3 : decode cX8_dayItem 3 = .ok (.aload_n 0, 1) := by decide +kernel
theorem dX8_dayItem_4 : decode cX8_dayItem 4 = .ok (.getfield 107, 3) := by decide +kernel
theorem dX8_dayItem_7 : decode cX8_dayItem 7 = .ok (.invokevirtual 89, 3) := by decide +kernel
theorem dX8_dayItem_10 : decode cX8_dayItem 10 = .ok (.istore_n 2, 1) := by decide +kernel
theorem dX8_dayItem_11 : decode cX8_dayItem 11 = .ok (.iload_n 2, 1) := by decide +kernel
theorem dX8_dayItem_12 : decode cX8_dayItem 12 = .ok (.bipush 43, 2) := by decide +kernel
theorem dX8_dayItem_14 : decode cX8_dayItem 14 = .ok (.if_icmp .eq 16, 3) := by decide +kernel
theorem dX8_dayItem_17 : decode cX8_dayItem 17 = .ok (.iload_n 2, 1) := by decide +kernel
theorem dX8_dayItem_18 : decode cX8_dayItem 18 = .ok (.bipush 45, 2) := by decide +kernel
theorem dX8_dayItem_20 : decode cX8_dayItem 20 = .ok (.if_icmp .eq 10, 3) := by decide +kernel
theorem dX8_dayItem_23 : decode cX8_dayItem 23 = .ok (.iload_n 2, 1) := by decide +kernel
theorem dX8_dayItem_24 : decode cX8_dayItem 24 = .ok (.invokestatic 110, 3) := by decide +kernel
theorem dX8_dayItem_27 : decode cX8_dayItem 27 = .ok (.ifCond .eq 17, 3) := by decide +kernel
theorem dX8_dayItem_30 : decode cX8_dayItem 30 = .ok (.aload_n 0, 1) := by decide +kernel
theorem dX8_dayItem_31 : decode cX8_dayItem 31 = .ok (.bipush (-53), 2) := by decide +kernel
theorem dX8_dayItem_33 : decode cX8_dayItem 33 = .ok (.bipush 53, 2) := by decide +kernel
theorem dX8_dayItem_35 : decode cX8_dayItem 35 = .ok (.invokevirtual 124, 3) := by decide +kernel
theorem dX8_dayItem_38 : decode cX8_dayItem 38 = .ok (.istore_n 1, 1) := by decide +kernel
theorem dX8_dayItem_39 : decode cX8_dayItem 39 = .ok (.aload_n 0, 1) := by decide +kernel
theorem dX8_dayItem_40 : decode cX8_dayItem 40 = .ok (.iconst 1, 1) := by decide +kernel
theorem dX8_dayItem_41 : decode cX8_dayItem 41 = .ok (.putfield 133, 3) := by decide +kernel
theorem dX8_dayItem_44 : decode cX8_dayItem 44 = .ok (.aload_n 0, 1) := by decide +kernel
theorem dX8_dayItem_45 : decode cX8_dayItem 45 = .ok (.getfield 107, 3) := by decide +kernel
theorem dX8_dayItem_48 : decode cX8_dayItem 48 = .ok (.istore_n 3, 1) := by decide +kernel
theorem dX8_dayItem_49 : decode cX8_dayItem 49 = .ok (.iconst 0, 1) := by decide +kernel
theorem dX8_dayItem_50 : decode cX8_dayItem 50 = .ok (.istore 4, 2) := by decide +kernel
theorem dX8_dayItem_52 : decode cX8_dayItem 52 = .ok (.iload 4, 2) := by decide +kernel
theorem dX8_dayItem_54 : decode cX8_dayItem 54 = .ok (.iconst 2, 1) := by decide +kernel
theorem dX8_dayItem_55 : decode cX8_dayItem 55 = .ok (.if_icmp .ge 49, 3) := by decide +kernel
theorem dX8_dayItem_58 : decode cX8_dayItem 58 = .ok (.aload_n 0, 1) := by decide +kernel
theorem dX8_dayItem_59 : decode cX8_dayItem 59 = .ok (.getfield 86, 3) := by decide +kernel
theorem dX8_dayItem_62 : decode cX8_dayItem 62 = .ok (.ifCond .ne 42, 3) := by decide +kernel
theorem dX8_dayItem_65 : decode cX8_dayItem 65 = .ok (.aload_n 0, 1) := by decide +kernel
theorem dX8_dayItem_66 : decode cX8_dayItem 66 = .ok (.aload_n 0, 1) := by decide +kernel
theorem dX8_dayItem_67 : decode cX8_dayItem 67 = .ok (.getfield 107, 3) := by decide +kernel
theorem dX8_dayItem_70 : decode cX8_dayItem 70 = .ok (.invokevirtual 89, 3) := by decide +kernel
theorem dX8_dayItem_73 : decode cX8_dayItem 73 = .ok (.invokestatic 92, 3) := by decide +kernel
theorem dX8_dayItem_76 : decode cX8_dayItem 76 = .ok (.ifCond .ne 12, 3) := by decide +kernel
theorem dX8_dayItem_79 : decode cX8_dayItem 79 = .ok (.aload_n 0, 1) := by decide +kernel
theorem dX8_dayItem_80 : decode cX8_dayItem 80 = .ok (.iconst 1, 1) := by decide +kernel
theorem dX8_dayItem_81 : decode cX8_dayItem 81 = .ok (.aload_n 0, 1) := by decide +kernel
theorem dX8_dayItem_82 : decode cX8_dayItem 82 = .ok (.getfield 107, 3) := by decide +kernel
theorem dX8_dayItem_85 : decode cX8_dayItem 85 = .ok (.invokevirtual 113, 3) := by decide +kernel
theorem dX8_dayItem_88 : decode cX8_dayItem 88 = .ok (.aload_n 0, 1) := by decide +kernel
theorem dX8_dayItem_89 : decode cX8_dayItem 89 = .ok (.dup, 1) := by decide +kernel
theorem dX8_dayItem_90 : decode cX8_dayItem 90 = .ok (.getfield 107, 3) := by decide +kernel
theorem dX8_dayItem_93 : decode cX8_dayItem 93 = .ok (.iconst 1, 1) := by decide +kernel
theorem dX8_dayItem_94 : decode cX8_dayItem 94 = .ok (.iadd, 1) := by decide +kernel
theorem dX8_dayItem_95 : decode cX8_dayItem 95 = .ok (.putfield 107, 3) := by decide +kernel
theorem dX8_dayItem_98 : decode cX8_dayItem 98 = .ok (.iinc 4 1, 3) := by decide +kernel
theorem dX8_dayItem_101 : decode cX8_dayItem 101 = .ok (.goto (-49), 3) := by decide +kernel
theorem dX8_dayItem_104 : decode cX8_dayItem 104 = .ok (.aload_n 0, 1) := by decide +kernel
theorem dX8_dayItem_105 : decode cX8_dayItem 105 = .ok (.getfield 86, 3) := by decide +kernel
theorem dX8_dayItem_108 : decode cX8_dayItem 108 = .ok (.ifCond .le 4, 3) := by decide +kernel
theorem dX8_dayItem_111 : decode cX8_dayItem 111 = .ok (.return_, 1) := by decide +kernel
theorem dX8_dayItem_112 : decode cX8_dayItem 112 = .ok (.aload_n 0, 1) := by decide +kernel
theorem dX8_dayItem_113 : decode cX8_dayItem 113 = .ok (.iload_n 3, 1) := by decide +kernel
theorem dX8_dayItem_114 : decode cX8_dayItem 114 = .ok (.invokevirtual 89, 3) := by decide +kernel
theorem dX8_dayItem_117 : decode cX8_dayItem 117 = .ok (.aload_n 0, 1) := by decide +kernel
theorem dX8_dayItem_118 : decode cX8_dayItem 118 = .ok (.iload_n 3, 1) := by decide +kernel
theorem dX8_dayItem_119 : decode cX8_dayItem 119 = .ok (.iconst 1, 1) := by decide +kernel
theorem dX8_dayItem_120 : decode cX8_dayItem 120 = .ok (.iadd, 1) := by decide +kernel
theorem dX8_dayItem_121 : decode cX8_dayItem 121 = .ok (.invokevirtual 89, 3) := by decide +kernel
theorem dX8_dayItem_124 : decode cX8_dayItem 124 = .ok (.invokestatic 137, 3) := by decide +kernel
theorem dX8_dayItem_127 : decode cX8_dayItem 127 = .ok (.istore 4, 2) := by decide +kernel
theorem dX8_dayItem_129 : decode cX8_dayItem 129 = .ok (.iload 4, 2) := by decide +kernel
theorem dX8_dayItem_131 : decode cX8_dayItem 131 = .ok (.ifCond .ge 12, 3) := by decide +kernel
theorem dX8_dayItem_134 : decode cX8_dayItem 134 = .ok (.aload_n 0, 1) := by decide +kernel
theorem dX8_dayItem_135 : decode cX8_dayItem 135 = .ok (.iconst 1, 1) := by decide +kernel
theorem dX8_dayItem_136 : decode cX8_dayItem 136 = .ok (.iload_n 3, 1) := by decide +kernel
theorem dX8_dayItem_137 : decode cX8_dayItem 137 = .ok (.invokevirtual 113, 3) := by decide +kernel
theorem dX8_dayItem_140 : decode cX8_dayItem 140 = .ok (.goto 19, 3) := by decide +kernel
theorem dX8_dayItem_143 : decode cX8_dayItem 143 = .ok (.aload_n 0, 1) := by decide +kernel
theorem dX8_dayItem_144 : decode cX8_dayItem 144 = .ok (.getfield 37, 3) := by decide +kernel
theorem dX8_dayItem_147 : decode cX8_dayItem 147 = .ok (.bipush 107, 2) := by decide +kernel
theorem dX8_dayItem_149 : decode cX8_dayItem 149 = .ok (.iload 4, 2) := by decide +kernel
theorem dX8_dayItem_151 : decode cX8_dayItem 151 = .ok (.imul, 1) := by decide +kernel
theorem dX8_dayItem_152 : decode cX8_dayItem 152 = .ok (.bipush 53, 2) := by decide +kernel
theorem dX8_dayItem_154 : decode cX8_dayItem 154 = .ok (.iadd, 1) := by decide +kernel
theorem dX8_dayItem_155 : decode cX8_dayItem 155 = .ok (.iload_n 1, 1) := by decide +kernel
theorem dX8_dayItem_156 : decode cX8_dayItem 156 = .ok (.iadd, 1) := by decide +kernel
theorem dX8_dayItem_157 : decode cX8_dayItem 157 = .ok (.iconst 1, 1) := by decide +kernel
theorem dX8_dayItem_158 : decode cX8_dayItem 158 = .ok (.bastore, 1) := by decide +kernel
theorem dX8_dayItem_159 : decode cX8_dayItem 159 = .ok (.return_, 1) := by decide +kernel
theorem dX8_oneItem_0 : decode cX8_oneItem 0 = .ok (.iload_n 1, 1) := by decide +kernel
theorem dX8_oneItem_1 : decode cX8_oneItem 1 = .ok (.iconst 4, 1) := by decide +kernel
theorem dX8_oneItem_2 : decode cX8_oneItem 2 = .ok (.if_icmp .ne 28, 3) := by decide +kernel
theorem dX8_oneItem_5 : decode cX8_oneItem 5 = .ok (.aload_n 0, 1) := by decide +kernel
theorem dX8_oneItem_6 : decode cX8_oneItem 6 = .ok (.iconst 1, 1) := by decide +kernel
theorem dX8_oneItem_7 : decode cX8_oneItem 7 = .ok (.bipush 12, 2) := by decide +kernel
theorem dX8_oneItem_9 : decode cX8_oneItem 9 = .ok (.invokevirtual 124, 3) := by decide +kernel
theorem dX8_oneItem_12 : decode cX8_oneItem 12 = .ok (.istore_n 2, 1) := by decide +kernel
theorem dX8_oneItem_13 : decode cX8_oneItem 13 = .ok (.aload_n 0, 1) := by decide +kernel
theorem dX8_oneItem_14 : decode cX8_oneItem 14 = .ok (.getfield 86, 3) := by decide +kernel
theorem dX8_oneItem_17 : decode cX8_oneItem 17 = .ok (.ifCond .ne 10, 3) := by decide +kernel
theorem dX8_oneItem_20 : decode cX8_oneItem 20 = .ok (.aload_n 0, 1) := by decide +kernel
theorem dX8_oneItem_21 : decode cX8_oneItem 21 = .ok (.getfield 28, 3) := by decide +kernel
theorem dX8_oneItem_24 : decode cX8_oneItem 24 = .ok (.iload_n 2, 1) := by decide +kernel
theorem dX8_oneItem_25 : decode cX8_oneItem 25 = .ok (.iconst 1, 1) := by decide +kernel
theorem dX8_oneItem_26 : decode cX8_oneItem 26 = .ok (.bastore, 1) := by decide +kernel
theorem dX8_oneItem_27 : decode cX8_oneItem 27 = .ok (.goto 79, 3) := by decide +kernel
theorem dX8_oneItem_30 : decode cX8_oneItem 30 = .ok (.iload_n 1, 1) := by decide +kernel
theorem dX8_oneItem_31 : decode cX8_oneItem 31 = .ok (.iconst 5, 1) := by decide +kernel
theorem dX8_oneItem_32 : decode cX8_oneItem 32 = .ok (.if_icmp .ne 32, 3) := by decide +kernel
theorem dX8_oneItem_35 : decode cX8_oneItem 35 = .ok (.aload_n 0, 1) := by decide +kernel
theorem dX8_oneItem_36 : decode cX8_oneItem 36 = .ok (.bipush (-31), 2) := by decide +kernel
theorem dX8_oneItem_38 : decode cX8_oneItem 38 = .ok (.bipush 31, 2) := by decide +kernel
theorem dX8_oneItem_40 : decode cX8_oneItem 40 = .ok (.invokevirtual 124, 3) := by decide +kernel
theorem dX8_oneItem_43 : decode cX8_oneItem 43 = .ok (.istore_n 2, 1) := by decide +kernel
theorem dX8_oneItem_44 : decode cX8_oneItem 44 = .ok (.aload_n 0, 1) := by decide +kernel
theorem dX8_oneItem_45 : decode cX8_oneItem 45 = .ok (.getfield 86, 3) := by decide +kernel
theorem dX8_oneItem_48 : decode cX8_oneItem 48 = .ok (.ifCond .ne 13, 3) := by decide +kernel
theorem dX8_oneItem_51 : decode cX8_oneItem 51 = .ok (.aload_n 0, 1) := by decide +kernel
theorem dX8_oneItem_52 : decode cX8_oneItem 52 = .ok (.getfield 31, 3) := by decide +kernel
theorem dX8_oneItem_55 : decode cX8_oneItem 55 = .ok (.bipush 31, 2) := by decide +kernel
theorem dX8_oneItem_57 : decode cX8_oneItem 57 = .ok (.iload_n 2, 1) := by decide +kernel
theorem dX8_oneItem_58 : decode cX8_oneItem 58 = .ok (.iadd, 1) := by decide +kernel
theorem dX8_oneItem_59 : decode cX8_oneItem 59 = .ok (.iconst 1, 1) := by decide +kernel
theorem dX8_oneItem_60 : decode cX8_oneItem 60 = .ok (.bastore, 1) := by decide +kernel
theorem dX8_oneItem_61 : decode cX8_oneItem 61 = .ok (.goto 45, 3) := by decide +kernel
theorem dX8_oneItem_64 : decode cX8_oneItem 64 = .ok (.iload_n 1, 1) := by decide +kernel
theorem dX8_oneItem_65 : decode cX8_oneItem 65 = .ok (.bipush 6, 2) := by decide +kernel
theorem dX8_oneItem_67 : decode cX8_oneItem 67 = .ok (.if_icmp .ne 35, 3) := by decide +kernel
theorem dX8_oneItem_70 : decode cX8_oneItem 70 = .ok (.aload_n 0, 1) := by decide +kernel
theorem dX8_oneItem_71 : decode cX8_oneItem 71 = .ok (.sipush (-366), 3) := by decide +kernel
theorem dX8_oneItem_74 : decode cX8_oneItem 74 = .ok (.sipush 366, 3) := by decide +kernel
theorem dX8_oneItem_77 : decode cX8_oneItem 77 = .ok (.invokevirtual 124, 3) := by decide +kernel
theorem dX8_oneItem_80 : decode cX8_oneItem 80 = .ok (.istore_n 2, 1) := by decide +kernel
theorem dX8_oneItem_81 : decode cX8_oneItem 81 = .ok (.aload_n 0, 1) := by decide +kernel
theorem dX8_oneItem_82 : decode cX8_oneItem 82 = .ok (.getfield 86, 3) := by decide +kernel
theorem dX8_oneItem_85 : decode cX8_oneItem 85 = .ok (.ifCond .ne 14, 3) := by decide +kernel
theorem dX8_oneItem_88 : decode cX8_oneItem 88 = .ok (.aload_n 0, 1) := by decide +kernel
theorem dX8_oneItem_89 : decode cX8_oneItem 89 = .ok (.getfield 34, 3) := by decide +kernel
theorem dX8_oneItem_92 : decode cX8_oneItem 92 = .ok (.sipush 366, 3) := by decide +kernel
theorem dX8_oneItem_95 : decode cX8_oneItem 95 = .ok (.iload_n 2, 1) := by decide +kernel
theorem dX8_oneItem_96 : decode cX8_oneItem 96 = .ok (.iadd, 1) := by decide +kernel
theorem dX8_oneItem_97 : decode cX8_oneItem 97 = .ok (.iconst 1, 1) := by decide +kernel
theorem dX8_oneItem_98 : decode cX8_oneItem 98 = .ok (.bastore, 1) := by decide +kernel
theorem dX8_oneItem_99 : decode cX8_oneItem 99 = .ok (.goto 7, 3) := by decide +kernel
theorem dX8_oneItem_102 : decode cX8_oneItem 102 = .ok (.aload_n 0, 1) := by decide +kernel
theorem dX8_oneItem_103 : decode cX8_oneItem 103 = .ok (.invokevirtual 140, 3) := by decide +kernel
theorem dX8_oneItem_106 : decode cX8_oneItem 106 = .ok (.return_, 1) := by decide +kernel
theorem dX8_value_0 : decode cX8_value 0 = .ok (.iload_n 1, 1) := by decide +kernel
theorem dX8_value_1 : decode cX8_value 1 = .ok (.ifCond .ne 57, 3) := by decide +kernel
theorem dX8_value_4 : decode cX8_value 4 = .ok (.aload_n 0, 1) := by decide +kernel
theorem dX8_value_5 : decode cX8_value 5 = .ok (.aload_n 0, 1) := by decide +kernel
theorem dX8_value_6 : decode cX8_value 6 = .ok (.getfield 107, 3) := by decide +kernel
theorem dX8_value_9 : decode cX8_value 9 = .ok (.invokevirtual 143, 3) := by decide +kernel
theorem dX8_value_12 : decode cX8_value 12 = .ok (.istore_n 2, 1) := by decide +kernel
theorem dX8_value_13 : decode cX8_value 13 = .ok (.aload_n 0, 1) := by decide +kernel
theorem dX8_value_14 : decode cX8_value 14 = .ok (.aload_n 0, 1) := by decide +kernel
theorem dX8_value_15 : decode cX8_value 15 = .ok (.aload_n 0, 1) := by decide +kernel
theorem dX8_value_16 : decode cX8_value 16 = .ok (.getfield 107, 3) := by decide +kernel
theorem dX8_value_19 : decode cX8_value 19 = .ok (.invokevirtual 146, 3) := by decide +kernel
theorem dX8_value_22 : decode cX8_value 22 = .ok (.iload_n 2, 1) := by decide +kernel
theorem dX8_value_23 : decode cX8_value 23 = .ok (.invokestatic 150, 3) := by decide +kernel
theorem dX8_value_26 : decode cX8_value 26 = .ok (.putfield 71, 3) := by decide +kernel
theorem dX8_value_29 : decode cX8_value 29 = .ok (.aload_n 0, 1) := by decide +kernel
theorem dX8_value_30 : decode cX8_value 30 = .ok (.getfield 71, 3) := by decide +kernel
theorem dX8_value_33 : decode cX8_value 33 = .ok (.ifCond .ge 12, 3) := by decide +kernel
theorem dX8_value_36 : decode cX8_value 36 = .ok (.aload_n 0, 1) := by decide +kernel
theorem dX8_value_37 : decode cX8_value 37 = .ok (.iconst 1, 1) := by decide +kernel
theorem dX8_value_38 : decode cX8_value 38 = .ok (.aload_n 0, 1) := by decide +kernel
theorem dX8_value_39 : decode cX8_value 39 = .ok (.getfield 107, 3) := by decide +kernel
theorem dX8_value_42 : decode cX8_value 42 = .ok (.invokevirtual 113, 3) := by decide +kernel
theorem dX8_value_45 : decode cX8_value 45 = .ok (.aload_n 0, 1) := by decide +kernel
theorem dX8_value_46 : decode cX8_value 46 = .ok (.aload_n 0, 1) := by decide +kernel
theorem dX8_value_47 : decode cX8_value 47 = .ok (.getfield 107, 3) := by decide +kernel
theorem dX8_value_50 : decode cX8_value 50 = .ok (.iload_n 2, 1) := by decide +kernel
theorem dX8_value_51 : decode cX8_value 51 = .ok (.iadd, 1) := by decide +kernel
theorem dX8_value_52 : decode cX8_value 52 = .ok (.putfield 107, 3) := by decide +kernel
theorem dX8_value_55 : decode cX8_value 55 = .ok (.goto 98, 3) := by decide +kernel
theorem dX8_value_58 : decode cX8_value 58 = .ok (.iload_n 1, 1) := by decide +kernel
theorem dX8_value_59 : decode cX8_value 59 = .ok (.iconst 1, 1) := by decide +kernel
theorem dX8_value_60 : decode cX8_value 60 = .ok (.if_icmp .ne 18, 3) := by decide +kernel
theorem dX8_value_63 : decode cX8_value 63 = .ok (.aload_n 0, 1) := by decide +kernel
theorem dX8_value_64 : decode cX8_value 64 = .ok (.aload_n 0, 1) := by decide +kernel
theorem dX8_value_65 : decode cX8_value 65 = .ok (.iconst 1, 1) := by decide +kernel
theorem dX8_value_66 : decode cX8_value 66 = .ok (.sipush 400, 3) := by decide +kernel
theorem dX8_value_69 : decode cX8_value 69 = .ok (.invokevirtual 124, 3) := by decide +kernel
theorem dX8_value_72 : decode cX8_value 72 = .ok (.putfield 154, 3) := by decide +kernel
theorem dX8_value_75 : decode cX8_value 75 = .ok (.goto 78, 3) := by decide +kernel
theorem dX8_value_78 : decode cX8_value 78 = .ok (.iload_n 1, 1) := by decide +kernel
theorem dX8_value_79 : decode cX8_value 79 = .ok (.iconst 2, 1) := by decide +kernel
theorem dX8_value_80 : decode cX8_value 80 = .ok (.if_icmp .ne 18, 3) := by decide +kernel
theorem dX8_value_83 : decode cX8_value 83 = .ok (.aload_n 0, 1) := by decide +kernel
theorem dX8_value_84 : decode cX8_value 84 = .ok (.aload_n 0, 1) := by decide +kernel
theorem dX8_value_85 : decode cX8_value 85 = .ok (.iconst 1, 1) := by decide +kernel
theorem dX8_value_86 : decode cX8_value 86 = .ok (.sipush 999, 3) := by decide +kernel
theorem dX8_value_89 : decode cX8_value 89 = .ok (.invokevirtual 124, 3) := by decide +kernel
theorem dX8_value_92 : decode cX8_value 92 = .ok (.putfield 157, 3) := by decide +kernel
theorem dX8_value_95 : decode cX8_value 95 = .ok (.goto 58, 3) := by decide +kernel
theorem dX8_value_98 : decode cX8_value 98 = .ok (.iload_n 1, 1) := by decide +kernel
theorem dX8_value_99 : decode cX8_value 99 = .ok (.iconst 3, 1) := by decide +kernel
theorem dX8_value_100 : decode cX8_value 100 = .ok (.if_icmp .ne 10, 3) := by decide +kernel
theorem dX8_value_103 : decode cX8_value 103 = .ok (.aload_n 0, 1) := by decide +kernel
theorem dX8_value_104 : decode cX8_value 104 = .ok (.invokevirtual 160, 3) := by decide +kernel
theorem dX8_value_107 : decode cX8_value 107 = .ok (.goto 46, 3) := by decide +kernel
theorem dX8_value_110 : decode cX8_value 110 = .ok (.aload_n 0, 1) := by decide +kernel
theorem dX8_value_111 : decode cX8_value 111 = .ok (.iload_n 1, 1) := by decide +kernel
theorem dX8_value_112 : decode cX8_value 112 = .ok (.invokevirtual 163, 3) := by decide +kernel
theorem dX8_value_115 : decode cX8_value 115 = .ok (.aload_n 0, 1) := by decide +kernel
theorem dX8_value_116 : decode cX8_value 116 = .ok (.getfield 86, 3) := by decide +kernel
theorem dX8_value_119 : decode cX8_value 119 = .ok (.ifCond .ne 34, 3) := by decide +kernel
theorem dX8_value_122 : decode cX8_value 122 = .ok (.aload_n 0, 1) := by decide +kernel
theorem dX8_value_123 : decode cX8_value 123 = .ok (.aload_n 0, 1) := by decide +kernel
theorem dX8_value_124 : decode cX8_value 124 = .ok (.getfield 107, 3) := by decide +kernel
theorem dX8_value_127 : decode cX8_value 127 = .ok (.invokevirtual 89, 3) := by decide +kernel
theorem dX8_value_130 : decode cX8_value 130 = .ok (.bipush 44, 2) := by decide +kernel
theorem dX8_value_132 : decode cX8_value 132 = .ok (.if_icmp .ne 21, 3) := by decide +kernel
theorem dX8_value_135 : decode cX8_value 135 = .ok (.aload_n 0, 1) := by decide +kernel
theorem dX8_value_136 : decode cX8_value 136 = .ok (.dup, 1) := by decide +kernel
theorem dX8_value_137 : decode cX8_value 137 = .ok (.getfield 107, 3) := by decide +kernel
theorem dX8_value_140 : decode cX8_value 140 = .ok (.iconst 1, 1) := by decide +kernel
theorem dX8_value_141 : decode cX8_value 141 = .ok (.iadd, 1) := by decide +kernel
theorem dX8_value_142 : decode cX8_value 142 = .ok (.putfield 107, 3) := by decide +kernel
theorem dX8_value_145 : decode cX8_value 145 = .ok (.aload_n 0, 1) := by decide +kernel
theorem dX8_value_146 : decode cX8_value 146 = .ok (.iload_n 1, 1) := by decide +kernel
theorem dX8_value_147 : decode cX8_value 147 = .ok (.invokevirtual 163, 3) := by decide +kernel
theorem dX8_value_150 : decode cX8_value 150 = .ok (.goto (-35), 3) := by decide +kernel
theorem dX8_value_153 : decode cX8_value 153 = .ok (.return_, 1) := by decide +kernel
theorem dX8_part_0 : decode cX8_part 0 = .ok (.aload_n 0, 1) := by decide +kernel
theorem dX8_part_1 : decode cX8_part 1 = .ok (.aload_n 0, 1) := by decide +kernel
theorem dX8_part_2 : decode cX8_part 2 = .ok (.getfield 107, 3) := by decide +kernel
theorem dX8_part_5 : decode cX8_part 5 = .ok (.invokevirtual 143, 3) := by decide +kernel
theorem dX8_part_8 : decode cX8_part 8 = .ok (.istore_n 1, 1) := by decide +kernel
theorem dX8_part_9 : decode cX8_part 9 = .ok (.aload_n 0, 1) := by decide +kernel
theorem dX8_part_10 : decode cX8_part 10 = .ok (.aload_n 0, 1) := by decide +kernel
theorem dX8_part_11 : decode cX8_part 11 = .ok (.getfield 107, 3) := by decide +kernel
theorem dX8_part_14 : decode cX8_part 14 = .ok (.invokevirtual 146, 3) := by decide +kernel
theorem dX8_part_17 : decode cX8_part 17 = .ok (.iload_n 1, 1) := by decide +kernel
theorem dX8_part_18 : decode cX8_part 18 = .ok (.invokestatic 167, 3) := by decide +kernel
theorem dX8_part_21 : decode cX8_part 21 = .ok (.istore_n 2, 1) := by decide +kernel
theorem dX8_part_22 : decode cX8_part 22 = .ok (.iload_n 2, 1) := by decide +kernel
theorem dX8_part_23 : decode cX8_part 23 = .ok (.ifCond .ge 13, 3) := by decide +kernel
theorem dX8_part_26 : decode cX8_part 26 = .ok (.aload_n 0, 1) := by decide +kernel
theorem dX8_part_27 : decode cX8_part 27 = .ok (.iconst 1, 1) := by decide +kernel
theorem dX8_part_28 : decode cX8_part 28 = .ok (.aload_n 0, 1) := by decide +kernel
theorem dX8_part_29 : decode cX8_part 29 = .ok (.getfield 107, 3) := by decide +kernel
theorem dX8_part_32 : decode cX8_part 32 = .ok (.invokevirtual 113, 3) := by decide +kernel
theorem dX8_part_35 : decode cX8_part 35 = .ok (.return_, 1) := by decide +kernel
theorem dX8_part_36 : decode cX8_part 36 = .ok (.aload_n 0, 1) := by decide +kernel
theorem dX8_part_37 : decode cX8_part 37 = .ok (.getfield 24, 3) := by decide +kernel
theorem dX8_part_40 : decode cX8_part 40 = .ok (.iload_n 2, 1) := by decide +kernel
theorem dX8_part_41 : decode cX8_part 41 = .ok (.baload, 1) := by decide +kernel
theorem dX8_part_42 : decode cX8_part 42 = .ok (.ifCond .eq 13, 3) := by decide +kernel
theorem dX8_part_45 : decode cX8_part 45 = .ok (.aload_n 0, 1) := by decide +kernel
theorem dX8_part_46 : decode cX8_part 46 = .ok (.iconst 3, 1) := by decide +kernel
theorem dX8_part_47 : decode cX8_part 47 = .ok (.aload_n 0, 1) := by decide +kernel
theorem dX8_part_48 : decode cX8_part 48 = .ok (.getfield 107, 3) := by decide +kernel
theorem dX8_part_51 : decode cX8_part 51 = .ok (.invokevirtual 113, 3) := by decide +kernel
theorem dX8_part_54 : decode cX8_part 54 = .ok (.return_, 1) := by decide +kernel
theorem dX8_part_55 : decode cX8_part 55 = .ok (.aload_n 0, 1) := by decide +kernel
theorem dX8_part_56 : decode cX8_part 56 = .ok (.getfield 24, 3) := by decide +kernel
theorem dX8_part_59 : decode cX8_part 59 = .ok (.iload_n 2, 1) := by decide +kernel
theorem dX8_part_60 : decode cX8_part 60 = .ok (.iconst 1, 1) := by decide +kernel
theorem dX8_part_61 : decode cX8_part 61 = .ok (.bastore, 1) := by decide +kernel
theorem dX8_part_62 : decode cX8_part 62 = .ok (.aload_n 0, 1) := by decide +kernel
theorem dX8_part_63 : decode cX8_part 63 = .ok (.aload_n 0, 1) := by decide +kernel
theorem dX8_part_64 : decode cX8_part 64 = .ok (.getfield 107, 3) := by decide +kernel
theorem dX8_part_67 : decode cX8_part 67 = .ok (.iload_n 1, 1) := by decide +kernel
theorem dX8_part_68 : decode cX8_part 68 = .ok (.iadd, 1) := by decide +kernel
theorem dX8_part_69 : decode cX8_part 69 = .ok (.putfield 107, 3) := by decide +kernel
theorem dX8_part_72 : decode cX8_part 72 = .ok (.aload_n 0, 1) := by decide +kernel
theorem dX8_part_73 : decode cX8_part 73 = .ok (.aload_n 0, 1) := by decide +kernel
theorem dX8_part_74 : decode cX8_part 74 = .ok (.getfield 107, 3) := by decide +kernel
theorem dX8_part_77 : decode cX8_part 77 = .ok (.invokevirtual 89, 3) := by decide +kernel
theorem dX8_part_80 : decode cX8_part 80 = .ok (.bipush 61, 2) := by decide +kernel
theorem dX8_part_82 : decode cX8_part 82 = .ok (.if_icmp .eq 13, 3) := by decide +kernel
theorem dX8_part_85 : decode cX8_part 85 = .ok (.aload_n 0, 1) := by decide +kernel
theorem dX8_part_86 : decode cX8_part 86 = .ok (.iconst 1, 1) := by decide +kernel
theorem dX8_part_87 : decode cX8_part 87 = .ok (.aload_n 0, 1) := by decide +kernel
theorem dX8_part_88 : decode cX8_part 88 = .ok (.getfield 107, 3) := by decide +kernel
theorem dX8_part_91 : decode cX8_part 91 = .ok (.invokevirtual 113, 3) := by decide +kernel
theorem dX8_part_94 : decode cX8_part 94 = .ok (.return_, 1) := by decide +kernel
theorem dX8_part_95 : decode cX8_part 95 = .ok (.aload_n 0, 1) := by decide +kernel
theorem dX8_part_96 : decode cX8_part 96 = .ok (.dup, 1) := by decide +kernel
theorem dX8_part_97 : decode cX8_part 97 = .ok (.getfield 107, 3) := by decide +kernel
theorem dX8_part_100 : decode cX8_part 100 = .ok (.iconst 1, 1) := by decide +kernel
theorem dX8_part_101 : decode cX8_part 101 = .ok (.iadd, 1) := by decide +kernel
theorem dX8_part_102 : decode cX8_part 102 = .ok (.putfield 107, 3) := by decide +kernel
theorem dX8_part_105 : decode cX8_part 105 = .ok (.aload_n 0, 1) := by decide +kernel
theorem dX8_part_106 : decode cX8_part 106 = .ok (.iload_n 2, 1) := by decide +kernel
theorem dX8_part_107 : decode cX8_part 107 = .ok (.invokevirtual 170, 3) := by decide +kernel
theorem dX8_part_110 : decode cX8_part 110 = .ok (.return_, 1) := by decide +kernel
theorem dX8_forget_0 : decode cX8_forget 0 = .ok (.aload_n 0, 1) := by decide +kernel
theorem dX8_forget_1 : decode cX8_forget 1 = .ok (.iconst 0, 1) := by decide +kernel
theorem dX8_forget_2 : decode cX8_forget 2 = .ok (.putfield 86, 3) := by decide +kernel
theorem dX8_forget_5 : decode cX8_forget 5 = .ok (.aload_n 0, 1) := by decide +kernel
theorem dX8_forget_6 : decode cX8_forget 6 = .ok (.iconst (-1), 1) := by decide +kernel
theorem dX8_forget_7 : decode cX8_forget 7 = .ok (.putfield 20, 3) := by decide +kernel
theorem dX8_forget_10 : decode cX8_forget 10 = .ok (.aload_n 0, 1) := by decide +kernel
theorem dX8_forget_11 : decode cX8_forget 11 = .ok (.iconst 0, 1) := by decide +kernel
theorem dX8_forget_12 : decode cX8_forget 12 = .ok (.putfield 107, 3) := by decide +kernel
theorem dX8_forget_15 : decode cX8_forget 15 = .ok (.aload_n 0, 1) := by decide +kernel
theorem dX8_forget_16 : decode cX8_forget 16 = .ok (.iconst (-1), 1) := by decide +kernel
theorem dX8_forget_17 : decode cX8_forget 17 = .ok (.putfield 71, 3) := by decide +kernel
theorem dX8_forget_20 : decode cX8_forget 20 = .ok (.aload_n 0, 1) := by decide +kernel
theorem dX8_forget_21 : decode cX8_forget 21 = .ok (.iconst 1, 1) := by decide +kernel
theorem dX8_forget_22 : decode cX8_forget 22 = .ok (.putfield 154, 3) := by decide +kernel
theorem dX8_forget_25 : decode cX8_forget 25 = .ok (.aload_n 0, 1) := by decide +kernel
theorem dX8_forget_26 : decode cX8_forget 26 = .ok (.ldc 173, 2) := by decide +kernel
theorem dX8_forget_28 : decode cX8_forget 28 = .ok (.putfield 157, 3) := by decide +kernel
theorem dX8_forget_31 : decode cX8_forget 31 = .ok (.aload_n 0, 1) := by decide +kernel
theorem dX8_forget_32 : decode cX8_forget 32 = .ok (.ldc 7, 2) := by decide +kernel
theorem dX8_forget_34 : decode cX8_forget 34 = .ok (.putfield 130, 3) := by decide +kernel
theorem dX8_forget_37 : decode cX8_forget 37 = .ok (.aload_n 0, 1) := by decide +kernel
theorem dX8_forget_38 : decode cX8_forget 38 = .ok (.iconst 0, 1) := by decide +kernel
theorem dX8_forget_39 : decode cX8_forget 39 = .ok (.putfield 133, 3) := by decide +kernel
theorem dX8_forget_42 : decode cX8_forget 42 = .ok (.iconst 0, 1) := by decide +kernel
theorem dX8_forget_43 : decode cX8_forget 43 = .ok (.istore_n 1, 1) := by decide +kernel
theorem dX8_forget_44 : decode cX8_forget 44 = .ok (.iload_n 1, 1) := by decide +kernel
theorem dX8_forget_45 : decode cX8_forget 45 = .ok (.sipush 749, 3) := by decide +kernel
theorem dX8_forget_48 : decode cX8_forget 48 = .ok (.if_icmp .ge 16, 3) := by decide +kernel
theorem dX8_forget_51 : decode cX8_forget 51 = .ok (.aload_n 0, 1) := by decide +kernel
theorem dX8_forget_52 : decode cX8_forget 52 = .ok (.getfield 37, 3) := by decide +kernel
theorem dX8_forget_55 : decode cX8_forget 55 = .ok (.iload_n 1, 1) := by decide +kernel
theorem dX8_forget_56 : decode cX8_forget 56 = .ok (.iconst 0, 1) := by decide +kernel
theorem dX8_forget_57 : decode cX8_forget 57 = .ok (.bastore, 1) := by decide +kernel
theorem dX8_forget_58 : decode cX8_forget 58 = .ok (.iinc 1 1, 3) := by decide +kernel
theorem dX8_forget_61 : decode cX8_forget 61 = .ok (.goto (-17), 3) := by decide +kernel
theorem dX8_forget_64 : decode cX8_forget 64 = .ok (.iconst 0, 1) := by decide +kernel
theorem dX8_forget_65 : decode cX8_forget 65 = .ok (.istore_n 1, 1) := by decide +kernel
theorem dX8_forget_66 : decode cX8_forget 66 = .ok (.iload_n 1, 1) := by decide +kernel
theorem dX8_forget_67 : decode cX8_forget 67 = .ok (.sipush 733, 3) := by decide +kernel
theorem dX8_forget_70 : decode cX8_forget 70 = .ok (.if_icmp .ge 16, 3) := by decide +kernel
theorem dX8_forget_73 : decode cX8_forget 73 = .ok (.aload_n 0, 1) := by decide +kernel
theorem dX8_forget_74 : decode cX8_forget 74 = .ok (.getfield 34, 3) := by decide +kernel
theorem dX8_forget_77 : decode cX8_forget 77 = .ok (.iload_n 1, 1) := by decide +kernel
theorem dX8_forget_78 : decode cX8_forget 78 = .ok (.iconst 0, 1) := by decide +kernel
theorem dX8_forget_79 : decode cX8_forget 79 = .ok (.bastore, 1) := by decide +kernel
theorem dX8_forget_80 : decode cX8_forget 80 = .ok (.iinc 1 1, 3) := by decide +kernel
theorem dX8_forget_83 : decode cX8_forget 83 = .ok (.goto (-17), 3) := by decide +kernel
theorem dX8_forget_86 : decode cX8_forget 86 = .ok (.iconst 0, 1) := by decide +kernel
theorem dX8_forget_87 : decode cX8_forget 87 = .ok (.istore_n 1, 1) := by decide +kernel
theorem dX8_forget_88 : decode cX8_forget 88 = .ok (.iload_n 1, 1) := by decide +kernel
theorem dX8_forget_89 : decode cX8_forget 89 = .ok (.bipush 63, 2) := by decide +kernel
theorem dX8_forget_91 : decode cX8_forget 91 = .ok (.if_icmp .ge 16, 3) := by decide +kernel
theorem dX8_forget_94 : decode cX8_forget 94 = .ok (.aload_n 0, 1) := by decide +kernel
theorem dX8_forget_95 : decode cX8_forget 95 = .ok (.getfield 31, 3) := by decide +kernel
theorem dX8_forget_98 : decode cX8_forget 98 = .ok (.iload_n 1, 1) := by decide +kernel
theorem dX8_forget_99 : decode cX8_forget 99 = .ok (.iconst 0, 1) := by decide +kernel
theorem dX8_forget_100 : decode cX8_forget 100 = .ok (.bastore, 1) := by decide +kernel
theorem dX8_forget_101 : decode cX8_forget 101 = .ok (.iinc 1 1, 3) := by decide +kernel
theorem dX8_forget_104 : decode cX8_forget 104 = .ok (.goto (-16), 3) := by decide +kernel
theorem dX8_forget_107 : decode cX8_forget 107 = .ok (.iconst 0, 1) := by decide +kernel
theorem dX8_forget_108 : decode cX8_forget 108 = .ok (.istore_n 1, 1) := by decide +kernel
theorem dX8_forget_109 : decode cX8_forget 109 = .ok (.iload_n 1, 1) := by decide +kernel
theorem dX8_forget_110 : decode cX8_forget 110 = .ok (.bipush 13, 2) := by decide +kernel
theorem dX8_forget_112 : decode cX8_forget 112 = .ok (.if_icmp .ge 16, 3) := by decide +kernel
theorem dX8_forget_115 : decode cX8_forget 115 = .ok (.aload_n 0, 1) := by decide +kernel
theorem dX8_forget_116 : decode cX8_forget 116 = .ok (.getfield 28, 3) := by decide +kernel
theorem dX8_forget_119 : decode cX8_forget 119 = .ok (.iload_n 1, 1) := by decide +kernel
theorem dX8_forget_120 : decode cX8_forget 120 = .ok (.iconst 0, 1) := by decide +kernel
theorem dX8_forget_121 : decode cX8_forget 121 = .ok (.bastore, 1) := by decide +kernel
theorem dX8_forget_122 : decode cX8_forget 122 = .ok (.iinc 1 1, 3) := by decide +kernel
theorem dX8_forget_125 : decode cX8_forget 125 = .ok (.goto (-16), 3) := by decide +kernel
theorem dX8_forget_128 : decode cX8_forget 128 = .ok (.iconst 0, 1) := by decide +kernel
theorem dX8_forget_129 : decode cX8_forget 129 = .ok (.istore_n 1, 1) := by decide +kernel
theorem dX8_forget_130 : decode cX8_forget 130 = .ok (.iload_n 1, 1) := by decide +kernel
theorem dX8_forget_131 : decode cX8_forget 131 = .ok (.bipush 8, 2) := by decide +kernel
theorem dX8_forget_133 : decode cX8_forget 133 = .ok (.if_icmp .ge 16, 3) := by decide +kernel
theorem dX8_forget_136 : decode cX8_forget 136 = .ok (.aload_n 0, 1) := by decide +kernel
theorem dX8_forget_137 : decode cX8_forget 137 = .ok (.getfield 24, 3) := by decide +kernel
theorem dX8_forget_140 : decode cX8_forget 140 = .ok (.iload_n 1, 1) := by decide +kernel
theorem dX8_forget_141 : decode cX8_forget 141 = .ok (.iconst 0, 1) := by decide +kernel
theorem dX8_forget_142 : decode cX8_forget 142 = .ok (.bastore, 1) := by decide +kernel
theorem dX8_forget_143 : decode cX8_forget 143 = .ok (.iinc 1 1, 3) := by decide +kernel
theorem dX8_forget_146 : decode cX8_forget 146 = .ok (.goto (-16), 3) := by decide +kernel
theorem dX8_forget_149 : decode cX8_forget 149 = .ok (.return_, 1) := by decide +kernel
theorem dX8_readRule_0 : decode cX8_readRule 0 = .ok (.aload_n 0, 1) := by decide +kernel
theorem dX8_readRule_1 : decode cX8_readRule 1 = .ok (.invokevirtual 174, 3) := by decide +kernel
theorem dX8_readRule_4 : decode cX8_readRule 4 = .ok (.aload_n 0, 1) := by decide +kernel
theorem dX8_readRule_5 : decode cX8_readRule 5 = .ok (.invokevirtual 177, 3) := by decide +kernel
theorem dX8_readRule_8 : decode cX8_readRule 8 = .ok (.aload_n 0, 1) := by decide +kernel
theorem dX8_readRule_9 : decode cX8_readRule 9 = .ok (.getfield 86, 3) := by decide +kernel
theorem dX8_readRule_12 : decode cX8_readRule 12 = .ok (.ifCond .ne 56, 3) := by decide +kernel
theorem dX8_readRule_15 : decode cX8_readRule 15 = .ok (.aload_n 0, 1) := by decide +kernel
theorem dX8_readRule_16 : decode cX8_readRule 16 = .ok (.getfield 107, 3) := by decide +kernel
theorem dX8_readRule_19 : decode cX8_readRule 19 = .ok (.aload_n 0, 1) := by decide +kernel
theorem dX8_readRule_20 : decode cX8_readRule 20 = .ok (.getfield 81, 3) := by decide +kernel
theorem dX8_readRule_23 : decode cX8_readRule 23 = .ok (.if_icmp .ge 45, 3) := by decide +kernel
theorem dX8_readRule_26 : decode cX8_readRule 26 = .ok (.aload_n 0, 1) := by decide +kernel
theorem dX8_readRule_27 : decode cX8_readRule 27 = .ok (.aload_n 0, 1) := by decide +kernel
theorem dX8_readRule_28 : decode cX8_readRule 28 = .ok (.getfield 107, 3) := by decide +kernel
theorem dX8_readRule_31 : decode cX8_readRule 31 = .ok (.invokevirtual 89, 3) := by decide +kernel
theorem dX8_readRule_34 : decode cX8_readRule 34 = .ok (.bipush 59, 2) := by decide +kernel
theorem dX8_readRule_36 : decode cX8_readRule 36 = .ok (.if_icmp .eq 15, 3) := by decide +kernel
theorem dX8_readRule_39 : decode cX8_readRule 39 = .ok (.aload_n 0, 1) := by decide +kernel
theorem dX8_readRule_40 : decode cX8_readRule 40 = .ok (.iconst 1, 1) := by decide +kernel
theorem dX8_readRule_41 : decode cX8_readRule 41 = .ok (.aload_n 0, 1) := by decide +kernel
theorem dX8_readRule_42 : decode cX8_readRule 42 = .ok (.getfield 107, 3) := by decide +kernel
theorem dX8_readRule_45 : decode cX8_readRule 45 = .ok (.invokevirtual 113, 3) := by decide +kernel
theorem dX8_readRule_48 : decode cX8_readRule 48 = .ok (.goto (-40), 3) := by decide +kernel
theorem dX8_readRule_51 : decode cX8_readRule 51 = .ok (.aload_n 0, 1) := by decide +kernel
theorem dX8_readRule_52 : decode cX8_readRule 52 = .ok (.dup, 1) := by decide +kernel
theorem dX8_readRule_53 : decode cX8_readRule 53 = .ok (.getfield 107, 3) := by decide +kernel
theorem dX8_readRule_56 : decode cX8_readRule 56 = .ok (.iconst 1, 1) := by decide +kernel
theorem dX8_readRule_57 : decode cX8_readRule 57 = .ok (.iadd, 1) := by decide +kernel
theorem dX8_readRule_58 : decode cX8_readRule 58 = .ok (.putfield 107, 3) := by decide +kernel
theorem dX8_readRule_61 : decode cX8_readRule 61 = .ok (.aload_n 0, 1) := by decide +kernel
theorem dX8_readRule_62 : decode cX8_readRule 62 = .ok (.invokevirtual 177, 3) := by decide +kernel
theorem dX8_readRule_65 : decode cX8_readRule 65 = .ok (.goto (-57), 3) := by decide +kernel
theorem dX8_readRule_68 : decode cX8_readRule 68 = .ok (.aload_n 0, 1) := by decide +kernel
theorem dX8_readRule_69 : decode cX8_readRule 69 = .ok (.getfield 133, 3) := by decide +kernel
theorem dX8_readRule_72 : decode cX8_readRule 72 = .ok (.ifCond .eq 24, 3) := by decide +kernel
theorem dX8_readRule_75 : decode cX8_readRule 75 = .ok (.aload_n 0, 1) := by decide +kernel
theorem dX8_readRule_76 : decode cX8_readRule 76 = .ok (.getfield 71, 3) := by decide +kernel
theorem dX8_readRule_79 : decode cX8_readRule 79 = .ok (.iconst 2, 1) := by decide +kernel
theorem dX8_readRule_80 : decode cX8_readRule 80 = .ok (.if_icmp .lt 12, 3) := by decide +kernel
theorem dX8_readRule_83 : decode cX8_readRule 83 = .ok (.aload_n 0, 1) := by decide +kernel
theorem dX8_readRule_84 : decode cX8_readRule 84 = .ok (.getfield 24, 3) := by decide +kernel
theorem dX8_readRule_87 : decode cX8_readRule 87 = .ok (.iconst 5, 1) := by decide +kernel
theorem dX8_readRule_88 : decode cX8_readRule 88 = .ok (.baload, 1) := by decide +kernel
theorem dX8_readRule_89 : decode cX8_readRule 89 = .ok (.ifCond .eq 7, 3) := by decide +kernel
theorem dX8_readRule_92 : decode cX8_readRule 92 = .ok (.iconst 1, 1) := by decide +kernel
theorem dX8_readRule_93 : decode cX8_readRule 93 = .ok (.goto 4, 3) := by decide +kernel
theorem dX8_readRule_96 : decode cX8_readRule 96 = .ok (.iconst 0, 1) := by decide +kernel
theorem dX8_readRule_97 : decode cX8_readRule 97 = .ok (.istore_n 1, 1) := by decide +kernel
theorem dX8_readRule_98 : decode cX8_readRule 98 = .ok (.aload_n 0, 1) := by decide +kernel
theorem dX8_readRule_99 : decode cX8_readRule 99 = .ok (.getfield 24, 3) := by decide +kernel
theorem dX8_readRule_102 : decode cX8_readRule 102 = .ok (.bipush 6, 2) := by decide +kernel
theorem dX8_readRule_104 : decode cX8_readRule 104 = .ok (.baload, 1) := by decide +kernel
theorem dX8_readRule_105 : decode cX8_readRule 105 = .ok (.ifCond .eq 35, 3) := by decide +kernel
theorem dX8_readRule_108 : decode cX8_readRule 108 = .ok (.aload_n 0, 1) := by decide +kernel
theorem dX8_readRule_109 : decode cX8_readRule 109 = .ok (.getfield 24, 3) := by decide +kernel
theorem dX8_readRule_112 : decode cX8_readRule 112 = .ok (.iconst 4, 1) := by decide +kernel
theorem dX8_readRule_113 : decode cX8_readRule 113 = .ok (.baload, 1) := by decide +kernel
theorem dX8_readRule_114 : decode cX8_readRule 114 = .ok (.ifCond .ne 26, 3) := by decide +kernel
theorem dX8_readRule_117 : decode cX8_readRule 117 = .ok (.aload_n 0, 1) := by decide +kernel
theorem dX8_readRule_118 : decode cX8_readRule 118 = .ok (.getfield 24, 3) := by decide +kernel
theorem dX8_readRule_121 : decode cX8_readRule 121 = .ok (.iconst 5, 1) := by decide +kernel
theorem dX8_readRule_122 : decode cX8_readRule 122 = .ok (.baload, 1) := by decide +kernel
theorem dX8_readRule_123 : decode cX8_readRule 123 = .ok (.ifCond .ne 17, 3) := by decide +kernel
theorem dX8_readRule_126 : decode cX8_readRule 126 = .ok (.aload_n 0, 1) := by decide +kernel
theorem dX8_readRule_127 : decode cX8_readRule 127 = .ok (.getfield 24, 3) := by decide +kernel
theorem dX8_readRule_130 : decode cX8_readRule 130 = .ok (.bipush 7, 2) := by decide +kernel
theorem dX8_readRule_132 : decode cX8_readRule 132 = .ok (.baload, 1) := by decide +kernel
theorem dX8_readRule_133 : decode cX8_readRule 133 = .ok (.ifCond .ne 7, 3) := by decide +kernel
theorem dX8_readRule_136 : decode cX8_readRule 136 = .ok (.iconst 1, 1) := by decide +kernel
theorem dX8_readRule_137 : decode cX8_readRule 137 = .ok (.goto 4, 3) := by decide +kernel
theorem dX8_readRule_140 : decode cX8_readRule 140 = .ok (.iconst 0, 1) := by decide +kernel
theorem dX8_readRule_141 : decode cX8_readRule 141 = .ok (.istore_n 2, 1) := by decide +kernel
theorem dX8_readRule_142 : decode cX8_readRule 142 = .ok (.aload_n 0, 1) := by decide +kernel
theorem dX8_readRule_143 : decode cX8_readRule 143 = .ok (.getfield 24, 3) := by decide +kernel
theorem dX8_readRule_146 : decode cX8_readRule 146 = .ok (.iconst 0, 1) := by decide +kernel
theorem dX8_readRule_147 : decode cX8_readRule 147 = .ok (.baload, 1) := by decide +kernel
theorem dX8_readRule_148 : decode cX8_readRule 148 = .ok (.ifCond .eq 46, 3) := by decide +kernel
theorem dX8_readRule_151 : decode cX8_readRule 151 = .ok (.aload_n 0, 1) := by decide +kernel
theorem dX8_readRule_152 : decode cX8_readRule 152 = .ok (.getfield 24, 3) := by decide +kernel
theorem dX8_readRule_155 : decode cX8_readRule 155 = .ok (.iconst 2, 1) := by decide +kernel
theorem dX8_readRule_156 : decode cX8_readRule 156 = .ok (.baload, 1) := by decide +kernel
theorem dX8_readRule_157 : decode cX8_readRule 157 = .ok (.ifCond .eq 12, 3) := by decide +kernel
theorem dX8_readRule_160 : decode cX8_readRule 160 = .ok (.aload_n 0, 1) := by decide +kernel
theorem dX8_readRule_161 : decode cX8_readRule 161 = .ok (.getfield 24, 3) := by decide +kernel
theorem dX8_readRule_164 : decode cX8_readRule 164 = .ok (.iconst 3, 1) := by decide +kernel
theorem dX8_readRule_165 : decode cX8_readRule 165 = .ok (.baload, 1) := by decide +kernel
theorem dX8_readRule_166 : decode cX8_readRule 166 = .ok (.ifCond .ne 28, 3) := by decide +kernel
theorem dX8_readRule_169 : decode cX8_readRule 169 = .ok (.aload_n 0, 1) := by decide +kernel
theorem dX8_readRule_170 : decode cX8_readRule 170 = .ok (.getfield 24, 3) := by decide +kernel
theorem dX8_readRule_173 : decode cX8_readRule 173 = .ok (.iconst 5, 1) := by decide +kernel
theorem dX8_readRule_174 : decode cX8_readRule 174 = .ok (.baload, 1) := by decide +kernel
theorem dX8_readRule_175 : decode cX8_readRule 175 = .ok (.ifCond .eq 11, 3) := by decide +kernel
theorem dX8_readRule_178 : decode cX8_readRule 178 = .ok (.aload_n 0, 1) := by decide +kernel
theorem dX8_readRule_179 : decode cX8_readRule 179 = .ok (.getfield 71, 3) := by decide +kernel
theorem dX8_readRule_182 : decode cX8_readRule 182 = .ok (.iconst 1, 1) := by decide +kernel
theorem dX8_readRule_183 : decode cX8_readRule 183 = .ok (.if_icmp .eq 11, 3) := by decide +kernel
theorem dX8_readRule_186 : decode cX8_readRule 186 = .ok (.iload_n 1, 1) := by decide +kernel
theorem dX8_readRule_187 : decode cX8_readRule 187 = .ok (.ifCond .ne 7, 3) := by decide +kernel
theorem dX8_readRule_190 : decode cX8_readRule 190 = .ok (.iload_n 2, 1) := by decide +kernel
theorem dX8_readRule_191 : decode cX8_readRule 191 = .ok (.ifCond .eq 12, 3) := by decide +kernel
theorem dX8_readRule_194 : decode cX8_readRule 194 = .ok (.aload_n 0, 1) := by decide +kernel
theorem dX8_readRule_195 : decode cX8_readRule 195 = .ok (.iconst 4, 1) := by decide +kernel
theorem dX8_readRule_196 : decode cX8_readRule 196 = .ok (.aload_n 0, 1) := by decide +kernel
theorem dX8_readRule_197 : decode cX8_readRule 197 = .ok (.getfield 81, 3) := by decide +kernel
theorem dX8_readRule_200 : decode cX8_readRule 200 = .ok (.invokevirtual 113, 3) := by decide +kernel
theorem dX8_readRule_203 : decode cX8_readRule 203 = .ok (.return_, 1) := by decide +kernel
theorem dX8_hasNumberedWeekday_0 : decode cX8_hasNumberedWeekday 0 = .ok (.iload_n 1, 1) := by decide +kernel
theorem dX8_hasNumberedWeekday_1 : decode cX8_hasNumberedWeekday 1 = .ok (.bipush 7, 2) := by decide +kernel
theorem dX8_hasNumberedWeekday_3 : decode cX8_hasNumberedWeekday 3 = .ok (.irem, 1) := by decide +kernel
theorem dX8_hasNumberedWeekday_4 : decode cX8_hasNumberedWeekday 4 = .ok (.istore_n 2, 1) := by decide +kernel
theorem dX8_hasNumberedWeekday_5 : decode cX8_hasNumberedWeekday 5 = .ok (.aload_n 0, 1) := by decide +kernel
theorem dX8_hasNumberedWeekday_6 : decode cX8_hasNumberedWeekday 6 = .ok (.getfield 37, 3) := by decide +kernel
theorem dX8_hasNumberedWeekday_9 : decode cX8_hasNumberedWeekday 9 = .ok (.bipush 107, 2) := by decide +kernel
theorem dX8_hasNumberedWeekday_11 : decode cX8_hasNumberedWeekday 11 = .ok (.iload_n 2, 1) := by decide +kernel
theorem dX8_hasNumberedWeekday_12 : decode cX8_hasNumberedWeekday 12 = .ok (.imul, 1) := by decide +kernel
theorem dX8_hasNumberedWeekday_13 : decode cX8_hasNumberedWeekday 13 = .ok (.bipush 53, 2) := by decide +kernel
theorem dX8_hasNumberedWeekday_15 : decode cX8_hasNumberedWeekday 15 = .ok (.iadd, 1) := by decide +kernel
theorem dX8_hasNumberedWeekday_16 : decode cX8_hasNumberedWeekday 16 = .ok (.baload, 1) := by decide +kernel
theorem dX8_hasNumberedWeekday_17 : decode cX8_hasNumberedWeekday 17 = .ok (.ifCond .eq 5, 3) := by decide +kernel
theorem dX8_hasNumberedWeekday_20 : decode cX8_hasNumberedWeekday 20 = .ok (.iconst 1, 1) := by decide +kernel
theorem dX8_hasNumberedWeekday_21 : decode cX8_hasNumberedWeekday 21 = .ok (.ireturn, 1) := by decide +kernel
theorem dX8_hasNumberedWeekday_22 : decode cX8_hasNumberedWeekday 22 = .ok (.aload_n 0, 1) := by decide +kernel
theorem dX8_hasNumberedWeekday_23 : decode cX8_hasNumberedWeekday 23 = .ok (.getfield 71, 3) := by decide +kernel
theorem dX8_hasNumberedWeekday_26 : decode cX8_hasNumberedWeekday 26 = .ok (.iconst 2, 1) := by decide +kernel
theorem dX8_hasNumberedWeekday_27 : decode cX8_hasNumberedWeekday 27 = .ok (.if_icmp .eq 12, 3) := by decide +kernel
theorem dX8_hasNumberedWeekday_30 : decode cX8_hasNumberedWeekday 30 = .ok (.aload_n 0, 1) := by decide +kernel
theorem dX8_hasNumberedWeekday_31 : decode cX8_hasNumberedWeekday 31 = .ok (.getfield 24, 3) := by decide +kernel
theorem dX8_hasNumberedWeekday_34 : decode cX8_hasNumberedWeekday 34 = .ok (.iconst 4, 1) := by decide +kernel
theorem dX8_hasNumberedWeekday_35 : decode cX8_hasNumberedWeekday 35 = .ok (.baload, 1) := by decide +kernel
theorem dX8_hasNumberedWeekday_36 : decode cX8_hasNumberedWeekday 36 = .ok (.ifCond .eq 7, 3) := by decide +kernel
theorem dX8_hasNumberedWeekday_39 : decode cX8_hasNumberedWeekday 39 = .ok (.iconst 1, 1) := by decide +kernel
theorem dX8_hasNumberedWeekday_40 : decode cX8_hasNumberedWeekday 40 = .ok (.goto 4, 3) := by decide +kernel
theorem dX8_hasNumberedWeekday_43 : decode cX8_hasNumberedWeekday 43 = .ok (.iconst 0, 1) := by decide +kernel
theorem dX8_hasNumberedWeekday_44 : decode cX8_hasNumberedWeekday 44 = .ok (.istore_n 3, 1) := by decide +kernel
theorem dX8_hasNumberedWeekday_45 : decode cX8_hasNumberedWeekday 45 = .ok (.iload_n 1, 1) := by decide +kernel
theorem dX8_hasNumberedWeekday_46 : decode cX8_hasNumberedWeekday 46 = .ok (.istore 4, 2) := by decide +kernel
theorem dX8_hasNumberedWeekday_48 : decode cX8_hasNumberedWeekday 48 = .ok (.iload_n 1, 1) := by decide +kernel
theorem dX8_hasNumberedWeekday_49 : decode cX8_hasNumberedWeekday 49 = .ok (.istore 5, 2) := by decide +kernel
theorem dX8_hasNumberedWeekday_51 : decode cX8_hasNumberedWeekday 51 = .ok (.iload 4, 2) := by decide +kernel
theorem dX8_hasNumberedWeekday_53 : decode cX8_hasNumberedWeekday 53 = .ok (.ifCond .le 55, 3) := by decide +kernel
theorem dX8_hasNumberedWeekday_56 : decode cX8_hasNumberedWeekday 56 = .ok (.aload_n 0, 1) := by decide +kernel
theorem dX8_hasNumberedWeekday_57 : decode cX8_hasNumberedWeekday 57 = .ok (.iload 4, 2) := by decide +kernel
theorem dX8_hasNumberedWeekday_59 : decode cX8_hasNumberedWeekday 59 = .ok (.iconst 1, 1) := by decide +kernel
theorem dX8_hasNumberedWeekday_60 : decode cX8_hasNumberedWeekday 60 = .ok (.isub, 1) := by decide +kernel
theorem dX8_hasNumberedWeekday_61 : decode cX8_hasNumberedWeekday 61 = .ok (.invokevirtual 74, 3) := by decide +kernel
theorem dX8_hasNumberedWeekday_64 : decode cX8_hasNumberedWeekday 64 = .ok (.aload_n 0, 1) := by decide +kernel
theorem dX8_hasNumberedWeekday_65 : decode cX8_hasNumberedWeekday 65 = .ok (.iload_n 1, 1) := by decide +kernel
theorem dX8_hasNumberedWeekday_66 : decode cX8_hasNumberedWeekday 66 = .ok (.invokevirtual 74, 3) := by decide +kernel
theorem dX8_hasNumberedWeekday_69 : decode cX8_hasNumberedWeekday 69 = .ok (.if_icmp .ne 39, 3) := by decide +kernel
theorem dX8_hasNumberedWeekday_72 : decode cX8_hasNumberedWeekday 72 = .ok (.iload_n 3, 1) := by decide +kernel
theorem dX8_hasNumberedWeekday_73 : decode cX8_hasNumberedWeekday 73 = .ok (.ifCond .eq 19, 3) := by decide +kernel
theorem dX8_hasNumberedWeekday_76 : decode cX8_hasNumberedWeekday 76 = .ok (.aload_n 0, 1) := by decide +kernel
theorem dX8_hasNumberedWeekday_77 : decode cX8_hasNumberedWeekday 77 = .ok (.iload 4, 2) := by decide +kernel
theorem dX8_hasNumberedWeekday_79 : decode cX8_hasNumberedWeekday 79 = .ok (.iconst 1, 1) := by decide +kernel
theorem dX8_hasNumberedWeekday_80 : decode cX8_hasNumberedWeekday 80 = .ok (.isub, 1) := by decide +kernel
theorem dX8_hasNumberedWeekday_81 : decode cX8_hasNumberedWeekday 81 = .ok (.invokevirtual 78, 3) := by decide +kernel
theorem dX8_hasNumberedWeekday_84 : decode cX8_hasNumberedWeekday 84 = .ok (.aload_n 0, 1) := by decide +kernel
theorem dX8_hasNumberedWeekday_85 : decode cX8_hasNumberedWeekday 85 = .ok (.iload_n 1, 1) := by decide +kernel
theorem dX8_hasNumberedWeekday_86 : decode cX8_hasNumberedWeekday 86 = .ok (.invokevirtual 78, 3) := by decide +kernel
theorem dX8_hasNumberedWeekday_89 : decode cX8_hasNumberedWeekday 89 = .ok (.if_icmp .ne 19, 3) := by decide +kernel
theorem dX8_hasNumberedWeekday_92 : decode cX8_hasNumberedWeekday 92 = .ok (.iload 4, 2) := by decide +kernel
theorem dX8_hasNumberedWeekday_94 : decode cX8_hasNumberedWeekday 94 = .ok (.iload_n 1, 1) := by decide +kernel
theorem dX8_hasNumberedWeekday_95 : decode cX8_hasNumberedWeekday 95 = .ok (.sipush 366, 3) := by decide +kernel
theorem dX8_hasNumberedWeekday_98 : decode cX8_hasNumberedWeekday 98 = .ok (.isub, 1) := by decide +kernel
theorem dX8_hasNumberedWeekday_99 : decode cX8_hasNumberedWeekday 99 = .ok (.if_icmp .le 9, 3) := by decide +kernel
theorem dX8_hasNumberedWeekday_102 : decode cX8_hasNumberedWeekday 102 = .ok (.iinc 4 (-1), 3) := by decide +kernel
theorem dX8_hasNumberedWeekday_105 : decode cX8_hasNumberedWeekday 105 = .ok (.goto (-54), 3) := by decide +kernel
theorem dX8_hasNumberedWeekday_108 : decode cX8_hasNumberedWeekday 108 = .ok (.iload 5, 2) := by decide +kernel
theorem dX8_hasNumberedWeekday_110 : decode cX8_hasNumberedWeekday 110 = .ok (.iconst 1, 1) := by decide +kernel
theorem dX8_hasNumberedWeekday_111 : decode cX8_hasNumberedWeekday 111 = .ok (.iadd, 1) := by decide +kernel
theorem dX8_hasNumberedWeekday_112 : decode cX8_hasNumberedWeekday 112 = .ok (.ldc 7, 2) := by decide +kernel
theorem dX8_hasNumberedWeekday_114 : decode cX8_hasNumberedWeekday 114 = .ok (.if_icmp .ge 45, 3) := by decide +kernel
theorem dX8_hasNumberedWeekday_117 : decode cX8_hasNumberedWeekday 117 = .ok (.aload_n 0, 1) := by decide +kernel
theorem dX8_hasNumberedWeekday_118 : decode cX8_hasNumberedWeekday 118 = .ok (.iload 5, 2) := by decide +kernel
theorem dX8_hasNumberedWeekday_120 : decode cX8_hasNumberedWeekday 120 = .ok (.iconst 1, 1) := by decide +kernel
theorem dX8_hasNumberedWeekday_121 : decode cX8_hasNumberedWeekday 121 = .ok (.iadd, 1) := by decide +kernel
theorem dX8_hasNumberedWeekday_122 : decode cX8_hasNumberedWeekday 122 = .ok (.invokevirtual 74, 3) := by decide +kernel
theorem dX8_hasNumberedWeekday_125 : decode cX8_hasNumberedWeekday 125 = .ok (.aload_n 0, 1) := by decide +kernel
theorem dX8_hasNumberedWeekday_126 : decode cX8_hasNumberedWeekday 126 = .ok (.iload_n 1, 1) := by decide +kernel
theorem dX8_hasNumberedWeekday_127 : decode cX8_hasNumberedWeekday 127 = .ok (.invokevirtual 74, 3) := by decide +kernel
theorem dX8_hasNumberedWeekday_130 : decode cX8_hasNumberedWeekday 130 = .ok (.if_icmp .ne 29, 3) := by decide +kernel
theorem dX8_hasNumberedWeekday_133 : decode cX8_hasNumberedWeekday 133 = .ok (.iload_n 3, 1) := by decide +kernel
theorem dX8_hasNumberedWeekday_134 : decode cX8_hasNumberedWeekday 134 = .ok (.ifCond .eq 19, 3) := by decide +kernel
theorem dX8_hasNumberedWeekday_137 : decode cX8_hasNumberedWeekday 137 = .ok (.aload_n 0, 1) := by decide +kernel
theorem dX8_hasNumberedWeekday_138 : decode cX8_hasNumberedWeekday 138 = .ok (.iload 5, 2) := by decide +kernel
theorem dX8_hasNumberedWeekday_140 : decode cX8_hasNumberedWeekday 140 = .ok (.iconst 1, 1) := by decide +kernel
theorem dX8_hasNumberedWeekday_141 : decode cX8_hasNumberedWeekday 141 = .ok (.iadd, 1) := by decide +kernel
theorem dX8_hasNumberedWeekday_142 : decode cX8_hasNumberedWeekday 142 = .ok (.invokevirtual 78, 3) := by decide +kernel
theorem dX8_hasNumberedWeekday_145 : decode cX8_hasNumberedWeekday 145 = .ok (.aload_n 0, 1) := by decide +kernel
theorem dX8_hasNumberedWeekday_146 : decode cX8_hasNumberedWeekday 146 = .ok (.iload_n 1, 1) := by decide +kernel
theorem dX8_hasNumberedWeekday_147 : decode cX8_hasNumberedWeekday 147 = .ok (.invokevirtual 78, 3) := by decide +kernel
theorem dX8_hasNumberedWeekday_150 : decode cX8_hasNumberedWeekday 150 = .ok (.if_icmp .ne 9, 3) := by decide +kernel
theorem dX8_hasNumberedWeekday_153 : decode cX8_hasNumberedWeekday 153 = .ok (.iinc 5 1, 3) := by decide +kernel
theorem dX8_hasNumberedWeekday_156 : decode cX8_hasNumberedWeekday 156 = .ok (.goto (-48), 3) := by decide +kernel
theorem dX8_hasNumberedWeekday_159 : decode cX8_hasNumberedWeekday 159 = .ok (.iload_n 1, 1) := by decide +kernel
theorem dX8_hasNumberedWeekday_160 : decode cX8_hasNumberedWeekday 160 = .ok (.iload 4, 2) := by decide +kernel
theorem dX8_hasNumberedWeekday_162 : decode cX8_hasNumberedWeekday 162 = .ok (.isub, 1) := by decide +kernel
theorem dX8_hasNumberedWeekday_163 : decode cX8_hasNumberedWeekday 163 = .ok (.bipush 7, 2) := by decide +kernel
theorem dX8_hasNumberedWeekday_165 : decode cX8_hasNumberedWeekday 165 = .ok (.idiv, 1) := by decide +kernel
theorem dX8_hasNumberedWeekday_166 : decode cX8_hasNumberedWeekday 166 = .ok (.iconst 1, 1) := by decide +kernel
theorem dX8_hasNumberedWeekday_167 : decode cX8_hasNumberedWeekday 167 = .ok (.iadd, 1) := by decide +kernel
theorem dX8_hasNumberedWeekday_168 : decode cX8_hasNumberedWeekday 168 = .ok (.istore 6, 2) := by decide +kernel
theorem dX8_hasNumberedWeekday_170 : decode cX8_hasNumberedWeekday 170 = .ok (.iload 5, 2) := by decide +kernel
theorem dX8_hasNumberedWeekday_172 : decode cX8_hasNumberedWeekday 172 = .ok (.iload_n 1, 1) := by decide +kernel
theorem dX8_hasNumberedWeekday_173 : decode cX8_hasNumberedWeekday 173 = .ok (.isub, 1) := by decide +kernel
theorem dX8_hasNumberedWeekday_174 : decode cX8_hasNumberedWeekday 174 = .ok (.bipush 7, 2) := by decide +kernel
theorem dX8_hasNumberedWeekday_176 : decode cX8_hasNumberedWeekday 176 = .ok (.idiv, 1) := by decide +kernel
theorem dX8_hasNumberedWeekday_177 : decode cX8_hasNumberedWeekday 177 = .ok (.iconst 1, 1) := by decide +kernel
theorem dX8_hasNumberedWeekday_178 : decode cX8_hasNumberedWeekday 178 = .ok (.iadd, 1) := by decide +kernel
theorem dX8_hasNumberedWeekday_179 : decode cX8_hasNumberedWeekday 179 = .ok (.istore 7, 2) := by decide +kernel
theorem dX8_hasNumberedWeekday_181 : decode cX8_hasNumberedWeekday 181 = .ok (.aload_n 0, 1) := by decide +kernel
theorem dX8_hasNumberedWeekday_182 : decode cX8_hasNumberedWeekday 182 = .ok (.getfield 133, 3) := by decide +kernel
theorem dX8_hasNumberedWeekday_185 : decode cX8_hasNumberedWeekday 185 = .ok (.ifCond .eq 43, 3) := by decide +kernel
theorem dX8_hasNumberedWeekday_188 : decode cX8_hasNumberedWeekday 188 = .ok (.aload_n 0, 1) := by decide +kernel
theorem dX8_hasNumberedWeekday_189 : decode cX8_hasNumberedWeekday 189 = .ok (.getfield 37, 3) := by decide +kernel
theorem dX8_hasNumberedWeekday_192 : decode cX8_hasNumberedWeekday 192 = .ok (.bipush 107, 2) := by decide +kernel
theorem dX8_hasNumberedWeekday_194 : decode cX8_hasNumberedWeekday 194 = .ok (.iload_n 2, 1) := by decide +kernel
theorem dX8_hasNumberedWeekday_195 : decode cX8_hasNumberedWeekday 195 = .ok (.imul, 1) := by decide +kernel
theorem dX8_hasNumberedWeekday_196 : decode cX8_hasNumberedWeekday 196 = .ok (.bipush 53, 2) := by decide +kernel
theorem dX8_hasNumberedWeekday_198 : decode cX8_hasNumberedWeekday 198 = .ok (.iadd, 1) := by decide +kernel
theorem dX8_hasNumberedWeekday_199 : decode cX8_hasNumberedWeekday 199 = .ok (.iload 6, 2) := by decide +kernel
theorem dX8_hasNumberedWeekday_201 : decode cX8_hasNumberedWeekday 201 = .ok (.iadd, 1) := by decide +kernel
theorem dX8_hasNumberedWeekday_202 : decode cX8_hasNumberedWeekday 202 = .ok (.baload, 1) := by decide +kernel
theorem dX8_hasNumberedWeekday_203 : decode cX8_hasNumberedWeekday 203 = .ok (.ifCond .ne 21, 3) := by decide +kernel
theorem dX8_hasNumberedWeekday_206 : decode cX8_hasNumberedWeekday 206 = .ok (.aload_n 0, 1) := by decide +kernel
theorem dX8_hasNumberedWeekday_207 : decode cX8_hasNumberedWeekday 207 = .ok (.getfield 37, 3) := by decide +kernel
theorem dX8_hasNumberedWeekday_210 : decode cX8_hasNumberedWeekday 210 = .ok (.bipush 107, 2) := by decide +kernel
theorem dX8_hasNumberedWeekday_212 : decode cX8_hasNumberedWeekday 212 = .ok (.iload_n 2, 1) := by decide +kernel
theorem dX8_hasNumberedWeekday_213 : decode cX8_hasNumberedWeekday 213 = .ok (.imul, 1) := by decide +kernel
theorem dX8_hasNumberedWeekday_214 : decode cX8_hasNumberedWeekday 214 = .ok (.bipush 53, 2) := by decide +kernel
theorem dX8_hasNumberedWeekday_216 : decode cX8_hasNumberedWeekday 216 = .ok (.iadd, 1) := by decide +kernel
theorem dX8_hasNumberedWeekday_217 : decode cX8_hasNumberedWeekday 217 = .ok (.iload 7, 2) := by decide +kernel
theorem dX8_hasNumberedWeekday_219 : decode cX8_hasNumberedWeekday 219 = .ok (.isub, 1) := by decide +kernel
theorem dX8_hasNumberedWeekday_220 : decode cX8_hasNumberedWeekday 220 = .ok (.baload, 1) := by decide +kernel
theorem dX8_hasNumberedWeekday_221 : decode cX8_hasNumberedWeekday 221 = .ok (.ifCond .eq 7, 3) := by decide +kernel
theorem dX8_hasNumberedWeekday_224 : decode cX8_hasNumberedWeekday 224 = .ok (.iconst 1, 1) := by decide +kernel
theorem dX8_hasNumberedWeekday_225 : decode cX8_hasNumberedWeekday 225 = .ok (.goto 4, 3) := by decide +kernel
theorem dX8_hasNumberedWeekday_228 : decode cX8_hasNumberedWeekday 228 = .ok (.iconst 0, 1) := by decide +kernel
theorem dX8_hasNumberedWeekday_229 : decode cX8_hasNumberedWeekday 229 = .ok (.ireturn, 1) := by decide +kernel
theorem dX8_suits_0 : decode cX8_suits 0 = .ok (.aload_n 0, 1) := by decide +kernel
theorem dX8_suits_1 : decode cX8_suits 1 = .ok (.getfield 24, 3) := by decide +kernel
theorem dX8_suits_4 : decode cX8_suits 4 = .ok (.iconst 5, 1) := by decide +kernel
theorem dX8_suits_5 : decode cX8_suits 5 = .ok (.baload, 1) := by decide +kernel
theorem dX8_suits_6 : decode cX8_suits 6 = .ok (.ifCond .ne 17, 3) := by decide +kernel
theorem dX8_suits_9 : decode cX8_suits 9 = .ok (.aload_n 0, 1) := by decide +kernel
theorem dX8_suits_10 : decode cX8_suits 10 = .ok (.getfield 24, 3) := by decide +kernel
theorem dX8_suits_13 : decode cX8_suits 13 = .ok (.bipush 7, 2) := by decide +kernel
theorem dX8_suits_15 : decode cX8_suits 15 = .ok (.baload, 1) := by decide +kernel
theorem dX8_suits_16 : decode cX8_suits 16 = .ok (.ifCond .ne 7, 3) := by decide +kernel
theorem dX8_suits_19 : decode cX8_suits 19 = .ok (.iconst 1, 1) := by decide +kernel
theorem dX8_suits_20 : decode cX8_suits 20 = .ok (.goto 4, 3) := by decide +kernel
theorem dX8_suits_23 : decode cX8_suits 23 = .ok (.iconst 0, 1) := by decide +kernel
theorem dX8_suits_24 : decode cX8_suits 24 = .ok (.istore_n 2, 1) := by decide +kernel
theorem dX8_suits_25 : decode cX8_suits 25 = .ok (.aload_n 0, 1) := by decide +kernel
theorem dX8_suits_26 : decode cX8_suits 26 = .ok (.getfield 24, 3) := by decide +kernel
theorem dX8_suits_29 : decode cX8_suits 29 = .ok (.iconst 4, 1) := by decide +kernel
theorem dX8_suits_30 : decode cX8_suits 30 = .ok (.baload, 1) := by decide +kernel
theorem dX8_suits_31 : decode cX8_suits 31 = .ok (.ifCond .eq 19, 3) := by decide +kernel
theorem dX8_suits_34 : decode cX8_suits 34 = .ok (.aload_n 0, 1) := by decide +kernel
theorem dX8_suits_35 : decode cX8_suits 35 = .ok (.getfield 28, 3) := by decide +kernel
theorem dX8_suits_38 : decode cX8_suits 38 = .ok (.aload_n 0, 1) := by decide +kernel
theorem dX8_suits_39 : decode cX8_suits 39 = .ok (.iload_n 1, 1) := by decide +kernel
theorem dX8_suits_40 : decode cX8_suits 40 = .ok (.invokevirtual 78, 3) := by decide +kernel
theorem dX8_suits_43 : decode cX8_suits 43 = .ok (.baload, 1) := by decide +kernel
theorem dX8_suits_44 : decode cX8_suits 44 = .ok (.ifCond .ne 36, 3) := by decide +kernel
theorem dX8_suits_47 : decode cX8_suits 47 = .ok (.goto 31, 3) := by decide +kernel
theorem dX8_suits_50 : decode cX8_suits 50 = .ok (.aload_n 0, 1) := by decide +kernel
theorem dX8_suits_51 : decode cX8_suits 51 = .ok (.getfield 71, 3) := by decide +kernel
theorem dX8_suits_54 : decode cX8_suits 54 = .ok (.iconst 3, 1) := by decide +kernel
theorem dX8_suits_55 : decode cX8_suits 55 = .ok (.if_icmp .ne 25, 3) := by decide +kernel
theorem dX8_suits_58 : decode cX8_suits 58 = .ok (.iload_n 2, 1) := by decide +kernel
theorem dX8_suits_59 : decode cX8_suits 59 = .ok (.ifCond .eq 21, 3) := by decide +kernel
theorem dX8_suits_62 : decode cX8_suits 62 = .ok (.aload_n 0, 1) := by decide +kernel
theorem dX8_suits_63 : decode cX8_suits 63 = .ok (.iload_n 1, 1) := by decide +kernel
theorem dX8_suits_64 : decode cX8_suits 64 = .ok (.invokevirtual 78, 3) := by decide +kernel
theorem dX8_suits_67 : decode cX8_suits 67 = .ok (.aload_n 0, 1) := by decide +kernel
theorem dX8_suits_68 : decode cX8_suits 68 = .ok (.aload_n 0, 1) := by decide +kernel
theorem dX8_suits_69 : decode cX8_suits 69 = .ok (.getfield 180, 3) := by decide +kernel
theorem dX8_suits_72 : decode cX8_suits 72 = .ok (.invokevirtual 78, 3) := by decide +kernel
theorem dX8_suits_75 : decode cX8_suits 75 = .ok (.if_icmp .eq 5, 3) := by decide +kernel
theorem dX8_suits_78 : decode cX8_suits 78 = .ok (.iconst 0, 1) := by decide +kernel
theorem dX8_suits_79 : decode cX8_suits 79 = .ok (.ireturn, 1) := by decide +kernel
theorem dX8_suits_80 : decode cX8_suits 80 = .ok (.aload_n 0, 1) := by decide +kernel
theorem dX8_suits_81 : decode cX8_suits 81 = .ok (.iload_n 1, 1) := by decide +kernel
theorem dX8_suits_82 : decode cX8_suits 82 = .ok (.invokevirtual 183, 3) := by decide +kernel
theorem dX8_suits_85 : decode cX8_suits 85 = .ok (.istore_n 3, 1) := by decide +kernel
theorem dX8_suits_86 : decode cX8_suits 86 = .ok (.aload_n 0, 1) := by decide +kernel
theorem dX8_suits_87 : decode cX8_suits 87 = .ok (.aload_n 0, 1) := by decide +kernel
theorem dX8_suits_88 : decode cX8_suits 88 = .ok (.iload_n 1, 1) := by decide +kernel
theorem dX8_suits_89 : decode cX8_suits 89 = .ok (.invokevirtual 74, 3) := by decide +kernel
theorem dX8_suits_92 : decode cX8_suits 92 = .ok (.aload_n 0, 1) := by decide +kernel
theorem dX8_suits_93 : decode cX8_suits 93 = .ok (.iload_n 1, 1) := by decide +kernel
theorem dX8_suits_94 : decode cX8_suits 94 = .ok (.invokevirtual 78, 3) := by decide +kernel
theorem dX8_suits_97 : decode cX8_suits 97 = .ok (.invokevirtual 60, 3) := by decide +kernel
theorem dX8_suits_100 : decode cX8_suits 100 = .ok (.iload_n 3, 1) := by decide +kernel
theorem dX8_suits_101 : decode cX8_suits 101 = .ok (.isub, 1) := by decide +kernel
theorem dX8_suits_102 : decode cX8_suits 102 = .ok (.iconst 1, 1) := by decide +kernel
theorem dX8_suits_103 : decode cX8_suits 103 = .ok (.iadd, 1) := by decide +kernel
theorem dX8_suits_104 : decode cX8_suits 104 = .ok (.istore 4, 2) := by decide +kernel
theorem dX8_suits_106 : decode cX8_suits 106 = .ok (.aload_n 0, 1) := by decide +kernel
theorem dX8_suits_107 : decode cX8_suits 107 = .ok (.getfield 24, 3) := by decide +kernel
theorem dX8_suits_110 : decode cX8_suits 110 = .ok (.iconst 5, 1) := by decide +kernel
theorem dX8_suits_111 : decode cX8_suits 111 = .ok (.baload, 1) := by decide +kernel
theorem dX8_suits_112 : decode cX8_suits 112 = .ok (.ifCond .eq 31, 3) := by decide +kernel
theorem dX8_suits_115 : decode cX8_suits 115 = .ok (.aload_n 0, 1) := by decide +kernel
theorem dX8_suits_116 : decode cX8_suits 116 = .ok (.getfield 31, 3) := by decide +kernel
theorem dX8_suits_119 : decode cX8_suits 119 = .ok (.bipush 31, 2) := by decide +kernel
theorem dX8_suits_121 : decode cX8_suits 121 = .ok (.iload_n 3, 1) := by decide +kernel
theorem dX8_suits_122 : decode cX8_suits 122 = .ok (.iadd, 1) := by decide +kernel
theorem dX8_suits_123 : decode cX8_suits 123 = .ok (.baload, 1) := by decide +kernel
theorem dX8_suits_124 : decode cX8_suits 124 = .ok (.ifCond .ne 51, 3) := by decide +kernel
theorem dX8_suits_127 : decode cX8_suits 127 = .ok (.aload_n 0, 1) := by decide +kernel
theorem dX8_suits_128 : decode cX8_suits 128 = .ok (.getfield 31, 3) := by decide +kernel
theorem dX8_suits_131 : decode cX8_suits 131 = .ok (.bipush 31, 2) := by decide +kernel
theorem dX8_suits_133 : decode cX8_suits 133 = .ok (.iload 4, 2) := by decide +kernel
theorem dX8_suits_135 : decode cX8_suits 135 = .ok (.isub, 1) := by decide +kernel
theorem dX8_suits_136 : decode cX8_suits 136 = .ok (.baload, 1) := by decide +kernel
theorem dX8_suits_137 : decode cX8_suits 137 = .ok (.ifCond .ne 38, 3) := by decide +kernel
theorem dX8_suits_140 : decode cX8_suits 140 = .ok (.goto 33, 3) := by decide +kernel
theorem dX8_suits_143 : decode cX8_suits 143 = .ok (.aload_n 0, 1) := by decide +kernel
theorem dX8_suits_144 : decode cX8_suits 144 = .ok (.getfield 71, 3) := by decide +kernel
theorem dX8_suits_147 : decode cX8_suits 147 = .ok (.iconst 2, 1) := by decide +kernel
theorem dX8_suits_148 : decode cX8_suits 148 = .ok (.if_icmp .lt 27, 3) := by decide +kernel
theorem dX8_suits_151 : decode cX8_suits 151 = .ok (.aload_n 0, 1) := by decide +kernel
theorem dX8_suits_152 : decode cX8_suits 152 = .ok (.getfield 24, 3) := by decide +kernel
theorem dX8_suits_155 : decode cX8_suits 155 = .ok (.bipush 7, 2) := by decide +kernel
theorem dX8_suits_157 : decode cX8_suits 157 = .ok (.baload, 1) := by decide +kernel
theorem dX8_suits_158 : decode cX8_suits 158 = .ok (.ifCond .ne 17, 3) := by decide +kernel
theorem dX8_suits_161 : decode cX8_suits 161 = .ok (.iload_n 3, 1) := by decide +kernel
theorem dX8_suits_162 : decode cX8_suits 162 = .ok (.aload_n 0, 1) := by decide +kernel
theorem dX8_suits_163 : decode cX8_suits 163 = .ok (.aload_n 0, 1) := by decide +kernel
theorem dX8_suits_164 : decode cX8_suits 164 = .ok (.getfield 180, 3) := by decide +kernel
theorem dX8_suits_167 : decode cX8_suits 167 = .ok (.invokevirtual 183, 3) := by decide +kernel
theorem dX8_suits_170 : decode cX8_suits 170 = .ok (.if_icmp .eq 5, 3) := by decide +kernel
theorem dX8_suits_173 : decode cX8_suits 173 = .ok (.iconst 0, 1) := by decide +kernel
theorem dX8_suits_174 : decode cX8_suits 174 = .ok (.ireturn, 1) := by decide +kernel
theorem dX8_suits_175 : decode cX8_suits 175 = .ok (.aload_n 0, 1) := by decide +kernel
theorem dX8_suits_176 : decode cX8_suits 176 = .ok (.getfield 24, 3) := by decide +kernel
theorem dX8_suits_179 : decode cX8_suits 179 = .ok (.bipush 7, 2) := by decide +kernel
theorem dX8_suits_181 : decode cX8_suits 181 = .ok (.baload, 1) := by decide +kernel
theorem dX8_suits_182 : decode cX8_suits 182 = .ok (.ifCond .eq 11, 3) := by decide +kernel
theorem dX8_suits_185 : decode cX8_suits 185 = .ok (.aload_n 0, 1) := by decide +kernel
theorem dX8_suits_186 : decode cX8_suits 186 = .ok (.iload_n 1, 1) := by decide +kernel
theorem dX8_suits_187 : decode cX8_suits 187 = .ok (.invokevirtual 186, 3) := by decide +kernel
theorem dX8_suits_190 : decode cX8_suits 190 = .ok (.goto 30, 3) := by decide +kernel
theorem dX8_suits_193 : decode cX8_suits 193 = .ok (.aload_n 0, 1) := by decide +kernel
theorem dX8_suits_194 : decode cX8_suits 194 = .ok (.getfield 71, 3) := by decide +kernel
theorem dX8_suits_197 : decode cX8_suits 197 = .ok (.iconst 1, 1) := by decide +kernel
theorem dX8_suits_198 : decode cX8_suits 198 = .ok (.if_icmp .ne 17, 3) := by decide +kernel
theorem dX8_suits_201 : decode cX8_suits 201 = .ok (.iload_n 1, 1) := by decide +kernel
theorem dX8_suits_202 : decode cX8_suits 202 = .ok (.bipush 7, 2) := by decide +kernel
theorem dX8_suits_204 : decode cX8_suits 204 = .ok (.irem, 1) := by decide +kernel
theorem dX8_suits_205 : decode cX8_suits 205 = .ok (.aload_n 0, 1) := by decide +kernel
theorem dX8_suits_206 : decode cX8_suits 206 = .ok (.getfield 180, 3) := by decide +kernel
theorem dX8_suits_209 : decode cX8_suits 209 = .ok (.bipush 7, 2) := by decide +kernel
theorem dX8_suits_211 : decode cX8_suits 211 = .ok (.irem, 1) := by decide +kernel
theorem dX8_suits_212 : decode cX8_suits 212 = .ok (.if_icmp .ne 7, 3) := by decide +kernel
theorem dX8_suits_215 : decode cX8_suits 215 = .ok (.iconst 1, 1) := by decide +kernel
theorem dX8_suits_216 : decode cX8_suits 216 = .ok (.goto 4, 3) := by decide +kernel
theorem dX8_suits_219 : decode cX8_suits 219 = .ok (.iconst 0, 1) := by decide +kernel
theorem dX8_suits_220 : decode cX8_suits 220 = .ok (.ireturn, 1) := by decide +kernel
theorem dX8_setBit_0 : decode cX8_setBit 0 = .ok (.sipush 3425, 3) := by decide +kernel
theorem dX8_setBit_3 : decode cX8_setBit 3 = .ok (.iload_n 2, 1) := by decide +kernel
theorem dX8_setBit_4 : decode cX8_setBit 4 = .ok (.imul, 1) := by decide +kernel
theorem dX8_setBit_5 : decode cX8_setBit 5 = .ok (.iload_n 3, 1) := by decide +kernel
theorem dX8_setBit_6 : decode cX8_setBit 6 = .ok (.bipush 32, 2) := by decide +kernel
theorem dX8_setBit_8 : decode cX8_setBit 8 = .ok (.idiv, 1) := by decide +kernel
theorem dX8_setBit_9 : decode cX8_setBit 9 = .ok (.iadd, 1) := by decide +kernel
theorem dX8_setBit_10 : decode cX8_setBit 10 = .ok (.istore 5, 2) := by decide +kernel
theorem dX8_setBit_12 : decode cX8_setBit 12 = .ok (.aload_n 1, 1) := by decide +kernel
theorem dX8_setBit_13 : decode cX8_setBit 13 = .ok (.iload 5, 2) := by decide +kernel
theorem dX8_setBit_15 : decode cX8_setBit 15 = .ok (.iload 4, 2) := by decide +kernel
theorem dX8_setBit_17 : decode cX8_setBit 17 = .ok (.ifCond .eq 17, 3) := by decide +kernel
theorem dX8_setBit_20 : decode cX8_setBit 20 = .ok (.aload_n 1, 1) := by decide +kernel
theorem dX8_setBit_21 : decode cX8_setBit 21 = .ok (.iload 5, 2) := by decide +kernel
theorem dX8_setBit_23 : decode cX8_setBit 23 = .ok (.iaload, 1) := by decide +kernel
theorem dX8_setBit_24 : decode cX8_setBit 24 = .ok (.iconst 1, 1) := by decide +kernel
theorem dX8_setBit_25 : decode cX8_setBit 25 = .ok (.iload_n 3, 1) := by decide +kernel
theorem dX8_setBit_26 : decode cX8_setBit 26 = .ok (.bipush 32, 2) := by decide +kernel
theorem dX8_setBit_28 : decode cX8_setBit 28 = .ok (.irem, 1) := by decide +kernel
theorem dX8_setBit_29 : decode cX8_setBit 29 = .ok (.ishl, 1) := by decide +kernel
theorem dX8_setBit_30 : decode cX8_setBit 30 = .ok (.ior, 1) := by decide +kernel
theorem dX8_setBit_31 : decode cX8_setBit 31 = .ok (.goto 16, 3) := by decide +kernel
theorem dX8_setBit_34 : decode cX8_setBit 34 = .ok (.aload_n 1, 1) := by decide +kernel
theorem dX8_setBit_35 : decode cX8_setBit 35 = .ok (.iload 5, 2) := by decide +kernel
theorem dX8_setBit_37 : decode cX8_setBit 37 = .ok (.iaload, 1) := by decide +kernel
theorem dX8_setBit_38 : decode cX8_setBit 38 = .ok (.iconst 1, 1) := by decide +kernel
theorem dX8_setBit_39 : decode cX8_setBit 39 = .ok (.iload_n 3, 1) := by decide +kernel
theorem dX8_setBit_40 : decode cX8_setBit 40 = .ok (.bipush 32, 2) := by decide +kernel
theorem dX8_setBit_42 : decode cX8_setBit 42 = .ok (.irem, 1) := by decide +kernel
theorem dX8_setBit_43 : decode cX8_setBit 43 = .ok (.ishl, 1) := by decide +kernel
theorem dX8_setBit_44 : decode cX8_setBit 44 = .ok (.iconst (-1), 1) := by decide +kernel
theorem dX8_setBit_45 : decode cX8_setBit 45 = .ok (.ixor, 1) := by decide +kernel
theorem dX8_setBit_46 : decode cX8_setBit 46 = .ok (.iand, 1) := by decide +kernel
theorem dX8_setBit_47 : decode cX8_setBit 47 = .ok (.iastore, 1) := by decide +kernel
theorem dX8_setBit_48 : decode cX8_setBit 48 = .ok (.return_, 1) := by decide +kernel
theorem dX8_hasBit_0 : decode cX8_hasBit 0 = .ok (.aload_n 1, 1) := by decide +kernel
theorem dX8_hasBit_1 : decode cX8_hasBit 1 = .ok (.sipush 3425, 3) := by decide +kernel
theorem dX8_hasBit_4 : decode cX8_hasBit 4 = .ok (.iload_n 2, 1) := by decide +kernel
theorem dX8_hasBit_5 : decode cX8_hasBit 5 = .ok (.imul, 1) := by decide +kernel
theorem dX8_hasBit_6 : decode cX8_hasBit 6 = .ok (.iload_n 3, 1) := by decide +kernel
theorem dX8_hasBit_7 : decode cX8_hasBit 7 = .ok (.bipush 32, 2) := by decide +kernel
theorem dX8_hasBit_9 : decode cX8_hasBit 9 = .ok (.idiv, 1) := by decide +kernel
theorem dX8_hasBit_10 : decode cX8_hasBit 10 = .ok (.iadd, 1) := by decide +kernel
theorem dX8_hasBit_11 : decode cX8_hasBit 11 = .ok (.iaload, 1) := by decide +kernel
theorem dX8_hasBit_12 : decode cX8_hasBit 12 = .ok (.iload_n 3, 1) := by decide +kernel
theorem dX8_hasBit_13 : decode cX8_hasBit 13 = .ok (.bipush 32, 2) := by decide +kernel
theorem dX8_hasBit_15 : decode cX8_hasBit 15 = .ok (.irem, 1) := by decide +kernel
theorem dX8_hasBit_16 : decode cX8_hasBit 16 = .ok (.ishr, 1) := by decide +kernel
theorem dX8_hasBit_17 : decode cX8_hasBit 17 = .ok (.iconst 1, 1) := by decide +kernel
theorem dX8_hasBit_18 : decode cX8_hasBit 18 = .ok (.iand, 1) := by decide +kernel
theorem dX8_hasBit_19 : decode cX8_hasBit 19 = .ok (.iconst 1, 1) := by decide +kernel
theorem dX8_hasBit_20 : decode cX8_hasBit 20 = .ok (.if_icmp .ne 7, 3) := by decide +kernel
theorem dX8_hasBit_23 : decode cX8_hasBit 23 = .ok (.iconst 1, 1) := by decide +kernel
theorem dX8_hasBit_24 : decode cX8_hasBit 24 = .ok (.goto 4, 3) := by decide +kernel
theorem dX8_hasBit_27 : decode cX8_hasBit 27 = .ok (.iconst 0, 1) := by decide +kernel
theorem dX8_hasBit_28 : decode cX8_hasBit 28 = .ok (.ireturn, 1) := by decide +kernel
theorem dX8_makeAll_0 : decode cX8_makeAll 0 = .ok (.iconst 0, 1) := by decide +kernel
theorem dX8_makeAll_1 : decode cX8_makeAll 1 = .ok (.istore_n 2, 1) := by decide +kernel
theorem dX8_makeAll_2 : decode cX8_makeAll 2 = .ok (.aload_n 0, 1) := by decide +kernel
theorem dX8_makeAll_3 : decode cX8_makeAll 3 = .ok (.getfield 180, 3) := by decide +kernel
theorem dX8_makeAll_6 : decode cX8_makeAll 6 = .ok (.istore_n 3, 1) := by decide +kernel
theorem dX8_makeAll_7 : decode cX8_makeAll 7 = .ok (.iload_n 3, 1) := by decide +kernel
theorem dX8_makeAll_8 : decode cX8_makeAll 8 = .ok (.ifCond .le 27, 3) := by decide +kernel
theorem dX8_makeAll_11 : decode cX8_makeAll 11 = .ok (.aload_n 0, 1) := by decide +kernel
theorem dX8_makeAll_12 : decode cX8_makeAll 12 = .ok (.iload_n 3, 1) := by decide +kernel
theorem dX8_makeAll_13 : decode cX8_makeAll 13 = .ok (.iconst 1, 1) := by decide +kernel
theorem dX8_makeAll_14 : decode cX8_makeAll 14 = .ok (.isub, 1) := by decide +kernel
theorem dX8_makeAll_15 : decode cX8_makeAll 15 = .ok (.invokevirtual 189, 3) := by decide +kernel
theorem dX8_makeAll_18 : decode cX8_makeAll 18 = .ok (.aload_n 0, 1) := by decide +kernel
theorem dX8_makeAll_19 : decode cX8_makeAll 19 = .ok (.aload_n 0, 1) := by decide +kernel
theorem dX8_makeAll_20 : decode cX8_makeAll 20 = .ok (.getfield 180, 3) := by decide +kernel
theorem dX8_makeAll_23 : decode cX8_makeAll 23 = .ok (.invokevirtual 189, 3) := by decide +kernel
theorem dX8_makeAll_26 : decode cX8_makeAll 26 = .ok (.if_icmp .ne 9, 3) := by decide +kernel
theorem dX8_makeAll_29 : decode cX8_makeAll 29 = .ok (.iinc 3 (-1), 3) := by decide +kernel
theorem dX8_makeAll_32 : decode cX8_makeAll 32 = .ok (.goto (-25), 3) := by decide +kernel
theorem dX8_makeAll_35 : decode cX8_makeAll 35 = .ok (.iload_n 3, 1) := by decide +kernel
theorem dX8_makeAll_36 : decode cX8_makeAll 36 = .ok (.istore 4, 2) := by decide +kernel
theorem dX8_makeAll_38 : decode cX8_makeAll 38 = .ok (.iload 4, 2) := by decide +kernel
theorem dX8_makeAll_40 : decode cX8_makeAll 40 = .ok (.ldc 7, 2) := by decide +kernel
theorem dX8_makeAll_42 : decode cX8_makeAll 42 = .ok (.if_icmp .ge 208, 3) := by decide +kernel
theorem dX8_makeAll_45 : decode cX8_makeAll 45 = .ok (.aload_n 0, 1) := by decide +kernel
theorem dX8_makeAll_46 : decode cX8_makeAll 46 = .ok (.iload 4, 2) := by decide +kernel
theorem dX8_makeAll_48 : decode cX8_makeAll 48 = .ok (.invokevirtual 189, 3) := by decide +kernel
theorem dX8_makeAll_51 : decode cX8_makeAll 51 = .ok (.istore 5, 2) := by decide +kernel
theorem dX8_makeAll_53 : decode cX8_makeAll 53 = .ok (.iconst 0, 1) := by decide +kernel
theorem dX8_makeAll_54 : decode cX8_makeAll 54 = .ok (.istore 6, 2) := by decide +kernel
theorem dX8_makeAll_56 : decode cX8_makeAll 56 = .ok (.iload 4, 2) := by decide +kernel
theorem dX8_makeAll_58 : decode cX8_makeAll 58 = .ok (.ldc 7, 2) := by decide +kernel
theorem dX8_makeAll_60 : decode cX8_makeAll 60 = .ok (.if_icmp .ge 60, 3) := by decide +kernel
theorem dX8_makeAll_63 : decode cX8_makeAll 63 = .ok (.aload_n 0, 1) := by decide +kernel
theorem dX8_makeAll_64 : decode cX8_makeAll 64 = .ok (.iload 4, 2) := by decide +kernel
theorem dX8_makeAll_66 : decode cX8_makeAll 66 = .ok (.invokevirtual 189, 3) := by decide +kernel
theorem dX8_makeAll_69 : decode cX8_makeAll 69 = .ok (.iload 5, 2) := by decide +kernel
theorem dX8_makeAll_71 : decode cX8_makeAll 71 = .ok (.if_icmp .ne 49, 3) := by decide +kernel
theorem dX8_makeAll_74 : decode cX8_makeAll 74 = .ok (.iload 5, 2) := by decide +kernel
theorem dX8_makeAll_76 : decode cX8_makeAll 76 = .ok (.aload_n 0, 1) := by decide +kernel
theorem dX8_makeAll_77 : decode cX8_makeAll 77 = .ok (.aload_n 0, 1) := by decide +kernel
theorem dX8_makeAll_78 : decode cX8_makeAll 78 = .ok (.getfield 180, 3) := by decide +kernel
theorem dX8_makeAll_81 : decode cX8_makeAll 81 = .ok (.invokevirtual 189, 3) := by decide +kernel
theorem dX8_makeAll_84 : decode cX8_makeAll 84 = .ok (.isub, 1) := by decide +kernel
theorem dX8_makeAll_85 : decode cX8_makeAll 85 = .ok (.aload_n 0, 1) := by decide +kernel
theorem dX8_makeAll_86 : decode cX8_makeAll 86 = .ok (.getfield 154, 3) := by decide +kernel
theorem dX8_makeAll_89 : decode cX8_makeAll 89 = .ok (.irem, 1) := by decide +kernel
theorem dX8_makeAll_90 : decode cX8_makeAll 90 = .ok (.ifCond .ne 24, 3) := by decide +kernel
theorem dX8_makeAll_93 : decode cX8_makeAll 93 = .ok (.aload_n 0, 1) := by decide +kernel
theorem dX8_makeAll_94 : decode cX8_makeAll 94 = .ok (.iload 4, 2) := by decide +kernel
theorem dX8_makeAll_96 : decode cX8_makeAll 96 = .ok (.invokevirtual 192, 3) := by decide +kernel
theorem dX8_makeAll_99 : decode cX8_makeAll 99 = .ok (.ifCond .eq 15, 3) := by decide +kernel
theorem dX8_makeAll_102 : decode cX8_makeAll 102 = .ok (.aload_n 0, 1) := by decide +kernel
theorem dX8_makeAll_103 : decode cX8_makeAll 103 = .ok (.getfield 53, 3) := by decide +kernel
theorem dX8_makeAll_106 : decode cX8_makeAll 106 = .ok (.iload 6, 2) := by decide +kernel
theorem dX8_makeAll_108 : decode cX8_makeAll 108 = .ok (.iload 4, 2) := by decide +kernel
theorem dX8_makeAll_110 : decode cX8_makeAll 110 = .ok (.iastore, 1) := by decide +kernel
theorem dX8_makeAll_111 : decode cX8_makeAll 111 = .ok (.iinc 6 1, 3) := by decide +kernel
theorem dX8_makeAll_114 : decode cX8_makeAll 114 = .ok (.iinc 4 1, 3) := by decide +kernel
theorem dX8_makeAll_117 : decode cX8_makeAll 117 = .ok (.goto (-61), 3) := by decide +kernel
theorem dX8_makeAll_120 : decode cX8_makeAll 120 = .ok (.iconst 0, 1) := by decide +kernel
theorem dX8_makeAll_121 : decode cX8_makeAll 121 = .ok (.istore 7, 2) := by decide +kernel
theorem dX8_makeAll_123 : decode cX8_makeAll 123 = .ok (.iload 7, 2) := by decide +kernel
theorem dX8_makeAll_125 : decode cX8_makeAll 125 = .ok (.iload 6, 2) := by decide +kernel
theorem dX8_makeAll_127 : decode cX8_makeAll 127 = .ok (.if_icmp .ge 120, 3) := by decide +kernel
theorem dX8_makeAll_130 : decode cX8_makeAll 130 = .ok (.aload_n 0, 1) := by decide +kernel
theorem dX8_makeAll_131 : decode cX8_makeAll 131 = .ok (.getfield 24, 3) := by decide +kernel
theorem dX8_makeAll_134 : decode cX8_makeAll 134 = .ok (.bipush 6, 2) := by decide +kernel
theorem dX8_makeAll_136 : decode cX8_makeAll 136 = .ok (.baload, 1) := by decide +kernel
theorem dX8_makeAll_137 : decode cX8_makeAll 137 = .ok (.ifCond .eq 36, 3) := by decide +kernel
theorem dX8_makeAll_140 : decode cX8_makeAll 140 = .ok (.aload_n 0, 1) := by decide +kernel
theorem dX8_makeAll_141 : decode cX8_makeAll 141 = .ok (.getfield 34, 3) := by decide +kernel
theorem dX8_makeAll_144 : decode cX8_makeAll 144 = .ok (.sipush 366, 3) := by decide +kernel
theorem dX8_makeAll_147 : decode cX8_makeAll 147 = .ok (.iload 7, 2) := by decide +kernel
theorem dX8_makeAll_149 : decode cX8_makeAll 149 = .ok (.iadd, 1) := by decide +kernel
theorem dX8_makeAll_150 : decode cX8_makeAll 150 = .ok (.iconst 1, 1) := by decide +kernel
theorem dX8_makeAll_151 : decode cX8_makeAll 151 = .ok (.iadd, 1) := by decide +kernel
theorem dX8_makeAll_152 : decode cX8_makeAll 152 = .ok (.baload, 1) := by decide +kernel
theorem dX8_makeAll_153 : decode cX8_makeAll 153 = .ok (.ifCond .ne 20, 3) := by decide +kernel
theorem dX8_makeAll_156 : decode cX8_makeAll 156 = .ok (.aload_n 0, 1) := by decide +kernel
theorem dX8_makeAll_157 : decode cX8_makeAll 157 = .ok (.getfield 34, 3) := by decide +kernel
theorem dX8_makeAll_160 : decode cX8_makeAll 160 = .ok (.sipush 366, 3) := by decide +kernel
theorem dX8_makeAll_163 : decode cX8_makeAll 163 = .ok (.iload 6, 2) := by decide +kernel
theorem dX8_makeAll_165 : decode cX8_makeAll 165 = .ok (.iload 7, 2) := by decide +kernel
theorem dX8_makeAll_167 : decode cX8_makeAll 167 = .ok (.isub, 1) := by decide +kernel
theorem dX8_makeAll_168 : decode cX8_makeAll 168 = .ok (.isub, 1) := by decide +kernel
theorem dX8_makeAll_169 : decode cX8_makeAll 169 = .ok (.baload, 1) := by decide +kernel
theorem dX8_makeAll_170 : decode cX8_makeAll 170 = .ok (.ifCond .eq 7, 3) := by decide +kernel
theorem dX8_makeAll_173 : decode cX8_makeAll 173 = .ok (.iconst 1, 1) := by decide +kernel
theorem dX8_makeAll_174 : decode cX8_makeAll 174 = .ok (.goto 4, 3) := by decide +kernel
theorem dX8_makeAll_177 : decode cX8_makeAll 177 = .ok (.iconst 0, 1) := by decide +kernel
theorem dX8_makeAll_178 : decode cX8_makeAll 178 = .ok (.istore 8, 2) := by decide +kernel
theorem dX8_makeAll_180 : decode cX8_makeAll 180 = .ok (.iload 8, 2) := by decide +kernel
theorem dX8_makeAll_182 : decode cX8_makeAll 182 = .ok (.ifCond .eq 59, 3) := by decide +kernel
theorem dX8_makeAll_185 : decode cX8_makeAll 185 = .ok (.aload_n 0, 1) := by decide +kernel
theorem dX8_makeAll_186 : decode cX8_makeAll 186 = .ok (.getfield 53, 3) := by decide +kernel
theorem dX8_makeAll_189 : decode cX8_makeAll 189 = .ok (.iload 7, 2) := by decide +kernel
theorem dX8_makeAll_191 : decode cX8_makeAll 191 = .ok (.iaload, 1) := by decide +kernel
theorem dX8_makeAll_192 : decode cX8_makeAll 192 = .ok (.aload_n 0, 1) := by decide +kernel
theorem dX8_makeAll_193 : decode cX8_makeAll 193 = .ok (.getfield 180, 3) := by decide +kernel
theorem dX8_makeAll_196 : decode cX8_makeAll 196 = .ok (.if_icmp .lt 45, 3) := by decide +kernel
theorem dX8_makeAll_199 : decode cX8_makeAll 199 = .ok (.aload_n 0, 1) := by decide +kernel
theorem dX8_makeAll_200 : decode cX8_makeAll 200 = .ok (.getfield 53, 3) := by decide +kernel
theorem dX8_makeAll_203 : decode cX8_makeAll 203 = .ok (.iload 7, 2) := by decide +kernel
theorem dX8_makeAll_205 : decode cX8_makeAll 205 = .ok (.iaload, 1) := by decide +kernel
theorem dX8_makeAll_206 : decode cX8_makeAll 206 = .ok (.aload_n 0, 1) := by decide +kernel
theorem dX8_makeAll_207 : decode cX8_makeAll 207 = .ok (.getfield 130, 3) := by decide +kernel
theorem dX8_makeAll_210 : decode cX8_makeAll 210 = .ok (.if_icmp .gt 31, 3) := by decide +kernel
theorem dX8_makeAll_213 : decode cX8_makeAll 213 = .ok (.iload_n 2, 1) := by decide +kernel
theorem dX8_makeAll_214 : decode cX8_makeAll 214 = .ok (.aload_n 0, 1) := by decide +kernel
theorem dX8_makeAll_215 : decode cX8_makeAll 215 = .ok (.getfield 157, 3) := by decide +kernel
theorem dX8_makeAll_218 : decode cX8_makeAll 218 = .ok (.if_icmp .ge 23, 3) := by decide +kernel
theorem dX8_makeAll_221 : decode cX8_makeAll 221 = .ok (.aload_n 0, 1) := by decide +kernel
theorem dX8_makeAll_222 : decode cX8_makeAll 222 = .ok (.aload_n 0, 1) := by decide +kernel
theorem dX8_makeAll_223 : decode cX8_makeAll 223 = .ok (.getfield 44, 3) := by decide +kernel
theorem dX8_makeAll_226 : decode cX8_makeAll 226 = .ok (.iload_n 1, 1) := by decide +kernel
theorem dX8_makeAll_227 : decode cX8_makeAll 227 = .ok (.aload_n 0, 1) := by decide +kernel
theorem dX8_makeAll_228 : decode cX8_makeAll 228 = .ok (.getfield 53, 3) := by decide +kernel
theorem dX8_makeAll_231 : decode cX8_makeAll 231 = .ok (.iload 7, 2) := by decide +kernel
theorem dX8_makeAll_233 : decode cX8_makeAll 233 = .ok (.iaload, 1) := by decide +kernel
theorem dX8_makeAll_234 : decode cX8_makeAll 234 = .ok (.iconst 1, 1) := by decide +kernel
theorem dX8_makeAll_235 : decode cX8_makeAll 235 = .ok (.invokevirtual 195, 3) := by decide +kernel
theorem dX8_makeAll_238 : decode cX8_makeAll 238 = .ok (.iinc 2 1, 3) := by decide +kernel
theorem dX8_makeAll_241 : decode cX8_makeAll 241 = .ok (.iinc 7 1, 3) := by decide +kernel
theorem dX8_makeAll_244 : decode cX8_makeAll 244 = .ok (.goto (-121), 3) := by decide +kernel
theorem dX8_makeAll_247 : decode cX8_makeAll 247 = .ok (.goto (-209), 3) := by decide +kernel
theorem dX8_makeAll_250 : decode cX8_makeAll 250 = .ok (.return_, 1) := by decide +kernel
theorem dX8_thing_0 : decode cX8_thing 0 = .ok (.aload_n 0, 1) := by decide +kernel
theorem dX8_thing_1 : decode cX8_thing 1 = .ok (.iload_n 1, 1) := by decide +kernel
theorem dX8_thing_2 : decode cX8_thing 2 = .ok (.invokevirtual 127, 3) := by decide +kernel
theorem dX8_thing_5 : decode cX8_thing 5 = .ok (.istore_n 2, 1) := by decide +kernel
theorem dX8_thing_6 : decode cX8_thing 6 = .ok (.aload_n 0, 1) := by decide +kernel
theorem dX8_thing_7 : decode cX8_thing 7 = .ok (.iload_n 2, 1) := by decide +kernel
theorem dX8_thing_8 : decode cX8_thing 8 = .ok (.ifCond .ge 7, 3) := by decide +kernel
theorem dX8_thing_11 : decode cX8_thing 11 = .ok (.iconst 1, 1) := by decide +kernel
theorem dX8_thing_12 : decode cX8_thing 12 = .ok (.goto 4, 3) := by decide +kernel
theorem dX8_thing_15 : decode cX8_thing 15 = .ok (.iconst 0, 1) := by decide +kernel
theorem dX8_thing_16 : decode cX8_thing 16 = .ok (.putfield 64, 3) := by decide +kernel
theorem dX8_thing_19 : decode cX8_thing 19 = .ok (.iconst 0, 1) := by decide +kernel
theorem dX8_thing_20 : decode cX8_thing 20 = .ok (.istore_n 3, 1) := by decide +kernel
theorem dX8_thing_21 : decode cX8_thing 21 = .ok (.iload_n 3, 1) := by decide +kernel
theorem dX8_thing_22 : decode cX8_thing 22 = .ok (.bipush 12, 2) := by decide +kernel
theorem dX8_thing_24 : decode cX8_thing 24 = .ok (.if_icmp .ge 18, 3) := by decide +kernel
theorem dX8_thing_27 : decode cX8_thing 27 = .ok (.aload_n 0, 1) := by decide +kernel
theorem dX8_thing_28 : decode cX8_thing 28 = .ok (.getfield 40, 3) := by decide +kernel
theorem dX8_thing_31 : decode cX8_thing 31 = .ok (.iload_n 3, 1) := by decide +kernel
theorem dX8_thing_32 : decode cX8_thing 32 = .ok (.baload, 1) := by decide +kernel
theorem dX8_thing_33 : decode cX8_thing 33 = .ok (.ifCond .eq 9, 3) := by decide +kernel
theorem dX8_thing_36 : decode cX8_thing 36 = .ok (.iinc 3 1, 3) := by decide +kernel
theorem dX8_thing_39 : decode cX8_thing 39 = .ok (.goto (-18), 3) := by decide +kernel
theorem dX8_thing_42 : decode cX8_thing 42 = .ok (.aload_n 0, 1) := by decide +kernel
theorem dX8_thing_43 : decode cX8_thing 43 = .ok (.getfield 64, 3) := by decide +kernel
theorem dX8_thing_46 : decode cX8_thing 46 = .ok (.ifCond .gt 9, 3) := by decide +kernel
theorem dX8_thing_49 : decode cX8_thing 49 = .ok (.iload_n 3, 1) := by decide +kernel
theorem dX8_thing_50 : decode cX8_thing 50 = .ok (.bipush 12, 2) := by decide +kernel
theorem dX8_thing_52 : decode cX8_thing 52 = .ok (.if_icmp .ne 16, 3) := by decide +kernel
theorem dX8_thing_55 : decode cX8_thing 55 = .ok (.aload_n 0, 1) := by decide +kernel
theorem dX8_thing_56 : decode cX8_thing 56 = .ok (.getfield 64, 3) := by decide +kernel
theorem dX8_thing_59 : decode cX8_thing 59 = .ok (.ifCond .le 7, 3) := by decide +kernel
theorem dX8_thing_62 : decode cX8_thing 62 = .ok (.iconst 0, 1) := by decide +kernel
theorem dX8_thing_63 : decode cX8_thing 63 = .ok (.goto 4, 3) := by decide +kernel
theorem dX8_thing_66 : decode cX8_thing 66 = .ok (.iconst (-1), 1) := by decide +kernel
theorem dX8_thing_67 : decode cX8_thing 67 = .ok (.ireturn, 1) := by decide +kernel
theorem dX8_thing_68 : decode cX8_thing 68 = .ok (.aload_n 0, 1) := by decide +kernel
theorem dX8_thing_69 : decode cX8_thing 69 = .ok (.invokevirtual 199, 3) := by decide +kernel
theorem dX8_thing_72 : decode cX8_thing 72 = .ok (.aload_n 0, 1) := by decide +kernel
theorem dX8_thing_73 : decode cX8_thing 73 = .ok (.getfield 86, 3) := by decide +kernel
theorem dX8_thing_76 : decode cX8_thing 76 = .ok (.ifCond .le 5, 3) := by decide +kernel
theorem dX8_thing_79 : decode cX8_thing 79 = .ok (.iconst (-1), 1) := by decide +kernel
theorem dX8_thing_80 : decode cX8_thing 80 = .ok (.ireturn, 1) := by decide +kernel
theorem dX8_thing_81 : decode cX8_thing 81 = .ok (.sipush 3425, 3) := by decide +kernel
theorem dX8_thing_84 : decode cX8_thing 84 = .ok (.iload_n 3, 1) := by decide +kernel
theorem dX8_thing_85 : decode cX8_thing 85 = .ok (.imul, 1) := by decide +kernel
theorem dX8_thing_86 : decode cX8_thing 86 = .ok (.istore 4, 2) := by decide +kernel
theorem dX8_thing_88 : decode cX8_thing 88 = .ok (.iload 4, 2) := by decide +kernel
theorem dX8_thing_90 : decode cX8_thing 90 = .ok (.sipush 3425, 3) := by decide +kernel
theorem dX8_thing_93 : decode cX8_thing 93 = .ok (.iload_n 3, 1) := by decide +kernel
theorem dX8_thing_94 : decode cX8_thing 94 = .ok (.imul, 1) := by decide +kernel
theorem dX8_thing_95 : decode cX8_thing 95 = .ok (.sipush 3425, 3) := by decide +kernel
theorem dX8_thing_98 : decode cX8_thing 98 = .ok (.iadd, 1) := by decide +kernel
theorem dX8_thing_99 : decode cX8_thing 99 = .ok (.if_icmp .ge 33, 3) := by decide +kernel
theorem dX8_thing_102 : decode cX8_thing 102 = .ok (.aload_n 0, 1) := by decide +kernel
theorem dX8_thing_103 : decode cX8_thing 103 = .ok (.getfield 44, 3) := by decide +kernel
theorem dX8_thing_106 : decode cX8_thing 106 = .ok (.iload 4, 2) := by decide +kernel
theorem dX8_thing_108 : decode cX8_thing 108 = .ok (.iconst 0, 1) := by decide +kernel
theorem dX8_thing_109 : decode cX8_thing 109 = .ok (.iastore, 1) := by decide +kernel
theorem dX8_thing_110 : decode cX8_thing 110 = .ok (.aload_n 0, 1) := by decide +kernel
theorem dX8_thing_111 : decode cX8_thing 111 = .ok (.getfield 47, 3) := by decide +kernel
theorem dX8_thing_114 : decode cX8_thing 114 = .ok (.iload 4, 2) := by decide +kernel
theorem dX8_thing_116 : decode cX8_thing 116 = .ok (.iconst 0, 1) := by decide +kernel
theorem dX8_thing_117 : decode cX8_thing 117 = .ok (.iastore, 1) := by decide +kernel
theorem dX8_thing_118 : decode cX8_thing 118 = .ok (.aload_n 0, 1) := by decide +kernel
theorem dX8_thing_119 : decode cX8_thing 119 = .ok (.getfield 50, 3) := by decide +kernel
theorem dX8_thing_122 : decode cX8_thing 122 = .ok (.iload 4, 2) := by decide +kernel
theorem dX8_thing_124 : decode cX8_thing 124 = .ok (.iconst 0, 1) := by decide +kernel
theorem dX8_thing_125 : decode cX8_thing 125 = .ok (.iastore, 1) := by decide +kernel
theorem dX8_thing_126 : decode cX8_thing 126 = .ok (.iinc 4 1, 3) := by decide +kernel
theorem dX8_thing_129 : decode cX8_thing 129 = .ok (.goto (-41), 3) := by decide +kernel
theorem dX8_thing_132 : decode cX8_thing 132 = .ok (.aload_n 0, 1) := by decide +kernel
theorem dX8_thing_133 : decode cX8_thing 133 = .ok (.getfield 40, 3) := by decide +kernel
theorem dX8_thing_136 : decode cX8_thing 136 = .ok (.iload_n 3, 1) := by decide +kernel
theorem dX8_thing_137 : decode cX8_thing 137 = .ok (.iconst 1, 1) := by decide +kernel
theorem dX8_thing_138 : decode cX8_thing 138 = .ok (.bastore, 1) := by decide +kernel
theorem dX8_thing_139 : decode cX8_thing 139 = .ok (.aload_n 0, 1) := by decide +kernel
theorem dX8_thing_140 : decode cX8_thing 140 = .ok (.iload_n 2, 1) := by decide +kernel
theorem dX8_thing_141 : decode cX8_thing 141 = .ok (.putfield 180, 3) := by decide +kernel
theorem dX8_thing_144 : decode cX8_thing 144 = .ok (.aload_n 0, 1) := by decide +kernel
theorem dX8_thing_145 : decode cX8_thing 145 = .ok (.iload_n 3, 1) := by decide +kernel
theorem dX8_thing_146 : decode cX8_thing 146 = .ok (.invokevirtual 202, 3) := by decide +kernel
theorem dX8_thing_149 : decode cX8_thing 149 = .ok (.iload_n 3, 1) := by decide +kernel
theorem dX8_thing_150 : decode cX8_thing 150 = .ok (.ireturn, 1) := by decide +kernel
theorem dX8_fault_0 : decode cX8_fault 0 = .ok (.aload_n 0, 1) := by decide +kernel
theorem dX8_fault_1 : decode cX8_fault 1 = .ok (.iconst 0, 1) := by decide +kernel
theorem dX8_fault_2 : decode cX8_fault 2 = .ok (.putfield 64, 3) := by decide +kernel
theorem dX8_fault_5 : decode cX8_fault 5 = .ok (.aload_n 0, 1) := by decide +kernel
theorem dX8_fault_6 : decode cX8_fault 6 = .ok (.getfield 86, 3) := by decide +kernel
theorem dX8_fault_9 : decode cX8_fault 9 = .ok (.ireturn, 1) := by decide +kernel
theorem dX8_place_0 : decode cX8_place 0 = .ok (.aload_n 0, 1) := by decide +kernel
theorem dX8_place_1 : decode cX8_place 1 = .ok (.iconst 0, 1) := by decide +kernel
theorem dX8_place_2 : decode cX8_place 2 = .ok (.putfield 64, 3) := by decide +kernel
theorem dX8_place_5 : decode cX8_place 5 = .ok (.aload_n 0, 1) := by decide +kernel
theorem dX8_place_6 : decode cX8_place 6 = .ok (.getfield 20, 3) := by decide +kernel
theorem dX8_place_9 : decode cX8_place 9 = .ok (.ireturn, 1) := by decide +kernel
theorem dX8_noThing_0 : decode cX8_noThing 0 = .ok (.iload_n 1, 1) := by decide +kernel
theorem dX8_noThing_1 : decode cX8_noThing 1 = .ok (.ifCond .lt 18, 3) := by decide +kernel
theorem dX8_noThing_4 : decode cX8_noThing 4 = .ok (.iload_n 1, 1) := by decide +kernel
theorem dX8_noThing_5 : decode cX8_noThing 5 = .ok (.bipush 12, 2) := by decide +kernel
theorem dX8_noThing_7 : decode cX8_noThing 7 = .ok (.if_icmp .ge 12, 3) := by decide +kernel
theorem dX8_noThing_10 : decode cX8_noThing 10 = .ok (.aload_n 0, 1) := by decide +kernel
theorem dX8_noThing_11 : decode cX8_noThing 11 = .ok (.getfield 40, 3) := by decide +kernel
theorem dX8_noThing_14 : decode cX8_noThing 14 = .ok (.iload_n 1, 1) := by decide +kernel
theorem dX8_noThing_15 : decode cX8_noThing 15 = .ok (.baload, 1) := by decide +kernel
theorem dX8_noThing_16 : decode cX8_noThing 16 = .ok (.ifCond .ne 7, 3) := by decide +kernel
theorem dX8_noThing_19 : decode cX8_noThing 19 = .ok (.iconst 1, 1) := by decide +kernel
theorem dX8_noThing_20 : decode cX8_noThing 20 = .ok (.goto 4, 3) := by decide +kernel
theorem dX8_noThing_23 : decode cX8_noThing 23 = .ok (.iconst 0, 1) := by decide +kernel
theorem dX8_noThing_24 : decode cX8_noThing 24 = .ok (.ireturn, 1) := by decide +kernel
theorem dX8_drop_0 : decode cX8_drop 0 = .ok (.aload_n 0, 1) := by decide +kernel
theorem dX8_drop_1 : decode cX8_drop 1 = .ok (.aload_n 0, 1) := by decide +kernel
theorem dX8_drop_2 : decode cX8_drop 2 = .ok (.iload_n 1, 1) := by decide +kernel
theorem dX8_drop_3 : decode cX8_drop 3 = .ok (.invokevirtual 205, 3) := by decide +kernel
theorem dX8_drop_6 : decode cX8_drop 6 = .ok (.ifCond .eq 7, 3) := by decide +kernel
theorem dX8_drop_9 : decode cX8_drop 9 = .ok (.iconst 1, 1) := by decide +kernel
theorem dX8_drop_10 : decode cX8_drop 10 = .ok (.goto 4, 3) := by decide +kernel
theorem dX8_drop_13 : decode cX8_drop 13 = .ok (.iconst 0, 1) := by decide +kernel
theorem dX8_drop_14 : decode cX8_drop 14 = .ok (.putfield 64, 3) := by decide +kernel
theorem dX8_drop_17 : decode cX8_drop 17 = .ok (.aload_n 0, 1) := by decide +kernel
theorem dX8_drop_18 : decode cX8_drop 18 = .ok (.getfield 64, 3) := by decide +kernel
theorem dX8_drop_21 : decode cX8_drop 21 = .ok (.ifCond .ne 10, 3) := by decide +kernel
theorem dX8_drop_24 : decode cX8_drop 24 = .ok (.aload_n 0, 1) := by decide +kernel
theorem dX8_drop_25 : decode cX8_drop 25 = .ok (.getfield 40, 3) := by decide +kernel
theorem dX8_drop_28 : decode cX8_drop 28 = .ok (.iload_n 1, 1) := by decide +kernel
theorem dX8_drop_29 : decode cX8_drop 29 = .ok (.iconst 0, 1) := by decide +kernel
theorem dX8_drop_30 : decode cX8_drop 30 = .ok (.bastore, 1) := by decide +kernel
theorem dX8_drop_31 : decode cX8_drop 31 = .ok (.return_, 1) := by decide +kernel
theorem dX8_except_0 : decode cX8_except 0 = .ok (.aload_n 0, 1) := by decide +kernel
theorem dX8_except_1 : decode cX8_except 1 = .ok (.iload_n 2, 1) := by decide +kernel
theorem dX8_except_2 : decode cX8_except 2 = .ok (.invokevirtual 127, 3) := by decide +kernel
theorem dX8_except_5 : decode cX8_except 5 = .ok (.istore 4, 2) := by decide +kernel
theorem dX8_except_7 : decode cX8_except 7 = .ok (.aload_n 0, 1) := by decide +kernel
theorem dX8_except_8 : decode cX8_except 8 = .ok (.aload_n 0, 1) := by decide +kernel
theorem dX8_except_9 : decode cX8_except 9 = .ok (.iload_n 1, 1) := by decide +kernel
theorem dX8_except_10 : decode cX8_except 10 = .ok (.invokevirtual 205, 3) := by decide +kernel
theorem dX8_except_13 : decode cX8_except 13 = .ok (.ifCond .eq 7, 3) := by decide +kernel
theorem dX8_except_16 : decode cX8_except 16 = .ok (.iconst 1, 1) := by decide +kernel
theorem dX8_except_17 : decode cX8_except 17 = .ok (.goto 13, 3) := by decide +kernel
theorem dX8_except_20 : decode cX8_except 20 = .ok (.iload 4, 2) := by decide +kernel
theorem dX8_except_22 : decode cX8_except 22 = .ok (.ifCond .ge 7, 3) := by decide +kernel
theorem dX8_except_25 : decode cX8_except 25 = .ok (.iconst 2, 1) := by decide +kernel
theorem dX8_except_26 : decode cX8_except 26 = .ok (.goto 4, 3) := by decide +kernel
theorem dX8_except_29 : decode cX8_except 29 = .ok (.iconst 0, 1) := by decide +kernel
theorem dX8_except_30 : decode cX8_except 30 = .ok (.putfield 64, 3) := by decide +kernel
theorem dX8_except_33 : decode cX8_except 33 = .ok (.aload_n 0, 1) := by decide +kernel
theorem dX8_except_34 : decode cX8_except 34 = .ok (.getfield 64, 3) := by decide +kernel
theorem dX8_except_37 : decode cX8_except 37 = .ok (.ifCond .le 5, 3) := by decide +kernel
theorem dX8_except_40 : decode cX8_except 40 = .ok (.iconst 0, 1) := by decide +kernel
theorem dX8_except_41 : decode cX8_except 41 = .ok (.ireturn, 1) := by decide +kernel
theorem dX8_except_42 : decode cX8_except 42 = .ok (.aload_n 0, 1) := by decide +kernel
theorem dX8_except_43 : decode cX8_except 43 = .ok (.aload_n 0, 1) := by decide +kernel
theorem dX8_except_44 : decode cX8_except 44 = .ok (.getfield 47, 3) := by decide +kernel
theorem dX8_except_47 : decode cX8_except 47 = .ok (.iload_n 1, 1) := by decide +kernel
theorem dX8_except_48 : decode cX8_except 48 = .ok (.iload 4, 2) := by decide +kernel
theorem dX8_except_50 : decode cX8_except 50 = .ok (.invokevirtual 208, 3) := by decide +kernel
theorem dX8_except_53 : decode cX8_except 53 = .ok (.istore 5, 2) := by decide +kernel
theorem dX8_except_55 : decode cX8_except 55 = .ok (.aload_n 0, 1) := by decide +kernel
theorem dX8_except_56 : decode cX8_except 56 = .ok (.aload_n 0, 1) := by decide +kernel
theorem dX8_except_57 : decode cX8_except 57 = .ok (.getfield 47, 3) := by decide +kernel
theorem dX8_except_60 : decode cX8_except 60 = .ok (.iload_n 1, 1) := by decide +kernel
theorem dX8_except_61 : decode cX8_except 61 = .ok (.iload 4, 2) := by decide +kernel
theorem dX8_except_63 : decode cX8_except 63 = .ok (.iload_n 3, 1) := by decide +kernel
theorem dX8_except_64 : decode cX8_except 64 = .ok (.invokevirtual 195, 3) := by decide +kernel
theorem dX8_except_67 : decode cX8_except 67 = .ok (.iload 5, 2) := by decide +kernel
theorem dX8_except_69 : decode cX8_except 69 = .ok (.ireturn, 1) := by decide +kernel
theorem dX8_besides_0 : decode cX8_besides 0 = .ok (.aload_n 0, 1) := by decide +kernel
theorem dX8_besides_1 : decode cX8_besides 1 = .ok (.iload_n 2, 1) := by decide +kernel
theorem dX8_besides_2 : decode cX8_besides 2 = .ok (.invokevirtual 127, 3) := by decide +kernel
theorem dX8_besides_5 : decode cX8_besides 5 = .ok (.istore 4, 2) := by decide +kernel
theorem dX8_besides_7 : decode cX8_besides 7 = .ok (.aload_n 0, 1) := by decide +kernel
theorem dX8_besides_8 : decode cX8_besides 8 = .ok (.aload_n 0, 1) := by decide +kernel
theorem dX8_besides_9 : decode cX8_besides 9 = .ok (.iload_n 1, 1) := by decide +kernel
theorem dX8_besides_10 : decode cX8_besides 10 = .ok (.invokevirtual 205, 3) := by decide +kernel
theorem dX8_besides_13 : decode cX8_besides 13 = .ok (.ifCond .eq 7, 3) := by decide +kernel
theorem dX8_besides_16 : decode cX8_besides 16 = .ok (.iconst 1, 1) := by decide +kernel
theorem dX8_besides_17 : decode cX8_besides 17 = .ok (.goto 13, 3) := by decide +kernel
theorem dX8_besides_20 : decode cX8_besides 20 = .ok (.iload 4, 2) := by decide +kernel
theorem dX8_besides_22 : decode cX8_besides 22 = .ok (.ifCond .ge 7, 3) := by decide +kernel
theorem dX8_besides_25 : decode cX8_besides 25 = .ok (.iconst 2, 1) := by decide +kernel
theorem dX8_besides_26 : decode cX8_besides 26 = .ok (.goto 4, 3) := by decide +kernel
theorem dX8_besides_29 : decode cX8_besides 29 = .ok (.iconst 0, 1) := by decide +kernel
theorem dX8_besides_30 : decode cX8_besides 30 = .ok (.putfield 64, 3) := by decide +kernel
theorem dX8_besides_33 : decode cX8_besides 33 = .ok (.aload_n 0, 1) := by decide +kernel
theorem dX8_besides_34 : decode cX8_besides 34 = .ok (.getfield 64, 3) := by decide +kernel
theorem dX8_besides_37 : decode cX8_besides 37 = .ok (.ifCond .le 5, 3) := by decide +kernel
theorem dX8_besides_40 : decode cX8_besides 40 = .ok (.iconst 0, 1) := by decide +kernel
theorem dX8_besides_41 : decode cX8_besides 41 = .ok (.ireturn, 1) := by decide +kernel
theorem dX8_besides_42 : decode cX8_besides 42 = .ok (.aload_n 0, 1) := by decide +kernel
theorem dX8_besides_43 : decode cX8_besides 43 = .ok (.aload_n 0, 1) := by decide +kernel
theorem dX8_besides_44 : decode cX8_besides 44 = .ok (.getfield 50, 3) := by decide +kernel
theorem dX8_besides_47 : decode cX8_besides 47 = .ok (.iload_n 1, 1) := by decide +kernel
theorem dX8_besides_48 : decode cX8_besides 48 = .ok (.iload 4, 2) := by decide +kernel
theorem dX8_besides_50 : decode cX8_besides 50 = .ok (.invokevirtual 208, 3) := by decide +kernel
theorem dX8_besides_53 : decode cX8_besides 53 = .ok (.istore 5, 2) := by decide +kernel
theorem dX8_besides_55 : decode cX8_besides 55 = .ok (.aload_n 0, 1) := by decide +kernel
theorem dX8_besides_56 : decode cX8_besides 56 = .ok (.aload_n 0, 1) := by decide +kernel
theorem dX8_besides_57 : decode cX8_besides 57 = .ok (.getfield 50, 3) := by decide +kernel
theorem dX8_besides_60 : decode cX8_besides 60 = .ok (.iload_n 1, 1) := by decide +kernel
theorem dX8_besides_61 : decode cX8_besides 61 = .ok (.iload 4, 2) := by decide +kernel
theorem dX8_besides_63 : decode cX8_besides 63 = .ok (.iload_n 3, 1) := by decide +kernel
theorem dX8_besides_64 : decode cX8_besides 64 = .ok (.invokevirtual 195, 3) := by decide +kernel
theorem dX8_besides_67 : decode cX8_besides 67 = .ok (.iload 5, 2) := by decide +kernel
theorem dX8_besides_69 : decode cX8_besides 69 = .ok (.ireturn, 1) := by decide +kernel
theorem dX8_comesAt_0 : decode cX8_comesAt 0 = .ok (.aload_n 0, 1) := by decide +kernel
theorem dX8_comesAt_1 : decode cX8_comesAt 1 = .ok (.aload_n 0, 1) := by decide +kernel
theorem dX8_comesAt_2 : decode cX8_comesAt 2 = .ok (.getfield 44, 3) := by decide +kernel
theorem dX8_comesAt_5 : decode cX8_comesAt 5 = .ok (.iload_n 1, 1) := by decide +kernel
theorem dX8_comesAt_6 : decode cX8_comesAt 6 = .ok (.iload_n 2, 1) := by decide +kernel
theorem dX8_comesAt_7 : decode cX8_comesAt 7 = .ok (.invokevirtual 208, 3) := by decide +kernel
theorem dX8_comesAt_10 : decode cX8_comesAt 10 = .ok (.ifCond .ne 16, 3) := by decide +kernel
theorem dX8_comesAt_13 : decode cX8_comesAt 13 = .ok (.aload_n 0, 1) := by decide +kernel
theorem dX8_comesAt_14 : decode cX8_comesAt 14 = .ok (.aload_n 0, 1) := by decide +kernel
theorem dX8_comesAt_15 : decode cX8_comesAt 15 = .ok (.getfield 50, 3) := by decide +kernel
theorem dX8_comesAt_18 : decode cX8_comesAt 18 = .ok (.iload_n 1, 1) := by decide +kernel
theorem dX8_comesAt_19 : decode cX8_comesAt 19 = .ok (.iload_n 2, 1) := by decide +kernel
theorem dX8_comesAt_20 : decode cX8_comesAt 20 = .ok (.invokevirtual 208, 3) := by decide +kernel
theorem dX8_comesAt_23 : decode cX8_comesAt 23 = .ok (.ifCond .eq 20, 3) := by decide +kernel
theorem dX8_comesAt_26 : decode cX8_comesAt 26 = .ok (.aload_n 0, 1) := by decide +kernel
theorem dX8_comesAt_27 : decode cX8_comesAt 27 = .ok (.aload_n 0, 1) := by decide +kernel
theorem dX8_comesAt_28 : decode cX8_comesAt 28 = .ok (.getfield 47, 3) := by decide +kernel
theorem dX8_comesAt_31 : decode cX8_comesAt 31 = .ok (.iload_n 1, 1) := by decide +kernel
theorem dX8_comesAt_32 : decode cX8_comesAt 32 = .ok (.iload_n 2, 1) := by decide +kernel
theorem dX8_comesAt_33 : decode cX8_comesAt 33 = .ok (.invokevirtual 208, 3) := by decide +kernel
theorem dX8_comesAt_36 : decode cX8_comesAt 36 = .ok (.ifCond .ne 7, 3) := by decide +kernel
theorem dX8_comesAt_39 : decode cX8_comesAt 39 = .ok (.iconst 1, 1) := by decide +kernel
theorem dX8_comesAt_40 : decode cX8_comesAt 40 = .ok (.goto 4, 3) := by decide +kernel
theorem dX8_comesAt_43 : decode cX8_comesAt 43 = .ok (.iconst 0, 1) := by decide +kernel
theorem dX8_comesAt_44 : decode cX8_comesAt 44 = .ok (.ireturn, 1) := by decide +kernel
theorem dX8_comes_0 : decode cX8_comes 0 = .ok (.aload_n 0, 1) := by decide +kernel
theorem dX8_comes_1 : decode cX8_comes 1 = .ok (.iload_n 2, 1) := by decide +kernel
theorem dX8_comes_2 : decode cX8_comes 2 = .ok (.invokevirtual 127, 3) := by decide +kernel
theorem dX8_comes_5 : decode cX8_comes 5 = .ok (.istore_n 3, 1) := by decide +kernel
theorem dX8_comes_6 : decode cX8_comes 6 = .ok (.aload_n 0, 1) := by decide +kernel
theorem dX8_comes_7 : decode cX8_comes 7 = .ok (.aload_n 0, 1) := by decide +kernel
theorem dX8_comes_8 : decode cX8_comes 8 = .ok (.iload_n 1, 1) := by decide +kernel
theorem dX8_comes_9 : decode cX8_comes 9 = .ok (.invokevirtual 205, 3) := by decide +kernel
theorem dX8_comes_12 : decode cX8_comes 12 = .ok (.ifCond .eq 7, 3) := by decide +kernel
theorem dX8_comes_15 : decode cX8_comes 15 = .ok (.iconst 1, 1) := by decide +kernel
theorem dX8_comes_16 : decode cX8_comes 16 = .ok (.goto 12, 3) := by decide +kernel
theorem dX8_comes_19 : decode cX8_comes 19 = .ok (.iload_n 3, 1) := by decide +kernel
theorem dX8_comes_20 : decode cX8_comes 20 = .ok (.ifCond .ge 7, 3) := by decide +kernel
theorem dX8_comes_23 : decode cX8_comes 23 = .ok (.iconst 2, 1) := by decide +kernel
theorem dX8_comes_24 : decode cX8_comes 24 = .ok (.goto 4, 3) := by decide +kernel
theorem dX8_comes_27 : decode cX8_comes 27 = .ok (.iconst 0, 1) := by decide +kernel
theorem dX8_comes_28 : decode cX8_comes 28 = .ok (.putfield 64, 3) := by decide +kernel
theorem dX8_comes_31 : decode cX8_comes 31 = .ok (.aload_n 0, 1) := by decide +kernel
theorem dX8_comes_32 : decode cX8_comes 32 = .ok (.getfield 64, 3) := by decide +kernel
theorem dX8_comes_35 : decode cX8_comes 35 = .ok (.ifCond .ne 16, 3) := by decide +kernel
theorem dX8_comes_38 : decode cX8_comes 38 = .ok (.aload_n 0, 1) := by decide +kernel
theorem dX8_comes_39 : decode cX8_comes 39 = .ok (.iload_n 1, 1) := by decide +kernel
theorem dX8_comes_40 : decode cX8_comes 40 = .ok (.iload_n 3, 1) := by decide +kernel
theorem dX8_comes_41 : decode cX8_comes 41 = .ok (.invokevirtual 212, 3) := by decide +kernel
theorem dX8_comes_44 : decode cX8_comes 44 = .ok (.ifCond .eq 7, 3) := by decide +kernel
theorem dX8_comes_47 : decode cX8_comes 47 = .ok (.iconst 1, 1) := by decide +kernel
theorem dX8_comes_48 : decode cX8_comes 48 = .ok (.goto 4, 3) := by decide +kernel
theorem dX8_comes_51 : decode cX8_comes 51 = .ok (.iconst 0, 1) := by decide +kernel
theorem dX8_comes_52 : decode cX8_comes 52 = .ok (.ireturn, 1) := by decide +kernel
theorem dX8_next_0 : decode cX8_next 0 = .ok (.aload_n 0, 1) := by decide +kernel
theorem dX8_next_1 : decode cX8_next 1 = .ok (.iload_n 2, 1) := by decide +kernel
theorem dX8_next_2 : decode cX8_next 2 = .ok (.invokevirtual 127, 3) := by decide +kernel
theorem dX8_next_5 : decode cX8_next 5 = .ok (.istore_n 3, 1) := by decide +kernel
theorem dX8_next_6 : decode cX8_next 6 = .ok (.aload_n 0, 1) := by decide +kernel
theorem dX8_next_7 : decode cX8_next 7 = .ok (.aload_n 0, 1) := by decide +kernel
theorem dX8_next_8 : decode cX8_next 8 = .ok (.iload_n 1, 1) := by decide +kernel
theorem dX8_next_9 : decode cX8_next 9 = .ok (.invokevirtual 205, 3) := by decide +kernel
theorem dX8_next_12 : decode cX8_next 12 = .ok (.ifCond .eq 7, 3) := by decide +kernel
theorem dX8_next_15 : decode cX8_next 15 = .ok (.iconst 1, 1) := by decide +kernel
theorem dX8_next_16 : decode cX8_next 16 = .ok (.goto 12, 3) := by decide +kernel
theorem dX8_next_19 : decode cX8_next 19 = .ok (.iload_n 3, 1) := by decide +kernel
theorem dX8_next_20 : decode cX8_next 20 = .ok (.ifCond .ge 7, 3) := by decide +kernel
theorem dX8_next_23 : decode cX8_next 23 = .ok (.iconst 2, 1) := by decide +kernel
theorem dX8_next_24 : decode cX8_next 24 = .ok (.goto 4, 3) := by decide +kernel
theorem dX8_next_27 : decode cX8_next 27 = .ok (.iconst 0, 1) := by decide +kernel
theorem dX8_next_28 : decode cX8_next 28 = .ok (.putfield 64, 3) := by decide +kernel
theorem dX8_next_31 : decode cX8_next 31 = .ok (.aload_n 0, 1) := by decide +kernel
theorem dX8_next_32 : decode cX8_next 32 = .ok (.getfield 64, 3) := by decide +kernel
theorem dX8_next_35 : decode cX8_next 35 = .ok (.ifCond .le 5, 3) := by decide +kernel
theorem dX8_next_38 : decode cX8_next 38 = .ok (.iconst 0, 1) := by decide +kernel
theorem dX8_next_39 : decode cX8_next 39 = .ok (.ireturn, 1) := by decide +kernel
theorem dX8_next_40 : decode cX8_next 40 = .ok (.iload_n 3, 1) := by decide +kernel
theorem dX8_next_41 : decode cX8_next 41 = .ok (.iconst 1, 1) := by decide +kernel
theorem dX8_next_42 : decode cX8_next 42 = .ok (.iadd, 1) := by decide +kernel
theorem dX8_next_43 : decode cX8_next 43 = .ok (.istore 4, 2) := by decide +kernel
theorem dX8_next_45 : decode cX8_next 45 = .ok (.iload 4, 2) := by decide +kernel
theorem dX8_next_47 : decode cX8_next 47 = .ok (.ldc 7, 2) := by decide +kernel
theorem dX8_next_49 : decode cX8_next 49 = .ok (.if_icmp .ge 27, 3) := by decide +kernel
theorem dX8_next_52 : decode cX8_next 52 = .ok (.aload_n 0, 1) := by decide +kernel
theorem dX8_next_53 : decode cX8_next 53 = .ok (.iload_n 1, 1) := by decide +kernel
theorem dX8_next_54 : decode cX8_next 54 = .ok (.iload 4, 2) := by decide +kernel
theorem dX8_next_56 : decode cX8_next 56 = .ok (.invokevirtual 212, 3) := by decide +kernel
theorem dX8_next_59 : decode cX8_next 59 = .ok (.ifCond .eq 11, 3) := by decide +kernel
theorem dX8_next_62 : decode cX8_next 62 = .ok (.aload_n 0, 1) := by decide +kernel
theorem dX8_next_63 : decode cX8_next 63 = .ok (.getfield 8, 3) := by decide +kernel
theorem dX8_next_66 : decode cX8_next 66 = .ok (.iload 4, 2) := by decide +kernel
theorem dX8_next_68 : decode cX8_next 68 = .ok (.iaload, 1) := by decide +kernel
theorem dX8_next_69 : decode cX8_next 69 = .ok (.ireturn, 1) := by decide +kernel
theorem dX8_next_70 : decode cX8_next 70 = .ok (.iinc 4 1, 3) := by decide +kernel
theorem dX8_next_73 : decode cX8_next 73 = .ok (.goto (-28), 3) := by decide +kernel
theorem dX8_next_76 : decode cX8_next 76 = .ok (.iconst (-1), 1) := by decide +kernel
theorem dX8_next_77 : decode cX8_next 77 = .ok (.ireturn, 1) := by decide +kernel
theorem dX8_date_0 : decode cX8_date 0 = .ok (.aload_n 0, 1) := by decide +kernel
theorem dX8_date_1 : decode cX8_date 1 = .ok (.aload_n 0, 1) := by decide +kernel
theorem dX8_date_2 : decode cX8_date 2 = .ok (.iload_n 1, 1) := by decide +kernel
theorem dX8_date_3 : decode cX8_date 3 = .ok (.invokevirtual 205, 3) := by decide +kernel
theorem dX8_date_6 : decode cX8_date 6 = .ok (.ifCond .eq 7, 3) := by decide +kernel
theorem dX8_date_9 : decode cX8_date 9 = .ok (.iconst 1, 1) := by decide +kernel
theorem dX8_date_10 : decode cX8_date 10 = .ok (.goto 12, 3) := by decide +kernel
theorem dX8_date_13 : decode cX8_date 13 = .ok (.iload_n 2, 1) := by decide +kernel
theorem dX8_date_14 : decode cX8_date 14 = .ok (.ifCond .ge 7, 3) := by decide +kernel
theorem dX8_date_17 : decode cX8_date 17 = .ok (.iconst 2, 1) := by decide +kernel
theorem dX8_date_18 : decode cX8_date 18 = .ok (.goto 4, 3) := by decide +kernel
theorem dX8_date_21 : decode cX8_date 21 = .ok (.iconst 0, 1) := by decide +kernel
theorem dX8_date_22 : decode cX8_date 22 = .ok (.putfield 64, 3) := by decide +kernel
theorem dX8_date_25 : decode cX8_date 25 = .ok (.iload_n 2, 1) := by decide +kernel
theorem dX8_date_26 : decode cX8_date 26 = .ok (.istore_n 3, 1) := by decide +kernel
theorem dX8_date_27 : decode cX8_date 27 = .ok (.iconst 0, 1) := by decide +kernel
theorem dX8_date_28 : decode cX8_date 28 = .ok (.istore 4, 2) := by decide +kernel
theorem dX8_date_30 : decode cX8_date 30 = .ok (.iload 4, 2) := by decide +kernel
theorem dX8_date_32 : decode cX8_date 32 = .ok (.ldc 7, 2) := by decide +kernel
theorem dX8_date_34 : decode cX8_date 34 = .ok (.if_icmp .ge 41, 3) := by decide +kernel
theorem dX8_date_37 : decode cX8_date 37 = .ok (.aload_n 0, 1) := by decide +kernel
theorem dX8_date_38 : decode cX8_date 38 = .ok (.getfield 64, 3) := by decide +kernel
theorem dX8_date_41 : decode cX8_date 41 = .ok (.ifCond .ne 34, 3) := by decide +kernel
theorem dX8_date_44 : decode cX8_date 44 = .ok (.aload_n 0, 1) := by decide +kernel
theorem dX8_date_45 : decode cX8_date 45 = .ok (.iload_n 1, 1) := by decide +kernel
theorem dX8_date_46 : decode cX8_date 46 = .ok (.iload 4, 2) := by decide +kernel
theorem dX8_date_48 : decode cX8_date 48 = .ok (.invokevirtual 212, 3) := by decide +kernel
theorem dX8_date_51 : decode cX8_date 51 = .ok (.ifCond .eq 18, 3) := by decide +kernel
theorem dX8_date_54 : decode cX8_date 54 = .ok (.iload_n 3, 1) := by decide +kernel
theorem dX8_date_55 : decode cX8_date 55 = .ok (.ifCond .ne 11, 3) := by decide +kernel
theorem dX8_date_58 : decode cX8_date 58 = .ok (.aload_n 0, 1) := by decide +kernel
theorem dX8_date_59 : decode cX8_date 59 = .ok (.getfield 8, 3) := by decide +kernel
theorem dX8_date_62 : decode cX8_date 62 = .ok (.iload 4, 2) := by decide +kernel
theorem dX8_date_64 : decode cX8_date 64 = .ok (.iaload, 1) := by decide +kernel
theorem dX8_date_65 : decode cX8_date 65 = .ok (.ireturn, 1) := by decide +kernel
theorem dX8_date_66 : decode cX8_date 66 = .ok (.iinc 3 (-1), 3) := by decide +kernel
theorem dX8_date_69 : decode cX8_date 69 = .ok (.iinc 4 1, 3) := by decide +kernel
theorem dX8_date_72 : decode cX8_date 72 = .ok (.goto (-42), 3) := by decide +kernel
theorem dX8_date_75 : decode cX8_date 75 = .ok (.aload_n 0, 1) := by decide +kernel
theorem dX8_date_76 : decode cX8_date 76 = .ok (.getfield 64, 3) := by decide +kernel
theorem dX8_date_79 : decode cX8_date 79 = .ok (.ifCond .le 7, 3) := by decide +kernel
theorem dX8_date_82 : decode cX8_date 82 = .ok (.iconst 0, 1) := by decide +kernel
theorem dX8_date_83 : decode cX8_date 83 = .ok (.goto 4, 3) := by decide +kernel
theorem dX8_date_86 : decode cX8_date 86 = .ok (.iconst (-1), 1) := by decide +kernel
theorem dX8_date_87 : decode cX8_date 87 = .ok (.ireturn, 1) := by decide +kernel
theorem dX8_times_0 : decode cX8_times 0 = .ok (.aload_n 0, 1) := by decide +kernel
theorem dX8_times_1 : decode cX8_times 1 = .ok (.iload_n 2, 1) := by decide +kernel
theorem dX8_times_2 : decode cX8_times 2 = .ok (.invokevirtual 127, 3) := by decide +kernel
theorem dX8_times_5 : decode cX8_times 5 = .ok (.istore 4, 2) := by decide +kernel
theorem dX8_times_7 : decode cX8_times 7 = .ok (.aload_n 0, 1) := by decide +kernel
theorem dX8_times_8 : decode cX8_times 8 = .ok (.iload_n 3, 1) := by decide +kernel
theorem dX8_times_9 : decode cX8_times 9 = .ok (.invokevirtual 127, 3) := by decide +kernel
theorem dX8_times_12 : decode cX8_times 12 = .ok (.istore 5, 2) := by decide +kernel
theorem dX8_times_14 : decode cX8_times 14 = .ok (.aload_n 0, 1) := by decide +kernel
theorem dX8_times_15 : decode cX8_times 15 = .ok (.aload_n 0, 1) := by decide +kernel
theorem dX8_times_16 : decode cX8_times 16 = .ok (.iload_n 1, 1) := by decide +kernel
theorem dX8_times_17 : decode cX8_times 17 = .ok (.invokevirtual 205, 3) := by decide +kernel
theorem dX8_times_20 : decode cX8_times 20 = .ok (.ifCond .eq 7, 3) := by decide +kernel
theorem dX8_times_23 : decode cX8_times 23 = .ok (.iconst 1, 1) := by decide +kernel
theorem dX8_times_24 : decode cX8_times 24 = .ok (.goto 18, 3) := by decide +kernel
theorem dX8_times_27 : decode cX8_times 27 = .ok (.iload 4, 2) := by decide +kernel
theorem dX8_times_29 : decode cX8_times 29 = .ok (.ifCond .lt 8, 3) := by decide +kernel
theorem dX8_times_32 : decode cX8_times 32 = .ok (.iload 5, 2) := by decide +kernel
theorem dX8_times_34 : decode cX8_times 34 = .ok (.ifCond .ge 7, 3) := by decide +kernel
theorem dX8_times_37 : decode cX8_times 37 = .ok (.iconst 2, 1) := by decide +kernel
theorem dX8_times_38 : decode cX8_times 38 = .ok (.goto 4, 3) := by decide +kernel
theorem dX8_times_41 : decode cX8_times 41 = .ok (.iconst 0, 1) := by decide +kernel
theorem dX8_times_42 : decode cX8_times 42 = .ok (.putfield 64, 3) := by decide +kernel
theorem dX8_times_45 : decode cX8_times 45 = .ok (.iconst 0, 1) := by decide +kernel
theorem dX8_times_46 : decode cX8_times 46 = .ok (.istore 6, 2) := by decide +kernel
theorem dX8_times_48 : decode cX8_times 48 = .ok (.iload 4, 2) := by decide +kernel
theorem dX8_times_50 : decode cX8_times 50 = .ok (.istore 7, 2) := by decide +kernel
theorem dX8_times_52 : decode cX8_times 52 = .ok (.iload 7, 2) := by decide +kernel
theorem dX8_times_54 : decode cX8_times 54 = .ok (.iload 5, 2) := by decide +kernel
theorem dX8_times_56 : decode cX8_times 56 = .ok (.if_icmp .gt 37, 3) := by decide +kernel
theorem dX8_times_59 : decode cX8_times 59 = .ok (.aload_n 0, 1) := by decide +kernel
theorem dX8_times_60 : decode cX8_times 60 = .ok (.getfield 64, 3) := by decide +kernel
theorem dX8_times_63 : decode cX8_times 63 = .ok (.ifCond .ne 30, 3) := by decide +kernel
theorem dX8_times_66 : decode cX8_times 66 = .ok (.aload_n 0, 1) := by decide +kernel
theorem dX8_times_67 : decode cX8_times 67 = .ok (.iload_n 1, 1) := by decide +kernel
theorem dX8_times_68 : decode cX8_times 68 = .ok (.iload 7, 2) := by decide +kernel
theorem dX8_times_70 : decode cX8_times 70 = .ok (.invokevirtual 212, 3) := by decide +kernel
theorem dX8_times_73 : decode cX8_times 73 = .ok (.ifCond .eq 10, 3) := by decide +kernel
theorem dX8_times_76 : decode cX8_times 76 = .ok (.iload 6, 2) := by decide +kernel
theorem dX8_times_78 : decode cX8_times 78 = .ok (.iconst 1, 1) := by decide +kernel
theorem dX8_times_79 : decode cX8_times 79 = .ok (.iadd, 1) := by decide +kernel
theorem dX8_times_80 : decode cX8_times 80 = .ok (.goto 5, 3) := by decide +kernel
theorem dX8_times_83 : decode cX8_times 83 = .ok (.iload 6, 2) := by decide +kernel
theorem dX8_times_85 : decode cX8_times 85 = .ok (.istore 6, 2) := by decide +kernel
theorem dX8_times_87 : decode cX8_times 87 = .ok (.iinc 7 1, 3) := by decide +kernel
theorem dX8_times_90 : decode cX8_times 90 = .ok (.goto (-38), 3) := by decide +kernel
theorem dX8_times_93 : decode cX8_times 93 = .ok (.iload 6, 2) := by decide +kernel
theorem dX8_times_95 : decode cX8_times 95 = .ok (.ireturn, 1) := by decide +kernel
theorem dX8_list_0 : decode cX8_list 0 = .ok (.aload_n 0, 1) := by decide +kernel
theorem dX8_list_1 : decode cX8_list 1 = .ok (.iload_n 1, 1) := by decide +kernel
theorem dX8_list_2 : decode cX8_list 2 = .ok (.invokevirtual 127, 3) := by decide +kernel
theorem dX8_list_5 : decode cX8_list 5 = .ok (.istore_n 3, 1) := by decide +kernel
theorem dX8_list_6 : decode cX8_list 6 = .ok (.aload_n 0, 1) := by decide +kernel
theorem dX8_list_7 : decode cX8_list 7 = .ok (.iload_n 2, 1) := by decide +kernel
theorem dX8_list_8 : decode cX8_list 8 = .ok (.invokevirtual 127, 3) := by decide +kernel
theorem dX8_list_11 : decode cX8_list 11 = .ok (.istore 4, 2) := by decide +kernel
theorem dX8_list_13 : decode cX8_list 13 = .ok (.aload_n 0, 1) := by decide +kernel
theorem dX8_list_14 : decode cX8_list 14 = .ok (.iload_n 3, 1) := by decide +kernel
theorem dX8_list_15 : decode cX8_list 15 = .ok (.ifCond .lt 8, 3) := by decide +kernel
theorem dX8_list_18 : decode cX8_list 18 = .ok (.iload 4, 2) := by decide +kernel
theorem dX8_list_20 : decode cX8_list 20 = .ok (.ifCond .ge 7, 3) := by decide +kernel
theorem dX8_list_23 : decode cX8_list 23 = .ok (.iconst 1, 1) := by decide +kernel
theorem dX8_list_24 : decode cX8_list 24 = .ok (.goto 4, 3) := by decide +kernel
theorem dX8_list_27 : decode cX8_list 27 = .ok (.iconst 0, 1) := by decide +kernel
theorem dX8_list_28 : decode cX8_list 28 = .ok (.putfield 64, 3) := by decide +kernel
theorem dX8_list_31 : decode cX8_list 31 = .ok (.aload_n 0, 1) := by decide +kernel
theorem dX8_list_32 : decode cX8_list 32 = .ok (.getfield 64, 3) := by decide +kernel
theorem dX8_list_35 : decode cX8_list 35 = .ok (.ifCond .le 5, 3) := by decide +kernel
theorem dX8_list_38 : decode cX8_list 38 = .ok (.iconst 0, 1) := by decide +kernel
theorem dX8_list_39 : decode cX8_list 39 = .ok (.ireturn, 1) := by decide +kernel
theorem dX8_list_40 : decode cX8_list 40 = .ok (.aload_n 0, 1) := by decide +kernel
theorem dX8_list_41 : decode cX8_list 41 = .ok (.iconst 0, 1) := by decide +kernel
theorem dX8_list_42 : decode cX8_list 42 = .ok (.putfield 216, 3) := by decide +kernel
theorem dX8_list_45 : decode cX8_list 45 = .ok (.iload_n 3, 1) := by decide +kernel
theorem dX8_list_46 : decode cX8_list 46 = .ok (.istore 5, 2) := by decide +kernel
theorem dX8_list_48 : decode cX8_list 48 = .ok (.iload 5, 2) := by decide +kernel
theorem dX8_list_50 : decode cX8_list 50 = .ok (.iload 4, 2) := by decide +kernel
theorem dX8_list_52 : decode cX8_list 52 = .ok (.if_icmp .gt 91, 3) := by decide +kernel
theorem dX8_list_55 : decode cX8_list 55 = .ok (.iconst 0, 1) := by decide +kernel
theorem dX8_list_56 : decode cX8_list 56 = .ok (.istore 6, 2) := by decide +kernel
theorem dX8_list_58 : decode cX8_list 58 = .ok (.iload 6, 2) := by decide +kernel
theorem dX8_list_60 : decode cX8_list 60 = .ok (.bipush 12, 2) := by decide +kernel
theorem dX8_list_62 : decode cX8_list 62 = .ok (.if_icmp .ge 75, 3) := by decide +kernel
theorem dX8_list_65 : decode cX8_list 65 = .ok (.aload_n 0, 1) := by decide +kernel
theorem dX8_list_66 : decode cX8_list 66 = .ok (.getfield 216, 3) := by decide +kernel
theorem dX8_list_69 : decode cX8_list 69 = .ok (.sipush 300, 3) := by decide +kernel
theorem dX8_list_72 : decode cX8_list 72 = .ok (.if_icmp .ge 65, 3) := by decide +kernel
theorem dX8_list_75 : decode cX8_list 75 = .ok (.aload_n 0, 1) := by decide +kernel
theorem dX8_list_76 : decode cX8_list 76 = .ok (.getfield 40, 3) := by decide +kernel
theorem dX8_list_79 : decode cX8_list 79 = .ok (.iload 6, 2) := by decide +kernel
theorem dX8_list_81 : decode cX8_list 81 = .ok (.baload, 1) := by decide +kernel
theorem dX8_list_82 : decode cX8_list 82 = .ok (.ifCond .eq 49, 3) := by decide +kernel
theorem dX8_list_85 : decode cX8_list 85 = .ok (.aload_n 0, 1) := by decide +kernel
theorem dX8_list_86 : decode cX8_list 86 = .ok (.iload 6, 2) := by decide +kernel
theorem dX8_list_88 : decode cX8_list 88 = .ok (.iload 5, 2) := by decide +kernel
theorem dX8_list_90 : decode cX8_list 90 = .ok (.invokevirtual 212, 3) := by decide +kernel
theorem dX8_list_93 : decode cX8_list 93 = .ok (.ifCond .eq 38, 3) := by decide +kernel
theorem dX8_list_96 : decode cX8_list 96 = .ok (.aload_n 0, 1) := by decide +kernel
theorem dX8_list_97 : decode cX8_list 97 = .ok (.getfield 56, 3) := by decide +kernel
theorem dX8_list_100 : decode cX8_list 100 = .ok (.aload_n 0, 1) := by decide +kernel
theorem dX8_list_101 : decode cX8_list 101 = .ok (.getfield 216, 3) := by decide +kernel
theorem dX8_list_104 : decode cX8_list 104 = .ok (.iload 6, 2) := by decide +kernel
theorem dX8_list_106 : decode cX8_list 106 = .ok (.i2l, 1) := by decide +kernel
theorem dX8_list_107 : decode cX8_list 107 = .ok (.ldc2_w 219, 3) := by decide +kernel
theorem dX8_list_110 : decode cX8_list 110 = .ok (.aload_n 0, 1) := by decide +kernel
theorem dX8_list_111 : decode cX8_list 111 = .ok (.getfield 8, 3) := by decide +kernel
theorem dX8_list_114 : decode cX8_list 114 = .ok (.iload 5, 2) := by decide +kernel
theorem dX8_list_116 : decode cX8_list 116 = .ok (.iaload, 1) := by decide +kernel
theorem dX8_list_117 : decode cX8_list 117 = .ok (.i2l, 1) := by decide +kernel
theorem dX8_list_118 : decode cX8_list 118 = .ok (.lmul, 1) := by decide +kernel
theorem dX8_list_119 : decode cX8_list 119 = .ok (.ladd, 1) := by decide +kernel
theorem dX8_list_120 : decode cX8_list 120 = .ok (.lastore, 1) := by decide +kernel
theorem dX8_list_121 : decode cX8_list 121 = .ok (.aload_n 0, 1) := by decide +kernel
theorem dX8_list_122 : decode cX8_list 122 = .ok (.dup, 1) := by decide +kernel
theorem dX8_list_123 : decode cX8_list 123 = .ok (.getfield 216, 3) := by decide +kernel
theorem dX8_list_126 : decode cX8_list 126 = .ok (.iconst 1, 1) := by decide +kernel
theorem dX8_list_127 : decode cX8_list 127 = .ok (.iadd, 1) := by decide +kernel
theorem dX8_list_128 : decode cX8_list 128 = .ok (.putfield 216, 3) := by decide +kernel
theorem dX8_list_131 : decode cX8_list 131 = .ok (.iinc 6 1, 3) := by decide +kernel
theorem dX8_list_134 : decode cX8_list 134 = .ok (.goto (-76), 3) := by decide +kernel
theorem dX8_list_137 : decode cX8_list 137 = .ok (.iinc 5 1, 3) := by decide +kernel
theorem dX8_list_140 : decode cX8_list 140 = .ok (.goto (-92), 3) := by decide +kernel
theorem dX8_list_143 : decode cX8_list 143 = .ok (.aload_n 0, 1) := by decide +kernel
theorem dX8_list_144 : decode cX8_list 144 = .ok (.getfield 216, 3) := by decide +kernel
theorem dX8_list_147 : decode cX8_list 147 = .ok (.ireturn, 1) := by decide +kernel
theorem dX8_item_0 : decode cX8_item 0 = .ok (.aload_n 0, 1) := by decide +kernel
theorem dX8_item_1 : decode cX8_item 1 = .ok (.iload_n 1, 1) := by decide +kernel
theorem dX8_item_2 : decode cX8_item 2 = .ok (.ifCond .lt 11, 3) := by decide +kernel
theorem dX8_item_5 : decode cX8_item 5 = .ok (.iload_n 1, 1) := by decide +kernel
theorem dX8_item_6 : decode cX8_item 6 = .ok (.aload_n 0, 1) := by decide +kernel
theorem dX8_item_7 : decode cX8_item 7 = .ok (.getfield 216, 3) := by decide +kernel
theorem dX8_item_10 : decode cX8_item 10 = .ok (.if_icmp .lt 7, 3) := by decide +kernel
theorem dX8_item_13 : decode cX8_item 13 = .ok (.iconst 1, 1) := by decide +kernel
theorem dX8_item_14 : decode cX8_item 14 = .ok (.goto 4, 3) := by decide +kernel
theorem dX8_item_17 : decode cX8_item 17 = .ok (.iconst 0, 1) := by decide +kernel
theorem dX8_item_18 : decode cX8_item 18 = .ok (.putfield 64, 3) := by decide +kernel
theorem dX8_item_21 : decode cX8_item 21 = .ok (.aload_n 0, 1) := by decide +kernel
theorem dX8_item_22 : decode cX8_item 22 = .ok (.getfield 64, 3) := by decide +kernel
theorem dX8_item_25 : decode cX8_item 25 = .ok (.ifCond .le 7, 3) := by decide +kernel
theorem dX8_item_28 : decode cX8_item 28 = .ok (.lconst 0, 1) := by decide +kernel
theorem dX8_item_29 : decode cX8_item 29 = .ok (.goto 9, 3) := by decide +kernel
theorem dX8_item_32 : decode cX8_item 32 = .ok (.aload_n 0, 1) := by decide +kernel
theorem dX8_item_33 : decode cX8_item 33 = .ok (.getfield 56, 3) := by decide +kernel
theorem dX8_item_36 : decode cX8_item 36 = .ok (.iload_n 1, 1) := by decide +kernel
theorem dX8_item_37 : decode cX8_item 37 = .ok (.laload, 1) := by decide +kernel
theorem dX8_item_38 : decode cX8_item 38 = .ok (.lreturn, 1) := by decide +kernel
theorem dX8_manyAt_0 : decode cX8_manyAt 0 = .ok (.iconst 0, 1) := by decide +kernel
theorem dX8_manyAt_1 : decode cX8_manyAt 1 = .ok (.istore_n 2, 1) := by decide +kernel
theorem dX8_manyAt_2 : decode cX8_manyAt 2 = .ok (.iconst 0, 1) := by decide +kernel
theorem dX8_manyAt_3 : decode cX8_manyAt 3 = .ok (.istore_n 3, 1) := by decide +kernel
theorem dX8_manyAt_4 : decode cX8_manyAt 4 = .ok (.iload_n 3, 1) := by decide +kernel
theorem dX8_manyAt_5 : decode cX8_manyAt 5 = .ok (.bipush 12, 2) := by decide +kernel
theorem dX8_manyAt_7 : decode cX8_manyAt 7 = .ok (.if_icmp .ge 35, 3) := by decide +kernel
theorem dX8_manyAt_10 : decode cX8_manyAt 10 = .ok (.aload_n 0, 1) := by decide +kernel
theorem dX8_manyAt_11 : decode cX8_manyAt 11 = .ok (.getfield 40, 3) := by decide +kernel
theorem dX8_manyAt_14 : decode cX8_manyAt 14 = .ok (.iload_n 3, 1) := by decide +kernel
theorem dX8_manyAt_15 : decode cX8_manyAt 15 = .ok (.baload, 1) := by decide +kernel
theorem dX8_manyAt_16 : decode cX8_manyAt 16 = .ok (.ifCond .eq 18, 3) := by decide +kernel
theorem dX8_manyAt_19 : decode cX8_manyAt 19 = .ok (.aload_n 0, 1) := by decide +kernel
theorem dX8_manyAt_20 : decode cX8_manyAt 20 = .ok (.iload_n 3, 1) := by decide +kernel
theorem dX8_manyAt_21 : decode cX8_manyAt 21 = .ok (.iload_n 1, 1) := by decide +kernel
theorem dX8_manyAt_22 : decode cX8_manyAt 22 = .ok (.invokevirtual 212, 3) := by decide +kernel
theorem dX8_manyAt_25 : decode cX8_manyAt 25 = .ok (.ifCond .eq 9, 3) := by decide +kernel
theorem dX8_manyAt_28 : decode cX8_manyAt 28 = .ok (.iload_n 2, 1) := by decide +kernel
theorem dX8_manyAt_29 : decode cX8_manyAt 29 = .ok (.iconst 1, 1) := by decide +kernel
theorem dX8_manyAt_30 : decode cX8_manyAt 30 = .ok (.iadd, 1) := by decide +kernel
theorem dX8_manyAt_31 : decode cX8_manyAt 31 = .ok (.goto 4, 3) := by decide +kernel
theorem dX8_manyAt_34 : decode cX8_manyAt 34 = .ok (.iload_n 2, 1) := by decide +kernel
theorem dX8_manyAt_35 : decode cX8_manyAt 35 = .ok (.istore_n 2, 1) := by decide +kernel
theorem dX8_manyAt_36 : decode cX8_manyAt 36 = .ok (.iinc 3 1, 3) := by decide +kernel
theorem dX8_manyAt_39 : decode cX8_manyAt 39 = .ok (.goto (-35), 3) := by decide +kernel
theorem dX8_manyAt_42 : decode cX8_manyAt 42 = .ok (.iload_n 2, 1) := by decide +kernel
theorem dX8_manyAt_43 : decode cX8_manyAt 43 = .ok (.ireturn, 1) := by decide +kernel
theorem dX8_busiest_0 : decode cX8_busiest 0 = .ok (.aload_n 0, 1) := by decide +kernel
theorem dX8_busiest_1 : decode cX8_busiest 1 = .ok (.iload_n 1, 1) := by decide +kernel
theorem dX8_busiest_2 : decode cX8_busiest 2 = .ok (.invokevirtual 127, 3) := by decide +kernel
theorem dX8_busiest_5 : decode cX8_busiest 5 = .ok (.istore_n 3, 1) := by decide +kernel
theorem dX8_busiest_6 : decode cX8_busiest 6 = .ok (.aload_n 0, 1) := by decide +kernel
theorem dX8_busiest_7 : decode cX8_busiest 7 = .ok (.iload_n 2, 1) := by decide +kernel
theorem dX8_busiest_8 : decode cX8_busiest 8 = .ok (.invokevirtual 127, 3) := by decide +kernel
theorem dX8_busiest_11 : decode cX8_busiest 11 = .ok (.istore 4, 2) := by decide +kernel
theorem dX8_busiest_13 : decode cX8_busiest 13 = .ok (.aload_n 0, 1) := by decide +kernel
theorem dX8_busiest_14 : decode cX8_busiest 14 = .ok (.iload_n 3, 1) := by decide +kernel
theorem dX8_busiest_15 : decode cX8_busiest 15 = .ok (.ifCond .lt 8, 3) := by decide +kernel
theorem dX8_busiest_18 : decode cX8_busiest 18 = .ok (.iload 4, 2) := by decide +kernel
theorem dX8_busiest_20 : decode cX8_busiest 20 = .ok (.ifCond .ge 7, 3) := by decide +kernel
theorem dX8_busiest_23 : decode cX8_busiest 23 = .ok (.iconst 1, 1) := by decide +kernel
theorem dX8_busiest_24 : decode cX8_busiest 24 = .ok (.goto 4, 3) := by decide +kernel
theorem dX8_busiest_27 : decode cX8_busiest 27 = .ok (.iconst 0, 1) := by decide +kernel
theorem dX8_busiest_28 : decode cX8_busiest 28 = .ok (.putfield 64, 3) := by decide +kernel
theorem dX8_busiest_31 : decode cX8_busiest 31 = .ok (.iconst 0, 1) := by decide +kernel
theorem dX8_busiest_32 : decode cX8_busiest 32 = .ok (.istore 5, 2) := by decide +kernel
theorem dX8_busiest_34 : decode cX8_busiest 34 = .ok (.iconst (-1), 1) := by decide +kernel
theorem dX8_busiest_35 : decode cX8_busiest 35 = .ok (.istore 6, 2) := by decide +kernel
theorem dX8_busiest_37 : decode cX8_busiest 37 = .ok (.iload_n 3, 1) := by decide +kernel
theorem dX8_busiest_38 : decode cX8_busiest 38 = .ok (.istore 7, 2) := by decide +kernel
theorem dX8_busiest_40 : decode cX8_busiest 40 = .ok (.iload 7, 2) := by decide +kernel
theorem dX8_busiest_42 : decode cX8_busiest 42 = .ok (.iload 4, 2) := by decide +kernel
theorem dX8_busiest_44 : decode cX8_busiest 44 = .ok (.if_icmp .gt 44, 3) := by decide +kernel
theorem dX8_busiest_47 : decode cX8_busiest 47 = .ok (.aload_n 0, 1) := by decide +kernel
theorem dX8_busiest_48 : decode cX8_busiest 48 = .ok (.getfield 64, 3) := by decide +kernel
theorem dX8_busiest_51 : decode cX8_busiest 51 = .ok (.ifCond .ne 37, 3) := by decide +kernel
theorem dX8_busiest_54 : decode cX8_busiest 54 = .ok (.aload_n 0, 1) := by decide +kernel
theorem dX8_busiest_55 : decode cX8_busiest 55 = .ok (.iload 7, 2) := by decide +kernel
theorem dX8_busiest_57 : decode cX8_busiest 57 = .ok (.invokevirtual 221, 3) := by decide +kernel
theorem dX8_busiest_60 : decode cX8_busiest 60 = .ok (.istore 8, 2) := by decide +kernel
theorem dX8_busiest_62 : decode cX8_busiest 62 = .ok (.iload 8, 2) := by decide +kernel
theorem dX8_busiest_64 : decode cX8_busiest 64 = .ok (.iload 5, 2) := by decide +kernel
theorem dX8_busiest_66 : decode cX8_busiest 66 = .ok (.if_icmp .le 16, 3) := by decide +kernel
theorem dX8_busiest_69 : decode cX8_busiest 69 = .ok (.iload 8, 2) := by decide +kernel
theorem dX8_busiest_71 : decode cX8_busiest 71 = .ok (.istore 5, 2) := by decide +kernel
theorem dX8_busiest_73 : decode cX8_busiest 73 = .ok (.aload_n 0, 1) := by decide +kernel
theorem dX8_busiest_74 : decode cX8_busiest 74 = .ok (.getfield 8, 3) := by decide +kernel
theorem dX8_busiest_77 : decode cX8_busiest 77 = .ok (.iload 7, 2) := by decide +kernel
theorem dX8_busiest_79 : decode cX8_busiest 79 = .ok (.iaload, 1) := by decide +kernel
theorem dX8_busiest_80 : decode cX8_busiest 80 = .ok (.istore 6, 2) := by decide +kernel
theorem dX8_busiest_82 : decode cX8_busiest 82 = .ok (.iinc 7 1, 3) := by decide +kernel
theorem dX8_busiest_85 : decode cX8_busiest 85 = .ok (.goto (-45), 3) := by decide +kernel
theorem dX8_busiest_88 : decode cX8_busiest 88 = .ok (.aload_n 0, 1) := by decide +kernel
theorem dX8_busiest_89 : decode cX8_busiest 89 = .ok (.getfield 64, 3) := by decide +kernel
theorem dX8_busiest_92 : decode cX8_busiest 92 = .ok (.ifCond .le 7, 3) := by decide +kernel
theorem dX8_busiest_95 : decode cX8_busiest 95 = .ok (.iconst 0, 1) := by decide +kernel
theorem dX8_busiest_96 : decode cX8_busiest 96 = .ok (.goto 5, 3) := by decide +kernel
theorem dX8_busiest_99 : decode cX8_busiest 99 = .ok (.iload 6, 2) := by decide +kernel
theorem dX8_busiest_101 : decode cX8_busiest 101 = .ok (.ireturn, 1) := by decide +kernel
theorem dX8_quiet_0 : decode cX8_quiet 0 = .ok (.aload_n 0, 1) := by decide +kernel
theorem dX8_quiet_1 : decode cX8_quiet 1 = .ok (.iload_n 1, 1) := by decide +kernel
theorem dX8_quiet_2 : decode cX8_quiet 2 = .ok (.invokevirtual 127, 3) := by decide +kernel
theorem dX8_quiet_5 : decode cX8_quiet 5 = .ok (.istore_n 3, 1) := by decide +kernel
theorem dX8_quiet_6 : decode cX8_quiet 6 = .ok (.aload_n 0, 1) := by decide +kernel
theorem dX8_quiet_7 : decode cX8_quiet 7 = .ok (.iload_n 3, 1) := by decide +kernel
theorem dX8_quiet_8 : decode cX8_quiet 8 = .ok (.ifCond .lt 15, 3) := by decide +kernel
theorem dX8_quiet_11 : decode cX8_quiet 11 = .ok (.iload_n 2, 1) := by decide +kernel
theorem dX8_quiet_12 : decode cX8_quiet 12 = .ok (.iconst 1, 1) := by decide +kernel
theorem dX8_quiet_13 : decode cX8_quiet 13 = .ok (.if_icmp .lt 10, 3) := by decide +kernel
theorem dX8_quiet_16 : decode cX8_quiet 16 = .ok (.iload_n 2, 1) := by decide +kernel
theorem dX8_quiet_17 : decode cX8_quiet 17 = .ok (.sipush 1000, 3) := by decide +kernel
theorem dX8_quiet_20 : decode cX8_quiet 20 = .ok (.if_icmp .le 7, 3) := by decide +kernel
theorem dX8_quiet_23 : decode cX8_quiet 23 = .ok (.iconst 1, 1) := by decide +kernel
theorem dX8_quiet_24 : decode cX8_quiet 24 = .ok (.goto 4, 3) := by decide +kernel
theorem dX8_quiet_27 : decode cX8_quiet 27 = .ok (.iconst 0, 1) := by decide +kernel
theorem dX8_quiet_28 : decode cX8_quiet 28 = .ok (.putfield 64, 3) := by decide +kernel
theorem dX8_quiet_31 : decode cX8_quiet 31 = .ok (.aload_n 0, 1) := by decide +kernel
theorem dX8_quiet_32 : decode cX8_quiet 32 = .ok (.getfield 64, 3) := by decide +kernel
theorem dX8_quiet_35 : decode cX8_quiet 35 = .ok (.ifCond .le 5, 3) := by decide +kernel
theorem dX8_quiet_38 : decode cX8_quiet 38 = .ok (.iconst 0, 1) := by decide +kernel
theorem dX8_quiet_39 : decode cX8_quiet 39 = .ok (.ireturn, 1) := by decide +kernel
theorem dX8_quiet_40 : decode cX8_quiet 40 = .ok (.iconst 0, 1) := by decide +kernel
theorem dX8_quiet_41 : decode cX8_quiet 41 = .ok (.istore 4, 2) := by decide +kernel
theorem dX8_quiet_43 : decode cX8_quiet 43 = .ok (.iload_n 3, 1) := by decide +kernel
theorem dX8_quiet_44 : decode cX8_quiet 44 = .ok (.istore 5, 2) := by decide +kernel
theorem dX8_quiet_46 : decode cX8_quiet 46 = .ok (.iload 5, 2) := by decide +kernel
theorem dX8_quiet_48 : decode cX8_quiet 48 = .ok (.ldc 7, 2) := by decide +kernel
theorem dX8_quiet_50 : decode cX8_quiet 50 = .ok (.if_icmp .ge 46, 3) := by decide +kernel
theorem dX8_quiet_53 : decode cX8_quiet 53 = .ok (.aload_n 0, 1) := by decide +kernel
theorem dX8_quiet_54 : decode cX8_quiet 54 = .ok (.iload 5, 2) := by decide +kernel
theorem dX8_quiet_56 : decode cX8_quiet 56 = .ok (.invokevirtual 221, 3) := by decide +kernel
theorem dX8_quiet_59 : decode cX8_quiet 59 = .ok (.ifCond .ne 10, 3) := by decide +kernel
theorem dX8_quiet_62 : decode cX8_quiet 62 = .ok (.iload 4, 2) := by decide +kernel
theorem dX8_quiet_64 : decode cX8_quiet 64 = .ok (.iconst 1, 1) := by decide +kernel
theorem dX8_quiet_65 : decode cX8_quiet 65 = .ok (.iadd, 1) := by decide +kernel
theorem dX8_quiet_66 : decode cX8_quiet 66 = .ok (.goto 4, 3) := by decide +kernel
theorem dX8_quiet_69 : decode cX8_quiet 69 = .ok (.iconst 0, 1) := by decide +kernel
theorem dX8_quiet_70 : decode cX8_quiet 70 = .ok (.istore 4, 2) := by decide +kernel
theorem dX8_quiet_72 : decode cX8_quiet 72 = .ok (.iload 4, 2) := by decide +kernel
theorem dX8_quiet_74 : decode cX8_quiet 74 = .ok (.iload_n 2, 1) := by decide +kernel
theorem dX8_quiet_75 : decode cX8_quiet 75 = .ok (.if_icmp .ne 15, 3) := by decide +kernel
theorem dX8_quiet_78 : decode cX8_quiet 78 = .ok (.aload_n 0, 1) := by decide +kernel
theorem dX8_quiet_79 : decode cX8_quiet 79 = .ok (.getfield 8, 3) := by decide +kernel
theorem dX8_quiet_82 : decode cX8_quiet 82 = .ok (.iload 5, 2) := by decide +kernel
theorem dX8_quiet_84 : decode cX8_quiet 84 = .ok (.iload_n 2, 1) := by decide +kernel
theorem dX8_quiet_85 : decode cX8_quiet 85 = .ok (.isub, 1) := by decide +kernel
theorem dX8_quiet_86 : decode cX8_quiet 86 = .ok (.iconst 1, 1) := by decide +kernel
theorem dX8_quiet_87 : decode cX8_quiet 87 = .ok (.iadd, 1) := by decide +kernel
theorem dX8_quiet_88 : decode cX8_quiet 88 = .ok (.iaload, 1) := by decide +kernel
theorem dX8_quiet_89 : decode cX8_quiet 89 = .ok (.ireturn, 1) := by decide +kernel
theorem dX8_quiet_90 : decode cX8_quiet 90 = .ok (.iinc 5 1, 3) := by decide +kernel
theorem dX8_quiet_93 : decode cX8_quiet 93 = .ok (.goto (-47), 3) := by decide +kernel
theorem dX8_quiet_96 : decode cX8_quiet 96 = .ok (.iconst (-1), 1) := by decide +kernel
theorem dX8_quiet_97 : decode cX8_quiet 97 = .ok (.ireturn, 1) := by decide +kernel
theorem dX8_shifted_0 : decode cX8_shifted 0 = .ok (.aload_n 0, 1) := by decide +kernel
theorem dX8_shifted_1 : decode cX8_shifted 1 = .ok (.iload_n 1, 1) := by decide +kernel
theorem dX8_shifted_2 : decode cX8_shifted 2 = .ok (.invokevirtual 127, 3) := by decide +kernel
theorem dX8_shifted_5 : decode cX8_shifted 5 = .ok (.istore_n 3, 1) := by decide +kernel
theorem dX8_shifted_6 : decode cX8_shifted 6 = .ok (.aload_n 0, 1) := by decide +kernel
theorem dX8_shifted_7 : decode cX8_shifted 7 = .ok (.iload_n 3, 1) := by decide +kernel
theorem dX8_shifted_8 : decode cX8_shifted 8 = .ok (.ifCond .ge 7, 3) := by decide +kernel
theorem dX8_shifted_11 : decode cX8_shifted 11 = .ok (.iconst 1, 1) := by decide +kernel
theorem dX8_shifted_12 : decode cX8_shifted 12 = .ok (.goto 4, 3) := by decide +kernel
theorem dX8_shifted_15 : decode cX8_shifted 15 = .ok (.iconst 0, 1) := by decide +kernel
theorem dX8_shifted_16 : decode cX8_shifted 16 = .ok (.putfield 64, 3) := by decide +kernel
theorem dX8_shifted_19 : decode cX8_shifted 19 = .ok (.aload_n 0, 1) := by decide +kernel
theorem dX8_shifted_20 : decode cX8_shifted 20 = .ok (.getfield 64, 3) := by decide +kernel
theorem dX8_shifted_23 : decode cX8_shifted 23 = .ok (.ifCond .le 5, 3) := by decide +kernel
theorem dX8_shifted_26 : decode cX8_shifted 26 = .ok (.iconst 0, 1) := by decide +kernel
theorem dX8_shifted_27 : decode cX8_shifted 27 = .ok (.ireturn, 1) := by decide +kernel
theorem dX8_shifted_28 : decode cX8_shifted 28 = .ok (.iload_n 3, 1) := by decide +kernel
theorem dX8_shifted_29 : decode cX8_shifted 29 = .ok (.i2l, 1) := by decide +kernel
theorem dX8_shifted_30 : decode cX8_shifted 30 = .ok (.iload_n 2, 1) := by decide +kernel
theorem dX8_shifted_31 : decode cX8_shifted 31 = .ok (.i2l, 1) := by decide +kernel
theorem dX8_shifted_32 : decode cX8_shifted 32 = .ok (.ladd, 1) := by decide +kernel
theorem dX8_shifted_33 : decode cX8_shifted 33 = .ok (.lstore 4, 2) := by decide +kernel
theorem dX8_shifted_35 : decode cX8_shifted 35 = .ok (.lload 4, 2) := by decide +kernel
theorem dX8_shifted_37 : decode cX8_shifted 37 = .ok (.lconst 0, 1) := by decide +kernel
theorem dX8_shifted_38 : decode cX8_shifted 38 = .ok (.lcmp, 1) := by decide +kernel
theorem dX8_shifted_39 : decode cX8_shifted 39 = .ok (.ifCond .lt 12, 3) := by decide +kernel
theorem dX8_shifted_42 : decode cX8_shifted 42 = .ok (.lload 4, 2) := by decide +kernel
theorem dX8_shifted_44 : decode cX8_shifted 44 = .ok (.ldc2_w 224, 3) := by decide +kernel
theorem dX8_shifted_47 : decode cX8_shifted 47 = .ok (.lcmp, 1) := by decide +kernel
theorem dX8_shifted_48 : decode cX8_shifted 48 = .ok (.ifCond .lt 7, 3) := by decide +kernel
theorem dX8_shifted_51 : decode cX8_shifted 51 = .ok (.iconst (-1), 1) := by decide +kernel
theorem dX8_shifted_52 : decode cX8_shifted 52 = .ok (.goto 11, 3) := by decide +kernel
theorem dX8_shifted_55 : decode cX8_shifted 55 = .ok (.aload_n 0, 1) := by decide +kernel
theorem dX8_shifted_56 : decode cX8_shifted 56 = .ok (.getfield 8, 3) := by decide +kernel
theorem dX8_shifted_59 : decode cX8_shifted 59 = .ok (.lload 4, 2) := by decide +kernel
theorem dX8_shifted_61 : decode cX8_shifted 61 = .ok (.l2i, 1) := by decide +kernel
theorem dX8_shifted_62 : decode cX8_shifted 62 = .ok (.iaload, 1) := by decide +kernel
theorem dX8_shifted_63 : decode cX8_shifted 63 = .ok (.ireturn, 1) := by decide +kernel

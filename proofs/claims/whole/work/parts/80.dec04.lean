theorem dX12_times_6 : decode cX12_times 6 = .ok (.lload_n 3, 1) := by decide +kernel
theorem dX12_times_7 : decode cX12_times 7 = .ok (.lconst 0, 1) := by decide +kernel
theorem dX12_times_8 : decode cX12_times 8 = .ok (.lcmp, 1) := by decide +kernel
theorem dX12_times_9 : decode cX12_times 9 = .ok (.ifCond .eq 39, 3) := by decide +kernel
theorem dX12_times_12 : decode cX12_times 12 = .ok (.lload_n 3, 1) := by decide +kernel
theorem dX12_times_13 : decode cX12_times 13 = .ok (.lconst 0, 1) := by decide +kernel
theorem dX12_times_14 : decode cX12_times 14 = .ok (.lcmp, 1) := by decide +kernel
theorem dX12_times_15 : decode cX12_times 15 = .ok (.ifCond .ge 8, 3) := by decide +kernel
theorem dX12_times_18 : decode cX12_times 18 = .ok (.lload_n 3, 1) := by decide +kernel
theorem dX12_times_19 : decode cX12_times 19 = .ok (.lneg, 1) := by decide +kernel
theorem dX12_times_20 : decode cX12_times 20 = .ok (.goto 4, 3) := by decide +kernel
theorem dX12_times_23 : decode cX12_times 23 = .ok (.lload_n 3, 1) := by decide +kernel
theorem dX12_times_24 : decode cX12_times 24 = .ok (.ldc2_w 419, 3) := by decide +kernel
theorem dX12_times_27 : decode cX12_times 27 = .ok (.lload_n 1, 1) := by decide +kernel
theorem dX12_times_28 : decode cX12_times 28 = .ok (.lconst 0, 1) := by decide +kernel
theorem dX12_times_29 : decode cX12_times 29 = .ok (.lcmp, 1) := by decide +kernel
theorem dX12_times_30 : decode cX12_times 30 = .ok (.ifCond .ge 8, 3) := by decide +kernel
theorem dX12_times_33 : decode cX12_times 33 = .ok (.lload_n 1, 1) := by decide +kernel
theorem dX12_times_34 : decode cX12_times 34 = .ok (.lneg, 1) := by decide +kernel
theorem dX12_times_35 : decode cX12_times 35 = .ok (.goto 4, 3) := by decide +kernel
theorem dX12_times_38 : decode cX12_times 38 = .ok (.lload_n 1, 1) := by decide +kernel
theorem dX12_times_39 : decode cX12_times 39 = .ok (.ldiv, 1) := by decide +kernel
theorem dX12_times_40 : decode cX12_times 40 = .ok (.lcmp, 1) := by decide +kernel
theorem dX12_times_41 : decode cX12_times 41 = .ok (.ifCond .le 7, 3) := by decide +kernel
theorem dX12_times_44 : decode cX12_times 44 = .ok (.iconst 1, 1) := by decide +kernel
theorem dX12_times_45 : decode cX12_times 45 = .ok (.goto 4, 3) := by decide +kernel
theorem dX12_times_48 : decode cX12_times 48 = .ok (.iconst 0, 1) := by decide +kernel
theorem dX12_times_49 : decode cX12_times 49 = .ok (.istore 5, 2) := by decide +kernel
theorem dX12_times_51 : decode cX12_times 51 = .ok (.aload_n 0, 1) := by decide +kernel
theorem dX12_times_52 : decode cX12_times 52 = .ok (.aload_n 0, 1) := by decide +kernel
theorem dX12_times_53 : decode cX12_times 53 = .ok (.getfield 416, 3) := by decide +kernel
theorem dX12_times_56 : decode cX12_times 56 = .ok (.ifCond .ne 8, 3) := by decide +kernel
theorem dX12_times_59 : decode cX12_times 59 = .ok (.iload 5, 2) := by decide +kernel
theorem dX12_times_61 : decode cX12_times 61 = .ok (.ifCond .eq 7, 3) := by decide +kernel
theorem dX12_times_64 : decode cX12_times 64 = .ok (.iconst 1, 1) := by decide +kernel
theorem dX12_times_65 : decode cX12_times 65 = .ok (.goto 4, 3) := by decide +kernel
theorem dX12_times_68 : decode cX12_times 68 = .ok (.iconst 0, 1) := by decide +kernel
theorem dX12_times_69 : decode cX12_times 69 = .ok (.putfield 416, 3) := by decide +kernel
theorem dX12_times_72 : decode cX12_times 72 = .ok (.aload_n 0, 1) := by decide +kernel
theorem dX12_times_73 : decode cX12_times 73 = .ok (.getfield 416, 3) := by decide +kernel
theorem dX12_times_76 : decode cX12_times 76 = .ok (.ifCond .eq 7, 3) := by decide +kernel
theorem dX12_times_79 : decode cX12_times 79 = .ok (.lconst 0, 1) := by decide +kernel
theorem dX12_times_80 : decode cX12_times 80 = .ok (.goto 6, 3) := by decide +kernel
theorem dX12_times_83 : decode cX12_times 83 = .ok (.lload_n 1, 1) := by decide +kernel
theorem dX12_times_84 : decode cX12_times 84 = .ok (.lload_n 3, 1) := by decide +kernel
theorem dX12_times_85 : decode cX12_times 85 = .ok (.lmul, 1) := by decide +kernel
theorem dX12_times_86 : decode cX12_times 86 = .ok (.lreturn, 1) := by decide +kernel
theorem dX12_worthOf_0 : decode cX12_worthOf 0 = .ok (.aload_n 0, 1) := by decide +kernel
theorem dX12_worthOf_1 : decode cX12_worthOf 1 = .ok (.getfield 81, 3) := by decide +kernel
theorem dX12_worthOf_4 : decode cX12_worthOf 4 = .ok (.iload_n 1, 1) := by decide +kernel
theorem dX12_worthOf_5 : decode cX12_worthOf 5 = .ok (.iaload, 1) := by decide +kernel
theorem dX12_worthOf_6 : decode cX12_worthOf 6 = .ok (.ifCond .ne 11, 3) := by decide +kernel
theorem dX12_worthOf_9 : decode cX12_worthOf 9 = .ok (.aload_n 0, 1) := by decide +kernel
theorem dX12_worthOf_10 : decode cX12_worthOf 10 = .ok (.getfield 84, 3) := by decide +kernel
theorem dX12_worthOf_13 : decode cX12_worthOf 13 = .ok (.iload_n 1, 1) := by decide +kernel
theorem dX12_worthOf_14 : decode cX12_worthOf 14 = .ok (.iaload, 1) := by decide +kernel
theorem dX12_worthOf_15 : decode cX12_worthOf 15 = .ok (.i2l, 1) := by decide +kernel
theorem dX12_worthOf_16 : decode cX12_worthOf 16 = .ok (.lreturn, 1) := by decide +kernel
theorem dX12_worthOf_17 : decode cX12_worthOf 17 = .ok (.aload_n 0, 1) := by decide +kernel
theorem dX12_worthOf_18 : decode cX12_worthOf 18 = .ok (.getfield 81, 3) := by decide +kernel
theorem dX12_worthOf_21 : decode cX12_worthOf 21 = .ok (.iload_n 1, 1) := by decide +kernel
theorem dX12_worthOf_22 : decode cX12_worthOf 22 = .ok (.iaload, 1) := by decide +kernel
theorem dX12_worthOf_23 : decode cX12_worthOf 23 = .ok (.iconst 1, 1) := by decide +kernel
theorem dX12_worthOf_24 : decode cX12_worthOf 24 = .ok (.if_icmp .ne 15, 3) := by decide +kernel
theorem dX12_worthOf_27 : decode cX12_worthOf 27 = .ok (.aload_n 0, 1) := by decide +kernel
theorem dX12_worthOf_28 : decode cX12_worthOf 28 = .ok (.getfield 111, 3) := by decide +kernel
theorem dX12_worthOf_31 : decode cX12_worthOf 31 = .ok (.aload_n 0, 1) := by decide +kernel
theorem dX12_worthOf_32 : decode cX12_worthOf 32 = .ok (.getfield 84, 3) := by decide +kernel
theorem dX12_worthOf_35 : decode cX12_worthOf 35 = .ok (.iload_n 1, 1) := by decide +kernel
theorem dX12_worthOf_36 : decode cX12_worthOf 36 = .ok (.iaload, 1) := by decide +kernel
theorem dX12_worthOf_37 : decode cX12_worthOf 37 = .ok (.laload, 1) := by decide +kernel
theorem dX12_worthOf_38 : decode cX12_worthOf 38 = .ok (.lreturn, 1) := by decide +kernel
theorem dX12_worthOf_39 : decode cX12_worthOf 39 = .ok (.aload_n 0, 1) := by decide +kernel
theorem dX12_worthOf_40 : decode cX12_worthOf 40 = .ok (.getfield 115, 3) := by decide +kernel
theorem dX12_worthOf_43 : decode cX12_worthOf 43 = .ok (.aload_n 0, 1) := by decide +kernel
theorem dX12_worthOf_44 : decode cX12_worthOf 44 = .ok (.getfield 84, 3) := by decide +kernel
theorem dX12_worthOf_47 : decode cX12_worthOf 47 = .ok (.iload_n 1, 1) := by decide +kernel
theorem dX12_worthOf_48 : decode cX12_worthOf 48 = .ok (.iaload, 1) := by decide +kernel
theorem dX12_worthOf_49 : decode cX12_worthOf 49 = .ok (.laload, 1) := by decide +kernel
theorem dX12_worthOf_50 : decode cX12_worthOf 50 = .ok (.lstore_n 2, 1) := by decide +kernel
theorem dX12_worthOf_51 : decode cX12_worthOf 51 = .ok (.aload_n 0, 1) := by decide +kernel
theorem dX12_worthOf_52 : decode cX12_worthOf 52 = .ok (.getfield 81, 3) := by decide +kernel
theorem dX12_worthOf_55 : decode cX12_worthOf 55 = .ok (.iload_n 1, 1) := by decide +kernel
theorem dX12_worthOf_56 : decode cX12_worthOf 56 = .ok (.iaload, 1) := by decide +kernel
theorem dX12_worthOf_57 : decode cX12_worthOf 57 = .ok (.iconst 2, 1) := by decide +kernel
theorem dX12_worthOf_58 : decode cX12_worthOf 58 = .ok (.if_icmp .ne 15, 3) := by decide +kernel
theorem dX12_worthOf_61 : decode cX12_worthOf 61 = .ok (.lload_n 2, 1) := by decide +kernel
theorem dX12_worthOf_62 : decode cX12_worthOf 62 = .ok (.lconst 0, 1) := by decide +kernel
theorem dX12_worthOf_63 : decode cX12_worthOf 63 = .ok (.lcmp, 1) := by decide +kernel
theorem dX12_worthOf_64 : decode cX12_worthOf 64 = .ok (.ifCond .ne 7, 3) := by decide +kernel
theorem dX12_worthOf_67 : decode cX12_worthOf 67 = .ok (.lconst 1, 1) := by decide +kernel
theorem dX12_worthOf_68 : decode cX12_worthOf 68 = .ok (.goto 4, 3) := by decide +kernel
theorem dX12_worthOf_71 : decode cX12_worthOf 71 = .ok (.lconst 0, 1) := by decide +kernel
theorem dX12_worthOf_72 : decode cX12_worthOf 72 = .ok (.lreturn, 1) := by decide +kernel
theorem dX12_worthOf_73 : decode cX12_worthOf 73 = .ok (.aload_n 0, 1) := by decide +kernel
theorem dX12_worthOf_74 : decode cX12_worthOf 74 = .ok (.getfield 115, 3) := by decide +kernel
theorem dX12_worthOf_77 : decode cX12_worthOf 77 = .ok (.aload_n 0, 1) := by decide +kernel
theorem dX12_worthOf_78 : decode cX12_worthOf 78 = .ok (.getfield 87, 3) := by decide +kernel
theorem dX12_worthOf_81 : decode cX12_worthOf 81 = .ok (.iload_n 1, 1) := by decide +kernel
theorem dX12_worthOf_82 : decode cX12_worthOf 82 = .ok (.iaload, 1) := by decide +kernel
theorem dX12_worthOf_83 : decode cX12_worthOf 83 = .ok (.laload, 1) := by decide +kernel
theorem dX12_worthOf_84 : decode cX12_worthOf 84 = .ok (.lstore 4, 2) := by decide +kernel
theorem dX12_worthOf_86 : decode cX12_worthOf 86 = .ok (.aload_n 0, 1) := by decide +kernel
theorem dX12_worthOf_87 : decode cX12_worthOf 87 = .ok (.getfield 81, 3) := by decide +kernel
theorem dX12_worthOf_90 : decode cX12_worthOf 90 = .ok (.iload_n 1, 1) := by decide +kernel
theorem dX12_worthOf_91 : decode cX12_worthOf 91 = .ok (.iaload, 1) := by decide +kernel
theorem dX12_worthOf_92 : decode cX12_worthOf 92 = .ok (.tableswitch 167 3 14 #[64, 83, 167, 167, 167, 167, 167, 167, 102, 111, 120, 128], 64) := by decide +kernel
theorem dX12_worthOf_156 : decode cX12_worthOf 156 = .ok (.lload_n 2, 1) := by decide +kernel
theorem dX12_worthOf_157 : decode cX12_worthOf 157 = .ok (.lconst 0, 1) := by decide +kernel
theorem dX12_worthOf_158 : decode cX12_worthOf 158 = .ok (.lcmp, 1) := by decide +kernel
theorem dX12_worthOf_159 : decode cX12_worthOf 159 = .ok (.ifCond .eq 14, 3) := by decide +kernel
theorem dX12_worthOf_162 : decode cX12_worthOf 162 = .ok (.lload 4, 2) := by decide +kernel
theorem dX12_worthOf_164 : decode cX12_worthOf 164 = .ok (.lconst 0, 1) := by decide +kernel
theorem dX12_worthOf_165 : decode cX12_worthOf 165 = .ok (.lcmp, 1) := by decide +kernel
theorem dX12_worthOf_166 : decode cX12_worthOf 166 = .ok (.ifCond .eq 7, 3) := by decide +kernel
theorem dX12_worthOf_169 : decode cX12_worthOf 169 = .ok (.lconst 1, 1) := by decide +kernel
theorem dX12_worthOf_170 : decode cX12_worthOf 170 = .ok (.goto 4, 3) := by decide +kernel
theorem dX12_worthOf_173 : decode cX12_worthOf 173 = .ok (.lconst 0, 1) := by decide +kernel
theorem dX12_worthOf_174 : decode cX12_worthOf 174 = .ok (.lreturn, 1) := by decide +kernel
theorem dX12_worthOf_175 : decode cX12_worthOf 175 = .ok (.lload_n 2, 1) := by decide +kernel
theorem dX12_worthOf_176 : decode cX12_worthOf 176 = .ok (.lconst 0, 1) := by decide +kernel
theorem dX12_worthOf_177 : decode cX12_worthOf 177 = .ok (.lcmp, 1) := by decide +kernel
theorem dX12_worthOf_178 : decode cX12_worthOf 178 = .ok (.ifCond .ne 10, 3) := by decide +kernel
theorem dX12_worthOf_181 : decode cX12_worthOf 181 = .ok (.lload 4, 2) := by decide +kernel
theorem dX12_worthOf_183 : decode cX12_worthOf 183 = .ok (.lconst 0, 1) := by decide +kernel
theorem dX12_worthOf_184 : decode cX12_worthOf 184 = .ok (.lcmp, 1) := by decide +kernel
theorem dX12_worthOf_185 : decode cX12_worthOf 185 = .ok (.ifCond .eq 7, 3) := by decide +kernel
theorem dX12_worthOf_188 : decode cX12_worthOf 188 = .ok (.lconst 1, 1) := by decide +kernel
theorem dX12_worthOf_189 : decode cX12_worthOf 189 = .ok (.goto 4, 3) := by decide +kernel
theorem dX12_worthOf_192 : decode cX12_worthOf 192 = .ok (.lconst 0, 1) := by decide +kernel
theorem dX12_worthOf_193 : decode cX12_worthOf 193 = .ok (.lreturn, 1) := by decide +kernel
theorem dX12_worthOf_194 : decode cX12_worthOf 194 = .ok (.aload_n 0, 1) := by decide +kernel
theorem dX12_worthOf_195 : decode cX12_worthOf 195 = .ok (.lload_n 2, 1) := by decide +kernel
theorem dX12_worthOf_196 : decode cX12_worthOf 196 = .ok (.lload 4, 2) := by decide +kernel
theorem dX12_worthOf_198 : decode cX12_worthOf 198 = .ok (.ladd, 1) := by decide +kernel
theorem dX12_worthOf_199 : decode cX12_worthOf 199 = .ok (.invokevirtual 423, 3) := by decide +kernel
theorem dX12_worthOf_202 : decode cX12_worthOf 202 = .ok (.lreturn, 1) := by decide +kernel
theorem dX12_worthOf_203 : decode cX12_worthOf 203 = .ok (.aload_n 0, 1) := by decide +kernel
theorem dX12_worthOf_204 : decode cX12_worthOf 204 = .ok (.lload_n 2, 1) := by decide +kernel
theorem dX12_worthOf_205 : decode cX12_worthOf 205 = .ok (.lload 4, 2) := by decide +kernel
theorem dX12_worthOf_207 : decode cX12_worthOf 207 = .ok (.lsub, 1) := by decide +kernel
theorem dX12_worthOf_208 : decode cX12_worthOf 208 = .ok (.invokevirtual 423, 3) := by decide +kernel
theorem dX12_worthOf_211 : decode cX12_worthOf 211 = .ok (.lreturn, 1) := by decide +kernel
theorem dX12_worthOf_212 : decode cX12_worthOf 212 = .ok (.aload_n 0, 1) := by decide +kernel
theorem dX12_worthOf_213 : decode cX12_worthOf 213 = .ok (.lload_n 2, 1) := by decide +kernel
theorem dX12_worthOf_214 : decode cX12_worthOf 214 = .ok (.lload 4, 2) := by decide +kernel
theorem dX12_worthOf_216 : decode cX12_worthOf 216 = .ok (.invokevirtual 427, 3) := by decide +kernel
theorem dX12_worthOf_219 : decode cX12_worthOf 219 = .ok (.lreturn, 1) := by decide +kernel
theorem dX12_worthOf_220 : decode cX12_worthOf 220 = .ok (.aload_n 0, 1) := by decide +kernel
theorem dX12_worthOf_221 : decode cX12_worthOf 221 = .ok (.aload_n 0, 1) := by decide +kernel
theorem dX12_worthOf_222 : decode cX12_worthOf 222 = .ok (.getfield 416, 3) := by decide +kernel
theorem dX12_worthOf_225 : decode cX12_worthOf 225 = .ok (.ifCond .ne 10, 3) := by decide +kernel
theorem dX12_worthOf_228 : decode cX12_worthOf 228 = .ok (.lload 4, 2) := by decide +kernel
theorem dX12_worthOf_230 : decode cX12_worthOf 230 = .ok (.lconst 0, 1) := by decide +kernel
theorem dX12_worthOf_231 : decode cX12_worthOf 231 = .ok (.lcmp, 1) := by decide +kernel
theorem dX12_worthOf_232 : decode cX12_worthOf 232 = .ok (.ifCond .ne 7, 3) := by decide +kernel
theorem dX12_worthOf_235 : decode cX12_worthOf 235 = .ok (.iconst 1, 1) := by decide +kernel
theorem dX12_worthOf_236 : decode cX12_worthOf 236 = .ok (.goto 4, 3) := by decide +kernel
theorem dX12_worthOf_239 : decode cX12_worthOf 239 = .ok (.iconst 0, 1) := by decide +kernel
theorem dX12_worthOf_240 : decode cX12_worthOf 240 = .ok (.putfield 416, 3) := by decide +kernel
theorem dX12_worthOf_243 : decode cX12_worthOf 243 = .ok (.aload_n 0, 1) := by decide +kernel
theorem dX12_worthOf_244 : decode cX12_worthOf 244 = .ok (.getfield 416, 3) := by decide +kernel
theorem dX12_worthOf_247 : decode cX12_worthOf 247 = .ok (.ifCond .eq 7, 3) := by decide +kernel
theorem dX12_worthOf_250 : decode cX12_worthOf 250 = .ok (.lconst 0, 1) := by decide +kernel
theorem dX12_worthOf_251 : decode cX12_worthOf 251 = .ok (.goto 7, 3) := by decide +kernel
theorem dX12_worthOf_254 : decode cX12_worthOf 254 = .ok (.lload_n 2, 1) := by decide +kernel
theorem dX12_worthOf_255 : decode cX12_worthOf 255 = .ok (.lload 4, 2) := by decide +kernel
theorem dX12_worthOf_257 : decode cX12_worthOf 257 = .ok (.ldiv, 1) := by decide +kernel
theorem dX12_worthOf_258 : decode cX12_worthOf 258 = .ok (.lreturn, 1) := by decide +kernel
theorem dX12_worthOf_259 : decode cX12_worthOf 259 = .ok (.aload_n 0, 1) := by decide +kernel
theorem dX12_worthOf_260 : decode cX12_worthOf 260 = .ok (.getfield 81, 3) := by decide +kernel
theorem dX12_worthOf_263 : decode cX12_worthOf 263 = .ok (.iload_n 1, 1) := by decide +kernel
theorem dX12_worthOf_264 : decode cX12_worthOf 264 = .ok (.iaload, 1) := by decide +kernel
theorem dX12_worthOf_265 : decode cX12_worthOf 265 = .ok (.lload_n 2, 1) := by decide +kernel
theorem dX12_worthOf_266 : decode cX12_worthOf 266 = .ok (.lload 4, 2) := by decide +kernel
theorem dX12_worthOf_268 : decode cX12_worthOf 268 = .ok (.invokestatic 430, 3) := by decide +kernel
theorem dX12_worthOf_271 : decode cX12_worthOf 271 = .ok (.ifCond .eq 7, 3) := by decide +kernel
theorem dX12_worthOf_274 : decode cX12_worthOf 274 = .ok (.lconst 1, 1) := by decide +kernel
theorem dX12_worthOf_275 : decode cX12_worthOf 275 = .ok (.goto 4, 3) := by decide +kernel
theorem dX12_worthOf_278 : decode cX12_worthOf 278 = .ok (.lconst 0, 1) := by decide +kernel
theorem dX12_worthOf_279 : decode cX12_worthOf 279 = .ok (.lreturn, 1) := by decide +kernel
theorem dX12_hasLine_0 : decode cX12_hasLine 0 = .ok (.aload_n 0, 1) := by decide +kernel
theorem dX12_hasLine_1 : decode cX12_hasLine 1 = .ok (.getfield 78, 3) := by decide +kernel
theorem dX12_hasLine_4 : decode cX12_hasLine 4 = .ok (.iload_n 1, 1) := by decide +kernel
theorem dX12_hasLine_5 : decode cX12_hasLine 5 = .ok (.iaload, 1) := by decide +kernel
theorem dX12_hasLine_6 : decode cX12_hasLine 6 = .ok (.aload_n 0, 1) := by decide +kernel
theorem dX12_hasLine_7 : decode cX12_hasLine 7 = .ok (.getfield 75, 3) := by decide +kernel
theorem dX12_hasLine_10 : decode cX12_hasLine 10 = .ok (.iload_n 1, 1) := by decide +kernel
theorem dX12_hasLine_11 : decode cX12_hasLine 11 = .ok (.iaload, 1) := by decide +kernel
theorem dX12_hasLine_12 : decode cX12_hasLine 12 = .ok (.if_icmp .le 7, 3) := by decide +kernel
theorem dX12_hasLine_15 : decode cX12_hasLine 15 = .ok (.iconst 1, 1) := by decide +kernel
theorem dX12_hasLine_16 : decode cX12_hasLine 16 = .ok (.goto 4, 3) := by decide +kernel
theorem dX12_hasLine_19 : decode cX12_hasLine 19 = .ok (.iconst 0, 1) := by decide +kernel
theorem dX12_hasLine_20 : decode cX12_hasLine 20 = .ok (.ireturn, 1) := by decide +kernel
theorem dX12_sumOf_0 : decode cX12_sumOf 0 = .ok (.aload_n 0, 1) := by decide +kernel
theorem dX12_sumOf_1 : decode cX12_sumOf 1 = .ok (.iconst 0, 1) := by decide +kernel
theorem dX12_sumOf_2 : decode cX12_sumOf 2 = .ok (.putfield 416, 3) := by decide +kernel
theorem dX12_sumOf_5 : decode cX12_sumOf 5 = .ok (.aload_n 0, 1) := by decide +kernel
theorem dX12_sumOf_6 : decode cX12_sumOf 6 = .ok (.getfield 75, 3) := by decide +kernel
theorem dX12_sumOf_9 : decode cX12_sumOf 9 = .ok (.iload_n 1, 1) := by decide +kernel
theorem dX12_sumOf_10 : decode cX12_sumOf 10 = .ok (.iaload, 1) := by decide +kernel
theorem dX12_sumOf_11 : decode cX12_sumOf 11 = .ok (.istore_n 2, 1) := by decide +kernel
theorem dX12_sumOf_12 : decode cX12_sumOf 12 = .ok (.iload_n 2, 1) := by decide +kernel
theorem dX12_sumOf_13 : decode cX12_sumOf 13 = .ok (.aload_n 0, 1) := by decide +kernel
theorem dX12_sumOf_14 : decode cX12_sumOf 14 = .ok (.getfield 78, 3) := by decide +kernel
theorem dX12_sumOf_17 : decode cX12_sumOf 17 = .ok (.iload_n 1, 1) := by decide +kernel
theorem dX12_sumOf_18 : decode cX12_sumOf 18 = .ok (.iaload, 1) := by decide +kernel
theorem dX12_sumOf_19 : decode cX12_sumOf 19 = .ok (.if_icmp .ge 20, 3) := by decide +kernel
theorem dX12_sumOf_22 : decode cX12_sumOf 22 = .ok (.aload_n 0, 1) := by decide +kernel
theorem dX12_sumOf_23 : decode cX12_sumOf 23 = .ok (.getfield 115, 3) := by decide +kernel
theorem dX12_sumOf_26 : decode cX12_sumOf 26 = .ok (.iload_n 2, 1) := by decide +kernel
theorem dX12_sumOf_27 : decode cX12_sumOf 27 = .ok (.aload_n 0, 1) := by decide +kernel
theorem dX12_sumOf_28 : decode cX12_sumOf 28 = .ok (.iload_n 2, 1) := by decide +kernel
theorem dX12_sumOf_29 : decode cX12_sumOf 29 = .ok (.invokevirtual 434, 3) := by decide +kernel
theorem dX12_sumOf_32 : decode cX12_sumOf 32 = .ok (.lastore, 1) := by decide +kernel
theorem dX12_sumOf_33 : decode cX12_sumOf 33 = .ok (.iinc 2 1, 3) := by decide +kernel
theorem dX12_sumOf_36 : decode cX12_sumOf 36 = .ok (.goto (-24), 3) := by decide +kernel
theorem dX12_sumOf_39 : decode cX12_sumOf 39 = .ok (.aload_n 0, 1) := by decide +kernel
theorem dX12_sumOf_40 : decode cX12_sumOf 40 = .ok (.getfield 115, 3) := by decide +kernel
theorem dX12_sumOf_43 : decode cX12_sumOf 43 = .ok (.aload_n 0, 1) := by decide +kernel
theorem dX12_sumOf_44 : decode cX12_sumOf 44 = .ok (.getfield 78, 3) := by decide +kernel
theorem dX12_sumOf_47 : decode cX12_sumOf 47 = .ok (.iload_n 1, 1) := by decide +kernel
theorem dX12_sumOf_48 : decode cX12_sumOf 48 = .ok (.iaload, 1) := by decide +kernel
theorem dX12_sumOf_49 : decode cX12_sumOf 49 = .ok (.iconst 1, 1) := by decide +kernel
theorem dX12_sumOf_50 : decode cX12_sumOf 50 = .ok (.isub, 1) := by decide +kernel
theorem dX12_sumOf_51 : decode cX12_sumOf 51 = .ok (.laload, 1) := by decide +kernel
theorem dX12_sumOf_52 : decode cX12_sumOf 52 = .ok (.lreturn, 1) := by decide +kernel
theorem dX12_holds_0 : decode cX12_holds 0 = .ok (.aload_n 0, 1) := by decide +kernel
theorem dX12_holds_1 : decode cX12_holds 1 = .ok (.iload_n 1, 1) := by decide +kernel
theorem dX12_holds_2 : decode cX12_holds 2 = .ok (.invokevirtual 438, 3) := by decide +kernel
theorem dX12_holds_5 : decode cX12_holds 5 = .ok (.ifCond .ne 5, 3) := by decide +kernel
theorem dX12_holds_8 : decode cX12_holds 8 = .ok (.iconst 0, 1) := by decide +kernel
theorem dX12_holds_9 : decode cX12_holds 9 = .ok (.ireturn, 1) := by decide +kernel
theorem dX12_holds_10 : decode cX12_holds 10 = .ok (.aload_n 0, 1) := by decide +kernel
theorem dX12_holds_11 : decode cX12_holds 11 = .ok (.iload_n 1, 1) := by decide +kernel
theorem dX12_holds_12 : decode cX12_holds 12 = .ok (.invokevirtual 441, 3) := by decide +kernel
theorem dX12_holds_15 : decode cX12_holds 15 = .ok (.lstore_n 2, 1) := by decide +kernel
theorem dX12_holds_16 : decode cX12_holds 16 = .ok (.aload_n 0, 1) := by decide +kernel
theorem dX12_holds_17 : decode cX12_holds 17 = .ok (.getfield 416, 3) := by decide +kernel
theorem dX12_holds_20 : decode cX12_holds 20 = .ok (.ifCond .ne 13, 3) := by decide +kernel
theorem dX12_holds_23 : decode cX12_holds 23 = .ok (.lload_n 2, 1) := by decide +kernel
theorem dX12_holds_24 : decode cX12_holds 24 = .ok (.lconst 0, 1) := by decide +kernel
theorem dX12_holds_25 : decode cX12_holds 25 = .ok (.lcmp, 1) := by decide +kernel
theorem dX12_holds_26 : decode cX12_holds 26 = .ok (.ifCond .eq 7, 3) := by decide +kernel
theorem dX12_holds_29 : decode cX12_holds 29 = .ok (.iconst 1, 1) := by decide +kernel
theorem dX12_holds_30 : decode cX12_holds 30 = .ok (.goto 4, 3) := by decide +kernel
theorem dX12_holds_33 : decode cX12_holds 33 = .ok (.iconst 0, 1) := by decide +kernel
theorem dX12_holds_34 : decode cX12_holds 34 = .ok (.ireturn, 1) := by decide +kernel
theorem dX12_noNames_0 : decode cX12_noNames 0 = .ok (.iconst 0, 1) := by decide +kernel
theorem dX12_noNames_1 : decode cX12_noNames 1 = .ok (.istore_n 2, 1) := by decide +kernel
theorem dX12_noNames_2 : decode cX12_noNames 2 = .ok (.iload_n 2, 1) := by decide +kernel
theorem dX12_noNames_3 : decode cX12_noNames 3 = .ok (.bipush 10, 2) := by decide +kernel
theorem dX12_noNames_5 : decode cX12_noNames 5 = .ok (.if_icmp .ge 16, 3) := by decide +kernel
theorem dX12_noNames_8 : decode cX12_noNames 8 = .ok (.aload_n 0, 1) := by decide +kernel
theorem dX12_noNames_9 : decode cX12_noNames 9 = .ok (.getfield 111, 3) := by decide +kernel
theorem dX12_noNames_12 : decode cX12_noNames 12 = .ok (.iload_n 2, 1) := by decide +kernel
theorem dX12_noNames_13 : decode cX12_noNames 13 = .ok (.lconst 0, 1) := by decide +kernel
theorem dX12_noNames_14 : decode cX12_noNames 14 = .ok (.lastore, 1) := by decide +kernel
theorem dX12_noNames_15 : decode cX12_noNames 15 = .ok (.iinc 2 1, 3) := by decide +kernel
theorem dX12_noNames_18 : decode cX12_noNames 18 = .ok (.goto (-16), 3) := by decide +kernel
theorem dX12_noNames_21 : decode cX12_noNames 21 = .ok (.aload_n 0, 1) := by decide +kernel
theorem dX12_noNames_22 : decode cX12_noNames 22 = .ok (.getfield 111, 3) := by decide +kernel
theorem dX12_noNames_25 : decode cX12_noNames 25 = .ok (.iconst 0, 1) := by decide +kernel
theorem dX12_noNames_26 : decode cX12_noNames 26 = .ok (.aload_n 0, 1) := by decide +kernel
theorem dX12_noNames_27 : decode cX12_noNames 27 = .ok (.getfield 38, 3) := by decide +kernel
theorem dX12_noNames_30 : decode cX12_noNames 30 = .ok (.iload_n 1, 1) := by decide +kernel
theorem dX12_noNames_31 : decode cX12_noNames 31 = .ok (.iaload, 1) := by decide +kernel
theorem dX12_noNames_32 : decode cX12_noNames 32 = .ok (.i2l, 1) := by decide +kernel
theorem dX12_noNames_33 : decode cX12_noNames 33 = .ok (.lastore, 1) := by decide +kernel
theorem dX12_noNames_34 : decode cX12_noNames 34 = .ok (.return_, 1) := by decide +kernel
theorem dX12_offUpTo_0 : decode cX12_offUpTo 0 = .ok (.aload_n 0, 1) := by decide +kernel
theorem dX12_offUpTo_1 : decode cX12_offUpTo 1 = .ok (.iload_n 1, 1) := by decide +kernel
theorem dX12_offUpTo_2 : decode cX12_offUpTo 2 = .ok (.iload_n 2, 1) := by decide +kernel
theorem dX12_offUpTo_3 : decode cX12_offUpTo 3 = .ok (.invokevirtual 337, 3) := by decide +kernel
theorem dX12_offUpTo_6 : decode cX12_offUpTo 6 = .ok (.aload_n 0, 1) := by decide +kernel
theorem dX12_offUpTo_7 : decode cX12_offUpTo 7 = .ok (.getfield 41, 3) := by decide +kernel
theorem dX12_offUpTo_10 : decode cX12_offUpTo 10 = .ok (.iload_n 1, 1) := by decide +kernel
theorem dX12_offUpTo_11 : decode cX12_offUpTo 11 = .ok (.iaload, 1) := by decide +kernel
theorem dX12_offUpTo_12 : decode cX12_offUpTo 12 = .ok (.isub, 1) := by decide +kernel
theorem dX12_offUpTo_13 : decode cX12_offUpTo 13 = .ok (.iconst 1, 1) := by decide +kernel
theorem dX12_offUpTo_14 : decode cX12_offUpTo 14 = .ok (.iadd, 1) := by decide +kernel
theorem dX12_offUpTo_15 : decode cX12_offUpTo 15 = .ok (.istore_n 3, 1) := by decide +kernel
theorem dX12_offUpTo_16 : decode cX12_offUpTo 16 = .ok (.iload_n 3, 1) := by decide +kernel
theorem dX12_offUpTo_17 : decode cX12_offUpTo 17 = .ok (.ifCond .ge 7, 3) := by decide +kernel
theorem dX12_offUpTo_20 : decode cX12_offUpTo 20 = .ok (.iconst 0, 1) := by decide +kernel
theorem dX12_offUpTo_21 : decode cX12_offUpTo 21 = .ok (.goto 4, 3) := by decide +kernel
theorem dX12_offUpTo_24 : decode cX12_offUpTo 24 = .ok (.iload_n 3, 1) := by decide +kernel
theorem dX12_offUpTo_25 : decode cX12_offUpTo 25 = .ok (.ireturn, 1) := by decide +kernel
theorem dX12_lawAt_0 : decode cX12_lawAt 0 = .ok (.aload_n 0, 1) := by decide +kernel
theorem dX12_lawAt_1 : decode cX12_lawAt 1 = .ok (.iconst 0, 1) := by decide +kernel
theorem dX12_lawAt_2 : decode cX12_lawAt 2 = .ok (.invokevirtual 438, 3) := by decide +kernel
theorem dX12_lawAt_5 : decode cX12_lawAt 5 = .ok (.ifCond .ne 6, 3) := by decide +kernel
theorem dX12_lawAt_8 : decode cX12_lawAt 8 = .ok (.bipush 50, 2) := by decide +kernel
theorem dX12_lawAt_10 : decode cX12_lawAt 10 = .ok (.ireturn, 1) := by decide +kernel
theorem dX12_lawAt_11 : decode cX12_lawAt 11 = .ok (.aload_n 0, 1) := by decide +kernel
theorem dX12_lawAt_12 : decode cX12_lawAt 12 = .ok (.getfield 54, 3) := by decide +kernel
theorem dX12_lawAt_15 : decode cX12_lawAt 15 = .ok (.iload_n 1, 1) := by decide +kernel
theorem dX12_lawAt_16 : decode cX12_lawAt 16 = .ok (.iaload, 1) := by decide +kernel
theorem dX12_lawAt_17 : decode cX12_lawAt 17 = .ok (.istore_n 2, 1) := by decide +kernel
theorem dX12_lawAt_18 : decode cX12_lawAt 18 = .ok (.aload_n 0, 1) := by decide +kernel
theorem dX12_lawAt_19 : decode cX12_lawAt 19 = .ok (.iload_n 2, 1) := by decide +kernel
theorem dX12_lawAt_20 : decode cX12_lawAt 20 = .ok (.invokevirtual 444, 3) := by decide +kernel
theorem dX12_lawAt_23 : decode cX12_lawAt 23 = .ok (.aload_n 0, 1) := by decide +kernel
theorem dX12_lawAt_24 : decode cX12_lawAt 24 = .ok (.getfield 111, 3) := by decide +kernel
theorem dX12_lawAt_27 : decode cX12_lawAt 27 = .ok (.iconst 1, 1) := by decide +kernel
theorem dX12_lawAt_28 : decode cX12_lawAt 28 = .ok (.aload_n 0, 1) := by decide +kernel
theorem dX12_lawAt_29 : decode cX12_lawAt 29 = .ok (.getfield 57, 3) := by decide +kernel
theorem dX12_lawAt_32 : decode cX12_lawAt 32 = .ok (.iload_n 1, 1) := by decide +kernel
theorem dX12_lawAt_33 : decode cX12_lawAt 33 = .ok (.iaload, 1) := by decide +kernel
theorem dX12_lawAt_34 : decode cX12_lawAt 34 = .ok (.aload_n 0, 1) := by decide +kernel
theorem dX12_lawAt_35 : decode cX12_lawAt 35 = .ok (.getfield 41, 3) := by decide +kernel
theorem dX12_lawAt_38 : decode cX12_lawAt 38 = .ok (.iload_n 2, 1) := by decide +kernel
theorem dX12_lawAt_39 : decode cX12_lawAt 39 = .ok (.iaload, 1) := by decide +kernel
theorem dX12_lawAt_40 : decode cX12_lawAt 40 = .ok (.isub, 1) := by decide +kernel
theorem dX12_lawAt_41 : decode cX12_lawAt 41 = .ok (.i2l, 1) := by decide +kernel
theorem dX12_lawAt_42 : decode cX12_lawAt 42 = .ok (.lastore, 1) := by decide +kernel
theorem dX12_lawAt_43 : decode cX12_lawAt 43 = .ok (.aload_n 0, 1) := by decide +kernel
theorem dX12_lawAt_44 : decode cX12_lawAt 44 = .ok (.getfield 111, 3) := by decide +kernel
theorem dX12_lawAt_47 : decode cX12_lawAt 47 = .ok (.iconst 2, 1) := by decide +kernel
theorem dX12_lawAt_48 : decode cX12_lawAt 48 = .ok (.aload_n 0, 1) := by decide +kernel
theorem dX12_lawAt_49 : decode cX12_lawAt 49 = .ok (.iload_n 2, 1) := by decide +kernel
theorem dX12_lawAt_50 : decode cX12_lawAt 50 = .ok (.aload_n 0, 1) := by decide +kernel
theorem dX12_lawAt_51 : decode cX12_lawAt 51 = .ok (.getfield 57, 3) := by decide +kernel
theorem dX12_lawAt_54 : decode cX12_lawAt 54 = .ok (.iload_n 1, 1) := by decide +kernel
theorem dX12_lawAt_55 : decode cX12_lawAt 55 = .ok (.iaload, 1) := by decide +kernel
theorem dX12_lawAt_56 : decode cX12_lawAt 56 = .ok (.invokevirtual 447, 3) := by decide +kernel
theorem dX12_lawAt_59 : decode cX12_lawAt 59 = .ok (.i2l, 1) := by decide +kernel
theorem dX12_lawAt_60 : decode cX12_lawAt 60 = .ok (.lastore, 1) := by decide +kernel
theorem dX12_lawAt_61 : decode cX12_lawAt 61 = .ok (.iconst 0, 1) := by decide +kernel
theorem dX12_lawAt_62 : decode cX12_lawAt 62 = .ok (.istore_n 3, 1) := by decide +kernel
theorem dX12_lawAt_63 : decode cX12_lawAt 63 = .ok (.iload_n 3, 1) := by decide +kernel
theorem dX12_lawAt_64 : decode cX12_lawAt 64 = .ok (.iload_n 1, 1) := by decide +kernel
theorem dX12_lawAt_65 : decode cX12_lawAt 65 = .ok (.if_icmp .ge 54, 3) := by decide +kernel
theorem dX12_lawAt_68 : decode cX12_lawAt 68 = .ok (.aload_n 0, 1) := by decide +kernel
theorem dX12_lawAt_69 : decode cX12_lawAt 69 = .ok (.iload_n 3, 1) := by decide +kernel
theorem dX12_lawAt_70 : decode cX12_lawAt 70 = .ok (.iload_n 2, 1) := by decide +kernel
theorem dX12_lawAt_71 : decode cX12_lawAt 71 = .ok (.invokevirtual 334, 3) := by decide +kernel
theorem dX12_lawAt_74 : decode cX12_lawAt 74 = .ok (.ifCond .ne 6, 3) := by decide +kernel
theorem dX12_lawAt_77 : decode cX12_lawAt 77 = .ok (.goto 36, 3) := by decide +kernel
theorem dX12_lawAt_80 : decode cX12_lawAt 80 = .ok (.aload_n 0, 1) := by decide +kernel
theorem dX12_lawAt_81 : decode cX12_lawAt 81 = .ok (.getfield 111, 3) := by decide +kernel
theorem dX12_lawAt_84 : decode cX12_lawAt 84 = .ok (.iconst 3, 1) := by decide +kernel
theorem dX12_lawAt_85 : decode cX12_lawAt 85 = .ok (.dup2, 1) := by decide +kernel
theorem dX12_lawAt_86 : decode cX12_lawAt 86 = .ok (.laload, 1) := by decide +kernel
theorem dX12_lawAt_87 : decode cX12_lawAt 87 = .ok (.lconst 1, 1) := by decide +kernel
theorem dX12_lawAt_88 : decode cX12_lawAt 88 = .ok (.ladd, 1) := by decide +kernel
theorem dX12_lawAt_89 : decode cX12_lawAt 89 = .ok (.lastore, 1) := by decide +kernel
theorem dX12_lawAt_90 : decode cX12_lawAt 90 = .ok (.aload_n 0, 1) := by decide +kernel
theorem dX12_lawAt_91 : decode cX12_lawAt 91 = .ok (.getfield 111, 3) := by decide +kernel
theorem dX12_lawAt_94 : decode cX12_lawAt 94 = .ok (.iconst 4, 1) := by decide +kernel
theorem dX12_lawAt_95 : decode cX12_lawAt 95 = .ok (.dup2, 1) := by decide +kernel
theorem dX12_lawAt_96 : decode cX12_lawAt 96 = .ok (.laload, 1) := by decide +kernel
theorem dX12_lawAt_97 : decode cX12_lawAt 97 = .ok (.aload_n 0, 1) := by decide +kernel
theorem dX12_lawAt_98 : decode cX12_lawAt 98 = .ok (.getfield 63, 3) := by decide +kernel
theorem dX12_lawAt_101 : decode cX12_lawAt 101 = .ok (.iload_n 3, 1) := by decide +kernel
theorem dX12_lawAt_102 : decode cX12_lawAt 102 = .ok (.iaload, 1) := by decide +kernel
theorem dX12_lawAt_103 : decode cX12_lawAt 103 = .ok (.ifCond .lt 7, 3) := by decide +kernel
theorem dX12_lawAt_106 : decode cX12_lawAt 106 = .ok (.lconst 1, 1) := by decide +kernel
theorem dX12_lawAt_107 : decode cX12_lawAt 107 = .ok (.goto 4, 3) := by decide +kernel
theorem dX12_lawAt_110 : decode cX12_lawAt 110 = .ok (.lconst 0, 1) := by decide +kernel
theorem dX12_lawAt_111 : decode cX12_lawAt 111 = .ok (.ladd, 1) := by decide +kernel
theorem dX12_lawAt_112 : decode cX12_lawAt 112 = .ok (.lastore, 1) := by decide +kernel
theorem dX12_lawAt_113 : decode cX12_lawAt 113 = .ok (.iinc 3 1, 3) := by decide +kernel
theorem dX12_lawAt_116 : decode cX12_lawAt 116 = .ok (.goto (-53), 3) := by decide +kernel
theorem dX12_lawAt_119 : decode cX12_lawAt 119 = .ok (.aload_n 0, 1) := by decide +kernel
theorem dX12_lawAt_120 : decode cX12_lawAt 120 = .ok (.iconst 0, 1) := by decide +kernel
theorem dX12_lawAt_121 : decode cX12_lawAt 121 = .ok (.invokevirtual 441, 3) := by decide +kernel
theorem dX12_lawAt_124 : decode cX12_lawAt 124 = .ok (.lstore_n 3, 1) := by decide +kernel
theorem dX12_lawAt_125 : decode cX12_lawAt 125 = .ok (.aload_n 0, 1) := by decide +kernel
theorem dX12_lawAt_126 : decode cX12_lawAt 126 = .ok (.getfield 416, 3) := by decide +kernel
theorem dX12_lawAt_129 : decode cX12_lawAt 129 = .ok (.ifCond .eq 8, 3) := by decide +kernel
theorem dX12_lawAt_132 : decode cX12_lawAt 132 = .ok (.bipush 50, 2) := by decide +kernel
theorem dX12_lawAt_134 : decode cX12_lawAt 134 = .ok (.goto 28, 3) := by decide +kernel
theorem dX12_lawAt_137 : decode cX12_lawAt 137 = .ok (.lload_n 3, 1) := by decide +kernel
theorem dX12_lawAt_138 : decode cX12_lawAt 138 = .ok (.lconst 0, 1) := by decide +kernel
theorem dX12_lawAt_139 : decode cX12_lawAt 139 = .ok (.lcmp, 1) := by decide +kernel
theorem dX12_lawAt_140 : decode cX12_lawAt 140 = .ok (.ifCond .ge 7, 3) := by decide +kernel
theorem dX12_lawAt_143 : decode cX12_lawAt 143 = .ok (.iconst 0, 1) := by decide +kernel
theorem dX12_lawAt_144 : decode cX12_lawAt 144 = .ok (.goto 18, 3) := by decide +kernel
theorem dX12_lawAt_147 : decode cX12_lawAt 147 = .ok (.lload_n 3, 1) := by decide +kernel
theorem dX12_lawAt_148 : decode cX12_lawAt 148 = .ok (.ldc2_w 450, 3) := by decide +kernel
theorem dX12_lawAt_151 : decode cX12_lawAt 151 = .ok (.lcmp, 1) := by decide +kernel
theorem dX12_lawAt_152 : decode cX12_lawAt 152 = .ok (.ifCond .le 8, 3) := by decide +kernel
theorem dX12_lawAt_155 : decode cX12_lawAt 155 = .ok (.bipush 100, 2) := by decide +kernel
theorem dX12_lawAt_157 : decode cX12_lawAt 157 = .ok (.goto 5, 3) := by decide +kernel
theorem dX12_lawAt_160 : decode cX12_lawAt 160 = .ok (.lload_n 3, 1) := by decide +kernel
theorem dX12_lawAt_161 : decode cX12_lawAt 161 = .ok (.l2i, 1) := by decide +kernel
theorem dX12_lawAt_162 : decode cX12_lawAt 162 = .ok (.ireturn, 1) := by decide +kernel
theorem dX12_law_0 : decode cX12_law 0 = .ok (.aload_n 0, 1) := by decide +kernel
theorem dX12_law_1 : decode cX12_law 1 = .ok (.iconst 0, 1) := by decide +kernel
theorem dX12_law_2 : decode cX12_law 2 = .ok (.putfield 124, 3) := by decide +kernel
theorem dX12_law_5 : decode cX12_law 5 = .ok (.aload_n 0, 1) := by decide +kernel
theorem dX12_law_6 : decode cX12_law 6 = .ok (.iload_n 1, 1) := by decide +kernel
theorem dX12_law_7 : decode cX12_law 7 = .ok (.invokevirtual 321, 3) := by decide +kernel
theorem dX12_law_10 : decode cX12_law 10 = .ok (.ifCond .eq 11, 3) := by decide +kernel
theorem dX12_law_13 : decode cX12_law 13 = .ok (.aload_n 0, 1) := by decide +kernel
theorem dX12_law_14 : decode cX12_law 14 = .ok (.iload_n 1, 1) := by decide +kernel
theorem dX12_law_15 : decode cX12_law 15 = .ok (.invokevirtual 452, 3) := by decide +kernel
theorem dX12_law_18 : decode cX12_law 18 = .ok (.goto 4, 3) := by decide +kernel
theorem dX12_law_21 : decode cX12_law 21 = .ok (.iconst (-1), 1) := by decide +kernel
theorem dX12_law_22 : decode cX12_law 22 = .ok (.ireturn, 1) := by decide +kernel
theorem dX12_drawn_0 : decode cX12_drawn 0 = .ok (.aload_n 0, 1) := by decide +kernel
theorem dX12_drawn_1 : decode cX12_drawn 1 = .ok (.aload_n 0, 1) := by decide +kernel
theorem dX12_drawn_2 : decode cX12_drawn 2 = .ok (.getfield 455, 3) := by decide +kernel
theorem dX12_drawn_5 : decode cX12_drawn 5 = .ok (.ldc2_w 458, 3) := by decide +kernel
theorem dX12_drawn_8 : decode cX12_drawn 8 = .ok (.lmul, 1) := by decide +kernel
theorem dX12_drawn_9 : decode cX12_drawn 9 = .ok (.ldc2_w 460, 3) := by decide +kernel
theorem dX12_drawn_12 : decode cX12_drawn 12 = .ok (.ladd, 1) := by decide +kernel
theorem dX12_drawn_13 : decode cX12_drawn 13 = .ok (.ldc2_w 462, 3) := by decide +kernel
theorem dX12_drawn_16 : decode cX12_drawn 16 = .ok (.land, 1) := by decide +kernel
theorem dX12_drawn_17 : decode cX12_drawn 17 = .ok (.putfield 455, 3) := by decide +kernel
theorem dX12_drawn_20 : decode cX12_drawn 20 = .ok (.aload_n 0, 1) := by decide +kernel
theorem dX12_drawn_21 : decode cX12_drawn 21 = .ok (.getfield 455, 3) := by decide +kernel
theorem dX12_drawn_24 : decode cX12_drawn 24 = .ok (.ldc2_w 464, 3) := by decide +kernel
theorem dX12_drawn_27 : decode cX12_drawn 27 = .ok (.ldiv, 1) := by decide +kernel
theorem dX12_drawn_28 : decode cX12_drawn 28 = .ok (.iload_n 1, 1) := by decide +kernel
theorem dX12_drawn_29 : decode cX12_drawn 29 = .ok (.i2l, 1) := by decide +kernel
theorem dX12_drawn_30 : decode cX12_drawn 30 = .ok (.lrem, 1) := by decide +kernel
theorem dX12_drawn_31 : decode cX12_drawn 31 = .ok (.l2i, 1) := by decide +kernel
theorem dX12_drawn_32 : decode cX12_drawn 32 = .ok (.ireturn, 1) := by decide +kernel
theorem dX12_putAhead_0 : decode cX12_putAhead 0 = .ok (.iconst (-1), 1) := by decide +kernel
theorem dX12_putAhead_1 : decode cX12_putAhead 1 = .ok (.istore_n 2, 1) := by decide +kernel
theorem dX12_putAhead_2 : decode cX12_putAhead 2 = .ok (.iconst 0, 1) := by decide +kernel
theorem dX12_putAhead_3 : decode cX12_putAhead 3 = .ok (.istore_n 3, 1) := by decide +kernel
theorem dX12_putAhead_4 : decode cX12_putAhead 4 = .ok (.iload_n 3, 1) := by decide +kernel
theorem dX12_putAhead_5 : decode cX12_putAhead 5 = .ok (.iload_n 1, 1) := by decide +kernel
theorem dX12_putAhead_6 : decode cX12_putAhead 6 = .ok (.if_icmp .ge 58, 3) := by decide +kernel
theorem dX12_putAhead_9 : decode cX12_putAhead 9 = .ok (.aload_n 0, 1) := by decide +kernel
theorem dX12_putAhead_10 : decode cX12_putAhead 10 = .ok (.iload_n 3, 1) := by decide +kernel
theorem dX12_putAhead_11 : decode cX12_putAhead 11 = .ok (.aload_n 0, 1) := by decide +kernel
theorem dX12_putAhead_12 : decode cX12_putAhead 12 = .ok (.getfield 54, 3) := by decide +kernel
theorem dX12_putAhead_15 : decode cX12_putAhead 15 = .ok (.iload_n 1, 1) := by decide +kernel
theorem dX12_putAhead_16 : decode cX12_putAhead 16 = .ok (.iaload, 1) := by decide +kernel
theorem dX12_putAhead_17 : decode cX12_putAhead 17 = .ok (.invokevirtual 334, 3) := by decide +kernel
theorem dX12_putAhead_20 : decode cX12_putAhead 20 = .ok (.ifCond .eq 36, 3) := by decide +kernel
theorem dX12_putAhead_23 : decode cX12_putAhead 23 = .ok (.aload_n 0, 1) := by decide +kernel
theorem dX12_putAhead_24 : decode cX12_putAhead 24 = .ok (.getfield 60, 3) := by decide +kernel
theorem dX12_putAhead_27 : decode cX12_putAhead 27 = .ok (.iload_n 3, 1) := by decide +kernel
theorem dX12_putAhead_28 : decode cX12_putAhead 28 = .ok (.iaload, 1) := by decide +kernel
theorem dX12_putAhead_29 : decode cX12_putAhead 29 = .ok (.aload_n 0, 1) := by decide +kernel
theorem dX12_putAhead_30 : decode cX12_putAhead 30 = .ok (.getfield 60, 3) := by decide +kernel
theorem dX12_putAhead_33 : decode cX12_putAhead 33 = .ok (.iload_n 1, 1) := by decide +kernel
theorem dX12_putAhead_34 : decode cX12_putAhead 34 = .ok (.iaload, 1) := by decide +kernel
theorem dX12_putAhead_35 : decode cX12_putAhead 35 = .ok (.if_icmp .ne 21, 3) := by decide +kernel
theorem dX12_putAhead_38 : decode cX12_putAhead 38 = .ok (.aload_n 0, 1) := by decide +kernel
theorem dX12_putAhead_39 : decode cX12_putAhead 39 = .ok (.getfield 63, 3) := by decide +kernel
theorem dX12_putAhead_42 : decode cX12_putAhead 42 = .ok (.iload_n 3, 1) := by decide +kernel
theorem dX12_putAhead_43 : decode cX12_putAhead 43 = .ok (.iaload, 1) := by decide +kernel
theorem dX12_putAhead_44 : decode cX12_putAhead 44 = .ok (.ifCond .lt 12, 3) := by decide +kernel
theorem dX12_putAhead_47 : decode cX12_putAhead 47 = .ok (.aload_n 0, 1) := by decide +kernel
theorem dX12_putAhead_48 : decode cX12_putAhead 48 = .ok (.getfield 63, 3) := by decide +kernel
theorem dX12_putAhead_51 : decode cX12_putAhead 51 = .ok (.iload_n 3, 1) := by decide +kernel
theorem dX12_putAhead_52 : decode cX12_putAhead 52 = .ok (.iaload, 1) := by decide +kernel
theorem dX12_putAhead_53 : decode cX12_putAhead 53 = .ok (.goto 4, 3) := by decide +kernel
theorem dX12_putAhead_56 : decode cX12_putAhead 56 = .ok (.iload_n 2, 1) := by decide +kernel
theorem dX12_putAhead_57 : decode cX12_putAhead 57 = .ok (.istore_n 2, 1) := by decide +kernel
theorem dX12_putAhead_58 : decode cX12_putAhead 58 = .ok (.iinc 3 1, 3) := by decide +kernel
theorem dX12_putAhead_61 : decode cX12_putAhead 61 = .ok (.goto (-57), 3) := by decide +kernel
theorem dX12_putAhead_64 : decode cX12_putAhead 64 = .ok (.iload_n 2, 1) := by decide +kernel
theorem dX12_putAhead_65 : decode cX12_putAhead 65 = .ok (.ireturn, 1) := by decide +kernel
theorem dX12_isFirstOf_0 : decode cX12_isFirstOf 0 = .ok (.aload_n 0, 1) := by decide +kernel
theorem dX12_isFirstOf_1 : decode cX12_isFirstOf 1 = .ok (.iload_n 1, 1) := by decide +kernel
theorem dX12_isFirstOf_2 : decode cX12_isFirstOf 2 = .ok (.invokevirtual 321, 3) := by decide +kernel
theorem dX12_isFirstOf_5 : decode cX12_isFirstOf 5 = .ok (.ifCond .eq 25, 3) := by decide +kernel
theorem dX12_isFirstOf_8 : decode cX12_isFirstOf 8 = .ok (.aload_n 0, 1) := by decide +kernel
theorem dX12_isFirstOf_9 : decode cX12_isFirstOf 9 = .ok (.getfield 54, 3) := by decide +kernel
theorem dX12_isFirstOf_12 : decode cX12_isFirstOf 12 = .ok (.iload_n 1, 1) := by decide +kernel
theorem dX12_isFirstOf_13 : decode cX12_isFirstOf 13 = .ok (.iaload, 1) := by decide +kernel
theorem dX12_isFirstOf_14 : decode cX12_isFirstOf 14 = .ok (.iload_n 2, 1) := by decide +kernel
theorem dX12_isFirstOf_15 : decode cX12_isFirstOf 15 = .ok (.if_icmp .ne 15, 3) := by decide +kernel
theorem dX12_isFirstOf_18 : decode cX12_isFirstOf 18 = .ok (.aload_n 0, 1) := by decide +kernel
theorem dX12_isFirstOf_19 : decode cX12_isFirstOf 19 = .ok (.iload_n 1, 1) := by decide +kernel
theorem dX12_isFirstOf_20 : decode cX12_isFirstOf 20 = .ok (.invokevirtual 346, 3) := by decide +kernel
theorem dX12_isFirstOf_23 : decode cX12_isFirstOf 23 = .ok (.ifCond .eq 7, 3) := by decide +kernel
theorem dX12_isFirstOf_26 : decode cX12_isFirstOf 26 = .ok (.iconst 1, 1) := by decide +kernel
theorem dX12_isFirstOf_27 : decode cX12_isFirstOf 27 = .ok (.goto 4, 3) := by decide +kernel
theorem dX12_isFirstOf_30 : decode cX12_isFirstOf 30 = .ok (.iconst 0, 1) := by decide +kernel
theorem dX12_isFirstOf_31 : decode cX12_isFirstOf 31 = .ok (.ireturn, 1) := by decide +kernel
theorem dX12_draws_0 : decode cX12_draws 0 = .ok (.aload_n 0, 1) := by decide +kernel
theorem dX12_draws_1 : decode cX12_draws 1 = .ok (.iconst 0, 1) := by decide +kernel
theorem dX12_draws_2 : decode cX12_draws 2 = .ok (.putfield 124, 3) := by decide +kernel
theorem dX12_draws_5 : decode cX12_draws 5 = .ok (.aload_n 0, 1) := by decide +kernel
theorem dX12_draws_6 : decode cX12_draws 6 = .ok (.iload_n 1, 1) := by decide +kernel
theorem dX12_draws_7 : decode cX12_draws 7 = .ok (.invokevirtual 315, 3) := by decide +kernel
theorem dX12_draws_10 : decode cX12_draws 10 = .ok (.ifCond .eq 17, 3) := by decide +kernel
theorem dX12_draws_13 : decode cX12_draws 13 = .ok (.iload_n 2, 1) := by decide +kernel
theorem dX12_draws_14 : decode cX12_draws 14 = .ok (.ifCond .lt 13, 3) := by decide +kernel
theorem dX12_draws_17 : decode cX12_draws 17 = .ok (.iload_n 3, 1) := by decide +kernel
theorem dX12_draws_18 : decode cX12_draws 18 = .ok (.iconst 1, 1) := by decide +kernel
theorem dX12_draws_19 : decode cX12_draws 19 = .ok (.bipush 99, 2) := by decide +kernel
theorem dX12_draws_21 : decode cX12_draws 21 = .ok (.invokestatic 324, 3) := by decide +kernel
theorem dX12_draws_24 : decode cX12_draws 24 = .ok (.ifCond .ne 5, 3) := by decide +kernel
theorem dX12_draws_27 : decode cX12_draws 27 = .ok (.iconst (-1), 1) := by decide +kernel
theorem dX12_draws_28 : decode cX12_draws 28 = .ok (.ireturn, 1) := by decide +kernel
theorem dX12_draws_29 : decode cX12_draws 29 = .ok (.iconst 0, 1) := by decide +kernel
theorem dX12_draws_30 : decode cX12_draws 30 = .ok (.istore 4, 2) := by decide +kernel
theorem dX12_draws_32 : decode cX12_draws 32 = .ok (.iconst 0, 1) := by decide +kernel
theorem dX12_draws_33 : decode cX12_draws 33 = .ok (.istore 5, 2) := by decide +kernel
theorem dX12_draws_35 : decode cX12_draws 35 = .ok (.iload 5, 2) := by decide +kernel
theorem dX12_draws_37 : decode cX12_draws 37 = .ok (.aload_n 0, 1) := by decide +kernel
theorem dX12_draws_38 : decode cX12_draws 38 = .ok (.getfield 198, 3) := by decide +kernel
theorem dX12_draws_41 : decode cX12_draws 41 = .ok (.if_icmp .ge 38, 3) := by decide +kernel
theorem dX12_draws_44 : decode cX12_draws 44 = .ok (.iload 4, 2) := by decide +kernel
theorem dX12_draws_46 : decode cX12_draws 46 = .ok (.aload_n 0, 1) := by decide +kernel
theorem dX12_draws_47 : decode cX12_draws 47 = .ok (.iload 5, 2) := by decide +kernel
theorem dX12_draws_49 : decode cX12_draws 49 = .ok (.iload_n 1, 1) := by decide +kernel
theorem dX12_draws_50 : decode cX12_draws 50 = .ok (.invokevirtual 466, 3) := by decide +kernel
theorem dX12_draws_53 : decode cX12_draws 53 = .ok (.ifCond .eq 16, 3) := by decide +kernel
theorem dX12_draws_56 : decode cX12_draws 56 = .ok (.aload_n 0, 1) := by decide +kernel
theorem dX12_draws_57 : decode cX12_draws 57 = .ok (.iload 5, 2) := by decide +kernel
theorem dX12_draws_59 : decode cX12_draws 59 = .ok (.invokevirtual 343, 3) := by decide +kernel
theorem dX12_draws_62 : decode cX12_draws 62 = .ok (.ifCond .eq 7, 3) := by decide +kernel
theorem dX12_draws_65 : decode cX12_draws 65 = .ok (.iconst 1, 1) := by decide +kernel
theorem dX12_draws_66 : decode cX12_draws 66 = .ok (.goto 4, 3) := by decide +kernel
theorem dX12_draws_69 : decode cX12_draws 69 = .ok (.iconst 0, 1) := by decide +kernel
theorem dX12_draws_70 : decode cX12_draws 70 = .ok (.iadd, 1) := by decide +kernel
theorem dX12_draws_71 : decode cX12_draws 71 = .ok (.istore 4, 2) := by decide +kernel
theorem dX12_draws_73 : decode cX12_draws 73 = .ok (.iinc 5 1, 3) := by decide +kernel
theorem dX12_draws_76 : decode cX12_draws 76 = .ok (.goto (-41), 3) := by decide +kernel
theorem dX12_draws_79 : decode cX12_draws 79 = .ok (.aload_n 0, 1) := by decide +kernel
theorem dX12_draws_80 : decode cX12_draws 80 = .ok (.iload_n 2, 1) := by decide +kernel
theorem dX12_draws_81 : decode cX12_draws 81 = .ok (.i2l, 1) := by decide +kernel
theorem dX12_draws_82 : decode cX12_draws 82 = .ok (.putfield 455, 3) := by decide +kernel
theorem dX12_draws_85 : decode cX12_draws 85 = .ok (.iconst 0, 1) := by decide +kernel
theorem dX12_draws_86 : decode cX12_draws 86 = .ok (.istore 5, 2) := by decide +kernel
theorem dX12_draws_88 : decode cX12_draws 88 = .ok (.iconst 0, 1) := by decide +kernel
theorem dX12_draws_89 : decode cX12_draws 89 = .ok (.istore 6, 2) := by decide +kernel
theorem dX12_draws_91 : decode cX12_draws 91 = .ok (.iload 6, 2) := by decide +kernel
theorem dX12_draws_93 : decode cX12_draws 93 = .ok (.iload_n 3, 1) := by decide +kernel
theorem dX12_draws_94 : decode cX12_draws 94 = .ok (.if_icmp .ge 138, 3) := by decide +kernel
theorem dX12_draws_97 : decode cX12_draws 97 = .ok (.iconst 0, 1) := by decide +kernel
theorem dX12_draws_98 : decode cX12_draws 98 = .ok (.istore 7, 2) := by decide +kernel
theorem dX12_draws_100 : decode cX12_draws 100 = .ok (.iconst 0, 1) := by decide +kernel
theorem dX12_draws_101 : decode cX12_draws 101 = .ok (.istore 8, 2) := by decide +kernel
theorem dX12_draws_103 : decode cX12_draws 103 = .ok (.iload 8, 2) := by decide +kernel
theorem dX12_draws_105 : decode cX12_draws 105 = .ok (.aload_n 0, 1) := by decide +kernel
theorem dX12_draws_106 : decode cX12_draws 106 = .ok (.getfield 198, 3) := by decide +kernel
theorem dX12_draws_109 : decode cX12_draws 109 = .ok (.if_icmp .ge 100, 3) := by decide +kernel
theorem dX12_draws_112 : decode cX12_draws 112 = .ok (.aload_n 0, 1) := by decide +kernel
theorem dX12_draws_113 : decode cX12_draws 113 = .ok (.iload 8, 2) := by decide +kernel
theorem dX12_draws_115 : decode cX12_draws 115 = .ok (.iload_n 1, 1) := by decide +kernel
theorem dX12_draws_116 : decode cX12_draws 116 = .ok (.invokevirtual 466, 3) := by decide +kernel
theorem dX12_draws_119 : decode cX12_draws 119 = .ok (.ifCond .ne 6, 3) := by decide +kernel
theorem dX12_draws_122 : decode cX12_draws 122 = .ok (.goto 81, 3) := by decide +kernel
theorem dX12_draws_125 : decode cX12_draws 125 = .ok (.aload_n 0, 1) := by decide +kernel
theorem dX12_draws_126 : decode cX12_draws 126 = .ok (.iload 8, 2) := by decide +kernel
theorem dX12_draws_128 : decode cX12_draws 128 = .ok (.invokevirtual 469, 3) := by decide +kernel
theorem dX12_draws_131 : decode cX12_draws 131 = .ok (.istore 9, 2) := by decide +kernel
theorem dX12_draws_133 : decode cX12_draws 133 = .ok (.iload 9, 2) := by decide +kernel
theorem dX12_draws_135 : decode cX12_draws 135 = .ok (.ifCond .lt 23, 3) := by decide +kernel
theorem dX12_draws_138 : decode cX12_draws 138 = .ok (.aload_n 0, 1) := by decide +kernel
theorem dX12_draws_139 : decode cX12_draws 139 = .ok (.bipush 100, 2) := by decide +kernel
theorem dX12_draws_141 : decode cX12_draws 141 = .ok (.invokevirtual 472, 3) := by decide +kernel
theorem dX12_draws_144 : decode cX12_draws 144 = .ok (.aload_n 0, 1) := by decide +kernel
theorem dX12_draws_145 : decode cX12_draws 145 = .ok (.iload 8, 2) := by decide +kernel
theorem dX12_draws_147 : decode cX12_draws 147 = .ok (.invokevirtual 452, 3) := by decide +kernel
theorem dX12_draws_150 : decode cX12_draws 150 = .ok (.if_icmp .ge 8, 3) := by decide +kernel
theorem dX12_draws_153 : decode cX12_draws 153 = .ok (.iload 9, 2) := by decide +kernel
theorem dX12_draws_155 : decode cX12_draws 155 = .ok (.goto 19, 3) := by decide +kernel
theorem dX12_draws_158 : decode cX12_draws 158 = .ok (.aload_n 0, 1) := by decide +kernel
theorem dX12_draws_159 : decode cX12_draws 159 = .ok (.aload_n 0, 1) := by decide +kernel
theorem dX12_draws_160 : decode cX12_draws 160 = .ok (.getfield 23, 3) := by decide +kernel
theorem dX12_draws_163 : decode cX12_draws 163 = .ok (.aload_n 0, 1) := by decide +kernel
theorem dX12_draws_164 : decode cX12_draws 164 = .ok (.getfield 60, 3) := by decide +kernel
theorem dX12_draws_167 : decode cX12_draws 167 = .ok (.iload 8, 2) := by decide +kernel
theorem dX12_draws_169 : decode cX12_draws 169 = .ok (.iaload, 1) := by decide +kernel
theorem dX12_draws_170 : decode cX12_draws 170 = .ok (.iaload, 1) := by decide +kernel
theorem dX12_draws_171 : decode cX12_draws 171 = .ok (.invokevirtual 472, 3) := by decide +kernel
theorem dX12_draws_174 : decode cX12_draws 174 = .ok (.istore 10, 2) := by decide +kernel
theorem dX12_draws_176 : decode cX12_draws 176 = .ok (.iload 7, 2) := by decide +kernel
theorem dX12_draws_178 : decode cX12_draws 178 = .ok (.iload 10, 2) := by decide +kernel
theorem dX12_draws_180 : decode cX12_draws 180 = .ok (.aload_n 0, 1) := by decide +kernel
theorem dX12_draws_181 : decode cX12_draws 181 = .ok (.getfield 26, 3) := by decide +kernel
theorem dX12_draws_184 : decode cX12_draws 184 = .ok (.aload_n 0, 1) := by decide +kernel
theorem dX12_draws_185 : decode cX12_draws 185 = .ok (.getfield 60, 3) := by decide +kernel
theorem dX12_draws_188 : decode cX12_draws 188 = .ok (.iload 8, 2) := by decide +kernel
theorem dX12_draws_190 : decode cX12_draws 190 = .ok (.iaload, 1) := by decide +kernel
theorem dX12_draws_191 : decode cX12_draws 191 = .ok (.iaload, 1) := by decide +kernel
theorem dX12_draws_192 : decode cX12_draws 192 = .ok (.if_icmp .ne 7, 3) := by decide +kernel
theorem dX12_draws_195 : decode cX12_draws 195 = .ok (.iconst 1, 1) := by decide +kernel
theorem dX12_draws_196 : decode cX12_draws 196 = .ok (.goto 4, 3) := by decide +kernel
theorem dX12_draws_199 : decode cX12_draws 199 = .ok (.iconst 0, 1) := by decide +kernel
theorem dX12_draws_200 : decode cX12_draws 200 = .ok (.iadd, 1) := by decide +kernel
theorem dX12_draws_201 : decode cX12_draws 201 = .ok (.istore 7, 2) := by decide +kernel
theorem dX12_draws_203 : decode cX12_draws 203 = .ok (.iinc 8 1, 3) := by decide +kernel
theorem dX12_draws_206 : decode cX12_draws 206 = .ok (.goto (-103), 3) := by decide +kernel
theorem dX12_draws_209 : decode cX12_draws 209 = .ok (.iload 5, 2) := by decide +kernel
theorem dX12_draws_211 : decode cX12_draws 211 = .ok (.iload 7, 2) := by decide +kernel
theorem dX12_draws_213 : decode cX12_draws 213 = .ok (.iload 4, 2) := by decide +kernel
theorem dX12_draws_215 : decode cX12_draws 215 = .ok (.if_icmp .lt 7, 3) := by decide +kernel
theorem dX12_draws_218 : decode cX12_draws 218 = .ok (.iconst 1, 1) := by decide +kernel
theorem dX12_draws_219 : decode cX12_draws 219 = .ok (.goto 4, 3) := by decide +kernel
theorem dX12_draws_222 : decode cX12_draws 222 = .ok (.iconst 0, 1) := by decide +kernel
theorem dX12_draws_223 : decode cX12_draws 223 = .ok (.iadd, 1) := by decide +kernel
theorem dX12_draws_224 : decode cX12_draws 224 = .ok (.istore 5, 2) := by decide +kernel
theorem dX12_draws_226 : decode cX12_draws 226 = .ok (.iinc 6 1, 3) := by decide +kernel
theorem dX12_draws_229 : decode cX12_draws 229 = .ok (.goto (-138), 3) := by decide +kernel
theorem dX12_draws_232 : decode cX12_draws 232 = .ok (.iload 5, 2) := by decide +kernel
theorem dX12_draws_234 : decode cX12_draws 234 = .ok (.ireturn, 1) := by decide +kernel
theorem dX12_isIn1_0 : decode cX12_isIn1 0 = .ok (.aload_n 0, 1) := by decide +kernel
theorem dX12_isIn1_1 : decode cX12_isIn1 1 = .ok (.iload_n 1, 1) := by decide +kernel
theorem dX12_isIn1_2 : decode cX12_isIn1 2 = .ok (.invokevirtual 318, 3) := by decide +kernel
theorem dX12_isIn1_5 : decode cX12_isIn1 5 = .ok (.ifCond .eq 29, 3) := by decide +kernel
theorem dX12_isIn1_8 : decode cX12_isIn1 8 = .ok (.aload_n 0, 1) := by decide +kernel
theorem dX12_isIn1_9 : decode cX12_isIn1 9 = .ok (.getfield 54, 3) := by decide +kernel
theorem dX12_isIn1_12 : decode cX12_isIn1 12 = .ok (.iload_n 1, 1) := by decide +kernel
theorem dX12_isIn1_13 : decode cX12_isIn1 13 = .ok (.iaload, 1) := by decide +kernel
theorem dX12_isIn1_14 : decode cX12_isIn1 14 = .ok (.iload_n 2, 1) := by decide +kernel
theorem dX12_isIn1_15 : decode cX12_isIn1 15 = .ok (.if_icmp .ne 19, 3) := by decide +kernel
theorem dX12_isIn1_18 : decode cX12_isIn1 18 = .ok (.iload_n 3, 1) := by decide +kernel
theorem dX12_isIn1_19 : decode cX12_isIn1 19 = .ok (.ifCond .eq 11, 3) := by decide +kernel
theorem dX12_isIn1_22 : decode cX12_isIn1 22 = .ok (.aload_n 0, 1) := by decide +kernel
theorem dX12_isIn1_23 : decode cX12_isIn1 23 = .ok (.iload_n 1, 1) := by decide +kernel
theorem dX12_isIn1_24 : decode cX12_isIn1 24 = .ok (.invokevirtual 410, 3) := by decide +kernel
theorem dX12_isIn1_27 : decode cX12_isIn1 27 = .ok (.ifCond .eq 7, 3) := by decide +kernel
theorem dX12_isIn1_30 : decode cX12_isIn1 30 = .ok (.iconst 1, 1) := by decide +kernel
theorem dX12_isIn1_31 : decode cX12_isIn1 31 = .ok (.goto 4, 3) := by decide +kernel
theorem dX12_isIn1_34 : decode cX12_isIn1 34 = .ok (.iconst 0, 1) := by decide +kernel
theorem dX12_isIn1_35 : decode cX12_isIn1 35 = .ok (.ireturn, 1) := by decide +kernel
theorem dX12_isFirstIn_0 : decode cX12_isFirstIn 0 = .ok (.iconst 0, 1) := by decide +kernel
theorem dX12_isFirstIn_1 : decode cX12_isFirstIn 1 = .ok (.istore 4, 2) := by decide +kernel
theorem dX12_isFirstIn_3 : decode cX12_isFirstIn 3 = .ok (.iload 4, 2) := by decide +kernel
theorem dX12_isFirstIn_5 : decode cX12_isFirstIn 5 = .ok (.iload_n 1, 1) := by decide +kernel
theorem dX12_isFirstIn_6 : decode cX12_isFirstIn 6 = .ok (.if_icmp .ge 48, 3) := by decide +kernel
theorem dX12_isFirstIn_9 : decode cX12_isFirstIn 9 = .ok (.aload_n 0, 1) := by decide +kernel
theorem dX12_isFirstIn_10 : decode cX12_isFirstIn 10 = .ok (.iload 4, 2) := by decide +kernel
theorem dX12_isFirstIn_12 : decode cX12_isFirstIn 12 = .ok (.iload_n 2, 1) := by decide +kernel
theorem dX12_isFirstIn_13 : decode cX12_isFirstIn 13 = .ok (.iload_n 3, 1) := by decide +kernel
theorem dX12_isFirstIn_14 : decode cX12_isFirstIn 14 = .ok (.invokevirtual 475, 3) := by decide +kernel
theorem dX12_isFirstIn_17 : decode cX12_isFirstIn 17 = .ok (.ifCond .eq 31, 3) := by decide +kernel
theorem dX12_isFirstIn_20 : decode cX12_isFirstIn 20 = .ok (.aload_n 0, 1) := by decide +kernel
theorem dX12_isFirstIn_21 : decode cX12_isFirstIn 21 = .ok (.getfield 50, 3) := by decide +kernel
theorem dX12_isFirstIn_24 : decode cX12_isFirstIn 24 = .ok (.iload 4, 2) := by decide +kernel
theorem dX12_isFirstIn_26 : decode cX12_isFirstIn 26 = .ok (.baload, 1) := by decide +kernel
theorem dX12_isFirstIn_27 : decode cX12_isFirstIn 27 = .ok (.ifCond .eq 21, 3) := by decide +kernel
theorem dX12_isFirstIn_30 : decode cX12_isFirstIn 30 = .ok (.aload_n 0, 1) := by decide +kernel
theorem dX12_isFirstIn_31 : decode cX12_isFirstIn 31 = .ok (.getfield 60, 3) := by decide +kernel
theorem dX12_isFirstIn_34 : decode cX12_isFirstIn 34 = .ok (.iload 4, 2) := by decide +kernel
theorem dX12_isFirstIn_36 : decode cX12_isFirstIn 36 = .ok (.iaload, 1) := by decide +kernel
theorem dX12_isFirstIn_37 : decode cX12_isFirstIn 37 = .ok (.aload_n 0, 1) := by decide +kernel
theorem dX12_isFirstIn_38 : decode cX12_isFirstIn 38 = .ok (.getfield 60, 3) := by decide +kernel
theorem dX12_isFirstIn_41 : decode cX12_isFirstIn 41 = .ok (.iload_n 1, 1) := by decide +kernel
theorem dX12_isFirstIn_42 : decode cX12_isFirstIn 42 = .ok (.iaload, 1) := by decide +kernel
theorem dX12_isFirstIn_43 : decode cX12_isFirstIn 43 = .ok (.if_icmp .ne 5, 3) := by decide +kernel
theorem dX12_isFirstIn_46 : decode cX12_isFirstIn 46 = .ok (.iconst 0, 1) := by decide +kernel
theorem dX12_isFirstIn_47 : decode cX12_isFirstIn 47 = .ok (.ireturn, 1) := by decide +kernel
theorem dX12_isFirstIn_48 : decode cX12_isFirstIn 48 = .ok (.iinc 4 1, 3) := by decide +kernel
theorem dX12_isFirstIn_51 : decode cX12_isFirstIn 51 = .ok (.goto (-48), 3) := by decide +kernel
theorem dX12_isFirstIn_54 : decode cX12_isFirstIn 54 = .ok (.iconst 1, 1) := by decide +kernel
theorem dX12_isFirstIn_55 : decode cX12_isFirstIn 55 = .ok (.ireturn, 1) := by decide +kernel
theorem dX12_namesByTalk_0 : decode cX12_namesByTalk 0 = .ok (.aload_n 0, 1) := by decide +kernel
theorem dX12_namesByTalk_1 : decode cX12_namesByTalk 1 = .ok (.iload_n 1, 1) := by decide +kernel
theorem dX12_namesByTalk_2 : decode cX12_namesByTalk 2 = .ok (.invokevirtual 444, 3) := by decide +kernel
theorem dX12_namesByTalk_5 : decode cX12_namesByTalk 5 = .ok (.iconst 0, 1) := by decide +kernel
theorem dX12_namesByTalk_6 : decode cX12_namesByTalk 6 = .ok (.istore_n 3, 1) := by decide +kernel
theorem dX12_namesByTalk_7 : decode cX12_namesByTalk 7 = .ok (.iload_n 3, 1) := by decide +kernel
theorem dX12_namesByTalk_8 : decode cX12_namesByTalk 8 = .ok (.aload_n 0, 1) := by decide +kernel
theorem dX12_namesByTalk_9 : decode cX12_namesByTalk 9 = .ok (.getfield 198, 3) := by decide +kernel
theorem dX12_namesByTalk_12 : decode cX12_namesByTalk 12 = .ok (.if_icmp .ge 126, 3) := by decide +kernel
theorem dX12_namesByTalk_15 : decode cX12_namesByTalk 15 = .ok (.aload_n 0, 1) := by decide +kernel
theorem dX12_namesByTalk_16 : decode cX12_namesByTalk 16 = .ok (.iload_n 3, 1) := by decide +kernel
theorem dX12_namesByTalk_17 : decode cX12_namesByTalk 17 = .ok (.iload_n 1, 1) := by decide +kernel
theorem dX12_namesByTalk_18 : decode cX12_namesByTalk 18 = .ok (.iload_n 2, 1) := by decide +kernel
theorem dX12_namesByTalk_19 : decode cX12_namesByTalk 19 = .ok (.invokevirtual 475, 3) := by decide +kernel
theorem dX12_namesByTalk_22 : decode cX12_namesByTalk 22 = .ok (.ifCond .ne 6, 3) := by decide +kernel
theorem dX12_namesByTalk_25 : decode cX12_namesByTalk 25 = .ok (.goto 107, 3) := by decide +kernel
theorem dX12_namesByTalk_28 : decode cX12_namesByTalk 28 = .ok (.aload_n 0, 1) := by decide +kernel
theorem dX12_namesByTalk_29 : decode cX12_namesByTalk 29 = .ok (.getfield 50, 3) := by decide +kernel
theorem dX12_namesByTalk_32 : decode cX12_namesByTalk 32 = .ok (.iload_n 3, 1) := by decide +kernel
theorem dX12_namesByTalk_33 : decode cX12_namesByTalk 33 = .ok (.baload, 1) := by decide +kernel
theorem dX12_namesByTalk_34 : decode cX12_namesByTalk 34 = .ok (.ifCond .ne 39, 3) := by decide +kernel
theorem dX12_namesByTalk_37 : decode cX12_namesByTalk 37 = .ok (.aload_n 0, 1) := by decide +kernel
theorem dX12_namesByTalk_38 : decode cX12_namesByTalk 38 = .ok (.getfield 111, 3) := by decide +kernel
theorem dX12_namesByTalk_41 : decode cX12_namesByTalk 41 = .ok (.iconst 3, 1) := by decide +kernel
theorem dX12_namesByTalk_42 : decode cX12_namesByTalk 42 = .ok (.dup2, 1) := by decide +kernel
theorem dX12_namesByTalk_43 : decode cX12_namesByTalk 43 = .ok (.laload, 1) := by decide +kernel
theorem dX12_namesByTalk_44 : decode cX12_namesByTalk 44 = .ok (.lconst 1, 1) := by decide +kernel
theorem dX12_namesByTalk_45 : decode cX12_namesByTalk 45 = .ok (.ladd, 1) := by decide +kernel
theorem dX12_namesByTalk_46 : decode cX12_namesByTalk 46 = .ok (.lastore, 1) := by decide +kernel
theorem dX12_namesByTalk_47 : decode cX12_namesByTalk 47 = .ok (.aload_n 0, 1) := by decide +kernel
theorem dX12_namesByTalk_48 : decode cX12_namesByTalk 48 = .ok (.getfield 111, 3) := by decide +kernel
theorem dX12_namesByTalk_51 : decode cX12_namesByTalk 51 = .ok (.iconst 4, 1) := by decide +kernel
theorem dX12_namesByTalk_52 : decode cX12_namesByTalk 52 = .ok (.dup2, 1) := by decide +kernel
theorem dX12_namesByTalk_53 : decode cX12_namesByTalk 53 = .ok (.laload, 1) := by decide +kernel
theorem dX12_namesByTalk_54 : decode cX12_namesByTalk 54 = .ok (.aload_n 0, 1) := by decide +kernel
theorem dX12_namesByTalk_55 : decode cX12_namesByTalk 55 = .ok (.getfield 63, 3) := by decide +kernel
theorem dX12_namesByTalk_58 : decode cX12_namesByTalk 58 = .ok (.iload_n 3, 1) := by decide +kernel
theorem dX12_namesByTalk_59 : decode cX12_namesByTalk 59 = .ok (.iaload, 1) := by decide +kernel
theorem dX12_namesByTalk_60 : decode cX12_namesByTalk 60 = .ok (.ifCond .lt 7, 3) := by decide +kernel
theorem dX12_namesByTalk_63 : decode cX12_namesByTalk 63 = .ok (.lconst 1, 1) := by decide +kernel
theorem dX12_namesByTalk_64 : decode cX12_namesByTalk 64 = .ok (.goto 4, 3) := by decide +kernel
theorem dX12_namesByTalk_67 : decode cX12_namesByTalk 67 = .ok (.lconst 0, 1) := by decide +kernel
theorem dX12_namesByTalk_68 : decode cX12_namesByTalk 68 = .ok (.ladd, 1) := by decide +kernel
theorem dX12_namesByTalk_69 : decode cX12_namesByTalk 69 = .ok (.lastore, 1) := by decide +kernel
theorem dX12_namesByTalk_70 : decode cX12_namesByTalk 70 = .ok (.goto 62, 3) := by decide +kernel
theorem dX12_namesByTalk_73 : decode cX12_namesByTalk 73 = .ok (.aload_n 0, 1) := by decide +kernel
theorem dX12_namesByTalk_74 : decode cX12_namesByTalk 74 = .ok (.iload_n 3, 1) := by decide +kernel
theorem dX12_namesByTalk_75 : decode cX12_namesByTalk 75 = .ok (.iload_n 1, 1) := by decide +kernel
theorem dX12_namesByTalk_76 : decode cX12_namesByTalk 76 = .ok (.iload_n 2, 1) := by decide +kernel
theorem dX12_namesByTalk_77 : decode cX12_namesByTalk 77 = .ok (.invokevirtual 479, 3) := by decide +kernel
theorem dX12_namesByTalk_80 : decode cX12_namesByTalk 80 = .ok (.ifCond .eq 52, 3) := by decide +kernel
theorem dX12_namesByTalk_83 : decode cX12_namesByTalk 83 = .ok (.aload_n 0, 1) := by decide +kernel
theorem dX12_namesByTalk_84 : decode cX12_namesByTalk 84 = .ok (.getfield 111, 3) := by decide +kernel
theorem dX12_namesByTalk_87 : decode cX12_namesByTalk 87 = .ok (.aload_n 0, 1) := by decide +kernel
theorem dX12_namesByTalk_88 : decode cX12_namesByTalk 88 = .ok (.iload_n 3, 1) := by decide +kernel
theorem dX12_namesByTalk_89 : decode cX12_namesByTalk 89 = .ok (.invokevirtual 343, 3) := by decide +kernel
theorem dX12_namesByTalk_92 : decode cX12_namesByTalk 92 = .ok (.ifCond .eq 7, 3) := by decide +kernel
theorem dX12_namesByTalk_95 : decode cX12_namesByTalk 95 = .ok (.iconst 5, 1) := by decide +kernel
theorem dX12_namesByTalk_96 : decode cX12_namesByTalk 96 = .ok (.goto 5, 3) := by decide +kernel
theorem dX12_namesByTalk_99 : decode cX12_namesByTalk 99 = .ok (.bipush 6, 2) := by decide +kernel
theorem dX12_namesByTalk_101 : decode cX12_namesByTalk 101 = .ok (.dup2, 1) := by decide +kernel
theorem dX12_namesByTalk_102 : decode cX12_namesByTalk 102 = .ok (.laload, 1) := by decide +kernel
theorem dX12_namesByTalk_103 : decode cX12_namesByTalk 103 = .ok (.lconst 1, 1) := by decide +kernel
theorem dX12_namesByTalk_104 : decode cX12_namesByTalk 104 = .ok (.ladd, 1) := by decide +kernel
theorem dX12_namesByTalk_105 : decode cX12_namesByTalk 105 = .ok (.lastore, 1) := by decide +kernel
theorem dX12_namesByTalk_106 : decode cX12_namesByTalk 106 = .ok (.aload_n 0, 1) := by decide +kernel
theorem dX12_namesByTalk_107 : decode cX12_namesByTalk 107 = .ok (.getfield 111, 3) := by decide +kernel
theorem dX12_namesByTalk_110 : decode cX12_namesByTalk 110 = .ok (.bipush 7, 2) := by decide +kernel
theorem dX12_namesByTalk_112 : decode cX12_namesByTalk 112 = .ok (.dup2, 1) := by decide +kernel
theorem dX12_namesByTalk_113 : decode cX12_namesByTalk 113 = .ok (.laload, 1) := by decide +kernel
theorem dX12_namesByTalk_114 : decode cX12_namesByTalk 114 = .ok (.aload_n 0, 1) := by decide +kernel
theorem dX12_namesByTalk_115 : decode cX12_namesByTalk 115 = .ok (.iload_n 3, 1) := by decide +kernel
theorem dX12_namesByTalk_116 : decode cX12_namesByTalk 116 = .ok (.invokevirtual 355, 3) := by decide +kernel
theorem dX12_namesByTalk_119 : decode cX12_namesByTalk 119 = .ok (.bipush 32, 2) := by decide +kernel
theorem dX12_namesByTalk_121 : decode cX12_namesByTalk 121 = .ok (.iand, 1) := by decide +kernel
theorem dX12_namesByTalk_122 : decode cX12_namesByTalk 122 = .ok (.ifCond .eq 7, 3) := by decide +kernel
theorem dX12_namesByTalk_125 : decode cX12_namesByTalk 125 = .ok (.lconst 1, 1) := by decide +kernel
theorem dX12_namesByTalk_126 : decode cX12_namesByTalk 126 = .ok (.goto 4, 3) := by decide +kernel
theorem dX12_namesByTalk_129 : decode cX12_namesByTalk 129 = .ok (.lconst 0, 1) := by decide +kernel
theorem dX12_namesByTalk_130 : decode cX12_namesByTalk 130 = .ok (.ladd, 1) := by decide +kernel
theorem dX12_namesByTalk_131 : decode cX12_namesByTalk 131 = .ok (.lastore, 1) := by decide +kernel
theorem dX12_namesByTalk_132 : decode cX12_namesByTalk 132 = .ok (.iinc 3 1, 3) := by decide +kernel
theorem dX12_namesByTalk_135 : decode cX12_namesByTalk 135 = .ok (.goto (-128), 3) := by decide +kernel
theorem dX12_namesByTalk_138 : decode cX12_namesByTalk 138 = .ok (.return_, 1) := by decide +kernel
theorem dX12_namesByBoth_0 : decode cX12_namesByBoth 0 = .ok (.aload_n 0, 1) := by decide +kernel
theorem dX12_namesByBoth_1 : decode cX12_namesByBoth 1 = .ok (.iload_n 1, 1) := by decide +kernel
theorem dX12_namesByBoth_2 : decode cX12_namesByBoth 2 = .ok (.iconst 0, 1) := by decide +kernel
theorem dX12_namesByBoth_3 : decode cX12_namesByBoth 3 = .ok (.invokevirtual 482, 3) := by decide +kernel
theorem dX12_namesByBoth_6 : decode cX12_namesByBoth 6 = .ok (.aload_n 0, 1) := by decide +kernel
theorem dX12_namesByBoth_7 : decode cX12_namesByBoth 7 = .ok (.getfield 111, 3) := by decide +kernel
theorem dX12_namesByBoth_10 : decode cX12_namesByBoth 10 = .ok (.iconst 1, 1) := by decide +kernel
theorem dX12_namesByBoth_11 : decode cX12_namesByBoth 11 = .ok (.aload_n 0, 1) := by decide +kernel
theorem dX12_namesByBoth_12 : decode cX12_namesByBoth 12 = .ok (.getfield 44, 3) := by decide +kernel
theorem dX12_namesByBoth_15 : decode cX12_namesByBoth 15 = .ok (.iload_n 1, 1) := by decide +kernel
theorem dX12_namesByBoth_16 : decode cX12_namesByBoth 16 = .ok (.iaload, 1) := by decide +kernel
theorem dX12_namesByBoth_17 : decode cX12_namesByBoth 17 = .ok (.aload_n 0, 1) := by decide +kernel
theorem dX12_namesByBoth_18 : decode cX12_namesByBoth 18 = .ok (.getfield 41, 3) := by decide +kernel
theorem dX12_namesByBoth_21 : decode cX12_namesByBoth 21 = .ok (.iload_n 1, 1) := by decide +kernel
theorem dX12_namesByBoth_22 : decode cX12_namesByBoth 22 = .ok (.iaload, 1) := by decide +kernel
theorem dX12_namesByBoth_23 : decode cX12_namesByBoth 23 = .ok (.isub, 1) := by decide +kernel
theorem dX12_namesByBoth_24 : decode cX12_namesByBoth 24 = .ok (.i2l, 1) := by decide +kernel
theorem dX12_namesByBoth_25 : decode cX12_namesByBoth 25 = .ok (.lastore, 1) := by decide +kernel
theorem dX12_namesByBoth_26 : decode cX12_namesByBoth 26 = .ok (.aload_n 0, 1) := by decide +kernel
theorem dX12_namesByBoth_27 : decode cX12_namesByBoth 27 = .ok (.getfield 111, 3) := by decide +kernel
theorem dX12_namesByBoth_30 : decode cX12_namesByBoth 30 = .ok (.iconst 2, 1) := by decide +kernel
theorem dX12_namesByBoth_31 : decode cX12_namesByBoth 31 = .ok (.aload_n 0, 1) := by decide +kernel
theorem dX12_namesByBoth_32 : decode cX12_namesByBoth 32 = .ok (.iload_n 1, 1) := by decide +kernel
theorem dX12_namesByBoth_33 : decode cX12_namesByBoth 33 = .ok (.aload_n 0, 1) := by decide +kernel
theorem dX12_namesByBoth_34 : decode cX12_namesByBoth 34 = .ok (.getfield 44, 3) := by decide +kernel
theorem dX12_namesByBoth_37 : decode cX12_namesByBoth 37 = .ok (.iload_n 1, 1) := by decide +kernel
theorem dX12_namesByBoth_38 : decode cX12_namesByBoth 38 = .ok (.iaload, 1) := by decide +kernel
theorem dX12_namesByBoth_39 : decode cX12_namesByBoth 39 = .ok (.invokevirtual 447, 3) := by decide +kernel
theorem dX12_namesByBoth_42 : decode cX12_namesByBoth 42 = .ok (.i2l, 1) := by decide +kernel
theorem dX12_namesByBoth_43 : decode cX12_namesByBoth 43 = .ok (.lastore, 1) := by decide +kernel
theorem dX12_namesByBoth_44 : decode cX12_namesByBoth 44 = .ok (.iconst 0, 1) := by decide +kernel
theorem dX12_namesByBoth_45 : decode cX12_namesByBoth 45 = .ok (.istore_n 2, 1) := by decide +kernel
theorem dX12_namesByBoth_46 : decode cX12_namesByBoth 46 = .ok (.iload_n 2, 1) := by decide +kernel
theorem dX12_namesByBoth_47 : decode cX12_namesByBoth 47 = .ok (.aload_n 0, 1) := by decide +kernel
theorem dX12_namesByBoth_48 : decode cX12_namesByBoth 48 = .ok (.getfield 201, 3) := by decide +kernel
theorem dX12_namesByBoth_51 : decode cX12_namesByBoth 51 = .ok (.if_icmp .ge 57, 3) := by decide +kernel
theorem dX12_namesByBoth_54 : decode cX12_namesByBoth 54 = .ok (.aload_n 0, 1) := by decide +kernel
theorem dX12_namesByBoth_55 : decode cX12_namesByBoth 55 = .ok (.getfield 66, 3) := by decide +kernel
theorem dX12_namesByBoth_58 : decode cX12_namesByBoth 58 = .ok (.iload_n 2, 1) := by decide +kernel
theorem dX12_namesByBoth_59 : decode cX12_namesByBoth 59 = .ok (.iaload, 1) := by decide +kernel
theorem dX12_namesByBoth_60 : decode cX12_namesByBoth 60 = .ok (.iload_n 1, 1) := by decide +kernel
theorem dX12_namesByBoth_61 : decode cX12_namesByBoth 61 = .ok (.if_icmp .eq 6, 3) := by decide +kernel
theorem dX12_namesByBoth_64 : decode cX12_namesByBoth 64 = .ok (.goto 38, 3) := by decide +kernel
theorem dX12_namesByBoth_67 : decode cX12_namesByBoth 67 = .ok (.aload_n 0, 1) := by decide +kernel
theorem dX12_namesByBoth_68 : decode cX12_namesByBoth 68 = .ok (.getfield 111, 3) := by decide +kernel
theorem dX12_namesByBoth_71 : decode cX12_namesByBoth 71 = .ok (.bipush 8, 2) := by decide +kernel
theorem dX12_namesByBoth_73 : decode cX12_namesByBoth 73 = .ok (.dup2, 1) := by decide +kernel
theorem dX12_namesByBoth_74 : decode cX12_namesByBoth 74 = .ok (.laload, 1) := by decide +kernel
theorem dX12_namesByBoth_75 : decode cX12_namesByBoth 75 = .ok (.aload_n 0, 1) := by decide +kernel
theorem dX12_namesByBoth_76 : decode cX12_namesByBoth 76 = .ok (.iload_n 2, 1) := by decide +kernel
theorem dX12_namesByBoth_77 : decode cX12_namesByBoth 77 = .ok (.invokevirtual 389, 3) := by decide +kernel
theorem dX12_namesByBoth_80 : decode cX12_namesByBoth 80 = .ok (.iconst 1, 1) := by decide +kernel
theorem dX12_namesByBoth_81 : decode cX12_namesByBoth 81 = .ok (.if_icmp .le 7, 3) := by decide +kernel
theorem dX12_namesByBoth_84 : decode cX12_namesByBoth 84 = .ok (.lconst 1, 1) := by decide +kernel
theorem dX12_namesByBoth_85 : decode cX12_namesByBoth 85 = .ok (.goto 4, 3) := by decide +kernel
theorem dX12_namesByBoth_88 : decode cX12_namesByBoth 88 = .ok (.lconst 0, 1) := by decide +kernel
theorem dX12_namesByBoth_89 : decode cX12_namesByBoth 89 = .ok (.ladd, 1) := by decide +kernel
theorem dX12_namesByBoth_90 : decode cX12_namesByBoth 90 = .ok (.lastore, 1) := by decide +kernel
theorem dX12_namesByBoth_91 : decode cX12_namesByBoth 91 = .ok (.aload_n 0, 1) := by decide +kernel
theorem dX12_namesByBoth_92 : decode cX12_namesByBoth 92 = .ok (.getfield 111, 3) := by decide +kernel
theorem dX12_namesByBoth_95 : decode cX12_namesByBoth 95 = .ok (.bipush 9, 2) := by decide +kernel
theorem dX12_namesByBoth_97 : decode cX12_namesByBoth 97 = .ok (.dup2, 1) := by decide +kernel
theorem dX12_namesByBoth_98 : decode cX12_namesByBoth 98 = .ok (.laload, 1) := by decide +kernel
theorem dX12_namesByBoth_99 : decode cX12_namesByBoth 99 = .ok (.lconst 1, 1) := by decide +kernel
theorem dX12_namesByBoth_100 : decode cX12_namesByBoth 100 = .ok (.ladd, 1) := by decide +kernel
theorem dX12_namesByBoth_101 : decode cX12_namesByBoth 101 = .ok (.lastore, 1) := by decide +kernel
theorem dX12_namesByBoth_102 : decode cX12_namesByBoth 102 = .ok (.iinc 2 1, 3) := by decide +kernel
theorem dX12_namesByBoth_105 : decode cX12_namesByBoth 105 = .ok (.goto (-59), 3) := by decide +kernel
theorem dX12_namesByBoth_108 : decode cX12_namesByBoth 108 = .ok (.return_, 1) := by decide +kernel
theorem dX12_namesByPage_0 : decode cX12_namesByPage 0 = .ok (.aload_n 0, 1) := by decide +kernel
theorem dX12_namesByPage_1 : decode cX12_namesByPage 1 = .ok (.iload_n 1, 1) := by decide +kernel
theorem dX12_namesByPage_2 : decode cX12_namesByPage 2 = .ok (.invokevirtual 444, 3) := by decide +kernel
theorem dX12_namesByPage_5 : decode cX12_namesByPage 5 = .ok (.iconst 0, 1) := by decide +kernel
theorem dX12_namesByPage_6 : decode cX12_namesByPage 6 = .ok (.istore_n 2, 1) := by decide +kernel
theorem dX12_namesByPage_7 : decode cX12_namesByPage 7 = .ok (.iload_n 2, 1) := by decide +kernel
theorem dX12_namesByPage_8 : decode cX12_namesByPage 8 = .ok (.aload_n 0, 1) := by decide +kernel
theorem dX12_namesByPage_9 : decode cX12_namesByPage 9 = .ok (.getfield 201, 3) := by decide +kernel
theorem dX12_namesByPage_12 : decode cX12_namesByPage 12 = .ok (.if_icmp .ge 76, 3) := by decide +kernel
theorem dX12_namesByPage_15 : decode cX12_namesByPage 15 = .ok (.aload_n 0, 1) := by decide +kernel
theorem dX12_namesByPage_16 : decode cX12_namesByPage 16 = .ok (.getfield 66, 3) := by decide +kernel
theorem dX12_namesByPage_19 : decode cX12_namesByPage 19 = .ok (.iload_n 2, 1) := by decide +kernel
theorem dX12_namesByPage_20 : decode cX12_namesByPage 20 = .ok (.iaload, 1) := by decide +kernel
theorem dX12_namesByPage_21 : decode cX12_namesByPage 21 = .ok (.iload_n 1, 1) := by decide +kernel
theorem dX12_namesByPage_22 : decode cX12_namesByPage 22 = .ok (.if_icmp .eq 6, 3) := by decide +kernel
theorem dX12_namesByPage_25 : decode cX12_namesByPage 25 = .ok (.goto 57, 3) := by decide +kernel
theorem dX12_namesByPage_28 : decode cX12_namesByPage 28 = .ok (.aload_n 0, 1) := by decide +kernel
theorem dX12_namesByPage_29 : decode cX12_namesByPage 29 = .ok (.getfield 111, 3) := by decide +kernel
theorem dX12_namesByPage_32 : decode cX12_namesByPage 32 = .ok (.bipush 9, 2) := by decide +kernel
theorem dX12_namesByPage_34 : decode cX12_namesByPage 34 = .ok (.dup2, 1) := by decide +kernel
theorem dX12_namesByPage_35 : decode cX12_namesByPage 35 = .ok (.laload, 1) := by decide +kernel
theorem dX12_namesByPage_36 : decode cX12_namesByPage 36 = .ok (.lconst 1, 1) := by decide +kernel
theorem dX12_namesByPage_37 : decode cX12_namesByPage 37 = .ok (.ladd, 1) := by decide +kernel
theorem dX12_namesByPage_38 : decode cX12_namesByPage 38 = .ok (.lastore, 1) := by decide +kernel
theorem dX12_namesByPage_39 : decode cX12_namesByPage 39 = .ok (.aload_n 0, 1) := by decide +kernel
theorem dX12_namesByPage_40 : decode cX12_namesByPage 40 = .ok (.iload_n 2, 1) := by decide +kernel
theorem dX12_namesByPage_41 : decode cX12_namesByPage 41 = .ok (.invokevirtual 376, 3) := by decide +kernel
theorem dX12_namesByPage_44 : decode cX12_namesByPage 44 = .ok (.ifCond .eq 38, 3) := by decide +kernel
theorem dX12_namesByPage_47 : decode cX12_namesByPage 47 = .ok (.aload_n 0, 1) := by decide +kernel
theorem dX12_namesByPage_48 : decode cX12_namesByPage 48 = .ok (.getfield 111, 3) := by decide +kernel
theorem dX12_namesByPage_51 : decode cX12_namesByPage 51 = .ok (.aload_n 0, 1) := by decide +kernel
theorem dX12_namesByPage_52 : decode cX12_namesByPage 52 = .ok (.getfield 72, 3) := by decide +kernel
theorem dX12_namesByPage_55 : decode cX12_namesByPage 55 = .ok (.iload_n 2, 1) := by decide +kernel
theorem dX12_namesByPage_56 : decode cX12_namesByPage 56 = .ok (.iaload, 1) := by decide +kernel
theorem dX12_namesByPage_57 : decode cX12_namesByPage 57 = .ok (.aload_n 0, 1) := by decide +kernel
theorem dX12_namesByPage_58 : decode cX12_namesByPage 58 = .ok (.getfield 26, 3) := by decide +kernel
theorem dX12_namesByPage_61 : decode cX12_namesByPage 61 = .ok (.aload_n 0, 1) := by decide +kernel
theorem dX12_namesByPage_62 : decode cX12_namesByPage 62 = .ok (.getfield 69, 3) := by decide +kernel
theorem dX12_namesByPage_65 : decode cX12_namesByPage 65 = .ok (.iload_n 2, 1) := by decide +kernel
theorem dX12_namesByPage_66 : decode cX12_namesByPage 66 = .ok (.iaload, 1) := by decide +kernel
theorem dX12_namesByPage_67 : decode cX12_namesByPage 67 = .ok (.iaload, 1) := by decide +kernel
theorem dX12_namesByPage_68 : decode cX12_namesByPage 68 = .ok (.if_icmp .ne 7, 3) := by decide +kernel
theorem dX12_namesByPage_71 : decode cX12_namesByPage 71 = .ok (.iconst 5, 1) := by decide +kernel
theorem dX12_namesByPage_72 : decode cX12_namesByPage 72 = .ok (.goto 5, 3) := by decide +kernel
theorem dX12_namesByPage_75 : decode cX12_namesByPage 75 = .ok (.bipush 6, 2) := by decide +kernel
theorem dX12_namesByPage_77 : decode cX12_namesByPage 77 = .ok (.dup2, 1) := by decide +kernel
theorem dX12_namesByPage_78 : decode cX12_namesByPage 78 = .ok (.laload, 1) := by decide +kernel
theorem dX12_namesByPage_79 : decode cX12_namesByPage 79 = .ok (.lconst 1, 1) := by decide +kernel
theorem dX12_namesByPage_80 : decode cX12_namesByPage 80 = .ok (.ladd, 1) := by decide +kernel
theorem dX12_namesByPage_81 : decode cX12_namesByPage 81 = .ok (.lastore, 1) := by decide +kernel
theorem dX12_namesByPage_82 : decode cX12_namesByPage 82 = .ok (.iinc 2 1, 3) := by decide +kernel
theorem dX12_namesByPage_85 : decode cX12_namesByPage 85 = .ok (.goto (-78), 3) := by decide +kernel
theorem dX12_namesByPage_88 : decode cX12_namesByPage 88 = .ok (.return_, 1) := by decide +kernel
theorem dX12_finds_0 : decode cX12_finds 0 = .ok (.iload_n 2, 1) := by decide +kernel
theorem dX12_finds_1 : decode cX12_finds 1 = .ok (.ifCond .ne 11, 3) := by decide +kernel
theorem dX12_finds_4 : decode cX12_finds 4 = .ok (.aload_n 0, 1) := by decide +kernel
theorem dX12_finds_5 : decode cX12_finds 5 = .ok (.iload_n 1, 1) := by decide +kernel
theorem dX12_finds_6 : decode cX12_finds 6 = .ok (.invokevirtual 485, 3) := by decide +kernel
theorem dX12_finds_9 : decode cX12_finds 9 = .ok (.goto 55, 3) := by decide +kernel
theorem dX12_finds_12 : decode cX12_finds 12 = .ok (.iload_n 2, 1) := by decide +kernel
theorem dX12_finds_13 : decode cX12_finds 13 = .ok (.iconst 1, 1) := by decide +kernel
theorem dX12_finds_14 : decode cX12_finds 14 = .ok (.if_icmp .ne 45, 3) := by decide +kernel
theorem dX12_finds_17 : decode cX12_finds 17 = .ok (.aload_n 0, 1) := by decide +kernel
theorem dX12_finds_18 : decode cX12_finds 18 = .ok (.iload_n 1, 1) := by decide +kernel
theorem dX12_finds_19 : decode cX12_finds 19 = .ok (.iconst 1, 1) := by decide +kernel
theorem dX12_finds_20 : decode cX12_finds 20 = .ok (.invokevirtual 482, 3) := by decide +kernel
theorem dX12_finds_23 : decode cX12_finds 23 = .ok (.aload_n 0, 1) := by decide +kernel
theorem dX12_finds_24 : decode cX12_finds 24 = .ok (.getfield 111, 3) := by decide +kernel
theorem dX12_finds_27 : decode cX12_finds 27 = .ok (.iconst 1, 1) := by decide +kernel
theorem dX12_finds_28 : decode cX12_finds 28 = .ok (.aload_n 0, 1) := by decide +kernel
theorem dX12_finds_29 : decode cX12_finds 29 = .ok (.getfield 47, 3) := by decide +kernel
theorem dX12_finds_32 : decode cX12_finds 32 = .ok (.iload_n 1, 1) := by decide +kernel
theorem dX12_finds_33 : decode cX12_finds 33 = .ok (.iaload, 1) := by decide +kernel
theorem dX12_finds_34 : decode cX12_finds 34 = .ok (.ifCond .lt 20, 3) := by decide +kernel
theorem dX12_finds_37 : decode cX12_finds 37 = .ok (.aload_n 0, 1) := by decide +kernel
theorem dX12_finds_38 : decode cX12_finds 38 = .ok (.getfield 44, 3) := by decide +kernel
theorem dX12_finds_41 : decode cX12_finds 41 = .ok (.iload_n 1, 1) := by decide +kernel
theorem dX12_finds_42 : decode cX12_finds 42 = .ok (.iaload, 1) := by decide +kernel
theorem dX12_finds_43 : decode cX12_finds 43 = .ok (.aload_n 0, 1) := by decide +kernel
theorem dX12_finds_44 : decode cX12_finds 44 = .ok (.getfield 47, 3) := by decide +kernel
theorem dX12_finds_47 : decode cX12_finds 47 = .ok (.iload_n 1, 1) := by decide +kernel
theorem dX12_finds_48 : decode cX12_finds 48 = .ok (.iaload, 1) := by decide +kernel
theorem dX12_finds_49 : decode cX12_finds 49 = .ok (.isub, 1) := by decide +kernel
theorem dX12_finds_50 : decode cX12_finds 50 = .ok (.i2l, 1) := by decide +kernel
theorem dX12_finds_51 : decode cX12_finds 51 = .ok (.goto 4, 3) := by decide +kernel
theorem dX12_finds_54 : decode cX12_finds 54 = .ok (.lconst 0, 1) := by decide +kernel
theorem dX12_finds_55 : decode cX12_finds 55 = .ok (.lastore, 1) := by decide +kernel
theorem dX12_finds_56 : decode cX12_finds 56 = .ok (.goto 8, 3) := by decide +kernel
theorem dX12_finds_59 : decode cX12_finds 59 = .ok (.aload_n 0, 1) := by decide +kernel
theorem dX12_finds_60 : decode cX12_finds 60 = .ok (.iload_n 1, 1) := by decide +kernel
theorem dX12_finds_61 : decode cX12_finds 61 = .ok (.invokevirtual 488, 3) := by decide +kernel
theorem dX12_finds_64 : decode cX12_finds 64 = .ok (.aload_n 0, 1) := by decide +kernel
theorem dX12_finds_65 : decode cX12_finds 65 = .ok (.iconst 2, 1) := by decide +kernel
theorem dX12_finds_66 : decode cX12_finds 66 = .ok (.invokevirtual 491, 3) := by decide +kernel
theorem dX12_finds_69 : decode cX12_finds 69 = .ok (.ireturn, 1) := by decide +kernel
theorem dX12_isBarred_0 : decode cX12_isBarred 0 = .ok (.aload_n 0, 1) := by decide +kernel
theorem dX12_isBarred_1 : decode cX12_isBarred 1 = .ok (.iload_n 1, 1) := by decide +kernel
theorem dX12_isBarred_2 : decode cX12_isBarred 2 = .ok (.invokevirtual 488, 3) := by decide +kernel
theorem dX12_isBarred_5 : decode cX12_isBarred 5 = .ok (.aload_n 0, 1) := by decide +kernel
theorem dX12_isBarred_6 : decode cX12_isBarred 6 = .ok (.iconst 1, 1) := by decide +kernel
theorem dX12_isBarred_7 : decode cX12_isBarred 7 = .ok (.invokevirtual 491, 3) := by decide +kernel
theorem dX12_isBarred_10 : decode cX12_isBarred 10 = .ok (.ireturn, 1) := by decide +kernel
theorem dX12_barred_0 : decode cX12_barred 0 = .ok (.aload_n 0, 1) := by decide +kernel
theorem dX12_barred_1 : decode cX12_barred 1 = .ok (.iconst 0, 1) := by decide +kernel
theorem dX12_barred_2 : decode cX12_barred 2 = .ok (.putfield 124, 3) := by decide +kernel
theorem dX12_barred_5 : decode cX12_barred 5 = .ok (.aload_n 0, 1) := by decide +kernel
theorem dX12_barred_6 : decode cX12_barred 6 = .ok (.iload_n 1, 1) := by decide +kernel
theorem dX12_barred_7 : decode cX12_barred 7 = .ok (.invokevirtual 315, 3) := by decide +kernel
theorem dX12_barred_10 : decode cX12_barred 10 = .ok (.ifCond .ne 7, 3) := by decide +kernel
theorem dX12_barred_13 : decode cX12_barred 13 = .ok (.iconst (-1), 1) := by decide +kernel
theorem dX12_barred_14 : decode cX12_barred 14 = .ok (.goto 16, 3) := by decide +kernel
theorem dX12_barred_17 : decode cX12_barred 17 = .ok (.aload_n 0, 1) := by decide +kernel
theorem dX12_barred_18 : decode cX12_barred 18 = .ok (.iload_n 1, 1) := by decide +kernel
theorem dX12_barred_19 : decode cX12_barred 19 = .ok (.invokevirtual 494, 3) := by decide +kernel
theorem dX12_barred_22 : decode cX12_barred 22 = .ok (.ifCond .eq 7, 3) := by decide +kernel
theorem dX12_barred_25 : decode cX12_barred 25 = .ok (.iconst 1, 1) := by decide +kernel
theorem dX12_barred_26 : decode cX12_barred 26 = .ok (.goto 4, 3) := by decide +kernel
theorem dX12_barred_29 : decode cX12_barred 29 = .ok (.iconst 0, 1) := by decide +kernel
theorem dX12_barred_30 : decode cX12_barred 30 = .ok (.ireturn, 1) := by decide +kernel
theorem dX12_jury_0 : decode cX12_jury 0 = .ok (.aload_n 0, 1) := by decide +kernel
theorem dX12_jury_1 : decode cX12_jury 1 = .ok (.iconst 0, 1) := by decide +kernel
theorem dX12_jury_2 : decode cX12_jury 2 = .ok (.putfield 124, 3) := by decide +kernel
theorem dX12_jury_5 : decode cX12_jury 5 = .ok (.aload_n 0, 1) := by decide +kernel
theorem dX12_jury_6 : decode cX12_jury 6 = .ok (.iload_n 1, 1) := by decide +kernel
theorem dX12_jury_7 : decode cX12_jury 7 = .ok (.invokevirtual 315, 3) := by decide +kernel
theorem dX12_jury_10 : decode cX12_jury 10 = .ok (.ifCond .eq 12, 3) := by decide +kernel
theorem dX12_jury_13 : decode cX12_jury 13 = .ok (.iload_n 2, 1) := by decide +kernel
theorem dX12_jury_14 : decode cX12_jury 14 = .ok (.iconst 0, 1) := by decide +kernel
theorem dX12_jury_15 : decode cX12_jury 15 = .ok (.iconst 2, 1) := by decide +kernel
theorem dX12_jury_16 : decode cX12_jury 16 = .ok (.invokestatic 324, 3) := by decide +kernel
theorem dX12_jury_19 : decode cX12_jury 19 = .ok (.ifCond .ne 7, 3) := by decide +kernel
theorem dX12_jury_22 : decode cX12_jury 22 = .ok (.iconst (-1), 1) := by decide +kernel
theorem dX12_jury_23 : decode cX12_jury 23 = .ok (.goto 17, 3) := by decide +kernel
theorem dX12_jury_26 : decode cX12_jury 26 = .ok (.aload_n 0, 1) := by decide +kernel
theorem dX12_jury_27 : decode cX12_jury 27 = .ok (.iload_n 1, 1) := by decide +kernel
theorem dX12_jury_28 : decode cX12_jury 28 = .ok (.iload_n 2, 1) := by decide +kernel
theorem dX12_jury_29 : decode cX12_jury 29 = .ok (.invokevirtual 497, 3) := by decide +kernel
theorem dX12_jury_32 : decode cX12_jury 32 = .ok (.ifCond .eq 7, 3) := by decide +kernel
theorem dX12_jury_35 : decode cX12_jury 35 = .ok (.iconst 1, 1) := by decide +kernel
theorem dX12_jury_36 : decode cX12_jury 36 = .ok (.goto 4, 3) := by decide +kernel
theorem dX12_jury_39 : decode cX12_jury 39 = .ok (.iconst 0, 1) := by decide +kernel
theorem dX12_jury_40 : decode cX12_jury 40 = .ok (.ireturn, 1) := by decide +kernel
theorem dX12_there__0 : decode cX12_there_ 0 = .ok (.aload_n 0, 1) := by decide +kernel
theorem dX12_there__1 : decode cX12_there_ 1 = .ok (.iconst 0, 1) := by decide +kernel
theorem dX12_there__2 : decode cX12_there_ 2 = .ok (.putfield 124, 3) := by decide +kernel
theorem dX12_there__5 : decode cX12_there_ 5 = .ok (.aload_n 0, 1) := by decide +kernel
theorem dX12_there__6 : decode cX12_there_ 6 = .ok (.iload_n 1, 1) := by decide +kernel
theorem dX12_there__7 : decode cX12_there_ 7 = .ok (.invokevirtual 407, 3) := by decide +kernel
theorem dX12_there__10 : decode cX12_there_ 10 = .ok (.ifCond .ne 5, 3) := by decide +kernel
theorem dX12_there__13 : decode cX12_there_ 13 = .ok (.iconst (-1), 1) := by decide +kernel
theorem dX12_there__14 : decode cX12_there_ 14 = .ok (.ireturn, 1) := by decide +kernel
theorem dX12_there__15 : decode cX12_there_ 15 = .ok (.aload_n 0, 1) := by decide +kernel
theorem dX12_there__16 : decode cX12_there_ 16 = .ok (.iload_n 1, 1) := by decide +kernel
theorem dX12_there__17 : decode cX12_there_ 17 = .ok (.putfield 217, 3) := by decide +kernel
theorem dX12_there__20 : decode cX12_there_ 20 = .ok (.iload_n 1, 1) := by decide +kernel
theorem dX12_there__21 : decode cX12_there_ 21 = .ok (.invokestatic 404, 3) := by decide +kernel
theorem dX12_there__24 : decode cX12_there_ 24 = .ok (.ireturn, 1) := by decide +kernel
theorem dX12_found_0 : decode cX12_found 0 = .ok (.aload_n 0, 1) := by decide +kernel
theorem dX12_found_1 : decode cX12_found 1 = .ok (.iconst 0, 1) := by decide +kernel
theorem dX12_found_2 : decode cX12_found 2 = .ok (.putfield 124, 3) := by decide +kernel
theorem dX12_found_5 : decode cX12_found 5 = .ok (.iload_n 1, 1) := by decide +kernel
theorem dX12_found_6 : decode cX12_found 6 = .ok (.iconst 0, 1) := by decide +kernel
theorem dX12_found_7 : decode cX12_found 7 = .ok (.iconst 2, 1) := by decide +kernel
theorem dX12_found_8 : decode cX12_found 8 = .ok (.invokestatic 324, 3) := by decide +kernel
theorem dX12_found_11 : decode cX12_found 11 = .ok (.ifCond .eq 12, 3) := by decide +kernel
theorem dX12_found_14 : decode cX12_found 14 = .ok (.iload_n 2, 1) := by decide +kernel
theorem dX12_found_15 : decode cX12_found 15 = .ok (.iconst 0, 1) := by decide +kernel
theorem dX12_found_16 : decode cX12_found 16 = .ok (.iconst 1, 1) := by decide +kernel
theorem dX12_found_17 : decode cX12_found 17 = .ok (.invokestatic 324, 3) := by decide +kernel
theorem dX12_found_20 : decode cX12_found 20 = .ok (.ifCond .ne 5, 3) := by decide +kernel
theorem dX12_found_23 : decode cX12_found 23 = .ok (.iconst (-1), 1) := by decide +kernel
theorem dX12_found_24 : decode cX12_found 24 = .ok (.ireturn, 1) := by decide +kernel
theorem dX12_found_25 : decode cX12_found 25 = .ok (.iconst 0, 1) := by decide +kernel
theorem dX12_found_26 : decode cX12_found 26 = .ok (.istore_n 3, 1) := by decide +kernel
theorem dX12_found_27 : decode cX12_found 27 = .ok (.iconst 0, 1) := by decide +kernel
theorem dX12_found_28 : decode cX12_found 28 = .ok (.istore 4, 2) := by decide +kernel
theorem dX12_found_30 : decode cX12_found 30 = .ok (.iload 4, 2) := by decide +kernel
theorem dX12_found_32 : decode cX12_found 32 = .ok (.aload_n 0, 1) := by decide +kernel
theorem dX12_found_33 : decode cX12_found 33 = .ok (.getfield 195, 3) := by decide +kernel
theorem dX12_found_36 : decode cX12_found 36 = .ok (.if_icmp .ge 39, 3) := by decide +kernel
theorem dX12_found_39 : decode cX12_found 39 = .ok (.iload_n 3, 1) := by decide +kernel
theorem dX12_found_40 : decode cX12_found 40 = .ok (.aload_n 0, 1) := by decide +kernel
theorem dX12_found_41 : decode cX12_found 41 = .ok (.iload 4, 2) := by decide +kernel
theorem dX12_found_43 : decode cX12_found 43 = .ok (.iload_n 1, 1) := by decide +kernel
theorem dX12_found_44 : decode cX12_found 44 = .ok (.invokevirtual 497, 3) := by decide +kernel
theorem dX12_found_47 : decode cX12_found 47 = .ok (.ifCond .eq 19, 3) := by decide +kernel
theorem dX12_found_50 : decode cX12_found 50 = .ok (.aload_n 0, 1) := by decide +kernel
theorem dX12_found_51 : decode cX12_found 51 = .ok (.iload 4, 2) := by decide +kernel
theorem dX12_found_53 : decode cX12_found 53 = .ok (.invokevirtual 494, 3) := by decide +kernel
theorem dX12_found_56 : decode cX12_found 56 = .ok (.ifCond .ne 10, 3) := by decide +kernel
theorem dX12_found_59 : decode cX12_found 59 = .ok (.iconst 1, 1) := by decide +kernel
theorem dX12_found_60 : decode cX12_found 60 = .ok (.iload 4, 2) := by decide +kernel
theorem dX12_found_62 : decode cX12_found 62 = .ok (.ishl, 1) := by decide +kernel
theorem dX12_found_63 : decode cX12_found 63 = .ok (.goto 4, 3) := by decide +kernel
theorem dX12_found_66 : decode cX12_found 66 = .ok (.iconst 0, 1) := by decide +kernel
theorem dX12_found_67 : decode cX12_found 67 = .ok (.ior, 1) := by decide +kernel
theorem dX12_found_68 : decode cX12_found 68 = .ok (.istore_n 3, 1) := by decide +kernel
theorem dX12_found_69 : decode cX12_found 69 = .ok (.iinc 4 1, 3) := by decide +kernel
theorem dX12_found_72 : decode cX12_found 72 = .ok (.goto (-42), 3) := by decide +kernel
theorem dX12_found_75 : decode cX12_found 75 = .ok (.iload_n 2, 1) := by decide +kernel
theorem dX12_found_76 : decode cX12_found 76 = .ok (.ifCond .ne 14, 3) := by decide +kernel
theorem dX12_found_79 : decode cX12_found 79 = .ok (.iload_n 3, 1) := by decide +kernel
theorem dX12_found_80 : decode cX12_found 80 = .ok (.aload_n 0, 1) := by decide +kernel
theorem dX12_found_81 : decode cX12_found 81 = .ok (.getfield 217, 3) := by decide +kernel
theorem dX12_found_84 : decode cX12_found 84 = .ok (.iconst (-1), 1) := by decide +kernel
theorem dX12_found_85 : decode cX12_found 85 = .ok (.ixor, 1) := by decide +kernel
theorem dX12_found_86 : decode cX12_found 86 = .ok (.iand, 1) := by decide +kernel
theorem dX12_found_87 : decode cX12_found 87 = .ok (.goto 11, 3) := by decide +kernel
theorem dX12_found_90 : decode cX12_found 90 = .ok (.aload_n 0, 1) := by decide +kernel
theorem dX12_found_91 : decode cX12_found 91 = .ok (.getfield 217, 3) := by decide +kernel
theorem dX12_found_94 : decode cX12_found 94 = .ok (.iload_n 3, 1) := by decide +kernel
theorem dX12_found_95 : decode cX12_found 95 = .ok (.iconst (-1), 1) := by decide +kernel
theorem dX12_found_96 : decode cX12_found 96 = .ok (.ixor, 1) := by decide +kernel
theorem dX12_found_97 : decode cX12_found 97 = .ok (.iand, 1) := by decide +kernel
theorem dX12_found_98 : decode cX12_found 98 = .ok (.ireturn, 1) := by decide +kernel
theorem dX12_count_0 : decode cX12_count 0 = .ok (.aload_n 0, 1) := by decide +kernel
theorem dX12_count_1 : decode cX12_count 1 = .ok (.iconst 0, 1) := by decide +kernel
theorem dX12_count_2 : decode cX12_count 2 = .ok (.putfield 124, 3) := by decide +kernel
theorem dX12_count_5 : decode cX12_count 5 = .ok (.iload_n 1, 1) := by decide +kernel
theorem dX12_count_6 : decode cX12_count 6 = .ok (.tableswitch 86 0 7 #[46, 51, 56, 61, 66, 71, 76, 81], 46) := by decide +kernel
theorem dX12_count_52 : decode cX12_count 52 = .ok (.aload_n 0, 1) := by decide +kernel
theorem dX12_count_53 : decode cX12_count 53 = .ok (.getfield 192, 3) := by decide +kernel
theorem dX12_count_56 : decode cX12_count 56 = .ok (.ireturn, 1) := by decide +kernel
theorem dX12_count_57 : decode cX12_count 57 = .ok (.aload_n 0, 1) := by decide +kernel
theorem dX12_count_58 : decode cX12_count 58 = .ok (.getfield 195, 3) := by decide +kernel
theorem dX12_count_61 : decode cX12_count 61 = .ok (.ireturn, 1) := by decide +kernel
theorem dX12_count_62 : decode cX12_count 62 = .ok (.aload_n 0, 1) := by decide +kernel
theorem dX12_count_63 : decode cX12_count 63 = .ok (.getfield 198, 3) := by decide +kernel
theorem dX12_count_66 : decode cX12_count 66 = .ok (.ireturn, 1) := by decide +kernel
theorem dX12_count_67 : decode cX12_count 67 = .ok (.aload_n 0, 1) := by decide +kernel
theorem dX12_count_68 : decode cX12_count 68 = .ok (.invokevirtual 328, 3) := by decide +kernel
theorem dX12_count_71 : decode cX12_count 71 = .ok (.ireturn, 1) := by decide +kernel
theorem dX12_count_72 : decode cX12_count 72 = .ok (.aload_n 0, 1) := by decide +kernel
theorem dX12_count_73 : decode cX12_count 73 = .ok (.getfield 201, 3) := by decide +kernel
theorem dX12_count_76 : decode cX12_count 76 = .ok (.ireturn, 1) := by decide +kernel
theorem dX12_count_77 : decode cX12_count 77 = .ok (.aload_n 0, 1) := by decide +kernel
theorem dX12_count_78 : decode cX12_count 78 = .ok (.getfield 204, 3) := by decide +kernel
theorem dX12_count_81 : decode cX12_count 81 = .ok (.ireturn, 1) := by decide +kernel
theorem dX12_count_82 : decode cX12_count 82 = .ok (.aload_n 0, 1) := by decide +kernel
theorem dX12_count_83 : decode cX12_count 83 = .ok (.getfield 214, 3) := by decide +kernel
theorem dX12_count_86 : decode cX12_count 86 = .ok (.ireturn, 1) := by decide +kernel
theorem dX12_count_87 : decode cX12_count 87 = .ok (.aload_n 0, 1) := by decide +kernel
theorem dX12_count_88 : decode cX12_count 88 = .ok (.getfield 211, 3) := by decide +kernel
theorem dX12_count_91 : decode cX12_count 91 = .ok (.ireturn, 1) := by decide +kernel
theorem dX12_count_92 : decode cX12_count 92 = .ok (.iconst (-1), 1) := by decide +kernel
theorem dX12_count_93 : decode cX12_count 93 = .ok (.ireturn, 1) := by decide +kernel
theorem dJ6_bitCount_0f7a4_0 : decode cJ6_bitCount_0f7a4 0 = .ok (.iload_n 0, 1) := by decide +kernel
theorem dJ6_bitCount_0f7a4_1 : decode cJ6_bitCount_0f7a4 1 = .ok (.iload_n 0, 1) := by decide +kernel
theorem dJ6_bitCount_0f7a4_2 : decode cJ6_bitCount_0f7a4 2 = .ok (.iconst 1, 1) := by decide +kernel
theorem dJ6_bitCount_0f7a4_3 : decode cJ6_bitCount_0f7a4 3 = .ok (.iushr, 1) := by decide +kernel
theorem dJ6_bitCount_0f7a4_4 : decode cJ6_bitCount_0f7a4 4 = .ok (.ldc_w 265, 3) := by decide +kernel
theorem dJ6_bitCount_0f7a4_7 : decode cJ6_bitCount_0f7a4 7 = .ok (.iand, 1) := by decide +kernel
theorem dJ6_bitCount_0f7a4_8 : decode cJ6_bitCount_0f7a4 8 = .ok (.isub, 1) := by decide +kernel
theorem dJ6_bitCount_0f7a4_9 : decode cJ6_bitCount_0f7a4 9 = .ok (.istore_n 0, 1) := by decide +kernel
theorem dJ6_bitCount_0f7a4_10 : decode cJ6_bitCount_0f7a4 10 = .ok (.iload_n 0, 1) := by decide +kernel
theorem dJ6_bitCount_0f7a4_11 : decode cJ6_bitCount_0f7a4 11 = .ok (.ldc_w 266, 3) := by decide +kernel
theorem dJ6_bitCount_0f7a4_14 : decode cJ6_bitCount_0f7a4 14 = .ok (.iand, 1) := by decide +kernel
theorem dJ6_bitCount_0f7a4_15 : decode cJ6_bitCount_0f7a4 15 = .ok (.iload_n 0, 1) := by decide +kernel
theorem dJ6_bitCount_0f7a4_16 : decode cJ6_bitCount_0f7a4 16 = .ok (.iconst 2, 1) := by decide +kernel
theorem dJ6_bitCount_0f7a4_17 : decode cJ6_bitCount_0f7a4 17 = .ok (.iushr, 1) := by decide +kernel
theorem dJ6_bitCount_0f7a4_18 : decode cJ6_bitCount_0f7a4 18 = .ok (.ldc_w 266, 3) := by decide +kernel
theorem dJ6_bitCount_0f7a4_21 : decode cJ6_bitCount_0f7a4 21 = .ok (.iand, 1) := by decide +kernel
theorem dJ6_bitCount_0f7a4_22 : decode cJ6_bitCount_0f7a4 22 = .ok (.iadd, 1) := by decide +kernel
theorem dJ6_bitCount_0f7a4_23 : decode cJ6_bitCount_0f7a4 23 = .ok (.istore_n 0, 1) := by decide +kernel
theorem dJ6_bitCount_0f7a4_24 : decode cJ6_bitCount_0f7a4 24 = .ok (.iload_n 0, 1) := by decide +kernel
theorem dJ6_bitCount_0f7a4_25 : decode cJ6_bitCount_0f7a4 25 = .ok (.iload_n 0, 1) := by decide +kernel
theorem dJ6_bitCount_0f7a4_26 : decode cJ6_bitCount_0f7a4 26 = .ok (.iconst 4, 1) := by decide +kernel
theorem dJ6_bitCount_0f7a4_27 : decode cJ6_bitCount_0f7a4 27 = .ok (.iushr, 1) := by decide +kernel
theorem dJ6_bitCount_0f7a4_28 : decode cJ6_bitCount_0f7a4 28 = .ok (.iadd, 1) := by decide +kernel
theorem dJ6_bitCount_0f7a4_29 : decode cJ6_bitCount_0f7a4 29 = .ok (.ldc_w 267, 3) := by decide +kernel
theorem dJ6_bitCount_0f7a4_32 : decode cJ6_bitCount_0f7a4 32 = .ok (.iand, 1) := by decide +kernel
theorem dJ6_bitCount_0f7a4_33 : decode cJ6_bitCount_0f7a4 33 = .ok (.istore_n 0, 1) := by decide +kernel
theorem dJ6_bitCount_0f7a4_34 : decode cJ6_bitCount_0f7a4 34 = .ok (.iload_n 0, 1) := by decide +kernel
theorem dJ6_bitCount_0f7a4_35 : decode cJ6_bitCount_0f7a4 35 = .ok (.iload_n 0, 1) := by decide +kernel
theorem dJ6_bitCount_0f7a4_36 : decode cJ6_bitCount_0f7a4 36 = .ok (.bipush 8, 2) := by decide +kernel
theorem dJ6_bitCount_0f7a4_38 : decode cJ6_bitCount_0f7a4 38 = .ok (.iushr, 1) := by decide +kernel
theorem dJ6_bitCount_0f7a4_39 : decode cJ6_bitCount_0f7a4 39 = .ok (.iadd, 1) := by decide +kernel
theorem dJ6_bitCount_0f7a4_40 : decode cJ6_bitCount_0f7a4 40 = .ok (.istore_n 0, 1) := by decide +kernel
theorem dJ6_bitCount_0f7a4_41 : decode cJ6_bitCount_0f7a4 41 = .ok (.iload_n 0, 1) := by decide +kernel
theorem dJ6_bitCount_0f7a4_42 : decode cJ6_bitCount_0f7a4 42 = .ok (.iload_n 0, 1) := by decide +kernel
theorem dJ6_bitCount_0f7a4_43 : decode cJ6_bitCount_0f7a4 43 = .ok (.bipush 16, 2) := by decide +kernel
theorem dJ6_bitCount_0f7a4_45 : decode cJ6_bitCount_0f7a4 45 = .ok (.iushr, 1) := by decide +kernel
theorem dJ6_bitCount_0f7a4_46 : decode cJ6_bitCount_0f7a4 46 = .ok (.iadd, 1) := by decide +kernel
theorem dJ6_bitCount_0f7a4_47 : decode cJ6_bitCount_0f7a4 47 = .ok (.istore_n 0, 1) := by decide +kernel
theorem dJ6_bitCount_0f7a4_48 : decode cJ6_bitCount_0f7a4 48 = .ok (.iload_n 0, 1) := by decide +kernel
theorem dJ6_bitCount_0f7a4_49 : decode cJ6_bitCount_0f7a4 49 = .ok (.bipush 63, 2) := by decide +kernel
theorem dJ6_bitCount_0f7a4_51 : decode cJ6_bitCount_0f7a4 51 = .ok (.iand, 1) := by decide +kernel
theorem dJ6_bitCount_0f7a4_52 : decode cJ6_bitCount_0f7a4 52 = .ok (.ireturn, 1) := by decide +kernel
theorem dJ9_abs_067f4_0 : decode cJ9_abs_067f4 0 = .ok (.lload_n 0, 1) := by decide +kernel
theorem dJ9_abs_067f4_1 : decode cJ9_abs_067f4 1 = .ok (.lconst 0, 1) := by decide +kernel
theorem dJ9_abs_067f4_2 : decode cJ9_abs_067f4 2 = .ok (.lcmp, 1) := by decide +kernel
theorem dJ9_abs_067f4_3 : decode cJ9_abs_067f4 3 = .ok (.ifCond .ge 8, 3) := by decide +kernel
theorem dJ9_abs_067f4_6 : decode cJ9_abs_067f4 6 = .ok (.lload_n 0, 1) := by decide +kernel
theorem dJ9_abs_067f4_7 : decode cJ9_abs_067f4 7 = .ok (.lneg, 1) := by decide +kernel
theorem dJ9_abs_067f4_8 : decode cJ9_abs_067f4 8 = .ok (.goto 4, 3) := by decide +kernel
theorem dJ9_abs_067f4_11 : decode cJ9_abs_067f4 11 = .ok (.lload_n 0, 1) := by decide +kernel
theorem dJ9_abs_067f4_12 : decode cJ9_abs_067f4 12 = .ok (.lreturn, 1) := by decide +kernel
theorem dJ9_max_7cf53_0 : decode cJ9_max_7cf53 0 = .ok (.iload_n 0, 1) := by decide +kernel
theorem dJ9_max_7cf53_1 : decode cJ9_max_7cf53 1 = .ok (.iload_n 1, 1) := by decide +kernel
theorem dJ9_max_7cf53_2 : decode cJ9_max_7cf53 2 = .ok (.if_icmp .lt 7, 3) := by decide +kernel
theorem dJ9_max_7cf53_5 : decode cJ9_max_7cf53 5 = .ok (.iload_n 0, 1) := by decide +kernel
theorem dJ9_max_7cf53_6 : decode cJ9_max_7cf53 6 = .ok (.goto 4, 3) := by decide +kernel
theorem dJ9_max_7cf53_9 : decode cJ9_max_7cf53 9 = .ok (.iload_n 1, 1) := by decide +kernel
theorem dJ9_max_7cf53_10 : decode cJ9_max_7cf53 10 = .ok (.ireturn, 1) := by decide +kernel
theorem dJ9_max_f86c9_0 : decode cJ9_max_f86c9 0 = .ok (.lload_n 0, 1) := by decide +kernel
theorem dJ9_max_f86c9_1 : decode cJ9_max_f86c9 1 = .ok (.lload_n 2, 1) := by decide +kernel
theorem dJ9_max_f86c9_2 : decode cJ9_max_f86c9 2 = .ok (.lcmp, 1) := by decide +kernel
theorem dJ9_max_f86c9_3 : decode cJ9_max_f86c9 3 = .ok (.ifCond .lt 7, 3) := by decide +kernel
theorem dJ9_max_f86c9_6 : decode cJ9_max_f86c9 6 = .ok (.lload_n 0, 1) := by decide +kernel
theorem dJ9_max_f86c9_7 : decode cJ9_max_f86c9 7 = .ok (.goto 4, 3) := by decide +kernel
theorem dJ9_max_f86c9_10 : decode cJ9_max_f86c9 10 = .ok (.lload_n 2, 1) := by decide +kernel
theorem dJ9_max_f86c9_11 : decode cJ9_max_f86c9 11 = .ok (.lreturn, 1) := by decide +kernel
theorem dJ9_min_7cf53_0 : decode cJ9_min_7cf53 0 = .ok (.iload_n 0, 1) := by decide +kernel
theorem dJ9_min_7cf53_1 : decode cJ9_min_7cf53 1 = .ok (.iload_n 1, 1) := by decide +kernel
theorem dJ9_min_7cf53_2 : decode cJ9_min_7cf53 2 = .ok (.if_icmp .gt 7, 3) := by decide +kernel
theorem dJ9_min_7cf53_5 : decode cJ9_min_7cf53 5 = .ok (.iload_n 0, 1) := by decide +kernel
theorem dJ9_min_7cf53_6 : decode cJ9_min_7cf53 6 = .ok (.goto 4, 3) := by decide +kernel
theorem dJ9_min_7cf53_9 : decode cJ9_min_7cf53 9 = .ok (.iload_n 1, 1) := by decide +kernel
theorem dJ9_min_7cf53_10 : decode cJ9_min_7cf53 10 = .ok (.ireturn, 1) := by decide +kernel
theorem dJ9_min_f86c9_0 : decode cJ9_min_f86c9 0 = .ok (.lload_n 0, 1) := by decide +kernel
theorem dJ9_min_f86c9_1 : decode cJ9_min_f86c9 1 = .ok (.lload_n 2, 1) := by decide +kernel
theorem dJ9_min_f86c9_2 : decode cJ9_min_f86c9 2 = .ok (.lcmp, 1) := by decide +kernel
theorem dJ9_min_f86c9_3 : decode cJ9_min_f86c9 3 = .ok (.ifCond .gt 7, 3) := by decide +kernel
theorem dJ9_min_f86c9_6 : decode cJ9_min_f86c9 6 = .ok (.lload_n 0, 1) := by decide +kernel
theorem dJ9_min_f86c9_7 : decode cJ9_min_f86c9 7 = .ok (.goto 4, 3) := by decide +kernel
theorem dJ9_min_f86c9_10 : decode cJ9_min_f86c9 10 = .ok (.lload_n 2, 1) := by decide +kernel
theorem dJ9_min_f86c9_11 : decode cJ9_min_f86c9 11 = .ok (.lreturn, 1) := by decide +kernel
theorem dJ0_length_8abf5_0 : decode cJ0_length_8abf5 0 = .ok (.aload_n 0, 1) := by decide +kernel
theorem dJ0_length_8abf5_1 : decode cJ0_length_8abf5 1 = .ok (.getfield 9, 3) := by decide +kernel
theorem dJ0_length_8abf5_4 : decode cJ0_length_8abf5 4 = .ok (.arraylength, 1) := by decide +kernel
theorem dJ0_length_8abf5_5 : decode cJ0_length_8abf5 5 = .ok (.aload_n 0, 1) := by decide +kernel
theorem dJ0_length_8abf5_6 : decode cJ0_length_8abf5 6 = .ok (.invokevirtual 335, 3) := by decide +kernel
theorem dJ0_length_8abf5_9 : decode cJ0_length_8abf5 9 = .ok (.ishr, 1) := by decide +kernel
theorem dJ0_length_8abf5_10 : decode cJ0_length_8abf5 10 = .ok (.ireturn, 1) := by decide +kernel
theorem dJ0_charAt_5068e_0 : decode cJ0_charAt_5068e 0 = .ok (.aload_n 0, 1) := by decide +kernel
theorem dJ0_charAt_5068e_1 : decode cJ0_charAt_5068e 1 = .ok (.invokevirtual 492, 3) := by decide +kernel
theorem dJ0_charAt_5068e_4 : decode cJ0_charAt_5068e 4 = .ok (.ifCond .eq 12, 3) := by decide +kernel
theorem dJ0_charAt_5068e_7 : decode cJ0_charAt_5068e 7 = .ok (.aload_n 0, 1) := by decide +kernel
theorem dJ0_charAt_5068e_8 : decode cJ0_charAt_5068e 8 = .ok (.getfield 9, 3) := by decide +kernel
theorem dJ0_charAt_5068e_11 : decode cJ0_charAt_5068e 11 = .ok (.iload_n 1, 1) := by decide +kernel
theorem dJ0_charAt_5068e_12 : decode cJ0_charAt_5068e 12 = .ok (.invokestatic 495, 3) := by decide +kernel
theorem dJ0_charAt_5068e_15 : decode cJ0_charAt_5068e 15 = .ok (.ireturn, 1) := by decide +kernel
theorem dJ0_charAt_5068e_16 : decode cJ0_charAt_5068e 16 = .ok (.aload_n 0, 1) := by decide +kernel
theorem dJ0_charAt_5068e_17 : decode cJ0_charAt_5068e 17 = .ok (.getfield 9, 3) := by decide +kernel
theorem dJ0_charAt_5068e_20 : decode cJ0_charAt_5068e 20 = .ok (.iload_n 1, 1) := by decide +kernel
theorem dJ0_charAt_5068e_21 : decode cJ0_charAt_5068e 21 = .ok (.invokestatic 498, 3) := by decide +kernel
theorem dJ0_charAt_5068e_24 : decode cJ0_charAt_5068e 24 = .ok (.ireturn, 1) := by decide +kernel
theorem dJ0_coder_7d493_0 : decode cJ0_coder_7d493 0 = .ok (.getstatic 38, 3) := by decide +kernel
theorem dJ0_coder_7d493_3 : decode cJ0_coder_7d493 3 = .ok (.ifCond .eq 10, 3) := by decide +kernel
theorem dJ0_coder_7d493_6 : decode cJ0_coder_7d493 6 = .ok (.aload_n 0, 1) := by decide +kernel
theorem dJ0_coder_7d493_7 : decode cJ0_coder_7d493 7 = .ok (.getfield 15, 3) := by decide +kernel
theorem dJ0_coder_7d493_10 : decode cJ0_coder_7d493 10 = .ok (.goto 4, 3) := by decide +kernel
theorem dJ0_coder_7d493_13 : decode cJ0_coder_7d493 13 = .ok (.iconst 1, 1) := by decide +kernel
theorem dJ0_coder_7d493_14 : decode cJ0_coder_7d493 14 = .ok (.ireturn, 1) := by decide +kernel
theorem dJ0_isLatin1_aae02_0 : decode cJ0_isLatin1_aae02 0 = .ok (.getstatic 38, 3) := by decide +kernel
theorem dJ0_isLatin1_aae02_3 : decode cJ0_isLatin1_aae02 3 = .ok (.ifCond .eq 14, 3) := by decide +kernel
theorem dJ0_isLatin1_aae02_6 : decode cJ0_isLatin1_aae02 6 = .ok (.aload_n 0, 1) := by decide +kernel
theorem dJ0_isLatin1_aae02_7 : decode cJ0_isLatin1_aae02 7 = .ok (.getfield 15, 3) := by decide +kernel
theorem dJ0_isLatin1_aae02_10 : decode cJ0_isLatin1_aae02 10 = .ok (.ifCond .ne 7, 3) := by decide +kernel
theorem dJ0_isLatin1_aae02_13 : decode cJ0_isLatin1_aae02 13 = .ok (.iconst 1, 1) := by decide +kernel
theorem dJ0_isLatin1_aae02_14 : decode cJ0_isLatin1_aae02 14 = .ok (.goto 4, 3) := by decide +kernel
theorem dJ0_isLatin1_aae02_17 : decode cJ0_isLatin1_aae02 17 = .ok (.iconst 0, 1) := by decide +kernel
theorem dJ0_isLatin1_aae02_18 : decode cJ0_isLatin1_aae02 18 = .ok (.ireturn, 1) := by decide +kernel
theorem dJ0_checkIndex_df160_0 : decode cJ0_checkIndex_df160 0 = .ok (.iload_n 0, 1) := by decide +kernel
theorem dJ0_checkIndex_df160_1 : decode cJ0_checkIndex_df160 1 = .ok (.iload_n 1, 1) := by decide +kernel
theorem dJ0_checkIndex_df160_2 : decode cJ0_checkIndex_df160 2 = .ok (.getstatic 1053, 3) := by decide +kernel
theorem dJ0_checkIndex_df160_5 : decode cJ0_checkIndex_df160 5 = .ok (.invokestatic 1059, 3) := by decide +kernel
theorem dJ0_checkIndex_df160_8 : decode cJ0_checkIndex_df160 8 = .ok (.pop, 1) := by decide +kernel
theorem dJ0_checkIndex_df160_9 : decode cJ0_checkIndex_df160 9 = .ok (.return_, 1) := by decide +kernel
theorem dJ1_charAt_3b067_0 : decode cJ1_charAt_3b067 0 = .ok (.iload_n 1, 1) := by decide +kernel
theorem dJ1_charAt_3b067_1 : decode cJ1_charAt_3b067 1 = .ok (.aload_n 0, 1) := by decide +kernel
theorem dJ1_charAt_3b067_2 : decode cJ1_charAt_3b067 2 = .ok (.arraylength, 1) := by decide +kernel
theorem dJ1_charAt_3b067_3 : decode cJ1_charAt_3b067 3 = .ok (.invokestatic 9, 3) := by decide +kernel
theorem dJ1_charAt_3b067_6 : decode cJ1_charAt_3b067 6 = .ok (.aload_n 0, 1) := by decide +kernel
theorem dJ1_charAt_3b067_7 : decode cJ1_charAt_3b067 7 = .ok (.iload_n 1, 1) := by decide +kernel
theorem dJ1_charAt_3b067_8 : decode cJ1_charAt_3b067 8 = .ok (.baload, 1) := by decide +kernel
theorem dJ1_charAt_3b067_9 : decode cJ1_charAt_3b067 9 = .ok (.sipush 255, 3) := by decide +kernel
theorem dJ1_charAt_3b067_12 : decode cJ1_charAt_3b067 12 = .ok (.iand, 1) := by decide +kernel
theorem dJ1_charAt_3b067_13 : decode cJ1_charAt_3b067 13 = .ok (.i2c, 1) := by decide +kernel
theorem dJ1_charAt_3b067_14 : decode cJ1_charAt_3b067 14 = .ok (.ireturn, 1) := by decide +kernel
theorem dJ2_getChar_3b067_0 : decode cJ2_getChar_3b067 0 = .ok (.getstatic 44, 3) := by decide +kernel
theorem dJ2_getChar_3b067_3 : decode cJ2_getChar_3b067 3 = .ok (.ifCond .ne 25, 3) := by decide +kernel
theorem dJ2_getChar_3b067_6 : decode cJ2_getChar_3b067 6 = .ok (.iload_n 1, 1) := by decide +kernel
theorem dJ2_getChar_3b067_7 : decode cJ2_getChar_3b067 7 = .ok (.ifCond .lt 11, 3) := by decide +kernel
theorem dJ2_getChar_3b067_10 : decode cJ2_getChar_3b067 10 = .ok (.iload_n 1, 1) := by decide +kernel
theorem dJ2_getChar_3b067_11 : decode cJ2_getChar_3b067 11 = .ok (.aload_n 0, 1) := by decide +kernel
theorem dJ2_getChar_3b067_12 : decode cJ2_getChar_3b067 12 = .ok (.invokestatic 48, 3) := by decide +kernel
theorem dJ2_getChar_3b067_15 : decode cJ2_getChar_3b067 15 = .ok (.if_icmp .lt 13, 3) := by decide +kernel
theorem dJ2_getChar_3b067_18 : decode cJ2_getChar_3b067 18 = .ok (.new 52, 3) := by decide +kernel
theorem dJ2_getChar_3b067_21 : decode cJ2_getChar_3b067 21 = .ok (.dup, 1) := by decide +kernel
theorem dJ2_getChar_3b067_22 : decode cJ2_getChar_3b067 22 = .ok (.ldc 54, 2) := by decide +kernel
theorem dJ2_getChar_3b067_24 : decode cJ2_getChar_3b067 24 = .ok (.invokespecial 56, 3) := by decide +kernel
theorem dJ2_getChar_3b067_27 : decode cJ2_getChar_3b067 27 = .ok (.athrow, 1) := by decide +kernel
theorem dJ2_getChar_3b067_28 : decode cJ2_getChar_3b067 28 = .ok (.iload_n 1, 1) := by decide +kernel
theorem dJ2_getChar_3b067_29 : decode cJ2_getChar_3b067 29 = .ok (.iconst 1, 1) := by decide +kernel
theorem dJ2_getChar_3b067_30 : decode cJ2_getChar_3b067 30 = .ok (.ishl, 1) := by decide +kernel
theorem dJ2_getChar_3b067_31 : decode cJ2_getChar_3b067 31 = .ok (.istore_n 1, 1) := by decide +kernel
theorem dJ2_getChar_3b067_32 : decode cJ2_getChar_3b067 32 = .ok (.aload_n 0, 1) := by decide +kernel
theorem dJ2_getChar_3b067_33 : decode cJ2_getChar_3b067 33 = .ok (.iload_n 1, 1) := by decide +kernel
theorem dJ2_getChar_3b067_34 : decode cJ2_getChar_3b067 34 = .ok (.iinc 1 1, 3) := by decide +kernel
theorem dJ2_getChar_3b067_37 : decode cJ2_getChar_3b067 37 = .ok (.baload, 1) := by decide +kernel
theorem dJ2_getChar_3b067_38 : decode cJ2_getChar_3b067 38 = .ok (.sipush 255, 3) := by decide +kernel
theorem dJ2_getChar_3b067_41 : decode cJ2_getChar_3b067 41 = .ok (.iand, 1) := by decide +kernel
theorem dJ2_getChar_3b067_42 : decode cJ2_getChar_3b067 42 = .ok (.getstatic 59, 3) := by decide +kernel
theorem dJ2_getChar_3b067_45 : decode cJ2_getChar_3b067 45 = .ok (.ishl, 1) := by decide +kernel
theorem dJ2_getChar_3b067_46 : decode cJ2_getChar_3b067 46 = .ok (.aload_n 0, 1) := by decide +kernel
theorem dJ2_getChar_3b067_47 : decode cJ2_getChar_3b067 47 = .ok (.iload_n 1, 1) := by decide +kernel
theorem dJ2_getChar_3b067_48 : decode cJ2_getChar_3b067 48 = .ok (.baload, 1) := by decide +kernel
theorem dJ2_getChar_3b067_49 : decode cJ2_getChar_3b067 49 = .ok (.sipush 255, 3) := by decide +kernel
theorem dJ2_getChar_3b067_52 : decode cJ2_getChar_3b067 52 = .ok (.iand, 1) := by decide +kernel
theorem dJ2_getChar_3b067_53 : decode cJ2_getChar_3b067 53 = .ok (.getstatic 63, 3) := by decide +kernel
theorem dJ2_getChar_3b067_56 : decode cJ2_getChar_3b067 56 = .ok (.ishl, 1) := by decide +kernel
theorem dJ2_getChar_3b067_57 : decode cJ2_getChar_3b067 57 = .ok (.ior, 1) := by decide +kernel
theorem dJ2_getChar_3b067_58 : decode cJ2_getChar_3b067 58 = .ok (.i2c, 1) := by decide +kernel
theorem dJ2_getChar_3b067_59 : decode cJ2_getChar_3b067 59 = .ok (.ireturn, 1) := by decide +kernel
theorem dJ2_length_9d52b_0 : decode cJ2_length_9d52b 0 = .ok (.aload_n 0, 1) := by decide +kernel
theorem dJ2_length_9d52b_1 : decode cJ2_length_9d52b 1 = .ok (.arraylength, 1) := by decide +kernel
theorem dJ2_length_9d52b_2 : decode cJ2_length_9d52b 2 = .ok (.iconst 1, 1) := by decide +kernel
theorem dJ2_length_9d52b_3 : decode cJ2_length_9d52b 3 = .ok (.ishr, 1) := by decide +kernel
theorem dJ2_length_9d52b_4 : decode cJ2_length_9d52b 4 = .ok (.ireturn, 1) := by decide +kernel
theorem dJ2_charAt_3b067_0 : decode cJ2_charAt_3b067 0 = .ok (.iload_n 1, 1) := by decide +kernel
theorem dJ2_charAt_3b067_1 : decode cJ2_charAt_3b067 1 = .ok (.aload_n 0, 1) := by decide +kernel
theorem dJ2_charAt_3b067_2 : decode cJ2_charAt_3b067 2 = .ok (.invokestatic 67, 3) := by decide +kernel
theorem dJ2_charAt_3b067_5 : decode cJ2_charAt_3b067 5 = .ok (.aload_n 0, 1) := by decide +kernel
theorem dJ2_charAt_3b067_6 : decode cJ2_charAt_3b067 6 = .ok (.iload_n 1, 1) := by decide +kernel
theorem dJ2_charAt_3b067_7 : decode cJ2_charAt_3b067 7 = .ok (.invokestatic 71, 3) := by decide +kernel
theorem dJ2_charAt_3b067_10 : decode cJ2_charAt_3b067 10 = .ok (.ireturn, 1) := by decide +kernel
theorem dJ2_checkIndex_2214a_0 : decode cJ2_checkIndex_2214a 0 = .ok (.iload_n 0, 1) := by decide +kernel
theorem dJ2_checkIndex_2214a_1 : decode cJ2_checkIndex_2214a 1 = .ok (.aload_n 1, 1) := by decide +kernel
theorem dJ2_checkIndex_2214a_2 : decode cJ2_checkIndex_2214a 2 = .ok (.invokestatic 48, 3) := by decide +kernel
theorem dJ2_checkIndex_2214a_5 : decode cJ2_checkIndex_2214a 5 = .ok (.invokestatic 414, 3) := by decide +kernel
theorem dJ2_checkIndex_2214a_8 : decode cJ2_checkIndex_2214a 8 = .ok (.return_, 1) := by decide +kernel
theorem dJ3_checkIndex_8e157_0 : decode cJ3_checkIndex_8e157 0 = .ok (.iload_n 0, 1) := by decide +kernel
theorem dJ3_checkIndex_8e157_1 : decode cJ3_checkIndex_8e157 1 = .ok (.ifCond .lt 8, 3) := by decide +kernel
theorem dJ3_checkIndex_8e157_4 : decode cJ3_checkIndex_8e157 4 = .ok (.iload_n 0, 1) := by decide +kernel
theorem dJ3_checkIndex_8e157_5 : decode cJ3_checkIndex_8e157 5 = .ok (.iload_n 1, 1) := by decide +kernel
theorem dJ3_checkIndex_8e157_6 : decode cJ3_checkIndex_8e157 6 = .ok (.if_icmp .lt 10, 3) := by decide +kernel
theorem dJ3_checkIndex_8e157_9 : decode cJ3_checkIndex_8e157 9 = .ok (.aload_n 2, 1) := by decide +kernel
theorem dJ3_checkIndex_8e157_10 : decode cJ3_checkIndex_8e157 10 = .ok (.iload_n 0, 1) := by decide +kernel
theorem dJ3_checkIndex_8e157_11 : decode cJ3_checkIndex_8e157 11 = .ok (.iload_n 1, 1) := by decide +kernel
theorem dJ3_checkIndex_8e157_12 : decode cJ3_checkIndex_8e157 12 = .ok (.invokestatic 95, 3) := by decide +kernel
theorem dJ3_checkIndex_8e157_15 : decode cJ3_checkIndex_8e157 15 = .ok (.athrow, 1) := by decide +kernel
theorem dJ3_checkIndex_8e157_16 : decode cJ3_checkIndex_8e157 16 = .ok (.iload_n 0, 1) := by decide +kernel
theorem dJ3_checkIndex_8e157_17 : decode cJ3_checkIndex_8e157 17 = .ok (.ireturn, 1) := by decide +kernel
theorem dL_look_0 : decode cL_look 0 = .ok (.aload_n 3, 1) := by decide +kernel
theorem dL_look_1 : decode cL_look 1 = .ok (.iconst 0, 1) := by decide +kernel
theorem dL_look_2 : decode cL_look 2 = .ok (.aload_n 0, 1) := by decide +kernel
theorem dL_look_3 : decode cL_look 3 = .ok (.iload_n 1, 1) := by decide +kernel
theorem dL_look_4 : decode cL_look 4 = .ok (.iload_n 2, 1) := by decide +kernel
theorem dL_look_5 : decode cL_look 5 = .ok (.invokevirtual 7, 3) := by decide +kernel
theorem dL_look_8 : decode cL_look 8 = .ok (.i2l, 1) := by decide +kernel
theorem dL_look_9 : decode cL_look 9 = .ok (.lastore, 1) := by decide +kernel
theorem dL_look_10 : decode cL_look 10 = .ok (.goto 11, 3) := by decide +kernel
theorem dL_look_13 : decode cL_look 13 = .ok (.astore 4, 2) := by decide +kernel
theorem dL_look_15 : decode cL_look 15 = .ok (.iconst 1, 1) := by decide +kernel
theorem dL_look_16 : decode cL_look 16 = .ok (.ireturn, 1) := by decide +kernel
theorem dL_look_17 : decode cL_look 17 = .ok (.astore 4, 2) := by decide +kernel
theorem dL_look_19 : decode cL_look 19 = .ok (.iconst 2, 1) := by decide +kernel
theorem dL_look_20 : decode cL_look 20 = .ok (.ireturn, 1) := by decide +kernel
theorem dL_look_21 : decode cL_look 21 = .ok (.iconst 0, 1) := by decide +kernel
theorem dL_look_22 : decode cL_look 22 = .ok (.ireturn, 1) := by decide +kernel
theorem dL_law_0 : decode cL_law 0 = .ok (.new 8, 3) := by decide +kernel
theorem dL_law_3 : decode cL_law 3 = .ok (.dup, 1) := by decide +kernel
theorem dL_law_4 : decode cL_law 4 = .ok (.invokespecial 17, 3) := by decide +kernel
theorem dL_law_7 : decode cL_law 7 = .ok (.astore_n 1, 1) := by decide +kernel
theorem dL_law_8 : decode cL_law 8 = .ok (.new 18, 3) := by decide +kernel
theorem dL_law_11 : decode cL_law 11 = .ok (.dup, 1) := by decide +kernel
theorem dL_law_12 : decode cL_law 12 = .ok (.invokespecial 20, 3) := by decide +kernel
theorem dL_law_15 : decode cL_law 15 = .ok (.astore_n 2, 1) := by decide +kernel
theorem dL_law_16 : decode cL_law 16 = .ok (.iconst 1, 1) := by decide +kernel
theorem dL_law_17 : decode cL_law 17 = .ok (.newarray .long, 2) := by decide +kernel
theorem dL_law_19 : decode cL_law 19 = .ok (.astore_n 3, 1) := by decide +kernel
theorem dL_law_20 : decode cL_law 20 = .ok (.iconst 0, 1) := by decide +kernel
theorem dL_law_21 : decode cL_law 21 = .ok (.istore 4, 2) := by decide +kernel
theorem dL_law_23 : decode cL_law 23 = .ok (.iload 4, 2) := by decide +kernel
theorem dL_law_25 : decode cL_law 25 = .ok (.aload_n 0, 1) := by decide +kernel
theorem dL_law_26 : decode cL_law 26 = .ok (.arraylength, 1) := by decide +kernel
theorem dL_law_27 : decode cL_law 27 = .ok (.bipush 6, 2) := by decide +kernel
theorem dL_law_29 : decode cL_law 29 = .ok (.isub, 1) := by decide +kernel
theorem dL_law_30 : decode cL_law 30 = .ok (.if_icmp .gt 1219, 3) := by decide +kernel
theorem dL_law_33 : decode cL_law 33 = .ok (.aload_n 0, 1) := by decide +kernel
theorem dL_law_34 : decode cL_law 34 = .ok (.iload 4, 2) := by decide +kernel
theorem dL_law_36 : decode cL_law 36 = .ok (.iaload, 1) := by decide +kernel
theorem dL_law_37 : decode cL_law 37 = .ok (.bipush 31, 2) := by decide +kernel
theorem dL_law_39 : decode cL_law 39 = .ok (.iand, 1) := by decide +kernel
theorem dL_law_40 : decode cL_law 40 = .ok (.tableswitch 1203 0 30 #[140, 213, 238, 263, 300, 368, 405, 442, 531, 544, 569, 594, 619, 656, 681, 718, 768, 793, 818, 843, 880, 917, 930, 955, 980, 1005, 1054, 1079, 1116, 1141, 1178], 140) := by decide +kernel
theorem dL_law_180 : decode cL_law 180 = .ok (.aload_n 1, 1) := by decide +kernel
theorem dL_law_181 : decode cL_law 181 = .ok (.aload_n 0, 1) := by decide +kernel
theorem dL_law_182 : decode cL_law 182 = .ok (.iload 4, 2) := by decide +kernel
theorem dL_law_184 : decode cL_law 184 = .ok (.iconst 1, 1) := by decide +kernel
theorem dL_law_185 : decode cL_law 185 = .ok (.iadd, 1) := by decide +kernel
theorem dL_law_186 : decode cL_law 186 = .ok (.iaload, 1) := by decide +kernel
theorem dL_law_187 : decode cL_law 187 = .ok (.aload_n 0, 1) := by decide +kernel
theorem dL_law_188 : decode cL_law 188 = .ok (.iload 4, 2) := by decide +kernel
theorem dL_law_190 : decode cL_law 190 = .ok (.iconst 2, 1) := by decide +kernel
theorem dL_law_191 : decode cL_law 191 = .ok (.iadd, 1) := by decide +kernel
theorem dL_law_192 : decode cL_law 192 = .ok (.iaload, 1) := by decide +kernel
theorem dL_law_193 : decode cL_law 193 = .ok (.aload_n 0, 1) := by decide +kernel
theorem dL_law_194 : decode cL_law 194 = .ok (.iload 4, 2) := by decide +kernel
theorem dL_law_196 : decode cL_law 196 = .ok (.iconst 3, 1) := by decide +kernel
theorem dL_law_197 : decode cL_law 197 = .ok (.iadd, 1) := by decide +kernel
theorem dL_law_198 : decode cL_law 198 = .ok (.iaload, 1) := by decide +kernel
theorem dL_law_199 : decode cL_law 199 = .ok (.aload_n 0, 1) := by decide +kernel
theorem dL_law_200 : decode cL_law 200 = .ok (.iload 4, 2) := by decide +kernel
theorem dL_law_202 : decode cL_law 202 = .ok (.iconst 4, 1) := by decide +kernel
theorem dL_law_203 : decode cL_law 203 = .ok (.iadd, 1) := by decide +kernel
theorem dL_law_204 : decode cL_law 204 = .ok (.iaload, 1) := by decide +kernel
theorem dL_law_205 : decode cL_law 205 = .ok (.aload_n 0, 1) := by decide +kernel
theorem dL_law_206 : decode cL_law 206 = .ok (.iload 4, 2) := by decide +kernel
theorem dL_law_208 : decode cL_law 208 = .ok (.iconst 5, 1) := by decide +kernel
theorem dL_law_209 : decode cL_law 209 = .ok (.iadd, 1) := by decide +kernel
theorem dL_law_210 : decode cL_law 210 = .ok (.iaload, 1) := by decide +kernel
theorem dL_law_211 : decode cL_law 211 = .ok (.invokevirtual 21, 3) := by decide +kernel
theorem dL_law_214 : decode cL_law 214 = .ok (.aload_n 2, 1) := by decide +kernel
theorem dL_law_215 : decode cL_law 215 = .ok (.aload_n 0, 1) := by decide +kernel
theorem dL_law_216 : decode cL_law 216 = .ok (.iload 4, 2) := by decide +kernel
theorem dL_law_218 : decode cL_law 218 = .ok (.iconst 1, 1) := by decide +kernel
theorem dL_law_219 : decode cL_law 219 = .ok (.iadd, 1) := by decide +kernel
theorem dL_law_220 : decode cL_law 220 = .ok (.iaload, 1) := by decide +kernel
theorem dL_law_221 : decode cL_law 221 = .ok (.aload_n 0, 1) := by decide +kernel
theorem dL_law_222 : decode cL_law 222 = .ok (.iload 4, 2) := by decide +kernel
theorem dL_law_224 : decode cL_law 224 = .ok (.iconst 2, 1) := by decide +kernel
theorem dL_law_225 : decode cL_law 225 = .ok (.iadd, 1) := by decide +kernel
theorem dL_law_226 : decode cL_law 226 = .ok (.iaload, 1) := by decide +kernel
theorem dL_law_227 : decode cL_law 227 = .ok (.aload_n 0, 1) := by decide +kernel
theorem dL_law_228 : decode cL_law 228 = .ok (.iload 4, 2) := by decide +kernel
theorem dL_law_230 : decode cL_law 230 = .ok (.iconst 3, 1) := by decide +kernel
theorem dL_law_231 : decode cL_law 231 = .ok (.iadd, 1) := by decide +kernel
theorem dL_law_232 : decode cL_law 232 = .ok (.iaload, 1) := by decide +kernel
theorem dL_law_233 : decode cL_law 233 = .ok (.aload_n 0, 1) := by decide +kernel
theorem dL_law_234 : decode cL_law 234 = .ok (.iload 4, 2) := by decide +kernel
theorem dL_law_236 : decode cL_law 236 = .ok (.iconst 4, 1) := by decide +kernel
theorem dL_law_237 : decode cL_law 237 = .ok (.iadd, 1) := by decide +kernel
theorem dL_law_238 : decode cL_law 238 = .ok (.iaload, 1) := by decide +kernel
theorem dL_law_239 : decode cL_law 239 = .ok (.aload_n 0, 1) := by decide +kernel
theorem dL_law_240 : decode cL_law 240 = .ok (.iload 4, 2) := by decide +kernel
theorem dL_law_242 : decode cL_law 242 = .ok (.iconst 5, 1) := by decide +kernel
theorem dL_law_243 : decode cL_law 243 = .ok (.iadd, 1) := by decide +kernel
theorem dL_law_244 : decode cL_law 244 = .ok (.iaload, 1) := by decide +kernel
theorem dL_law_245 : decode cL_law 245 = .ok (.invokevirtual 25, 3) := by decide +kernel
theorem dL_law_248 : decode cL_law 248 = .ok (.if_icmp .eq 995, 3) := by decide +kernel
theorem dL_law_251 : decode cL_law 251 = .ok (.iconst 0, 1) := by decide +kernel
theorem dL_law_252 : decode cL_law 252 = .ok (.ireturn, 1) := by decide +kernel
theorem dL_law_253 : decode cL_law 253 = .ok (.aload_n 1, 1) := by decide +kernel
theorem dL_law_254 : decode cL_law 254 = .ok (.aload_n 0, 1) := by decide +kernel
theorem dL_law_255 : decode cL_law 255 = .ok (.iload 4, 2) := by decide +kernel
theorem dL_law_257 : decode cL_law 257 = .ok (.iconst 1, 1) := by decide +kernel
theorem dL_law_258 : decode cL_law 258 = .ok (.iadd, 1) := by decide +kernel
theorem dL_law_259 : decode cL_law 259 = .ok (.iaload, 1) := by decide +kernel
theorem dL_law_260 : decode cL_law 260 = .ok (.invokevirtual 26, 3) := by decide +kernel
theorem dL_law_263 : decode cL_law 263 = .ok (.aload_n 2, 1) := by decide +kernel
theorem dL_law_264 : decode cL_law 264 = .ok (.aload_n 0, 1) := by decide +kernel
theorem dL_law_265 : decode cL_law 265 = .ok (.iload 4, 2) := by decide +kernel
theorem dL_law_267 : decode cL_law 267 = .ok (.iconst 1, 1) := by decide +kernel
theorem dL_law_268 : decode cL_law 268 = .ok (.iadd, 1) := by decide +kernel
theorem dL_law_269 : decode cL_law 269 = .ok (.iaload, 1) := by decide +kernel
theorem dL_law_270 : decode cL_law 270 = .ok (.invokevirtual 30, 3) := by decide +kernel
theorem dL_law_273 : decode cL_law 273 = .ok (.if_icmp .eq 970, 3) := by decide +kernel
theorem dL_law_276 : decode cL_law 276 = .ok (.iconst 0, 1) := by decide +kernel
theorem dL_law_277 : decode cL_law 277 = .ok (.ireturn, 1) := by decide +kernel
theorem dL_law_278 : decode cL_law 278 = .ok (.aload_n 1, 1) := by decide +kernel
theorem dL_law_279 : decode cL_law 279 = .ok (.aload_n 0, 1) := by decide +kernel
theorem dL_law_280 : decode cL_law 280 = .ok (.iload 4, 2) := by decide +kernel
theorem dL_law_282 : decode cL_law 282 = .ok (.iconst 1, 1) := by decide +kernel
theorem dL_law_283 : decode cL_law 283 = .ok (.iadd, 1) := by decide +kernel
theorem dL_law_284 : decode cL_law 284 = .ok (.iaload, 1) := by decide +kernel
theorem dL_law_285 : decode cL_law 285 = .ok (.invokevirtual 31, 3) := by decide +kernel
theorem dL_law_288 : decode cL_law 288 = .ok (.aload_n 2, 1) := by decide +kernel
theorem dL_law_289 : decode cL_law 289 = .ok (.aload_n 0, 1) := by decide +kernel
theorem dL_law_290 : decode cL_law 290 = .ok (.iload 4, 2) := by decide +kernel
theorem dL_law_292 : decode cL_law 292 = .ok (.iconst 1, 1) := by decide +kernel
theorem dL_law_293 : decode cL_law 293 = .ok (.iadd, 1) := by decide +kernel
theorem dL_law_294 : decode cL_law 294 = .ok (.iaload, 1) := by decide +kernel
theorem dL_law_295 : decode cL_law 295 = .ok (.invokevirtual 34, 3) := by decide +kernel
theorem dL_law_298 : decode cL_law 298 = .ok (.if_icmp .eq 945, 3) := by decide +kernel
theorem dL_law_301 : decode cL_law 301 = .ok (.iconst 0, 1) := by decide +kernel
theorem dL_law_302 : decode cL_law 302 = .ok (.ireturn, 1) := by decide +kernel
theorem dL_law_303 : decode cL_law 303 = .ok (.aload_n 1, 1) := by decide +kernel
theorem dL_law_304 : decode cL_law 304 = .ok (.aload_n 0, 1) := by decide +kernel
theorem dL_law_305 : decode cL_law 305 = .ok (.iload 4, 2) := by decide +kernel
theorem dL_law_307 : decode cL_law 307 = .ok (.iconst 1, 1) := by decide +kernel
theorem dL_law_308 : decode cL_law 308 = .ok (.iadd, 1) := by decide +kernel
theorem dL_law_309 : decode cL_law 309 = .ok (.iaload, 1) := by decide +kernel
theorem dL_law_310 : decode cL_law 310 = .ok (.aload_n 0, 1) := by decide +kernel
theorem dL_law_311 : decode cL_law 311 = .ok (.iload 4, 2) := by decide +kernel
theorem dL_law_313 : decode cL_law 313 = .ok (.iconst 2, 1) := by decide +kernel
theorem dL_law_314 : decode cL_law 314 = .ok (.iadd, 1) := by decide +kernel
theorem dL_law_315 : decode cL_law 315 = .ok (.iaload, 1) := by decide +kernel
theorem dL_law_316 : decode cL_law 316 = .ok (.invokevirtual 35, 3) := by decide +kernel
theorem dL_law_319 : decode cL_law 319 = .ok (.aload_n 2, 1) := by decide +kernel
theorem dL_law_320 : decode cL_law 320 = .ok (.aload_n 0, 1) := by decide +kernel
theorem dL_law_321 : decode cL_law 321 = .ok (.iload 4, 2) := by decide +kernel
theorem dL_law_323 : decode cL_law 323 = .ok (.iconst 1, 1) := by decide +kernel
theorem dL_law_324 : decode cL_law 324 = .ok (.iadd, 1) := by decide +kernel
theorem dL_law_325 : decode cL_law 325 = .ok (.iaload, 1) := by decide +kernel
theorem dL_law_326 : decode cL_law 326 = .ok (.aload_n 0, 1) := by decide +kernel
theorem dL_law_327 : decode cL_law 327 = .ok (.iload 4, 2) := by decide +kernel
theorem dL_law_329 : decode cL_law 329 = .ok (.iconst 2, 1) := by decide +kernel
theorem dL_law_330 : decode cL_law 330 = .ok (.iadd, 1) := by decide +kernel
theorem dL_law_331 : decode cL_law 331 = .ok (.iaload, 1) := by decide +kernel
theorem dL_law_332 : decode cL_law 332 = .ok (.invokevirtual 38, 3) := by decide +kernel
theorem dL_law_335 : decode cL_law 335 = .ok (.if_icmp .eq 908, 3) := by decide +kernel
theorem dL_law_338 : decode cL_law 338 = .ok (.iconst 0, 1) := by decide +kernel
theorem dL_law_339 : decode cL_law 339 = .ok (.ireturn, 1) := by decide +kernel
theorem dL_law_340 : decode cL_law 340 = .ok (.aload_n 1, 1) := by decide +kernel
theorem dL_law_341 : decode cL_law 341 = .ok (.aload_n 0, 1) := by decide +kernel
theorem dL_law_342 : decode cL_law 342 = .ok (.iload 4, 2) := by decide +kernel
theorem dL_law_344 : decode cL_law 344 = .ok (.iconst 1, 1) := by decide +kernel
theorem dL_law_345 : decode cL_law 345 = .ok (.iadd, 1) := by decide +kernel
theorem dL_law_346 : decode cL_law 346 = .ok (.iaload, 1) := by decide +kernel
theorem dL_law_347 : decode cL_law 347 = .ok (.aload_n 0, 1) := by decide +kernel
theorem dL_law_348 : decode cL_law 348 = .ok (.iload 4, 2) := by decide +kernel
theorem dL_law_350 : decode cL_law 350 = .ok (.iconst 2, 1) := by decide +kernel
theorem dL_law_351 : decode cL_law 351 = .ok (.iadd, 1) := by decide +kernel
theorem dL_law_352 : decode cL_law 352 = .ok (.iaload, 1) := by decide +kernel
theorem dL_law_353 : decode cL_law 353 = .ok (.aload_n 3, 1) := by decide +kernel
theorem dL_law_354 : decode cL_law 354 = .ok (.invokestatic 39, 3) := by decide +kernel
theorem dL_law_357 : decode cL_law 357 = .ok (.istore 5, 2) := by decide +kernel
theorem dL_law_359 : decode cL_law 359 = .ok (.aload_n 2, 1) := by decide +kernel
theorem dL_law_360 : decode cL_law 360 = .ok (.aload_n 0, 1) := by decide +kernel
theorem dL_law_361 : decode cL_law 361 = .ok (.iload 4, 2) := by decide +kernel
theorem dL_law_363 : decode cL_law 363 = .ok (.iconst 1, 1) := by decide +kernel
theorem dL_law_364 : decode cL_law 364 = .ok (.iadd, 1) := by decide +kernel
theorem dL_law_365 : decode cL_law 365 = .ok (.iaload, 1) := by decide +kernel
theorem dL_law_366 : decode cL_law 366 = .ok (.aload_n 0, 1) := by decide +kernel
theorem dL_law_367 : decode cL_law 367 = .ok (.iload 4, 2) := by decide +kernel
theorem dL_law_369 : decode cL_law 369 = .ok (.iconst 2, 1) := by decide +kernel
theorem dL_law_370 : decode cL_law 370 = .ok (.iadd, 1) := by decide +kernel
theorem dL_law_371 : decode cL_law 371 = .ok (.iaload, 1) := by decide +kernel
theorem dL_law_372 : decode cL_law 372 = .ok (.invokevirtual 44, 3) := by decide +kernel
theorem dL_law_375 : decode cL_law 375 = .ok (.istore 6, 2) := by decide +kernel
theorem dL_law_377 : decode cL_law 377 = .ok (.aload_n 2, 1) := by decide +kernel
theorem dL_law_378 : decode cL_law 378 = .ok (.invokevirtual 45, 3) := by decide +kernel
theorem dL_law_381 : decode cL_law 381 = .ok (.iload 5, 2) := by decide +kernel
theorem dL_law_383 : decode cL_law 383 = .ok (.if_icmp .eq 5, 3) := by decide +kernel
theorem dL_law_386 : decode cL_law 386 = .ok (.iconst 0, 1) := by decide +kernel
theorem dL_law_387 : decode cL_law 387 = .ok (.ireturn, 1) := by decide +kernel
theorem dL_law_388 : decode cL_law 388 = .ok (.iload 5, 2) := by decide +kernel
theorem dL_law_390 : decode cL_law 390 = .ok (.ifCond .ne 15, 3) := by decide +kernel
theorem dL_law_393 : decode cL_law 393 = .ok (.aload_n 3, 1) := by decide +kernel
theorem dL_law_394 : decode cL_law 394 = .ok (.iconst 0, 1) := by decide +kernel
theorem dL_law_395 : decode cL_law 395 = .ok (.laload, 1) := by decide +kernel
theorem dL_law_396 : decode cL_law 396 = .ok (.iload 6, 2) := by decide +kernel
theorem dL_law_398 : decode cL_law 398 = .ok (.i2l, 1) := by decide +kernel
theorem dL_law_399 : decode cL_law 399 = .ok (.lcmp, 1) := by decide +kernel
theorem dL_law_400 : decode cL_law 400 = .ok (.ifCond .eq 5, 3) := by decide +kernel
theorem dL_law_403 : decode cL_law 403 = .ok (.iconst 0, 1) := by decide +kernel
theorem dL_law_404 : decode cL_law 404 = .ok (.ireturn, 1) := by decide +kernel
theorem dL_law_405 : decode cL_law 405 = .ok (.goto 838, 3) := by decide +kernel
theorem dL_law_408 : decode cL_law 408 = .ok (.aload_n 1, 1) := by decide +kernel
theorem dL_law_409 : decode cL_law 409 = .ok (.aload_n 0, 1) := by decide +kernel
theorem dL_law_410 : decode cL_law 410 = .ok (.iload 4, 2) := by decide +kernel
theorem dL_law_412 : decode cL_law 412 = .ok (.iconst 1, 1) := by decide +kernel
theorem dL_law_413 : decode cL_law 413 = .ok (.iadd, 1) := by decide +kernel
theorem dL_law_414 : decode cL_law 414 = .ok (.iaload, 1) := by decide +kernel
theorem dL_law_415 : decode cL_law 415 = .ok (.aload_n 0, 1) := by decide +kernel
theorem dL_law_416 : decode cL_law 416 = .ok (.iload 4, 2) := by decide +kernel
theorem dL_law_418 : decode cL_law 418 = .ok (.iconst 2, 1) := by decide +kernel
theorem dL_law_419 : decode cL_law 419 = .ok (.iadd, 1) := by decide +kernel
theorem dL_law_420 : decode cL_law 420 = .ok (.iaload, 1) := by decide +kernel
theorem dL_law_421 : decode cL_law 421 = .ok (.invokevirtual 49, 3) := by decide +kernel
theorem dL_law_424 : decode cL_law 424 = .ok (.aload_n 2, 1) := by decide +kernel
theorem dL_law_425 : decode cL_law 425 = .ok (.aload_n 0, 1) := by decide +kernel
theorem dL_law_426 : decode cL_law 426 = .ok (.iload 4, 2) := by decide +kernel
theorem dL_law_428 : decode cL_law 428 = .ok (.iconst 1, 1) := by decide +kernel
theorem dL_law_429 : decode cL_law 429 = .ok (.iadd, 1) := by decide +kernel
theorem dL_law_430 : decode cL_law 430 = .ok (.iaload, 1) := by decide +kernel
theorem dL_law_431 : decode cL_law 431 = .ok (.aload_n 0, 1) := by decide +kernel
theorem dL_law_432 : decode cL_law 432 = .ok (.iload 4, 2) := by decide +kernel
theorem dL_law_434 : decode cL_law 434 = .ok (.iconst 2, 1) := by decide +kernel
theorem dL_law_435 : decode cL_law 435 = .ok (.iadd, 1) := by decide +kernel
theorem dL_law_436 : decode cL_law 436 = .ok (.iaload, 1) := by decide +kernel
theorem dL_law_437 : decode cL_law 437 = .ok (.invokevirtual 52, 3) := by decide +kernel
theorem dL_law_440 : decode cL_law 440 = .ok (.if_icmp .eq 803, 3) := by decide +kernel
theorem dL_law_443 : decode cL_law 443 = .ok (.iconst 0, 1) := by decide +kernel
theorem dL_law_444 : decode cL_law 444 = .ok (.ireturn, 1) := by decide +kernel
theorem dL_law_445 : decode cL_law 445 = .ok (.aload_n 1, 1) := by decide +kernel
theorem dL_law_446 : decode cL_law 446 = .ok (.aload_n 0, 1) := by decide +kernel
theorem dL_law_447 : decode cL_law 447 = .ok (.iload 4, 2) := by decide +kernel
theorem dL_law_449 : decode cL_law 449 = .ok (.iconst 1, 1) := by decide +kernel
theorem dL_law_450 : decode cL_law 450 = .ok (.iadd, 1) := by decide +kernel
theorem dL_law_451 : decode cL_law 451 = .ok (.iaload, 1) := by decide +kernel
theorem dL_law_452 : decode cL_law 452 = .ok (.aload_n 0, 1) := by decide +kernel
theorem dL_law_453 : decode cL_law 453 = .ok (.iload 4, 2) := by decide +kernel
theorem dL_law_455 : decode cL_law 455 = .ok (.iconst 2, 1) := by decide +kernel
theorem dL_law_456 : decode cL_law 456 = .ok (.iadd, 1) := by decide +kernel
theorem dL_law_457 : decode cL_law 457 = .ok (.iaload, 1) := by decide +kernel
theorem dL_law_458 : decode cL_law 458 = .ok (.invokevirtual 53, 3) := by decide +kernel
theorem dL_law_461 : decode cL_law 461 = .ok (.aload_n 2, 1) := by decide +kernel
theorem dL_law_462 : decode cL_law 462 = .ok (.aload_n 0, 1) := by decide +kernel
theorem dL_law_463 : decode cL_law 463 = .ok (.iload 4, 2) := by decide +kernel
theorem dL_law_465 : decode cL_law 465 = .ok (.iconst 1, 1) := by decide +kernel
theorem dL_law_466 : decode cL_law 466 = .ok (.iadd, 1) := by decide +kernel
theorem dL_law_467 : decode cL_law 467 = .ok (.iaload, 1) := by decide +kernel
theorem dL_law_468 : decode cL_law 468 = .ok (.aload_n 0, 1) := by decide +kernel
theorem dL_law_469 : decode cL_law 469 = .ok (.iload 4, 2) := by decide +kernel
theorem dL_law_471 : decode cL_law 471 = .ok (.iconst 2, 1) := by decide +kernel
theorem dL_law_472 : decode cL_law 472 = .ok (.iadd, 1) := by decide +kernel
theorem dL_law_473 : decode cL_law 473 = .ok (.iaload, 1) := by decide +kernel
theorem dL_law_474 : decode cL_law 474 = .ok (.invokevirtual 56, 3) := by decide +kernel
theorem dL_law_477 : decode cL_law 477 = .ok (.if_icmp .eq 766, 3) := by decide +kernel
theorem dL_law_480 : decode cL_law 480 = .ok (.iconst 0, 1) := by decide +kernel
theorem dL_law_481 : decode cL_law 481 = .ok (.ireturn, 1) := by decide +kernel
theorem dL_law_482 : decode cL_law 482 = .ok (.aload_n 1, 1) := by decide +kernel
theorem dL_law_483 : decode cL_law 483 = .ok (.aload_n 0, 1) := by decide +kernel
theorem dL_law_484 : decode cL_law 484 = .ok (.iload 4, 2) := by decide +kernel
theorem dL_law_486 : decode cL_law 486 = .ok (.iconst 1, 1) := by decide +kernel
theorem dL_law_487 : decode cL_law 487 = .ok (.iadd, 1) := by decide +kernel
theorem dL_law_488 : decode cL_law 488 = .ok (.iaload, 1) := by decide +kernel
theorem dL_law_489 : decode cL_law 489 = .ok (.ifCond .eq 7, 3) := by decide +kernel
theorem dL_law_492 : decode cL_law 492 = .ok (.iconst 1, 1) := by decide +kernel
theorem dL_law_493 : decode cL_law 493 = .ok (.goto 4, 3) := by decide +kernel
theorem dL_law_496 : decode cL_law 496 = .ok (.iconst 0, 1) := by decide +kernel
theorem dL_law_497 : decode cL_law 497 = .ok (.aload_n 0, 1) := by decide +kernel
theorem dL_law_498 : decode cL_law 498 = .ok (.iload 4, 2) := by decide +kernel
theorem dL_law_500 : decode cL_law 500 = .ok (.iconst 2, 1) := by decide +kernel
theorem dL_law_501 : decode cL_law 501 = .ok (.iadd, 1) := by decide +kernel
theorem dL_law_502 : decode cL_law 502 = .ok (.iaload, 1) := by decide +kernel
theorem dL_law_503 : decode cL_law 503 = .ok (.aload_n 0, 1) := by decide +kernel
theorem dL_law_504 : decode cL_law 504 = .ok (.iload 4, 2) := by decide +kernel
theorem dL_law_506 : decode cL_law 506 = .ok (.iconst 3, 1) := by decide +kernel
theorem dL_law_507 : decode cL_law 507 = .ok (.iadd, 1) := by decide +kernel
theorem dL_law_508 : decode cL_law 508 = .ok (.iaload, 1) := by decide +kernel
theorem dL_law_509 : decode cL_law 509 = .ok (.aload_n 0, 1) := by decide +kernel
theorem dL_law_510 : decode cL_law 510 = .ok (.iload 4, 2) := by decide +kernel
theorem dL_law_512 : decode cL_law 512 = .ok (.iconst 4, 1) := by decide +kernel
theorem dL_law_513 : decode cL_law 513 = .ok (.iadd, 1) := by decide +kernel
theorem dL_law_514 : decode cL_law 514 = .ok (.iaload, 1) := by decide +kernel
theorem dL_law_515 : decode cL_law 515 = .ok (.aload_n 0, 1) := by decide +kernel
theorem dL_law_516 : decode cL_law 516 = .ok (.iload 4, 2) := by decide +kernel
theorem dL_law_518 : decode cL_law 518 = .ok (.iconst 5, 1) := by decide +kernel
theorem dL_law_519 : decode cL_law 519 = .ok (.iadd, 1) := by decide +kernel
theorem dL_law_520 : decode cL_law 520 = .ok (.iaload, 1) := by decide +kernel
theorem dL_law_521 : decode cL_law 521 = .ok (.invokevirtual 57, 3) := by decide +kernel
theorem dL_law_524 : decode cL_law 524 = .ok (.aload_n 2, 1) := by decide +kernel
theorem dL_law_525 : decode cL_law 525 = .ok (.aload_n 0, 1) := by decide +kernel
theorem dL_law_526 : decode cL_law 526 = .ok (.iload 4, 2) := by decide +kernel
theorem dL_law_528 : decode cL_law 528 = .ok (.iconst 1, 1) := by decide +kernel
theorem dL_law_529 : decode cL_law 529 = .ok (.iadd, 1) := by decide +kernel
theorem dL_law_530 : decode cL_law 530 = .ok (.iaload, 1) := by decide +kernel
theorem dL_law_531 : decode cL_law 531 = .ok (.ifCond .eq 7, 3) := by decide +kernel
theorem dL_law_534 : decode cL_law 534 = .ok (.iconst 1, 1) := by decide +kernel
theorem dL_law_535 : decode cL_law 535 = .ok (.goto 4, 3) := by decide +kernel
theorem dL_law_538 : decode cL_law 538 = .ok (.iconst 0, 1) := by decide +kernel
theorem dL_law_539 : decode cL_law 539 = .ok (.aload_n 0, 1) := by decide +kernel
theorem dL_law_540 : decode cL_law 540 = .ok (.iload 4, 2) := by decide +kernel
theorem dL_law_542 : decode cL_law 542 = .ok (.iconst 2, 1) := by decide +kernel
theorem dL_law_543 : decode cL_law 543 = .ok (.iadd, 1) := by decide +kernel
theorem dL_law_544 : decode cL_law 544 = .ok (.iaload, 1) := by decide +kernel
theorem dL_law_545 : decode cL_law 545 = .ok (.aload_n 0, 1) := by decide +kernel
theorem dL_law_546 : decode cL_law 546 = .ok (.iload 4, 2) := by decide +kernel
theorem dL_law_548 : decode cL_law 548 = .ok (.iconst 3, 1) := by decide +kernel
theorem dL_law_549 : decode cL_law 549 = .ok (.iadd, 1) := by decide +kernel
theorem dL_law_550 : decode cL_law 550 = .ok (.iaload, 1) := by decide +kernel
theorem dL_law_551 : decode cL_law 551 = .ok (.aload_n 0, 1) := by decide +kernel
theorem dL_law_552 : decode cL_law 552 = .ok (.iload 4, 2) := by decide +kernel
theorem dL_law_554 : decode cL_law 554 = .ok (.iconst 4, 1) := by decide +kernel
theorem dL_law_555 : decode cL_law 555 = .ok (.iadd, 1) := by decide +kernel
theorem dL_law_556 : decode cL_law 556 = .ok (.iaload, 1) := by decide +kernel
theorem dL_law_557 : decode cL_law 557 = .ok (.aload_n 0, 1) := by decide +kernel
theorem dL_law_558 : decode cL_law 558 = .ok (.iload 4, 2) := by decide +kernel
theorem dL_law_560 : decode cL_law 560 = .ok (.iconst 5, 1) := by decide +kernel
theorem dL_law_561 : decode cL_law 561 = .ok (.iadd, 1) := by decide +kernel
theorem dL_law_562 : decode cL_law 562 = .ok (.iaload, 1) := by decide +kernel
theorem dL_law_563 : decode cL_law 563 = .ok (.invokevirtual 61, 3) := by decide +kernel
theorem dL_law_566 : decode cL_law 566 = .ok (.if_icmp .eq 677, 3) := by decide +kernel
theorem dL_law_569 : decode cL_law 569 = .ok (.iconst 0, 1) := by decide +kernel
theorem dL_law_570 : decode cL_law 570 = .ok (.ireturn, 1) := by decide +kernel
theorem dL_law_571 : decode cL_law 571 = .ok (.aload_n 1, 1) := by decide +kernel
theorem dL_law_572 : decode cL_law 572 = .ok (.invokevirtual 62, 3) := by decide +kernel
theorem dL_law_575 : decode cL_law 575 = .ok (.aload_n 2, 1) := by decide +kernel
theorem dL_law_576 : decode cL_law 576 = .ok (.invokevirtual 65, 3) := by decide +kernel
theorem dL_law_579 : decode cL_law 579 = .ok (.if_icmp .eq 664, 3) := by decide +kernel
theorem dL_law_582 : decode cL_law 582 = .ok (.iconst 0, 1) := by decide +kernel
theorem dL_law_583 : decode cL_law 583 = .ok (.ireturn, 1) := by decide +kernel
theorem dL_law_584 : decode cL_law 584 = .ok (.aload_n 1, 1) := by decide +kernel
theorem dL_law_585 : decode cL_law 585 = .ok (.aload_n 0, 1) := by decide +kernel
theorem dL_law_586 : decode cL_law 586 = .ok (.iload 4, 2) := by decide +kernel
theorem dL_law_588 : decode cL_law 588 = .ok (.iconst 1, 1) := by decide +kernel
theorem dL_law_589 : decode cL_law 589 = .ok (.iadd, 1) := by decide +kernel
theorem dL_law_590 : decode cL_law 590 = .ok (.iaload, 1) := by decide +kernel
theorem dL_law_591 : decode cL_law 591 = .ok (.invokevirtual 66, 3) := by decide +kernel
theorem dL_law_594 : decode cL_law 594 = .ok (.aload_n 2, 1) := by decide +kernel
theorem dL_law_595 : decode cL_law 595 = .ok (.aload_n 0, 1) := by decide +kernel
theorem dL_law_596 : decode cL_law 596 = .ok (.iload 4, 2) := by decide +kernel
theorem dL_law_598 : decode cL_law 598 = .ok (.iconst 1, 1) := by decide +kernel
theorem dL_law_599 : decode cL_law 599 = .ok (.iadd, 1) := by decide +kernel
theorem dL_law_600 : decode cL_law 600 = .ok (.iaload, 1) := by decide +kernel
theorem dL_law_601 : decode cL_law 601 = .ok (.invokevirtual 69, 3) := by decide +kernel
theorem dL_law_604 : decode cL_law 604 = .ok (.if_icmp .eq 639, 3) := by decide +kernel
theorem dL_law_607 : decode cL_law 607 = .ok (.iconst 0, 1) := by decide +kernel
theorem dL_law_608 : decode cL_law 608 = .ok (.ireturn, 1) := by decide +kernel
theorem dL_law_609 : decode cL_law 609 = .ok (.aload_n 1, 1) := by decide +kernel
theorem dL_law_610 : decode cL_law 610 = .ok (.aload_n 0, 1) := by decide +kernel
theorem dL_law_611 : decode cL_law 611 = .ok (.iload 4, 2) := by decide +kernel
theorem dL_law_613 : decode cL_law 613 = .ok (.iconst 1, 1) := by decide +kernel
theorem dL_law_614 : decode cL_law 614 = .ok (.iadd, 1) := by decide +kernel
theorem dL_law_615 : decode cL_law 615 = .ok (.iaload, 1) := by decide +kernel
theorem dL_law_616 : decode cL_law 616 = .ok (.invokevirtual 70, 3) := by decide +kernel
theorem dL_law_619 : decode cL_law 619 = .ok (.aload_n 2, 1) := by decide +kernel
theorem dL_law_620 : decode cL_law 620 = .ok (.aload_n 0, 1) := by decide +kernel
theorem dL_law_621 : decode cL_law 621 = .ok (.iload 4, 2) := by decide +kernel
theorem dL_law_623 : decode cL_law 623 = .ok (.iconst 1, 1) := by decide +kernel
theorem dL_law_624 : decode cL_law 624 = .ok (.iadd, 1) := by decide +kernel
theorem dL_law_625 : decode cL_law 625 = .ok (.iaload, 1) := by decide +kernel
theorem dL_law_626 : decode cL_law 626 = .ok (.invokevirtual 73, 3) := by decide +kernel
theorem dL_law_629 : decode cL_law 629 = .ok (.if_icmp .eq 614, 3) := by decide +kernel
theorem dL_law_632 : decode cL_law 632 = .ok (.iconst 0, 1) := by decide +kernel
theorem dL_law_633 : decode cL_law 633 = .ok (.ireturn, 1) := by decide +kernel
theorem dL_law_634 : decode cL_law 634 = .ok (.aload_n 1, 1) := by decide +kernel
theorem dL_law_635 : decode cL_law 635 = .ok (.aload_n 0, 1) := by decide +kernel
theorem dL_law_636 : decode cL_law 636 = .ok (.iload 4, 2) := by decide +kernel
theorem dL_law_638 : decode cL_law 638 = .ok (.iconst 1, 1) := by decide +kernel
theorem dL_law_639 : decode cL_law 639 = .ok (.iadd, 1) := by decide +kernel
theorem dL_law_640 : decode cL_law 640 = .ok (.iaload, 1) := by decide +kernel
theorem dL_law_641 : decode cL_law 641 = .ok (.invokevirtual 74, 3) := by decide +kernel
theorem dL_law_644 : decode cL_law 644 = .ok (.aload_n 2, 1) := by decide +kernel
theorem dL_law_645 : decode cL_law 645 = .ok (.aload_n 0, 1) := by decide +kernel
theorem dL_law_646 : decode cL_law 646 = .ok (.iload 4, 2) := by decide +kernel
theorem dL_law_648 : decode cL_law 648 = .ok (.iconst 1, 1) := by decide +kernel
theorem dL_law_649 : decode cL_law 649 = .ok (.iadd, 1) := by decide +kernel
theorem dL_law_650 : decode cL_law 650 = .ok (.iaload, 1) := by decide +kernel
theorem dL_law_651 : decode cL_law 651 = .ok (.invokevirtual 77, 3) := by decide +kernel
theorem dL_law_654 : decode cL_law 654 = .ok (.if_icmp .eq 589, 3) := by decide +kernel
theorem dL_law_657 : decode cL_law 657 = .ok (.iconst 0, 1) := by decide +kernel
theorem dL_law_658 : decode cL_law 658 = .ok (.ireturn, 1) := by decide +kernel
theorem dL_law_659 : decode cL_law 659 = .ok (.aload_n 1, 1) := by decide +kernel
theorem dL_law_660 : decode cL_law 660 = .ok (.aload_n 0, 1) := by decide +kernel
theorem dL_law_661 : decode cL_law 661 = .ok (.iload 4, 2) := by decide +kernel
theorem dL_law_663 : decode cL_law 663 = .ok (.iconst 1, 1) := by decide +kernel
theorem dL_law_664 : decode cL_law 664 = .ok (.iadd, 1) := by decide +kernel
theorem dL_law_665 : decode cL_law 665 = .ok (.iaload, 1) := by decide +kernel
theorem dL_law_666 : decode cL_law 666 = .ok (.aload_n 0, 1) := by decide +kernel
theorem dL_law_667 : decode cL_law 667 = .ok (.iload 4, 2) := by decide +kernel
theorem dL_law_669 : decode cL_law 669 = .ok (.iconst 2, 1) := by decide +kernel
theorem dL_law_670 : decode cL_law 670 = .ok (.iadd, 1) := by decide +kernel
theorem dL_law_671 : decode cL_law 671 = .ok (.iaload, 1) := by decide +kernel
theorem dL_law_672 : decode cL_law 672 = .ok (.invokevirtual 78, 3) := by decide +kernel
theorem dL_law_675 : decode cL_law 675 = .ok (.aload_n 2, 1) := by decide +kernel
theorem dL_law_676 : decode cL_law 676 = .ok (.aload_n 0, 1) := by decide +kernel
theorem dL_law_677 : decode cL_law 677 = .ok (.iload 4, 2) := by decide +kernel
theorem dL_law_679 : decode cL_law 679 = .ok (.iconst 1, 1) := by decide +kernel
theorem dL_law_680 : decode cL_law 680 = .ok (.iadd, 1) := by decide +kernel
theorem dL_law_681 : decode cL_law 681 = .ok (.iaload, 1) := by decide +kernel
theorem dL_law_682 : decode cL_law 682 = .ok (.aload_n 0, 1) := by decide +kernel
theorem dL_law_683 : decode cL_law 683 = .ok (.iload 4, 2) := by decide +kernel
theorem dL_law_685 : decode cL_law 685 = .ok (.iconst 2, 1) := by decide +kernel
theorem dL_law_686 : decode cL_law 686 = .ok (.iadd, 1) := by decide +kernel
theorem dL_law_687 : decode cL_law 687 = .ok (.iaload, 1) := by decide +kernel
theorem dL_law_688 : decode cL_law 688 = .ok (.invokevirtual 81, 3) := by decide +kernel
theorem dL_law_691 : decode cL_law 691 = .ok (.if_icmp .eq 552, 3) := by decide +kernel
theorem dL_law_694 : decode cL_law 694 = .ok (.iconst 0, 1) := by decide +kernel
theorem dL_law_695 : decode cL_law 695 = .ok (.ireturn, 1) := by decide +kernel
theorem dL_law_696 : decode cL_law 696 = .ok (.aload_n 1, 1) := by decide +kernel
theorem dL_law_697 : decode cL_law 697 = .ok (.aload_n 0, 1) := by decide +kernel
theorem dL_law_698 : decode cL_law 698 = .ok (.iload 4, 2) := by decide +kernel
theorem dL_law_700 : decode cL_law 700 = .ok (.iconst 1, 1) := by decide +kernel
theorem dL_law_701 : decode cL_law 701 = .ok (.iadd, 1) := by decide +kernel
theorem dL_law_702 : decode cL_law 702 = .ok (.iaload, 1) := by decide +kernel
theorem dL_law_703 : decode cL_law 703 = .ok (.invokevirtual 82, 3) := by decide +kernel
theorem dL_law_706 : decode cL_law 706 = .ok (.aload_n 2, 1) := by decide +kernel
theorem dL_law_707 : decode cL_law 707 = .ok (.aload_n 0, 1) := by decide +kernel
theorem dL_law_708 : decode cL_law 708 = .ok (.iload 4, 2) := by decide +kernel
theorem dL_law_710 : decode cL_law 710 = .ok (.iconst 1, 1) := by decide +kernel
theorem dL_law_711 : decode cL_law 711 = .ok (.iadd, 1) := by decide +kernel
theorem dL_law_712 : decode cL_law 712 = .ok (.iaload, 1) := by decide +kernel
theorem dL_law_713 : decode cL_law 713 = .ok (.invokevirtual 86, 3) := by decide +kernel
theorem dL_law_716 : decode cL_law 716 = .ok (.if_icmp .eq 527, 3) := by decide +kernel
theorem dL_law_719 : decode cL_law 719 = .ok (.iconst 0, 1) := by decide +kernel
theorem dL_law_720 : decode cL_law 720 = .ok (.ireturn, 1) := by decide +kernel
theorem dL_law_721 : decode cL_law 721 = .ok (.aload_n 1, 1) := by decide +kernel
theorem dL_law_722 : decode cL_law 722 = .ok (.aload_n 0, 1) := by decide +kernel
theorem dL_law_723 : decode cL_law 723 = .ok (.iload 4, 2) := by decide +kernel
theorem dL_law_725 : decode cL_law 725 = .ok (.iconst 1, 1) := by decide +kernel
theorem dL_law_726 : decode cL_law 726 = .ok (.iadd, 1) := by decide +kernel
theorem dL_law_727 : decode cL_law 727 = .ok (.iaload, 1) := by decide +kernel
theorem dL_law_728 : decode cL_law 728 = .ok (.aload_n 0, 1) := by decide +kernel
theorem dL_law_729 : decode cL_law 729 = .ok (.iload 4, 2) := by decide +kernel
theorem dL_law_731 : decode cL_law 731 = .ok (.iconst 2, 1) := by decide +kernel
theorem dL_law_732 : decode cL_law 732 = .ok (.iadd, 1) := by decide +kernel
theorem dL_law_733 : decode cL_law 733 = .ok (.iaload, 1) := by decide +kernel
theorem dL_law_734 : decode cL_law 734 = .ok (.invokevirtual 87, 3) := by decide +kernel
theorem dL_law_737 : decode cL_law 737 = .ok (.aload_n 2, 1) := by decide +kernel
theorem dL_law_738 : decode cL_law 738 = .ok (.aload_n 0, 1) := by decide +kernel
theorem dL_law_739 : decode cL_law 739 = .ok (.iload 4, 2) := by decide +kernel
theorem dL_law_741 : decode cL_law 741 = .ok (.iconst 1, 1) := by decide +kernel
theorem dL_law_742 : decode cL_law 742 = .ok (.iadd, 1) := by decide +kernel
theorem dL_law_743 : decode cL_law 743 = .ok (.iaload, 1) := by decide +kernel
theorem dL_law_744 : decode cL_law 744 = .ok (.aload_n 0, 1) := by decide +kernel
theorem dL_law_745 : decode cL_law 745 = .ok (.iload 4, 2) := by decide +kernel
theorem dL_law_747 : decode cL_law 747 = .ok (.iconst 2, 1) := by decide +kernel
theorem dL_law_748 : decode cL_law 748 = .ok (.iadd, 1) := by decide +kernel
theorem dL_law_749 : decode cL_law 749 = .ok (.iaload, 1) := by decide +kernel
theorem dL_law_750 : decode cL_law 750 = .ok (.invokevirtual 91, 3) := by decide +kernel
theorem dL_law_753 : decode cL_law 753 = .ok (.if_icmp .eq 490, 3) := by decide +kernel
theorem dL_law_756 : decode cL_law 756 = .ok (.iconst 0, 1) := by decide +kernel
theorem dL_law_757 : decode cL_law 757 = .ok (.ireturn, 1) := by decide +kernel
theorem dL_law_758 : decode cL_law 758 = .ok (.aload_n 1, 1) := by decide +kernel
theorem dL_law_759 : decode cL_law 759 = .ok (.aload_n 0, 1) := by decide +kernel
theorem dL_law_760 : decode cL_law 760 = .ok (.iload 4, 2) := by decide +kernel
theorem dL_law_762 : decode cL_law 762 = .ok (.iconst 1, 1) := by decide +kernel
theorem dL_law_763 : decode cL_law 763 = .ok (.iadd, 1) := by decide +kernel
theorem dL_law_764 : decode cL_law 764 = .ok (.iaload, 1) := by decide +kernel
theorem dL_law_765 : decode cL_law 765 = .ok (.aload_n 0, 1) := by decide +kernel
theorem dL_law_766 : decode cL_law 766 = .ok (.iload 4, 2) := by decide +kernel
theorem dL_law_768 : decode cL_law 768 = .ok (.iconst 2, 1) := by decide +kernel
theorem dL_law_769 : decode cL_law 769 = .ok (.iadd, 1) := by decide +kernel
theorem dL_law_770 : decode cL_law 770 = .ok (.iaload, 1) := by decide +kernel
theorem dL_law_771 : decode cL_law 771 = .ok (.aload_n 0, 1) := by decide +kernel
theorem dL_law_772 : decode cL_law 772 = .ok (.iload 4, 2) := by decide +kernel
theorem dL_law_774 : decode cL_law 774 = .ok (.iconst 3, 1) := by decide +kernel
theorem dL_law_775 : decode cL_law 775 = .ok (.iadd, 1) := by decide +kernel
theorem dL_law_776 : decode cL_law 776 = .ok (.iaload, 1) := by decide +kernel
theorem dL_law_777 : decode cL_law 777 = .ok (.invokevirtual 92, 3) := by decide +kernel
theorem dL_law_780 : decode cL_law 780 = .ok (.aload_n 2, 1) := by decide +kernel
theorem dL_law_781 : decode cL_law 781 = .ok (.aload_n 0, 1) := by decide +kernel
theorem dL_law_782 : decode cL_law 782 = .ok (.iload 4, 2) := by decide +kernel
theorem dL_law_784 : decode cL_law 784 = .ok (.iconst 1, 1) := by decide +kernel
theorem dL_law_785 : decode cL_law 785 = .ok (.iadd, 1) := by decide +kernel
theorem dL_law_786 : decode cL_law 786 = .ok (.iaload, 1) := by decide +kernel
theorem dL_law_787 : decode cL_law 787 = .ok (.aload_n 0, 1) := by decide +kernel
theorem dL_law_788 : decode cL_law 788 = .ok (.iload 4, 2) := by decide +kernel
theorem dL_law_790 : decode cL_law 790 = .ok (.iconst 2, 1) := by decide +kernel
theorem dL_law_791 : decode cL_law 791 = .ok (.iadd, 1) := by decide +kernel
theorem dL_law_792 : decode cL_law 792 = .ok (.iaload, 1) := by decide +kernel
theorem dL_law_793 : decode cL_law 793 = .ok (.aload_n 0, 1) := by decide +kernel
theorem dL_law_794 : decode cL_law 794 = .ok (.iload 4, 2) := by decide +kernel
theorem dL_law_796 : decode cL_law 796 = .ok (.iconst 3, 1) := by decide +kernel
theorem dL_law_797 : decode cL_law 797 = .ok (.iadd, 1) := by decide +kernel
theorem dL_law_798 : decode cL_law 798 = .ok (.iaload, 1) := by decide +kernel
theorem dL_law_799 : decode cL_law 799 = .ok (.invokevirtual 96, 3) := by decide +kernel
theorem dL_law_802 : decode cL_law 802 = .ok (.lcmp, 1) := by decide +kernel
theorem dL_law_803 : decode cL_law 803 = .ok (.ifCond .eq 440, 3) := by decide +kernel
theorem dL_law_806 : decode cL_law 806 = .ok (.iconst 0, 1) := by decide +kernel
theorem dL_law_807 : decode cL_law 807 = .ok (.ireturn, 1) := by decide +kernel
theorem dL_law_808 : decode cL_law 808 = .ok (.aload_n 1, 1) := by decide +kernel
theorem dL_law_809 : decode cL_law 809 = .ok (.aload_n 0, 1) := by decide +kernel
theorem dL_law_810 : decode cL_law 810 = .ok (.iload 4, 2) := by decide +kernel
theorem dL_law_812 : decode cL_law 812 = .ok (.iconst 1, 1) := by decide +kernel
theorem dL_law_813 : decode cL_law 813 = .ok (.iadd, 1) := by decide +kernel
theorem dL_law_814 : decode cL_law 814 = .ok (.iaload, 1) := by decide +kernel
theorem dL_law_815 : decode cL_law 815 = .ok (.invokevirtual 97, 3) := by decide +kernel
theorem dL_law_818 : decode cL_law 818 = .ok (.aload_n 2, 1) := by decide +kernel
theorem dL_law_819 : decode cL_law 819 = .ok (.aload_n 0, 1) := by decide +kernel
theorem dL_law_820 : decode cL_law 820 = .ok (.iload 4, 2) := by decide +kernel
theorem dL_law_822 : decode cL_law 822 = .ok (.iconst 1, 1) := by decide +kernel
theorem dL_law_823 : decode cL_law 823 = .ok (.iadd, 1) := by decide +kernel
theorem dL_law_824 : decode cL_law 824 = .ok (.iaload, 1) := by decide +kernel
theorem dL_law_825 : decode cL_law 825 = .ok (.invokevirtual 100, 3) := by decide +kernel
theorem dL_law_828 : decode cL_law 828 = .ok (.if_icmp .eq 415, 3) := by decide +kernel
theorem dL_law_831 : decode cL_law 831 = .ok (.iconst 0, 1) := by decide +kernel
theorem dL_law_832 : decode cL_law 832 = .ok (.ireturn, 1) := by decide +kernel
theorem dL_law_833 : decode cL_law 833 = .ok (.aload_n 1, 1) := by decide +kernel
theorem dL_law_834 : decode cL_law 834 = .ok (.aload_n 0, 1) := by decide +kernel
theorem dL_law_835 : decode cL_law 835 = .ok (.iload 4, 2) := by decide +kernel
theorem dL_law_837 : decode cL_law 837 = .ok (.iconst 1, 1) := by decide +kernel
theorem dL_law_838 : decode cL_law 838 = .ok (.iadd, 1) := by decide +kernel
theorem dL_law_839 : decode cL_law 839 = .ok (.iaload, 1) := by decide +kernel
theorem dL_law_840 : decode cL_law 840 = .ok (.invokevirtual 101, 3) := by decide +kernel
theorem dL_law_843 : decode cL_law 843 = .ok (.aload_n 2, 1) := by decide +kernel
theorem dL_law_844 : decode cL_law 844 = .ok (.aload_n 0, 1) := by decide +kernel
theorem dL_law_845 : decode cL_law 845 = .ok (.iload 4, 2) := by decide +kernel
theorem dL_law_847 : decode cL_law 847 = .ok (.iconst 1, 1) := by decide +kernel
theorem dL_law_848 : decode cL_law 848 = .ok (.iadd, 1) := by decide +kernel
theorem dL_law_849 : decode cL_law 849 = .ok (.iaload, 1) := by decide +kernel
theorem dL_law_850 : decode cL_law 850 = .ok (.invokevirtual 104, 3) := by decide +kernel
theorem dL_law_853 : decode cL_law 853 = .ok (.if_icmp .eq 390, 3) := by decide +kernel
theorem dL_law_856 : decode cL_law 856 = .ok (.iconst 0, 1) := by decide +kernel
theorem dL_law_857 : decode cL_law 857 = .ok (.ireturn, 1) := by decide +kernel
theorem dL_law_858 : decode cL_law 858 = .ok (.aload_n 1, 1) := by decide +kernel
theorem dL_law_859 : decode cL_law 859 = .ok (.aload_n 0, 1) := by decide +kernel
theorem dL_law_860 : decode cL_law 860 = .ok (.iload 4, 2) := by decide +kernel
theorem dL_law_862 : decode cL_law 862 = .ok (.iconst 1, 1) := by decide +kernel
theorem dL_law_863 : decode cL_law 863 = .ok (.iadd, 1) := by decide +kernel
theorem dL_law_864 : decode cL_law 864 = .ok (.iaload, 1) := by decide +kernel
theorem dL_law_865 : decode cL_law 865 = .ok (.invokevirtual 105, 3) := by decide +kernel
theorem dL_law_868 : decode cL_law 868 = .ok (.aload_n 2, 1) := by decide +kernel
theorem dL_law_869 : decode cL_law 869 = .ok (.aload_n 0, 1) := by decide +kernel
theorem dL_law_870 : decode cL_law 870 = .ok (.iload 4, 2) := by decide +kernel
theorem dL_law_872 : decode cL_law 872 = .ok (.iconst 1, 1) := by decide +kernel
theorem dL_law_873 : decode cL_law 873 = .ok (.iadd, 1) := by decide +kernel
theorem dL_law_874 : decode cL_law 874 = .ok (.iaload, 1) := by decide +kernel
theorem dL_law_875 : decode cL_law 875 = .ok (.invokevirtual 108, 3) := by decide +kernel
theorem dL_law_878 : decode cL_law 878 = .ok (.if_icmp .eq 365, 3) := by decide +kernel
theorem dL_law_881 : decode cL_law 881 = .ok (.iconst 0, 1) := by decide +kernel
theorem dL_law_882 : decode cL_law 882 = .ok (.ireturn, 1) := by decide +kernel
theorem dL_law_883 : decode cL_law 883 = .ok (.aload_n 1, 1) := by decide +kernel
theorem dL_law_884 : decode cL_law 884 = .ok (.aload_n 0, 1) := by decide +kernel
theorem dL_law_885 : decode cL_law 885 = .ok (.iload 4, 2) := by decide +kernel
theorem dL_law_887 : decode cL_law 887 = .ok (.iconst 1, 1) := by decide +kernel
theorem dL_law_888 : decode cL_law 888 = .ok (.iadd, 1) := by decide +kernel
theorem dL_law_889 : decode cL_law 889 = .ok (.iaload, 1) := by decide +kernel
theorem dL_law_890 : decode cL_law 890 = .ok (.aload_n 0, 1) := by decide +kernel
theorem dL_law_891 : decode cL_law 891 = .ok (.iload 4, 2) := by decide +kernel
theorem dL_law_893 : decode cL_law 893 = .ok (.iconst 2, 1) := by decide +kernel
theorem dL_law_894 : decode cL_law 894 = .ok (.iadd, 1) := by decide +kernel
theorem dL_law_895 : decode cL_law 895 = .ok (.iaload, 1) := by decide +kernel
theorem dL_law_896 : decode cL_law 896 = .ok (.invokevirtual 109, 3) := by decide +kernel
theorem dL_law_899 : decode cL_law 899 = .ok (.aload_n 2, 1) := by decide +kernel
theorem dL_law_900 : decode cL_law 900 = .ok (.aload_n 0, 1) := by decide +kernel
theorem dL_law_901 : decode cL_law 901 = .ok (.iload 4, 2) := by decide +kernel
theorem dL_law_903 : decode cL_law 903 = .ok (.iconst 1, 1) := by decide +kernel
theorem dL_law_904 : decode cL_law 904 = .ok (.iadd, 1) := by decide +kernel
theorem dL_law_905 : decode cL_law 905 = .ok (.iaload, 1) := by decide +kernel
theorem dL_law_906 : decode cL_law 906 = .ok (.aload_n 0, 1) := by decide +kernel
theorem dL_law_907 : decode cL_law 907 = .ok (.iload 4, 2) := by decide +kernel
theorem dL_law_909 : decode cL_law 909 = .ok (.iconst 2, 1) := by decide +kernel
theorem dL_law_910 : decode cL_law 910 = .ok (.iadd, 1) := by decide +kernel
theorem dL_law_911 : decode cL_law 911 = .ok (.iaload, 1) := by decide +kernel
theorem dL_law_912 : decode cL_law 912 = .ok (.invokevirtual 112, 3) := by decide +kernel
theorem dL_law_915 : decode cL_law 915 = .ok (.if_icmp .eq 328, 3) := by decide +kernel
theorem dL_law_918 : decode cL_law 918 = .ok (.iconst 0, 1) := by decide +kernel
theorem dL_law_919 : decode cL_law 919 = .ok (.ireturn, 1) := by decide +kernel
theorem dL_law_920 : decode cL_law 920 = .ok (.aload_n 1, 1) := by decide +kernel
theorem dL_law_921 : decode cL_law 921 = .ok (.aload_n 0, 1) := by decide +kernel
theorem dL_law_922 : decode cL_law 922 = .ok (.iload 4, 2) := by decide +kernel
theorem dL_law_924 : decode cL_law 924 = .ok (.iconst 1, 1) := by decide +kernel
theorem dL_law_925 : decode cL_law 925 = .ok (.iadd, 1) := by decide +kernel
theorem dL_law_926 : decode cL_law 926 = .ok (.iaload, 1) := by decide +kernel
theorem dL_law_927 : decode cL_law 927 = .ok (.aload_n 0, 1) := by decide +kernel
theorem dL_law_928 : decode cL_law 928 = .ok (.iload 4, 2) := by decide +kernel
theorem dL_law_930 : decode cL_law 930 = .ok (.iconst 2, 1) := by decide +kernel
theorem dL_law_931 : decode cL_law 931 = .ok (.iadd, 1) := by decide +kernel
theorem dL_law_932 : decode cL_law 932 = .ok (.iaload, 1) := by decide +kernel
theorem dL_law_933 : decode cL_law 933 = .ok (.invokevirtual 113, 3) := by decide +kernel
theorem dL_law_936 : decode cL_law 936 = .ok (.aload_n 2, 1) := by decide +kernel
theorem dL_law_937 : decode cL_law 937 = .ok (.aload_n 0, 1) := by decide +kernel
theorem dL_law_938 : decode cL_law 938 = .ok (.iload 4, 2) := by decide +kernel
theorem dL_law_940 : decode cL_law 940 = .ok (.iconst 1, 1) := by decide +kernel
theorem dL_law_941 : decode cL_law 941 = .ok (.iadd, 1) := by decide +kernel
theorem dL_law_942 : decode cL_law 942 = .ok (.iaload, 1) := by decide +kernel
theorem dL_law_943 : decode cL_law 943 = .ok (.aload_n 0, 1) := by decide +kernel
theorem dL_law_944 : decode cL_law 944 = .ok (.iload 4, 2) := by decide +kernel
theorem dL_law_946 : decode cL_law 946 = .ok (.iconst 2, 1) := by decide +kernel
theorem dL_law_947 : decode cL_law 947 = .ok (.iadd, 1) := by decide +kernel
theorem dL_law_948 : decode cL_law 948 = .ok (.iaload, 1) := by decide +kernel
theorem dL_law_949 : decode cL_law 949 = .ok (.invokevirtual 116, 3) := by decide +kernel
theorem dL_law_952 : decode cL_law 952 = .ok (.if_icmp .eq 291, 3) := by decide +kernel
theorem dL_law_955 : decode cL_law 955 = .ok (.iconst 0, 1) := by decide +kernel
theorem dL_law_956 : decode cL_law 956 = .ok (.ireturn, 1) := by decide +kernel
theorem dL_law_957 : decode cL_law 957 = .ok (.aload_n 1, 1) := by decide +kernel
theorem dL_law_958 : decode cL_law 958 = .ok (.invokevirtual 117, 3) := by decide +kernel
theorem dL_law_961 : decode cL_law 961 = .ok (.aload_n 2, 1) := by decide +kernel
theorem dL_law_962 : decode cL_law 962 = .ok (.invokevirtual 120, 3) := by decide +kernel
theorem dL_law_965 : decode cL_law 965 = .ok (.if_icmp .eq 278, 3) := by decide +kernel
theorem dL_law_968 : decode cL_law 968 = .ok (.iconst 0, 1) := by decide +kernel
theorem dL_law_969 : decode cL_law 969 = .ok (.ireturn, 1) := by decide +kernel
theorem dL_law_970 : decode cL_law 970 = .ok (.aload_n 1, 1) := by decide +kernel
theorem dL_law_971 : decode cL_law 971 = .ok (.aload_n 0, 1) := by decide +kernel
theorem dL_law_972 : decode cL_law 972 = .ok (.iload 4, 2) := by decide +kernel
theorem dL_law_974 : decode cL_law 974 = .ok (.iconst 1, 1) := by decide +kernel
theorem dL_law_975 : decode cL_law 975 = .ok (.iadd, 1) := by decide +kernel
theorem dL_law_976 : decode cL_law 976 = .ok (.iaload, 1) := by decide +kernel
theorem dL_law_977 : decode cL_law 977 = .ok (.invokevirtual 121, 3) := by decide +kernel
theorem dL_law_980 : decode cL_law 980 = .ok (.aload_n 2, 1) := by decide +kernel
theorem dL_law_981 : decode cL_law 981 = .ok (.aload_n 0, 1) := by decide +kernel
theorem dL_law_982 : decode cL_law 982 = .ok (.iload 4, 2) := by decide +kernel
theorem dL_law_984 : decode cL_law 984 = .ok (.iconst 1, 1) := by decide +kernel
theorem dL_law_985 : decode cL_law 985 = .ok (.iadd, 1) := by decide +kernel
theorem dL_law_986 : decode cL_law 986 = .ok (.iaload, 1) := by decide +kernel
theorem dL_law_987 : decode cL_law 987 = .ok (.invokevirtual 124, 3) := by decide +kernel
theorem dL_law_990 : decode cL_law 990 = .ok (.if_icmp .eq 253, 3) := by decide +kernel
theorem dL_law_993 : decode cL_law 993 = .ok (.iconst 0, 1) := by decide +kernel
theorem dL_law_994 : decode cL_law 994 = .ok (.ireturn, 1) := by decide +kernel
theorem dL_law_995 : decode cL_law 995 = .ok (.aload_n 1, 1) := by decide +kernel
theorem dL_law_996 : decode cL_law 996 = .ok (.aload_n 0, 1) := by decide +kernel
theorem dL_law_997 : decode cL_law 997 = .ok (.iload 4, 2) := by decide +kernel
theorem dL_law_999 : decode cL_law 999 = .ok (.iconst 1, 1) := by decide +kernel
theorem dL_law_1000 : decode cL_law 1000 = .ok (.iadd, 1) := by decide +kernel
theorem dL_law_1001 : decode cL_law 1001 = .ok (.iaload, 1) := by decide +kernel
theorem dL_law_1002 : decode cL_law 1002 = .ok (.invokevirtual 125, 3) := by decide +kernel
theorem dL_law_1005 : decode cL_law 1005 = .ok (.aload_n 2, 1) := by decide +kernel
theorem dL_law_1006 : decode cL_law 1006 = .ok (.aload_n 0, 1) := by decide +kernel
theorem dL_law_1007 : decode cL_law 1007 = .ok (.iload 4, 2) := by decide +kernel
theorem dL_law_1009 : decode cL_law 1009 = .ok (.iconst 1, 1) := by decide +kernel
theorem dL_law_1010 : decode cL_law 1010 = .ok (.iadd, 1) := by decide +kernel
theorem dL_law_1011 : decode cL_law 1011 = .ok (.iaload, 1) := by decide +kernel
theorem dL_law_1012 : decode cL_law 1012 = .ok (.invokevirtual 128, 3) := by decide +kernel
theorem dL_law_1015 : decode cL_law 1015 = .ok (.if_icmp .eq 228, 3) := by decide +kernel
theorem dL_law_1018 : decode cL_law 1018 = .ok (.iconst 0, 1) := by decide +kernel
theorem dL_law_1019 : decode cL_law 1019 = .ok (.ireturn, 1) := by decide +kernel
theorem dL_law_1020 : decode cL_law 1020 = .ok (.aload_n 1, 1) := by decide +kernel
theorem dL_law_1021 : decode cL_law 1021 = .ok (.aload_n 0, 1) := by decide +kernel
theorem dL_law_1022 : decode cL_law 1022 = .ok (.iload 4, 2) := by decide +kernel
theorem dL_law_1024 : decode cL_law 1024 = .ok (.iconst 1, 1) := by decide +kernel
theorem dL_law_1025 : decode cL_law 1025 = .ok (.iadd, 1) := by decide +kernel
theorem dL_law_1026 : decode cL_law 1026 = .ok (.iaload, 1) := by decide +kernel
theorem dL_law_1027 : decode cL_law 1027 = .ok (.invokevirtual 129, 3) := by decide +kernel
theorem dL_law_1030 : decode cL_law 1030 = .ok (.aload_n 2, 1) := by decide +kernel
theorem dL_law_1031 : decode cL_law 1031 = .ok (.aload_n 0, 1) := by decide +kernel
theorem dL_law_1032 : decode cL_law 1032 = .ok (.iload 4, 2) := by decide +kernel
theorem dL_law_1034 : decode cL_law 1034 = .ok (.iconst 1, 1) := by decide +kernel
theorem dL_law_1035 : decode cL_law 1035 = .ok (.iadd, 1) := by decide +kernel
theorem dL_law_1036 : decode cL_law 1036 = .ok (.iaload, 1) := by decide +kernel
theorem dL_law_1037 : decode cL_law 1037 = .ok (.invokevirtual 132, 3) := by decide +kernel
theorem dL_law_1040 : decode cL_law 1040 = .ok (.if_icmp .eq 203, 3) := by decide +kernel
theorem dL_law_1043 : decode cL_law 1043 = .ok (.iconst 0, 1) := by decide +kernel
theorem dL_law_1044 : decode cL_law 1044 = .ok (.ireturn, 1) := by decide +kernel
theorem dL_law_1045 : decode cL_law 1045 = .ok (.aload_n 1, 1) := by decide +kernel
theorem dL_law_1046 : decode cL_law 1046 = .ok (.aload_n 0, 1) := by decide +kernel
theorem dL_law_1047 : decode cL_law 1047 = .ok (.iload 4, 2) := by decide +kernel
theorem dL_law_1049 : decode cL_law 1049 = .ok (.iconst 1, 1) := by decide +kernel
theorem dL_law_1050 : decode cL_law 1050 = .ok (.iadd, 1) := by decide +kernel
theorem dL_law_1051 : decode cL_law 1051 = .ok (.iaload, 1) := by decide +kernel
theorem dL_law_1052 : decode cL_law 1052 = .ok (.aload_n 0, 1) := by decide +kernel
theorem dL_law_1053 : decode cL_law 1053 = .ok (.iload 4, 2) := by decide +kernel
theorem dL_law_1055 : decode cL_law 1055 = .ok (.iconst 2, 1) := by decide +kernel
theorem dL_law_1056 : decode cL_law 1056 = .ok (.iadd, 1) := by decide +kernel
theorem dL_law_1057 : decode cL_law 1057 = .ok (.iaload, 1) := by decide +kernel
theorem dL_law_1058 : decode cL_law 1058 = .ok (.aload_n 0, 1) := by decide +kernel
theorem dL_law_1059 : decode cL_law 1059 = .ok (.iload 4, 2) := by decide +kernel
theorem dL_law_1061 : decode cL_law 1061 = .ok (.iconst 3, 1) := by decide +kernel
theorem dL_law_1062 : decode cL_law 1062 = .ok (.iadd, 1) := by decide +kernel
theorem dL_law_1063 : decode cL_law 1063 = .ok (.iaload, 1) := by decide +kernel
theorem dL_law_1064 : decode cL_law 1064 = .ok (.invokevirtual 133, 3) := by decide +kernel
theorem dL_law_1067 : decode cL_law 1067 = .ok (.aload_n 2, 1) := by decide +kernel
theorem dL_law_1068 : decode cL_law 1068 = .ok (.aload_n 0, 1) := by decide +kernel
theorem dL_law_1069 : decode cL_law 1069 = .ok (.iload 4, 2) := by decide +kernel
theorem dL_law_1071 : decode cL_law 1071 = .ok (.iconst 1, 1) := by decide +kernel
theorem dL_law_1072 : decode cL_law 1072 = .ok (.iadd, 1) := by decide +kernel
theorem dL_law_1073 : decode cL_law 1073 = .ok (.iaload, 1) := by decide +kernel
theorem dL_law_1074 : decode cL_law 1074 = .ok (.aload_n 0, 1) := by decide +kernel
theorem dL_law_1075 : decode cL_law 1075 = .ok (.iload 4, 2) := by decide +kernel
theorem dL_law_1077 : decode cL_law 1077 = .ok (.iconst 2, 1) := by decide +kernel
theorem dL_law_1078 : decode cL_law 1078 = .ok (.iadd, 1) := by decide +kernel
theorem dL_law_1079 : decode cL_law 1079 = .ok (.iaload, 1) := by decide +kernel
theorem dL_law_1080 : decode cL_law 1080 = .ok (.aload_n 0, 1) := by decide +kernel
theorem dL_law_1081 : decode cL_law 1081 = .ok (.iload 4, 2) := by decide +kernel
theorem dL_law_1083 : decode cL_law 1083 = .ok (.iconst 3, 1) := by decide +kernel
theorem dL_law_1084 : decode cL_law 1084 = .ok (.iadd, 1) := by decide +kernel
theorem dL_law_1085 : decode cL_law 1085 = .ok (.iaload, 1) := by decide +kernel
theorem dL_law_1086 : decode cL_law 1086 = .ok (.invokevirtual 137, 3) := by decide +kernel
theorem dL_law_1089 : decode cL_law 1089 = .ok (.if_icmp .eq 154, 3) := by decide +kernel
theorem dL_law_1092 : decode cL_law 1092 = .ok (.iconst 0, 1) := by decide +kernel
theorem dL_law_1093 : decode cL_law 1093 = .ok (.ireturn, 1) := by decide +kernel
theorem dL_law_1094 : decode cL_law 1094 = .ok (.aload_n 1, 1) := by decide +kernel
theorem dL_law_1095 : decode cL_law 1095 = .ok (.aload_n 0, 1) := by decide +kernel
theorem dL_law_1096 : decode cL_law 1096 = .ok (.iload 4, 2) := by decide +kernel
theorem dL_law_1098 : decode cL_law 1098 = .ok (.iconst 1, 1) := by decide +kernel
theorem dL_law_1099 : decode cL_law 1099 = .ok (.iadd, 1) := by decide +kernel
theorem dL_law_1100 : decode cL_law 1100 = .ok (.iaload, 1) := by decide +kernel
theorem dL_law_1101 : decode cL_law 1101 = .ok (.invokevirtual 138, 3) := by decide +kernel
theorem dL_law_1104 : decode cL_law 1104 = .ok (.aload_n 2, 1) := by decide +kernel
theorem dL_law_1105 : decode cL_law 1105 = .ok (.aload_n 0, 1) := by decide +kernel
theorem dL_law_1106 : decode cL_law 1106 = .ok (.iload 4, 2) := by decide +kernel
theorem dL_law_1108 : decode cL_law 1108 = .ok (.iconst 1, 1) := by decide +kernel
theorem dL_law_1109 : decode cL_law 1109 = .ok (.iadd, 1) := by decide +kernel
theorem dL_law_1110 : decode cL_law 1110 = .ok (.iaload, 1) := by decide +kernel
theorem dL_law_1111 : decode cL_law 1111 = .ok (.invokevirtual 141, 3) := by decide +kernel
theorem dL_law_1114 : decode cL_law 1114 = .ok (.if_icmp .eq 129, 3) := by decide +kernel
theorem dL_law_1117 : decode cL_law 1117 = .ok (.iconst 0, 1) := by decide +kernel
theorem dL_law_1118 : decode cL_law 1118 = .ok (.ireturn, 1) := by decide +kernel
theorem dL_law_1119 : decode cL_law 1119 = .ok (.aload_n 1, 1) := by decide +kernel
theorem dL_law_1120 : decode cL_law 1120 = .ok (.aload_n 0, 1) := by decide +kernel
theorem dL_law_1121 : decode cL_law 1121 = .ok (.iload 4, 2) := by decide +kernel
theorem dL_law_1123 : decode cL_law 1123 = .ok (.iconst 1, 1) := by decide +kernel
theorem dL_law_1124 : decode cL_law 1124 = .ok (.iadd, 1) := by decide +kernel
theorem dL_law_1125 : decode cL_law 1125 = .ok (.iaload, 1) := by decide +kernel
theorem dL_law_1126 : decode cL_law 1126 = .ok (.aload_n 0, 1) := by decide +kernel
theorem dL_law_1127 : decode cL_law 1127 = .ok (.iload 4, 2) := by decide +kernel
theorem dL_law_1129 : decode cL_law 1129 = .ok (.iconst 2, 1) := by decide +kernel
theorem dL_law_1130 : decode cL_law 1130 = .ok (.iadd, 1) := by decide +kernel
theorem dL_law_1131 : decode cL_law 1131 = .ok (.iaload, 1) := by decide +kernel
theorem dL_law_1132 : decode cL_law 1132 = .ok (.invokevirtual 142, 3) := by decide +kernel
theorem dL_law_1135 : decode cL_law 1135 = .ok (.aload_n 2, 1) := by decide +kernel
theorem dL_law_1136 : decode cL_law 1136 = .ok (.aload_n 0, 1) := by decide +kernel
theorem dL_law_1137 : decode cL_law 1137 = .ok (.iload 4, 2) := by decide +kernel
theorem dL_law_1139 : decode cL_law 1139 = .ok (.iconst 1, 1) := by decide +kernel
theorem dL_law_1140 : decode cL_law 1140 = .ok (.iadd, 1) := by decide +kernel
theorem dL_law_1141 : decode cL_law 1141 = .ok (.iaload, 1) := by decide +kernel
theorem dL_law_1142 : decode cL_law 1142 = .ok (.aload_n 0, 1) := by decide +kernel
theorem dL_law_1143 : decode cL_law 1143 = .ok (.iload 4, 2) := by decide +kernel
theorem dL_law_1145 : decode cL_law 1145 = .ok (.iconst 2, 1) := by decide +kernel
theorem dL_law_1146 : decode cL_law 1146 = .ok (.iadd, 1) := by decide +kernel
theorem dL_law_1147 : decode cL_law 1147 = .ok (.iaload, 1) := by decide +kernel
theorem dL_law_1148 : decode cL_law 1148 = .ok (.invokevirtual 145, 3) := by decide +kernel
theorem dL_law_1151 : decode cL_law 1151 = .ok (.if_icmp .eq 92, 3) := by decide +kernel
theorem dL_law_1154 : decode cL_law 1154 = .ok (.iconst 0, 1) := by decide +kernel
theorem dL_law_1155 : decode cL_law 1155 = .ok (.ireturn, 1) := by decide +kernel
theorem dL_law_1156 : decode cL_law 1156 = .ok (.aload_n 1, 1) := by decide +kernel
theorem dL_law_1157 : decode cL_law 1157 = .ok (.aload_n 0, 1) := by decide +kernel
theorem dL_law_1158 : decode cL_law 1158 = .ok (.iload 4, 2) := by decide +kernel
theorem dL_law_1160 : decode cL_law 1160 = .ok (.iconst 1, 1) := by decide +kernel
theorem dL_law_1161 : decode cL_law 1161 = .ok (.iadd, 1) := by decide +kernel
theorem dL_law_1162 : decode cL_law 1162 = .ok (.iaload, 1) := by decide +kernel
theorem dL_law_1163 : decode cL_law 1163 = .ok (.invokevirtual 146, 3) := by decide +kernel
theorem dL_law_1166 : decode cL_law 1166 = .ok (.aload_n 2, 1) := by decide +kernel
theorem dL_law_1167 : decode cL_law 1167 = .ok (.aload_n 0, 1) := by decide +kernel
theorem dL_law_1168 : decode cL_law 1168 = .ok (.iload 4, 2) := by decide +kernel
theorem dL_law_1170 : decode cL_law 1170 = .ok (.iconst 1, 1) := by decide +kernel
theorem dL_law_1171 : decode cL_law 1171 = .ok (.iadd, 1) := by decide +kernel
theorem dL_law_1172 : decode cL_law 1172 = .ok (.iaload, 1) := by decide +kernel
theorem dL_law_1173 : decode cL_law 1173 = .ok (.invokevirtual 149, 3) := by decide +kernel
theorem dL_law_1176 : decode cL_law 1176 = .ok (.if_icmp .eq 67, 3) := by decide +kernel
theorem dL_law_1179 : decode cL_law 1179 = .ok (.iconst 0, 1) := by decide +kernel
theorem dL_law_1180 : decode cL_law 1180 = .ok (.ireturn, 1) := by decide +kernel
theorem dL_law_1181 : decode cL_law 1181 = .ok (.aload_n 1, 1) := by decide +kernel
theorem dL_law_1182 : decode cL_law 1182 = .ok (.aload_n 0, 1) := by decide +kernel
theorem dL_law_1183 : decode cL_law 1183 = .ok (.iload 4, 2) := by decide +kernel
theorem dL_law_1185 : decode cL_law 1185 = .ok (.iconst 1, 1) := by decide +kernel
theorem dL_law_1186 : decode cL_law 1186 = .ok (.iadd, 1) := by decide +kernel
theorem dL_law_1187 : decode cL_law 1187 = .ok (.iaload, 1) := by decide +kernel
theorem dL_law_1188 : decode cL_law 1188 = .ok (.aload_n 0, 1) := by decide +kernel
theorem dL_law_1189 : decode cL_law 1189 = .ok (.iload 4, 2) := by decide +kernel
theorem dL_law_1191 : decode cL_law 1191 = .ok (.iconst 2, 1) := by decide +kernel
theorem dL_law_1192 : decode cL_law 1192 = .ok (.iadd, 1) := by decide +kernel
theorem dL_law_1193 : decode cL_law 1193 = .ok (.iaload, 1) := by decide +kernel
theorem dL_law_1194 : decode cL_law 1194 = .ok (.invokevirtual 150, 3) := by decide +kernel
theorem dL_law_1197 : decode cL_law 1197 = .ok (.aload_n 2, 1) := by decide +kernel
theorem dL_law_1198 : decode cL_law 1198 = .ok (.aload_n 0, 1) := by decide +kernel
theorem dL_law_1199 : decode cL_law 1199 = .ok (.iload 4, 2) := by decide +kernel
theorem dL_law_1201 : decode cL_law 1201 = .ok (.iconst 1, 1) := by decide +kernel
theorem dL_law_1202 : decode cL_law 1202 = .ok (.iadd, 1) := by decide +kernel
theorem dL_law_1203 : decode cL_law 1203 = .ok (.iaload, 1) := by decide +kernel
theorem dL_law_1204 : decode cL_law 1204 = .ok (.aload_n 0, 1) := by decide +kernel
theorem dL_law_1205 : decode cL_law 1205 = .ok (.iload 4, 2) := by decide +kernel
theorem dL_law_1207 : decode cL_law 1207 = .ok (.iconst 2, 1) := by decide +kernel
theorem dL_law_1208 : decode cL_law 1208 = .ok (.iadd, 1) := by decide +kernel
theorem dL_law_1209 : decode cL_law 1209 = .ok (.iaload, 1) := by decide +kernel
theorem dL_law_1210 : decode cL_law 1210 = .ok (.invokevirtual 153, 3) := by decide +kernel
theorem dL_law_1213 : decode cL_law 1213 = .ok (.if_icmp .eq 30, 3) := by decide +kernel
theorem dL_law_1216 : decode cL_law 1216 = .ok (.iconst 0, 1) := by decide +kernel
theorem dL_law_1217 : decode cL_law 1217 = .ok (.ireturn, 1) := by decide +kernel
theorem dL_law_1218 : decode cL_law 1218 = .ok (.aload_n 1, 1) := by decide +kernel
theorem dL_law_1219 : decode cL_law 1219 = .ok (.aload_n 0, 1) := by decide +kernel
theorem dL_law_1220 : decode cL_law 1220 = .ok (.iload 4, 2) := by decide +kernel
theorem dL_law_1222 : decode cL_law 1222 = .ok (.iconst 1, 1) := by decide +kernel
theorem dL_law_1223 : decode cL_law 1223 = .ok (.iadd, 1) := by decide +kernel
theorem dL_law_1224 : decode cL_law 1224 = .ok (.iaload, 1) := by decide +kernel
theorem dL_law_1225 : decode cL_law 1225 = .ok (.invokevirtual 154, 3) := by decide +kernel
theorem dL_law_1228 : decode cL_law 1228 = .ok (.aload_n 2, 1) := by decide +kernel
theorem dL_law_1229 : decode cL_law 1229 = .ok (.aload_n 0, 1) := by decide +kernel
theorem dL_law_1230 : decode cL_law 1230 = .ok (.iload 4, 2) := by decide +kernel
theorem dL_law_1232 : decode cL_law 1232 = .ok (.iconst 1, 1) := by decide +kernel
theorem dL_law_1233 : decode cL_law 1233 = .ok (.iadd, 1) := by decide +kernel
theorem dL_law_1234 : decode cL_law 1234 = .ok (.iaload, 1) := by decide +kernel
theorem dL_law_1235 : decode cL_law 1235 = .ok (.invokevirtual 157, 3) := by decide +kernel
theorem dL_law_1238 : decode cL_law 1238 = .ok (.if_icmp .eq 5, 3) := by decide +kernel
theorem dL_law_1241 : decode cL_law 1241 = .ok (.iconst 0, 1) := by decide +kernel
theorem dL_law_1242 : decode cL_law 1242 = .ok (.ireturn, 1) := by decide +kernel
theorem dL_law_1243 : decode cL_law 1243 = .ok (.iinc 4 6, 3) := by decide +kernel
theorem dL_law_1246 : decode cL_law 1246 = .ok (.goto (-1223), 3) := by decide +kernel
theorem dL_law_1249 : decode cL_law 1249 = .ok (.iconst 1, 1) := by decide +kernel
theorem dL_law_1250 : decode cL_law 1250 = .ok (.ireturn, 1) := by decide +kernel
